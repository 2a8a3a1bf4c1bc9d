/-! TARGETS -/
theorem tgT_some {T : AT} (hw : WT T) {r x t : Nat} {l : List Nat} (hp : Pth T x l r) (h12 : ∀ q, q < aN T → aS T q = 12 → (aP T q).length = 1) (hs : aS T x = 10 ∨ aS T x = 11) (h : tgT T x l = some t) : ∃ l1 l2, l = l1 ++ t :: l2 ∧ (aS T x = 10 → (isLp (aS T t) = true ∨ aS T t = 12 ∨ aS T t = 14 ∨ aS T t = 15)) ∧ (aS T x = 11 → isLp (aS T t) = true) := by
  unfold tgT at h
  by_cases c : aV T x = -1
  · rw [if_pos c] at h
    obtain ⟨h1, l1, l2, h2, -⟩ := List.find?_eq_some_iff_append.mp h
    refine ⟨l1, l2, h2, ?_, ?_⟩
    · intro h10
      unfold stp at h1
      rw [Bool.or_eq_true] at h1
      rcases h1 with h1 | h1
      · exact Or.inl h1
      · simp at h1
        rcases h1.2 with h1 | h1
        · exact Or.inr (Or.inr (Or.inl h1))
        · exact Or.inr (Or.inr (Or.inr h1))
    · intro h11
      unfold stp at h1
      rw [Bool.or_eq_true] at h1
      rcases h1 with h1 | h1
      · exact h1
      · simp [h11] at h1
  · rw [if_neg c] at h
    cases hf : l.find? (fun q => decide (aS T q = 12) && decide (aV T q = aV T x)) with
    | none => rw [hf] at h; cases h
    | some q =>
      rw [hf] at h
      obtain ⟨h1, l1, l2, h2, -⟩ := List.find?_eq_some_iff_append.mp hf
      have hq12 : aS T q = 12 := by simp at h1; exact h1.1
      by_cases c1 : aS T x = 10
      · have h : (if aS T x = 10 then some q else _) = some t := h
        rw [if_pos c1] at h
        cases h
        exact ⟨l1, l2, h2, fun _ => Or.inr (Or.inl hq12), fun h11 => by rw [c1] at h11; exact absurd h11 (by decide)⟩
      · have h : (if aS T x = 10 then some q else (match (aP T q).head? with | none => none | some p => if isLp (aS T p) = true then some p else none)) = some t := h
        rw [if_neg c1] at h
        have hql := Pth_mem hw l x hp q (by rw [h2]; simp)
        have hlen := h12 q hql.2.2 hq12
        match hP : aP T q, hlen with
        | [p], _ =>
          rw [hP] at h
          have h : (if isLp (aS T p) = true then some p else none) = some t := h
          by_cases cl : isLp (aS T p) = true
          · rw [if_pos cl] at h
            cases h
            rw [h2] at hp
            rcases List.eq_nil_or_concat l1 with e | ⟨l1', z, e⟩
            · subst e
              have hxq : x ∈ aP T q := hp.2.1
              rw [hP] at hxq
              simp at hxq
              subst hxq
              rcases hs with hs | hs
              · exact absurd hs c1
              · rw [hs] at cl; exact absurd cl (by decide)
            · rw [List.concat_eq_append] at e
              subst e
              obtain ⟨y, y1, y2⟩ := (Pth_split _ _ _ _).mp hp
              obtain ⟨y', z1, z2⟩ := (Pth_split _ _ _ _).mp y1
              have e2 : z = y := z2.2.2
              subst e2
              have hzq : z ∈ aP T q := y2.2.1
              rw [hP] at hzq
              simp at hzq
              subst hzq
              exact ⟨l1', q :: l2, by rw [h2]; simp, fun h10 => absurd h10 c1, fun _ => cl⟩
          · rw [if_neg cl] at h; cases h
def jmp (T : AT) (x : Nat) : Bool := decide (aS T x = 10) || decide (aS T x = 11)
def TgP (T : AT) (r x : Nat) (v : Int32) : Prop := if jmp T x = true then ∃ l, Pth T x l r ∧ v = nx (tgT T x l) else v = -1
def lkG (lk : LkS) (g : ArS) : LkS := (Lk_root lk, Lk_length lk, Lk_order lk, Lk_waiting lk, g, Lk_faultCount lk, Lk_faultSort lk, Lk_faultNode lk, Lk_noteCount lk, Lk_noteNode lk)
theorem lk_isJump {tr : TrS} {T : AT} {ks : List Nat} {fs : Nat → Nat} {rl : List Nat} (h : TrR tr T ks fs rl) {x : Nat} (hx : x < aN T) : f_Lk_isJump (nI x) tr = some (bi (jmp T x)) := by
  have hn := h.2.1
  rw [f_Lk_isJump.eq_1, if_pos (inB_nI (by omega) (by decide)), if_pos (inB_nI (by omega) (by decide)), nI_clamp (by omega), (h.2.2.2.1 x hx).1]
  unfold jmp
  by_cases c : aS T x = 10
  · simp [c, bi]
  · by_cases c2 : aS T x = 11
    · simp [c2, bi]
    · simp [c, c2, bi]
theorem cl_find {tr : TrS} {T : AT} {ks : List Nat} {fs : Nat → Nat} {rl : List Nat} (h : TrR tr T ks fs rl) (hw : WT T) {N r : Nat} (hN : 100 < N) (hr : r < aN T) (h12 : ∀ q, q < aN T → aS T q = 12 → (aP T q).length = 1) {lk : LkS} (hk : Lk_root lk = nI r) (hl : Lk_length lk = nI (pre T r).length) (hod : OdR (Lk_order lk) (pre T r)) : ∀ (S O : List Nat) (g : ArS) (fuel : Nat), O ++ S = pre T r → (∀ x ∈ O, TgP T r x (g x)) → (∀ x, x < 60 → x ∉ O → g x = -1) → S.length < fuel →
    ∃ g', lp (f_Lk_findTargets_L6 N tr) fuel (nI O.length, lkG lk g) = some (lkG lk g') ∧ (∀ x ∈ pre T r, TgP T r x (g' x)) ∧ ∀ x, x < 60 → x ∉ pre T r → g' x = -1 := by
  have hn := h.2.1
  have hlr := pre_len hw hr
  intro S
  induction S with
  | nil =>
    intro O g fuel hO h1 h2 hf
    rw [List.append_nil] at hO
    subst hO
    match fuel, hf with
    | fuel + 1, _ =>
      refine ⟨g, ?_, h1, h2⟩
      show f_Lk_findTargets_L6 N tr _ _ = _
      rw [f_Lk_findTargets_L6.eq_1]
      show (if Lk_length lk ≤ nI (pre T r).length then _ else _) = _
      rw [hl, if_pos (nI_le (Nat.le_refl _) (by omega))]
  | cons x S ih =>
    intro O g fuel hO h1 h2 hf
    have hx : x ∈ pre T r := by rw [← hO]; simp
    have hxn := pre_lt hw hr hx
    have hOl : O.length < (pre T r).length := by rw [← hO]; simp
    have hox : Lk_order lk O.length = nI x := hod O.length x (by rw [← hO]; simp)
    have hxO : x ∉ O := by
      have := pre_nodup hw hr
      rw [← hO, List.nodup_append] at this
      intro hh
      exact this.2.2 x hh x List.mem_cons_self rfl
    match fuel, hf with
    | fuel + 1, hf =>
      have step : ∀ g', (∀ y ∈ O ++ [x], TgP T r y (g' y)) → (∀ y, y < 60 → y ∉ O ++ [x] → g' y = -1) → ∃ g'', lp (f_Lk_findTargets_L6 N tr) fuel (nI O.length + 1, lkG lk g') = some (lkG lk g'') ∧ (∀ x ∈ pre T r, TgP T r x (g'' x)) ∧ ∀ x, x < 60 → x ∉ pre T r → g'' x = -1 := by
        intro g' d1 d2
        have := ih (O ++ [x]) g' fuel (by rw [← hO]; simp) d1 d2 (by simpa using hf)
        rw [show (O ++ [x]).length = O.length + 1 by simp, ← nI_1] at this
        exact this
      show ∃ g', f_Lk_findTargets_L6 N tr _ _ = _ ∧ _
      rw [f_Lk_findTargets_L6.eq_1]
      show ∃ g', (if Lk_length lk ≤ nI O.length then _ else (if inB (nI O.length) 60 = true then ((f_Lk_isJump (Lk_order lk (nI O.length).toNatClampNeg) tr).bind fun y23 => (if y23 = 0 then lp (f_Lk_findTargets_L6 N tr) fuel (nI O.length + 1, lkG lk g) else ((f_Lk_targetOf N (Lk_order lk (nI O.length).toNatClampNeg) (lkG lk g) tr).bind fun y36 => (if inB (Lk_order lk (nI O.length).toNatClampNeg) 60 = true then lp (f_Lk_findTargets_L6 N tr) fuel (nI O.length + 1, lkG lk (upd g (Lk_order lk (nI O.length).toNatClampNeg).toNatClampNeg y36)) else none)))) else none)) = _ ∧ _
      rw [hl, if_neg (nI_ge hOl (by omega)), if_pos (inB_nI (by omega) (by decide)), nI_clamp (show O.length < 2 ^ 31 by omega), hox, lk_isJump h hxn]
      obtain ⟨l, hpl⟩ := Pth_ex hw hr _ x (Nat.le_refl _) hx
      have ht := cl_targetOf h hw hN hr (lk := lkG lk g) hk h12 hpl hxn
      simp only [Option.bind_some, b0]
      rw [ht]
      simp only [Option.bind_some]
      rw [if_pos (inB_nI (show x < 60 by omega) (by decide)), nI_clamp (show x < 2 ^ 31 by omega)]
      by_cases c : jmp T x = true
      · rw [if_pos c]
        refine step _ ?_ ?_
        · intro y hy
          by_cases e : y = x
          · subst e
            unfold TgP
            rw [if_pos c, upd_s]; exact ⟨l, hpl, rfl⟩
          · rw [upd_n e]
            rcases List.mem_append.mp hy with hy | hy
            · exact h1 y hy
            · simp at hy; exact absurd hy e
        · intro y hy hyn
          have e : y ≠ x := fun e => by subst e; exact hyn (by simp)
          rw [upd_n e]
          exact h2 y hy (fun hh => hyn (List.mem_append_left _ hh))
      · rw [if_neg c]
        refine step _ ?_ ?_
        · intro y hy
          by_cases e : y = x
          · subst e
            unfold TgP
            rw [if_neg c]; exact h2 y (by omega) hxO
          · rcases List.mem_append.mp hy with hy | hy
            · exact h1 y hy
            · simp at hy; exact absurd hy e
        · intro y hy hyn
          exact h2 y hy (fun hh => hyn (List.mem_append_left _ hh))
theorem cl_findTargets {tr : TrS} {T : AT} {ks : List Nat} {fs : Nat → Nat} {rl : List Nat} (h : TrR tr T ks fs rl) (hw : WT T) {N r : Nat} (hN : 100 < N) (hr : r < aN T) (h12 : ∀ q, q < aN T → aS T q = 12 → (aP T q).length = 1) {lk : LkS} (hk : Lk_root lk = nI r) (hl : Lk_length lk = nI (pre T r).length) (hod : OdR (Lk_order lk) (pre T r)) :
    ∃ g, f_Lk_findTargets N lk tr = some (lkG lk g) ∧ (∀ x ∈ pre T r, TgP T r x (g x)) ∧ ∀ x, x < 60 → x ∉ pre T r → g x = -1 := by
  have hlr := pre_len hw hr
  have hn := h.2.1
  rw [f_Lk_findTargets.eq_1, lk_forget hN]
  exact cl_find h hw hN hr h12 hk hl hod (pre T r) [] (fun j => if j < 60 then -1 else Lk_targets lk j) N rfl (fun x hx => by simp at hx) (fun x hx _ => by show (if x < 60 then (-1 : Int32) else _) = -1; rw [if_pos hx]) (by omega)
