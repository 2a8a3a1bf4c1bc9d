/-! exits -/
def okP (T : AT) (cm : Nat → Bool) (t : Nat) (p : Nat) (l : List Nat) : Bool := match l with
  | [] => true
  | q :: l' => (if q ≠ t ∧ aS T q = 16 ∧ aH T q = true ∧ enT T q ≠ some p then (match enT T q with | some e => cm e | none => true) else true) && okP T cm t q l'
theorem Pth_uniq {T : AT} (hw : WT T) {t : Nat} : ∀ (l l' : List Nat) (x : Nat), Pth T x l t → Pth T x l' t → l = l' := by
  intro l
  induction l with
  | nil =>
    intro l' x h h'
    have h : x = t := h
    have := Pth_len hw l' x h'
    have : l'.length = 0 := by omega
    exact (List.length_eq_zero_iff.mp this).symm
  | cons q l ih =>
    intro l' x h h'
    cases l' with
    | nil =>
      have h' : x = t := h'
      have := Pth_len hw _ _ h
      simp only [List.length_cons] at this
      omega
    | cons q' l' =>
      have e := hw.2.2 q q' x h.1 h'.1 h.2.1 h'.2.1
      subst e
      rw [ih l' q h.2.2 h'.2.2]
def ExP (T : AT) (r : Nat) (tg : Nat → Int32) (rc cm : Nat → Bool) (s : Int32) (t : Nat) : Prop := ∃ j ∈ pre T r, aS T j = s ∧ tg j = nI t ∧ rc j = true ∧ ∃ l, Pth T j l t ∧ okP T cm t j l = true
section R
variable {mb : MbS} {mg : MgS} {K : Nat} {ab : Nat → Nat} {B : Nat → Nat → Bool} {T : AT} {rl : List Nat} {r N : Nat} {mx : MxS} {rc cm : Nat → Bool} {th : Nat → Nat → Bool}
theorem md_isEnding (hb : BldM mb mg K ab B T rl r) {p q : Nat} (hq : q < aN T) (hp : p ∈ aP T q) (hpr : p ≠ r) : f_Md_isEnding (nI p) mb mg = some (bi (decide (aS T q = 16) && decide (enT T q = some p))) := by
  obtain ⟨h, hw, h60, -, -, -, hr, hg, -⟩ := hb
  have hpl := hw.1 q hq p hp
  obtain ⟨l1, l2, hP⟩ := List.append_of_mem hp
  have hpar : Mb_partOf mb p = nI q := by
    obtain ⟨i, hi⟩ := List.getElem?_of_mem hp
    exact (h.2.2.1 q hq i p hi).1
  rw [f_Md_isEnding.eq_1, hg, if_neg (fun e => hpr ((nI_eq (by omega) (by omega)).mp e)), if_pos (inB_nI (by omega) (by decide)), if_pos (inB_nI (by omega) (by decide)), if_pos (inB_nI (by omega) (by decide)), nI_clamp (by omega), hpar, if_pos (inB_nI (by omega) (by decide)), if_pos (inB_nI (by omega) (by decide)), nI_clamp (by omega), (h.2.1 q hq).1, (h.2.1 q hq).2.2.2.2.1, b0, md_nextL h hq hP]
  by_cases c16 : aS T q = 16
  · rw [if_pos c16]
    by_cases cH : aH T q = true
    · rw [if_pos cH]
      have hen : enT T q = (aP T q).getLast? := by unfold enT; rw [if_pos cH]
      cases l2 with
      | nil =>
        have : enT T q = some p := by rw [hen, hP]; simp
        rw [show nx ([] : List Nat).head? = -1 from rfl, if_pos rfl]; simp [c16, this, bi]
      | cons z l2 =>
        have : enT T q ≠ some p := by
          rw [hen, hP]
          intro hh
          have hnd := hw.2.1 q hq
          rw [hP, List.nodup_append] at hnd
          have hin : p ∈ z :: l2 := by
            rw [List.getLast?_append, List.getLast?_cons_cons] at hh
            have : (z :: l2).getLast? = some p := by
              cases hz : (z :: l2).getLast? with
              | none => simp at hz
              | some w => rw [hz] at hh; simpa using hh
            exact List.mem_of_getLast? this
          exact (List.nodup_cons.mp hnd.2.1).1 hin
        have hzl := hw.1 q hq z (by rw [hP]; simp)
        show (if nI z = -1 then _ else _) = _
        rw [if_neg (nI_ne_m1 (by omega))]; simp [this, bi]
    · rw [if_neg cH]
      have : enT T q = none := by unfold enT; rw [if_neg cH]
      simp [this, bi]
  · rw [if_neg c16]; simp [c16, bi]
theorem md_exitL (hb : BldM mb mg K ab B T rl r) (hd : RdR mx T r rc cm th) {n t : Nat} (hn : n < aN T) (htr : t ≤ r) (htg : Mg_targets mg n = nI t) : ∀ (l : List Nat) (p fuel : Nat) (a : Bool), p ∈ pre T r → Pth T p l t → l.length < fuel →
    lp (f_Md_exits_L27 N (nI n) mb mg mx) fuel (bi a, nI p) = some (bi (a && okP T cm t p l)) := by
  have hb' := hb
  obtain ⟨h, hw, h60, -, -, hsh, hr, hg, -⟩ := hb
  intro l
  induction l with
  | nil =>
    intro p fuel a hp hP hf
    have hP : p = t := hP
    subst hP
    match fuel, hf with
    | fuel + 1, _ =>
      show f_Md_exits_L27 N _ mb mg mx _ _ = _
      rw [f_Md_exits_L27.eq_1]
      show (if bi a = 0 then (if bB (bi a) = true then some (bi a) else none) else (if inB (nI n) 60 = true then (if nI p = Mg_targets mg (nI n).toNatClampNeg then (if bB (bi a) = true then some (bi a) else none) else _) else none)) = _
      rw [if_pos (inB_nI (by omega) (by decide)), nI_clamp (by omega), htg, if_pos rfl, b0']
      cases a <;> rfl
  | cons q l ih =>
    intro p fuel a hp hP hf
    obtain ⟨hq, hpq, hP2⟩ := hP
    have h1 := hw.1 q hq p hpq
    have h2 := Pth_len hw l q hP2
    match fuel, hf with
    | fuel + 1, hf =>
      show f_Md_exits_L27 N _ mb mg mx _ _ = _
      cases a with
      | false =>
        rw [f_Md_exits_L27.eq_1]; rfl
      | true =>
        have hqp : q ∈ pre T r := Pth_pre hw hr [q] p q hp ⟨hq, hpq, rfl⟩ (by omega) (Or.inl (by omega))
        have ih1 := fun a => ih q fuel a hqp hP2 (by simpa using hf)
        have hup := md_up_n h hg (by omega) hq hpq (by omega) (show p ≠ r by omega)
        have e102 : ∀ z, f_Md_exits_b102 N (lp (f_Md_exits_L27 N (nI n) mb mg mx) fuel) (nI n) z (nI p) mb mg mx = lp (f_Md_exits_L27 N (nI n) mb mg mx) fuel (z, nI q) := fun z => by
          rw [f_Md_exits_b102.eq_1, hup]; rfl
        rw [f_Md_exits_L27.eq_1]
        simp only [e102, hup, Option.bind_some]
        rw [if_neg (by decide), if_pos (inB_nI (show n < 60 by omega) (by decide)), if_pos (inB_nI (show n < 60 by omega) (by decide)), nI_clamp (show n < 2 ^ 31 by omega), htg, if_neg (fun e => by have := (nI_eq (by omega) (by omega)).mp e; omega), if_pos (inB_nI (show q < 60 by omega) (by decide)), if_pos (inB_nI (show q < 60 by omega) (by decide)), if_pos (inB_nI (show q < 60 by omega) (by decide)), nI_clamp (show q < 2 ^ 31 by omega), (h.2.1 q hq).1, (h.2.1 q hq).2.2.2.2.1, md_isEnding hb' hq hpq (by omega), (h.2.1 q hq).2.2.2.2.2.2.1]
        simp only [Option.bind_some, b0]
        show _ = some (bi (true && ((if q ≠ t ∧ aS T q = 16 ∧ aH T q = true ∧ enT T q ≠ some p then (match enT T q with | some e => cm e | none => true) else true) && okP T cm t q l)))
        rw [Bool.true_and]
        by_cases ct : q = t
        · rw [if_pos (by rw [ct]), ih1, if_neg (fun hh => hh.1 ct)]
        · rw [if_neg (fun e => ct ((nI_eq (by omega) (by omega)).mp e))]
          by_cases c16 : aS T q = 16
          · rw [if_pos c16]
            by_cases cH : aH T q = true
            · rw [if_pos cH]
              have hen : enT T q = (aP T q).getLast? := by unfold enT; rw [if_pos cH]
              by_cases ce : enT T q = some p
              · rw [if_pos (by simp [c16, ce]), ih1, if_neg (fun hh => hh.2.2.2 ce)]
              · rw [if_neg (by simp [ce]), if_pos (show q ≠ t ∧ aS T q = 16 ∧ aH T q = true ∧ enT T q ≠ some p from ⟨ct, c16, cH, ce⟩), ← hen]
                cases he : enT T q with
                | none =>
                  have : (aP T q) ≠ [] := fun e => by rw [e] at hpq; simp at hpq
                  rw [hen] at he
                  exact absurd (List.getLast?_eq_none_iff.mp he) this
                | some e =>
                  have heP : e ∈ aP T q := by rw [hen] at he; exact List.mem_of_getLast? he
                  have hel := hw.1 q hq e heP
                  rw [nx_s, if_pos (inB_nI (show e < 60 by omega) (by decide)), nI_clamp (by omega), (hd e (pre_dn hw r hr q hqp e heP)).2.1, ih1]
            · rw [if_neg cH, ih1, if_neg (fun hh => cH hh.2.2.1)]
          · rw [if_neg c16, ih1, if_neg (fun hh => c16 hh.2.1)]
theorem md_exits (hb : BldM mb mg K ab B T rl r) (hN : 100 < N) (hd : RdR mx T r rc cm th) {j t : Nat} (hj : j ∈ pre T r) (hjm : jmp T j = true) (ht60 : t < 60) (htg : Mg_targets mg j = nI t) : ∃ z, f_Md_exits N (nI j) mb mg mx = some (bi z) ∧ (z = true ↔ rc j = true ∧ ∃ l, Pth T j l t ∧ okP T cm t j l = true) := by
  have hb' := hb
  obtain ⟨h, hw, h60, -, -, hsh, hr, hg, -, -, -, hT⟩ := hb
  have hjn := pre_lt hw hr hj
  have h12 : ∀ q, q < aN T → aS T q = 12 → (aP T q).length = 1 := fun q hq e => (hsh q hq).2.2.2.2.2.2.1 (by simp [e])
  have hT := hT j hj
  unfold TgP at hT
  rw [if_pos hjm] at hT
  obtain ⟨l, hpl, hx⟩ := hT
  have htt : tgT T j l = some t := by
    rw [htg] at hx
    cases ho : tgT T j l with
    | none => rw [ho] at hx; exact absurd hx (nI_ne_m1 (by omega))
    | some t' =>
      rw [ho] at hx
      have hs : aS T j = 10 ∨ aS T j = 11 := by simpa [jmp] using hjm
      obtain ⟨l1, l2, e, -⟩ := tgT_some hw hpl h12 hs ho
      have := Pth_mem hw l j hpl t' (by rw [e]; simp)
      have := (nI_eq (by omega) (by omega)).mp hx
      rw [this]
  have hs : aS T j = 10 ∨ aS T j = 11 := by simpa [jmp] using hjm
  obtain ⟨l1, l2, e, -⟩ := tgT_some hw hpl h12 hs htt
  have hp1 : Pth T j (l1 ++ [t]) t := by
    rw [e, show l1 ++ t :: l2 = (l1 ++ [t]) ++ l2 by simp] at hpl
    obtain ⟨y, y1, y2⟩ := (Pth_split _ _ _ _).mp hpl
    obtain ⟨y', z1, z2⟩ := (Pth_split _ _ _ _).mp y1
    have : t = y := z2.2.2
    subst this
    exact y1
  have htr : t ≤ r := (Pth_mem hw l j hpl t (by rw [e]; simp)).2.1
  have hl := Pth_len hw _ _ hp1
  have key := md_exitL (N := N) hb' hd hjn htr htg (l1 ++ [t]) j N true hj hp1 (by omega)
  rw [f_Md_exits.eq_1, if_pos (inB_nI (by omega) (by decide)), if_pos (inB_nI (by omega) (by decide)), nI_clamp (by omega), (hd j hj).1, b0, htg, if_neg (nI_ne_m1 (by omega)), f_Md_exits_b23.eq_1, f_Md_exits_b24.eq_1, f_Md_exits_b24.eq_1, show (1 : Int32) = bi true from rfl, key]
  by_cases c : rc j = true
  · rw [if_pos c]
    refine ⟨_, rfl, ?_⟩
    rw [Bool.true_and]
    constructor
    · intro hz; exact ⟨c, _, hp1, hz⟩
    · rintro ⟨-, l', p', hz⟩; rw [Pth_uniq hw _ _ _ hp1 p']; exact hz
  · rw [if_neg c]
    refine ⟨false, ?_, by simp [c]⟩
    match N, hN with
    | N + 1, _ =>
      show f_Md_exits_L27 _ (nI j) mb mg mx _ _ = _
      rw [f_Md_exits_L27.eq_1]; rfl
theorem md_isExit (hb : BldM mb mg K ab B T rl r) (hN : 100 < N) (hd : RdR mx T r rc cm th) {s : Int32} (hs : s = 10 ∨ s = 11) {t : Nat} (ht : t < 60) : ∃ z, f_Md_isExit N (nI t) s mb mg mx = some (bi z) ∧ (z = true ↔ ExP T r (Mg_targets mg) rc cm s t) := by
  have hb' := hb
  obtain ⟨h, hw, h60, -, -, hsh, hr, hg, hrt, -, hod, -⟩ := hb
  have hlr := pre_len hw hr
  have key : ∀ (l2 l1 : List Nat) (fuel : Nat), pre T r = l1 ++ l2 → (¬ ∃ j ∈ l1, aS T j = s ∧ Mg_targets mg j = nI t ∧ rc j = true ∧ ∃ l, Pth T j l t ∧ okP T cm t j l = true) → l2.length + 1 < fuel → ∃ z, lp (f_Md_isExit_L5 N (nI t) s mb mg mx) fuel (0, nI l1.length) = some (bi z) ∧ (z = true ↔ ExP T r (Mg_targets mg) rc cm s t) := by
    intro l2
    induction l2 with
    | nil =>
      intro l1 fuel hl hno hf
      rw [List.append_nil] at hl
      match fuel, hf with
      | fuel + 1, _ =>
        refine ⟨false, ?_, ?_⟩
        · show f_Md_isExit_L5 N _ s mb mg mx _ _ = _
          rw [f_Md_isExit_L5.eq_1]
          show (if Mg_rooted mg ≤ nI l1.length then (if bB (0 : Int32) = true then some 0 else none) else _) = _
          rw [hrt, hl, if_pos (nI_le (Nat.le_refl _) (by rw [← hl]; omega)), if_pos (by decide)]; rfl
        · rw [← hl] at hno
          constructor
          · intro hh; cases hh
          · intro hh; exact absurd hh hno
    | cons j l2 ih =>
      intro l1 fuel hl hno hf
      have hj : j ∈ pre T r := by rw [hl]; simp
      have hjn := pre_lt hw hr hj
      have hll : l1.length < (pre T r).length := by rw [hl]; simp
      have hox : Mg_order mg l1.length = nI j := hod l1.length j (by rw [hl]; simp)
      match fuel, hf with
      | fuel + 1, hf =>
        have hf2 : l2.length + 1 < fuel := by simpa using hf
        have e63 : ∀ z, f_Md_isExit_b63 N (lp (f_Md_isExit_L5 N (nI t) s mb mg mx) fuel) z (nI t) s (nI l1.length) mb mg mx = lp (f_Md_isExit_L5 N (nI t) s mb mg mx) fuel (z, nI (l1.length + 1)) := fun z => by
          rw [f_Md_isExit_b63.eq_1, nI_1]
        have hno2 : (¬ (aS T j = s ∧ Mg_targets mg j = nI t ∧ rc j = true ∧ ∃ l, Pth T j l t ∧ okP T cm t j l = true)) → ∃ z, lp (f_Md_isExit_L5 N (nI t) s mb mg mx) fuel (0, nI (l1.length + 1)) = some (bi z) ∧ (z = true ↔ ExP T r (Mg_targets mg) rc cm s t) := by
          intro hj2
          have := ih (l1 ++ [j]) fuel (by rw [hl]; simp) (by
            intro ⟨i, hi, hh⟩
            rcases List.mem_append.mp hi with hi | hi
            · exact hno ⟨i, hi, hh⟩
            · have : i = j := by simpa using hi
              subst this; exact hj2 hh) hf2
          rw [show (l1 ++ [j]).length = l1.length + 1 by simp] at this
          exact this
        have hun : lp (f_Md_isExit_L5 N (nI t) s mb mg mx) (fuel + 1) (0, nI l1.length) = _ := f_Md_isExit_L5.eq_1 N (nI t) s mb mg mx (lp (f_Md_isExit_L5 N (nI t) s mb mg mx) fuel) (0, nI l1.length)
        simp only [f_Md_isExit_b62.eq_1, e63] at hun
        rw [hrt, if_neg (nI_ge hll (by omega)), if_pos trivial, if_pos (inB_nI (show l1.length < 60 by omega) (by decide)), nI_clamp (show l1.length < 2 ^ 31 by omega), hox, if_pos (inB_nI (show j < 60 by omega) (by decide)), if_pos (inB_nI (show j < 60 by omega) (by decide)), nI_clamp (show j < 2 ^ 31 by omega), (h.2.1 j hjn).1] at hun
        rw [hun]
        by_cases c1 : aS T j = s
        · rw [if_pos c1]
          by_cases c2 : Mg_targets mg j = nI t
          · rw [if_pos c2]
            obtain ⟨z, z1, z2⟩ := md_exits hb' hN hd hj (by unfold jmp; rcases hs with rfl | rfl <;> simp [c1]) ht c2
            rw [z1]
            simp only [Option.bind_some, b0]
            by_cases c3 : z = true
            · rw [if_pos c3]
              refine ⟨true, ?_, ?_⟩
              · match fuel, hf2 with
                | fuel + 1, _ =>
                  show f_Md_isExit_L5 N _ s mb mg mx _ _ = _
                  rw [f_Md_isExit_L5.eq_1]
                  show (if Mg_rooted mg ≤ nI (l1.length + 1) then (if bB (1 : Int32) = true then some 1 else none) else (if (1 : Int32) = 0 then _ else (if bB (1 : Int32) = true then some 1 else none))) = _
                  rw [if_pos (show bB (1 : Int32) = true by decide), if_neg (show ¬ (1 : Int32) = 0 by decide)]
                  by_cases c : Mg_rooted mg ≤ nI (l1.length + 1)
                  · rw [if_pos c]; rfl
                  · rw [if_neg c]; rfl
              · have := z2.mp c3
                exact ⟨fun _ => ⟨j, hj, c1, c2, this⟩, fun _ => rfl⟩
            · rw [if_neg c3]
              exact hno2 (fun hh => c3 (z2.mpr hh.2.2))
          · rw [if_neg c2]
            exact hno2 (fun hh => c2 hh.2.1)
        · rw [if_neg c1]
          exact hno2 (fun hh => c1 hh.1)
  rw [f_Md_isExit.eq_1]
  exact key (pre T r) [] N rfl (by simp) (by omega)
end R
