theorem MbR_put {mb : MbS} {T : AT} {rl : List Nat} (h : MbR mb T rl) {p : Nat} (hp : p < aN T) (hf : ∀ q, q < aN T → p ∉ aP T q) (hpr : p ∉ rl) (hnd : rl.Nodup) (hdj : ∀ x ∈ rl, ∀ q, q < aN T → x ∉ aP T q) (z : Int32) : MbR (mbP mb p z rl.getLast?) (puT T p z) (rl ++ [p]) := by
  obtain ⟨h1, h2, h3, h4, h5⟩ := h
  have hlast : ∀ q0, rl.getLast? = some q0 → q0 ∈ rl := fun q0 h => List.mem_of_getLast? h
  have hnx : ∀ x, x ≠ p → (∀ q0, rl.getLast? = some q0 → x ≠ q0) → Mb_next (mbP mb p z rl.getLast?) x = Mb_next mb x := by
    intro x hx hq
    show (match rl.getLast? with | none => upd (Mb_next mb) p (-1) | some q => upd (upd (Mb_next mb) p (-1)) q (nI p)) x = _
    cases hg : rl.getLast? with
    | none => show upd _ _ _ _ = _; rw [upd_n hx]
    | some q0 => show upd _ _ _ _ = _; rw [upd_n (hq q0 hg), upd_n hx]
  refine ⟨h1, ?_, ?_, h4, ?_⟩
  · intro m hm
    obtain ⟨a1, a2, a3, a4, a5, a6, a7, a8⟩ := h2 m hm
    refine ⟨a1, a2, ?_, a4, a5, a6, a7, ?_⟩
    · show upd _ _ _ _ = upd _ _ _ _
      by_cases e : m = p
      · subst e; rw [upd_s, upd_s]
      · rw [upd_n e, upd_n e]; exact a3
    · show upd _ _ _ _ = _
      by_cases e : m = p
      · subst e; rw [upd_s, decide_eq_true (by simp)]; rfl
      · rw [upd_n e, a8]; simp [e]
  · intro m hm i x hx
    have hxm := List.mem_of_getElem? hx
    obtain ⟨b1, b2, b3⟩ := h3 m hm i x hx
    refine ⟨b1, ?_, b3⟩
    refine Eq.trans ?_ b2
    exact hnx x (fun e => by subst e; exact hf m hm hxm) (fun q0 hq0 e => by subst e; exact hdj x (hlast x hq0) m hm hxm)
  · intro i x hx
    by_cases hi : i < rl.length
    · rw [List.getElem?_append_left hi] at hx
      have hxr := List.mem_of_getElem? hx
      have hxp : x ≠ p := fun e => by subst e; exact hpr hxr
      by_cases hl : i + 1 < rl.length
      · rw [List.getElem?_append_left hl, ← h5 i x hx]
        refine hnx x hxp (fun q0 hq0 e => ?_)
        subst e
        rw [List.getLast?_eq_getElem?] at hq0
        have := (List.getElem?_inj hi hnd).mp (hx.trans hq0.symm)
        omega
      · have hl2 : i + 1 = rl.length := by omega
        rw [hl2, List.getElem?_append_right (Nat.le_refl _), Nat.sub_self]
        have hg : rl.getLast? = some x := by
          rw [List.getLast?_eq_getElem?, ← hl2]; simpa using hx
        show (match rl.getLast? with | none => upd (Mb_next mb) p (-1) | some q => upd (upd (Mb_next mb) p (-1)) q (nI p)) x = _
        rw [hg]
        show upd _ _ _ _ = _
        rw [upd_s]; rfl
    · rw [List.getElem?_append_right (by omega)] at hx
      have hi2 : i = rl.length := by
        have := (List.getElem?_eq_some_iff.mp hx).1
        simp at this; omega
      subst hi2
      simp at hx
      subst hx
      rw [List.getElem?_eq_none (by simp)]
      show (match rl.getLast? with | none => upd (Mb_next mb) p (-1) | some q => upd (upd (Mb_next mb) p (-1)) q (nI p)) p = _
      cases hg : rl.getLast? with
      | none => show upd _ _ _ _ = _; rw [upd_s]; rfl
      | some q0 =>
        have hz : p ≠ q0 := fun e => by subst e; exact hpr (hlast p hg)
        show upd _ _ _ _ = _; rw [upd_n hz, upd_s]; rfl
/-- the marks that a kind of row takes -/
def mkOK (K k len : Nat) (z : Int32) : Prop := (k = 0 → z = -1) ∧ (k = 1 → (z = 0 ∨ z = 1 ∨ z = 2) ∧ (len = 0 → z ≠ 0)) ∧ (k = 2 → z = 1 ∨ z = 2) ∧ (k = 3 → if len = 0 then z = -1 else ∃ q, q < K ∧ z = nI q)
theorem Bld_put {kn : KnS} {tr : TrS} {rw rw' : RwS} {mb : MbS} {K : Nat} {ab : Nat → Nat} {B : Nat → Nat → Bool} {T : AT} {ks : List Nat} {fs : Nat → Nat} {k : Nat} {rl : List Nat} (h : Bld kn tr rw mb K ab B T ks fs (some k) rl) {p : Nat} (hp : p < aN T) (hk : p ∉ ks) (hr : p ∉ rl) {z : Int32} (hz : mkOK K k rl.length z) (r1 : Rw_sort rw' = Rw_sort rw) (r2 : Rw_size rw' = nI (rl.length + 1)) (r3 : Rw_parts rw' = upd (Rw_parts rw) rl.length (nI p)) (r4 : Rw_hasDefault rw' = bi (!decide (k = 3) && (anyD T rl || decide (z = 2)))) :
    Bld kn (trP tr p z) rw' (mbP mb p z rl.getLast?) K ab B (puT T p z) ks fs (some k) (rl ++ [p]) := by
  obtain ⟨b1, b2, b3, b4, b5, b6, b7, b8, b9, b10, b11, b12, b13⟩ := h
  obtain ⟨a0, a1, a2, a3, a4, a5, a6, a7, a8, c0, c1, c2, c3⟩ := b13
  have hf : ∀ q, q < aN T → p ∉ aP T q := fun q hq hpq => hk (TrR_sub b5 q hq p hpq)
  have mo : ∀ {x}, x ≠ p → aM (puT T p z) x = aM T x := fun {x} e => upd_n e
  have mp : aM (puT T p z) p = z := upd_s
  have mr : ∀ x ∈ rl, aM (puT T p z) x = aM T x := fun x hx => mo (fun e => by subst e; exact hr hx)
  have mpt : ∀ m, m < aN T → ∀ x ∈ aP T m, aM (puT T p z) x = aM T x := fun m hm x hx => mo (fun e => by subst e; exact hf m hm hx)
  have idx : ∀ (i x : Nat), (rl ++ [p])[i]? = some x → (i < rl.length ∧ rl[i]? = some x) ∨ (i = rl.length ∧ x = p) := by
    intro i x hx
    by_cases hi : i < rl.length
    · rw [List.getElem?_append_left hi] at hx; exact Or.inl ⟨hi, hx⟩
    · rw [List.getElem?_append_right (by omega)] at hx
      have hi2 : i = rl.length := by
        have := (List.getElem?_eq_some_iff.mp hx).1
        simp at this; omega
      subst hi2
      simp at hx
      exact Or.inr ⟨rfl, hx.symm⟩
  refine ⟨b1, b2, b3, b4, TrR_put b5 hp z, MbR_put b6 hp hf hr b8.1 (fun x hx q hq hxq => (b8.2 x hx).2 (TrR_sub b5 q hq x hxq)) z, b7, ⟨?_, ?_⟩, ?_, b10, ?_, ?_, ?_⟩
  · rw [List.nodup_append]
    refine ⟨b8.1, by simp, ?_⟩
    intro a ha b hb
    simp at hb; subst hb
    intro e; subst e; exact hr ha
  · intro x hx
    rcases List.mem_append.mp hx with hx | hx
    · exact b8.2 x hx
    · simp at hx; subst hx; exact ⟨hp, hk⟩
  · intro m hm
    exact shp_congr (b9 m hm) (Nat.le_refl _) rfl rfl rfl rfl rfl (mpt m hm)
  · intro m hm
    show lb (Tr_defaults tr) m = _
    rw [b11 m hm]
    show (decide (m < aN T) && _) = (decide (m < aN T) && _)
    by_cases hm2 : m < aN T
    · unfold dfB
      show _ = (decide (m < aN T) && ((decide (aS T m = 14) || decide (aS T m = 15)) && (decide (aE T m = 2) || (aP T m).any (fun q => decide (aM (puT T p z) q = 2)))))
      rw [any_congr (mpt m hm2)]
    · simp [hm2]
  · intro x hx hxk hxr
    have hxp : x ≠ p := fun e => by subst e; exact hxr (by simp)
    rw [mo hxp]
    exact b12 x hx hxk (fun hh => hxr (List.mem_append_left _ hh))
  · refine ⟨a0, r1.trans a1, by rw [r2]; simp, ?_, ?_, a5, ?_, ?_, ?_, ?_, ?_, ?_, ?_⟩
    · intro i x hx
      rw [r3]
      rcases idx i x hx with ⟨hi, hx⟩ | ⟨rfl, rfl⟩
      · rw [upd_n (by omega)]; exact a3 i x hx
      · rw [upd_s]
    · rw [r4, List.any_append, any_congr mr]
      simp [anyD, mp]
    · show Mb_rowCount mb + 1 = _
      rw [a6, nI_1]; simp
    · show (match rl.getLast? with | none => nI p | some _ => Mb_rowFirst mb) = _
      cases hg : rl with
      | nil => rfl
      | cons y ys =>
        cases hh : (y :: ys).getLast? with
        | none => simp at hh
        | some q0 => show Mb_rowFirst mb = _; rw [a7, hg]; rfl
    · show nI p = _
      rw [List.getLast?_concat]; rfl
    · intro e x hx
      rcases List.mem_append.mp hx with hx | hx
      · rw [mr x hx]; exact c0 e x hx
      · simp at hx; subst hx; rw [mp]; exact hz.1 e
    · intro e i x hx
      rcases idx i x hx with ⟨hi, hx⟩ | ⟨rfl, rfl⟩
      · rw [mr x (List.mem_of_getElem? hx)]; exact c1 e i x hx
      · rw [mp]; exact hz.2.1 e
    · intro e x hx
      rcases List.mem_append.mp hx with hx | hx
      · rw [mr x hx]; exact c2 e x hx
      · simp at hx; subst hx; rw [mp]; exact hz.2.2.1 e
    · intro e i x hx
      rcases idx i x hx with ⟨hi, hx⟩ | ⟨rfl, rfl⟩
      · rw [mr x (List.mem_of_getElem? hx)]; exact c3 e i x hx
      · rw [mp]; exact hz.2.2.2 e
