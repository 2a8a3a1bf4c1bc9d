/-! end(), put together -/
def exT (T : AT) (m : Nat) (x : Int32) : AT := (aN T, aS T, aV T, aM T, aP T, upd (aE T) m x, aH T)
def ehT (T : AT) (m : Nat) : AT := (aN T, aS T, aV T, aM T, aP T, aE T, va_up (aH T) m true)
theorem MbR_E {mb : MbS} {T : AT} {rl : List Nat} (h : MbR mb T rl) (m : Nat) (x : Int32) : MbR (mbE mb m x) (exT T m x) rl := by
  obtain ⟨h1, h2, h3, h4, h5⟩ := h
  refine ⟨h1, ?_, h3, h4, h5⟩
  intro q hq
  obtain ⟨a1, a2, a3, a4, a5, a6, a7, a8⟩ := h2 q hq
  refine ⟨a1, a2, a3, ?_, a5, a6, a7, a8⟩
  show upd _ _ _ _ = upd _ _ _ _
  by_cases e : q = m
  · subst e; rw [upd_s, upd_s]
  · rw [upd_n e, upd_n e]; exact a4
theorem MbR_H {mb : MbS} {T : AT} {rl : List Nat} (h : MbR mb T rl) (m : Nat) : MbR (mbH mb m) (ehT T m) rl := by
  obtain ⟨h1, h2, h3, h4, h5⟩ := h
  refine ⟨h1, ?_, h3, h4, h5⟩
  intro q hq
  obtain ⟨a1, a2, a3, a4, a5, a6, a7, a8⟩ := h2 q hq
  refine ⟨a1, a2, a3, a4, ?_, a6, a7, a8⟩
  show upd _ _ _ _ = bi (va_up (aH T) m true q)
  by_cases e : q = m
  · subst e; rw [upd_s, up_s]; rfl
  · rw [upd_n e, up_n e]; exact a5
theorem shp_row {T : AT} {K n k : Nat} {rl : List Nat} {o : Option Nat} {x : Int32} (hk : k ≤ 3) (eS : aS T n = nI (13 + k)) (eP : aP T n = rl ++ o.toList) (eE : aE T n = if k = 1 then x else 0) (eH : aH T n = o.isSome) (hx : k = 1 → x = 0 ∨ x = 1 ∨ x = 2) (h3 : k = 3 → rl ≠ [] ∧ 2 ≤ (rl ++ o.toList).length) (ho : k ≠ 3 → o = none) (m0 : k = 0 → ∀ p ∈ rl, aM T p = -1) (m1 : k = 1 → ∀ (i p : Nat), rl[i]? = some p → (aM T p = 0 ∨ aM T p = 1 ∨ aM T p = 2) ∧ (i = 0 → aM T p ≠ 0)) (m2 : k = 2 → ∀ p ∈ rl, aM T p = 1 ∨ aM T p = 2) (m3 : k = 3 → ∀ (i p : Nat), rl[i]? = some p → if i = 0 then aM T p = -1 else ∃ q, q < K ∧ aM T p = nI q) (mo : ∀ p, o = some p → aM T p = -1) : shp T K n := by
  have hk4 : k = 0 ∨ k = 1 ∨ k = 2 ∨ k = 3 := by omega
  unfold shp
  rcases hk4 with rfl | rfl | rfl | rfl
  · have e0 := ho (by omega)
    subst e0
    have eS : aS T n = 13 := by rw [eS]; decide
    have eP : aP T n = rl := by rw [eP]; simp
    rw [eS, eP, eE, eH]
    refine ⟨⟨13, by omega, by decide⟩, ?_, ?_, ?_, ?_, ?_, ?_, ?_, ?_, ?_, ?_, ?_, ?_, ?_, ?_, fun _ _ _ => m0 rfl⟩ <;> simp
  · have e0 := ho (by omega)
    subst e0
    have eS : aS T n = 14 := by rw [eS]; decide
    have eP : aP T n = rl := by rw [eP]; simp
    rw [eS, eP, eE, eH]
    refine ⟨⟨14, by omega, by decide⟩, ?_, ?_, ?_, ?_, ?_, ?_, ?_, ?_, ?_, ?_, fun _ => ⟨m1 rfl, hx rfl⟩, ?_, ?_, ?_, ?_⟩ <;> simp
  · have e0 := ho (by omega)
    subst e0
    have eS : aS T n = 15 := by rw [eS]; decide
    have eP : aP T n = rl := by rw [eP]; simp
    rw [eS, eP, eE, eH]
    refine ⟨⟨15, by omega, by decide⟩, ?_, ?_, ?_, ?_, ?_, ?_, ?_, ?_, ?_, ?_, ?_, fun _ => ⟨m2 rfl, rfl⟩, ?_, ?_, ?_⟩ <;> simp
  · have eS : aS T n = 16 := by rw [eS]; decide
    rw [eS, eP, eE, eH]
    refine ⟨⟨16, by omega, by decide⟩, ?_, ?_, ?_, ?_, ?_, ?_, ?_, ?_, ?_, ?_, ?_, ?_, fun _ => ⟨(h3 rfl).2, ?_⟩, ?_, ?_⟩
    case refine_13 =>
      intro i p hp
      have hne := (h3 rfl).1
      by_cases hi : i < rl.length
      · rw [List.getElem?_append_left hi] at hp
        have := m3 rfl i p hp
        cases o with
        | none =>
          by_cases c : i = 0
          · rw [if_pos c] at this; rw [if_pos (Or.inl c)]; exact this
          · rw [if_neg c] at this
            rw [if_neg (by intro hh; rcases hh with hh | hh; exact c hh; simp at hh)]; exact this
        | some p0 =>
          by_cases c : i = 0
          · rw [if_pos c] at this; rw [if_pos (Or.inl c)]; exact this
          · rw [if_neg c] at this
            rw [if_neg (by intro hh; rcases hh with hh | hh; exact c hh; have h2 := hh.2; simp at h2; omega)]; exact this
      · rw [List.getElem?_append_right (by omega)] at hp
        cases o with
        | none => simp at hp
        | some p0 =>
          have hl := (List.getElem?_eq_some_iff.mp hp).1
          simp at hl
          have hi2 : i = rl.length := by omega
          subst hi2
          simp at hp
          subst hp
          rw [if_pos (Or.inr ⟨rfl, by simp⟩)]
          exact mo _ rfl
    all_goals simp
theorem Bld_row {kn : KnS} {tr tr' : TrS} {rw : RwS} {mb mb' : MbS} {K : Nat} {ab : Nat → Nat} {B : Nat → Nat → Bool} {T T' : AT} {ks ks' : List Nat} {fs fs' : Nat → Nat} {k : Nat} {rl : List Nat} {o : Option Nat} {x : Int32} (h : Bld kn tr rw mb K ab B T ks fs (some k) rl) (hn : aN T < 60)
    (n1 : aN T' = aN T + 1) (old : ∀ m, m < aN T → aS T' m = aS T m ∧ aV T' m = aV T m ∧ aM T' m = aM T m ∧ aP T' m = aP T m ∧ aE T' m = aE T m ∧ aH T' m = aH T m)
    (eS : aS T' (aN T) = nI (13 + k)) (eP : aP T' (aN T) = rl ++ o.toList) (eE : aE T' (aN T) = if k = 1 then x else 0) (eH : aH T' (aN T) = o.isSome) (eM : aM T' (aN T) = -1) (hx : k = 1 → x = 0 ∨ x = 1 ∨ x = 2) (h3 : k = 3 → rl ≠ [] ∧ 2 ≤ (rl ++ o.toList).length) (ho : k ≠ 3 → o = none) (hx0 : k = 0 ∨ k = 2 → x = 0) (hop : ∀ p, o = some p → p < aN T ∧ p ∉ ks ∧ p ∉ rl)
    (ek : ks' = ks ++ rl ++ o.toList) (ht : TrR tr' T' ks' fs' []) (hm : MbR mb' T' []) (hw : WT T') (hk : MkR mb' K ab) (htl : ∀ m, m < aN T → Tr_tail tr' m = Tr_tail tr m) (htn : Tr_tail tr' (aN T) = if k = 3 then nx o else x)
    (hdf : Tr_defaults tr' = if (!decide (k = 3) && ((!decide (k = 3) && rl.any (fun p => decide (aM T p = 2))) || decide (x = 2))) = true then Tr_defaults tr ||| lbit (aN T) else Tr_defaults tr) (hr : Mb_rowKind mb' = -1) : Bld kn tr' (-1, 0, 0, Rw_parts rw) mb' K ab B T' ks' fs' none [] := by
  have hB := h
  obtain ⟨b1, b2, b3, b4, b5, b6, b7, b8, b9, b10, b11, b12, b13⟩ := h
  obtain ⟨a0, a1, a2, a3, a4, a5, a6, a7, a8, c0, c1, c2, c3⟩ := b13
  have mk : ∀ p ∈ rl, aM T' p = aM T p := fun p hp => (old p (b8.2 p hp).1).2.2.1
  have hk4 : k = 0 ∨ k = 1 ∨ k = 2 ∨ k = 3 := by omega
  refine Bld_fin hB n1 old ht hm hw hk ⟨by simp, by simp⟩ ?_ htl ?_ ?_ ?_ ⟨rfl, rfl, rfl, hr, rfl⟩
  · refine shp_row a0 eS eP eE eH hx h3 ho ?_ ?_ ?_ ?_ ?_
    · intro e p hp; rw [mk p hp]; exact c0 e p hp
    · intro e i p hp; rw [mk p (List.mem_of_getElem? hp)]; exact c1 e i p hp
    · intro e p hp; rw [mk p hp]; exact c2 e p hp
    · intro e i p hp; rw [mk p (List.mem_of_getElem? hp)]; exact c3 e i p hp
    · intro p hp
      obtain ⟨q1, q2, q3⟩ := hop p hp
      rw [(old p q1).2.2.1]; exact b12 p q1 q2 q3
  · refine ⟨fun e14 => ?_, fun e16 => ?_⟩
    · have e1 : k = 1 := by
        rw [eS, show (14 : Int32) = nI 14 by decide, nI_eq (by omega) (by omega)] at e14; omega
      rw [htn, eE, if_neg (by omega), if_pos e1]
    · have e3 : k = 3 := by
        rw [eS, show (16 : Int32) = nI 16 by decide, nI_eq (by omega) (by omega)] at e16; omega
      rw [htn, if_pos e3, eH, eP]
      cases o with
      | none => rfl
      | some p => simp [nx]
  · intro m hm
    rw [hdf]
    have hany : rl.any (fun p => decide (aM T' p = 2)) = rl.any (fun p => decide (aM T p = 2)) := any_congr mk
    have hD : dfB T' (aN T) = (!decide (k = 3) && ((!decide (k = 3) && rl.any (fun p => decide (aM T p = 2))) || decide (x = 2))) := by
      unfold dfB
      rw [eS, eE, eP]
      rcases hk4 with rfl | rfl | rfl | rfl
      · have e0 := hx0 (Or.inl rfl)
        subst e0
        have : rl.any (fun p => decide (aM T p = 2)) = false := by
          rw [List.any_eq_false]
          intro p hp
          rw [c0 rfl p hp]; decide
        rw [this]; rfl
      · have e0 := ho (by omega)
        subst e0
        rw [← hany, show (nI (13 + 1) : Int32) = 14 by decide]
        simp [Bool.or_comm]
      · have e0 := ho (by omega)
        subst e0
        have e1 := hx0 (Or.inr rfl)
        subst e1
        rw [← hany, show (nI (13 + 2) : Int32) = 15 by decide]
        simp
      · rw [show (nI (13 + 3) : Int32) = 16 by decide]
        simp
    have h0 : lb (Tr_defaults tr) (aN T) = false := by rw [b11 _ (by omega)]; simp
    by_cases e : m = aN T
    · rw [if_pos e, hD, e]
      by_cases c : (!decide (k = 3) && ((!decide (k = 3) && rl.any (fun p => decide (aM T p = 2))) || decide (x = 2))) = true
      · rw [if_pos c, lb_or, lbit_lb (by omega), c]; simp
      · rw [if_neg c, h0]; simpa using c
    · rw [if_neg e]
      by_cases c : (!decide (k = 3) && ((!decide (k = 3) && rl.any (fun p => decide (aM T p = 2))) || decide (x = 2))) = true
      · rw [if_pos c, lb_or, lbit_lb (by omega)]; simp [e]
      · rw [if_neg c]
  · intro p hp hpk _
    by_cases e : p = aN T
    · subst e; exact eM
    · have hp2 : p < aN T := by omega
      rw [(old p hp2).2.2.1]
      rw [ek] at hpk
      refine b12 p hp2 (fun hh => hpk ?_) (fun hh => hpk ?_)
      · simp [hh]
      · simp [hh]
