/-! a part more, in the class -/
def lbit (n : Nat) : Int64 := (1 : Int64) <<< ((nI n).toInt64 &&& 63)
theorem lbit_lb {n : Nat} (h : n < 64) (i : Nat) : lb (lbit n) i = decide (i = n) := lb_one h i
def trD (tr : TrS) (m p c : Nat) : TrS := (Tr_size tr, nI (c + 1), Tr_taken tr ||| lbit p, Tr_defaults tr, Tr_sort tr, Tr_value tr, Tr_mark tr, upd (Tr_parent tr) p (nI m), upd (Tr_count tr) m (Tr_count tr m + 1), Tr_tail tr, vp_updL (Tr_partBits tr) m (Tr_partBits tr m ||| lbit p), upd (Tr_kids tr) c (nI p), Tr_first tr, upd (Tr_spot tr) p (nI c))
theorem tr_adopt {tr : TrS} {m p c : Nat} (hc : Tr_kidCount tr = nI c) (h1 : c < 60) (h2 : m < 60) (h3 : p < 60) : f_Tr_adopt (nI m) (nI p) tr = some (trD tr m p c) := by
  rw [f_Tr_adopt.eq_1, hc]
  simp only [inB_nI h1 (by decide : (60 : Nat) < 2 ^ 31), inB_nI h2 (by decide : (60 : Nat) < 2 ^ 31), inB_nI h3 (by decide : (60 : Nat) < 2 ^ 31), if_true, nI_clamp (show c < 2 ^ 31 by omega), nI_clamp (show m < 2 ^ 31 by omega), nI_clamp (show p < 2 ^ 31 by omega), nI_1]
  rfl
theorem TrR_ad {tr : TrS} {T : AT} {ks : List Nat} {fs : Nat → Nat} {rl : List Nat} {m p : Nat} (h : TrR tr T ks fs rl) (hm : m + 1 = aN T) (hp : p < aN T) (hk : p ∉ ks) (he : fs m + (aP T m).length = ks.length) : TrR (trD tr m p ks.length) (adT T m p) (ks ++ [p]) fs rl ∧ fs m + (aP (adT T m p) m).length = (ks ++ [p]).length := by
  have hsub := TrR_sub h
  obtain ⟨h1, h2, h3, h4, h5, h6, h7, h8, h9, h10, h11⟩ := h
  have hml : m < aN T := by omega
  refine ⟨⟨h1, h2, ?_, ?_, ?_, ?_, ?_, ?_, ?_, ?_, ?_⟩, ?_⟩
  · show nI (ks.length + 1) = nI (ks ++ [p]).length; simp
  · intro q hq
    have hq : q < aN T := hq
    obtain ⟨a1, a2, a3, a4, a5, a6, a7⟩ := h4 q hq
    refine ⟨a1, a2, a3, a4, ?_, ?_, ?_⟩
    · show upd (Tr_count tr) m (Tr_count tr m + 1) q = nI (va_up (aP T) m (aP T m ++ [p]) q).length
      by_cases e : q = m
      · subst e; rw [upd_s, up_s, a5, nI_1]; simp
      · rw [upd_n e, up_n e]; exact a5
    · intro x hx
      show lb (vp_updL (Tr_partBits tr) m (Tr_partBits tr m ||| lbit p) q) x = decide (x ∈ va_up (aP T) m (aP T m ++ [p]) q)
      by_cases e : q = m
      · subst e
        rw [updL_a, if_pos rfl, up_s, lb_or, a6 x hx, lbit_lb (by omega)]
        simp [List.mem_append]
      · rw [updL_a, if_neg e, up_n e]; exact a6 x hx
    · intro i hi
      show (ks ++ [p])[fs q + i]? = (va_up (aP T) m (aP T m ++ [p]) q)[i]?
      have hi : i < (va_up (aP T) m (aP T m ++ [p]) q).length := hi
      by_cases e : q = m
      · subst e
        rw [up_s] at hi ⊢
        rw [List.length_append] at hi
        by_cases hl : i < (aP T q).length
        · rw [List.getElem?_append_left hl, List.getElem?_append_left (by omega)]
          exact a7 i hl
        · have hi2 : i = (aP T q).length := by simp at hi; omega
          subst hi2
          rw [he, List.getElem?_append_right (Nat.le_refl _), List.getElem?_append_right (Nat.le_refl _)]
          simp
      · rw [up_n e] at hi ⊢
        have h0 := a7 i hi
        rw [List.getElem?_append_left]
        · exact h0
        · have : (aP T q)[i]? = some (aP T q)[i] := List.getElem?_eq_getElem hi
          rw [this] at h0
          exact (List.getElem?_eq_some_iff.mp h0).1
  · intro j x hx
    show upd (Tr_kids tr) ks.length (nI p) j = nI x ∧ upd (Tr_spot tr) p (nI ks.length) x = nI j
    by_cases hj : j < ks.length
    · rw [List.getElem?_append_left hj] at hx
      have hxk := List.mem_of_getElem? hx
      rw [upd_n (by omega), upd_n (fun e => by subst e; exact hk hxk)]
      exact h5 j x hx
    · rw [List.getElem?_append_right (by omega)] at hx
      have hj2 : j - ks.length = 0 := by
        have := (List.getElem?_eq_some_iff.mp hx).1
        simp at this; omega
      rw [hj2] at hx
      cases hx
      have e : j = ks.length := by omega
      subst e
      exact ⟨upd_s, upd_s⟩
  · rw [List.nodup_append]
    refine ⟨h6, by simp, ?_⟩
    intro a ha b hb
    simp at hb
    subst hb
    intro e; subst e; exact hk ha
  · intro x hx
    rcases List.mem_append.mp hx with hx | hx
    · exact h7 x hx
    · simp at hx; subst hx; exact hp
  · intro q hq x hx
    have hq : q < aN T := hq
    have hx : x ∈ va_up (aP T) m (aP T m ++ [p]) q := hx
    show upd (Tr_parent tr) p (nI m) x = nI q
    by_cases e : q = m
    · subst e
      rw [up_s] at hx
      by_cases ex : x = p
      · subst ex; rw [upd_s]
      · rw [upd_n ex]
        rcases List.mem_append.mp hx with hx | hx
        · exact h8 q hq x hx
        · simp at hx; exact absurd hx ex
    · rw [up_n e] at hx
      have hxk := hsub q hq x hx
      rw [upd_n (fun e => by subst e; exact hk hxk)]
      exact h8 q hq x hx
  · intro x hx hxk
    have hx : x < aN T := hx
    show upd (Tr_parent tr) p (nI m) x = -1
    have e : x ≠ p := fun e => by subst e; exact hxk (by simp)
    rw [upd_n e]
    exact h9 x hx (fun h => hxk (List.mem_append_left _ h))
  · intro x hx
    rcases List.mem_append.mp hx with hx | hx
    · obtain ⟨q, hq, hxq⟩ := h10 x hx
      refine ⟨q, hq, ?_⟩
      show x ∈ va_up (aP T) m (aP T m ++ [p]) q
      by_cases e : q = m
      · subst e; rw [up_s]; exact List.mem_append_left _ hxq
      · rw [up_n e]; exact hxq
    · simp at hx; subst hx
      refine ⟨m, hml, ?_⟩
      show x ∈ va_up (aP T) m (aP T m ++ [x]) m
      rw [up_s]; simp
  · intro x hx
    show lb (Tr_taken tr ||| lbit p) x = _
    rw [lb_or, h11 x hx, lbit_lb (by omega)]
    by_cases e : x = p
    · subst e; simp
    · simp [e]
  · show fs m + (va_up (aP T) m (aP T m ++ [p]) m).length = (ks ++ [p]).length
    rw [up_s]; simp; omega
theorem tr_isFree {tr : TrS} {T : AT} {ks : List Nat} {fs : Nat → Nat} {rl : List Nat} (h : TrR tr T ks fs rl) (x : Int32) : f_Tr_isFree x tr = some (bi (inB x (aN T) && !(decide (x.toNatClampNeg ∈ ks) || decide (x.toNatClampNeg ∈ rl)))) := by
  rw [f_Tr_isFree.eq_1, tr_has h.1 h.2.1]
  show (if bi _ = 0 then _ else _) = _
  rw [b0]
  by_cases hx : inB x (aN T) = true
  · rw [if_pos hx]
    have h2 := h.2.1
    obtain ⟨a, ha, rfl⟩ := inB_of hx (by omega)
    rw [isIn_eq _ (by omega), h.2.2.2.2.2.2.2.2.2.2 a (by omega), nI_clamp (by omega), hx]
    show (if bi _ = 0 then _ else _) = _
    rw [b0]
    cases (decide (a ∈ ks) || decide (a ∈ rl)) <;> rfl
  · rw [if_neg hx]
    have hf : inB x (aN T) = false := by simpa using hx
    rw [hf]; rfl
theorem tr_isFreeBlock {tr : TrS} {T : AT} {ks : List Nat} {fs : Nat → Nat} {rl : List Nat} (h : TrR tr T ks fs rl) (x : Int32) : f_Tr_isFreeBlock x tr = some (bi (inB x (aN T) && !(decide (x.toNatClampNeg ∈ ks) || decide (x.toNatClampNeg ∈ rl)) && decide (aS T x.toNatClampNeg = 13))) := by
  rw [f_Tr_isFreeBlock.eq_1, tr_isFree h]
  show (if bi _ = 0 then _ else _) = _
  rw [b0]
  by_cases hx : (inB x (aN T) && !(decide (x.toNatClampNeg ∈ ks) || decide (x.toNatClampNeg ∈ rl))) = true
  · rw [if_pos hx, hx]
    have hx1 : inB x (aN T) = true := by
      rw [Bool.and_eq_true] at hx; exact hx.1
    have h2 := h.2.1
    obtain ⟨a, ha, rfl⟩ := inB_of hx1 (by omega)
    rw [if_pos (inB_nI (by omega) (by decide)), nI_clamp (by omega), (h.2.2.2.1 a ha).1]
    by_cases e : aS T a = 13
    · rw [if_pos e]; simp [e, bi]
    · rw [if_neg e]; simp [e, bi]
  · rw [if_neg hx]
    have hf : (inB x (aN T) && !(decide (x.toNatClampNeg ∈ ks) || decide (x.toNatClampNeg ∈ rl))) = false := by simpa using hx
    rw [hf]; rfl
theorem tr_isFull {tr : TrS} {n : Nat} (h : Tr_size tr = nI n) (hn : n ≤ 60) : f_Tr_isFull tr = some (bi (decide (60 ≤ n))) := by
  rw [f_Tr_isFull.eq_1, h]
  have e : (60 : Int32) = nI 60 := by decide
  rw [e]
  by_cases h1 : n < 60
  · rw [if_pos (nI_lt h1 (by decide)), decide_eq_false (by omega)]; rfl
  · rw [if_neg (nI_nlt (by omega) (by omega)), decide_eq_true (by omega)]; rfl
