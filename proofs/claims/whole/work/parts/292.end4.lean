/-- the row is closed: what stood in it is a part now -/
theorem TrR_close {tr : TrS} {T : AT} {ks : List Nat} {fs : Nat → Nat} {rl : List Nat} (h : TrR tr T ks fs rl) (hs : ∀ p ∈ rl, p ∈ ks) : TrR tr T ks fs [] := by
  obtain ⟨h1, h2, h3, h4, h5, h6, h7, h8, h9, h10, h11⟩ := h
  refine ⟨h1, h2, h3, h4, h5, h6, h7, h8, h9, h10, fun p hp => ?_⟩
  rw [h11 p hp]
  by_cases hk : p ∈ ks
  · simp [hk]
  · have : p ∉ rl := fun hh => hk (hs p hh)
    simp [hk, this]
/-- the class's tail and defaults alone change -/
def trT (tr : TrS) (m : Nat) (x : Int32) (d : Int64) : TrS := (Tr_size tr, Tr_kidCount tr, Tr_taken tr, d, Tr_sort tr, Tr_value tr, Tr_mark tr, Tr_parent tr, Tr_count tr, upd (Tr_tail tr) m x, Tr_partBits tr, Tr_kids tr, Tr_first tr, Tr_spot tr)
theorem TrR_T {tr : TrS} {T : AT} {ks : List Nat} {fs : Nat → Nat} {rl : List Nat} (h : TrR tr T ks fs rl) (m : Nat) (x : Int32) (d : Int64) : TrR (trT tr m x d) T ks fs rl := h
/-- no TRY: closeRow -/
theorem tr_closeRow {tr : TrS} {m : Nat} {x : Int32} {b : Bool} (hm : m < 60) (hs : Tr_sort tr m ≠ 16) : f_Tr_closeRow (nI m) x (bi b) tr = some (trT tr m x (if (b || decide (x = 2)) = true then Tr_defaults tr ||| lbit m else Tr_defaults tr)) := by
  rw [f_Tr_closeRow.eq_1, if_pos (inB_nI hm (by decide)), if_pos (inB_nI hm (by decide)), nI_clamp (by omega), if_neg hs, b0]
  by_cases hb : b = true
  · rw [if_pos hb, hb, f_Tr_closeRow_b41.eq_1]; rfl
  · rw [if_neg hb]
    have hb : b = false := by simpa using hb
    rw [hb]
    by_cases c : x = 2
    · rw [if_pos c, f_Tr_closeRow_b41.eq_1, c]; rfl
    · rw [if_neg c]; simp [c, trT]
theorem tr_closeTry {tr : TrS} {m : Nat} {b : Int32} (hm : m < 60) (hs : Tr_sort tr m = 16) : f_Tr_closeRow (nI m) (-1) b tr = some (trT tr m (-1) (Tr_defaults tr)) := by
  rw [f_Tr_closeRow.eq_1, if_pos (inB_nI hm (by decide)), if_pos (inB_nI hm (by decide)), nI_clamp (by omega), if_pos hs, if_pos rfl]; rfl
theorem tr_closeTry2 {tr : TrS} {m p : Nat} {b : Int32} (hm : m < 60) (hp : p < 60) (hs : Tr_sort tr m = 16) : f_Tr_closeRow (nI m) (nI p) b tr = f_Tr_adopt (nI m) (nI p) (trT tr m (nI p) (Tr_defaults tr)) := by
  rw [f_Tr_closeRow.eq_1, if_pos (inB_nI hm (by decide)), if_pos (inB_nI hm (by decide)), nI_clamp (by omega), if_pos hs, if_neg (nI_ne_m1 (by omega))]
  show (f_Tr_adopt (nI m) (nI p) (trT tr m (nI p) (Tr_defaults tr))).bind _ = _
  cases f_Tr_adopt (nI m) (nI p) (trT tr m (nI p) (Tr_defaults tr)) <;> rfl
