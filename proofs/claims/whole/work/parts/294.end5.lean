def mbE (mb : MbS) (m : Nat) (x : Int32) : MbS := (Mb_kinds mb, Mb_above mb, Mb_nodes mb, Mb_sort mb, Mb_given mb, Mb_partOf mb, Mb_mark mb, Mb_first mb, Mb_last mb, Mb_next mb, Mb_before mb, Mb_hasEnding mb, upd (Mb_endMark mb) m x, Mb_inRow mb, Mb_rowKind mb, Mb_rowFirst mb, Mb_rowLast mb, Mb_rowCount mb)
def mbH (mb : MbS) (m : Nat) : MbS := (Mb_kinds mb, Mb_above mb, Mb_nodes mb, Mb_sort mb, Mb_given mb, Mb_partOf mb, Mb_mark mb, Mb_first mb, Mb_last mb, Mb_next mb, Mb_before mb, upd (Mb_hasEnding mb) m 1, Mb_endMark mb, Mb_inRow mb, Mb_rowKind mb, Mb_rowFirst mb, Mb_rowLast mb, Mb_rowCount mb)
theorem mdE_0 {N m : Nat} {x : Int32} {mb : MbS} {mg : MgS} (h1 : Mb_rowKind mb ≠ 1) (h3 : Mb_rowKind mb ≠ 3) : mdE N x m mb mg = some (nI m, mbC mb, mg) := by
  unfold mdE
  rw [if_neg h1, f_Md_end_b92.eq_1, if_neg h3, f_Md_end_b118.eq_1]; rfl
theorem mdE_1 {N m : Nat} {x : Int32} {mb : MbS} {mg : MgS} (h1 : Mb_rowKind mb = 1) : mdE N x m mb mg = some (nI m, mbC (mbE mb m x), mg) := by
  unfold mdE
  rw [if_pos h1, f_Md_end_b92.eq_1]
  show (if Mb_rowKind mb = 3 then _ else _) = _
  rw [if_neg (by rw [h1]; decide), f_Md_end_b118.eq_1]; rfl
theorem mdE_3 {N m : Nat} {mb : MbS} {mg : MgS} (h1 : Mb_rowKind mb = 3) : mdE N (-1) m mb mg = some (nI m, mbC mb, mg) := by
  unfold mdE
  rw [if_neg (by rw [h1]; decide), f_Md_end_b92.eq_1, if_pos h1, if_pos rfl, f_Md_end_b118.eq_1]; rfl
theorem mdE_3p {N m p : Nat} {mb : MbS} {mg : MgS} {o : Option Nat} (h1 : Mb_rowKind mb = 3) (hm : m < 60) (hp : p < 60) (hl : Mb_last mb m = nx o) (ho : ∀ q, o = some q → q < 60) : mdE N (nI p) m mb mg = some (nI m, mbC (mbH (mbJ mb m p o) m), mg) := by
  unfold mdE
  rw [if_neg (by rw [h1]; decide), f_Md_end_b92.eq_1, if_pos h1, if_neg (nI_ne_m1 (by omega)), md_join hl ho hm hp]
  show (if inB (nI m) 60 = true then _ else none) = _
  rw [if_pos (inB_nI hm (by decide)), nI_clamp (by omega), nar1, f_Md_end_b118.eq_1]; rfl
