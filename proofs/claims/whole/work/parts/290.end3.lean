/-- the model's end, behind the loop -/
def mdE (N : Nat) (x : Int32) (m : Nat) (mb : MbS) (mg : MgS) : Option (Int32 × MbS × MgS) := (if (Mb_rowKind mb) = (1 : Int32) then f_Md_end_b92 N x (nI m) ((Mb_kinds mb), (Mb_above mb), (Mb_nodes mb), (Mb_sort mb), (Mb_given mb), (Mb_partOf mb), (Mb_mark mb), (Mb_first mb), (Mb_last mb), (Mb_next mb), (Mb_before mb), (Mb_hasEnding mb), (upd (Mb_endMark mb) m x), (Mb_inRow mb), (Mb_rowKind mb), (Mb_rowFirst mb), (Mb_rowLast mb), (Mb_rowCount mb)) mg else f_Md_end_b92 N x (nI m) mb mg)
theorem md_endL {N m : Nat} {x : Int32} {mg : MgS} (hm60 : m < 60) : ∀ (l : List Nat) (n : Nat) (mb : MbS) (T : AT), MbR mb T l → WT T → aN T ≤ 60 → m + 1 = aN T → l.Nodup → (∀ p ∈ l, p < m ∧ ∀ q, q < aN T → p ∉ aP T q) → l.length < n →
    ∃ mb', lp (f_Md_end_L52 N x (nI m)) n (nx l.head?, mb, mg) = mdE N x m mb' mg ∧ MbR mb' (adL T m l) [] ∧ WT (adL T m l) ∧ Mb_rowKind mb' = Mb_rowKind mb ∧ Mb_kinds mb' = Mb_kinds mb ∧ Mb_above mb' = Mb_above mb := by
  intro l
  induction l with
  | nil =>
    intro n mb T h1 hw hn hm h2 h3 h6
    match n, h6 with
    | n + 1, _ =>
      refine ⟨mb, ?_, h1, hw, rfl, rfl, rfl⟩
      show f_Md_end_L52 N x (nI m) (lp (f_Md_end_L52 N x (nI m)) n) (-1, mb, mg) = _
      rw [f_Md_end_L52.eq_1]
      show (if (-1 : Int32) = -1 then (if Mb_rowKind mb = 1 then (if inB (nI m) 60 = true then _ else none) else _) else _) = _
      rw [if_pos rfl, if_pos (inB_nI hm60 (by decide)), nI_clamp (by omega)]
      rfl
  | cons p l ih =>
    intro n mb T h1 hw hn hm h2 h3 h6
    match n, h6 with
    | n + 1, h6 =>
      have hpr := List.nodup_cons.mp h2
      obtain ⟨hp, hf⟩ := h3 p List.mem_cons_self
      have hnext : Mb_next mb p = nx l.head? := by
        rw [h1.2.2.2.2 0 p rfl, head0]; rfl
      have hlastm : Mb_last mb m = nx (aP T m).getLast? := (h1.2.1 m (by omega)).2.2.2.2.2.2.1
      have hlq : ∀ q, (aP T m).getLast? = some q → q < 60 := fun q hq => by
        have := hw.1 m (by omega) q (List.mem_of_getLast? hq); omega
      have m2 := MbR_ad (m := m) (p := p) (rl' := l) h1 hw (by omega) (by omega) hf hpr.1 (fun y _ hy => by simp [hy]) (fun i y hy => by
        have := h1.2.2.2.2 (i + 1) y (by simpa using hy)
        rw [show (p :: l)[i + 1 + 1]? = l[i + 1]? by simp] at this
        exact this) (fun y hy q hq => (h3 y (List.mem_cons_of_mem _ hy)).2 q hq)
      have w2 := WT_ad (m := m) (p := p) hw (by omega) hp hf
      obtain ⟨mb', e1, e2, e3, e4, e5, e6⟩ := ih n (mbJ mb m p (aP T m).getLast?) (adT T m p) m2 w2 hn hm hpr.2 (fun y hy => ⟨(h3 y (List.mem_cons_of_mem _ hy)).1, fun q hq hyq => by
        have hyq : y ∈ va_up (aP T) m (aP T m ++ [p]) q := hyq
        have hq : q < aN T := hq
        have hyf := (h3 y (List.mem_cons_of_mem _ hy)).2
        by_cases e : q = m
        · subst e
          rw [up_s] at hyq
          rcases List.mem_append.mp hyq with hh | hh
          · exact hyf q hq hh
          · simp at hh; subst hh; exact hpr.1 hy
        · rw [up_n e] at hyq; exact hyf q hq hyq⟩) (by simpa using h6)
      refine ⟨mb', ?_, e2, e3, e4, e5, e6⟩
      show f_Md_end_L52 N x (nI m) (lp (f_Md_end_L52 N x (nI m)) n) (nI p, mb, mg) = _
      rw [f_Md_end_L52.eq_1]
      show (if nI p = -1 then _ else (if inB (nI p) 60 = true then (f_Md_join (nI m) (nI p) mb).bind _ else none)) = _
      rw [if_neg (nI_ne_m1 (by omega)), if_pos (inB_nI (by omega) (by decide)), md_join hlastm hlq hm60 (by omega)]
      show lp (f_Md_end_L52 N x (nI m)) n (Mb_next mb (nI p).toNatClampNeg, mbJ mb m p (aP T m).getLast?, mg) = _
      rw [nI_clamp (by omega), hnext]
      exact e1
