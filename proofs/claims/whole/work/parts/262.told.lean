/-! told(), part(), exception() -/
theorem pt_lt {T : AT} (hw : WT T) {m i p : Nat} (hm : m < aN T) (h : (aP T m)[i]? = some p) : p < aN T := by
  have := hw.1 m hm p (List.mem_of_getElem? h)
  omega
theorem head0 {l : List Nat} : l.head? = l[0]? := by cases l <;> rfl
theorem md_count {mb : MbS} {T : AT} {rl : List Nat} (h : MbR mb T rl) (hw : WT T) (hn : aN T ≤ 60) {m N : Nat} (hm : m < aN T) (hN : 100 < N) : lp (f_Md_told_L76 N mb) N (0, Mb_first mb m) = some (nI (aP T m).length) := by
  have hlen : (aP T m).length ≤ 60 := by
    have := nodup_le (hw.2.1 m hm) (fun p hp => by have := hw.1 m hm p hp; omega : ∀ p ∈ aP T m, p < 60)
    exact this
  have hs := lp_up (b := f_Md_told_L76 N mb) (e := (aP T m).length) (st := fun i => (nI i, nx (aP T m)[i]?)) (r := some (nI (aP T m).length)) (by
    intro i hi k
    have hg : (aP T m)[i]? = some (aP T m)[i] := List.getElem?_eq_getElem hi
    have hlt := pt_lt hw hm hg
    rw [f_Md_told_L76.eq_1]
    show (if nx (aP T m)[i]? = -1 then _ else _) = _
    rw [hg, nx_s, if_neg (nI_ne_m1 (by omega)), if_pos (inB_nI (by omega) (by decide)), nI_clamp (by omega), (h.2.2.1 m hm i _ hg).2.1]
    show k (nI i + 1, _) = _
    rw [nI_1]) (by
    intro k
    rw [f_Md_told_L76.eq_1]
    show (if nx (aP T m)[(aP T m).length]? = -1 then _ else _) = _
    rw [List.getElem?_eq_none (Nat.le_refl _), nx_n, if_pos rfl]) N 0 (by omega) (by omega)
  rw [← hs, (h.2.1 m hm).2.2.2.2.2.1, head0]; rfl
theorem parent_eq {tr : TrS} {mb : MbS} {T : AT} {ks : List Nat} {fs : Nat → Nat} {rl : List Nat} (h : TrR tr T ks fs rl) (h' : MbR mb T rl) {p : Nat} (hp : p < aN T) : Tr_parent tr p = Mb_partOf mb p := by
  by_cases hk : p ∈ ks
  · obtain ⟨m, hm, hpm⟩ := (ks_iff h p hp).mp hk
    obtain ⟨i, hi⟩ := List.getElem?_of_mem hpm
    rw [h.2.2.2.2.2.2.2.1 m hm p hpm, (h'.2.2.1 m hm i p hi).1]
  · rw [h.2.2.2.2.2.2.2.2.1 p hp hk, h'.2.2.2.1 p hp (fun m hm hpm => hk ((ks_iff h p hp).mpr ⟨m, hm, hpm⟩))]
theorem s_told {N : Nat} (hN : 100 < N) : S_told N Rel := by
  intro kn tr rw lk f0 f1 mb mg mx mf x y hR
  have hR' := hR
  obtain ⟨K, ab, B, T, ks, fs, rk, rl, hB, hL⟩ := hR
  have ht := hB.2.2.2.2.1
  have hm := hB.2.2.2.2.2.1
  have hw := hB.2.2.2.2.2.2.1
  have hn := ht.2.1
  rw [f_Rf_told.eq_1, tr_has ht.1 hn, f_Md_told.eq_1, md_isNode hm.1 hn, md_tI]
  simp only [Option.bind_some, b0]
  by_cases hx : inB x (aN T) = true
  · obtain ⟨a, ha, rfl⟩ := inB_of hx (by omega)
    obtain ⟨b1, b2, b3, b4, b5, -⟩ := ht.2.2.2.1 a ha
    obtain ⟨c1, c2, c3, -⟩ := hm.2.1 a ha
    simp only [if_pos hx, if_pos (inB_nI (show a < 60 by omega) (by decide)), nI_clamp (show a < 2 ^ 31 by omega), b1, b2, b3, b5, c1, c2, c3, md_count hm hw hn ha hN, parent_eq ht hm ha]
    by_cases hy : tI y 0 4 = true
    · rw [if_pos hy]
      rcases way5 hy with rfl | rfl | rfl | rfl | rfl
      · exact ⟨_, _, rfl, rfl, rfl, hR'⟩
      · exact ⟨_, _, rfl, rfl, rfl, hR'⟩
      · exact ⟨_, _, rfl, rfl, rfl, hR'⟩
      · exact ⟨_, _, rfl, rfl, rfl, hR'⟩
      · exact ⟨_, _, rfl, rfl, rfl, hR'⟩
    · rw [if_neg hy]
      have ne : ∀ k : Int32, tI k 0 4 = true → y ≠ k := fun k hk e => by subst e; exact hy hk
      rw [if_neg (ne 0 (by decide)), if_neg (ne 1 (by decide)), if_neg (ne 2 (by decide)), if_neg (ne 3 (by decide)), if_neg (ne 4 (by decide))]
      exact ⟨_, _, rfl, rfl, rfl, hR'⟩
  · simp only [if_neg hx]
    exact ⟨_, _, rfl, rfl, rfl, hR'⟩
theorem tr_kid {tr : TrS} {T : AT} {ks : List Nat} {fs : Nat → Nat} {rl : List Nat} (h : TrR tr T ks fs rl) {m i p : Nat} (hm : m < aN T) (hi : (aP T m)[i]? = some p) : f_Tr_kid (nI m) (nI i) tr = some (nI p) := by
  have hn := h.2.1
  obtain ⟨-, -, -, b4, -, -, b7⟩ := h.2.2.2.1 m hm
  have hk := b7 i (List.getElem?_eq_some_iff.mp hi).1
  rw [hi] at hk
  have hl := (List.getElem?_eq_some_iff.mp hk).1
  have hl2 := TrR_len h
  rw [f_Tr_kid.eq_1, if_pos (inB_nI (by omega) (by decide)), nI_clamp (by omega), b4, nI_add, if_pos (inB_nI (by omega) (by decide)), nI_clamp (by omega), (h.2.2.2.2.1 _ _ hk).1]
theorem s_part {N : Nat} (hN : 100 < N) : S_part N Rel := by
  intro kn tr rw lk f0 f1 mb mg mx mf x y hR
  have hR' := hR
  obtain ⟨K, ab, B, T, ks, fs, rk, rl, hB, hL⟩ := hR
  have ht := hB.2.2.2.2.1
  have hm := hB.2.2.2.2.2.1
  have hw := hB.2.2.2.2.2.2.1
  have hn := ht.2.1
  rw [f_Rf_part.eq_1, tr_has ht.1 hn, f_Md_part.eq_1, md_isNode hm.1 hn]
  simp only [Option.bind_some, b0]
  by_cases hx : inB x (aN T) = true
  · obtain ⟨a, ha, rfl⟩ := inB_of hx (by omega)
    obtain ⟨-, -, -, -, b5, -⟩ := ht.2.2.2.1 a ha
    simp only [if_pos hx, if_pos (inB_nI (show a < 60 by omega) (by decide)), nI_clamp (show a < 2 ^ 31 by omega), b5]
    by_cases hy : y < 0
    · have hy2 : ¬ 0 ≤ y := by
        rw [Int32.lt_iff_toInt_lt] at hy; rw [Int32.le_iff_toInt_le]; omega
      simp only [if_pos hy, if_neg hy2]
      exact ⟨_, _, rfl, rfl, rfl, hR'⟩
    · have hy2 : 0 ≤ y := by
        rw [Int32.lt_iff_toInt_lt] at hy; rw [Int32.le_iff_toInt_le]; omega
      simp only [if_neg hy, if_pos hy2]
      obtain ⟨j, hj, rfl⟩ := nI_of hy
      have hlen : (aP T a).length ≤ 60 := nodup_le (hw.2.1 a ha) (fun p hp => by have := hw.1 a ha p hp; omega)
      -- the model's way
      have key : lp (f_Md_part_L25 N (nI j) mb) N (Mb_first mb a, 0) = some (match (aP T a)[j]? with | none => -2 | some p => nI p) := by
        have hs := lp_up (b := f_Md_part_L25 N (nI j) mb) (e := min j (aP T a).length) (st := fun i => (nx (aP T a)[i]?, nI i)) (r := some (match (aP T a)[j]? with | none => -2 | some p => nI p)) (by
          intro i hi k
          have hil : i < (aP T a).length := by omega
          have hg : (aP T a)[i]? = some (aP T a)[i] := List.getElem?_eq_getElem hil
          have hlt := pt_lt hw ha hg
          rw [f_Md_part_L25.eq_1]
          show (if nI j ≤ nI i then _ else (if nx (aP T a)[i]? = -1 then _ else _)) = _
          rw [if_neg (nI_ge (by omega) hj), hg, nx_s, if_neg (nI_ne_m1 (by omega)), if_pos (inB_nI (by omega) (by decide)), nI_clamp (by omega), (hm.2.2.1 a ha i _ hg).2.1]
          show k (_, nI i + 1) = _
          rw [nI_1]) (by
          intro k
          rw [f_Md_part_L25.eq_1]
          show (if nI j ≤ nI (min j (aP T a).length) then _ else (if nx (aP T a)[min j (aP T a).length]? = -1 then _ else _)) = _
          by_cases hjl : j ≤ (aP T a).length
          · rw [Nat.min_eq_left hjl, if_pos (nI_le (Nat.le_refl _) hj), f_Md_part_b49.eq_1]
            show (if nx (aP T a)[j]? = -1 then _ else _) = _
            cases hg : (aP T a)[j]? with
            | none => rw [nx_n, if_pos rfl]
            | some p =>
              have hlt := pt_lt hw ha hg
              rw [nx_s, if_neg (nI_ne_m1 (by omega))]
          · rw [Nat.min_eq_right (by omega), if_neg (nI_ge (by omega) hj), List.getElem?_eq_none (Nat.le_refl _), nx_n, if_pos rfl, f_Md_part_b49.eq_1, if_pos rfl, List.getElem?_eq_none (by omega)]) N 0 (by omega) (by omega)
        rw [← hs, (hm.2.1 a ha).2.2.2.2.2.1, head0]; rfl
      rw [key]
      by_cases hjl : j < (aP T a).length
      · have hg : (aP T a)[j]? = some (aP T a)[j] := List.getElem?_eq_getElem hjl
        rw [if_pos (nI_lt hjl (by omega)), tr_kid ht ha hg, hg]
        exact ⟨_, _, rfl, rfl, rfl, hR'⟩
      · rw [if_neg (nI_nlt (by omega) hj), List.getElem?_eq_none (by omega)]
        exact ⟨_, _, rfl, rfl, rfl, hR'⟩
  · simp only [if_neg hx]
    exact ⟨_, _, rfl, rfl, rfl, hR'⟩
