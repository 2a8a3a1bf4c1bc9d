theorem tI_mem {x : Int32} {n : Nat} (hn : n < 2 ^ 30) (h : tI x 0 (nI n) = true) : ∃ j, j ≤ n ∧ x = nI j := by
  unfold tI at h
  by_cases h1 : x < 0
  · rw [if_pos h1] at h; cases h
  · rw [if_neg h1] at h
    by_cases h2 : nI n < x
    · rw [if_pos h2] at h; cases h
    · obtain ⟨j, hj, rfl⟩ := nI_of h1
      refine ⟨j, ?_, rfl⟩
      by_cases h3 : j ≤ n
      · exact h3
      · exact absurd (nI_lt (by omega) hj) h2
theorem tI_nI {j n : Nat} (hn : n < 2 ^ 30) (h : j ≤ n) : tI (nI j) 0 (nI n) = true := by
  unfold tI
  rw [if_neg (nI_pos (by omega)), if_neg (nI_nlt h (by omega))]
theorem sort10 {x : Int32} (h : tI x 0 9 = true) : x = 0 ∨ x = 1 ∨ x = 2 ∨ x = 3 ∨ x = 4 ∨ x = 5 ∨ x = 6 ∨ x = 7 ∨ x = 8 ∨ x = 9 := by
  obtain ⟨j, hj, rfl⟩ := tI_mem (n := 9) (by omega) h
  have : j = 0 ∨ j = 1 ∨ j = 2 ∨ j = 3 ∨ j = 4 ∨ j = 5 ∨ j = 6 ∨ j = 7 ∨ j = 8 ∨ j = 9 := by omega
  rcases this with rfl | rfl | rfl | rfl | rfl | rfl | rfl | rfl | rfl | rfl <;> decide
theorem fN_out {kb fr bl : Int32 → Bool} {x1 x2 x3 x4 : Int32} (h : tI x1 0 9 = false) : fN kb fr bl x1 x2 x3 x4 = false := by
  have ne : ∀ k : Int32, tI k 0 9 = true → x1 ≠ k := fun k hk e => by subst e; rw [hk] at h; cases h
  unfold fN
  rw [if_neg (ne 4 (by decide)), if_neg (ne 0 (by decide)), if_neg (ne 1 (by decide)), if_neg (ne 2 (by decide)), if_neg (ne 3 (by decide)), if_neg (ne 5 (by decide)), if_neg (ne 6 (by decide)), if_neg (ne 7 (by decide)), if_neg (ne 8 (by decide)), if_neg (ne 9 (by decide))]
  simp
set_option maxHeartbeats 4000000 in
theorem md_mayBe {mb : MbS} {K : Nat} {ab : Nat → Nat} {T : AT} {ks rl : List Nat} (hm : MkR mb K ab) (hK : K ≤ 12) (h : MbR mb T rl) (hn : aN T ≤ 60) (hk : ∀ p, p < aN T → (p ∈ ks ↔ ∃ m, m < aN T ∧ p ∈ aP T m)) (x1 x2 x3 x4 : Int32) :
    f_Md_mayBe x1 x2 x3 x4 mb = some (bi (fN (fun x => inB x K) (frB T ks rl) (blB T ks rl) x1 x2 x3 x4)) := by
  have e1 : ∀ x, f_Md_isFree x mb = some (bi (frB T ks rl x)) := fun x => md_isFree' h hn hk x
  have e2 : ∀ (x : Int32) {A B : Option Int32}, frB T ks rl x = true → (if inB x 60 = true then (if ((Mb_sort mb) x.toNatClampNeg) = (13 : Int32) then A else B) else none) = if blB T ks rl x = true then A else B := fun x _ _ hf => md_bl h hn hf
  rw [f_Md_mayBe.eq_1]
  simp only [md_tI, Option.bind_some, b0]
  by_cases h9 : tI x1 0 9 = true
  · rw [if_pos h9]
    simp only [f_Md_mayBe_b43.eq_1, f_Md_mayBe_b253.eq_1, f_Md_mayBe_b119.eq_1, f_Md_mayBe_b118.eq_1, f_Md_mayBe_b147.eq_1, f_Md_mayBe_b142.eq_1, f_Md_mayBe_b146.eq_1, f_Md_mayBe_b170.eq_1, f_Md_mayBe_b169.eq_1, f_Md_mayBe_b194.eq_1, f_Md_mayBe_b193.eq_1, f_Md_mayBe_b251.eq_1, f_Md_mayBe_b250.eq_1, f_Md_mayBe_b233.eq_1, f_Md_mayBe_b228.eq_1, f_Md_mayBe_b227.eq_1, md_tI, e1, md_isKind hm hK, Option.bind_some, b0]
    have hbf : blB T ks rl x3 = true → frB T ks rl x3 = true := fun hb => by unfold blB at hb; rw [Bool.and_eq_true] at hb; exact hb.1
    rcases sort10 h9 with rfl | rfl | rfl | rfl | rfl | rfl | rfl | rfl | rfl | rfl
    · have d1 : ¬ (0 : Int32) = 7 := by decide
      have d2 : tI (0 : Int32) 4 7 = false := by decide
      have d3 : ¬ (0 : Int32) = 4 := by decide
      simp only [fN, d1, d2, d3, if_true, if_false, tI_00, Bool.false_eq_true]
      by_cases c : x2 = 0 <;> by_cases c' : x3 = -1 <;> by_cases c2 : x4 = -1 <;> simp [c, c', c2, bi]
    · have d1 : ¬ (1 : Int32) = 7 := by decide
      have d2 : tI (1 : Int32) 4 7 = false := by decide
      have d3 : ¬ (1 : Int32) = 4 := by decide
      have d4 : ¬ (1 : Int32) = 0 := by decide
      simp only [fN, d1, d2, d3, d4, if_true, if_false, tI_00, Bool.false_eq_true]
      by_cases c : x2 = 0 <;> by_cases c' : x3 = -1 <;> by_cases c2 : x4 = -1 <;> cases hh : inB x3 K <;> simp_all [bi]
    · have d1 : ¬ (2 : Int32) = 7 := by decide
      have d2 : tI (2 : Int32) 4 7 = false := by decide
      have d3 : ¬ (2 : Int32) = 4 := by decide
      have d4 : ¬ (2 : Int32) = 0 := by decide
      have d5 : ¬ (2 : Int32) = 1 := by decide
      simp only [fN, d1, d2, d3, d4, d5, if_true, if_false, tI_00, Bool.false_eq_true]
      by_cases c : x2 = 0 <;> by_cases c2 : x4 = -1 <;> cases hh : inB x3 K <;> simp_all [bi]
    · have d1 : ¬ (3 : Int32) = 7 := by decide
      have d2 : tI (3 : Int32) 4 7 = false := by decide
      have d3 : ¬ (3 : Int32) = 4 := by decide
      have d4 : ¬ (3 : Int32) = 0 := by decide
      have d5 : ¬ (3 : Int32) = 1 := by decide
      have d6 : ¬ (3 : Int32) = 2 := by decide
      simp only [fN, d1, d2, d3, d4, d5, d6, if_true, if_false, tI_00, tI_01, Bool.false_eq_true]
      by_cases c : x2 = 0 <;> by_cases c2 : x4 = -1 <;> cases hh : (decide (x3 = 0) || decide (x3 = 1)) <;> simp_all [bi]
    · have d1 : ¬ (4 : Int32) = 7 := by decide
      have d2 : tI (4 : Int32) 4 7 = true := by decide
      have d4 : ¬ (4 : Int32) = 0 := by decide
      have d5 : ¬ (4 : Int32) = 1 := by decide
      have d6 : ¬ (4 : Int32) = 2 := by decide
      have d7 : ¬ (4 : Int32) = 3 := by decide
      simp only [fN, d1, d2, d4, d5, d6, d7, if_true, if_false]
      cases tI x2 0 2 <;> cases frB T ks rl x3 <;> cases frB T ks rl x4 <;> by_cases c : x4 = -1 <;> by_cases c' : x3 = x4 <;> simp_all [bi]
    · have d1 : ¬ (5 : Int32) = 7 := by decide
      have d2 : tI (5 : Int32) 4 7 = true := by decide
      have d3 : ¬ (5 : Int32) = 4 := by decide
      have d4 : ¬ (5 : Int32) = 0 := by decide
      have d5 : ¬ (5 : Int32) = 1 := by decide
      have d6 : ¬ (5 : Int32) = 2 := by decide
      have d7 : ¬ (5 : Int32) = 3 := by decide
      simp only [fN, d1, d2, d3, d4, d5, d6, d7, if_true, if_false]
      cases tI x2 0 2 <;> cases frB T ks rl x3 <;> by_cases c : x4 = -1 <;> simp_all [bi]
    · have d1 : ¬ (6 : Int32) = 7 := by decide
      have d2 : tI (6 : Int32) 4 7 = true := by decide
      have d3 : ¬ (6 : Int32) = 4 := by decide
      have d4 : ¬ (6 : Int32) = 0 := by decide
      have d5 : ¬ (6 : Int32) = 1 := by decide
      have d6 : ¬ (6 : Int32) = 2 := by decide
      have d7 : ¬ (6 : Int32) = 3 := by decide
      have d8 : ¬ (6 : Int32) = 5 := by decide
      simp only [fN, d1, d2, d3, d4, d5, d6, d7, d8, if_true, if_false]
      cases tI x2 0 2 <;> cases frB T ks rl x3 <;> by_cases c : x4 = -1 <;> simp_all [bi]
    · have d3 : ¬ (7 : Int32) = 4 := by decide
      have d4 : ¬ (7 : Int32) = 0 := by decide
      have d5 : ¬ (7 : Int32) = 1 := by decide
      have d6 : ¬ (7 : Int32) = 2 := by decide
      have d7 : ¬ (7 : Int32) = 3 := by decide
      have d8 : ¬ (7 : Int32) = 5 := by decide
      have d9 : ¬ (7 : Int32) = 6 := by decide
      simp only [fN, d3, d4, d5, d6, d7, d8, d9, if_true, if_false]
      cases tI x2 0 3 <;> cases frB T ks rl x3 <;> by_cases c : x4 = -1 <;> simp_all [bi]
    · have d1 : ¬ (8 : Int32) = 7 := by decide
      have d2 : tI (8 : Int32) 4 7 = false := by decide
      have d3 : ¬ (8 : Int32) = 4 := by decide
      have d4 : ¬ (8 : Int32) = 0 := by decide
      have d5 : ¬ (8 : Int32) = 1 := by decide
      have d6 : ¬ (8 : Int32) = 2 := by decide
      have d7 : ¬ (8 : Int32) = 3 := by decide
      have d8 : ¬ (8 : Int32) = 5 := by decide
      have d9 : ¬ (8 : Int32) = 6 := by decide
      simp only [fN, d1, d2, d3, d4, d5, d6, d7, d8, d9, if_true, if_false, tI_00, Bool.false_eq_true]
      by_cases c : x2 = 0 <;> cases frB T ks rl x3 <;> by_cases c2 : x4 = -1 <;> simp_all [bi]
    · have d1 : ¬ (9 : Int32) = 7 := by decide
      have d2 : tI (9 : Int32) 4 7 = false := by decide
      have d3 : ¬ (9 : Int32) = 4 := by decide
      have d4 : ¬ (9 : Int32) = 0 := by decide
      have d5 : ¬ (9 : Int32) = 1 := by decide
      have d6 : ¬ (9 : Int32) = 2 := by decide
      have d7 : ¬ (9 : Int32) = 3 := by decide
      have d8 : ¬ (9 : Int32) = 5 := by decide
      have d9 : ¬ (9 : Int32) = 6 := by decide
      have d10 : ¬ (9 : Int32) = 8 := by decide
      simp only [fN, d1, d2, d3, d4, d5, d6, d7, d8, d9, d10, if_true, if_false, tI_00, Bool.false_eq_true]
      by_cases hf : frB T ks rl x3 = true
      · rw [e2 x3 hf]
        by_cases c : x2 = 0 <;> cases blB T ks rl x3 <;> by_cases c2 : x4 = -1 <;> simp_all [bi]
      · have hb : blB T ks rl x3 = false := by
          cases hh : blB T ks rl x3
          · rfl
          · exact absurd (hbf hh) hf
        by_cases c : x2 = 0 <;> by_cases c2 : x4 = -1 <;> simp_all [bi]
  · rw [if_neg h9, fN_out (by simpa using h9)]; rfl
