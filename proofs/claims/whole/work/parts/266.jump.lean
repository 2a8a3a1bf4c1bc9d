theorem shp_leaf {T : AT} {K : Nat} {s v : Int32} (h : s = 0 ∨ (s = 1 ∧ (v = -1 ∨ ∃ k, k < K ∧ v = nI k)) ∨ (s = 2 ∧ ∃ k, k < K ∧ v = nI k) ∨ (s = 3 ∧ (v = 0 ∨ v = 1)) ∨ ((s = 10 ∨ s = 11) ∧ (v = -1 ∨ ∃ j, j < 6 ∧ v = nI j))) : shp (addT T s v) K (aN T) := by
  have eS : aS (addT T s v) (aN T) = s := upd_s
  have eV : aV (addT T s v) (aN T) = v := upd_s
  have eP : aP (addT T s v) (aN T) = [] := up_s
  have eH : aH (addT T s v) (aN T) = false := up_s
  unfold shp
  rw [eS, eV, eP, eH]
  rcases h with rfl | ⟨rfl, h⟩ | ⟨rfl, h⟩ | ⟨rfl, h⟩ | ⟨rfl | rfl, h⟩
  · refine ⟨⟨0, by omega, by decide⟩, ?_, ?_, ?_, ?_, ?_, ?_, ?_, ?_, ?_, ?_, ?_, ?_, ?_, ?_, ?_⟩ <;> simp
  · refine ⟨⟨1, by omega, by decide⟩, ?_, fun _ => h, ?_, ?_, ?_, ?_, ?_, ?_, ?_, ?_, ?_, ?_, ?_, ?_, ?_⟩ <;> simp
  · refine ⟨⟨2, by omega, by decide⟩, ?_, ?_, fun _ => h, ?_, ?_, ?_, ?_, ?_, ?_, ?_, ?_, ?_, ?_, ?_, ?_⟩ <;> simp
  · refine ⟨⟨3, by omega, by decide⟩, ?_, ?_, ?_, fun _ => h, ?_, ?_, ?_, ?_, ?_, ?_, ?_, ?_, ?_, ?_, ?_⟩ <;> simp
  · refine ⟨⟨10, by omega, by decide⟩, ?_, ?_, ?_, ?_, ?_, ?_, ?_, ?_, fun _ => h, ?_, ?_, ?_, ?_, ?_, ?_⟩ <;> simp
  · refine ⟨⟨11, by omega, by decide⟩, ?_, ?_, ?_, ?_, ?_, ?_, ?_, ?_, fun _ => h, ?_, ?_, ?_, ?_, ?_, ?_⟩ <;> simp
theorem rf_isName (x : Int32) : f_Rf_isName x = some (bi (tI x 0 5)) := by
  rw [f_Rf_isName.eq_1]
  unfold tI
  by_cases h : x < 0
  · rw [if_pos h, if_pos h]; rfl
  · rw [if_neg h, if_neg h]
    have e : (6 : Int32) ≤ x ↔ 5 < x := by
      rw [Int32.le_iff_toInt_le, Int32.lt_iff_toInt_lt]
      have a : (6 : Int32).toInt = 6 := by decide
      have b : (5 : Int32).toInt = 5 := by decide
      omega
    by_cases h2 : 5 < x
    · rw [if_pos (e.mpr h2), if_pos h2]; rfl
    · rw [if_neg (fun c => h2 (e.mp c)), if_neg h2]; rfl
theorem tI_m1 (x : Int32) : tI x (-1) 5 = (decide (x = -1) || tI x 0 5) := by
  unfold tI
  have a : (-1 : Int32).toInt = -1 := by decide
  have b : (0 : Int32).toInt = 0 := by decide
  by_cases h : x = -1
  · subst h; decide
  · have hx : x.toInt ≠ -1 := fun e => h (Int32.toInt_inj.mp (e.trans a.symm))
    have e : x < -1 ↔ x < 0 := by
      rw [Int32.lt_iff_toInt_lt, Int32.lt_iff_toInt_lt]; omega
    by_cases h1 : x < 0
    · simp [e.mpr h1, h1, h]
    · have h2 : ¬ x < -1 := fun c => h1 (e.mp c)
      simp [h1, h2, h]
theorem nodes60 {mb : MbS} {n : Nat} (h : Mb_nodes mb = nI n) (hn : n ≤ 60) : Mb_nodes mb = 60 ↔ n = 60 := by
  rw [h]
  have e : (60 : Int32) = nI 60 := by decide
  rw [e]; exact nI_eq (by omega) (by omega)
theorem s_jump (N : Nat) : S_jump N Rel := by
  intro kn tr rw lk f0 f1 mb mg mx mf x y hR
  have hR' := hR
  obtain ⟨K, ab, B, T, ks, fs, rk, rl, hB, hL⟩ := hR
  have ht := hB.2.2.2.2.1
  have hm := hB.2.2.2.2.2.1
  have hn := ht.2.1
  rw [f_Md_jump.eq_1, md_tI, md_tI]
  simp only [Option.bind_some, b0]
  -- the class
  have hc : f_Rf_jump x y tr = if tI x 0 1 = true then (if tI y (-1) 5 = true then f_Rf_jump_b24 x y tr else some (-2, tr)) else some (-2, tr) := by
    rw [f_Rf_jump.eq_1, rf_isName, tI_m1]
    simp only [Option.bind_some, b0]
    unfold tI
    by_cases h1 : x < 0
    · simp [h1]
    · by_cases h2 : 1 < x
      · simp [h1, h2]
      · by_cases h3 : y = -1
        · simp [h1, h2, h3]
        · simp [h1, h2, h3]
  rw [hc]
  by_cases hx : tI x 0 1 = true
  · by_cases hy : tI y (-1) 5 = true
    · simp only [if_pos hx, if_pos hy]
      rw [f_Rf_jump_b24.eq_1, tr_isFull ht.1 hn]
      simp only [Option.bind_some, b0]
      by_cases h60 : aN T = 60
      · rw [if_pos ((nodes60 hm.1 hn).mpr h60), if_pos (by simp; omega)]
        exact ⟨_, _, rfl, rfl, rfl, hR'⟩
      · rw [if_neg (fun c => h60 ((nodes60 hm.1 hn).mp c)), if_neg (by simp; omega), tr_add ht.1 (by omega), md_make hm.1 (by omega)]
        have hs : (10 : Int32) + x = 10 ∨ (10 : Int32) + x = 11 := by
          rw [tI_01] at hx
          simp only [Bool.or_eq_true, decide_eq_true_eq] at hx
          rcases hx with rfl | rfl
          · left; decide
          · right; decide
        have hv : y = -1 ∨ ∃ j, j < 6 ∧ y = nI j := by
          rw [tI_m1] at hy
          simp only [Bool.or_eq_true, decide_eq_true_eq] at hy
          rcases hy with h | h
          · exact Or.inl h
          · obtain ⟨j, hj, e⟩ := tI_mem (n := 5) (by omega) h
            exact Or.inr ⟨j, by omega, e⟩
        refine ⟨_, _, rfl, rfl, rfl, K, ab, B, addT T (10 + x) y, ks, va_up fs (aN T) ks.length, rk, rl, Bld_add hB (by omega) (shp_leaf (Or.inr (Or.inr (Or.inr (Or.inr ⟨hs, hv⟩))))) ?_ ?_ ?_, LkR_add hL (by omega)⟩
        · rcases hs with h | h <;> rw [h] <;> decide
        · rcases hs with h | h <;> rw [h] <;> decide
        · rcases hs with h | h <;> rw [h] <;> decide
    · simp only [if_pos hx, if_neg hy]
      exact ⟨_, _, rfl, rfl, rfl, hR'⟩
  · simp only [if_neg hx]
    exact ⟨_, _, rfl, rfl, rfl, hR'⟩
