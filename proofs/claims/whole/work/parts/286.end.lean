/-! end(): what fits -/
def fE (T : AT) (ks rl : List Nat) (k : Nat) (x : Int32) : Bool :=
  if k = 1 then decide (x = 0) || decide (x = 1) || (decide (x = 2) && !anyD T rl)
  else if k = 3 then !decide (rl.length = 0) && (if x = -1 then !decide (rl.length ≤ 1) else blB T ks rl x)
  else decide (x = 0)
theorem nI_le0 {n : Nat} (h : n < 2 ^ 31) : nI n ≤ 0 ↔ n = 0 := by
  rw [show (0 : Int32) = nI 0 by decide, nI_leI h (by decide)]; omega
theorem nI_le1 {n : Nat} (h : n < 2 ^ 31) : nI n ≤ 1 ↔ n ≤ 1 := by
  rw [show (1 : Int32) = nI 1 by decide, nI_leI h (by decide)]
theorem rf_fitsEnd {kn : KnS} {tr : TrS} {rw : RwS} {mb : MbS} {K : Nat} {ab : Nat → Nat} {B : Nat → Nat → Bool} {T : AT} {ks : List Nat} {fs : Nat → Nat} {k : Nat} {rl : List Nat} (h : Bld kn tr rw mb K ab B T ks fs (some k) rl) (x : Int32) : f_Rf_fitsEnd x tr rw = some (bi (fE T ks rl k x)) := by
  obtain ⟨b1, b2, b3, b4, b5, b6, b7, b8, b9, b10, b11, b12, b13⟩ := h
  obtain ⟨a0, a1, a2, a3, a4, a5, a6, a7, -⟩ := b13
  have hn := b5.2.1
  have hlen : rl.length ≤ 60 := Nat.le_trans (nodup_le b8.1 (fun p hp => (b8.2 p hp).1)) hn
  have e2 : f_Tr_isFreeBlock x tr = some (bi (blB T ks rl x)) := tr_isFreeBlock b5 x
  rw [f_Rf_fitsEnd.eq_1, e2, rw_fitsMark a4, a1, a2]
  simp only [Option.bind_some, b0, b0']
  unfold fE
  have hk : k = 0 ∨ k = 1 ∨ k = 2 ∨ k = 3 := by omega
  rcases hk with rfl | rfl | rfl | rfl
  · rw [if_neg (by decide), if_neg (by decide)]
    by_cases c : x = 0 <;> simp [c, bi]
  · rw [if_pos (by decide), if_pos rfl]
    have hd : (!decide (1 = 3) && rl.any (fun p => decide (aM T p = 2))) = anyD T rl := by simp [anyD]
    rw [hd]
  · rw [if_neg (by decide), if_neg (by decide)]
    by_cases c : x = 0 <;> simp [c, bi]
  · rw [if_neg (by decide), if_pos (by decide)]
    by_cases c : rl.length = 0
    · rw [if_pos ((nI_le0 (by omega)).mpr c)]; simp [c, bi]
    · rw [if_neg (fun hh => c ((nI_le0 (by omega)).mp hh))]
      by_cases c1 : x = -1
      · rw [if_pos c1]
        by_cases c2 : rl.length ≤ 1
        · rw [if_pos ((nI_le1 (by omega)).mpr c2)]; simp [c1, c2, bi]
        · rw [if_neg (fun hh => c2 ((nI_le1 (by omega)).mp hh))]; simp [c, c1, c2, bi]
      · rw [if_neg c1]
        cases blB T ks rl x <;> simp [c, c1, bi]
theorem md_mayEnd {kn : KnS} {tr : TrS} {rw : RwS} {mb : MbS} {K : Nat} {ab : Nat → Nat} {B : Nat → Nat → Bool} {T : AT} {ks : List Nat} {fs : Nat → Nat} {k : Nat} {rl : List Nat} (h : Bld kn tr rw mb K ab B T ks fs (some k) rl) {N : Nat} (hN : 100 < N) (x : Int32) : f_Md_mayEnd N x mb = some (bi (fE T ks rl k x)) := by
  obtain ⟨b1, b2, b3, b4, b5, b6, b7, b8, b9, b10, b11, b12, b13⟩ := h
  obtain ⟨a0, a1, a2, a3, a4, a5, a6, a7, -⟩ := b13
  have hn := b5.2.1
  have hlen : rl.length ≤ 60 := Nat.le_trans (nodup_le b8.1 (fun p hp => (b8.2 p hp).1)) hn
  have e1 : f_Md_isFree x mb = some (bi (frB T ks rl x)) := md_isFree' b6 hn (ks_iff b5) x
  have e2 := md_hasDefault b6 hn ⟨b8.1, fun p hp => (b8.2 p hp).1⟩ a7 hN
  rw [f_Md_mayEnd.eq_1, e1, e2, a5, a6, md_tI, tI_02']
  simp only [Option.bind_some, b0]
  unfold fE
  have hk : k = 0 ∨ k = 1 ∨ k = 2 ∨ k = 3 := by omega
  rcases hk with rfl | rfl | rfl | rfl
  · rw [if_neg (by decide), if_neg (by decide)]
    by_cases c : x = 0 <;> simp [c, bi]
  · rw [if_pos (by decide)]
    by_cases c0 : x = 0
    · subst c0; simp [bi]
    · by_cases c1 : x = 1
      · subst c1; simp [bi]
      · by_cases c2 : x = 2
        · subst c2; cases anyD T rl <;> simp [bi]
        · simp [c0, c1, c2, bi]
  · rw [if_neg (by decide), if_neg (by decide)]
    by_cases c : x = 0 <;> simp [c, bi]
  · rw [if_neg (by decide), if_pos (by decide)]
    by_cases c : rl.length = 0
    · rw [if_pos ((nI_le0 (by omega)).mpr c)]; simp [c, bi]
    · rw [if_neg (fun hh => c ((nI_le0 (by omega)).mp hh))]
      by_cases c1 : x = -1
      · rw [if_pos c1]
        by_cases c2 : rl.length ≤ 1
        · rw [if_pos ((nI_le1 (by omega)).mpr c2)]; simp [c1, c2, bi]
        · rw [if_neg (fun hh => c2 ((nI_le1 (by omega)).mp hh))]; simp [c, c1, c2, bi]
      · rw [if_neg c1]
        by_cases hf : frB T ks rl x = true
        · rw [if_pos hf, md_bl b6 hn hf]
          cases blB T ks rl x <;> simp [c, c1, bi]
        · rw [if_neg hf]
          have hb : blB T ks rl x = false := by
            unfold blB
            have hf : frB T ks rl x = false := by simpa using hf
            rw [hf]; rfl
          simp [c1, hb, bi]
