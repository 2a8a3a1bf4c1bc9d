/-! KINDS -/
def KI (K : Nat) (ab : Nat → Nat) (B : Nat → Nat → Bool) : Prop := 1 ≤ K ∧ K ≤ 12 ∧ (∀ k, k < K → k ≠ 0 → ab k < k) ∧ ∀ k c, k < K → B k c = (decide (k = c) || (decide (k ≠ 0) && B (ab k) c))
def KnR (kn : KnS) (K : Nat) (B : Nat → Nat → Bool) : Prop := Kn_count kn = nI K ∧ (∀ k c, k < K → c < 32 → bt (Kn_over kn k) c = B k c) ∧ ∀ c k, c < K → k < 32 → bt (Kn_below kn c) k = (decide (k < K) && B k c)
def MkR (mb : MbS) (K : Nat) (ab : Nat → Nat) : Prop := Mb_kinds mb = nI K ∧ Mb_above mb 0 = -1 ∧ ∀ k, k < K → k ≠ 0 → Mb_above mb k = nI (ab k)
theorem KI_le {K : Nat} {ab : Nat → Nat} {B : Nat → Nat → Bool} (h : KI K ab B) : ∀ k c, k < K → B k c = true → c ≤ k := by
  intro k
  induction k using Nat.strongRecOn with
  | ind k ih =>
    intro c hk hb
    rw [h.2.2.2 k c hk] at hb
    by_cases e : k = c
    · omega
    · simp only [e, decide_false, Bool.false_or, Bool.and_eq_true, decide_eq_true_eq] at hb
      have h1 := h.2.2.1 k hk hb.1
      have h2 := ih (ab k) h1 c (by omega) hb.2
      omega
theorem kn_has {kn : KnS} {K : Nat} {B : Nat → Nat → Bool} (h : KnR kn K B) (hK : K ≤ 12) (x : Int32) : f_Kn_has x kn = some (bi (inB x K)) := by
  unfold f_Kn_has
  exact has_eq h.1 (by omega)
theorem md_isIn (x : Int32) {n : Nat} (hn : 0 < n) (hm : n < 2 ^ 30) : f_Md_isIn x 0 (nI n - 1) = some (bi (inB x n)) := by
  unfold f_Md_isIn
  have e : nI n - 1 = nI (n - 1) := by
    have h1 : (1 : Int32) = nI 1 := by decide
    rw [h1, pk_sub (by omega)]
  rw [e]
  by_cases h : inB x n = true
  · obtain ⟨j, hj, rfl⟩ := inB_of h (by omega)
    rw [if_neg (nI_pos (by omega)), if_neg (nI_nlt (by omega) (by omega)), h]; rfl
  · have hf : inB x n = false := by simpa using h
    rw [hf]
    by_cases h1 : x < 0
    · rw [if_pos h1]; rfl
    · rw [if_neg h1, if_pos]
      · rfl
      · rw [Int32.lt_iff_toInt_lt, nI_toInt (by omega)]
        have h2 : nI n ≤ x := by
          by_cases h2 : nI n ≤ x
          · exact h2
          · exact absurd ((inB_iff (by omega)).mpr ⟨h1, h2⟩) h
        rw [Int32.le_iff_toInt_le, nI_toInt (by omega)] at h2
        omega
theorem md_isIn0 (x : Int32) : f_Md_isIn x 0 (nI 0 - 1) = some (bi (inB x 0)) := by
  unfold f_Md_isIn
  have e : nI 0 - 1 = (-1 : Int32) := by decide
  have hf : inB x 0 = false := by
    cases h : inB x 0
    · rfl
    · obtain ⟨j, hj, -⟩ := inB_of h (by decide); omega
  rw [e, hf]
  by_cases h1 : x < 0
  · rw [if_pos h1]; rfl
  · rw [if_neg h1, if_pos]
    · rfl
    · rw [Int32.lt_iff_toInt_lt] at *
      have h2 : (-1 : Int32).toInt = -1 := by decide
      have h3 : (0 : Int32).toInt = 0 := by decide
      omega
theorem md_isInn (x : Int32) {n : Nat} (hm : n < 2 ^ 30) : f_Md_isIn x 0 (nI n - 1) = some (bi (inB x n)) := by
  by_cases h : n = 0
  · subst h; exact md_isIn0 x
  · exact md_isIn x (by omega) hm
theorem md_isKind {mb : MbS} {K : Nat} {ab : Nat → Nat} (h : MkR mb K ab) (hK : K ≤ 12) (x : Int32) : f_Md_isKind x mb = some (bi (inB x K)) := by
  unfold f_Md_isKind
  rw [h.1, md_isInn x (by omega)]
  show (if bB (bi (inB x K)) = true then _ else _) = _
  rw [if_pos (bi_bB _)]
theorem md_isNode {mb : MbS} {n : Nat} (h : Mb_nodes mb = nI n) (hn : n ≤ 60) (x : Int32) : f_Md_isNode x mb = some (bi (inB x n)) := by
  unfold f_Md_isNode
  rw [h, md_isInn x (by omega)]
  show (if bB (bi (inB x n)) = true then _ else _) = _
  rw [if_pos (bi_bB _)]
theorem tr_has {tr : TrS} {n : Nat} (h : Tr_size tr = nI n) (hn : n ≤ 60) (x : Int32) : f_Tr_has x tr = some (bi (inB x n)) := by
  unfold f_Tr_has
  exact has_eq h (by omega)
/-- isBelow of the model -/
theorem md_isBelow {mb : MbS} {K : Nat} {ab : Nat → Nat} {B : Nat → Nat → Bool} (hI : KI K ab B) (h : MkR mb K ab) {N : Nat} (hN : 20 < N) {k c : Nat} (hk : k < K) (hc : c < K) : f_Md_isBelow N (nI k) (nI c) mb = some (bi (B k c)) := by
  have hK := hI.2.1
  have key : ∀ (k : Nat), k < K → ∀ n, k + 1 < n → lp (f_Md_isBelow_L2 N (nI c) mb) n (nI k) = some (bi (B k c)) := by
    intro k
    induction k using Nat.strongRecOn with
    | ind k ih =>
      intro hk n hn
      match n, hn with
      | n + 1, hn =>
        show f_Md_isBelow_L2 N (nI c) mb (lp (f_Md_isBelow_L2 N (nI c) mb) n) (nI k) = _
        rw [f_Md_isBelow_L2.eq_1]
        rw [if_neg (nI_ne_m1 (by omega))]
        by_cases e : k = c
        · subst e
          rw [if_pos rfl]
          unfold f_Md_isBelow_b22
          rw [if_pos rfl, hI.2.2.2 k k hk]
          simp [bi]
        · rw [if_neg (fun h => e ((nI_eq (by omega) (by omega)).mp h)), if_pos (inB_nI (by omega) (by decide)), nI_clamp (by omega)]
          by_cases e0 : k = 0
          · subst e0
            rw [h.2.1]
            match n, hn with
            | n + 1, hn =>
              show f_Md_isBelow_L2 N (nI c) mb (lp (f_Md_isBelow_L2 N (nI c) mb) n) (-1) = _
              rw [f_Md_isBelow_L2.eq_1]
              rw [if_pos rfl]
              unfold f_Md_isBelow_b22
              rw [if_neg (fun h => nI_ne_m1 (n := c) (by omega) h.symm), hI.2.2.2 0 c hk]
              simp [e, bi]
          · rw [h.2.2 k hk e0, hI.2.2.2 k c hk]
            have h1 := hI.2.2.1 k hk e0
            rw [ih (ab k) h1 (by omega) n (by omega)]
            simp [e, e0]
  unfold f_Md_isBelow
  exact key k hk N (by omega)
