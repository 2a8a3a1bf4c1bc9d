/-! BITS of longs and ints (bt, b_or, b_and, b_0, b_big, b_ext, s_l, b_shl, wb_c, wb_sm, wb_tb after kit/laws/BITS.to-paste) -/
def bi (b : Bool) : Int32 := if b then 1 else 0
theorem bi_t : bi true = 1 := rfl
theorem bi_f : bi false = 0 := rfl
theorem bi_0 {b : Bool} : bi b = 0 ↔ b = false := by cases b <;> decide
theorem bi_1 {b : Bool} : bi b = 1 ↔ b = true := by cases b <;> decide
theorem bi_inj {a b : Bool} : bi a = bi b ↔ a = b := by cases a <;> cases b <;> decide
theorem bi_bB (b : Bool) : bB (bi b) = true := by cases b <;> decide
def bt (x : Int32) (i : Nat) : Bool := x.toBitVec.getLsbD i
theorem b_ext {x y : Int32} (h : ∀ i, i < 32 → bt x i = bt y i) : x = y := Int32.toBitVec_inj.mp (BitVec.eq_of_getLsbD_eq (fun i hi => h i hi))
theorem b_or (x y : Int32) (i : Nat) : bt (x ||| y) i = (bt x i || bt y i) := by unfold bt; rw [Int32.toBitVec_or, BitVec.getLsbD_or]
theorem b_and (x y : Int32) (i : Nat) : bt (x &&& y) i = (bt x i && bt y i) := by unfold bt; rw [Int32.toBitVec_and, BitVec.getLsbD_and]
theorem b_xor (x y : Int32) (i : Nat) : bt (x ^^^ y) i = (bt x i ^^ bt y i) := by unfold bt; rw [Int32.toBitVec_xor, BitVec.getLsbD_xor]
theorem b_big {x : Int32} {i : Nat} (h : 32 ≤ i) : bt x i = false := BitVec.getLsbD_of_ge _ _ h
theorem b_0 (i : Nat) : bt 0 i = false := BitVec.getLsbD_zero
theorem b_m1 : ∀ i, i < 32 → bt (-1) i = true := by decide +kernel
theorem b_not {x : Int32} {i : Nat} (h : i < 32) : bt (x ^^^ (-1)) i = !bt x i := by rw [b_xor, b_m1 i h]; cases bt x i <;> rfl
theorem s_l : ∀ n, n < 32 → ((nI n &&& 31).toBitVec.smod 32).toNat = n := by decide +kernel
theorem b_shl (n : Nat) (hn : n < 32) (x : Int32) {i : Nat} (hi : i < 32) : bt (x <<< (nI n &&& 31)) i = (decide (n ≤ i) && bt x (i - n)) := by
  unfold bt
  rw [Int32.toBitVec_shiftLeft]
  show (x.toBitVec <<< ((nI n &&& 31).toBitVec.smod 32).toNat).getLsbD i = _
  rw [s_l n hn, BitVec.getLsbD_shiftLeft]
  rcases Nat.lt_or_ge i n with h | h
  · simp [h, Nat.not_le.mpr h]
  · simp [hi, h, Nat.not_lt.mpr h]
theorem b_1 (i : Nat) : bt 1 i = decide (i = 0) := by
  rcases Nat.lt_or_ge i 32 with h | h
  · exact (by decide +kernel : ∀ i, i < 32 → bt 1 i = decide (i = 0)) i h
  · rw [b_big h, decide_eq_false (by omega)]
/-- one bit of an int -/
theorem b_one {n : Nat} (hn : n < 32) (i : Nat) : bt ((1 : Int32) <<< (nI n &&& 31)) i = decide (i = n) := by
  rcases Nat.lt_or_ge i 32 with h | h
  · rw [b_shl n hn _ h, b_1]
    by_cases e : i = n
    · subst e; simp
    · by_cases e2 : n ≤ i
      · have : ¬ i - n = 0 := by omega
        simp [e2, this, e]
      · simp [e2, e]
  · rw [b_big h, decide_eq_false (by omega)]
def lb (x : Int64) (i : Nat) : Bool := x.toBitVec.getLsbD i
theorem lb_ext {x y : Int64} (h : ∀ i, i < 64 → lb x i = lb y i) : x = y := Int64.toBitVec_inj.mp (BitVec.eq_of_getLsbD_eq (fun i hi => h i hi))
theorem lb_or (x y : Int64) (i : Nat) : lb (x ||| y) i = (lb x i || lb y i) := by unfold lb; rw [Int64.toBitVec_or, BitVec.getLsbD_or]
theorem lb_and (x y : Int64) (i : Nat) : lb (x &&& y) i = (lb x i && lb y i) := by unfold lb; rw [Int64.toBitVec_and, BitVec.getLsbD_and]
theorem lb_xor (x y : Int64) (i : Nat) : lb (x ^^^ y) i = (lb x i ^^ lb y i) := by unfold lb; rw [Int64.toBitVec_xor, BitVec.getLsbD_xor]
theorem lb_big {x : Int64} {i : Nat} (h : 64 ≤ i) : lb x i = false := BitVec.getLsbD_of_ge _ _ h
theorem lb_0 (i : Nat) : lb 0 i = false := BitVec.getLsbD_zero
theorem lb_m1 : ∀ i, i < 64 → lb (-1) i = true := by decide +kernel
theorem lb_not {x : Int64} {i : Nat} (h : i < 64) : lb (x ^^^ (-1)) i = !lb x i := by rw [lb_xor, lb_m1 i h]; cases lb x i <;> rfl
theorem wb_tb (n : Nat) : (lN n).toBitVec = BitVec.ofNat 64 n := rfl
theorem wb_c : ∀ k, k < 64 → ((nI k).toInt64 &&& 63) = lN k := by decide +kernel
theorem wb_sm : ∀ k, k < 64 → (BitVec.ofNat 64 k).smod 64 = BitVec.ofNat 64 k := by decide +kernel
theorem lb_1 (i : Nat) : lb 1 i = decide (i = 0) := by
  rcases Nat.lt_or_ge i 64 with h | h
  · exact (by decide +kernel : ∀ i, i < 64 → lb 1 i = decide (i = 0)) i h
  · rw [lb_big h, decide_eq_false (by omega)]
/-- one bit of a long -/
theorem lb_one {n : Nat} (hn : n < 64) (i : Nat) : lb ((1 : Int64) <<< ((nI n).toInt64 &&& 63)) i = decide (i = n) := by
  rcases Nat.lt_or_ge i 64 with h | h
  · rw [wb_c n hn]
    unfold lb
    rw [Int64.toBitVec_shiftLeft, wb_tb, wb_sm n hn]
    show ((1 : Int64).toBitVec <<< (BitVec.ofNat 64 n).toNat).getLsbD i = _
    rw [BitVec.toNat_ofNat, Nat.mod_eq_of_lt (by omega), BitVec.getLsbD_shiftLeft]
    have h1 := lb_1 (i - n)
    unfold lb at h1
    rw [h1]
    by_cases e : i = n
    · subst e; simp [h]
    · by_cases e2 : n ≤ i
      · have : ¬ i - n = 0 := by omega
        simp [this, e]
      · have : i < n := by omega
        simp [this, e]
  · rw [lb_big h, decide_eq_false (by omega)]
theorem lb_shr {n : Nat} (hn : n < 64) (x : Int64) : lb (x >>> ((nI n).toInt64 &&& 63)) 0 = lb x n := by
  rw [wb_c n hn]
  unfold lb
  rw [Int64.toBitVec_shiftRight, wb_tb, wb_sm n hn]
  show (x.toBitVec.sshiftRight (BitVec.ofNat 64 n).toNat).getLsbD 0 = _
  rw [BitVec.toNat_ofNat, Nat.mod_eq_of_lt (by omega), BitVec.getLsbD_sshiftRight]
  simp [hn]
theorem lg_cmp0 (x y : Int64) : lg_cmp x y = 0 ↔ x = y := by
  unfold lg_cmp
  by_cases h1 : x > y
  · have : x ≠ y := fun e => by rw [e] at h1; exact absurd h1 (by simp)
    simp [h1, this]
  · by_cases h2 : x = y
    · simp [h2]
    · simp [h1, h2]
theorem lb_z {x : Int64} : x &&& 1 = 0 ↔ lb x 0 = false := by
  constructor
  · intro h
    have := congrArg (fun z => lb z 0) h
    simp only [lb_and, lb_1, lb_0] at this
    simpa using this
  · intro h
    apply lb_ext
    intro i _
    rw [lb_and, lb_1, lb_0]
    by_cases e : i = 0
    · subst e; rw [h]; rfl
    · simp [e]
theorem isIn_eq (x : Int64) {n : Nat} (h : n < 64) : f_Rf_isIn x (nI n) = some (bi (lb x n)) := by
  unfold f_Rf_isIn
  by_cases hb : lb x n = true
  · rw [if_neg]
    · rw [hb]; rfl
    · rw [lg_cmp0, lb_z, lb_shr h, hb]; decide
  · have hb : lb x n = false := by cases hh : lb x n <;> simp_all
    rw [if_pos]
    · rw [hb]; rfl
    · rw [lg_cmp0, lb_z, lb_shr h, hb]
theorem nl_0 {x : Int64} : lg_cmp x 0 = 0 ↔ ∀ i, i < 64 → lb x i = false := by
  rw [lg_cmp0]
  constructor
  · intro h i _; rw [h, lb_0]
  · intro h; exact lb_ext (fun i hi => by rw [h i hi, lb_0])
/-- an int as a long -/
theorem lb_int (x : Int32) {i : Nat} (h : i < 32) : lb x.toInt64 i = bt x i := by
  unfold lb bt
  rw [Int32.toBitVec_toInt64, BitVec.getLsbD_signExtend]
  simp [h]; omega
