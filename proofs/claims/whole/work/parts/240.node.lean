/-! what may be a NODE: one test for class and model -/
theorem ite_bi {c : Prop} [Decidable c] {a b : Bool} : some (bi (if c then a else b)) = if c then some (bi a) else some (bi b) := by split <;> rfl
def tI (x l h : Int32) : Bool := if x < l then false else if h < x then false else true
theorem md_tI (x l h : Int32) : f_Md_isIn x l h = some (bi (tI x l h)) := by
  rw [f_Md_isIn.eq_1, tI, ite_bi, ite_bi]; rfl
theorem rf_isTest (x l : Int32) : f_Rf_isTest x l = some (bi (tI x 0 l)) := by
  rw [f_Rf_isTest.eq_1, tI, ite_bi, ite_bi]; rfl
/-- FREE -/
def frB (T : AT) (ks rl : List Nat) (x : Int32) : Bool := inB x (aN T) && !(decide (x.toNatClampNeg ∈ ks) || decide (x.toNatClampNeg ∈ rl))
def blB (T : AT) (ks rl : List Nat) (x : Int32) : Bool := frB T ks rl x && decide (aS T x.toNatClampNeg = 13)
def fN (kb fr bl : Int32 → Bool) (x1 x2 x3 x4 : Int32) : Bool :=
  if x1 = 4 then (tI x2 0 2 && fr x3 && (decide (x4 = -1) || (fr x4 && !decide (x3 = x4))))
  else decide (x4 = -1) &&
    (if x1 = 0 then decide (x2 = 0) && decide (x3 = -1)
    else if x1 = 1 then decide (x2 = 0) && (decide (x3 = -1) || kb x3)
    else if x1 = 2 then decide (x2 = 0) && kb x3
    else if x1 = 3 then decide (x2 = 0) && (decide (x3 = 0) || decide (x3 = 1))
    else if x1 = 5 then tI x2 0 2 && fr x3
    else if x1 = 6 then tI x2 0 2 && fr x3
    else if x1 = 7 then tI x2 0 3 && fr x3
    else if x1 = 8 then decide (x2 = 0) && fr x3
    else if x1 = 9 then decide (x2 = 0) && bl x3
    else false)
theorem rf_fitsNode {kn : KnS} {K : Nat} {B : Nat → Nat → Bool} {tr : TrS} {T : AT} {ks : List Nat} {fs : Nat → Nat} {rl : List Nat} (hk : KnR kn K B) (hK : K ≤ 12) (h : TrR tr T ks fs rl) (x1 x2 x3 x4 : Int32) :
    f_Rf_fitsNode x1 x2 x3 x4 kn tr = some (bi (fN (fun x => inB x K) (frB T ks rl) (blB T ks rl) x1 x2 x3 x4)) := by
  have e1 : ∀ x, f_Tr_isFree x tr = some (bi (frB T ks rl x)) := fun x => tr_isFree h x
  have e2 : ∀ x, f_Tr_isFreeBlock x tr = some (bi (blB T ks rl x)) := fun x => tr_isFreeBlock h x
  rw [f_Rf_fitsNode.eq_1]
  simp only [f_Rf_fitsNode_b197.eq_1, rf_isTest, e1, e2, kn_has hk hK, Option.bind_some, b0]
  generalize frB T ks rl = fr
  generalize blB T ks rl = bl
  unfold fN
  by_cases c4 : x1 = 4
  · simp only [c4, if_true]
    cases tI x2 0 2 <;> cases fr x3 <;> cases fr x4 <;> by_cases c : x4 = -1 <;> by_cases c' : x3 = x4 <;> simp_all [bi]
  · simp only [c4, if_false]
    by_cases cm : x4 = -1
    · simp only [cm, if_true, decide_true, Bool.true_and]
      by_cases c0 : x1 = 0
      · simp only [c0, if_true]
        by_cases d : x2 = 0 <;> by_cases d' : x3 = -1 <;> simp [d, d', bi]
      · simp only [c0, if_false]
        by_cases c1 : x1 = 1
        · simp only [c1, if_true]
          by_cases d : x2 = 0 <;> by_cases d' : x3 = -1 <;> cases hh : inB x3 K <;> simp_all [bi]
        · simp only [c1, if_false]
          by_cases c2 : x1 = 2
          · simp only [c2, if_true]
            by_cases d : x2 = 0 <;> cases hh : inB x3 K <;> simp_all [bi]
          · simp only [c2, if_false]
            by_cases c3 : x1 = 3
            · simp only [c3, if_true]
              by_cases d : x2 = 0 <;> by_cases d' : x3 = 0 <;> by_cases d2 : x3 = 1 <;> simp_all [bi]
            · simp only [c3, if_false]
              by_cases c5 : x1 = 5
              · simp only [c5, if_true]; cases tI x2 0 2 <;> cases fr x3 <;> simp [bi]
              · simp only [c5, if_false]
                by_cases c6 : x1 = 6
                · simp only [c6, if_true]; cases tI x2 0 2 <;> cases fr x3 <;> simp [bi]
                · simp only [c6, if_false]
                  by_cases c7 : x1 = 7
                  · simp only [c7, if_true]; cases tI x2 0 3 <;> cases fr x3 <;> simp [bi]
                  · simp only [c7, if_false]
                    by_cases c8 : x1 = 8
                    · simp only [c8, if_true]; by_cases d : x2 = 0 <;> cases fr x3 <;> simp [d, bi]
                    · simp only [c8, if_false]
                      by_cases c9 : x1 = 9
                      · simp only [c9, if_true]; by_cases d : x2 = 0 <;> cases bl x3 <;> simp [d, bi]
                      · simp only [c9, if_false]; rfl
    · simp [cm, bi]
theorem md_isFree' {mb : MbS} {T : AT} {ks rl : List Nat} (h : MbR mb T rl) (hn : aN T ≤ 60) (hk : ∀ p, p < aN T → (p ∈ ks ↔ ∃ m, m < aN T ∧ p ∈ aP T m)) (x : Int32) : f_Md_isFree x mb = some (bi (frB T ks rl x)) := md_isFree h hn hk x
theorem md_bl {mb : MbS} {T : AT} {ks rl : List Nat} (h : MbR mb T rl) (hn : aN T ≤ 60) {x : Int32} {α : Type} {A B : Option α} (hf : frB T ks rl x = true) : (if inB x 60 = true then (if ((Mb_sort mb) x.toNatClampNeg) = (13 : Int32) then A else B) else none) = if blB T ks rl x = true then A else B := by
  have hx : inB x (aN T) = true := by
    unfold frB at hf; rw [Bool.and_eq_true] at hf; exact hf.1
  obtain ⟨a, ha, rfl⟩ := inB_of hx (by omega)
  unfold blB
  rw [if_pos (inB_nI (by omega) (by decide)), nI_clamp (by omega), (h.2.1 a ha).1, hf, Bool.true_and]
  by_cases e : aS T a = 13 <;> simp [e]
theorem tI_01 (x : Int32) : tI x 0 1 = (decide (x = 0) || decide (x = 1)) := by
  unfold tI
  by_cases h1 : x < 0
  · rw [if_pos h1]
    have a : x ≠ 0 := fun e => by subst e; exact absurd h1 (by decide)
    have b : x ≠ 1 := fun e => by subst e; exact absurd h1 (by decide)
    simp [a, b]
  · rw [if_neg h1]
    by_cases h2 : 1 < x
    · rw [if_pos h2]
      have a : x ≠ 0 := fun e => by subst e; exact absurd h2 (by decide)
      have b : x ≠ 1 := fun e => by subst e; exact absurd h2 (by decide)
      simp [a, b]
    · rw [if_neg h2]
      rw [Int32.lt_iff_toInt_lt] at h1 h2
      have z0 : (0 : Int32).toInt = 0 := by decide
      have z1 : (1 : Int32).toInt = 1 := by decide
      have : x.toInt = 0 ∨ x.toInt = 1 := by omega
      rcases this with h | h
      · have : x = 0 := Int32.toInt_inj.mp (h.trans z0.symm); simp [this]
      · have : x = 1 := Int32.toInt_inj.mp (h.trans z1.symm); simp [this]
theorem tI_00 (x : Int32) : tI x 0 0 = decide (x = 0) := by
  unfold tI
  by_cases h : x = 0
  · subst h; decide
  · by_cases h1 : x < 0
    · simp [h1, h]
    · have h2 : (0 : Int32) < x := by
        rw [Int32.lt_iff_toInt_lt] at *
        have : x.toInt ≠ (0 : Int32).toInt := fun e => h (Int32.toInt_inj.mp e)
        omega
      simp [h1, h2, h]
