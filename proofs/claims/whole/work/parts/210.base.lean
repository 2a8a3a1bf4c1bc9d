theorem inB_iff {x : Int32} {n : Nat} (hn : n < 2 ^ 31) : inB x n = true ↔ ¬ x < 0 ∧ ¬ nI n ≤ x := by
  constructor
  · intro h
    obtain ⟨h1, h2⟩ := vp_in_iff.mp (inB_in h)
    rw [Int32.lt_iff_toInt_lt, Int32.le_iff_toInt_le, nI_toInt hn]
    constructor
    · show ¬ x.toInt < 0; omega
    · omega
  · intro ⟨h1, h2⟩
    apply in_inB
    apply vp_in_iff.mpr
    rw [Int32.lt_iff_toInt_lt] at h1
    rw [Int32.le_iff_toInt_le, nI_toInt hn] at h2
    have h1 : ¬ x.toInt < 0 := h1
    omega
theorem inB_nI {n N : Nat} (h : n < N) (hN : N < 2 ^ 31) : inB (nI n) N = true := in_inB (vp_in_nI h hN)
theorem inB_of {x : Int32} {n : Nat} (h : inB x n = true) (hn : n < 2 ^ 31) : ∃ j : Nat, j < n ∧ x = nI j := vp_in_of (inB_in h) hn
theorem inB_nN {n N : Nat} (hN : N < 2 ^ 31) (hn : n < 2 ^ 31) : inB (nI n) N = decide (n < N) := by
  by_cases h : n < N
  · rw [inB_nI h hN]; simp [h]
  · have : ¬ inB (nI n) N = true := fun e => by
      obtain ⟨h1, h2⟩ := (inB_iff hN).mp e
      exact h2 (nI_le (by omega) (by omega))
    simp [h, this]
theorem inB_m1 (N : Nat) : inB (-1) N = false := by
  have : ¬ inB (-1) N = true := fun e => (inB_in e) (Or.inl (by decide))
  cases h : inB (-1) N
  · rfl
  · exact absurd h this
theorem nI_ne_m1 {n : Nat} (h : n < 2 ^ 31) : ¬ nI n = (-1 : Int32) := by
  intro e
  have := congrArg Int32.toInt e
  rw [nI_toInt h] at this
  have h2 : (-1 : Int32).toInt = -1 := by decide
  omega
theorem has_eq {x c : Int32} {n : Nat} (hc : c = nI n) (hn : n < 2 ^ 31) : (if x < 0 then some (0 : Int32) else (if c ≤ x then some (0 : Int32) else some (1 : Int32))) = some (bi (inB x n)) := by
  subst hc
  by_cases h : inB x n = true
  · obtain ⟨h1, h2⟩ := (inB_iff hn).mp h
    rw [if_neg h1, if_neg h2, h]; rfl
  · have hf : inB x n = false := by simpa using h
    rw [hf]
    by_cases h1 : x < 0
    · rw [if_pos h1]; rfl
    · rw [if_neg h1]
      by_cases h2 : nI n ≤ x
      · rw [if_pos h2]; rfl
      · exact absurd ((inB_iff hn).mpr ⟨h1, h2⟩) h
theorem upd_s {f : Nat → Int32} {k : Nat} {x : Int32} : upd f k x k = x := pk_us
theorem upd_n {f : Nat → Int32} {k j : Nat} {x : Int32} (h : j ≠ k) : upd f k x j = f j := pk_un h
theorem upd_a (f : Nat → Int32) (k : Nat) (x : Int32) (j : Nat) : upd f k x j = if j = k then x else f j := rfl
theorem updL_a (f : Nat → Int64) (k : Nat) (x : Int64) (j : Nat) : vp_updL f k x j = if j = k then x else f j := rfl
/-- a counting loop: its state is a function of the number -/
theorem lp_up {σ α : Type} {b : (σ → Option α) → σ → Option α} {e : Nat} {st : Nat → σ} {r : Option α} (hstep : ∀ i, i < e → ∀ k, b k (st i) = k (st (i + 1))) (hend : ∀ k, b k (st e) = r) : ∀ (n i : Nat), i ≤ e → e - i < n → lp b n (st i) = r := by
  intro n
  induction n with
  | zero => intro i _ h; omega
  | succ n ih =>
    intro i h1 h2
    show b (lp b n) (st i) = r
    by_cases h : i = e
    · subst h; exact hend _
    · rw [hstep i (by omega)]
      exact ih (i + 1) (by omega) (by omega)
/-- a loop with an invariant and a measure that falls -/
theorem lp_ex {σ α : Type} {b : (σ → Option α) → σ → Option α} (I : Nat → σ → Prop) (P : Option α → Prop) (hs : ∀ j s, I j s → (∃ j' s', j' < j ∧ I j' s' ∧ ∀ k, b k s = k s') ∨ ∃ r, P r ∧ ∀ k, b k s = r) : ∀ (n j : Nat) (s : σ), I j s → j < n → P (lp b n s) := by
  intro n
  induction n with
  | zero => intro j s _ h; omega
  | succ n ih =>
    intro j s hI hj
    show P (b (lp b n) s)
    rcases hs j s hI with ⟨j', s', h1, h2, h3⟩ | ⟨r, h1, h2⟩
    · rw [h3]; exact ih j' s' h2 (by omega)
    · rw [h2]; exact h1
theorem b0 {b : Bool} {α : Type} {x y : α} : (if bi b = 0 then x else y) = if b = true then y else x := by cases b <;> rfl
