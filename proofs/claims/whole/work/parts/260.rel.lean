/-! THE RELATION between class and model -/
/-- a SWITCH, RULES with a DEFAULT -/
def dfB (T : AT) (m : Nat) : Bool := (decide (aS T m = 14) || decide (aS T m = 15)) && (decide (aE T m = 2) || (aP T m).any (fun p => decide (aM T p = 2)))
def shp (T : AT) (K m : Nat) : Prop :=
  (∃ s : Nat, s ≤ 16 ∧ aS T m = nI s) ∧
  ((aS T m = 0 ∨ aS T m = 1 ∨ aS T m = 2 ∨ aS T m = 3 ∨ aS T m = 10 ∨ aS T m = 11) → aP T m = []) ∧
  (aS T m = 1 → aV T m = -1 ∨ ∃ k, k < K ∧ aV T m = nI k) ∧
  (aS T m = 2 → ∃ k, k < K ∧ aV T m = nI k) ∧
  (aS T m = 3 → aV T m = 0 ∨ aV T m = 1) ∧
  (aS T m = 4 → (aP T m).length = 1 ∨ (aP T m).length = 2) ∧
  ((aS T m = 5 ∨ aS T m = 6 ∨ aS T m = 7 ∨ aS T m = 8 ∨ aS T m = 9 ∨ aS T m = 12) → (aP T m).length = 1) ∧
  ((aS T m = 4 ∨ aS T m = 5 ∨ aS T m = 6) → aV T m = 0 ∨ aV T m = 1 ∨ aV T m = 2) ∧
  (aS T m = 7 → aV T m = 0 ∨ aV T m = 1 ∨ aV T m = 2 ∨ aV T m = 3) ∧
  ((aS T m = 10 ∨ aS T m = 11) → aV T m = -1 ∨ ∃ j, j < 6 ∧ aV T m = nI j) ∧
  (aS T m = 12 → ∃ j, j < 6 ∧ aV T m = nI j) ∧
  (aS T m = 14 → (∀ (i p : Nat), (aP T m)[i]? = some p → (aM T p = 0 ∨ aM T p = 1 ∨ aM T p = 2) ∧ (i = 0 → aM T p ≠ 0)) ∧ (aE T m = 0 ∨ aE T m = 1 ∨ aE T m = 2)) ∧
  (aS T m = 15 → (∀ p ∈ aP T m, aM T p = 1 ∨ aM T p = 2) ∧ aE T m = 0) ∧
  (aS T m = 16 → 2 ≤ (aP T m).length ∧ ∀ (i p : Nat), (aP T m)[i]? = some p → if i = 0 ∨ (aH T m = true ∧ i + 1 = (aP T m).length) then aM T p = -1 else ∃ k, k < K ∧ aM T p = nI k) ∧
  (aS T m ≠ 16 → aH T m = false) ∧
  (aS T m ≠ 14 → aS T m ≠ 15 → aS T m ≠ 16 → ∀ p ∈ aP T m, aM T p = -1)
/-- the row that is being made: rk none, or its kind -/
def RowR (rw : RwS) (mb : MbS) (T : AT) (K : Nat) (rk : Option Nat) (rl : List Nat) : Prop := match rk with
  | none => Rw_sort rw = -1 ∧ Rw_size rw = 0 ∧ Rw_hasDefault rw = 0 ∧ Mb_rowKind mb = -1 ∧ rl = []
  | some k => k ≤ 3 ∧ Rw_sort rw = nI (13 + k) ∧ Rw_size rw = nI rl.length ∧ (∀ (i p : Nat), rl[i]? = some p → Rw_parts rw i = nI p) ∧ Rw_hasDefault rw = bi (!decide (k = 3) && rl.any (fun p => decide (aM T p = 2))) ∧
      Mb_rowKind mb = nI k ∧ Mb_rowCount mb = nI rl.length ∧ Mb_rowFirst mb = nx rl.head? ∧ Mb_rowLast mb = nx rl.getLast? ∧
      (k = 0 → ∀ p ∈ rl, aM T p = -1) ∧ (k = 1 → ∀ (i p : Nat), rl[i]? = some p → (aM T p = 0 ∨ aM T p = 1 ∨ aM T p = 2) ∧ (i = 0 → aM T p ≠ 0)) ∧ (k = 2 → ∀ p ∈ rl, aM T p = 1 ∨ aM T p = 2) ∧ (k = 3 → ∀ (i p : Nat), rl[i]? = some p → if i = 0 then aM T p = -1 else ∃ q, q < K ∧ aM T p = nI q)
/-- all but what was looked at -/
def Bld (kn : KnS) (tr : TrS) (rw : RwS) (mb : MbS) (K : Nat) (ab : Nat → Nat) (B : Nat → Nat → Bool) (T : AT) (ks : List Nat) (fs : Nat → Nat) (rk : Option Nat) (rl : List Nat) : Prop :=
  KI K ab B ∧ 4 ≤ K ∧ KnR kn K B ∧ MkR mb K ab ∧ TrR tr T ks fs rl ∧ MbR mb T rl ∧ WT T ∧ (rl.Nodup ∧ ∀ p ∈ rl, p < aN T ∧ p ∉ ks) ∧ (∀ m, m < aN T → shp T K m) ∧ (∀ m, m < aN T → tlR T m (Tr_tail tr m)) ∧ (∀ m, m < 64 → lb (Tr_defaults tr) m = (decide (m < aN T) && dfB T m)) ∧ (∀ p, p < aN T → p ∉ ks → p ∉ rl → aM T p = -1) ∧ RowR rw mb T K rk rl
def Rel : Rl := fun kn tr rw lk f0 f1 mb mg mx mf => ∃ (K : Nat) (ab : Nat → Nat) (B : Nat → Nat → Bool) (T : AT) (ks : List Nat) (fs : Nat → Nat) (rk : Option Nat) (rl : List Nat), Bld kn tr rw mb K ab B T ks fs rk rl ∧ LkR (aN T) lk f0 f1 mg mx mf
/-- ks: all that is a part -/
theorem ks_iff {tr : TrS} {T : AT} {ks : List Nat} {fs : Nat → Nat} {rl : List Nat} (h : TrR tr T ks fs rl) : ∀ p, p < aN T → (p ∈ ks ↔ ∃ m, m < aN T ∧ p ∈ aP T m) := fun p _ => ⟨h.2.2.2.2.2.2.2.2.2.1 p, fun ⟨m, hm, hp⟩ => TrR_sub h m hm p hp⟩
/-- the questions of what was looked at -/
theorem s_reached (N : Nat) : S_reached N Rel := by
  intro kn tr rw lk f0 f1 mb mg mx mf x hR
  have hR' := hR
  obtain ⟨K, ab, B, T, ks, fs, rk, rl, hB, hL⟩ := hR
  obtain ⟨r, h1, h2⟩ := q_reached hB.2.2.2.2.1.1 hB.2.2.2.2.2.1.1 hB.2.2.2.2.1.2.1 hL x
  exact ⟨r, r, h1, h2, rfl, hR'⟩
theorem s_completes (N : Nat) : S_completes N Rel := by
  intro kn tr rw lk f0 f1 mb mg mx mf x hR
  have hR' := hR
  obtain ⟨K, ab, B, T, ks, fs, rk, rl, hB, hL⟩ := hR
  obtain ⟨r, h1, h2⟩ := q_completes hB.2.2.2.2.1.1 hB.2.2.2.2.2.1.1 hB.2.2.2.2.1.2.1 hL x
  exact ⟨r, r, h1, h2, rfl, hR'⟩
theorem s_walked (N : Nat) : S_walked N Rel := by
  intro kn tr rw lk f0 f1 mb mg mx mf x hR
  have hR' := hR
  obtain ⟨K, ab, B, T, ks, fs, rk, rl, hB, hL⟩ := hR
  obtain ⟨r, h1, h2⟩ := q_walked hB.2.2.2.2.1.1 hB.2.2.2.2.2.1.1 hB.2.2.2.2.1.2.1 hL x
  exact ⟨r, r, h1, h2, rfl, hR'⟩
theorem s_target (N : Nat) : S_target N Rel := by
  intro kn tr rw lk f0 f1 mb mg mx mf x hR
  have hR' := hR
  obtain ⟨K, ab, B, T, ks, fs, rk, rl, hB, hL⟩ := hR
  obtain ⟨r, h1, h2⟩ := q_target hB.2.2.2.2.1.1 hB.2.2.2.2.2.1.1 hB.2.2.2.2.1.2.1 hL x
  exact ⟨r, r, h1, h2, rfl, hR'⟩
theorem s_can (N : Nat) : S_can N Rel := by
  intro kn tr rw lk f0 f1 mb mg mx mf x y hR
  have hR' := hR
  obtain ⟨K, ab, B, T, ks, fs, rk, rl, hB, hL⟩ := hR
  obtain ⟨r, h1, h2⟩ := q_can hB.1.2.1 hB.2.2.1 hB.2.2.2.1 hB.2.2.2.2.1.1 hB.2.2.2.2.2.1.1 hB.2.2.2.2.1.2.1 hL x y
  exact ⟨r, r, h1, h2, rfl, hR'⟩
theorem s_ends (N : Nat) : S_ends N Rel := by
  intro kn tr rw lk f0 f1 mb mg mx mf x y z hR
  have hR' := hR
  obtain ⟨K, ab, B, T, ks, fs, rk, rl, hB, hL⟩ := hR
  obtain ⟨r, h1, h2⟩ := q_ends hB.1.2.1 hB.2.2.1 hB.2.2.2.1 hB.2.2.2.2.1.1 hB.2.2.2.2.2.1.1 hB.2.2.2.2.1.2.1 hL x y z
  exact ⟨r, r, h1, h2, rfl, hR'⟩
theorem s_fault (N : Nat) : S_fault N Rel := by
  intro kn tr rw lk f0 f1 mb mg mx mf x y hR
  have hR' := hR
  obtain ⟨K, ab, B, T, ks, fs, rk, rl, hB, hL⟩ := hR
  obtain ⟨r, h1, h2⟩ := q_fault hL x y
  exact ⟨r, r, h1, h2, rfl, hR'⟩
theorem s_notes (N : Nat) : S_notes N Rel := by
  intro kn tr rw lk f0 f1 mb mg mx mf hR
  have hR' := hR
  obtain ⟨K, ab, B, T, ks, fs, rk, rl, hB, hL⟩ := hR
  obtain ⟨r, h1, h2⟩ := q_notes hL
  exact ⟨r, r, h1, h2, rfl, hR'⟩
theorem s_note (N : Nat) : S_note N Rel := by
  intro kn tr rw lk f0 f1 mb mg mx mf x hR
  have hR' := hR
  obtain ⟨K, ab, B, T, ks, fs, rk, rl, hB, hL⟩ := hR
  obtain ⟨r, h1, h2⟩ := q_note hL x
  exact ⟨r, r, h1, h2, rfl, hR'⟩
theorem s_of (N : Nat) : S_of N Rel := by
  intro kn tr rw lk f0 f1 mb mg mx mf x hR
  have hR' := hR
  obtain ⟨K, ab, B, T, ks, fs, rk, rl, hB, hL⟩ := hR
  have ht := hB.2.2.2.2.1.1
  have hm := hB.2.2.2.2.2.1.1
  have hk := hB.2.2.1.1
  have hk2 := hB.2.2.2.1.1
  have hrow := hB.2.2.2.2.2.2.2.2.2.2.2.2
  rw [f_Rf_of.eq_1, f_Md_of.eq_1, ht, hm, hk, hk2, hL.1, f_Rw_isOpen.eq_1]
  by_cases c0 : x = 0
  · simp only [if_pos c0]; exact ⟨_, _, rfl, rfl, rfl, hR'⟩
  · simp only [if_neg c0]
    by_cases c1 : x = 1
    · simp only [if_pos c1]; exact ⟨_, _, rfl, rfl, rfl, hR'⟩
    · simp only [if_neg c1]
      by_cases c2 : x = 2
      · simp only [if_pos c2]
        cases rk with
        | none =>
          obtain ⟨a1, a2, a3, a4, a5⟩ := hrow
          rw [a1, a4, if_pos rfl, if_pos rfl]; exact ⟨_, _, rfl, rfl, rfl, hR'⟩
        | some k =>
          obtain ⟨a0, a1, a2, a3, a4, a5, a6, -⟩ := hrow
          rw [a1, a5, a2, a6, if_neg (nI_ne_m1 (by omega)), if_neg (nI_ne_m1 (by omega))]; exact ⟨_, _, rfl, rfl, rfl, hR'⟩
      · simp only [if_neg c2]
        by_cases c3 : x = 3
        · simp only [if_pos c3]; exact ⟨_, _, rfl, rfl, rfl, hR'⟩
        · simp only [if_neg c3]; exact ⟨_, _, rfl, rfl, rfl, hR'⟩
