/-! the KINDS at first; exception() -/
def abS : Nat → Nat := abU (abU (abU (fun _ => 0) 1 0) 2 1) 3 0
def BS : Nat → Nat → Bool := BU (BU (BU (fun k c => decide (k = c)) 1 0) 2 1) 3 0
theorem KI_0 : KI 1 (fun _ => 0) (fun k c => decide (k = c)) := by
  refine ⟨by omega, by omega, fun k h1 h2 => by omega, fun k c hk => ?_⟩
  have e : k = 0 := by omega
  subst e; simp
theorem KI_S : KI 4 abS BS := KI_add (KI_add (KI_add KI_0 (by omega) (by omega)) (by omega) (by omega)) (by omega) (by omega)
theorem kn_start {kn : KnS} {N : Nat} (hN : 20 < N) : ∃ kn', f_Kn_startAgain N kn = some kn' ∧ KnR kn' 4 BS := by
  have c0 : (0 : Int32).toNatClampNeg = 0 := by decide
  have i0 : inB (0 : Int32) 12 = true := by decide
  have r1 : KnR ((1 : Int32), (upd (Kn_below kn) 0 1), (upd (Kn_over kn) 0 1)) 1 (fun k c => decide (k = c)) := by
    refine ⟨by show (1 : Int32) = nI 1; decide, ?_, ?_⟩
    · intro k c hk hc
      have e : k = 0 := by omega
      subst e
      show bt (upd (Kn_over kn) 0 1 0) c = _
      rw [upd_s, b_1]
      by_cases e : c = 0
      · subst e; simp
      · have e2 : ¬ 0 = c := fun h => e h.symm
        simp [e, e2]
    · intro c k hc hk
      have e : c = 0 := by omega
      subst e
      show bt (upd (Kn_below kn) 0 1 0) k = _
      rw [upd_s, b_1]
      by_cases e : k = 0
      · subst e; simp
      · simp [e]
  have r2 := KnR_add (a := 0) KI_0 r1 (by omega) (by omega)
  have k2 := KI_add (a := 0) KI_0 (by omega) (by omega)
  have r3 := KnR_add (a := 1) k2 r2 (by omega) (by omega)
  have k3 := KI_add (a := 1) k2 (by omega) (by omega)
  have r4 := KnR_add (a := 0) k3 r3 (by omega) (by omega)
  refine ⟨_, ?_, r4⟩
  rw [f_Kn_startAgain.eq_1, if_pos i0, if_pos i0, c0]
  have z0 : (0 : Int32) = nI 0 := by decide
  have z1 : (1 : Int32) = nI 1 := by decide
  have s1 := kn_addBelow (kn := ((1 : Int32), (upd (Kn_below kn) 0 1), (upd (Kn_over kn) 0 1))) (K := 1) (a := 0) (N := N) z1 (by omega) (by omega) hN
  have s2 := kn_addBelow (K := 2) (a := 1) (N := N) r2.1 (by omega) (by omega) hN
  have s3 := kn_addBelow (K := 3) (a := 0) (N := N) r3.1 (by omega) (by omega) hN
  show (f_Kn_addBelow N (nI 0) _).bind _ = _
  rw [s1]
  show (f_Kn_addBelow N (nI 1) _).bind _ = _
  rw [s2]
  show (f_Kn_addBelow N (nI 0) _).bind _ = _
  rw [s3]
  rfl
theorem rf_exception {kn : KnS} {K N : Nat} {ab : Nat → Nat} {B : Nat → Nat → Bool} (hI : KI K ab B) (h : KnR kn K B) (hN : 20 < N) (x : Int32) :
    f_Rf_exception N x kn = some (if inB x K = true then (if K < 12 then (nI K, knA kn K x.toNatClampNeg) else (-3, kn)) else (-2, kn)) := by
  have hK := hI.2.1
  rw [f_Rf_exception.eq_1, kn_has h hK]
  show (if bi _ = 0 then _ else _) = _
  rw [b0]
  by_cases hx : inB x K = true
  · rw [if_pos hx, if_pos hx]
    obtain ⟨a, ha, rfl⟩ := inB_of hx (by omega)
    have e12 : (12 : Int32) = nI 12 := by decide
    rw [h.1, e12]
    by_cases h12 : K < 12
    · rw [if_pos (nI_lt h12 (by decide)), if_pos h12, kn_addBelow h.1 h12 ha hN, nI_clamp (by omega)]; rfl
    · rw [if_neg (nI_nlt (by omega) (by omega)), if_neg h12]
  · rw [if_neg hx, if_neg hx]
def mbX (mb : MbS) (K : Nat) (x : Int32) : MbS := (nI (K + 1), (upd (Mb_above mb) K x), (Mb_nodes mb), (Mb_sort mb), (Mb_given mb), (Mb_partOf mb), (Mb_mark mb), (Mb_first mb), (Mb_last mb), (Mb_next mb), (Mb_before mb), (Mb_hasEnding mb), (Mb_endMark mb), (Mb_inRow mb), (Mb_rowKind mb), (Mb_rowFirst mb), (Mb_rowLast mb), (Mb_rowCount mb))
theorem md_exception {mb : MbS} {K : Nat} {ab : Nat → Nat} (hK : K ≤ 12) (h : MkR mb K ab) (x : Int32) :
    f_Md_exception x mb = some (if inB x K = true then (if K < 12 then (nI K, mbX mb K x) else (-3, mb)) else (-2, mb)) := by
  rw [f_Md_exception.eq_1, md_isKind h hK]
  show (if bi _ = 0 then _ else _) = _
  rw [b0]
  by_cases hx : inB x K = true
  · rw [if_pos hx, if_pos hx]
    have e12 : (12 : Int32) = nI 12 := by decide
    rw [h.1, e12]
    by_cases h12 : K < 12
    · rw [if_neg (fun h => by have := (nI_eq (by omega) (by omega)).mp h; omega), if_pos h12, if_pos (inB_nI h12 (by decide)), nI_clamp (by omega), nI_1, show nI (K + 1) - 1 = nI K from nI_pred K]; rfl
    · have e : K = 12 := by omega
      subst e
      rw [if_pos rfl, if_neg h12]
  · rw [if_neg hx, if_neg hx]
theorem MkR_add {mb : MbS} {K a : Nat} {ab : Nat → Nat} (hK : 1 ≤ K) (h : MkR mb K ab) (ha : a < K) : MkR (mbX mb K (nI a)) (K + 1) (abU ab K a) := by
  obtain ⟨h1, h2, h3⟩ := h
  refine ⟨rfl, ?_, ?_⟩
  · show upd (Mb_above mb) K (nI a) 0 = -1
    rw [upd_n (by omega)]; exact h2
  · intro k hk h0
    show upd (Mb_above mb) K (nI a) k = _
    unfold abU
    by_cases e : k = K
    · subst e; rw [upd_s, if_pos rfl]
    · rw [upd_n e, if_neg e]; exact h3 k (by omega) h0
