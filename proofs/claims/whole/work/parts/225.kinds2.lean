/-! a KIND more -/
def abU (ab : Nat → Nat) (K a : Nat) : Nat → Nat := fun k => if k = K then a else ab k
def BU (B : Nat → Nat → Bool) (K a : Nat) : Nat → Nat → Bool := fun k c => if k = K then (decide (K = c) || B a c) else B k c
theorem KI_add {K : Nat} {ab : Nat → Nat} {B : Nat → Nat → Bool} (h : KI K ab B) {a : Nat} (ha : a < K) (hK : K < 12) : KI (K + 1) (abU ab K a) (BU B K a) := by
  obtain ⟨h1, h2, h3, h4⟩ := h
  refine ⟨by omega, by omega, ?_, ?_⟩
  · intro k hk h0
    unfold abU
    by_cases e : k = K
    · rw [if_pos e]; omega
    · rw [if_neg e]; exact h3 k (by omega) h0
  · intro k c hk
    unfold BU abU
    by_cases e : k = K
    · subst e
      have e2 : a ≠ k := by omega
      have e3 : k ≠ 0 := by omega
      simp [e2, e3]
    · by_cases e0 : k = 0
      · subst e0
        have := h4 0 c (by omega)
        simp [e] at this ⊢
        exact this
      · have e2 : ab k ≠ K := by have := h3 k (by omega) e0; omega
        simp only [e, e2, if_false]
        exact h4 k c (by omega)
def bit (n : Nat) : Int32 := (1 : Int32) <<< (nI n &&& 31)
theorem bit_bt {n : Nat} (h : n < 32) (i : Nat) : bt (bit n) i = decide (i = n) := b_one h i
def knO (kn : KnS) (K a : Nat) : Nat → Int32 := upd (Kn_over kn) K (Kn_over kn a ||| bit K)
def knW (kn : KnS) (K a i : Nat) : Nat → Int32 := fun j => if j < i ∧ bt (knO kn K a K) j = true then upd (Kn_below kn) K 0 j ||| bit K else upd (Kn_below kn) K 0 j
def knA (kn : KnS) (K a : Nat) : KnS := (nI (K + 1), knW kn K a (K + 1), knO kn K a)
theorem kn_addBelow {kn : KnS} {K a N : Nat} (hc : Kn_count kn = nI K) (hK : K < 12) (ha : a < K) (hN : 20 < N) : f_Kn_addBelow N (nI a) kn = some (nI K, knA kn K a) := by
  have h1 : (1 : Int32) = nI 1 := by decide
  rw [f_Kn_addBelow.eq_1, hc]
  rw [if_pos (inB_nI hK (by decide)), if_pos (inB_nI (by omega) (by decide)), if_pos (inB_nI hK (by decide)), nI_clamp (by omega), nI_clamp (by omega), nI_1]
  have hs := lp_up (b := f_Kn_addBelow_L40 N (nI K)) (e := K + 1) (st := fun i => (nI i, ((nI (K + 1), knW kn K a i, knO kn K a) : KnS))) (r := some (nI K, knA kn K a)) (by
    intro i hi k
    rw [f_Kn_addBelow_L40.eq_1]
    show (if nI K < nI i then _ else _) = _
    rw [if_neg (nI_nlt (by omega) (by omega)), if_pos (inB_nI hK (by decide)), nI_clamp (by omega)]
    show (f_Rf_isIn ((knO kn K a K).toInt64) (nI i)).bind _ = _
    rw [isIn_eq _ (by omega), lb_int _ (by omega)]
    show (if bi _ = 0 then _ else _) = _
    rw [b0]
    by_cases hb : bt (knO kn K a K) i = true
    · rw [if_pos hb, if_pos (inB_nI (by omega) (by decide)), if_pos (inB_nI (by omega) (by decide)), nI_clamp (by omega)]
      show k (nI i + 1, _) = _
      rw [nI_1]
      have e : upd (knW kn K a i) i (knW kn K a i i ||| bit K) = knW kn K a (i + 1) := by
        funext j
        rw [upd_a]
        unfold knW
        by_cases ej : j = i
        · subst ej
          rw [if_pos rfl, if_neg (by omega), if_pos ⟨by omega, hb⟩]
        · rw [if_neg ej]
          by_cases h2 : j < i ∧ bt (knO kn K a K) j = true
          · rw [if_pos h2, if_pos ⟨by omega, h2.2⟩]
          · rw [if_neg h2, if_neg (fun h3 => h2 ⟨by omega, h3.2⟩)]
      show k (nI (i + 1), ((nI (K + 1), upd (knW kn K a i) i (knW kn K a i i ||| bit K), knO kn K a) : KnS)) = _
      rw [e]
    · rw [if_neg hb]
      show k (nI i + 1, _) = _
      rw [nI_1]
      have e : knW kn K a i = knW kn K a (i + 1) := by
        funext j
        unfold knW
        by_cases h2 : j < i ∧ bt (knO kn K a K) j = true
        · rw [if_pos h2, if_pos ⟨by omega, h2.2⟩]
        · rw [if_neg h2, if_neg (fun h3 => by
            by_cases ej : j = i
            · subst ej; exact hb h3.2
            · exact h2 ⟨by omega, h3.2⟩)]
      show k (nI (i + 1), ((nI (K + 1), knW kn K a i, knO kn K a) : KnS)) = _
      rw [e]) (by
    intro k
    rw [f_Kn_addBelow_L40.eq_1]
    show (if nI K < nI (K + 1) then _ else _) = _
    rw [if_pos (nI_lt (by omega) (by omega))]
    rfl) N 0 (by omega) (by omega)
  have e0 : knW kn K a 0 = upd (Kn_below kn) K 0 := by
    funext j; unfold knW; rw [if_neg (by omega)]
  rw [← hs]
  show lp _ N (0, ((nI (K + 1), upd (Kn_below kn) K 0, knO kn K a) : KnS)) = lp _ N (nI 0, ((nI (K + 1), knW kn K a 0, knO kn K a) : KnS))
  rw [e0]; rfl
theorem KnR_add {kn : KnS} {K a : Nat} {ab : Nat → Nat} {B : Nat → Nat → Bool} (hI : KI K ab B) (h : KnR kn K B) (hK : K < 12) (ha : a < K) : KnR (knA kn K a) (K + 1) (BU B K a) := by
  obtain ⟨h1, h2, h3⟩ := h
  have hO : ∀ c, c < 32 → bt (knO kn K a K) c = (decide (K = c) || B a c) := by
    intro c hc
    unfold knO
    rw [upd_s, b_or, bit_bt (by omega), h2 a c ha hc]
    by_cases e : c = K
    · subst e; simp
    · have e2 : ¬ K = c := fun h => e h.symm
      simp [e, e2]
  refine ⟨rfl, ?_, ?_⟩
  · intro k c hk hc
    show bt (knO kn K a k) c = _
    unfold BU
    by_cases e : k = K
    · subst e; rw [if_pos rfl]; exact hO c hc
    · rw [if_neg e]
      unfold knO
      rw [upd_n e]
      exact h2 k c (by omega) hc
  · intro c k hc hk
    show bt (knW kn K a (K + 1) c) k = _
    have base : bt (upd (Kn_below kn) K 0 c) k = (decide (k < K) && (decide (c ≠ K) && B k c)) := by
      rw [upd_a]
      by_cases e : c = K
      · rw [if_pos e, b_0]; simp [e]
      · rw [if_neg e, h3 c k (by omega) hk]; simp [e]
    have hle := KI_le hI
    unfold knW BU
    by_cases hb : c < K + 1 ∧ bt (knO kn K a K) c = true
    · rw [if_pos hb, b_or, base, bit_bt (by omega)]
      have hb2 := hb.2
      rw [hO c (by omega)] at hb2
      by_cases e : k = K
      · subst e; simp [hb2]
      · by_cases e3 : k < K
        · have e4 : k < K + 1 := by omega
          by_cases ec : c = K
          · have hB : B k c = false := by
              cases hh : B k c
              · rfl
              · have := hle k c e3 hh; omega
            rw [ec] at hB
            simp [e, e3, e4, ec, hB]
          · simp [e, e3, e4, ec]
        · have e4 : ¬ k < K + 1 := by omega
          simp [e, e3, e4]
    · rw [if_neg hb, base]
      have hb2 : (decide (K = c) || B a c) = false := by
        rw [← hO c (by omega)]
        cases hh : bt (knO kn K a K) c
        · rfl
        · exact absurd ⟨hc, hh⟩ hb
      by_cases e : k = K
      · subst e; simp [hb2]
      · by_cases e3 : k < K
        · have e4 : k < K + 1 := by omega
          by_cases ec : c = K
          · have hB : B k c = false := by
              cases hh : B k c
              · rfl
              · have := hle k c e3 hh; omega
            rw [ec] at hB
            simp [e, e3, e4, ec, hB]
          · simp [e, e3, e4, ec]
        · have e4 : ¬ k < K + 1 := by omega
          simp [e, e3, e4]
