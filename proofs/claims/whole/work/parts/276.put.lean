/-! put(): what fits -/
def anyD (T : AT) (l : List Nat) : Bool := l.any (fun p => decide (aM T p = 2))
theorem md_hasDefault {mb : MbS} {T : AT} {rl : List Nat} (h : MbR mb T rl) (hn : aN T ≤ 60) (hr : rl.Nodup ∧ ∀ p ∈ rl, p < aN T) (hf : Mb_rowFirst mb = nx rl.head?) {N : Nat} (hN : 100 < N) : f_Md_hasDefault N mb = some (bi (anyD T rl)) := by
  have hlen : rl.length ≤ 60 := Nat.le_trans (nodup_le hr.1 hr.2) hn
  have hs := lp_up (b := f_Md_hasDefault_L7 N mb) (e := rl.length) (st := fun i => (bi (anyD T (rl.take i)), nx rl[i]?)) (r := some (bi (anyD T rl))) (by
    intro i hi k
    have hg : rl[i]? = some rl[i] := List.getElem?_eq_getElem hi
    have hlt := hr.2 rl[i] (List.getElem_mem hi)
    have ht : anyD T (rl.take (i + 1)) = (anyD T (rl.take i) || decide (aM T rl[i] = 2)) := by
      unfold anyD
      rw [List.take_succ, hg, List.any_append]; simp
    rw [f_Md_hasDefault_L7.eq_1]
    show (if nx rl[i]? = -1 then _ else (if bi (anyD T (rl.take i)) = 0 then _ else _)) = _
    rw [b0]
    have e31 : ∀ z, f_Md_hasDefault_b31 N k z (nx rl[i]?) mb = k (z, nx rl[i + 1]?) := fun z => by
      rw [f_Md_hasDefault_b31.eq_1, hg, nx_s, if_pos (inB_nI (by omega) (by decide)), nI_clamp (by omega), h.2.2.2.2 i _ hg]
    have e26 : f_Md_hasDefault_b26 N k (nx rl[i]?) mb = k (1, nx rl[i + 1]?) := by
      rw [f_Md_hasDefault_b26.eq_1]; exact e31 1
    rw [if_neg (by rw [hg, nx_s]; exact nI_ne_m1 (by omega)), ht]
    by_cases ha : anyD T (rl.take i) = true
    · rw [if_pos ha, ha]
      exact e26
    · rw [if_neg ha]
      have ha : anyD T (rl.take i) = false := by simpa using ha
      rw [ha, Bool.false_or]
      show (if inB (nx rl[i]?) 60 = true then (if Mb_mark mb (nx rl[i]?).toNatClampNeg = 2 then f_Md_hasDefault_b26 N k (nx rl[i]?) mb else f_Md_hasDefault_b31 N k 0 (nx rl[i]?) mb) else none) = _
      rw [e26, e31, hg, nx_s, if_pos (inB_nI (by omega) (by decide)), nI_clamp (by omega), (h.2.1 _ hlt).2.2.1]
      by_cases hd : aM T rl[i] = 2
      · rw [if_pos hd, decide_eq_true hd]; rfl
      · rw [if_neg hd, decide_eq_false hd]; rfl) (by
    intro k
    rw [f_Md_hasDefault_L7.eq_1]
    show (if nx rl[rl.length]? = -1 then (if bB (bi (anyD T (rl.take rl.length))) = true then _ else _) else _) = _
    rw [List.getElem?_eq_none (Nat.le_refl _), nx_n, if_pos rfl, b0', List.take_length]) N 0 (by omega) (by omega)
  rw [f_Md_hasDefault.eq_1, ← hs, hf, head0]
  show lp _ N (0, nx rl[0]?) = lp _ N (bi (anyD T (rl.take 0)), nx rl[0]?)
  rfl
/-- a fitting part of the row -/
def fR (T : AT) (ks rl : List Nat) (K k : Nat) (x y : Int32) : Bool :=
  frB T ks rl x && (if k = 0 then decide (y = 0)
    else if k = 1 then (decide (y = 0) && !decide (rl.length = 0)) || decide (y = 1) || (decide (y = 2) && !anyD T rl)
    else if k = 2 then (decide (y = 1) || (decide (y = 2) && !anyD T rl)) && (decide (aS T x.toNatClampNeg = 13) || decide (aS T x.toNatClampNeg = 1) || decide (aS T x.toNatClampNeg = 2))
    else decide (aS T x.toNatClampNeg = 13) && (if rl.length = 0 then decide (y = -1) else inB y K))
theorem rw_fitsMark {rw : RwS} {d : Bool} (h : Rw_hasDefault rw = bi d) (y : Int32) : f_Rw_fitsMark y rw = some (bi (decide (y = 0) || decide (y = 1) || (decide (y = 2) && !d))) := by
  rw [f_Rw_fitsMark.eq_1, h, b0]
  by_cases h0 : y = 0
  · subst h0; simp [bi]
  · by_cases h1 : y = 1
    · subst h1; simp [bi]
    · by_cases h2 : y = 2
      · subst h2; cases d <;> simp [bi]
      · simp [h0, h1, h2, bi]
theorem rf_fitsRow {kn : KnS} {tr : TrS} {rw : RwS} {mb : MbS} {K : Nat} {ab : Nat → Nat} {B : Nat → Nat → Bool} {T : AT} {ks : List Nat} {fs : Nat → Nat} {k : Nat} {rl : List Nat} (h : Bld kn tr rw mb K ab B T ks fs (some k) rl) (x y : Int32) : f_Rf_fitsRow x y kn tr rw = some (bi (fR T ks rl K k x y)) := by
  obtain ⟨b1, b2, b3, b4, b5, b6, b7, b8, b9, b10, b11, b12, b13⟩ := h
  obtain ⟨a0, a1, a2, a3, a4, a5, a6, a7, -⟩ := b13
  have hn := b5.2.1
  have hlen : rl.length ≤ 60 := Nat.le_trans (nodup_le b8.1 (fun p hp => (b8.2 p hp).1)) hn
  have e1 : f_Tr_isFree x tr = some (bi (frB T ks rl x)) := tr_isFree b5 x
  have e2 : f_Tr_isFreeBlock x tr = some (bi (blB T ks rl x)) := tr_isFreeBlock b5 x
  rw [f_Rf_fitsRow.eq_1, e1, e2, kn_has b3 b1.2.1, a1, a2, rw_fitsMark a4]
  simp only [Option.bind_some, b0]
  by_cases hf : frB T ks rl x = true
  · rw [if_pos hf]
    obtain ⟨p, hp, rfl, hpk, hpr⟩ := frB_of hf hn
    have hb : blB T ks rl (nI p) = decide (aS T p = 13) := by unfold blB; rw [hf, nI_clamp (by omega)]; rfl
    unfold fR
    rw [hf, hb, if_pos (inB_nI (by omega) (by decide)), nI_clamp (by omega), (b5.2.2.2.1 p hp).1, f_Rf_fitsRules.eq_1]
    have hk : k = 0 ∨ k = 1 ∨ k = 2 ∨ k = 3 := by omega
    rcases hk with rfl | rfl | rfl | rfl
    · rw [if_pos (by decide)]
      by_cases c : y = 0 <;> simp [c, bi]
    · rw [if_neg (by decide), if_pos (by decide)]
      have hle : nI rl.length ≤ 0 ↔ rl.length = 0 := by
        constructor
        · intro hh
          by_cases c : rl.length = 0
          · exact c
          · exact absurd hh (nI_nle (by omega) (by omega))
        · intro hh; rw [hh]; decide
      have hd : (!decide (1 = 3) && rl.any (fun p => decide (aM T p = 2))) = anyD T rl := by simp [anyD]
      rw [hd]
      by_cases c0 : y = 0
      · subst c0
        by_cases c : rl.length = 0
        · have h00 : nI 0 ≤ 0 := by decide
          simp [c, bi, h00]
        · have : ¬ nI rl.length ≤ 0 := fun hh => c (hle.mp hh)
          simp [this, c, bi]
      · by_cases c1 : y = 1
        · subst c1; simp [bi]
        · by_cases c2 : y = 2
          · subst c2; cases anyD T rl <;> simp [bi]
          · simp [c0, c1, c2, bi]
    · rw [if_neg (by decide), if_neg (by decide), if_pos (by decide)]
      have hd : (!decide (2 = 3) && rl.any (fun p => decide (aM T p = 2))) = anyD T rl := by simp [anyD]
      rw [hd]
      by_cases c0 : y = 0
      · subst c0; simp [bi]
      · by_cases c1 : y = 1
        · subst c1
          by_cases d1 : aS T p = 13 <;> by_cases d2 : aS T p = 1 <;> by_cases d3 : aS T p = 2 <;> simp_all [bi]
        · by_cases c2 : y = 2
          · subst c2
            cases anyD T rl <;> by_cases d1 : aS T p = 13 <;> by_cases d2 : aS T p = 1 <;> by_cases d3 : aS T p = 2 <;> simp_all [bi]
          · simp [c0, c1, c2, bi]
    · rw [if_neg (by decide), if_neg (by decide), if_neg (by decide)]
      have hz : nI rl.length = 0 ↔ rl.length = 0 := by
        rw [show (0 : Int32) = nI 0 by decide]; exact nI_eq (by omega) (by omega)
      by_cases d1 : aS T p = 13
      · by_cases c : rl.length = 0
        · rw [if_pos (hz.mpr c)]
          by_cases c2 : y = -1 <;> simp [c, c2, d1, bi]
        · rw [if_neg (fun hh => c (hz.mp hh))]
          cases hh : inB y K <;> simp [c, d1, bi]
      · simp [d1, bi]
  · rw [if_neg hf]
    have hf : frB T ks rl x = false := by simpa using hf
    unfold fR
    rw [hf]; rfl
