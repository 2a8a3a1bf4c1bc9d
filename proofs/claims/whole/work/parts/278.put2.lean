theorem tI_12 (y : Int32) : tI y 1 2 = (decide (y = 1) || decide (y = 2)) := by
  unfold tI
  have z1 : (1 : Int32).toInt = 1 := by decide
  have z2 : (2 : Int32).toInt = 2 := by decide
  by_cases h1 : y = 1
  · subst h1; decide
  · by_cases h2 : y = 2
    · subst h2; decide
    · have n1 : y.toInt ≠ 1 := fun e => h1 (Int32.toInt_inj.mp (e.trans z1.symm))
      have n2 : y.toInt ≠ 2 := fun e => h2 (Int32.toInt_inj.mp (e.trans z2.symm))
      by_cases c : y < 1
      · simp [c, h1, h2]
      · have c2 : 2 < y := by
          rw [Int32.lt_iff_toInt_lt] at *; omega
        simp [c, c2, h1, h2]
theorem tI_02' (y : Int32) : tI y 0 2 = (decide (y = 0) || decide (y = 1) || decide (y = 2)) := by
  by_cases h : tI y 0 2 = true
  · rw [h]
    rcases tI_02 h with rfl | rfl | rfl <;> decide
  · have hf : tI y 0 2 = false := by simpa using h
    have ne : ∀ k : Int32, tI k 0 2 = true → y ≠ k := fun k hk e => by subst e; exact h hk
    have n0 := ne 0 (by decide)
    have n1 := ne 1 (by decide)
    have n2 := ne 2 (by decide)
    rw [hf]; simp [n0, n1, n2]
theorem md_mayPut {kn : KnS} {tr : TrS} {rw : RwS} {mb : MbS} {K : Nat} {ab : Nat → Nat} {B : Nat → Nat → Bool} {T : AT} {ks : List Nat} {fs : Nat → Nat} {k : Nat} {rl : List Nat} (h : Bld kn tr rw mb K ab B T ks fs (some k) rl) {N : Nat} (hN : 100 < N) (x y : Int32) : f_Md_mayPut N x y mb = some (bi (fR T ks rl K k x y)) := by
  obtain ⟨b1, b2, b3, b4, b5, b6, b7, b8, b9, b10, b11, b12, b13⟩ := h
  obtain ⟨a0, a1, a2, a3, a4, a5, a6, a7, -⟩ := b13
  have hn := b5.2.1
  have hlen : rl.length ≤ 60 := Nat.le_trans (nodup_le b8.1 (fun p hp => (b8.2 p hp).1)) hn
  have e1 : f_Md_isFree x mb = some (bi (frB T ks rl x)) := md_isFree' b6 hn (ks_iff b5) x
  have e2 := md_hasDefault b6 hn ⟨b8.1, fun p hp => (b8.2 p hp).1⟩ a7 hN
  have hz : nI rl.length = 0 ↔ rl.length = 0 := by
    rw [show (0 : Int32) = nI 0 by decide]; exact nI_eq (by omega) (by omega)
  rw [f_Md_mayPut.eq_1, e1]
  simp only [f_Md_mayPut_b71.eq_1, f_Md_mayPut_b121.eq_1, md_isKind b4 b1.2.1, e2, a5, a6, md_tI, tI_12, tI_02', Option.bind_some, b0]
  by_cases hf : frB T ks rl x = true
  · rw [if_pos hf]
    obtain ⟨p, hp, rfl, hpk, hpr⟩ := frB_of hf hn
    unfold fR
    rw [hf, if_pos (inB_nI (by omega) (by decide)), nI_clamp (by omega), (b6.2.1 p hp).1]
    have hk : k = 0 ∨ k = 1 ∨ k = 2 ∨ k = 3 := by omega
    rcases hk with rfl | rfl | rfl | rfl
    · rw [if_pos (by decide)]
      by_cases c : y = 0 <;> simp [c, bi]
    · rw [if_neg (by decide), if_pos (by decide)]
      by_cases c : rl.length = 0
      · rw [if_pos (hz.mpr c)]
        by_cases c0 : y = 0
        · subst c0; simp [c, bi]
        · by_cases c1 : y = 1
          · subst c1; simp [bi]
          · by_cases c2 : y = 2
            · subst c2; cases anyD T rl <;> simp [bi]
            · simp [c0, c1, c2, bi]
      · rw [if_neg (fun hh => c (hz.mp hh))]
        by_cases c0 : y = 0
        · subst c0; simp [c, bi]
        · by_cases c1 : y = 1
          · subst c1; simp [bi]
          · by_cases c2 : y = 2
            · subst c2; cases anyD T rl <;> simp [bi]
            · simp [c0, c1, c2, bi]
    · rw [if_neg (by decide), if_neg (by decide), if_pos (by decide)]
      by_cases c1 : y = 1
      · subst c1
        by_cases d1 : aS T p = 13 <;> by_cases d2 : aS T p = 1 <;> by_cases d3 : aS T p = 2 <;> simp_all [bi]
      · by_cases c2 : y = 2
        · subst c2
          cases anyD T rl <;> by_cases d1 : aS T p = 13 <;> by_cases d2 : aS T p = 1 <;> by_cases d3 : aS T p = 2 <;> simp_all [bi]
        · simp [c1, c2, bi]
    · rw [if_neg (by decide), if_neg (by decide), if_neg (by decide)]
      by_cases d1 : aS T p = 13
      · by_cases c : rl.length = 0
        · rw [if_pos (hz.mpr c)]
          by_cases c2 : y = -1 <;> simp [c, c2, d1, bi]
        · rw [if_neg (fun hh => c (hz.mp hh))]
          cases hh : inB y K <;> simp [c, d1, bi]
      · simp [d1, bi]
  · rw [if_neg hf]
    have hf : frB T ks rl x = false := by simpa using hf
    unfold fR
    rw [hf]; rfl
/-- a part more in the row -/
def puT (T : AT) (p : Nat) (z : Int32) : AT := (aN T, aS T, aV T, upd (aM T) p z, aP T, aE T, aH T)
def trP (tr : TrS) (p : Nat) (z : Int32) : TrS := (Tr_size tr, Tr_kidCount tr, Tr_taken tr ||| lbit p, Tr_defaults tr, Tr_sort tr, Tr_value tr, upd (Tr_mark tr) p z, Tr_parent tr, Tr_count tr, Tr_tail tr, Tr_partBits tr, Tr_kids tr, Tr_first tr, Tr_spot tr)
theorem tr_take {tr : TrS} {p : Nat} (hp : p < 60) (z : Int32) : f_Tr_take (nI p) z tr = some (trP tr p z) := by
  rw [f_Tr_take.eq_1, if_pos (inB_nI hp (by decide)), nI_clamp (by omega)]; rfl
theorem TrR_put {tr : TrS} {T : AT} {ks : List Nat} {fs : Nat → Nat} {rl : List Nat} (h : TrR tr T ks fs rl) {p : Nat} (hp : p < aN T) (z : Int32) : TrR (trP tr p z) (puT T p z) ks fs (rl ++ [p]) := by
  obtain ⟨h1, h2, h3, h4, h5, h6, h7, h8, h9, h10, h11⟩ := h
  refine ⟨h1, h2, h3, ?_, h5, h6, h7, h8, h9, h10, ?_⟩
  · intro m hm
    obtain ⟨a1, a2, a3, a4, a5, a6, a7⟩ := h4 m hm
    refine ⟨a1, a2, ?_, a4, a5, a6, a7⟩
    show upd (Tr_mark tr) p z m = upd (aM T) p z m
    by_cases e : m = p
    · subst e; rw [upd_s, upd_s]
    · rw [upd_n e, upd_n e]; exact a3
  · intro x hx
    show lb (Tr_taken tr ||| lbit p) x = _
    rw [lb_or, h11 x hx, lbit_lb (by omega)]
    by_cases e : x = p
    · subst e; simp
    · simp [e]
def mbP (mb : MbS) (p : Nat) (z : Int32) (o : Option Nat) : MbS := (Mb_kinds mb, Mb_above mb, Mb_nodes mb, Mb_sort mb, Mb_given mb, Mb_partOf mb, upd (Mb_mark mb) p z, Mb_first mb, Mb_last mb, (match o with | none => upd (Mb_next mb) p (-1) | some q => upd (upd (Mb_next mb) p (-1)) q (nI p)), Mb_before mb, Mb_hasEnding mb, Mb_endMark mb, upd (Mb_inRow mb) p 1, Mb_rowKind mb, (match o with | none => nI p | some _ => Mb_rowFirst mb), nI p, Mb_rowCount mb + 1)
theorem md_put47 {mb mb0 : MbS} {p : Nat} {o : Option Nat} (hp : p < 60) (ho : Mb_rowLast mb = nx o) (hq : ∀ q, o = some q → q < 60) (z : Int32) {N : Nat} : f_Md_put_b47 N z (nI p) (nI p) (Mb_kinds mb, Mb_above mb, Mb_nodes mb, Mb_sort mb, Mb_given mb, Mb_partOf mb, Mb_mark mb, Mb_first mb, Mb_last mb, Mb_next mb, Mb_before mb, Mb_hasEnding mb, Mb_endMark mb, upd (Mb_inRow mb) p 1, Mb_rowKind mb, Mb_rowFirst mb, Mb_rowLast mb, Mb_rowCount mb) = some (Mb_rowCount mb + 1, mbP mb p z o) := by
  rw [f_Md_put_b47.eq_1, if_pos (inB_nI hp (by decide)), if_pos (inB_nI hp (by decide)), nI_clamp (by omega)]
  show (if Mb_rowLast mb = -1 then _ else _) = _
  cases o with
  | none =>
    rw [ho, nx_n, if_pos rfl, f_Md_put_b81.eq_1]
    rfl
  | some q =>
    have hq := hq q rfl
    rw [ho, nx_s, if_neg (nI_ne_m1 (by omega)), if_pos (inB_nI hq (by decide)), f_Md_put_b81.eq_1, nI_clamp (show q < 2 ^ 31 by omega)]
    rfl
