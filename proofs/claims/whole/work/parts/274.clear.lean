/-! clear(), the start, row() -/
def lkT (lk : LkS) (i : Nat) : LkS := (Lk_root lk, Lk_length lk, Lk_order lk, Lk_waiting lk, (fun j => if j < i then -1 else Lk_targets lk j), Lk_faultCount lk, Lk_faultSort lk, Lk_faultNode lk, Lk_noteCount lk, Lk_noteNode lk)
theorem lk_forget {lk : LkS} {N : Nat} (hN : 100 < N) : f_Lk_forgetTargets N lk = some (lkT lk 60) := by
  rw [f_Lk_forgetTargets.eq_1]
  have hs := lp_up (b := f_Lk_forgetTargets_L2 N) (e := 60) (st := fun i => (nI i, lkT lk i)) (r := some (lkT lk 60)) (by
    intro i hi k
    rw [f_Lk_forgetTargets_L2.eq_1]
    have e60 : (60 : Int32) = nI 60 := by decide
    show (if (60 : Int32) ≤ nI i then _ else _) = _
    rw [e60, if_neg (nI_ge hi (by decide))]
    show (if inB (nI i) 60 = true then _ else _) = _
    rw [if_pos (inB_nI hi (by decide)), nI_clamp (by omega)]
    have e : upd (fun j => if j < i then -1 else Lk_targets lk j) i (-1) = fun j => if j < i + 1 then -1 else Lk_targets lk j := by
      funext j
      rw [upd_a]
      by_cases h1 : j = i
      · subst h1; rw [if_pos rfl, if_pos (by omega)]
      · by_cases h2 : j < i
        · rw [if_neg h1, if_pos h2, if_pos (by omega)]
        · rw [if_neg h1, if_neg h2, if_neg (by omega)]
    show k (nI i + 1, (Lk_root lk, Lk_length lk, Lk_order lk, Lk_waiting lk, upd (fun j => if j < i then -1 else Lk_targets lk j) i (-1), Lk_faultCount lk, Lk_faultSort lk, Lk_faultNode lk, Lk_noteCount lk, Lk_noteNode lk)) = _
    rw [nI_1, e]; rfl) (by
    intro k
    rw [f_Lk_forgetTargets_L2.eq_1]
    have e60 : (60 : Int32) = nI 60 := by decide
    show (if (60 : Int32) ≤ nI 60 then _ else _) = _
    rw [e60, if_pos (nI_le (Nat.le_refl _) (by decide))]) N 0 (by omega) (by omega)
  rw [← hs]
  have e : lkT lk 0 = lk := by
    unfold lkT
    simp
  show lp _ N (0, lk) = lp _ N (nI 0, lkT lk 0)
  rw [e]; rfl
theorem lk_start {lk : LkS} {f0 f1 : FlS} {N : Nat} (hN : 100 < N) : ∃ r, f_Lk_startAgain N lk f0 f1 = some r ∧ ∀ (n : Nat) (mg : MgS) (mx : MxS) (mf : MfS), Mg_root mg = -1 → LkR n r.1 r.2.1 r.2.2 mg mx mf := by
  rw [f_Lk_startAgain.eq_1, f_Fl_forget.eq_1, f_Fl_forget.eq_1]
  simp only [Option.bind_some]
  rw [lk_forget hN]
  refine ⟨_, rfl, ?_⟩
  intro n mg mx mf hroot
  refine ⟨hroot.symm, fun _ => false, fun _ => false, fun _ => false, fun _ _ => false, fun _ => false, fun _ _ => false, fun _ => -1, [], [], ?_, Or.inl ⟨hroot, rfl, rfl, fun _ => rfl⟩⟩
  refine ⟨by simp, by simp, rfl, by simp, rfl, by simp, fun _ _ _ => rfl, ?_⟩
  intro x hx
  have z : lb 0 x = false := lb_0 x
  have za : ∀ b, (lb 0 x && b) = false := fun b => by rw [z]; rfl
  refine ⟨z, za _, fun k hk => za _, ?_, z, za _, za _, fun y hy => ⟨za _, za _⟩, fun k hk => za _⟩
  show (if x < 60 then (-1 : Int32) else _) = _
  rw [if_pos hx]; rfl
def T0 : AT := (0, fun _ => 0, fun _ => 0, fun _ => 0, fun _ => [], fun _ => 0, fun _ => false)
theorem md_begin (mb : MbS) (mg : MgS) : ∃ r, f_Md_begin mb mg = some r ∧ MkR r.1 4 abS ∧ Mb_nodes r.1 = nI 0 ∧ Mb_rowKind r.1 = -1 ∧ Mg_root r.2 = -1 := by
  rw [f_Md_begin.eq_1, if_pos (by decide), if_pos (by decide), if_pos (by decide), if_pos (by decide)]
  refine ⟨_, rfl, ⟨by show (4 : Int32) = nI 4; decide, ?_, ?_⟩, by show (0 : Int32) = nI 0; decide, rfl, rfl⟩
  · show upd (upd (upd (upd (Mb_above mb) (0 : Int32).toNatClampNeg (-1)) (1 : Int32).toNatClampNeg 0) (2 : Int32).toNatClampNeg 1) (3 : Int32).toNatClampNeg 0 0 = -1
    have c0 : (0 : Int32).toNatClampNeg = 0 := by decide
    have c1 : (1 : Int32).toNatClampNeg = 1 := by decide
    have c2 : (2 : Int32).toNatClampNeg = 2 := by decide
    have c3 : (3 : Int32).toNatClampNeg = 3 := by decide
    rw [c0, c1, c2, c3, upd_n (by omega), upd_n (by omega), upd_n (by omega), upd_s]
  · intro k hk h0
    show upd (upd (upd (upd (Mb_above mb) (0 : Int32).toNatClampNeg (-1)) (1 : Int32).toNatClampNeg 0) (2 : Int32).toNatClampNeg 1) (3 : Int32).toNatClampNeg 0 k = _
    have c0 : (0 : Int32).toNatClampNeg = 0 := by decide
    have c1 : (1 : Int32).toNatClampNeg = 1 := by decide
    have c2 : (2 : Int32).toNatClampNeg = 2 := by decide
    have c3 : (3 : Int32).toNatClampNeg = 3 := by decide
    rw [c0, c1, c2, c3]
    have : k = 1 ∨ k = 2 ∨ k = 3 := by omega
    rcases this with rfl | rfl | rfl
    · rw [upd_n (by omega), upd_n (by omega), upd_s]; decide
    · rw [upd_n (by omega), upd_s]; decide
    · rw [upd_s]; decide
/-- nothing is there -/
theorem Bld_0 {kn : KnS} {tr : TrS} {rw : RwS} {mb : MbS} (hk : KnR kn 4 BS) (hm : MkR mb 4 abS) (h1 : Tr_size tr = nI 0) (h2 : Tr_kidCount tr = nI 0) (h3 : Tr_taken tr = 0) (h4 : Tr_defaults tr = 0) (h5 : Mb_nodes mb = nI 0) (h6 : Mb_rowKind mb = -1) (h7 : Rw_sort rw = -1) (h8 : Rw_size rw = 0) (h9 : Rw_hasDefault rw = 0) : Bld kn tr rw mb 4 abS BS T0 [] (fun _ => 0) none [] := by
  have no : ∀ {m : Nat}, m < aN T0 → False := fun {m} h => by
    have : m < 0 := h
    omega
  refine ⟨KI_S, by omega, hk, hm, ⟨h1, by show 0 ≤ 60; omega, h2, fun m h => (no h).elim, by simp, by simp, by simp, fun m h => (no h).elim, fun p h => (no h).elim, by simp, fun p hp => by rw [h3, lb_0]; simp⟩, ⟨h5, fun m h => (no h).elim, fun m h => (no h).elim, fun p h => (no h).elim, by simp⟩, ⟨fun m h => (no h).elim, fun m h => (no h).elim, fun m1 m2 p h => (no h).elim⟩, ⟨by simp, by simp⟩, fun m h => (no h).elim, fun m h => (no h).elim, fun m hm => ?_, fun p h => (no h).elim, ⟨h7, h8, h9, h6, rfl⟩⟩
  rw [h4, lb_0]
  have : decide (m < aN T0) = false := by show decide (m < 0) = false; simp
  rw [this]; rfl
theorem s_clear {N : Nat} (hN : 100 < N) : S_clear N Rel := by
  intro kn tr rw lk f0 f1 mb mg mx mf hR
  obtain ⟨K, ab, B, T, ks, fs, rk, rl, hB, hL⟩ := hR
  obtain ⟨kn', k1, k2⟩ := kn_start (kn := kn) (N := N) (by omega)
  obtain ⟨r, l1, l2⟩ := lk_start (lk := lk) (f0 := f0) (f1 := f1) hN
  obtain ⟨q, m1, m2, m3, m4, m5⟩ := md_begin mb mg
  rw [f_Rf_clear.eq_1, f_Md_clear.eq_1, k1, f_Tr_startAgain.eq_1, f_Rw_close.eq_1, l1, m1]
  simp only [Option.bind_some]
  refine ⟨_, _, rfl, rfl, ?_, 4, abS, BS, T0, [], fun _ => 0, none, [], Bld_0 k2 m2 (by show (0 : Int32) = nI 0; decide) (by show (0 : Int32) = nI 0; decide) rfl rfl m3 m4 rfl rfl rfl, l2 _ _ _ _ m5⟩
  show Tr_size tr = Mb_nodes mb
  rw [hB.2.2.2.2.1.1, hB.2.2.2.2.2.1.1]
/-- the start -/
theorem s_init {N : Nat} (hN : 100 < N) : ∃ (kn1 : KnS) (rl : LkS × FlS × FlS) (rm : MbS × MgS), f_Kn_startAgain N kn0 = some kn1 ∧ f_Lk_startAgain N lk0 fl0 fl0 = some rl ∧ f_Md_begin mb0 mg0 = some rm ∧ Rel kn1 tr0 rw0 rl.1 rl.2.1 rl.2.2 rm.1 rm.2 mx0 mf0 := by
  obtain ⟨kn', k1, k2⟩ := kn_start (kn := kn0) (N := N) (by omega)
  obtain ⟨r, l1, l2⟩ := lk_start (lk := lk0) (f0 := fl0) (f1 := fl0) hN
  obtain ⟨q, m1, m2, m3, m4, m5⟩ := md_begin mb0 mg0
  exact ⟨kn', r, q, k1, l1, m1, 4, abS, BS, T0, [], fun _ => 0, none, [], Bld_0 k2 m2 (by show (0 : Int32) = nI 0; decide) (by show (0 : Int32) = nI 0; decide) rfl rfl m3 m4 rfl rfl rfl, l2 _ _ _ _ m5⟩
theorem s_row (N : Nat) : S_row N Rel := by
  intro kn tr rw lk f0 f1 mb mg mx mf x hR
  have hR' := hR
  obtain ⟨K, ab, B, T, ks, fs, rk, rl, hB, hL⟩ := hR
  have hrow := hB.2.2.2.2.2.2.2.2.2.2.2.2
  have hc : f_Rf_row x rw = if tI x 0 3 = true then (if Rw_sort rw = -1 then some (x, (13 + x, Rw_size rw, Rw_hasDefault rw, Rw_parts rw)) else some (-4, rw)) else some (-2, rw) := by
    rw [f_Rf_row.eq_1, f_Rw_isOpen.eq_1, f_Rw_start.eq_1]
    unfold tI
    by_cases h1 : x < 0
    · simp [h1]
    · have e : x ≤ 3 ↔ ¬ 3 < x := by
        rw [Int32.le_iff_toInt_le, Int32.lt_iff_toInt_lt]; omega
      by_cases h2 : 3 < x
      · rw [if_neg h1, if_neg (fun c => (e.mp c) h2), if_neg h1, if_pos h2]; rfl
      · rw [if_neg h1, if_pos (e.mpr h2), if_neg h1, if_neg h2]
        by_cases h3 : Rw_sort rw = -1
        · simp [h3]
        · simp [h3]
  rw [hc, f_Md_row.eq_1, md_tI]
  simp only [Option.bind_some, b0]
  by_cases hx : tI x 0 3 = true
  · simp only [if_pos hx]
    cases rk with
    | none =>
      obtain ⟨a1, a2, a3, a4, rfl⟩ := hrow
      rw [if_pos a1, if_pos a4]
      obtain ⟨k, hk, rfl⟩ := tI_mem (n := 3) (by omega) hx
      obtain ⟨b1, b2, b3, b4, b5, b6, b7, b8, b9, b10, b11, b12, b13⟩ := hB
      refine ⟨_, _, rfl, rfl, rfl, K, ab, B, T, ks, fs, some k, [], ⟨b1, b2, b3, b4, b5, b6, b7, b8, b9, b10, b11, b12, ?_⟩, hL⟩
      refine ⟨hk, ?_, by show Rw_size rw = _; rw [a2]; rfl, by simp, by show Rw_hasDefault rw = _; rw [a3]; simp [bi], rfl, rfl, rfl, rfl, by simp, by simp, by simp, by simp⟩
      show 13 + nI k = nI (13 + k)
      exact nI_add 13 k
    | some k =>
      obtain ⟨a0, a1, a2, a3, a4, a5, -⟩ := hrow
      rw [a1, a5, if_neg (nI_ne_m1 (by omega)), if_neg (nI_ne_m1 (by omega))]
      exact ⟨_, _, rfl, rfl, rfl, hR'⟩
  · simp only [if_neg hx]
    exact ⟨_, _, rfl, rfl, rfl, hR'⟩
