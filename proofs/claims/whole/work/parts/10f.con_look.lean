set_option maxHeartbeats 4000000 in
set_option maxRecDepth 100000 in
theorem c_Lk_forgetTargets (l : Launch) (dC : Nat → ClassId) (dI : Nat → Nat → Nat) (cI cJ cZ : ClassId) (a : Nat → Nat) (N : Nat) (lk : LkS) (res : LkS) (h : f_Lk_forgetTargets N lk = some res) :
    Kt l (dC, dI) classes [(cI, .int), (cJ, .long), (cZ, .boolean)] y_Lk_forgetTargets (wz y_Lk_forgetTargets b_Lk_forgetTargets 2 none) { frames := 0, cells := 0, slots := 0, locals := 0 } [.ref (a 17)] (cLk cI cJ cZ a lk) none (cLk cI cJ cZ a res) := by
  refine Kt_of (cc := b_Lk_forgetTargets) (maxL := 2) (ret := none) (by decide) (Nat.le_of_ble_eq_true rfl) ?_
  intro p e s m args below meth c A ls hx hb hr hml hlocks hown hts hNw hK hP hD hA hS hl
  have hl : lv_has ls 2 [(0, .ref (a 17))] := hl
  have hP : va_P (dC, dI) classes (cLk cI cJ cZ a lk) s.heap := hP
  have L2 : ∀ (n2 : Nat) (s2 : Int32 × LkS) (H : Heap) (locs : List Loc) (ls : Array Slot), lp (f_Lk_forgetTargets_L2 N) n2 s2 = some res → va_P (dC, dI) classes (cLk cI cJ cZ a s2.2) H → va_D A (cLk cI cJ cZ a s2.2) → va_S A s.heap H locs → lv_has ls 2 [(0, .ref (a 17)), (1, .int s2.1)] → W p l e { frames := 0, cells := 0, slots := 0, locals := 0 } s m args below meth c H locs 0 0 (KZ below args s (dC, dI) classes none (cLk cI cJ cZ a res) A) (F0 m 2 ls []) := by
    intro n2
    induction n2 with
    | zero => intro _ _ _ _ h; exact (lp_0 h).elim
    | succ n2 ih2 =>
      intro s2 H locs ls h hP hD hS hl
      have h := lp_s h
      refine lv_iload_n hx hb d_Lk_forgetTargets_2 rfl (lv_at hl 1 rfl) ?_
      refine lv_bipush (v := 60) hx hb d_Lk_forgetTargets_3 (by decide) ?_
      refine lv_icmp_ge (tgt := 21) hx hb d_Lk_forgetTargets_5 (by decide) (fun hc => ?_) (fun hc => ?_)
      · have h := o_t hc h
        cases h
        exact kr_v hx hb hr hlocks hP hD hS d_Lk_forgetTargets_21
      · have h := o_f hc h
        refine lv_aload_n hx hb d_Lk_forgetTargets_8 rfl (lv_at hl 0 rfl) ?_
        refine va_get (D := (dC, dI)) (ci := 3) (v := .ref (a 20)) (C := R_Lk) (T := F_Lk) (N := 14) hx hb hts inb_Lk hown hK hP 0 rfl rfl 8 (by decide) (hts _ tw235) (fun _ h9 => h9) rfl d_Lk_forgetTargets_9 ?_
        refine lv_iload_n hx hb d_Lk_forgetTargets_12 rfl (lv_at hl 1 rfl) ?_
        refine lv_iconst (v := -1) hx hb d_Lk_forgetTargets_13 (by decide) ?_
        obtain ⟨hin, h⟩ := o_in h
        refine va_iast hx hb hK hP hD hS 3 0 rfl rfl hin d_Lk_forgetTargets_14 (fun H locs hP hD hS => ?_)
        have hP : va_P (dC, dI) classes (cLk cI cJ cZ a ((Lk_root s2.2), (Lk_length s2.2), (Lk_order s2.2), (Lk_waiting s2.2), (upd (Lk_targets s2.2) s2.1.toNatClampNeg (-1 : Int32)), (Lk_faultCount s2.2), (Lk_faultSort s2.2), (Lk_faultNode s2.2), (Lk_noteCount s2.2), (Lk_noteNode s2.2))) H := hP
        have hD : va_D A (cLk cI cJ cZ a ((Lk_root s2.2), (Lk_length s2.2), (Lk_order s2.2), (Lk_waiting s2.2), (upd (Lk_targets s2.2) s2.1.toNatClampNeg (-1 : Int32)), (Lk_faultCount s2.2), (Lk_faultSort s2.2), (Lk_faultNode s2.2), (Lk_noteCount s2.2), (Lk_noteNode s2.2))) := hD
        refine lv_iinc (v := (s2.1 + 1)) (lv' := [(1, .int (s2.1 + 1)), (0, .ref (a 17))]) hx hb d_Lk_forgetTargets_15 hl (k := 1) rfl rfl (by decide) rfl (fun ls hl => ?_)
        refine lv_goto (tgt := 2) hx hb d_Lk_forgetTargets_18 (by decide) ?_
        exact ih2 ((s2.1 + 1), ((Lk_root s2.2), (Lk_length s2.2), (Lk_order s2.2), (Lk_waiting s2.2), (upd (Lk_targets s2.2) s2.1.toNatClampNeg (-1 : Int32)), (Lk_faultCount s2.2), (Lk_faultSort s2.2), (Lk_faultNode s2.2), (Lk_noteCount s2.2), (Lk_noteNode s2.2))) _ _ _ h hP hD hS (lv_sub hl [1, 0] rfl)
  refine lv_iconst (v := 0) hx hb d_Lk_forgetTargets_0 (by decide) ?_
  refine lv_istore_n (lv' := [(1, .int (0 : Int32)), (0, .ref (a 17))]) hx hb d_Lk_forgetTargets_1 rfl hl (by decide) rfl (fun ls hl => ?_)
  exact L2 N ((0 : Int32), lk) _ _ _ h hP hD hS (lv_sub hl [1, 0] rfl)
set_option maxHeartbeats 4000000 in
set_option maxRecDepth 100000 in
theorem c_Lk_startAgain (l : Launch) (dC : Nat → ClassId) (dI : Nat → Nat → Nat) (cI cJ cZ : ClassId) (a : Nat → Nat) (N : Nat) (lk : LkS) (f0 : FlS) (f1 : FlS) (res : LkS × FlS × FlS) (h : f_Lk_startAgain N lk f0 f1 = some res) :
    Kt l (dC, dI) classes [(cI, .int), (cJ, .long), (cZ, .boolean)] y_Lk_startAgain (wz y_Lk_startAgain b_Lk_startAgain 1 none) { frames := 1, cells := 0, slots := 0, locals := 21 } [.ref (a 17)] (cLk cI cJ cZ a lk ++ cF0 cI cJ cZ a f0 ++ cF1 cI cJ cZ a f1) none (cLk cI cJ cZ a res.1 ++ cF0 cI cJ cZ a res.2.1 ++ cF1 cI cJ cZ a res.2.2) := by
  refine Kt_of (cc := b_Lk_startAgain) (maxL := 1) (ret := none) (by decide) (Nat.le_of_ble_eq_true rfl) ?_
  intro p e s m args below meth c A ls hx hb hr hml hlocks hown hts hNw hK hP hD hA hS hl
  have hl : lv_has ls 1 [(0, .ref (a 17))] := hl
  have hP : va_P (dC, dI) classes (cLk cI cJ cZ a lk ++ cF0 cI cJ cZ a f0 ++ cF1 cI cJ cZ a f1) s.heap := hP
  refine lv_aload_n hx hb d_Lk_startAgain_0 rfl (lv_at hl 0 rfl) ?_
  refine lv_iconst (v := -1) hx hb d_Lk_startAgain_1 (by decide) ?_
  refine va_put (D := (dC, dI)) (ci := 3) (v := .int (-1 : Int32)) (ty := .int) (C := R_Lk) (T := F_Lk) (N := 14) hx hb hts inb_Lk ft_Lk ft_Lk_ok n_Lk hown hK hP hD hS 0 rfl rfl 4 (by decide) (hts _ tw230) (fun _ h9 => h9) rfl (by decide +kernel) rfl rfl (Nat.le_of_ble_eq_true rfl) d_Lk_startAgain_2 (fun H locs hP hD hS => ?_)
  have hP : va_P (dC, dI) classes (cLk cI cJ cZ a ((-1 : Int32), (Lk_length lk), (Lk_order lk), (Lk_waiting lk), (Lk_targets lk), (Lk_faultCount lk), (Lk_faultSort lk), (Lk_faultNode lk), (Lk_noteCount lk), (Lk_noteNode lk)) ++ cF0 cI cJ cZ a f0 ++ cF1 cI cJ cZ a f1) H := hP
  have hD : va_D A (cLk cI cJ cZ a ((-1 : Int32), (Lk_length lk), (Lk_order lk), (Lk_waiting lk), (Lk_targets lk), (Lk_faultCount lk), (Lk_faultSort lk), (Lk_faultNode lk), (Lk_noteCount lk), (Lk_noteNode lk)) ++ cF0 cI cJ cZ a f0 ++ cF1 cI cJ cZ a f1) := hD
  refine lv_aload_n hx hb d_Lk_startAgain_5 rfl (lv_at hl 0 rfl) ?_
  refine lv_iconst (v := 0) hx hb d_Lk_startAgain_6 (by decide) ?_
  refine va_put (D := (dC, dI)) (ci := 3) (v := .int (0 : Int32)) (ty := .int) (C := R_Lk) (T := F_Lk) (N := 14) hx hb hts inb_Lk ft_Lk ft_Lk_ok n_Lk hown hK hP hD hS 0 rfl rfl 5 (by decide) (hts _ tw232) (fun _ h9 => h9) rfl (by decide +kernel) rfl rfl (Nat.le_of_ble_eq_true rfl) d_Lk_startAgain_7 (fun H locs hP hD hS => ?_)
  have hP : va_P (dC, dI) classes (cLk cI cJ cZ a ((-1 : Int32), (0 : Int32), (Lk_order lk), (Lk_waiting lk), (Lk_targets lk), (Lk_faultCount lk), (Lk_faultSort lk), (Lk_faultNode lk), (Lk_noteCount lk), (Lk_noteNode lk)) ++ cF0 cI cJ cZ a f0 ++ cF1 cI cJ cZ a f1) H := hP
  have hD : va_D A (cLk cI cJ cZ a ((-1 : Int32), (0 : Int32), (Lk_order lk), (Lk_waiting lk), (Lk_targets lk), (Lk_faultCount lk), (Lk_faultSort lk), (Lk_faultNode lk), (Lk_noteCount lk), (Lk_noteNode lk)) ++ cF0 cI cJ cZ a f0 ++ cF1 cI cJ cZ a f1) := hD
  refine lv_aload_n hx hb d_Lk_startAgain_10 rfl (lv_at hl 0 rfl) ?_
  refine lv_iconst (v := 0) hx hb d_Lk_startAgain_11 (by decide) ?_
  refine va_put (D := (dC, dI)) (ci := 3) (v := .int (0 : Int32)) (ty := .int) (C := R_Lk) (T := F_Lk) (N := 14) hx hb hts inb_Lk ft_Lk ft_Lk_ok n_Lk hown hK hP hD hS 0 rfl rfl 9 (by decide) (hts _ tw237) (fun _ h9 => h9) rfl (by decide +kernel) rfl rfl (Nat.le_of_ble_eq_true rfl) d_Lk_startAgain_12 (fun H locs hP hD hS => ?_)
  have hP : va_P (dC, dI) classes (cLk cI cJ cZ a ((-1 : Int32), (0 : Int32), (Lk_order lk), (Lk_waiting lk), (Lk_targets lk), (0 : Int32), (Lk_faultSort lk), (Lk_faultNode lk), (Lk_noteCount lk), (Lk_noteNode lk)) ++ cF0 cI cJ cZ a f0 ++ cF1 cI cJ cZ a f1) H := hP
  have hD : va_D A (cLk cI cJ cZ a ((-1 : Int32), (0 : Int32), (Lk_order lk), (Lk_waiting lk), (Lk_targets lk), (0 : Int32), (Lk_faultSort lk), (Lk_faultNode lk), (Lk_noteCount lk), (Lk_noteNode lk)) ++ cF0 cI cJ cZ a f0 ++ cF1 cI cJ cZ a f1) := hD
  refine lv_aload_n hx hb d_Lk_startAgain_15 rfl (lv_at hl 0 rfl) ?_
  refine lv_iconst (v := 0) hx hb d_Lk_startAgain_16 (by decide) ?_
  refine va_put (D := (dC, dI)) (ci := 3) (v := .int (0 : Int32)) (ty := .int) (C := R_Lk) (T := F_Lk) (N := 14) hx hb hts inb_Lk ft_Lk ft_Lk_ok n_Lk hown hK hP hD hS 0 rfl rfl 12 (by decide) (hts _ tw243) (fun _ h9 => h9) rfl (by decide +kernel) rfl rfl (Nat.le_of_ble_eq_true rfl) d_Lk_startAgain_17 (fun H locs hP hD hS => ?_)
  have hP : va_P (dC, dI) classes (cLk cI cJ cZ a ((-1 : Int32), (0 : Int32), (Lk_order lk), (Lk_waiting lk), (Lk_targets lk), (0 : Int32), (Lk_faultSort lk), (Lk_faultNode lk), (0 : Int32), (Lk_noteNode lk)) ++ cF0 cI cJ cZ a f0 ++ cF1 cI cJ cZ a f1) H := hP
  have hD : va_D A (cLk cI cJ cZ a ((-1 : Int32), (0 : Int32), (Lk_order lk), (Lk_waiting lk), (Lk_targets lk), (0 : Int32), (Lk_faultSort lk), (Lk_faultNode lk), (0 : Int32), (Lk_noteNode lk)) ++ cF0 cI cJ cZ a f0 ++ cF1 cI cJ cZ a f1) := hD
  refine lv_aload_n hx hb d_Lk_startAgain_20 rfl (lv_at hl 0 rfl) ?_
  refine va_get (D := (dC, dI)) (ci := 3) (v := .ref (a 24)) (C := R_Lk) (T := F_Lk) (N := 14) hx hb hts inb_Lk hown hK hP 0 rfl rfl 2 (by decide) (hts _ tw226) (fun _ h9 => h9) rfl d_Lk_startAgain_21 ?_
  obtain ⟨y24, hy, h⟩ := o_bd h
  refine kdU (nn := 15) (rest := []) (w' := (cLk cI cJ cZ a ((-1 : Int32), (0 : Int32), (Lk_order lk), (Lk_waiting lk), (Lk_targets lk), (0 : Int32), (Lk_faultSort lk), (Lk_faultNode lk), (0 : Int32), (Lk_noteNode lk)) ++ cF0 cI cJ cZ a y24 ++ cF1 cI cJ cZ a f1)) (wr := (cLk cI cJ cZ a ((-1 : Int32), (0 : Int32), (Lk_order lk), (Lk_waiting lk), (Lk_targets lk), (0 : Int32), (Lk_faultSort lk), (Lk_faultNode lk), (0 : Int32), (Lk_noteNode lk)) ++ cF1 cI cJ cZ a f1)) (st1 := []) ⟨hx, hb, hml, hown, hts⟩ (c_Fl_forget_0 l dC dI cI cJ cZ a f0 y24 hy) (va_cwU 0 hts (gd_U tw214 tw216 tw217 tw215 tw6 tw219) rfl rfl rfl rfl hdU_forget ⟨Nat.le_of_ble_eq_true rfl, Nat.le_of_ble_eq_true rfl⟩) hNw hK hP hD hS hA (ci := 4) rfl rfl rfl [7, 8, 9, 10] [0, 1, 2, 3, 4, 5, 6, 11, 12, 13, 14] rfl rfl rfl rfl rfl (by decide +kernel) (by decide +kernel) rfl hl.1 rfl (Nat.le_of_ble_eq_true rfl) rfl d_Lk_startAgain_24 ⟨Nat.zero_le _, Nat.zero_le _⟩ (fun H locs hP hD hS => ?_)
  refine lv_aload_n hx hb d_Lk_startAgain_27 rfl (lv_at hl 0 rfl) ?_
  refine va_get (D := (dC, dI)) (ci := 3) (v := .ref (a 28)) (C := R_Lk) (T := F_Lk) (N := 14) hx hb hts inb_Lk hown hK hP 0 rfl rfl 3 (by decide) (hts _ tw228) (fun _ h9 => h9) rfl d_Lk_startAgain_28 ?_
  obtain ⟨y31, hy, h⟩ := o_bd h
  refine kdU (nn := 15) (rest := []) (w' := (cLk cI cJ cZ a ((-1 : Int32), (0 : Int32), (Lk_order lk), (Lk_waiting lk), (Lk_targets lk), (0 : Int32), (Lk_faultSort lk), (Lk_faultNode lk), (0 : Int32), (Lk_noteNode lk)) ++ cF0 cI cJ cZ a y24 ++ cF1 cI cJ cZ a y31)) (wr := (cLk cI cJ cZ a ((-1 : Int32), (0 : Int32), (Lk_order lk), (Lk_waiting lk), (Lk_targets lk), (0 : Int32), (Lk_faultSort lk), (Lk_faultNode lk), (0 : Int32), (Lk_noteNode lk)) ++ cF0 cI cJ cZ a y24)) (st1 := []) ⟨hx, hb, hml, hown, hts⟩ (c_Fl_forget_1 l dC dI cI cJ cZ a f1 y31 hy) (va_cwU 0 hts (gd_U tw214 tw216 tw218 tw215 tw6 tw219) rfl rfl rfl rfl hdU_forget ⟨Nat.le_of_ble_eq_true rfl, Nat.le_of_ble_eq_true rfl⟩) hNw hK hP hD hS hA (ci := 5) rfl rfl rfl [11, 12, 13, 14] [0, 1, 2, 3, 4, 5, 6, 7, 8, 9, 10] rfl rfl rfl rfl rfl (by decide +kernel) (by decide +kernel) rfl hl.1 rfl (Nat.le_of_ble_eq_true rfl) rfl d_Lk_startAgain_31 ⟨Nat.zero_le _, Nat.zero_le _⟩ (fun H locs hP hD hS => ?_)
  refine lv_aload_n hx hb d_Lk_startAgain_34 rfl (lv_at hl 0 rfl) ?_
  obtain ⟨y35, hy, h⟩ := o_bd h
  refine kdV (nn := 15) (rest := []) (w' := (cLk cI cJ cZ a y35 ++ cF0 cI cJ cZ a y24 ++ cF1 cI cJ cZ a y31)) (wr := (cF0 cI cJ cZ a y24 ++ cF1 cI cJ cZ a y31)) (st1 := []) ⟨hx, hb, hml, hown, hts⟩ (c_Lk_forgetTargets l dC dI cI cJ cZ a N ((-1 : Int32), (0 : Int32), (Lk_order lk), (Lk_waiting lk), (Lk_targets lk), (0 : Int32), (Lk_faultSort lk), (Lk_faultNode lk), (0 : Int32), (Lk_noteNode lk)) y35 hy) (cwV 0 hts (gd_V tw220 tw222 ps0 tw5 tw223) rfl rfl rfl hd_Lk_forgetTargets ⟨Nat.le_of_ble_eq_true rfl, Nat.le_of_ble_eq_true rfl⟩) hNw hK hP hD hS hA (ci := 3) rfl rfl rfl [0, 1, 2, 3, 4, 5, 6] [7, 8, 9, 10, 11, 12, 13, 14] rfl rfl rfl rfl rfl (by decide +kernel) (by decide +kernel) rfl hl.1 rfl (Nat.le_of_ble_eq_true rfl) rfl d_Lk_startAgain_35 ⟨Nat.zero_le _, Nat.zero_le _⟩ (fun H locs hP hD hS => ?_)
  cases h
  exact kr_v hx hb hr hlocks hP hD hS d_Lk_startAgain_38
set_option maxHeartbeats 4000000 in
set_option maxRecDepth 100000 in
theorem c_Lk_orderText (l : Launch) (dC : Nat → ClassId) (dI : Nat → Nat → Nat) (cI cJ cZ : ClassId) (a : Nat → Nat) (N : Nat) (lk : LkS) (tr : TrS) (res : LkS) (h : f_Lk_orderText N lk tr = some res) :
    Kt l (dC, dI) classes [(cI, .int), (cJ, .long), (cZ, .boolean)] y_Lk_orderText (wz y_Lk_orderText b_Lk_orderText 4 none) { frames := 1, cells := 0, slots := 0, locals := 22 } [.ref (a 17)] (cLk cI cJ cZ a lk ++ cTr cI cJ cZ a tr) none (cLk cI cJ cZ a res ++ cTr cI cJ cZ a tr) := by
  refine Kt_of (cc := b_Lk_orderText) (maxL := 4) (ret := none) (by decide) (Nat.le_of_ble_eq_true rfl) ?_
  intro p e s m args below meth c A ls hx hb hr hml hlocks hown hts hNw hK hP hD hA hS hl
  have hl : lv_has ls 4 [(0, .ref (a 17))] := hl
  have hP : va_P (dC, dI) classes (cLk cI cJ cZ a lk ++ cTr cI cJ cZ a tr) s.heap := hP
  have L17 : ∀ (n17 : Nat) (s17 : Int32 × LkS) (H : Heap) (locs : List Loc) (ls : Array Slot), lp (f_Lk_orderText_L17 N tr) n17 s17 = some res → va_P (dC, dI) classes (cLk cI cJ cZ a s17.2 ++ cTr cI cJ cZ a tr) H → va_D A (cLk cI cJ cZ a s17.2 ++ cTr cI cJ cZ a tr) → va_S A s.heap H locs → lv_has ls 4 [(0, .ref (a 17)), (1, .int s17.1)] → W p l e { frames := 1, cells := 0, slots := 0, locals := 22 } s m args below meth c H locs 0 0 (KZ below args s (dC, dI) classes none (cLk cI cJ cZ a res ++ cTr cI cJ cZ a tr) A) (F0 m 17 ls []) := by
    intro n17
    induction n17 with
    | zero => intro _ _ _ _ h; exact (lp_0 h).elim
    | succ n17 ih17 =>
      intro s17 H locs ls h hP hD hS hl
      have h := lp_s h
      have L72 : ∀ (x2_72 : Int32) (n72 : Nat) (s72 : Int32 × Int32 × LkS) (H : Heap) (locs : List Loc) (ls : Array Slot), lp (f_Lk_orderText_L72 N (lp (f_Lk_orderText_L17 N tr) n17) x2_72 tr) n72 s72 = some res → va_P (dC, dI) classes (cLk cI cJ cZ a s72.2.2 ++ cTr cI cJ cZ a tr) H → va_D A (cLk cI cJ cZ a s72.2.2 ++ cTr cI cJ cZ a tr) → va_S A s.heap H locs → lv_has ls 4 [(0, .ref (a 17)), (1, .int s72.1), (2, .int x2_72), (3, .int s72.2.1)] → W p l e { frames := 1, cells := 0, slots := 0, locals := 22 } s m args below meth c H locs 0 0 (KZ below args s (dC, dI) classes none (cLk cI cJ cZ a res ++ cTr cI cJ cZ a tr) A) (F0 m 72 ls []) := by
        intro x2_72 n72
        induction n72 with
        | zero => intro _ _ _ _ h; exact (lp_0 h).elim
        | succ n72 ih72 =>
          intro s72 H locs ls h hP hD hS hl
          have h := lp_s h
          refine lv_iload_n hx hb d_Lk_orderText_72 rfl (lv_at hl 3 rfl) ?_
          refine lv_if_lt (tgt := 100) hx hb d_Lk_orderText_73 (by decide) (fun hc => ?_) (fun hc => ?_)
          · have h := o_t hc h
            refine lv_goto (tgt := 17) hx hb d_Lk_orderText_100 (by decide) ?_
            exact ih17 (s72.1, s72.2.2) _ _ _ h hP hD hS (lv_sub hl [0, 1] rfl)
          · have h := o_f hc h
            refine lv_aload_n hx hb d_Lk_orderText_76 rfl (lv_at hl 0 rfl) ?_
            refine va_get (D := (dC, dI)) (ci := 3) (v := .ref (a 19)) (C := R_Lk) (T := F_Lk) (N := 14) hx hb hts inb_Lk hown hK hP 0 rfl rfl 7 (by decide) (hts _ tw234) (fun _ h9 => h9) rfl d_Lk_orderText_77 ?_
            refine lv_iload_n hx hb d_Lk_orderText_80 rfl (lv_at hl 1 rfl) ?_
            refine lv_aload_n hx hb d_Lk_orderText_81 rfl (lv_at hl 0 rfl) ?_
            refine va_get (D := (dC, dI)) (ci := 3) (v := .ref (a 4)) (C := R_Lk) (T := F_Lk) (N := 14) hx hb hts inb_Lk hown hK hP 0 rfl rfl 0 (by decide) (hts _ tw224) (fun _ h9 => h9) rfl d_Lk_orderText_82 ?_
            refine lv_iload_n hx hb d_Lk_orderText_85 rfl (lv_at hl 2 rfl) ?_
            refine lv_iload_n hx hb d_Lk_orderText_86 rfl (lv_at hl 3 rfl) ?_
            obtain ⟨y87, hy, h⟩ := o_bd h
            refine kdV (nn := 18) (rest := [.int s72.1, .ref (a 19)]) (w' := (cLk cI cJ cZ a s72.2.2 ++ cTr cI cJ cZ a tr)) (wr := (cLk cI cJ cZ a s72.2.2)) (st1 := [.int y87, .int s72.1, .ref (a 19)]) ⟨hx, hb, hml, hown, hts⟩ (c_Tr_kid l dC dI cI cJ cZ a x2_72 s72.2.1 tr y87 hy) (cwV 2 hts (gd_V tw446 tw427 tw428 tw3 tw429) rfl rfl rfl hd_Tr_kid ⟨Nat.le_of_ble_eq_true rfl, Nat.le_of_ble_eq_true rfl⟩) hNw hK hP hD hS hA (ci := 1) rfl rfl rfl [7, 8, 9, 10, 11, 12, 13, 14, 15, 16, 17] [0, 1, 2, 3, 4, 5, 6] rfl rfl rfl rfl rfl (by decide +kernel) (by decide +kernel) rfl hl.1 rfl (Nat.le_of_ble_eq_true rfl) rfl d_Lk_orderText_87 ⟨Nat.zero_le _, Nat.zero_le _⟩ (fun H locs hP hD hS => ?_)
            obtain ⟨hin, h⟩ := o_in h
            refine va_iast hx hb hK hP hD hS 2 0 rfl rfl hin d_Lk_orderText_90 (fun H locs hP hD hS => ?_)
            have hP : va_P (dC, dI) classes (cLk cI cJ cZ a ((Lk_root s72.2.2), (Lk_length s72.2.2), (Lk_order s72.2.2), (upd (Lk_waiting s72.2.2) s72.1.toNatClampNeg y87), (Lk_targets s72.2.2), (Lk_faultCount s72.2.2), (Lk_faultSort s72.2.2), (Lk_faultNode s72.2.2), (Lk_noteCount s72.2.2), (Lk_noteNode s72.2.2)) ++ cTr cI cJ cZ a tr) H := hP
            have hD : va_D A (cLk cI cJ cZ a ((Lk_root s72.2.2), (Lk_length s72.2.2), (Lk_order s72.2.2), (upd (Lk_waiting s72.2.2) s72.1.toNatClampNeg y87), (Lk_targets s72.2.2), (Lk_faultCount s72.2.2), (Lk_faultSort s72.2.2), (Lk_faultNode s72.2.2), (Lk_noteCount s72.2.2), (Lk_noteNode s72.2.2)) ++ cTr cI cJ cZ a tr) := hD
            refine lv_iinc (v := (s72.1 + 1)) (lv' := [(1, .int (s72.1 + 1)), (0, .ref (a 17)), (2, .int x2_72), (3, .int s72.2.1)]) hx hb d_Lk_orderText_91 hl (k := 1) rfl rfl (by decide) rfl (fun ls hl => ?_)
            refine lv_iinc (v := (s72.2.1 + (-1))) (lv' := [(3, .int (s72.2.1 + (-1))), (1, .int (s72.1 + 1)), (0, .ref (a 17)), (2, .int x2_72)]) hx hb d_Lk_orderText_94 hl (k := 3) rfl rfl (by decide) rfl (fun ls hl => ?_)
            refine lv_goto (tgt := 72) hx hb d_Lk_orderText_97 (by decide) ?_
            exact ih72 ((s72.1 + 1), (s72.2.1 + (-1)), ((Lk_root s72.2.2), (Lk_length s72.2.2), (Lk_order s72.2.2), (upd (Lk_waiting s72.2.2) s72.1.toNatClampNeg y87), (Lk_targets s72.2.2), (Lk_faultCount s72.2.2), (Lk_faultSort s72.2.2), (Lk_faultNode s72.2.2), (Lk_noteCount s72.2.2), (Lk_noteNode s72.2.2))) _ _ _ h hP hD hS (lv_sub hl [2, 1, 3, 0] rfl)
      refine lv_iload_n hx hb d_Lk_orderText_17 rfl (lv_at hl 1 rfl) ?_
      refine lv_if_le (tgt := 103) hx hb d_Lk_orderText_18 (by decide) (fun hc => ?_) (fun hc => ?_)
      · have h := o_t hc h
        cases h
        exact kr_v hx hb hr hlocks hP hD hS d_Lk_orderText_103
      · have h := o_f hc h
        refine lv_aload_n hx hb d_Lk_orderText_21 rfl (lv_at hl 0 rfl) ?_
        refine va_get (D := (dC, dI)) (ci := 3) (v := .int (Lk_length s17.2)) (C := R_Lk) (T := F_Lk) (N := 14) hx hb hts inb_Lk hown hK hP 0 rfl rfl 5 (by decide) (hts _ tw232) (fun _ h9 => h9) rfl d_Lk_orderText_22 ?_
        refine lv_bipush (v := 60) hx hb d_Lk_orderText_25 (by decide) ?_
        refine lv_icmp_ge (tgt := 103) hx hb d_Lk_orderText_27 (by decide) (fun hc => ?_) (fun hc => ?_)
        · have h := o_t hc h
          cases h
          exact kr_v hx hb hr hlocks hP hD hS d_Lk_orderText_103
        · have h := o_f hc h
          refine lv_iinc (v := (s17.1 + (-1))) (lv' := [(1, .int (s17.1 + (-1))), (0, .ref (a 17))]) hx hb d_Lk_orderText_30 hl (k := 1) rfl rfl (by decide) rfl (fun ls hl => ?_)
          refine lv_aload_n hx hb d_Lk_orderText_33 rfl (lv_at hl 1 rfl) ?_
          refine va_get (D := (dC, dI)) (ci := 3) (v := .ref (a 19)) (C := R_Lk) (T := F_Lk) (N := 14) hx hb hts inb_Lk hown hK hP 0 rfl rfl 7 (by decide) (hts _ tw234) (fun _ h9 => h9) rfl d_Lk_orderText_34 ?_
          refine lv_iload_n hx hb d_Lk_orderText_37 rfl (lv_at hl 0 rfl) ?_
          obtain ⟨hin, h⟩ := o_in h
          refine va_iald hx hb hK hP 2 0 rfl rfl hin d_Lk_orderText_38 ?_
          refine lv_istore_n (lv' := [(2, .int ((Lk_waiting s17.2) (s17.1 + (-1)).toNatClampNeg)), (1, .int (s17.1 + (-1))), (0, .ref (a 17))]) hx hb d_Lk_orderText_39 rfl hl (by decide) rfl (fun ls hl => ?_)
          refine lv_aload_n hx hb d_Lk_orderText_40 rfl (lv_at hl 2 rfl) ?_
          refine va_get (D := (dC, dI)) (ci := 3) (v := .ref (a 18)) (C := R_Lk) (T := F_Lk) (N := 14) hx hb hts inb_Lk hown hK hP 0 rfl rfl 6 (by decide) (hts _ tw233) (fun _ h9 => h9) rfl d_Lk_orderText_41 ?_
          refine lv_aload_n hx hb d_Lk_orderText_44 rfl (lv_at hl 2 rfl) ?_
          refine va_get (D := (dC, dI)) (ci := 3) (v := .int (Lk_length s17.2)) (C := R_Lk) (T := F_Lk) (N := 14) hx hb hts inb_Lk hown hK hP 0 rfl rfl 5 (by decide) (hts _ tw232) (fun _ h9 => h9) rfl d_Lk_orderText_45 ?_
          refine lv_iload_n hx hb d_Lk_orderText_48 rfl (lv_at hl 0 rfl) ?_
          obtain ⟨hin, h⟩ := o_in h
          refine va_iast hx hb hK hP hD hS 1 0 rfl rfl hin d_Lk_orderText_49 (fun H locs hP hD hS => ?_)
          have hP : va_P (dC, dI) classes (cLk cI cJ cZ a ((Lk_root s17.2), (Lk_length s17.2), (upd (Lk_order s17.2) (Lk_length s17.2).toNatClampNeg ((Lk_waiting s17.2) (s17.1 + (-1)).toNatClampNeg)), (Lk_waiting s17.2), (Lk_targets s17.2), (Lk_faultCount s17.2), (Lk_faultSort s17.2), (Lk_faultNode s17.2), (Lk_noteCount s17.2), (Lk_noteNode s17.2)) ++ cTr cI cJ cZ a tr) H := hP
          have hD : va_D A (cLk cI cJ cZ a ((Lk_root s17.2), (Lk_length s17.2), (upd (Lk_order s17.2) (Lk_length s17.2).toNatClampNeg ((Lk_waiting s17.2) (s17.1 + (-1)).toNatClampNeg)), (Lk_waiting s17.2), (Lk_targets s17.2), (Lk_faultCount s17.2), (Lk_faultSort s17.2), (Lk_faultNode s17.2), (Lk_noteCount s17.2), (Lk_noteNode s17.2)) ++ cTr cI cJ cZ a tr) := hD
          refine lv_aload_n hx hb d_Lk_orderText_50 rfl (lv_at hl 2 rfl) ?_
          refine lv_dup hx hb d_Lk_orderText_51 rfl ?_
          refine va_get (D := (dC, dI)) (ci := 3) (v := .int (Lk_length s17.2)) (C := R_Lk) (T := F_Lk) (N := 14) hx hb hts inb_Lk hown hK hP 0 rfl rfl 5 (by decide) (hts _ tw232) (fun _ h9 => h9) rfl d_Lk_orderText_52 ?_
          refine lv_iconst (v := 1) hx hb d_Lk_orderText_55 (by decide) ?_
          refine lv_iadd hx hb d_Lk_orderText_56 ?_
          refine va_put (D := (dC, dI)) (ci := 3) (v := .int ((Lk_length s17.2) + (1 : Int32))) (ty := .int) (C := R_Lk) (T := F_Lk) (N := 14) hx hb hts inb_Lk ft_Lk ft_Lk_ok n_Lk hown hK hP hD hS 0 rfl rfl 5 (by decide) (hts _ tw232) (fun _ h9 => h9) rfl (by decide +kernel) rfl rfl (Nat.le_of_ble_eq_true rfl) d_Lk_orderText_57 (fun H locs hP hD hS => ?_)
          have hP : va_P (dC, dI) classes (cLk cI cJ cZ a ((Lk_root s17.2), ((Lk_length s17.2) + (1 : Int32)), (upd (Lk_order s17.2) (Lk_length s17.2).toNatClampNeg ((Lk_waiting s17.2) (s17.1 + (-1)).toNatClampNeg)), (Lk_waiting s17.2), (Lk_targets s17.2), (Lk_faultCount s17.2), (Lk_faultSort s17.2), (Lk_faultNode s17.2), (Lk_noteCount s17.2), (Lk_noteNode s17.2)) ++ cTr cI cJ cZ a tr) H := hP
          have hD : va_D A (cLk cI cJ cZ a ((Lk_root s17.2), ((Lk_length s17.2) + (1 : Int32)), (upd (Lk_order s17.2) (Lk_length s17.2).toNatClampNeg ((Lk_waiting s17.2) (s17.1 + (-1)).toNatClampNeg)), (Lk_waiting s17.2), (Lk_targets s17.2), (Lk_faultCount s17.2), (Lk_faultSort s17.2), (Lk_faultNode s17.2), (Lk_noteCount s17.2), (Lk_noteNode s17.2)) ++ cTr cI cJ cZ a tr) := hD
          refine lv_aload_n hx hb d_Lk_orderText_60 rfl (lv_at hl 2 rfl) ?_
          refine va_get (D := (dC, dI)) (ci := 3) (v := .ref (a 4)) (C := R_Lk) (T := F_Lk) (N := 14) hx hb hts inb_Lk hown hK hP 0 rfl rfl 0 (by decide) (hts _ tw224) (fun _ h9 => h9) rfl d_Lk_orderText_61 ?_
          refine va_get (D := (dC, dI)) (ci := 1) (v := .ref (a 9)) (C := R_Tr) (T := F_Tr) (N := 14) hx hb hts inb_Tr hown hK hP 7 rfl rfl 8 (by decide) (hts _ tw81) (fun _ h9 => h9) rfl d_Lk_orderText_64 ?_
          refine lv_iload_n hx hb d_Lk_orderText_67 rfl (lv_at hl 0 rfl) ?_
          obtain ⟨hin, h⟩ := o_in h
          refine va_iald hx hb hK hP 12 0 rfl rfl hin d_Lk_orderText_68 ?_
          refine lv_iconst (v := 1) hx hb d_Lk_orderText_69 (by decide) ?_
          refine lv_isub hx hb d_Lk_orderText_70 ?_
          refine lv_istore_n (lv' := [(3, .int (((Tr_count tr) ((Lk_waiting s17.2) (s17.1 + (-1)).toNatClampNeg).toNatClampNeg) - (1 : Int32))), (2, .int ((Lk_waiting s17.2) (s17.1 + (-1)).toNatClampNeg)), (1, .int (s17.1 + (-1))), (0, .ref (a 17))]) hx hb d_Lk_orderText_71 rfl hl (by decide) rfl (fun ls hl => ?_)
          exact L72 ((Lk_waiting s17.2) (s17.1 + (-1)).toNatClampNeg) N ((s17.1 + (-1)), (((Tr_count tr) ((Lk_waiting s17.2) (s17.1 + (-1)).toNatClampNeg).toNatClampNeg) - (1 : Int32)), ((Lk_root s17.2), ((Lk_length s17.2) + (1 : Int32)), (upd (Lk_order s17.2) (Lk_length s17.2).toNatClampNeg ((Lk_waiting s17.2) (s17.1 + (-1)).toNatClampNeg)), (Lk_waiting s17.2), (Lk_targets s17.2), (Lk_faultCount s17.2), (Lk_faultSort s17.2), (Lk_faultNode s17.2), (Lk_noteCount s17.2), (Lk_noteNode s17.2))) _ _ _ h hP hD hS (lv_sub hl [3, 2, 1, 0] rfl)
  refine lv_aload_n hx hb d_Lk_orderText_0 rfl (lv_at hl 0 rfl) ?_
  refine lv_iconst (v := 0) hx hb d_Lk_orderText_1 (by decide) ?_
  refine va_put (D := (dC, dI)) (ci := 3) (v := .int (0 : Int32)) (ty := .int) (C := R_Lk) (T := F_Lk) (N := 14) hx hb hts inb_Lk ft_Lk ft_Lk_ok n_Lk hown hK hP hD hS 0 rfl rfl 5 (by decide) (hts _ tw232) (fun _ h9 => h9) rfl (by decide +kernel) rfl rfl (Nat.le_of_ble_eq_true rfl) d_Lk_orderText_2 (fun H locs hP hD hS => ?_)
  have hP : va_P (dC, dI) classes (cLk cI cJ cZ a ((Lk_root lk), (0 : Int32), (Lk_order lk), (Lk_waiting lk), (Lk_targets lk), (Lk_faultCount lk), (Lk_faultSort lk), (Lk_faultNode lk), (Lk_noteCount lk), (Lk_noteNode lk)) ++ cTr cI cJ cZ a tr) H := hP
  have hD : va_D A (cLk cI cJ cZ a ((Lk_root lk), (0 : Int32), (Lk_order lk), (Lk_waiting lk), (Lk_targets lk), (Lk_faultCount lk), (Lk_faultSort lk), (Lk_faultNode lk), (Lk_noteCount lk), (Lk_noteNode lk)) ++ cTr cI cJ cZ a tr) := hD
  refine lv_aload_n hx hb d_Lk_orderText_5 rfl (lv_at hl 0 rfl) ?_
  refine va_get (D := (dC, dI)) (ci := 3) (v := .ref (a 19)) (C := R_Lk) (T := F_Lk) (N := 14) hx hb hts inb_Lk hown hK hP 0 rfl rfl 7 (by decide) (hts _ tw234) (fun _ h9 => h9) rfl d_Lk_orderText_6 ?_
  refine lv_iconst (v := 0) hx hb d_Lk_orderText_9 (by decide) ?_
  refine lv_aload_n hx hb d_Lk_orderText_10 rfl (lv_at hl 0 rfl) ?_
  refine va_get (D := (dC, dI)) (ci := 3) (v := .int (Lk_root lk)) (C := R_Lk) (T := F_Lk) (N := 14) hx hb hts inb_Lk hown hK hP 0 rfl rfl 4 (by decide) (hts _ tw230) (fun _ h9 => h9) rfl d_Lk_orderText_11 ?_
  obtain ⟨hin, h⟩ := o_in h
  refine va_iast hx hb hK hP hD hS 2 0 rfl rfl hin d_Lk_orderText_14 (fun H locs hP hD hS => ?_)
  have hP : va_P (dC, dI) classes (cLk cI cJ cZ a ((Lk_root lk), (0 : Int32), (Lk_order lk), (upd (Lk_waiting lk) (0 : Int32).toNatClampNeg (Lk_root lk)), (Lk_targets lk), (Lk_faultCount lk), (Lk_faultSort lk), (Lk_faultNode lk), (Lk_noteCount lk), (Lk_noteNode lk)) ++ cTr cI cJ cZ a tr) H := hP
  have hD : va_D A (cLk cI cJ cZ a ((Lk_root lk), (0 : Int32), (Lk_order lk), (upd (Lk_waiting lk) (0 : Int32).toNatClampNeg (Lk_root lk)), (Lk_targets lk), (Lk_faultCount lk), (Lk_faultSort lk), (Lk_faultNode lk), (Lk_noteCount lk), (Lk_noteNode lk)) ++ cTr cI cJ cZ a tr) := hD
  refine lv_iconst (v := 1) hx hb d_Lk_orderText_15 (by decide) ?_
  refine lv_istore_n (lv' := [(1, .int (1 : Int32)), (0, .ref (a 17))]) hx hb d_Lk_orderText_16 rfl hl (by decide) rfl (fun ls hl => ?_)
  exact L17 N ((1 : Int32), ((Lk_root lk), (0 : Int32), (Lk_order lk), (upd (Lk_waiting lk) (0 : Int32).toNatClampNeg (Lk_root lk)), (Lk_targets lk), (Lk_faultCount lk), (Lk_faultSort lk), (Lk_faultNode lk), (Lk_noteCount lk), (Lk_noteNode lk))) _ _ _ h hP hD hS (lv_sub hl [1, 0] rfl)
set_option maxHeartbeats 4000000 in
set_option maxRecDepth 100000 in
theorem c_Lk_isJump (l : Launch) (dC : Nat → ClassId) (dI : Nat → Nat → Nat) (cI cJ cZ : ClassId) (a : Nat → Nat) (x1 : Int32) (lk : LkS) (tr : TrS) (res : Int32) (h : f_Lk_isJump x1 tr = some res) :
    Kt l (dC, dI) classes [(cI, .int), (cJ, .long), (cZ, .boolean)] y_Lk_isJump (wz y_Lk_isJump b_Lk_isJump 2 (some .boolean)) { frames := 0, cells := 0, slots := 0, locals := 0 } [.ref (a 17), .int x1] (cLk cI cJ cZ a lk ++ cTr cI cJ cZ a tr) (some (.int res)) (cLk cI cJ cZ a lk ++ cTr cI cJ cZ a tr) := by
  refine Kt_of (cc := b_Lk_isJump) (maxL := 2) (ret := (some .boolean)) (by decide) (Nat.le_of_ble_eq_true rfl) ?_
  intro p e s m args below meth c A ls hx hb hr hml hlocks hown hts hNw hK hP hD hA hS hl
  have hl : lv_has ls 2 [(0, .ref (a 17)), (1, .int x1)] := hl
  have hP : va_P (dC, dI) classes (cLk cI cJ cZ a lk ++ cTr cI cJ cZ a tr) s.heap := hP
  refine lv_aload_n hx hb d_Lk_isJump_0 rfl (lv_at hl 0 rfl) ?_
  refine va_get (D := (dC, dI)) (ci := 3) (v := .ref (a 4)) (C := R_Lk) (T := F_Lk) (N := 14) hx hb hts inb_Lk hown hK hP 0 rfl rfl 0 (by decide) (hts _ tw224) (fun _ h9 => h9) rfl d_Lk_isJump_1 ?_
  refine va_get (D := (dC, dI)) (ci := 1) (v := .ref (a 5)) (C := R_Tr) (T := F_Tr) (N := 14) hx hb hts inb_Tr hown hK hP 7 rfl rfl 4 (by decide) (hts _ tw64) (fun _ h9 => h9) rfl d_Lk_isJump_4 ?_
  refine lv_iload_n hx hb d_Lk_isJump_7 rfl (lv_at hl 1 rfl) ?_
  obtain ⟨hin, h⟩ := o_in h
  refine va_iald hx hb hK hP 8 0 rfl rfl hin d_Lk_isJump_8 ?_
  refine lv_bipush (v := 10) hx hb d_Lk_isJump_9 (by decide) ?_
  refine lv_icmp_eq (tgt := 28) hx hb d_Lk_isJump_11 (by decide) (fun hc => ?_) (fun hc => ?_)
  · have h := o_t hc h
    refine lv_iconst (v := 1) hx hb d_Lk_isJump_28 (by decide) ?_
    refine lv_goto (tgt := 33) hx hb d_Lk_isJump_29 (by decide) ?_
    cases h
    exact kr_z hx hb hr (by decide) hlocks hP hD hS d_Lk_isJump_33
  · have h := o_f hc h
    refine lv_aload_n hx hb d_Lk_isJump_14 rfl (lv_at hl 0 rfl) ?_
    refine va_get (D := (dC, dI)) (ci := 3) (v := .ref (a 4)) (C := R_Lk) (T := F_Lk) (N := 14) hx hb hts inb_Lk hown hK hP 0 rfl rfl 0 (by decide) (hts _ tw224) (fun _ h9 => h9) rfl d_Lk_isJump_15 ?_
    refine va_get (D := (dC, dI)) (ci := 1) (v := .ref (a 5)) (C := R_Tr) (T := F_Tr) (N := 14) hx hb hts inb_Tr hown hK hP 7 rfl rfl 4 (by decide) (hts _ tw64) (fun _ h9 => h9) rfl d_Lk_isJump_18 ?_
    refine lv_iload_n hx hb d_Lk_isJump_21 rfl (lv_at hl 1 rfl) ?_
    obtain ⟨hin, h⟩ := o_in h
    refine va_iald hx hb hK hP 8 0 rfl rfl hin d_Lk_isJump_22 ?_
    refine lv_bipush (v := 11) hx hb d_Lk_isJump_23 (by decide) ?_
    refine lv_icmp_ne (tgt := 32) hx hb d_Lk_isJump_25 (by decide) (fun hc => ?_) (fun hc => ?_)
    · have h := o_f hc h
      refine lv_iconst (v := 0) hx hb d_Lk_isJump_32 (by decide) ?_
      cases h
      exact kr_z hx hb hr (by decide) hlocks hP hD hS d_Lk_isJump_33
    · have h := o_t hc h
      refine lv_iconst (v := 1) hx hb d_Lk_isJump_28 (by decide) ?_
      refine lv_goto (tgt := 33) hx hb d_Lk_isJump_29 (by decide) ?_
      cases h
      exact kr_z hx hb hr (by decide) hlocks hP hD hS d_Lk_isJump_33
set_option maxHeartbeats 4000000 in
set_option maxRecDepth 100000 in
theorem c_Lk_labelAround (l : Launch) (dC : Nat → ClassId) (dI : Nat → Nat → Nat) (cI cJ cZ : ClassId) (a : Nat → Nat) (N : Nat) (x1 : Int32) (x2 : Int32) (lk : LkS) (tr : TrS) (res : Int32) (h : f_Lk_labelAround N x1 x2 lk tr = some res) :
    Kt l (dC, dI) classes [(cI, .int), (cJ, .long), (cZ, .boolean)] y_Lk_labelAround (wz y_Lk_labelAround b_Lk_labelAround 5 (some .int)) { frames := 0, cells := 0, slots := 0, locals := 0 } [.ref (a 17), .int x1, .int x2] (cLk cI cJ cZ a lk ++ cTr cI cJ cZ a tr) (some (.int res)) (cLk cI cJ cZ a lk ++ cTr cI cJ cZ a tr) := by
  refine Kt_of (cc := b_Lk_labelAround) (maxL := 5) (ret := (some .int)) (by decide) (Nat.le_of_ble_eq_true rfl) ?_
  intro p e s m args below meth c A ls hx hb hr hml hlocks hown hts hNw hK hP hD hA hS hl
  have hl : lv_has ls 5 [(0, .ref (a 17)), (1, .int x1), (2, .int x2)] := hl
  have hP : va_P (dC, dI) classes (cLk cI cJ cZ a lk ++ cTr cI cJ cZ a tr) s.heap := hP
  have L5 : ∀ (x2_5 : Int32) (n5 : Nat) (s5 : Int32 × Int32) (H : Heap) (locs : List Loc) (ls : Array Slot), lp (f_Lk_labelAround_L5 N x2_5 lk tr) n5 s5 = some res → va_P (dC, dI) classes (cLk cI cJ cZ a lk ++ cTr cI cJ cZ a tr) H → va_D A (cLk cI cJ cZ a lk ++ cTr cI cJ cZ a tr) → va_S A s.heap H locs → lv_has ls 5 [(0, .ref (a 17)), (2, .int x2_5), (3, .int s5.1), (4, .int s5.2)] → W p l e { frames := 0, cells := 0, slots := 0, locals := 0 } s m args below meth c H locs 0 0 (KZ below args s (dC, dI) classes (some (.int res)) (cLk cI cJ cZ a lk ++ cTr cI cJ cZ a tr) A) (F0 m 5 ls []) := by
    intro x2_5 n5
    induction n5 with
    | zero => intro _ _ _ _ h; exact (lp_0 h).elim
    | succ n5 ih5 =>
      intro s5 H locs ls h hP hD hS hl
      have h := lp_s h
      refine lv_iload_n hx hb d_Lk_labelAround_5 rfl (lv_at hl 2 rfl) ?_
      refine lv_aload_n hx hb d_Lk_labelAround_6 rfl (lv_at hl 0 rfl) ?_
      refine va_get (D := (dC, dI)) (ci := 3) (v := .int (Lk_root lk)) (C := R_Lk) (T := F_Lk) (N := 14) hx hb hts inb_Lk hown hK hP 0 rfl rfl 4 (by decide) (hts _ tw230) (fun _ h9 => h9) rfl d_Lk_labelAround_7 ?_
      refine lv_icmp_eq (tgt := 65) hx hb d_Lk_labelAround_10 (by decide) (fun hc => ?_) (fun hc => ?_)
      · have h := o_t hc h
        refine lv_iconst (v := -1) hx hb d_Lk_labelAround_65 (by decide) ?_
        cases h
        exact kr_i hx hb hr hlocks hP hD hS d_Lk_labelAround_66
      · have h := o_f hc h
        refine lv_iload hx hb d_Lk_labelAround_13 (lv_at hl 3 rfl) ?_
        refine lv_bipush (v := 60) hx hb d_Lk_labelAround_15 (by decide) ?_
        refine lv_icmp_ge (tgt := 65) hx hb d_Lk_labelAround_17 (by decide) (fun hc => ?_) (fun hc => ?_)
        · have h := o_t hc h
          refine lv_iconst (v := -1) hx hb d_Lk_labelAround_65 (by decide) ?_
          cases h
          exact kr_i hx hb hr hlocks hP hD hS d_Lk_labelAround_66
        · have h := o_f hc h
          refine lv_aload_n hx hb d_Lk_labelAround_20 rfl (lv_at hl 0 rfl) ?_
          refine va_get (D := (dC, dI)) (ci := 3) (v := .ref (a 4)) (C := R_Lk) (T := F_Lk) (N := 14) hx hb hts inb_Lk hown hK hP 0 rfl rfl 0 (by decide) (hts _ tw224) (fun _ h9 => h9) rfl d_Lk_labelAround_21 ?_
          refine va_get (D := (dC, dI)) (ci := 1) (v := .ref (a 8)) (C := R_Tr) (T := F_Tr) (N := 14) hx hb hts inb_Tr hown hK hP 7 rfl rfl 7 (by decide) (hts _ tw78) (fun _ h9 => h9) rfl d_Lk_labelAround_24 ?_
          refine lv_iload_n hx hb d_Lk_labelAround_27 rfl (lv_at hl 2 rfl) ?_
          obtain ⟨hin, h⟩ := o_in h
          refine va_iald hx hb hK hP 11 0 rfl rfl hin d_Lk_labelAround_28 ?_
          refine lv_istore_n (lv' := [(3, .int ((Tr_parent tr) s5.1.toNatClampNeg)), (0, .ref (a 17)), (2, .int x2_5), (4, .int s5.2)]) hx hb d_Lk_labelAround_29 rfl hl (by decide) rfl (fun ls hl => ?_)
          refine lv_aload_n hx hb d_Lk_labelAround_30 rfl (lv_at hl 1 rfl) ?_
          refine va_get (D := (dC, dI)) (ci := 3) (v := .ref (a 4)) (C := R_Lk) (T := F_Lk) (N := 14) hx hb hts inb_Lk hown hK hP 0 rfl rfl 0 (by decide) (hts _ tw224) (fun _ h9 => h9) rfl d_Lk_labelAround_31 ?_
          refine va_get (D := (dC, dI)) (ci := 1) (v := .ref (a 5)) (C := R_Tr) (T := F_Tr) (N := 14) hx hb hts inb_Tr hown hK hP 7 rfl rfl 4 (by decide) (hts _ tw64) (fun _ h9 => h9) rfl d_Lk_labelAround_34 ?_
          refine lv_iload_n hx hb d_Lk_labelAround_37 rfl (lv_at hl 0 rfl) ?_
          obtain ⟨hin, h⟩ := o_in h
          refine va_iald hx hb hK hP 8 0 rfl rfl hin d_Lk_labelAround_38 ?_
          refine lv_bipush (v := 12) hx hb d_Lk_labelAround_39 (by decide) ?_
          refine lv_icmp_ne (tgt := 59) hx hb d_Lk_labelAround_41 (by decide) (fun hc => ?_) (fun hc => ?_)
          · have h := o_f hc h
            refine lv_iinc (v := (s5.2 + 1)) (lv' := [(4, .int (s5.2 + 1)), (3, .int ((Tr_parent tr) s5.1.toNatClampNeg)), (0, .ref (a 17)), (2, .int x2_5)]) hx hb d_Lk_labelAround_59 hl (k := 3) rfl rfl (by decide) rfl (fun ls hl => ?_)
            refine lv_goto (tgt := 5) hx hb d_Lk_labelAround_62 (by decide) ?_
            exact ih5 (((Tr_parent tr) s5.1.toNatClampNeg), (s5.2 + 1)) _ _ _ h hP hD hS (lv_sub hl [2, 3, 1, 0] rfl)
          · have h := o_t hc h
            refine lv_aload_n hx hb d_Lk_labelAround_44 rfl (lv_at hl 1 rfl) ?_
            refine va_get (D := (dC, dI)) (ci := 3) (v := .ref (a 4)) (C := R_Lk) (T := F_Lk) (N := 14) hx hb hts inb_Lk hown hK hP 0 rfl rfl 0 (by decide) (hts _ tw224) (fun _ h9 => h9) rfl d_Lk_labelAround_45 ?_
            refine va_get (D := (dC, dI)) (ci := 1) (v := .ref (a 6)) (C := R_Tr) (T := F_Tr) (N := 14) hx hb hts inb_Tr hown hK hP 7 rfl rfl 5 (by decide) (hts _ tw69) (fun _ h9 => h9) rfl d_Lk_labelAround_48 ?_
            refine lv_iload_n hx hb d_Lk_labelAround_51 rfl (lv_at hl 0 rfl) ?_
            obtain ⟨hin, h⟩ := o_in h
            refine va_iald hx hb hK hP 9 0 rfl rfl hin d_Lk_labelAround_52 ?_
            refine lv_iload_n hx hb d_Lk_labelAround_53 rfl (lv_at hl 2 rfl) ?_
            refine lv_icmp_ne (tgt := 59) hx hb d_Lk_labelAround_54 (by decide) (fun hc => ?_) (fun hc => ?_)
            · have h := o_f hc h
              refine lv_iinc (v := (s5.2 + 1)) (lv' := [(4, .int (s5.2 + 1)), (3, .int ((Tr_parent tr) s5.1.toNatClampNeg)), (0, .ref (a 17)), (2, .int x2_5)]) hx hb d_Lk_labelAround_59 hl (k := 3) rfl rfl (by decide) rfl (fun ls hl => ?_)
              refine lv_goto (tgt := 5) hx hb d_Lk_labelAround_62 (by decide) ?_
              exact ih5 (((Tr_parent tr) s5.1.toNatClampNeg), (s5.2 + 1)) _ _ _ h hP hD hS (lv_sub hl [2, 3, 1, 0] rfl)
            · have h := o_t hc h
              refine lv_iload_n hx hb d_Lk_labelAround_57 rfl (lv_at hl 0 rfl) ?_
              cases h
              exact kr_i hx hb hr hlocks hP hD hS d_Lk_labelAround_58
  refine lv_iload_n hx hb d_Lk_labelAround_0 rfl (lv_at hl 1 rfl) ?_
  refine lv_istore_n (lv' := [(3, .int x1), (0, .ref (a 17)), (1, .int x1), (2, .int x2)]) hx hb d_Lk_labelAround_1 rfl hl (by decide) rfl (fun ls hl => ?_)
  refine lv_iconst (v := 0) hx hb d_Lk_labelAround_2 (by decide) ?_
  refine lv_istore (lv' := [(4, .int (0 : Int32)), (3, .int x1), (0, .ref (a 17)), (1, .int x1), (2, .int x2)]) hx hb d_Lk_labelAround_3 hl (by decide) rfl (fun ls hl => ?_)
  exact L5 x2 N (x1, (0 : Int32)) _ _ _ h hP hD hS (lv_sub hl [2, 4, 1, 0] rfl)
set_option maxHeartbeats 4000000 in
set_option maxRecDepth 100000 in
theorem c_Lk_loopIn (l : Launch) (dC : Nat → ClassId) (dI : Nat → Nat → Nat) (cI cJ cZ : ClassId) (a : Nat → Nat) (x1 : Int32) (lk : LkS) (tr : TrS) (res : Int32) (h : f_Lk_loopIn x1 tr = some res) :
    Kt l (dC, dI) classes [(cI, .int), (cJ, .long), (cZ, .boolean)] y_Lk_loopIn (wz y_Lk_loopIn b_Lk_loopIn 3 (some .int)) { frames := 1, cells := 0, slots := 0, locals := 22 } [.ref (a 17), .int x1] (cLk cI cJ cZ a lk ++ cTr cI cJ cZ a tr) (some (.int res)) (cLk cI cJ cZ a lk ++ cTr cI cJ cZ a tr) := by
  refine Kt_of (cc := b_Lk_loopIn) (maxL := 3) (ret := (some .int)) (by decide) (Nat.le_of_ble_eq_true rfl) ?_
  intro p e s m args below meth c A ls hx hb hr hml hlocks hown hts hNw hK hP hD hA hS hl
  have hl : lv_has ls 3 [(0, .ref (a 17)), (1, .int x1)] := hl
  have hP : va_P (dC, dI) classes (cLk cI cJ cZ a lk ++ cTr cI cJ cZ a tr) s.heap := hP
  refine lv_aload_n hx hb d_Lk_loopIn_0 rfl (lv_at hl 0 rfl) ?_
  refine va_get (D := (dC, dI)) (ci := 3) (v := .ref (a 4)) (C := R_Lk) (T := F_Lk) (N := 14) hx hb hts inb_Lk hown hK hP 0 rfl rfl 0 (by decide) (hts _ tw224) (fun _ h9 => h9) rfl d_Lk_loopIn_1 ?_
  refine lv_iload_n hx hb d_Lk_loopIn_4 rfl (lv_at hl 1 rfl) ?_
  refine lv_iconst (v := 0) hx hb d_Lk_loopIn_5 (by decide) ?_
  obtain ⟨y6, hy, h⟩ := o_bd h
  refine kdV (nn := 18) (rest := []) (w' := (cLk cI cJ cZ a lk ++ cTr cI cJ cZ a tr)) (wr := (cLk cI cJ cZ a lk)) (st1 := [.int y6]) ⟨hx, hb, hml, hown, hts⟩ (c_Tr_kid l dC dI cI cJ cZ a x1 (0 : Int32) tr y6 hy) (cwV 2 hts (gd_V tw446 tw427 tw428 tw3 tw429) rfl rfl rfl hd_Tr_kid ⟨Nat.le_of_ble_eq_true rfl, Nat.le_of_ble_eq_true rfl⟩) hNw hK hP hD hS hA (ci := 1) rfl rfl rfl [7, 8, 9, 10, 11, 12, 13, 14, 15, 16, 17] [0, 1, 2, 3, 4, 5, 6] rfl rfl rfl rfl rfl (by decide +kernel) (by decide +kernel) rfl hl.1 rfl (Nat.le_of_ble_eq_true rfl) rfl d_Lk_loopIn_6 ⟨Nat.zero_le _, Nat.zero_le _⟩ (fun H locs hP hD hS => ?_)
  refine lv_istore_n (lv' := [(2, .int y6), (0, .ref (a 17)), (1, .int x1)]) hx hb d_Lk_loopIn_9 rfl hl (by decide) rfl (fun ls hl => ?_)
  refine lv_aload_n hx hb d_Lk_loopIn_10 rfl (lv_at hl 1 rfl) ?_
  refine va_get (D := (dC, dI)) (ci := 3) (v := .ref (a 4)) (C := R_Lk) (T := F_Lk) (N := 14) hx hb hts inb_Lk hown hK hP 0 rfl rfl 0 (by decide) (hts _ tw224) (fun _ h9 => h9) rfl d_Lk_loopIn_11 ?_
  refine va_get (D := (dC, dI)) (ci := 1) (v := .ref (a 5)) (C := R_Tr) (T := F_Tr) (N := 14) hx hb hts inb_Tr hown hK hP 7 rfl rfl 4 (by decide) (hts _ tw64) (fun _ h9 => h9) rfl d_Lk_loopIn_14 ?_
  refine lv_iload_n hx hb d_Lk_loopIn_17 rfl (lv_at hl 0 rfl) ?_
  obtain ⟨hin, h⟩ := o_in h
  refine va_iald hx hb hK hP 8 0 rfl rfl hin d_Lk_loopIn_18 ?_
  obtain ⟨y19, hy, h⟩ := o_bd h
  refine kdSN (nn := 18) (rest := []) (w' := (cLk cI cJ cZ a lk ++ cTr cI cJ cZ a tr)) (wr := (cLk cI cJ cZ a lk ++ cTr cI cJ cZ a tr)) (st1 := [.int y19]) ⟨hx, hb, hml, hown, hts⟩ (c_Rf_isLoop l dC dI cI cJ cZ a ((Tr_sort tr) y6.toNatClampNeg) y19 hy) ⟨va_cnB 1 hts (gd_0 tw469) rfl rfl rfl (hNw _ nw467) (hts _ tw1) hd_Rf_isLoop.2 ⟨Nat.le_of_ble_eq_true rfl, Nat.le_of_ble_eq_true rfl⟩, hts _ tw468, trivial⟩ hNw hK hP hD hS hA [] [0, 1, 2, 3, 4, 5, 6, 7, 8, 9, 10, 11, 12, 13, 14, 15, 16, 17] rfl rfl rfl rfl rfl (by decide +kernel) (by decide +kernel) rfl hl.1 rfl (Nat.le_of_ble_eq_true rfl) rfl d_Lk_loopIn_19 ⟨Nat.zero_le _, Nat.zero_le _⟩ (fun H locs hP hD hS => ?_)
  refine lv_if_eq (tgt := 29) hx hb d_Lk_loopIn_22 (by decide) (fun hc => ?_) (fun hc => ?_)
  · have h := o_t hc h
    refine lv_iconst (v := -1) hx hb d_Lk_loopIn_29 (by decide) ?_
    cases h
    exact kr_i hx hb hr hlocks hP hD hS d_Lk_loopIn_30
  · have h := o_f hc h
    refine lv_iload_n hx hb d_Lk_loopIn_25 rfl (lv_at hl 0 rfl) ?_
    refine lv_goto (tgt := 30) hx hb d_Lk_loopIn_26 (by decide) ?_
    cases h
    exact kr_i hx hb hr hlocks hP hD hS d_Lk_loopIn_30
set_option maxHeartbeats 4000000 in
set_option maxRecDepth 100000 in
theorem c_Lk_stopsNameless (l : Launch) (dC : Nat → ClassId) (dI : Nat → Nat → Nat) (cI cJ cZ : ClassId) (a : Nat → Nat) (x0 : Int32) (x1 : Int32) (res : Int32) (h : f_Lk_stopsNameless x0 x1 = some res) :
    Kt l (dC, dI) classes [(cI, .int), (cJ, .long), (cZ, .boolean)] y_Lk_stopsNameless (wz y_Lk_stopsNameless b_Lk_stopsNameless 2 (some .boolean)) { frames := 1, cells := 0, slots := 0, locals := 20 } [.int x0, .int x1] ([] : va_W) (some (.int res)) ([] : va_W) := by
  refine Kt_of (cc := b_Lk_stopsNameless) (maxL := 2) (ret := (some .boolean)) (by decide) (Nat.le_of_ble_eq_true rfl) ?_
  intro p e s m args below meth c A ls hx hb hr hml hlocks hown hts hNw hK hP hD hA hS hl
  have hl : lv_has ls 2 [(0, .int x0), (1, .int x1)] := hl
  have hP : va_P (dC, dI) classes ([] : va_W) s.heap := hP
  refine lv_iload_n hx hb d_Lk_stopsNameless_0 rfl (lv_at hl 1 rfl) ?_
  obtain ⟨y1, hy, h⟩ := o_bd h
  refine kdSN (nn := 0) (rest := []) (w' := ([] : va_W)) (wr := ([] : va_W)) (st1 := [.int y1]) ⟨hx, hb, hml, hown, hts⟩ (c_Rf_isLoop l dC dI cI cJ cZ a x1 y1 hy) ⟨va_cnB 1 hts (gd_0 tw469) rfl rfl rfl (hNw _ nw467) (hts _ tw1) hd_Rf_isLoop.2 ⟨Nat.le_of_ble_eq_true rfl, Nat.le_of_ble_eq_true rfl⟩, hts _ tw468, trivial⟩ hNw hK hP hD hS hA [] [] rfl rfl rfl rfl rfl (by decide +kernel) (by decide +kernel) rfl hl.1 rfl (Nat.le_of_ble_eq_true rfl) rfl d_Lk_stopsNameless_1 ⟨Nat.zero_le _, Nat.zero_le _⟩ (fun H locs hP hD hS => ?_)
  refine lv_if_ne (tgt := 25) hx hb d_Lk_stopsNameless_4 (by decide) (fun hc => ?_) (fun hc => ?_)
  · have h := o_f hc h
    refine lv_iconst (v := 1) hx hb d_Lk_stopsNameless_25 (by decide) ?_
    refine lv_goto (tgt := 30) hx hb d_Lk_stopsNameless_26 (by decide) ?_
    cases h
    exact kr_z hx hb hr (by decide) hlocks hP hD hS d_Lk_stopsNameless_30
  · have h := o_t hc h
    refine lv_iload_n hx hb d_Lk_stopsNameless_7 rfl (lv_at hl 0 rfl) ?_
    refine lv_bipush (v := 10) hx hb d_Lk_stopsNameless_8 (by decide) ?_
    refine lv_icmp_ne (tgt := 29) hx hb d_Lk_stopsNameless_10 (by decide) (fun hc => ?_) (fun hc => ?_)
    · have h := o_f hc h
      refine lv_iconst (v := 0) hx hb d_Lk_stopsNameless_29 (by decide) ?_
      cases h
      exact kr_z hx hb hr (by decide) hlocks hP hD hS d_Lk_stopsNameless_30
    · have h := o_t hc h
      refine lv_iload_n hx hb d_Lk_stopsNameless_13 rfl (lv_at hl 1 rfl) ?_
      refine lv_bipush (v := 14) hx hb d_Lk_stopsNameless_14 (by decide) ?_
      refine lv_icmp_eq (tgt := 25) hx hb d_Lk_stopsNameless_16 (by decide) (fun hc => ?_) (fun hc => ?_)
      · have h := o_t hc h
        refine lv_iconst (v := 1) hx hb d_Lk_stopsNameless_25 (by decide) ?_
        refine lv_goto (tgt := 30) hx hb d_Lk_stopsNameless_26 (by decide) ?_
        cases h
        exact kr_z hx hb hr (by decide) hlocks hP hD hS d_Lk_stopsNameless_30
      · have h := o_f hc h
        refine lv_iload_n hx hb d_Lk_stopsNameless_19 rfl (lv_at hl 1 rfl) ?_
        refine lv_bipush (v := 15) hx hb d_Lk_stopsNameless_20 (by decide) ?_
        refine lv_icmp_ne (tgt := 29) hx hb d_Lk_stopsNameless_22 (by decide) (fun hc => ?_) (fun hc => ?_)
        · have h := o_f hc h
          refine lv_iconst (v := 0) hx hb d_Lk_stopsNameless_29 (by decide) ?_
          cases h
          exact kr_z hx hb hr (by decide) hlocks hP hD hS d_Lk_stopsNameless_30
        · have h := o_t hc h
          refine lv_iconst (v := 1) hx hb d_Lk_stopsNameless_25 (by decide) ?_
          refine lv_goto (tgt := 30) hx hb d_Lk_stopsNameless_26 (by decide) ?_
          cases h
          exact kr_z hx hb hr (by decide) hlocks hP hD hS d_Lk_stopsNameless_30
set_option maxHeartbeats 4000000 in
set_option maxRecDepth 100000 in
theorem c_Lk_targetOf (l : Launch) (dC : Nat → ClassId) (dI : Nat → Nat → Nat) (cI cJ cZ : ClassId) (a : Nat → Nat) (N : Nat) (x1 : Int32) (lk : LkS) (tr : TrS) (res : Int32) (h : f_Lk_targetOf N x1 lk tr = some res) :
    Kt l (dC, dI) classes [(cI, .int), (cJ, .long), (cZ, .boolean)] y_Lk_targetOf (wz y_Lk_targetOf b_Lk_targetOf 5 (some .int)) { frames := 2, cells := 0, slots := 0, locals := 44 } [.ref (a 17), .int x1] (cLk cI cJ cZ a lk ++ cTr cI cJ cZ a tr) (some (.int res)) (cLk cI cJ cZ a lk ++ cTr cI cJ cZ a tr) := by
  refine Kt_of (cc := b_Lk_targetOf) (maxL := 5) (ret := (some .int)) (by decide) (Nat.le_of_ble_eq_true rfl) ?_
  intro p e s m args below meth c A ls hx hb hr hml hlocks hown hts hNw hK hP hD hA hS hl
  have hl : lv_has ls 5 [(0, .ref (a 17)), (1, .int x1)] := hl
  have hP : va_P (dC, dI) classes (cLk cI cJ cZ a lk ++ cTr cI cJ cZ a tr) s.heap := hP
  have L56 : ∀ (x1_56 : Int32) (n56 : Nat) (s56 : Int32 × Int32) (H : Heap) (locs : List Loc) (ls : Array Slot), lp (f_Lk_targetOf_L56 N x1_56 lk tr) n56 s56 = some res → va_P (dC, dI) classes (cLk cI cJ cZ a lk ++ cTr cI cJ cZ a tr) H → va_D A (cLk cI cJ cZ a lk ++ cTr cI cJ cZ a tr) → va_S A s.heap H locs → lv_has ls 5 [(0, .ref (a 17)), (1, .int x1_56), (3, .int s56.1), (4, .int s56.2)] → W p l e { frames := 2, cells := 0, slots := 0, locals := 44 } s m args below meth c H locs 0 0 (KZ below args s (dC, dI) classes (some (.int res)) (cLk cI cJ cZ a lk ++ cTr cI cJ cZ a tr) A) (F0 m 56 ls []) := by
    intro x1_56 n56
    induction n56 with
    | zero => intro _ _ _ _ h; exact (lp_0 h).elim
    | succ n56 ih56 =>
      intro s56 H locs ls h hP hD hS hl
      have h := lp_s h
      refine lv_iload_n hx hb d_Lk_targetOf_56 rfl (lv_at hl 2 rfl) ?_
      refine lv_aload_n hx hb d_Lk_targetOf_57 rfl (lv_at hl 0 rfl) ?_
      refine va_get (D := (dC, dI)) (ci := 3) (v := .int (Lk_root lk)) (C := R_Lk) (T := F_Lk) (N := 14) hx hb hts inb_Lk hown hK hP 0 rfl rfl 4 (by decide) (hts _ tw230) (fun _ h9 => h9) rfl d_Lk_targetOf_58 ?_
      refine lv_icmp_eq (tgt := 113) hx hb d_Lk_targetOf_61 (by decide) (fun hc => ?_) (fun hc => ?_)
      · have h := o_t hc h
        refine lv_iconst (v := -1) hx hb d_Lk_targetOf_113 (by decide) ?_
        cases h
        exact kr_i hx hb hr hlocks hP hD hS d_Lk_targetOf_114
      · have h := o_f hc h
        refine lv_iload hx hb d_Lk_targetOf_64 (lv_at hl 3 rfl) ?_
        refine lv_bipush (v := 60) hx hb d_Lk_targetOf_66 (by decide) ?_
        refine lv_icmp_ge (tgt := 113) hx hb d_Lk_targetOf_68 (by decide) (fun hc => ?_) (fun hc => ?_)
        · have h := o_t hc h
          refine lv_iconst (v := -1) hx hb d_Lk_targetOf_113 (by decide) ?_
          cases h
          exact kr_i hx hb hr hlocks hP hD hS d_Lk_targetOf_114
        · have h := o_f hc h
          refine lv_aload_n hx hb d_Lk_targetOf_71 rfl (lv_at hl 0 rfl) ?_
          refine va_get (D := (dC, dI)) (ci := 3) (v := .ref (a 4)) (C := R_Lk) (T := F_Lk) (N := 14) hx hb hts inb_Lk hown hK hP 0 rfl rfl 0 (by decide) (hts _ tw224) (fun _ h9 => h9) rfl d_Lk_targetOf_72 ?_
          refine va_get (D := (dC, dI)) (ci := 1) (v := .ref (a 8)) (C := R_Tr) (T := F_Tr) (N := 14) hx hb hts inb_Tr hown hK hP 7 rfl rfl 7 (by decide) (hts _ tw78) (fun _ h9 => h9) rfl d_Lk_targetOf_75 ?_
          refine lv_iload_n hx hb d_Lk_targetOf_78 rfl (lv_at hl 2 rfl) ?_
          obtain ⟨hin, h⟩ := o_in h
          refine va_iald hx hb hK hP 11 0 rfl rfl hin d_Lk_targetOf_79 ?_
          refine lv_istore_n (lv' := [(3, .int ((Tr_parent tr) s56.1.toNatClampNeg)), (0, .ref (a 17)), (1, .int x1_56), (4, .int s56.2)]) hx hb d_Lk_targetOf_80 rfl hl (by decide) rfl (fun ls hl => ?_)
          refine lv_aload_n hx hb d_Lk_targetOf_81 rfl (lv_at hl 1 rfl) ?_
          refine va_get (D := (dC, dI)) (ci := 3) (v := .ref (a 4)) (C := R_Lk) (T := F_Lk) (N := 14) hx hb hts inb_Lk hown hK hP 0 rfl rfl 0 (by decide) (hts _ tw224) (fun _ h9 => h9) rfl d_Lk_targetOf_82 ?_
          refine va_get (D := (dC, dI)) (ci := 1) (v := .ref (a 5)) (C := R_Tr) (T := F_Tr) (N := 14) hx hb hts inb_Tr hown hK hP 7 rfl rfl 4 (by decide) (hts _ tw64) (fun _ h9 => h9) rfl d_Lk_targetOf_85 ?_
          refine lv_iload_n hx hb d_Lk_targetOf_88 rfl (lv_at hl 2 rfl) ?_
          obtain ⟨hin, h⟩ := o_in h
          refine va_iald hx hb hK hP 8 0 rfl rfl hin d_Lk_targetOf_89 ?_
          refine lv_aload_n hx hb d_Lk_targetOf_90 rfl (lv_at hl 1 rfl) ?_
          refine va_get (D := (dC, dI)) (ci := 3) (v := .ref (a 4)) (C := R_Lk) (T := F_Lk) (N := 14) hx hb hts inb_Lk hown hK hP 0 rfl rfl 0 (by decide) (hts _ tw224) (fun _ h9 => h9) rfl d_Lk_targetOf_91 ?_
          refine va_get (D := (dC, dI)) (ci := 1) (v := .ref (a 5)) (C := R_Tr) (T := F_Tr) (N := 14) hx hb hts inb_Tr hown hK hP 7 rfl rfl 4 (by decide) (hts _ tw64) (fun _ h9 => h9) rfl d_Lk_targetOf_94 ?_
          refine lv_iload_n hx hb d_Lk_targetOf_97 rfl (lv_at hl 0 rfl) ?_
          obtain ⟨hin, h⟩ := o_in h
          refine va_iald hx hb hK hP 8 0 rfl rfl hin d_Lk_targetOf_98 ?_
          obtain ⟨y99, hy, h⟩ := o_bd h
          refine kdS (nn := 18) (rest := []) (w' := (cLk cI cJ cZ a lk ++ cTr cI cJ cZ a tr)) (wr := (cLk cI cJ cZ a lk ++ cTr cI cJ cZ a tr)) (st1 := [.int y99]) ⟨hx, hb, hml, hown, hts⟩ (c_Lk_stopsNameless l dC dI cI cJ cZ a ((Tr_sort tr) x1_56.toNatClampNeg) ((Tr_sort tr) ((Tr_parent tr) s56.1.toNatClampNeg).toNatClampNeg) y99 hy) (va_cwS 2 hts (gd_S tw470 tw471 tw5 tw472) rfl rfl rfl hd_Lk_stopsNameless.2 ⟨Nat.le_of_ble_eq_true rfl, Nat.le_of_ble_eq_true rfl⟩) hNw hK hP hD hS hA [] [0, 1, 2, 3, 4, 5, 6, 7, 8, 9, 10, 11, 12, 13, 14, 15, 16, 17] rfl rfl rfl rfl rfl (by decide +kernel) (by decide +kernel) rfl hl.1 rfl (Nat.le_of_ble_eq_true rfl) rfl d_Lk_targetOf_99 ⟨Nat.zero_le _, Nat.zero_le _⟩ (fun H locs hP hD hS => ?_)
          refine lv_if_eq (tgt := 107) hx hb d_Lk_targetOf_102 (by decide) (fun hc => ?_) (fun hc => ?_)
          · have h := o_t hc h
            refine lv_iinc (v := (s56.2 + 1)) (lv' := [(4, .int (s56.2 + 1)), (3, .int ((Tr_parent tr) s56.1.toNatClampNeg)), (0, .ref (a 17)), (1, .int x1_56)]) hx hb d_Lk_targetOf_107 hl (k := 3) rfl rfl (by decide) rfl (fun ls hl => ?_)
            refine lv_goto (tgt := 56) hx hb d_Lk_targetOf_110 (by decide) ?_
            exact ih56 (((Tr_parent tr) s56.1.toNatClampNeg), (s56.2 + 1)) _ _ _ h hP hD hS (lv_sub hl [2, 3, 1, 0] rfl)
          · have h := o_f hc h
            refine lv_iload_n hx hb d_Lk_targetOf_105 rfl (lv_at hl 0 rfl) ?_
            cases h
            exact kr_i hx hb hr hlocks hP hD hS d_Lk_targetOf_106
  refine lv_aload_n hx hb d_Lk_targetOf_0 rfl (lv_at hl 0 rfl) ?_
  refine va_get (D := (dC, dI)) (ci := 3) (v := .ref (a 4)) (C := R_Lk) (T := F_Lk) (N := 14) hx hb hts inb_Lk hown hK hP 0 rfl rfl 0 (by decide) (hts _ tw224) (fun _ h9 => h9) rfl d_Lk_targetOf_1 ?_
  refine va_get (D := (dC, dI)) (ci := 1) (v := .ref (a 6)) (C := R_Tr) (T := F_Tr) (N := 14) hx hb hts inb_Tr hown hK hP 7 rfl rfl 5 (by decide) (hts _ tw69) (fun _ h9 => h9) rfl d_Lk_targetOf_4 ?_
  refine lv_iload_n hx hb d_Lk_targetOf_7 rfl (lv_at hl 1 rfl) ?_
  obtain ⟨hin, h⟩ := o_in h
  refine va_iald hx hb hK hP 9 0 rfl rfl hin d_Lk_targetOf_8 ?_
  refine lv_istore_n (lv' := [(2, .int ((Tr_value tr) x1.toNatClampNeg)), (0, .ref (a 17)), (1, .int x1)]) hx hb d_Lk_targetOf_9 rfl hl (by decide) rfl (fun ls hl => ?_)
  refine lv_iload_n hx hb d_Lk_targetOf_10 rfl (lv_at hl 0 rfl) ?_
  refine lv_iconst (v := -1) hx hb d_Lk_targetOf_11 (by decide) ?_
  refine lv_icmp_eq (tgt := 51) hx hb d_Lk_targetOf_12 (by decide) (fun hc => ?_) (fun hc => ?_)
  · have h := o_t hc h
    refine lv_iload_n hx hb d_Lk_targetOf_51 rfl (lv_at hl 2 rfl) ?_
    refine lv_istore_n (lv' := [(3, .int x1), (2, .int ((Tr_value tr) x1.toNatClampNeg)), (0, .ref (a 17)), (1, .int x1)]) hx hb d_Lk_targetOf_52 rfl hl (by decide) rfl (fun ls hl => ?_)
    refine lv_iconst (v := 0) hx hb d_Lk_targetOf_53 (by decide) ?_
    refine lv_istore (lv' := [(4, .int (0 : Int32)), (3, .int x1), (2, .int ((Tr_value tr) x1.toNatClampNeg)), (0, .ref (a 17)), (1, .int x1)]) hx hb d_Lk_targetOf_54 hl (by decide) rfl (fun ls hl => ?_)
    exact L56 x1 N (x1, (0 : Int32)) _ _ _ h hP hD hS (lv_sub hl [3, 4, 1, 0] rfl)
  · have h := o_f hc h
    refine lv_aload_n hx hb d_Lk_targetOf_15 rfl (lv_at hl 1 rfl) ?_
    refine lv_iload_n hx hb d_Lk_targetOf_16 rfl (lv_at hl 2 rfl) ?_
    refine lv_iload_n hx hb d_Lk_targetOf_17 rfl (lv_at hl 0 rfl) ?_
    obtain ⟨y18, hy, h⟩ := o_bd h
    refine kdV (nn := 18) (rest := []) (w' := (cLk cI cJ cZ a lk ++ cTr cI cJ cZ a tr)) (wr := ([] : va_W)) (st1 := [.int y18]) ⟨hx, hb, hml, hown, hts⟩ (c_Lk_labelAround l dC dI cI cJ cZ a N x1 ((Tr_value tr) x1.toNatClampNeg) lk tr y18 hy) (cwV 2 hts (gd_V tw459 tw461 ps8 tw5 tw462) rfl rfl rfl hd_Lk_labelAround ⟨Nat.le_of_ble_eq_true rfl, Nat.le_of_ble_eq_true rfl⟩) hNw hK hP hD hS hA (ci := 3) rfl rfl rfl [0, 1, 2, 3, 4, 5, 6, 7, 8, 9, 10, 11, 12, 13, 14, 15, 16, 17] [] rfl rfl rfl rfl rfl (by decide +kernel) (by decide +kernel) rfl hl.1 rfl (Nat.le_of_ble_eq_true rfl) rfl d_Lk_targetOf_18 ⟨Nat.zero_le _, Nat.zero_le _⟩ (fun H locs hP hD hS => ?_)
    refine lv_istore_n (lv' := [(3, .int y18), (2, .int ((Tr_value tr) x1.toNatClampNeg)), (0, .ref (a 17)), (1, .int x1)]) hx hb d_Lk_targetOf_21 rfl hl (by decide) rfl (fun ls hl => ?_)
    refine lv_aload_n hx hb d_Lk_targetOf_22 rfl (lv_at hl 2 rfl) ?_
    refine va_get (D := (dC, dI)) (ci := 3) (v := .ref (a 4)) (C := R_Lk) (T := F_Lk) (N := 14) hx hb hts inb_Lk hown hK hP 0 rfl rfl 0 (by decide) (hts _ tw224) (fun _ h9 => h9) rfl d_Lk_targetOf_23 ?_
    refine va_get (D := (dC, dI)) (ci := 1) (v := .ref (a 5)) (C := R_Tr) (T := F_Tr) (N := 14) hx hb hts inb_Tr hown hK hP 7 rfl rfl 4 (by decide) (hts _ tw64) (fun _ h9 => h9) rfl d_Lk_targetOf_26 ?_
    refine lv_iload_n hx hb d_Lk_targetOf_29 rfl (lv_at hl 3 rfl) ?_
    obtain ⟨hin, h⟩ := o_in h
    refine va_iald hx hb hK hP 8 0 rfl rfl hin d_Lk_targetOf_30 ?_
    refine lv_bipush (v := 10) hx hb d_Lk_targetOf_31 (by decide) ?_
    refine lv_icmp_eq (tgt := 41) hx hb d_Lk_targetOf_33 (by decide) (fun hc => ?_) (fun hc => ?_)
    · have h := o_t hc h
      refine lv_iload_n hx hb d_Lk_targetOf_41 rfl (lv_at hl 0 rfl) ?_
      refine lv_goto (tgt := 50) hx hb d_Lk_targetOf_42 (by decide) ?_
      cases h
      exact kr_i hx hb hr hlocks hP hD hS d_Lk_targetOf_50
    · have h := o_f hc h
      refine lv_iload_n hx hb d_Lk_targetOf_36 rfl (lv_at hl 0 rfl) ?_
      refine lv_iconst (v := -1) hx hb d_Lk_targetOf_37 (by decide) ?_
      refine lv_icmp_ne (tgt := 45) hx hb d_Lk_targetOf_38 (by decide) (fun hc => ?_) (fun hc => ?_)
      · have h := o_f hc h
        refine lv_aload_n hx hb d_Lk_targetOf_45 rfl (lv_at hl 2 rfl) ?_
        refine lv_iload_n hx hb d_Lk_targetOf_46 rfl (lv_at hl 0 rfl) ?_
        obtain ⟨y47, hy, h⟩ := o_bd h
        refine kdV (nn := 18) (rest := []) (w' := (cLk cI cJ cZ a lk ++ cTr cI cJ cZ a tr)) (wr := ([] : va_W)) (st1 := [.int y47]) ⟨hx, hb, hml, hown, hts⟩ (c_Lk_loopIn l dC dI cI cJ cZ a y18 lk tr y47 hy) (cwV 1 hts (gd_V tw463 tw465 ps9 tw5 tw466) rfl rfl rfl hd_Lk_loopIn ⟨Nat.le_of_ble_eq_true rfl, Nat.le_of_ble_eq_true rfl⟩) hNw hK hP hD hS hA (ci := 3) rfl rfl rfl [0, 1, 2, 3, 4, 5, 6, 7, 8, 9, 10, 11, 12, 13, 14, 15, 16, 17] [] rfl rfl rfl rfl rfl (by decide +kernel) (by decide +kernel) rfl hl.1 rfl (Nat.le_of_ble_eq_true rfl) rfl d_Lk_targetOf_47 ⟨Nat.zero_le _, Nat.zero_le _⟩ (fun H locs hP hD hS => ?_)
        cases h
        exact kr_i hx hb hr hlocks hP hD hS d_Lk_targetOf_50
      · have h := o_t hc h
        refine lv_iload_n hx hb d_Lk_targetOf_41 rfl (lv_at hl 0 rfl) ?_
        refine lv_goto (tgt := 50) hx hb d_Lk_targetOf_42 (by decide) ?_
        cases h
        exact kr_i hx hb hr hlocks hP hD hS d_Lk_targetOf_50
set_option maxHeartbeats 4000000 in
set_option maxRecDepth 100000 in
theorem c_Lk_findTargets (l : Launch) (dC : Nat → ClassId) (dI : Nat → Nat → Nat) (cI cJ cZ : ClassId) (a : Nat → Nat) (N : Nat) (lk : LkS) (tr : TrS) (res : LkS) (h : f_Lk_findTargets N lk tr = some res) :
    Kt l (dC, dI) classes [(cI, .int), (cJ, .long), (cZ, .boolean)] y_Lk_findTargets (wz y_Lk_findTargets b_Lk_findTargets 3 none) { frames := 3, cells := 0, slots := 0, locals := 68 } [.ref (a 17)] (cLk cI cJ cZ a lk ++ cTr cI cJ cZ a tr) none (cLk cI cJ cZ a res ++ cTr cI cJ cZ a tr) := by
  refine Kt_of (cc := b_Lk_findTargets) (maxL := 3) (ret := none) (by decide) (Nat.le_of_ble_eq_true rfl) ?_
  intro p e s m args below meth c A ls hx hb hr hml hlocks hown hts hNw hK hP hD hA hS hl
  have hl : lv_has ls 3 [(0, .ref (a 17))] := hl
  have hP : va_P (dC, dI) classes (cLk cI cJ cZ a lk ++ cTr cI cJ cZ a tr) s.heap := hP
  have L6 : ∀ (n6 : Nat) (s6 : Int32 × LkS) (H : Heap) (locs : List Loc) (ls : Array Slot), lp (f_Lk_findTargets_L6 N tr) n6 s6 = some res → va_P (dC, dI) classes (cLk cI cJ cZ a s6.2 ++ cTr cI cJ cZ a tr) H → va_D A (cLk cI cJ cZ a s6.2 ++ cTr cI cJ cZ a tr) → va_S A s.heap H locs → lv_has ls 3 [(0, .ref (a 17)), (1, .int s6.1)] → W p l e { frames := 3, cells := 0, slots := 0, locals := 68 } s m args below meth c H locs 0 0 (KZ below args s (dC, dI) classes none (cLk cI cJ cZ a res ++ cTr cI cJ cZ a tr) A) (F0 m 6 ls []) := by
    intro n6
    induction n6 with
    | zero => intro _ _ _ _ h; exact (lp_0 h).elim
    | succ n6 ih6 =>
      intro s6 H locs ls h hP hD hS hl
      have h := lp_s h
      refine lv_iload_n hx hb d_Lk_findTargets_6 rfl (lv_at hl 1 rfl) ?_
      refine lv_aload_n hx hb d_Lk_findTargets_7 rfl (lv_at hl 0 rfl) ?_
      refine va_get (D := (dC, dI)) (ci := 3) (v := .int (Lk_length s6.2)) (C := R_Lk) (T := F_Lk) (N := 14) hx hb hts inb_Lk hown hK hP 0 rfl rfl 5 (by decide) (hts _ tw232) (fun _ h9 => h9) rfl d_Lk_findTargets_8 ?_
      refine lv_icmp_ge (tgt := 46) hx hb d_Lk_findTargets_11 (by decide) (fun hc => ?_) (fun hc => ?_)
      · have h := o_t hc h
        cases h
        exact kr_v hx hb hr hlocks hP hD hS d_Lk_findTargets_46
      · have h := o_f hc h
        refine lv_aload_n hx hb d_Lk_findTargets_14 rfl (lv_at hl 0 rfl) ?_
        refine va_get (D := (dC, dI)) (ci := 3) (v := .ref (a 18)) (C := R_Lk) (T := F_Lk) (N := 14) hx hb hts inb_Lk hown hK hP 0 rfl rfl 6 (by decide) (hts _ tw233) (fun _ h9 => h9) rfl d_Lk_findTargets_15 ?_
        refine lv_iload_n hx hb d_Lk_findTargets_18 rfl (lv_at hl 1 rfl) ?_
        obtain ⟨hin, h⟩ := o_in h
        refine va_iald hx hb hK hP 1 0 rfl rfl hin d_Lk_findTargets_19 ?_
        refine lv_istore_n (lv' := [(2, .int ((Lk_order s6.2) s6.1.toNatClampNeg)), (0, .ref (a 17)), (1, .int s6.1)]) hx hb d_Lk_findTargets_20 rfl hl (by decide) rfl (fun ls hl => ?_)
        refine lv_aload_n hx hb d_Lk_findTargets_21 rfl (lv_at hl 1 rfl) ?_
        refine lv_iload_n hx hb d_Lk_findTargets_22 rfl (lv_at hl 0 rfl) ?_
        obtain ⟨y23, hy, h⟩ := o_bd h
        refine kdV (nn := 18) (rest := []) (w' := (cLk cI cJ cZ a s6.2 ++ cTr cI cJ cZ a tr)) (wr := ([] : va_W)) (st1 := [.int y23]) ⟨hx, hb, hml, hown, hts⟩ (c_Lk_isJump l dC dI cI cJ cZ a ((Lk_order s6.2) s6.1.toNatClampNeg) s6.2 tr y23 hy) (cwV 1 hts (gd_V tw451 tw453 ps6 tw5 tw454) rfl rfl rfl hd_Lk_isJump ⟨Nat.le_of_ble_eq_true rfl, Nat.le_of_ble_eq_true rfl⟩) hNw hK hP hD hS hA (ci := 3) rfl rfl rfl [0, 1, 2, 3, 4, 5, 6, 7, 8, 9, 10, 11, 12, 13, 14, 15, 16, 17] [] rfl rfl rfl rfl rfl (by decide +kernel) (by decide +kernel) rfl hl.1 rfl (Nat.le_of_ble_eq_true rfl) rfl d_Lk_findTargets_23 ⟨Nat.zero_le _, Nat.zero_le _⟩ (fun H locs hP hD hS => ?_)
        refine lv_if_eq (tgt := 40) hx hb d_Lk_findTargets_26 (by decide) (fun hc => ?_) (fun hc => ?_)
        · have h := o_t hc h
          refine lv_iinc (v := (s6.1 + 1)) (lv' := [(1, .int (s6.1 + 1)), (2, .int ((Lk_order s6.2) s6.1.toNatClampNeg)), (0, .ref (a 17))]) hx hb d_Lk_findTargets_40 hl (k := 2) rfl rfl (by decide) rfl (fun ls hl => ?_)
          refine lv_goto (tgt := 6) hx hb d_Lk_findTargets_43 (by decide) ?_
          exact ih6 ((s6.1 + 1), s6.2) _ _ _ h hP hD hS (lv_sub hl [2, 0] rfl)
        · have h := o_f hc h
          refine lv_aload_n hx hb d_Lk_findTargets_29 rfl (lv_at hl 1 rfl) ?_
          refine va_get (D := (dC, dI)) (ci := 3) (v := .ref (a 20)) (C := R_Lk) (T := F_Lk) (N := 14) hx hb hts inb_Lk hown hK hP 0 rfl rfl 8 (by decide) (hts _ tw235) (fun _ h9 => h9) rfl d_Lk_findTargets_30 ?_
          refine lv_iload_n hx hb d_Lk_findTargets_33 rfl (lv_at hl 0 rfl) ?_
          refine lv_aload_n hx hb d_Lk_findTargets_34 rfl (lv_at hl 1 rfl) ?_
          refine lv_iload_n hx hb d_Lk_findTargets_35 rfl (lv_at hl 0 rfl) ?_
          obtain ⟨y36, hy, h⟩ := o_bd h
          refine kdV (nn := 18) (rest := [.int ((Lk_order s6.2) s6.1.toNatClampNeg), .ref (a 20)]) (w' := (cLk cI cJ cZ a s6.2 ++ cTr cI cJ cZ a tr)) (wr := ([] : va_W)) (st1 := [.int y36, .int ((Lk_order s6.2) s6.1.toNatClampNeg), .ref (a 20)]) ⟨hx, hb, hml, hown, hts⟩ (c_Lk_targetOf l dC dI cI cJ cZ a N ((Lk_order s6.2) s6.1.toNatClampNeg) s6.2 tr y36 hy) (cwV 1 hts (gd_V tw455 tw457 ps7 tw5 tw458) rfl rfl rfl hd_Lk_targetOf ⟨Nat.le_of_ble_eq_true rfl, Nat.le_of_ble_eq_true rfl⟩) hNw hK hP hD hS hA (ci := 3) rfl rfl rfl [0, 1, 2, 3, 4, 5, 6, 7, 8, 9, 10, 11, 12, 13, 14, 15, 16, 17] [] rfl rfl rfl rfl rfl (by decide +kernel) (by decide +kernel) rfl hl.1 rfl (Nat.le_of_ble_eq_true rfl) rfl d_Lk_findTargets_36 ⟨Nat.zero_le _, Nat.zero_le _⟩ (fun H locs hP hD hS => ?_)
          obtain ⟨hin, h⟩ := o_in h
          refine va_iast hx hb hK hP hD hS 3 0 rfl rfl hin d_Lk_findTargets_39 (fun H locs hP hD hS => ?_)
          have hP : va_P (dC, dI) classes (cLk cI cJ cZ a ((Lk_root s6.2), (Lk_length s6.2), (Lk_order s6.2), (Lk_waiting s6.2), (upd (Lk_targets s6.2) ((Lk_order s6.2) s6.1.toNatClampNeg).toNatClampNeg y36), (Lk_faultCount s6.2), (Lk_faultSort s6.2), (Lk_faultNode s6.2), (Lk_noteCount s6.2), (Lk_noteNode s6.2)) ++ cTr cI cJ cZ a tr) H := hP
          have hD : va_D A (cLk cI cJ cZ a ((Lk_root s6.2), (Lk_length s6.2), (Lk_order s6.2), (Lk_waiting s6.2), (upd (Lk_targets s6.2) ((Lk_order s6.2) s6.1.toNatClampNeg).toNatClampNeg y36), (Lk_faultCount s6.2), (Lk_faultSort s6.2), (Lk_faultNode s6.2), (Lk_noteCount s6.2), (Lk_noteNode s6.2)) ++ cTr cI cJ cZ a tr) := hD
          refine lv_iinc (v := (s6.1 + 1)) (lv' := [(1, .int (s6.1 + 1)), (2, .int ((Lk_order s6.2) s6.1.toNatClampNeg)), (0, .ref (a 17))]) hx hb d_Lk_findTargets_40 hl (k := 2) rfl rfl (by decide) rfl (fun ls hl => ?_)
          refine lv_goto (tgt := 6) hx hb d_Lk_findTargets_43 (by decide) ?_
          exact ih6 ((s6.1 + 1), ((Lk_root s6.2), (Lk_length s6.2), (Lk_order s6.2), (Lk_waiting s6.2), (upd (Lk_targets s6.2) ((Lk_order s6.2) s6.1.toNatClampNeg).toNatClampNeg y36), (Lk_faultCount s6.2), (Lk_faultSort s6.2), (Lk_faultNode s6.2), (Lk_noteCount s6.2), (Lk_noteNode s6.2))) _ _ _ h hP hD hS (lv_sub hl [2, 0] rfl)
  refine lv_aload_n hx hb d_Lk_findTargets_0 rfl (lv_at hl 0 rfl) ?_
  obtain ⟨y1, hy, h⟩ := o_bd h
  refine kdV (nn := 18) (rest := []) (w' := (cLk cI cJ cZ a y1 ++ cTr cI cJ cZ a tr)) (wr := (cTr cI cJ cZ a tr)) (st1 := []) ⟨hx, hb, hml, hown, hts⟩ (c_Lk_forgetTargets l dC dI cI cJ cZ a N lk y1 hy) (cwV 0 hts (gd_V tw220 tw222 ps0 tw5 tw223) rfl rfl rfl hd_Lk_forgetTargets ⟨Nat.le_of_ble_eq_true rfl, Nat.le_of_ble_eq_true rfl⟩) hNw hK hP hD hS hA (ci := 3) rfl rfl rfl [0, 1, 2, 3, 4, 5, 6] [7, 8, 9, 10, 11, 12, 13, 14, 15, 16, 17] rfl rfl rfl rfl rfl (by decide +kernel) (by decide +kernel) rfl hl.1 rfl (Nat.le_of_ble_eq_true rfl) rfl d_Lk_findTargets_1 ⟨Nat.zero_le _, Nat.zero_le _⟩ (fun H locs hP hD hS => ?_)
  refine lv_iconst (v := 0) hx hb d_Lk_findTargets_4 (by decide) ?_
  refine lv_istore_n (lv' := [(1, .int (0 : Int32)), (0, .ref (a 17))]) hx hb d_Lk_findTargets_5 rfl hl (by decide) rfl (fun ls hl => ?_)
  exact L6 N ((0 : Int32), y1) _ _ _ h hP hD hS (lv_sub hl [1, 0] rfl)
set_option maxHeartbeats 4000000 in
set_option maxRecDepth 100000 in
theorem c_Lk_addFault (l : Launch) (dC : Nat → ClassId) (dI : Nat → Nat → Nat) (cI cJ cZ : ClassId) (a : Nat → Nat) (x1 : Int32) (x2 : Int32) (lk : LkS) (res : LkS) (h : f_Lk_addFault x1 x2 lk = some res) :
    Kt l (dC, dI) classes [(cI, .int), (cJ, .long), (cZ, .boolean)] y_Lk_addFault (wz y_Lk_addFault b_Lk_addFault 3 none) { frames := 0, cells := 0, slots := 0, locals := 0 } [.ref (a 17), .int x1, .int x2] (cLk cI cJ cZ a lk) none (cLk cI cJ cZ a res) := by
  refine Kt_of (cc := b_Lk_addFault) (maxL := 3) (ret := none) (by decide) (Nat.le_of_ble_eq_true rfl) ?_
  intro p e s m args below meth c A ls hx hb hr hml hlocks hown hts hNw hK hP hD hA hS hl
  have hl : lv_has ls 3 [(0, .ref (a 17)), (1, .int x1), (2, .int x2)] := hl
  have hP : va_P (dC, dI) classes (cLk cI cJ cZ a lk) s.heap := hP
  refine lv_aload_n hx hb d_Lk_addFault_0 rfl (lv_at hl 0 rfl) ?_
  refine va_get (D := (dC, dI)) (ci := 3) (v := .ref (a 21)) (C := R_Lk) (T := F_Lk) (N := 14) hx hb hts inb_Lk hown hK hP 0 rfl rfl 10 (by decide) (hts _ tw239) (fun _ h9 => h9) rfl d_Lk_addFault_1 ?_
  refine lv_aload_n hx hb d_Lk_addFault_4 rfl (lv_at hl 0 rfl) ?_
  refine va_get (D := (dC, dI)) (ci := 3) (v := .int (Lk_faultCount lk)) (C := R_Lk) (T := F_Lk) (N := 14) hx hb hts inb_Lk hown hK hP 0 rfl rfl 9 (by decide) (hts _ tw237) (fun _ h9 => h9) rfl d_Lk_addFault_5 ?_
  refine lv_iload_n hx hb d_Lk_addFault_8 rfl (lv_at hl 1 rfl) ?_
  obtain ⟨hin, h⟩ := o_in h
  refine va_iast hx hb hK hP hD hS 4 0 rfl rfl hin d_Lk_addFault_9 (fun H locs hP hD hS => ?_)
  have hP : va_P (dC, dI) classes (cLk cI cJ cZ a ((Lk_root lk), (Lk_length lk), (Lk_order lk), (Lk_waiting lk), (Lk_targets lk), (Lk_faultCount lk), (upd (Lk_faultSort lk) (Lk_faultCount lk).toNatClampNeg x1), (Lk_faultNode lk), (Lk_noteCount lk), (Lk_noteNode lk))) H := hP
  have hD : va_D A (cLk cI cJ cZ a ((Lk_root lk), (Lk_length lk), (Lk_order lk), (Lk_waiting lk), (Lk_targets lk), (Lk_faultCount lk), (upd (Lk_faultSort lk) (Lk_faultCount lk).toNatClampNeg x1), (Lk_faultNode lk), (Lk_noteCount lk), (Lk_noteNode lk))) := hD
  refine lv_aload_n hx hb d_Lk_addFault_10 rfl (lv_at hl 0 rfl) ?_
  refine va_get (D := (dC, dI)) (ci := 3) (v := .ref (a 22)) (C := R_Lk) (T := F_Lk) (N := 14) hx hb hts inb_Lk hown hK hP 0 rfl rfl 11 (by decide) (hts _ tw241) (fun _ h9 => h9) rfl d_Lk_addFault_11 ?_
  refine lv_aload_n hx hb d_Lk_addFault_14 rfl (lv_at hl 0 rfl) ?_
  refine va_get (D := (dC, dI)) (ci := 3) (v := .int (Lk_faultCount lk)) (C := R_Lk) (T := F_Lk) (N := 14) hx hb hts inb_Lk hown hK hP 0 rfl rfl 9 (by decide) (hts _ tw237) (fun _ h9 => h9) rfl d_Lk_addFault_15 ?_
  refine lv_iload_n hx hb d_Lk_addFault_18 rfl (lv_at hl 2 rfl) ?_
  obtain ⟨hin, h⟩ := o_in h
  refine va_iast hx hb hK hP hD hS 5 0 rfl rfl hin d_Lk_addFault_19 (fun H locs hP hD hS => ?_)
  have hP : va_P (dC, dI) classes (cLk cI cJ cZ a ((Lk_root lk), (Lk_length lk), (Lk_order lk), (Lk_waiting lk), (Lk_targets lk), (Lk_faultCount lk), (upd (Lk_faultSort lk) (Lk_faultCount lk).toNatClampNeg x1), (upd (Lk_faultNode lk) (Lk_faultCount lk).toNatClampNeg x2), (Lk_noteCount lk), (Lk_noteNode lk))) H := hP
  have hD : va_D A (cLk cI cJ cZ a ((Lk_root lk), (Lk_length lk), (Lk_order lk), (Lk_waiting lk), (Lk_targets lk), (Lk_faultCount lk), (upd (Lk_faultSort lk) (Lk_faultCount lk).toNatClampNeg x1), (upd (Lk_faultNode lk) (Lk_faultCount lk).toNatClampNeg x2), (Lk_noteCount lk), (Lk_noteNode lk))) := hD
  refine lv_aload_n hx hb d_Lk_addFault_20 rfl (lv_at hl 0 rfl) ?_
  refine lv_dup hx hb d_Lk_addFault_21 rfl ?_
  refine va_get (D := (dC, dI)) (ci := 3) (v := .int (Lk_faultCount lk)) (C := R_Lk) (T := F_Lk) (N := 14) hx hb hts inb_Lk hown hK hP 0 rfl rfl 9 (by decide) (hts _ tw237) (fun _ h9 => h9) rfl d_Lk_addFault_22 ?_
  refine lv_iconst (v := 1) hx hb d_Lk_addFault_25 (by decide) ?_
  refine lv_iadd hx hb d_Lk_addFault_26 ?_
  refine va_put (D := (dC, dI)) (ci := 3) (v := .int ((Lk_faultCount lk) + (1 : Int32))) (ty := .int) (C := R_Lk) (T := F_Lk) (N := 14) hx hb hts inb_Lk ft_Lk ft_Lk_ok n_Lk hown hK hP hD hS 0 rfl rfl 9 (by decide) (hts _ tw237) (fun _ h9 => h9) rfl (by decide +kernel) rfl rfl (Nat.le_of_ble_eq_true rfl) d_Lk_addFault_27 (fun H locs hP hD hS => ?_)
  have hP : va_P (dC, dI) classes (cLk cI cJ cZ a ((Lk_root lk), (Lk_length lk), (Lk_order lk), (Lk_waiting lk), (Lk_targets lk), ((Lk_faultCount lk) + (1 : Int32)), (upd (Lk_faultSort lk) (Lk_faultCount lk).toNatClampNeg x1), (upd (Lk_faultNode lk) (Lk_faultCount lk).toNatClampNeg x2), (Lk_noteCount lk), (Lk_noteNode lk))) H := hP
  have hD : va_D A (cLk cI cJ cZ a ((Lk_root lk), (Lk_length lk), (Lk_order lk), (Lk_waiting lk), (Lk_targets lk), ((Lk_faultCount lk) + (1 : Int32)), (upd (Lk_faultSort lk) (Lk_faultCount lk).toNatClampNeg x1), (upd (Lk_faultNode lk) (Lk_faultCount lk).toNatClampNeg x2), (Lk_noteCount lk), (Lk_noteNode lk))) := hD
  cases h
  exact kr_v hx hb hr hlocks hP hD hS d_Lk_addFault_30
set_option maxHeartbeats 4000000 in
set_option maxRecDepth 100000 in
theorem c_Lk_isCaughtBefore (l : Launch) (dC : Nat → ClassId) (dI : Nat → Nat → Nat) (cI cJ cZ : ClassId) (a : Nat → Nat) (N : Nat) (x1 : Int32) (lk : LkS) (tr : TrS) (kn : KnS) (res : Int32) (h : f_Lk_isCaughtBefore N x1 tr kn = some res) :
    Kt l (dC, dI) classes [(cI, .int), (cJ, .long), (cZ, .boolean)] y_Lk_isCaughtBefore (wz y_Lk_isCaughtBefore b_Lk_isCaughtBefore 5 (some .boolean)) { frames := 1, cells := 0, slots := 0, locals := 22 } [.ref (a 17), .int x1] (cLk cI cJ cZ a lk ++ cTr cI cJ cZ a tr ++ cKn cI cJ cZ a kn) (some (.int res)) (cLk cI cJ cZ a lk ++ cTr cI cJ cZ a tr ++ cKn cI cJ cZ a kn) := by
  refine Kt_of (cc := b_Lk_isCaughtBefore) (maxL := 5) (ret := (some .boolean)) (by decide) (Nat.le_of_ble_eq_true rfl) ?_
  intro p e s m args below meth c A ls hx hb hr hml hlocks hown hts hNw hK hP hD hA hS hl
  have hl : lv_has ls 5 [(0, .ref (a 17)), (1, .int x1)] := hl
  have hP : va_P (dC, dI) classes (cLk cI cJ cZ a lk ++ cTr cI cJ cZ a tr ++ cKn cI cJ cZ a kn) s.heap := hP
  have L31 : ∀ (x1_31 : Int32) (x2_31 : Int32) (x3_31 : Int32) (n31 : Nat) (s31 : Int32) (H : Heap) (locs : List Loc) (ls : Array Slot), lp (f_Lk_isCaughtBefore_L31 N x1_31 x2_31 x3_31 tr kn) n31 s31 = some res → va_P (dC, dI) classes (cLk cI cJ cZ a lk ++ cTr cI cJ cZ a tr ++ cKn cI cJ cZ a kn) H → va_D A (cLk cI cJ cZ a lk ++ cTr cI cJ cZ a tr ++ cKn cI cJ cZ a kn) → va_S A s.heap H locs → lv_has ls 5 [(0, .ref (a 17)), (1, .int x1_31), (2, .int x2_31), (3, .int x3_31), (4, .int s31)] → W p l e { frames := 1, cells := 0, slots := 0, locals := 22 } s m args below meth c H locs 0 0 (KZ below args s (dC, dI) classes (some (.int res)) (cLk cI cJ cZ a lk ++ cTr cI cJ cZ a tr ++ cKn cI cJ cZ a kn) A) (F0 m 31 ls []) := by
    intro x1_31 x2_31 x3_31 n31
    induction n31 with
    | zero => intro _ _ _ _ h; exact (lp_0 h).elim
    | succ n31 ih31 =>
      intro s31 H locs ls h hP hD hS hl
      have h := lp_s h
      refine lv_iload hx hb d_Lk_isCaughtBefore_31 (lv_at hl 4 rfl) ?_
      refine lv_aload_n hx hb d_Lk_isCaughtBefore_33 rfl (lv_at hl 0 rfl) ?_
      refine va_get (D := (dC, dI)) (ci := 3) (v := .ref (a 4)) (C := R_Lk) (T := F_Lk) (N := 14) hx hb hts inb_Lk hown hK hP 0 rfl rfl 0 (by decide) (hts _ tw224) (fun _ h9 => h9) rfl d_Lk_isCaughtBefore_34 ?_
      refine lv_iload_n hx hb d_Lk_isCaughtBefore_37 rfl (lv_at hl 3 rfl) ?_
      obtain ⟨y38, hy, h⟩ := o_bd h
      refine kdV (nn := 21) (rest := [.int s31]) (w' := (cLk cI cJ cZ a lk ++ cTr cI cJ cZ a tr ++ cKn cI cJ cZ a kn)) (wr := (cLk cI cJ cZ a lk ++ cKn cI cJ cZ a kn)) (st1 := [.int y38, .int s31]) ⟨hx, hb, hml, hown, hts⟩ (c_Tr_catchCount l dC dI cI cJ cZ a x3_31 tr y38 hy) (cwV 1 hts (gd_V tw610 tw509 tw510 tw3 tw511) rfl rfl rfl hd_Tr_catchCount ⟨Nat.le_of_ble_eq_true rfl, Nat.le_of_ble_eq_true rfl⟩) hNw hK hP hD hS hA (ci := 1) rfl rfl rfl [7, 8, 9, 10, 11, 12, 13, 14, 15, 16, 17] [0, 1, 2, 3, 4, 5, 6, 18, 19, 20] rfl rfl rfl rfl rfl (by decide +kernel) (by decide +kernel) rfl hl.1 rfl (Nat.le_of_ble_eq_true rfl) rfl d_Lk_isCaughtBefore_38 ⟨Nat.zero_le _, Nat.zero_le _⟩ (fun H locs hP hD hS => ?_)
      refine lv_icmp_gt (tgt := 92) hx hb d_Lk_isCaughtBefore_41 (by decide) (fun hc => ?_) (fun hc => ?_)
      · have h := o_t hc h
        refine lv_iconst (v := 0) hx hb d_Lk_isCaughtBefore_92 (by decide) ?_
        cases h
        exact kr_z hx hb hr (by decide) hlocks hP hD hS d_Lk_isCaughtBefore_93
      · have h := o_f hc h
        refine lv_aload_n hx hb d_Lk_isCaughtBefore_44 rfl (lv_at hl 0 rfl) ?_
        refine va_get (D := (dC, dI)) (ci := 3) (v := .ref (a 4)) (C := R_Lk) (T := F_Lk) (N := 14) hx hb hts inb_Lk hown hK hP 0 rfl rfl 0 (by decide) (hts _ tw224) (fun _ h9 => h9) rfl d_Lk_isCaughtBefore_45 ?_
        refine lv_iload_n hx hb d_Lk_isCaughtBefore_48 rfl (lv_at hl 3 rfl) ?_
        refine lv_iload hx hb d_Lk_isCaughtBefore_49 (lv_at hl 4 rfl) ?_
        obtain ⟨y51, hy, h⟩ := o_bd h
        refine kdV (nn := 21) (rest := []) (w' := (cLk cI cJ cZ a lk ++ cTr cI cJ cZ a tr ++ cKn cI cJ cZ a kn)) (wr := (cLk cI cJ cZ a lk ++ cKn cI cJ cZ a kn)) (st1 := [.int y51]) ⟨hx, hb, hml, hown, hts⟩ (c_Tr_kid l dC dI cI cJ cZ a x3_31 s31 tr y51 hy) (cwV 2 hts (gd_V tw446 tw427 tw428 tw3 tw429) rfl rfl rfl hd_Tr_kid ⟨Nat.le_of_ble_eq_true rfl, Nat.le_of_ble_eq_true rfl⟩) hNw hK hP hD hS hA (ci := 1) rfl rfl rfl [7, 8, 9, 10, 11, 12, 13, 14, 15, 16, 17] [0, 1, 2, 3, 4, 5, 6, 18, 19, 20] rfl rfl rfl rfl rfl (by decide +kernel) (by decide +kernel) rfl hl.1 rfl (Nat.le_of_ble_eq_true rfl) rfl d_Lk_isCaughtBefore_51 ⟨Nat.zero_le _, Nat.zero_le _⟩ (fun H locs hP hD hS => ?_)
        refine lv_iload_n hx hb d_Lk_isCaughtBefore_54 rfl (lv_at hl 1 rfl) ?_
        refine lv_icmp_eq (tgt := 92) hx hb d_Lk_isCaughtBefore_55 (by decide) (fun hc => ?_) (fun hc => ?_)
        · have h := o_t hc h
          refine lv_iconst (v := 0) hx hb d_Lk_isCaughtBefore_92 (by decide) ?_
          cases h
          exact kr_z hx hb hr (by decide) hlocks hP hD hS d_Lk_isCaughtBefore_93
        · have h := o_f hc h
          refine lv_iload_n hx hb d_Lk_isCaughtBefore_58 rfl (lv_at hl 2 rfl) ?_
          refine lv_i2l hx hb d_Lk_isCaughtBefore_59 rfl ?_
          refine lv_aload_n hx hb d_Lk_isCaughtBefore_60 rfl (lv_at hl 0 rfl) ?_
          refine va_get (D := (dC, dI)) (ci := 3) (v := .ref (a 4)) (C := R_Lk) (T := F_Lk) (N := 14) hx hb hts inb_Lk hown hK hP 0 rfl rfl 0 (by decide) (hts _ tw224) (fun _ h9 => h9) rfl d_Lk_isCaughtBefore_61 ?_
          refine va_get (D := (dC, dI)) (ci := 1) (v := .ref (a 7)) (C := R_Tr) (T := F_Tr) (N := 14) hx hb hts inb_Tr hown hK hP 7 rfl rfl 6 (by decide) (hts _ tw74) (fun _ h9 => h9) rfl d_Lk_isCaughtBefore_64 ?_
          refine lv_aload_n hx hb d_Lk_isCaughtBefore_67 rfl (lv_at hl 0 rfl) ?_
          refine va_get (D := (dC, dI)) (ci := 3) (v := .ref (a 4)) (C := R_Lk) (T := F_Lk) (N := 14) hx hb hts inb_Lk hown hK hP 0 rfl rfl 0 (by decide) (hts _ tw224) (fun _ h9 => h9) rfl d_Lk_isCaughtBefore_68 ?_
          refine lv_iload_n hx hb d_Lk_isCaughtBefore_71 rfl (lv_at hl 3 rfl) ?_
          refine lv_iload hx hb d_Lk_isCaughtBefore_72 (lv_at hl 4 rfl) ?_
          obtain ⟨y74, hy, h⟩ := o_bd h
          refine kdV (nn := 21) (rest := [.ref (a 7), .long x2_31.toInt64]) (w' := (cLk cI cJ cZ a lk ++ cTr cI cJ cZ a tr ++ cKn cI cJ cZ a kn)) (wr := (cLk cI cJ cZ a lk ++ cKn cI cJ cZ a kn)) (st1 := [.int y74, .ref (a 7), .long x2_31.toInt64]) ⟨hx, hb, hml, hown, hts⟩ (c_Tr_kid l dC dI cI cJ cZ a x3_31 s31 tr y74 hy) (cwV 2 hts (gd_V tw446 tw427 tw428 tw3 tw429) rfl rfl rfl hd_Tr_kid ⟨Nat.le_of_ble_eq_true rfl, Nat.le_of_ble_eq_true rfl⟩) hNw hK hP hD hS hA (ci := 1) rfl rfl rfl [7, 8, 9, 10, 11, 12, 13, 14, 15, 16, 17] [0, 1, 2, 3, 4, 5, 6, 18, 19, 20] rfl rfl rfl rfl rfl (by decide +kernel) (by decide +kernel) rfl hl.1 rfl (Nat.le_of_ble_eq_true rfl) rfl d_Lk_isCaughtBefore_74 ⟨Nat.zero_le _, Nat.zero_le _⟩ (fun H locs hP hD hS => ?_)
          obtain ⟨hin, h⟩ := o_in h
          refine va_iald hx hb hK hP 10 0 rfl rfl hin d_Lk_isCaughtBefore_77 ?_
          obtain ⟨y78, hy, h⟩ := o_bd h
          refine kdSN (nn := 21) (rest := []) (w' := (cLk cI cJ cZ a lk ++ cTr cI cJ cZ a tr ++ cKn cI cJ cZ a kn)) (wr := (cLk cI cJ cZ a lk ++ cTr cI cJ cZ a tr ++ cKn cI cJ cZ a kn)) (st1 := [.int y78]) ⟨hx, hb, hml, hown, hts⟩ (c_Rf_isIn l dC dI cI cJ cZ a x2_31.toInt64 ((Tr_mark tr) y74.toNatClampNeg) y78 hy) ⟨va_cnB 2 hts (gd_0 tw34) rfl rfl rfl (hNw _ nw611) (hts _ tw1) hd_Rf_isIn.2 ⟨Nat.le_of_ble_eq_true rfl, Nat.le_of_ble_eq_true rfl⟩, hts _ tw33, trivial⟩ hNw hK hP hD hS hA [] [0, 1, 2, 3, 4, 5, 6, 7, 8, 9, 10, 11, 12, 13, 14, 15, 16, 17, 18, 19, 20] rfl rfl rfl rfl rfl (by decide +kernel) (by decide +kernel) rfl hl.1 rfl (Nat.le_of_ble_eq_true rfl) rfl d_Lk_isCaughtBefore_78 ⟨Nat.zero_le _, Nat.zero_le _⟩ (fun H locs hP hD hS => ?_)
          refine lv_if_eq (tgt := 86) hx hb d_Lk_isCaughtBefore_81 (by decide) (fun hc => ?_) (fun hc => ?_)
          · have h := o_t hc h
            refine lv_iinc (v := (s31 + 1)) (lv' := [(4, .int (s31 + 1)), (0, .ref (a 17)), (1, .int x1_31), (2, .int x2_31), (3, .int x3_31)]) hx hb d_Lk_isCaughtBefore_86 hl (k := 4) rfl rfl (by decide) rfl (fun ls hl => ?_)
            refine lv_goto (tgt := 31) hx hb d_Lk_isCaughtBefore_89 (by decide) ?_
            exact ih31 (s31 + 1) _ _ _ h hP hD hS (lv_sub hl [1, 2, 3, 4, 0] rfl)
          · have h := o_f hc h
            refine lv_iconst (v := 1) hx hb d_Lk_isCaughtBefore_84 (by decide) ?_
            cases h
            exact kr_z hx hb hr (by decide) hlocks hP hD hS d_Lk_isCaughtBefore_85
  refine lv_aload_n hx hb d_Lk_isCaughtBefore_0 rfl (lv_at hl 0 rfl) ?_
  refine va_get (D := (dC, dI)) (ci := 3) (v := .ref (a 1)) (C := R_Lk) (T := F_Lk) (N := 14) hx hb hts inb_Lk hown hK hP 0 rfl rfl 1 (by decide) (hts _ tw225) (fun _ h9 => h9) rfl d_Lk_isCaughtBefore_1 ?_
  refine va_get (D := (dC, dI)) (ci := 0) (v := .ref (a 3)) (C := R_Kn) (T := F_Kn) (N := 3) hx hb hts inb_Kn hown hK hP 18 rfl rfl 2 (by decide) (hts _ tw43) (fun _ h9 => h9) rfl d_Lk_isCaughtBefore_4 ?_
  refine lv_aload_n hx hb d_Lk_isCaughtBefore_7 rfl (lv_at hl 0 rfl) ?_
  refine va_get (D := (dC, dI)) (ci := 3) (v := .ref (a 4)) (C := R_Lk) (T := F_Lk) (N := 14) hx hb hts inb_Lk hown hK hP 0 rfl rfl 0 (by decide) (hts _ tw224) (fun _ h9 => h9) rfl d_Lk_isCaughtBefore_8 ?_
  refine va_get (D := (dC, dI)) (ci := 1) (v := .ref (a 7)) (C := R_Tr) (T := F_Tr) (N := 14) hx hb hts inb_Tr hown hK hP 7 rfl rfl 6 (by decide) (hts _ tw74) (fun _ h9 => h9) rfl d_Lk_isCaughtBefore_11 ?_
  refine lv_iload_n hx hb d_Lk_isCaughtBefore_14 rfl (lv_at hl 1 rfl) ?_
  obtain ⟨hin, h⟩ := o_in h
  refine va_iald hx hb hK hP 10 0 rfl rfl hin d_Lk_isCaughtBefore_15 ?_
  obtain ⟨hin, h⟩ := o_in h
  refine va_iald hx hb hK hP 20 0 rfl rfl hin d_Lk_isCaughtBefore_16 ?_
  refine lv_istore_n (lv' := [(2, .int ((Kn_over kn) ((Tr_mark tr) x1.toNatClampNeg).toNatClampNeg)), (0, .ref (a 17)), (1, .int x1)]) hx hb d_Lk_isCaughtBefore_17 rfl hl (by decide) rfl (fun ls hl => ?_)
  refine lv_aload_n hx hb d_Lk_isCaughtBefore_18 rfl (lv_at hl 1 rfl) ?_
  refine va_get (D := (dC, dI)) (ci := 3) (v := .ref (a 4)) (C := R_Lk) (T := F_Lk) (N := 14) hx hb hts inb_Lk hown hK hP 0 rfl rfl 0 (by decide) (hts _ tw224) (fun _ h9 => h9) rfl d_Lk_isCaughtBefore_19 ?_
  refine va_get (D := (dC, dI)) (ci := 1) (v := .ref (a 8)) (C := R_Tr) (T := F_Tr) (N := 14) hx hb hts inb_Tr hown hK hP 7 rfl rfl 7 (by decide) (hts _ tw78) (fun _ h9 => h9) rfl d_Lk_isCaughtBefore_22 ?_
  refine lv_iload_n hx hb d_Lk_isCaughtBefore_25 rfl (lv_at hl 2 rfl) ?_
  obtain ⟨hin, h⟩ := o_in h
  refine va_iald hx hb hK hP 11 0 rfl rfl hin d_Lk_isCaughtBefore_26 ?_
  refine lv_istore_n (lv' := [(3, .int ((Tr_parent tr) x1.toNatClampNeg)), (2, .int ((Kn_over kn) ((Tr_mark tr) x1.toNatClampNeg).toNatClampNeg)), (0, .ref (a 17)), (1, .int x1)]) hx hb d_Lk_isCaughtBefore_27 rfl hl (by decide) rfl (fun ls hl => ?_)
  refine lv_iconst (v := 1) hx hb d_Lk_isCaughtBefore_28 (by decide) ?_
  refine lv_istore (lv' := [(4, .int (1 : Int32)), (3, .int ((Tr_parent tr) x1.toNatClampNeg)), (2, .int ((Kn_over kn) ((Tr_mark tr) x1.toNatClampNeg).toNatClampNeg)), (0, .ref (a 17)), (1, .int x1)]) hx hb d_Lk_isCaughtBefore_29 hl (by decide) rfl (fun ls hl => ?_)
  exact L31 x1 ((Kn_over kn) ((Tr_mark tr) x1.toNatClampNeg).toNatClampNeg) ((Tr_parent tr) x1.toNatClampNeg) N (1 : Int32) _ _ _ h hP hD hS (lv_sub hl [3, 4, 2, 1, 0] rfl)
set_option maxHeartbeats 4000000 in
set_option maxRecDepth 100000 in
theorem c_Lk_listPlaceFault (l : Launch) (dC : Nat → ClassId) (dI : Nat → Nat → Nat) (cI cJ cZ : ClassId) (a : Nat → Nat) (N : Nat) (x1 : Int32) (lk : LkS) (f0 : FlS) (tr : TrS) (kn : KnS) (res : LkS) (h : f_Lk_listPlaceFault N x1 lk f0 tr kn = some res) :
    Kt l (dC, dI) classes [(cI, .int), (cJ, .long), (cZ, .boolean)] y_Lk_listPlaceFault (wz y_Lk_listPlaceFault b_Lk_listPlaceFault 4 none) { frames := 2, cells := 0, slots := 0, locals := 46 } [.ref (a 17), .int x1] (cLk cI cJ cZ a lk ++ cF0 cI cJ cZ a f0 ++ cTr cI cJ cZ a tr ++ cKn cI cJ cZ a kn) none (cLk cI cJ cZ a res ++ cF0 cI cJ cZ a f0 ++ cTr cI cJ cZ a tr ++ cKn cI cJ cZ a kn) := by
  refine Kt_of (cc := b_Lk_listPlaceFault) (maxL := 4) (ret := none) (by decide) (Nat.le_of_ble_eq_true rfl) ?_
  intro p e s m args below meth c A ls hx hb hr hml hlocks hown hts hNw hK hP hD hA hS hl
  have hl : lv_has ls 4 [(0, .ref (a 17)), (1, .int x1)] := hl
  have hP : va_P (dC, dI) classes (cLk cI cJ cZ a lk ++ cF0 cI cJ cZ a f0 ++ cTr cI cJ cZ a tr ++ cKn cI cJ cZ a kn) s.heap := hP
  have B76 : ∀ (x1_76 : Int32) (lk_76 : LkS) (H : Heap) (locs : List Loc) (ls : Array Slot), f_Lk_listPlaceFault_b76 N x1_76 lk_76 f0 tr kn = some res → va_P (dC, dI) classes (cLk cI cJ cZ a lk_76 ++ cF0 cI cJ cZ a f0 ++ cTr cI cJ cZ a tr ++ cKn cI cJ cZ a kn) H → va_D A (cLk cI cJ cZ a lk_76 ++ cF0 cI cJ cZ a f0 ++ cTr cI cJ cZ a tr ++ cKn cI cJ cZ a kn) → va_S A s.heap H locs → lv_has ls 4 [(0, .ref (a 17)), (1, .int x1_76)] → W p l e { frames := 2, cells := 0, slots := 0, locals := 46 } s m args below meth c H locs 0 0 (KZ below args s (dC, dI) classes none (cLk cI cJ cZ a res ++ cF0 cI cJ cZ a f0 ++ cTr cI cJ cZ a tr ++ cKn cI cJ cZ a kn) A) (F0 m 76 ls []) := by
    intro x1_76 lk_76 H locs ls h hP hD hS hl
    refine lv_aload_n hx hb d_Lk_listPlaceFault_76 rfl (lv_at hl 0 rfl) ?_
    refine lv_iconst (v := 1) hx hb d_Lk_listPlaceFault_77 (by decide) ?_
    refine lv_iload_n hx hb d_Lk_listPlaceFault_78 rfl (lv_at hl 1 rfl) ?_
    obtain ⟨y79, hy, h⟩ := o_bd h
    refine kdV (nn := 25) (rest := []) (w' := (cLk cI cJ cZ a y79 ++ cF0 cI cJ cZ a f0 ++ cTr cI cJ cZ a tr ++ cKn cI cJ cZ a kn)) (wr := (cF0 cI cJ cZ a f0 ++ cTr cI cJ cZ a tr ++ cKn cI cJ cZ a kn)) (st1 := []) ⟨hx, hb, hml, hown, hts⟩ (c_Lk_addFault l dC dI cI cJ cZ a (1 : Int32) x1_76 lk_76 y79 hy) (cwV 2 hts (gd_V tw602 tw604 ps12 tw5 tw605) rfl rfl rfl hd_Lk_addFault ⟨Nat.le_of_ble_eq_true rfl, Nat.le_of_ble_eq_true rfl⟩) hNw hK hP hD hS hA (ci := 3) rfl rfl rfl [0, 1, 2, 3, 4, 5, 6] [7, 8, 9, 10, 11, 12, 13, 14, 15, 16, 17, 18, 19, 20, 21, 22, 23, 24] rfl rfl rfl rfl rfl (by decide +kernel) (by decide +kernel) rfl hl.1 rfl (Nat.le_of_ble_eq_true rfl) rfl d_Lk_listPlaceFault_79 ⟨Nat.zero_le _, Nat.zero_le _⟩ (fun H locs hP hD hS => ?_)
    refine lv_goto (tgt := 112) hx hb d_Lk_listPlaceFault_82 (by decide) ?_
    cases h
    exact kr_v hx hb hr hlocks hP hD hS d_Lk_listPlaceFault_112
  have B35 : ∀ (z0_35 : Int32) (x1_35 : Int32) (lk_35 : LkS) (H : Heap) (locs : List Loc) (ls : Array Slot), f_Lk_listPlaceFault_b35 N z0_35 x1_35 lk_35 f0 tr kn = some res → va_P (dC, dI) classes (cLk cI cJ cZ a lk_35 ++ cF0 cI cJ cZ a f0 ++ cTr cI cJ cZ a tr ++ cKn cI cJ cZ a kn) H → va_D A (cLk cI cJ cZ a lk_35 ++ cF0 cI cJ cZ a f0 ++ cTr cI cJ cZ a tr ++ cKn cI cJ cZ a kn) → va_S A s.heap H locs → lv_has ls 4 [(0, .ref (a 17)), (1, .int x1_35)] → W p l e { frames := 2, cells := 0, slots := 0, locals := 46 } s m args below meth c H locs 0 0 (KZ below args s (dC, dI) classes none (cLk cI cJ cZ a res ++ cF0 cI cJ cZ a f0 ++ cTr cI cJ cZ a tr ++ cKn cI cJ cZ a kn) A) (F0 m 35 ls [.int z0_35]) := by
    intro z0_35 x1_35 lk_35 H locs ls h hP hD hS hl
    refine lv_istore_n (lv' := [(2, .int z0_35), (0, .ref (a 17)), (1, .int x1_35)]) hx hb d_Lk_listPlaceFault_35 rfl hl (by decide) rfl (fun ls hl => ?_)
    refine lv_aload_n hx hb d_Lk_listPlaceFault_36 rfl (lv_at hl 1 rfl) ?_
    refine va_get (D := (dC, dI)) (ci := 3) (v := .ref (a 4)) (C := R_Lk) (T := F_Lk) (N := 14) hx hb hts inb_Lk hown hK hP 0 rfl rfl 0 (by decide) (hts _ tw224) (fun _ h9 => h9) rfl d_Lk_listPlaceFault_37 ?_
    refine lv_iload_n hx hb d_Lk_listPlaceFault_40 rfl (lv_at hl 2 rfl) ?_
    obtain ⟨y41, hy, h⟩ := o_bd h
    refine kdV (nn := 25) (rest := []) (w' := (cLk cI cJ cZ a lk_35 ++ cF0 cI cJ cZ a f0 ++ cTr cI cJ cZ a tr ++ cKn cI cJ cZ a kn)) (wr := (cLk cI cJ cZ a lk_35 ++ cF0 cI cJ cZ a f0 ++ cKn cI cJ cZ a kn)) (st1 := [.int y41]) ⟨hx, hb, hml, hown, hts⟩ (c_Tr_isCatch l dC dI cI cJ cZ a x1_35 tr y41 hy) (cwV 1 hts (gd_V tw594 tw595 tw596 tw3 tw597) rfl rfl rfl hd_Tr_isCatch ⟨Nat.le_of_ble_eq_true rfl, Nat.le_of_ble_eq_true rfl⟩) hNw hK hP hD hS hA (ci := 1) rfl rfl rfl [11, 12, 13, 14, 15, 16, 17, 18, 19, 20, 21] [0, 1, 2, 3, 4, 5, 6, 7, 8, 9, 10, 22, 23, 24] rfl rfl rfl rfl rfl (by decide +kernel) (by decide +kernel) rfl hl.1 rfl (Nat.le_of_ble_eq_true rfl) rfl d_Lk_listPlaceFault_41 ⟨Nat.zero_le _, Nat.zero_le _⟩ (fun H locs hP hD hS => ?_)
    refine lv_if_ne (tgt := 85) hx hb d_Lk_listPlaceFault_44 (by decide) (fun hc => ?_) (fun hc => ?_)
    · have h := o_f hc h
      refine lv_aload_n hx hb d_Lk_listPlaceFault_85 rfl (lv_at hl 1 rfl) ?_
      refine lv_iload_n hx hb d_Lk_listPlaceFault_86 rfl (lv_at hl 2 rfl) ?_
      obtain ⟨y87, hy, h⟩ := o_bd h
      refine kdV (nn := 25) (rest := []) (w' := (cLk cI cJ cZ a lk_35 ++ cF0 cI cJ cZ a f0 ++ cTr cI cJ cZ a tr ++ cKn cI cJ cZ a kn)) (wr := (cF0 cI cJ cZ a f0)) (st1 := [.int y87]) ⟨hx, hb, hml, hown, hts⟩ (c_Lk_isCaughtBefore l dC dI cI cJ cZ a N x1_35 lk_35 tr kn y87 hy) (cwV 1 hts (gd_V tw606 tw608 ps13 tw5 tw609) rfl rfl rfl hd_Lk_isCaughtBefore ⟨Nat.le_of_ble_eq_true rfl, Nat.le_of_ble_eq_true rfl⟩) hNw hK hP hD hS hA (ci := 3) rfl rfl rfl [0, 1, 2, 3, 4, 5, 6, 11, 12, 13, 14, 15, 16, 17, 18, 19, 20, 21, 22, 23, 24] [7, 8, 9, 10] rfl rfl rfl rfl rfl (by decide +kernel) (by decide +kernel) rfl hl.1 rfl (Nat.le_of_ble_eq_true rfl) rfl d_Lk_listPlaceFault_87 ⟨Nat.zero_le _, Nat.zero_le _⟩ (fun H locs hP hD hS => ?_)
      refine lv_if_eq (tgt := 102) hx hb d_Lk_listPlaceFault_90 (by decide) (fun hc => ?_) (fun hc => ?_)
      · have h := o_t hc h
        refine lv_iload_n hx hb d_Lk_listPlaceFault_102 rfl (lv_at hl 0 rfl) ?_
        refine lv_if_eq (tgt := 112) hx hb d_Lk_listPlaceFault_103 (by decide) (fun hc => ?_) (fun hc => ?_)
        · have h := o_t hc h
          cases h
          exact kr_v hx hb hr hlocks hP hD hS d_Lk_listPlaceFault_112
        · have h := o_f hc h
          refine lv_aload_n hx hb d_Lk_listPlaceFault_106 rfl (lv_at hl 1 rfl) ?_
          refine lv_iconst (v := 4) hx hb d_Lk_listPlaceFault_107 (by decide) ?_
          refine lv_iload_n hx hb d_Lk_listPlaceFault_108 rfl (lv_at hl 2 rfl) ?_
          obtain ⟨y109, hy, h⟩ := o_bd h
          refine kdV (nn := 25) (rest := []) (w' := (cLk cI cJ cZ a y109 ++ cF0 cI cJ cZ a f0 ++ cTr cI cJ cZ a tr ++ cKn cI cJ cZ a kn)) (wr := (cF0 cI cJ cZ a f0 ++ cTr cI cJ cZ a tr ++ cKn cI cJ cZ a kn)) (st1 := []) ⟨hx, hb, hml, hown, hts⟩ (c_Lk_addFault l dC dI cI cJ cZ a (4 : Int32) x1_35 lk_35 y109 hy) (cwV 2 hts (gd_V tw602 tw604 ps12 tw5 tw605) rfl rfl rfl hd_Lk_addFault ⟨Nat.le_of_ble_eq_true rfl, Nat.le_of_ble_eq_true rfl⟩) hNw hK hP hD hS hA (ci := 3) rfl rfl rfl [0, 1, 2, 3, 4, 5, 6] [7, 8, 9, 10, 11, 12, 13, 14, 15, 16, 17, 18, 19, 20, 21, 22, 23, 24] rfl rfl rfl rfl rfl (by decide +kernel) (by decide +kernel) rfl hl.1 rfl (Nat.le_of_ble_eq_true rfl) rfl d_Lk_listPlaceFault_109 ⟨Nat.zero_le _, Nat.zero_le _⟩ (fun H locs hP hD hS => ?_)
          cases h
          exact kr_v hx hb hr hlocks hP hD hS d_Lk_listPlaceFault_112
      · have h := o_f hc h
        refine lv_aload_n hx hb d_Lk_listPlaceFault_93 rfl (lv_at hl 1 rfl) ?_
        refine lv_iconst (v := 3) hx hb d_Lk_listPlaceFault_94 (by decide) ?_
        refine lv_iload_n hx hb d_Lk_listPlaceFault_95 rfl (lv_at hl 2 rfl) ?_
        obtain ⟨y96, hy, h⟩ := o_bd h
        refine kdV (nn := 25) (rest := []) (w' := (cLk cI cJ cZ a y96 ++ cF0 cI cJ cZ a f0 ++ cTr cI cJ cZ a tr ++ cKn cI cJ cZ a kn)) (wr := (cF0 cI cJ cZ a f0 ++ cTr cI cJ cZ a tr ++ cKn cI cJ cZ a kn)) (st1 := []) ⟨hx, hb, hml, hown, hts⟩ (c_Lk_addFault l dC dI cI cJ cZ a (3 : Int32) x1_35 lk_35 y96 hy) (cwV 2 hts (gd_V tw602 tw604 ps12 tw5 tw605) rfl rfl rfl hd_Lk_addFault ⟨Nat.le_of_ble_eq_true rfl, Nat.le_of_ble_eq_true rfl⟩) hNw hK hP hD hS hA (ci := 3) rfl rfl rfl [0, 1, 2, 3, 4, 5, 6] [7, 8, 9, 10, 11, 12, 13, 14, 15, 16, 17, 18, 19, 20, 21, 22, 23, 24] rfl rfl rfl rfl rfl (by decide +kernel) (by decide +kernel) rfl hl.1 rfl (Nat.le_of_ble_eq_true rfl) rfl d_Lk_listPlaceFault_96 ⟨Nat.zero_le _, Nat.zero_le _⟩ (fun H locs hP hD hS => ?_)
        refine lv_goto (tgt := 112) hx hb d_Lk_listPlaceFault_99 (by decide) ?_
        cases h
        exact kr_v hx hb hr hlocks hP hD hS d_Lk_listPlaceFault_112
    · have h := o_t hc h
      refine lv_aload_n hx hb d_Lk_listPlaceFault_47 rfl (lv_at hl 1 rfl) ?_
      refine va_get (D := (dC, dI)) (ci := 3) (v := .ref (a 4)) (C := R_Lk) (T := F_Lk) (N := 14) hx hb hts inb_Lk hown hK hP 0 rfl rfl 0 (by decide) (hts _ tw224) (fun _ h9 => h9) rfl d_Lk_listPlaceFault_48 ?_
      refine lv_iload_n hx hb d_Lk_listPlaceFault_51 rfl (lv_at hl 2 rfl) ?_
      obtain ⟨y52, hy, h⟩ := o_bd h
      refine kdV (nn := 25) (rest := []) (w' := (cLk cI cJ cZ a lk_35 ++ cF0 cI cJ cZ a f0 ++ cTr cI cJ cZ a tr ++ cKn cI cJ cZ a kn)) (wr := (cLk cI cJ cZ a lk_35 ++ cF0 cI cJ cZ a f0 ++ cKn cI cJ cZ a kn)) (st1 := [.int y52]) ⟨hx, hb, hml, hown, hts⟩ (c_Tr_kidBefore l dC dI cI cJ cZ a x1_35 tr y52 hy) (cwV 1 hts (gd_V tw598 tw599 tw600 tw3 tw601) rfl rfl rfl hd_Tr_kidBefore ⟨Nat.le_of_ble_eq_true rfl, Nat.le_of_ble_eq_true rfl⟩) hNw hK hP hD hS hA (ci := 1) rfl rfl rfl [11, 12, 13, 14, 15, 16, 17, 18, 19, 20, 21] [0, 1, 2, 3, 4, 5, 6, 7, 8, 9, 10, 22, 23, 24] rfl rfl rfl rfl rfl (by decide +kernel) (by decide +kernel) rfl hl.1 rfl (Nat.le_of_ble_eq_true rfl) rfl d_Lk_listPlaceFault_52 ⟨Nat.zero_le _, Nat.zero_le _⟩ (fun H locs hP hD hS => ?_)
      refine lv_istore_n (lv' := [(3, .int y52), (2, .int z0_35), (0, .ref (a 17)), (1, .int x1_35)]) hx hb d_Lk_listPlaceFault_55 rfl hl (by decide) rfl (fun ls hl => ?_)
      refine lv_iload_n hx hb d_Lk_listPlaceFault_56 rfl (lv_at hl 1 rfl) ?_
      refine lv_if_eq (tgt := 82) hx hb d_Lk_listPlaceFault_57 (by decide) (fun hc => ?_) (fun hc => ?_)
      · have h := o_t hc h
        refine lv_goto (tgt := 112) hx hb d_Lk_listPlaceFault_82 (by decide) ?_
        cases h
        exact kr_v hx hb hr hlocks hP hD hS d_Lk_listPlaceFault_112
      · have h := o_f hc h
        refine lv_iload_n hx hb d_Lk_listPlaceFault_60 rfl (lv_at hl 0 rfl) ?_
        refine lv_iconst (v := -1) hx hb d_Lk_listPlaceFault_61 (by decide) ?_
        refine lv_icmp_eq (tgt := 76) hx hb d_Lk_listPlaceFault_62 (by decide) (fun hc => ?_) (fun hc => ?_)
        · have h := o_t hc h
          exact B76 x1_35 lk_35 _ _ _ h hP hD hS (lv_sub hl [2, 3] rfl)
        · have h := o_f hc h
          refine lv_aload_n hx hb d_Lk_listPlaceFault_65 rfl (lv_at hl 2 rfl) ?_
          refine va_get (D := (dC, dI)) (ci := 3) (v := .ref (a 24)) (C := R_Lk) (T := F_Lk) (N := 14) hx hb hts inb_Lk hown hK hP 0 rfl rfl 2 (by decide) (hts _ tw226) (fun _ h9 => h9) rfl d_Lk_listPlaceFault_66 ?_
          refine lv_iload_n hx hb d_Lk_listPlaceFault_69 rfl (lv_at hl 0 rfl) ?_
          obtain ⟨y70, hy, h⟩ := o_bd h
          refine kdU (nn := 25) (rest := []) (w' := (cLk cI cJ cZ a lk_35 ++ cF0 cI cJ cZ a f0 ++ cTr cI cJ cZ a tr ++ cKn cI cJ cZ a kn)) (wr := (cLk cI cJ cZ a lk_35 ++ cTr cI cJ cZ a tr ++ cKn cI cJ cZ a kn)) (st1 := [.int y70]) ⟨hx, hb, hml, hown, hts⟩ (c_Fl_meets_0 l dC dI cI cJ cZ a y52 f0 y70 hy) (va_cwU 1 hts (gd_U tw588 tw590 tw591 tw589 tw6 tw593) rfl rfl rfl rfl hdU_meets ⟨Nat.le_of_ble_eq_true rfl, Nat.le_of_ble_eq_true rfl⟩) hNw hK hP hD hS hA (ci := 4) rfl rfl rfl [7, 8, 9, 10] [0, 1, 2, 3, 4, 5, 6, 11, 12, 13, 14, 15, 16, 17, 18, 19, 20, 21, 22, 23, 24] rfl rfl rfl rfl rfl (by decide +kernel) (by decide +kernel) rfl hl.1 rfl (Nat.le_of_ble_eq_true rfl) rfl d_Lk_listPlaceFault_70 ⟨Nat.zero_le _, Nat.zero_le _⟩ (fun H locs hP hD hS => ?_)
          refine lv_if_eq (tgt := 82) hx hb d_Lk_listPlaceFault_73 (by decide) (fun hc => ?_) (fun hc => ?_)
          · have h := o_t hc h
            refine lv_goto (tgt := 112) hx hb d_Lk_listPlaceFault_82 (by decide) ?_
            cases h
            exact kr_v hx hb hr hlocks hP hD hS d_Lk_listPlaceFault_112
          · have h := o_f hc h
            exact B76 x1_35 lk_35 _ _ _ h hP hD hS (lv_sub hl [2, 3] rfl)
  have B34 : ∀ (x1_34 : Int32) (lk_34 : LkS) (H : Heap) (locs : List Loc) (ls : Array Slot), f_Lk_listPlaceFault_b34 N x1_34 lk_34 f0 tr kn = some res → va_P (dC, dI) classes (cLk cI cJ cZ a lk_34 ++ cF0 cI cJ cZ a f0 ++ cTr cI cJ cZ a tr ++ cKn cI cJ cZ a kn) H → va_D A (cLk cI cJ cZ a lk_34 ++ cF0 cI cJ cZ a f0 ++ cTr cI cJ cZ a tr ++ cKn cI cJ cZ a kn) → va_S A s.heap H locs → lv_has ls 4 [(0, .ref (a 17)), (1, .int x1_34)] → W p l e { frames := 2, cells := 0, slots := 0, locals := 46 } s m args below meth c H locs 0 0 (KZ below args s (dC, dI) classes none (cLk cI cJ cZ a res ++ cF0 cI cJ cZ a f0 ++ cTr cI cJ cZ a tr ++ cKn cI cJ cZ a kn) A) (F0 m 34 ls []) := by
    intro x1_34 lk_34 H locs ls h hP hD hS hl
    refine lv_iconst (v := 0) hx hb d_Lk_listPlaceFault_34 (by decide) ?_
    exact B35 (0 : Int32) x1_34 lk_34 _ _ _ h hP hD hS (lv_sub hl [0, 1] rfl)
  refine lv_aload_n hx hb d_Lk_listPlaceFault_0 rfl (lv_at hl 0 rfl) ?_
  refine va_get (D := (dC, dI)) (ci := 3) (v := .ref (a 24)) (C := R_Lk) (T := F_Lk) (N := 14) hx hb hts inb_Lk hown hK hP 0 rfl rfl 2 (by decide) (hts _ tw226) (fun _ h9 => h9) rfl d_Lk_listPlaceFault_1 ?_
  refine lv_iload_n hx hb d_Lk_listPlaceFault_4 rfl (lv_at hl 1 rfl) ?_
  obtain ⟨y5, hy, h⟩ := o_bd h
  refine kdU (nn := 25) (rest := []) (w' := (cLk cI cJ cZ a lk ++ cF0 cI cJ cZ a f0 ++ cTr cI cJ cZ a tr ++ cKn cI cJ cZ a kn)) (wr := (cLk cI cJ cZ a lk ++ cTr cI cJ cZ a tr ++ cKn cI cJ cZ a kn)) (st1 := [.int y5]) ⟨hx, hb, hml, hown, hts⟩ (c_Fl_meets_0 l dC dI cI cJ cZ a x1 f0 y5 hy) (va_cwU 1 hts (gd_U tw588 tw590 tw591 tw589 tw6 tw593) rfl rfl rfl rfl hdU_meets ⟨Nat.le_of_ble_eq_true rfl, Nat.le_of_ble_eq_true rfl⟩) hNw hK hP hD hS hA (ci := 4) rfl rfl rfl [7, 8, 9, 10] [0, 1, 2, 3, 4, 5, 6, 11, 12, 13, 14, 15, 16, 17, 18, 19, 20, 21, 22, 23, 24] rfl rfl rfl rfl rfl (by decide +kernel) (by decide +kernel) rfl hl.1 rfl (Nat.le_of_ble_eq_true rfl) rfl d_Lk_listPlaceFault_5 ⟨Nat.zero_le _, Nat.zero_le _⟩ (fun H locs hP hD hS => ?_)
  refine lv_if_ne (tgt := 34) hx hb d_Lk_listPlaceFault_8 (by decide) (fun hc => ?_) (fun hc => ?_)
  · have h := o_f hc h
    exact B34 x1 lk _ _ _ h hP hD hS (lv_sub hl [0, 1] rfl)
  · have h := o_t hc h
    refine lv_aload_n hx hb d_Lk_listPlaceFault_11 rfl (lv_at hl 0 rfl) ?_
    refine va_get (D := (dC, dI)) (ci := 3) (v := .ref (a 24)) (C := R_Lk) (T := F_Lk) (N := 14) hx hb hts inb_Lk hown hK hP 0 rfl rfl 2 (by decide) (hts _ tw226) (fun _ h9 => h9) rfl d_Lk_listPlaceFault_12 ?_
    refine lv_aload_n hx hb d_Lk_listPlaceFault_15 rfl (lv_at hl 0 rfl) ?_
    refine va_get (D := (dC, dI)) (ci := 3) (v := .ref (a 4)) (C := R_Lk) (T := F_Lk) (N := 14) hx hb hts inb_Lk hown hK hP 0 rfl rfl 0 (by decide) (hts _ tw224) (fun _ h9 => h9) rfl d_Lk_listPlaceFault_16 ?_
    refine va_get (D := (dC, dI)) (ci := 1) (v := .ref (a 8)) (C := R_Tr) (T := F_Tr) (N := 14) hx hb hts inb_Tr hown hK hP 11 rfl rfl 7 (by decide) (hts _ tw78) (fun _ h9 => h9) rfl d_Lk_listPlaceFault_19 ?_
    refine lv_iload_n hx hb d_Lk_listPlaceFault_22 rfl (lv_at hl 1 rfl) ?_
    obtain ⟨hin, h⟩ := o_in h
    refine va_iald hx hb hK hP 15 0 rfl rfl hin d_Lk_listPlaceFault_23 ?_
    obtain ⟨y24, hy, h⟩ := o_bd h
    refine kdU (nn := 25) (rest := []) (w' := (cLk cI cJ cZ a lk ++ cF0 cI cJ cZ a f0 ++ cTr cI cJ cZ a tr ++ cKn cI cJ cZ a kn)) (wr := (cLk cI cJ cZ a lk ++ cTr cI cJ cZ a tr ++ cKn cI cJ cZ a kn)) (st1 := [.int y24]) ⟨hx, hb, hml, hown, hts⟩ (c_Fl_meets_0 l dC dI cI cJ cZ a ((Tr_parent tr) x1.toNatClampNeg) f0 y24 hy) (va_cwU 1 hts (gd_U tw588 tw590 tw591 tw589 tw6 tw593) rfl rfl rfl rfl hdU_meets ⟨Nat.le_of_ble_eq_true rfl, Nat.le_of_ble_eq_true rfl⟩) hNw hK hP hD hS hA (ci := 4) rfl rfl rfl [7, 8, 9, 10] [0, 1, 2, 3, 4, 5, 6, 11, 12, 13, 14, 15, 16, 17, 18, 19, 20, 21, 22, 23, 24] rfl rfl rfl rfl rfl (by decide +kernel) (by decide +kernel) rfl hl.1 rfl (Nat.le_of_ble_eq_true rfl) rfl d_Lk_listPlaceFault_24 ⟨Nat.zero_le _, Nat.zero_le _⟩ (fun H locs hP hD hS => ?_)
    refine lv_if_eq (tgt := 34) hx hb d_Lk_listPlaceFault_27 (by decide) (fun hc => ?_) (fun hc => ?_)
    · have h := o_t hc h
      exact B34 x1 lk _ _ _ h hP hD hS (lv_sub hl [0, 1] rfl)
    · have h := o_f hc h
      refine lv_iconst (v := 1) hx hb d_Lk_listPlaceFault_30 (by decide) ?_
      refine lv_goto (tgt := 35) hx hb d_Lk_listPlaceFault_31 (by decide) ?_
      exact B35 (1 : Int32) x1 lk _ _ _ h hP hD hS (lv_sub hl [0, 1] rfl)
set_option maxHeartbeats 4000000 in
set_option maxRecDepth 100000 in
theorem c_Lk_listFaults (l : Launch) (dC : Nat → ClassId) (dI : Nat → Nat → Nat) (cI cJ cZ : ClassId) (a : Nat → Nat) (N : Nat) (lk : LkS) (f0 : FlS) (tr : TrS) (kn : KnS) (res : LkS) (h : f_Lk_listFaults N lk f0 tr kn = some res) :
    Kt l (dC, dI) classes [(cI, .int), (cJ, .long), (cZ, .boolean)] y_Lk_listFaults (wz y_Lk_listFaults b_Lk_listFaults 3 none) { frames := 3, cells := 0, slots := 0, locals := 69 } [.ref (a 17)] (cLk cI cJ cZ a lk ++ cF0 cI cJ cZ a f0 ++ cTr cI cJ cZ a tr ++ cKn cI cJ cZ a kn) none (cLk cI cJ cZ a res ++ cF0 cI cJ cZ a f0 ++ cTr cI cJ cZ a tr ++ cKn cI cJ cZ a kn) := by
  refine Kt_of (cc := b_Lk_listFaults) (maxL := 3) (ret := none) (by decide) (Nat.le_of_ble_eq_true rfl) ?_
  intro p e s m args below meth c A ls hx hb hr hml hlocks hown hts hNw hK hP hD hA hS hl
  have hl : lv_has ls 3 [(0, .ref (a 17))] := hl
  have hP : va_P (dC, dI) classes (cLk cI cJ cZ a lk ++ cF0 cI cJ cZ a f0 ++ cTr cI cJ cZ a tr ++ cKn cI cJ cZ a kn) s.heap := hP
  have L7 : ∀ (n7 : Nat) (s7 : Int32 × LkS) (H : Heap) (locs : List Loc) (ls : Array Slot), lp (f_Lk_listFaults_L7 N f0 tr kn) n7 s7 = some res → va_P (dC, dI) classes (cLk cI cJ cZ a s7.2 ++ cF0 cI cJ cZ a f0 ++ cTr cI cJ cZ a tr ++ cKn cI cJ cZ a kn) H → va_D A (cLk cI cJ cZ a s7.2 ++ cF0 cI cJ cZ a f0 ++ cTr cI cJ cZ a tr ++ cKn cI cJ cZ a kn) → va_S A s.heap H locs → lv_has ls 3 [(0, .ref (a 17)), (1, .int s7.1)] → W p l e { frames := 3, cells := 0, slots := 0, locals := 69 } s m args below meth c H locs 0 0 (KZ below args s (dC, dI) classes none (cLk cI cJ cZ a res ++ cF0 cI cJ cZ a f0 ++ cTr cI cJ cZ a tr ++ cKn cI cJ cZ a kn) A) (F0 m 7 ls []) := by
    intro n7
    induction n7 with
    | zero => intro _ _ _ _ h; exact (lp_0 h).elim
    | succ n7 ih7 =>
      intro s7 H locs ls h hP hD hS hl
      have h := lp_s h
      have B59 : ∀ (x1_59 : Int32) (x2_59 : Int32) (lk_59 : LkS) (H : Heap) (locs : List Loc) (ls : Array Slot), f_Lk_listFaults_b59 N (lp (f_Lk_listFaults_L7 N f0 tr kn) n7) x1_59 x2_59 lk_59 f0 tr kn = some res → va_P (dC, dI) classes (cLk cI cJ cZ a lk_59 ++ cF0 cI cJ cZ a f0 ++ cTr cI cJ cZ a tr ++ cKn cI cJ cZ a kn) H → va_D A (cLk cI cJ cZ a lk_59 ++ cF0 cI cJ cZ a f0 ++ cTr cI cJ cZ a tr ++ cKn cI cJ cZ a kn) → va_S A s.heap H locs → lv_has ls 3 [(0, .ref (a 17)), (1, .int x1_59), (2, .int x2_59)] → W p l e { frames := 3, cells := 0, slots := 0, locals := 69 } s m args below meth c H locs 0 0 (KZ below args s (dC, dI) classes none (cLk cI cJ cZ a res ++ cF0 cI cJ cZ a f0 ++ cTr cI cJ cZ a tr ++ cKn cI cJ cZ a kn) A) (F0 m 59 ls []) := by
        intro x1_59 x2_59 lk_59 H locs ls h hP hD hS hl
        refine lv_aload_n hx hb d_Lk_listFaults_59 rfl (lv_at hl 0 rfl) ?_
        refine va_get (D := (dC, dI)) (ci := 3) (v := .ref (a 4)) (C := R_Lk) (T := F_Lk) (N := 14) hx hb hts inb_Lk hown hK hP 0 rfl rfl 0 (by decide) (hts _ tw224) (fun _ h9 => h9) rfl d_Lk_listFaults_60 ?_
        refine va_get (D := (dC, dI)) (ci := 1) (v := .ref (a 5)) (C := R_Tr) (T := F_Tr) (N := 14) hx hb hts inb_Tr hown hK hP 11 rfl rfl 4 (by decide) (hts _ tw64) (fun _ h9 => h9) rfl d_Lk_listFaults_63 ?_
        refine lv_iload_n hx hb d_Lk_listFaults_66 rfl (lv_at hl 2 rfl) ?_
        obtain ⟨hin, h⟩ := o_in h
        refine va_iald hx hb hK hP 12 0 rfl rfl hin d_Lk_listFaults_67 ?_
        refine lv_bipush (v := 12) hx hb d_Lk_listFaults_68 (by decide) ?_
        refine lv_icmp_ne (tgt := 97) hx hb d_Lk_listFaults_70 (by decide) (fun hc => ?_) (fun hc => ?_)
        · have h := o_f hc h
          refine lv_iinc (v := (x1_59 + 1)) (lv' := [(1, .int (x1_59 + 1)), (0, .ref (a 17)), (2, .int x2_59)]) hx hb d_Lk_listFaults_97 hl (k := 1) rfl rfl (by decide) rfl (fun ls hl => ?_)
          refine lv_goto (tgt := 7) hx hb d_Lk_listFaults_100 (by decide) ?_
          exact ih7 ((x1_59 + 1), lk_59) _ _ _ h hP hD hS (lv_sub hl [1, 0] rfl)
        · have h := o_t hc h
          refine lv_aload_n hx hb d_Lk_listFaults_73 rfl (lv_at hl 0 rfl) ?_
          refine lv_iload_n hx hb d_Lk_listFaults_74 rfl (lv_at hl 2 rfl) ?_
          refine lv_aload_n hx hb d_Lk_listFaults_75 rfl (lv_at hl 0 rfl) ?_
          refine va_get (D := (dC, dI)) (ci := 3) (v := .ref (a 4)) (C := R_Lk) (T := F_Lk) (N := 14) hx hb hts inb_Lk hown hK hP 0 rfl rfl 0 (by decide) (hts _ tw224) (fun _ h9 => h9) rfl d_Lk_listFaults_76 ?_
          refine va_get (D := (dC, dI)) (ci := 1) (v := .ref (a 6)) (C := R_Tr) (T := F_Tr) (N := 14) hx hb hts inb_Tr hown hK hP 11 rfl rfl 5 (by decide) (hts _ tw69) (fun _ h9 => h9) rfl d_Lk_listFaults_79 ?_
          refine lv_iload_n hx hb d_Lk_listFaults_82 rfl (lv_at hl 2 rfl) ?_
          obtain ⟨hin, h⟩ := o_in h
          refine va_iald hx hb hK hP 13 0 rfl rfl hin d_Lk_listFaults_83 ?_
          obtain ⟨y84, hy, h⟩ := o_bd h
          refine kdV (nn := 25) (rest := []) (w' := (cLk cI cJ cZ a lk_59 ++ cF0 cI cJ cZ a f0 ++ cTr cI cJ cZ a tr ++ cKn cI cJ cZ a kn)) (wr := (cF0 cI cJ cZ a f0 ++ cKn cI cJ cZ a kn)) (st1 := [.int y84]) ⟨hx, hb, hml, hown, hts⟩ (c_Lk_labelAround l dC dI cI cJ cZ a N x2_59 ((Tr_value tr) x2_59.toNatClampNeg) lk_59 tr y84 hy) (cwV 2 hts (gd_V tw459 tw461 ps8 tw5 tw462) rfl rfl rfl hd_Lk_labelAround ⟨Nat.le_of_ble_eq_true rfl, Nat.le_of_ble_eq_true rfl⟩) hNw hK hP hD hS hA (ci := 3) rfl rfl rfl [0, 1, 2, 3, 4, 5, 6, 11, 12, 13, 14, 15, 16, 17, 18, 19, 20, 21] [7, 8, 9, 10, 22, 23, 24] rfl rfl rfl rfl rfl (by decide +kernel) (by decide +kernel) rfl hl.1 rfl (Nat.le_of_ble_eq_true rfl) rfl d_Lk_listFaults_84 ⟨Nat.zero_le _, Nat.zero_le _⟩ (fun H locs hP hD hS => ?_)
          refine lv_iconst (v := -1) hx hb d_Lk_listFaults_87 (by decide) ?_
          refine lv_icmp_eq (tgt := 97) hx hb d_Lk_listFaults_88 (by decide) (fun hc => ?_) (fun hc => ?_)
          · have h := o_t hc h
            refine lv_iinc (v := (x1_59 + 1)) (lv' := [(1, .int (x1_59 + 1)), (0, .ref (a 17)), (2, .int x2_59)]) hx hb d_Lk_listFaults_97 hl (k := 1) rfl rfl (by decide) rfl (fun ls hl => ?_)
            refine lv_goto (tgt := 7) hx hb d_Lk_listFaults_100 (by decide) ?_
            exact ih7 ((x1_59 + 1), lk_59) _ _ _ h hP hD hS (lv_sub hl [1, 0] rfl)
          · have h := o_f hc h
            refine lv_aload_n hx hb d_Lk_listFaults_91 rfl (lv_at hl 0 rfl) ?_
            refine lv_iconst (v := 5) hx hb d_Lk_listFaults_92 (by decide) ?_
            refine lv_iload_n hx hb d_Lk_listFaults_93 rfl (lv_at hl 2 rfl) ?_
            obtain ⟨y94, hy, h⟩ := o_bd h
            refine kdV (nn := 25) (rest := []) (w' := (cLk cI cJ cZ a y94 ++ cF0 cI cJ cZ a f0 ++ cTr cI cJ cZ a tr ++ cKn cI cJ cZ a kn)) (wr := (cF0 cI cJ cZ a f0 ++ cTr cI cJ cZ a tr ++ cKn cI cJ cZ a kn)) (st1 := []) ⟨hx, hb, hml, hown, hts⟩ (c_Lk_addFault l dC dI cI cJ cZ a (5 : Int32) x2_59 lk_59 y94 hy) (cwV 2 hts (gd_V tw602 tw604 ps12 tw5 tw605) rfl rfl rfl hd_Lk_addFault ⟨Nat.le_of_ble_eq_true rfl, Nat.le_of_ble_eq_true rfl⟩) hNw hK hP hD hS hA (ci := 3) rfl rfl rfl [0, 1, 2, 3, 4, 5, 6] [7, 8, 9, 10, 11, 12, 13, 14, 15, 16, 17, 18, 19, 20, 21, 22, 23, 24] rfl rfl rfl rfl rfl (by decide +kernel) (by decide +kernel) rfl hl.1 rfl (Nat.le_of_ble_eq_true rfl) rfl d_Lk_listFaults_94 ⟨Nat.zero_le _, Nat.zero_le _⟩ (fun H locs hP hD hS => ?_)
            refine lv_iinc (v := (x1_59 + 1)) (lv' := [(1, .int (x1_59 + 1)), (0, .ref (a 17)), (2, .int x2_59)]) hx hb d_Lk_listFaults_97 hl (k := 1) rfl rfl (by decide) rfl (fun ls hl => ?_)
            refine lv_goto (tgt := 7) hx hb d_Lk_listFaults_100 (by decide) ?_
            exact ih7 ((x1_59 + 1), y94) _ _ _ h hP hD hS (lv_sub hl [1, 0] rfl)
      have B35 : ∀ (x1_35 : Int32) (x2_35 : Int32) (lk_35 : LkS) (H : Heap) (locs : List Loc) (ls : Array Slot), f_Lk_listFaults_b35 N (lp (f_Lk_listFaults_L7 N f0 tr kn) n7) x1_35 x2_35 lk_35 f0 tr kn = some res → va_P (dC, dI) classes (cLk cI cJ cZ a lk_35 ++ cF0 cI cJ cZ a f0 ++ cTr cI cJ cZ a tr ++ cKn cI cJ cZ a kn) H → va_D A (cLk cI cJ cZ a lk_35 ++ cF0 cI cJ cZ a f0 ++ cTr cI cJ cZ a tr ++ cKn cI cJ cZ a kn) → va_S A s.heap H locs → lv_has ls 3 [(0, .ref (a 17)), (1, .int x1_35), (2, .int x2_35)] → W p l e { frames := 3, cells := 0, slots := 0, locals := 69 } s m args below meth c H locs 0 0 (KZ below args s (dC, dI) classes none (cLk cI cJ cZ a res ++ cF0 cI cJ cZ a f0 ++ cTr cI cJ cZ a tr ++ cKn cI cJ cZ a kn) A) (F0 m 35 ls []) := by
        intro x1_35 x2_35 lk_35 H locs ls h hP hD hS hl
        refine lv_aload_n hx hb d_Lk_listFaults_35 rfl (lv_at hl 0 rfl) ?_
        refine lv_iload_n hx hb d_Lk_listFaults_36 rfl (lv_at hl 2 rfl) ?_
        obtain ⟨y37, hy, h⟩ := o_bd h
        refine kdV (nn := 25) (rest := []) (w' := (cLk cI cJ cZ a lk_35 ++ cF0 cI cJ cZ a f0 ++ cTr cI cJ cZ a tr ++ cKn cI cJ cZ a kn)) (wr := (cF0 cI cJ cZ a f0 ++ cKn cI cJ cZ a kn)) (st1 := [.int y37]) ⟨hx, hb, hml, hown, hts⟩ (c_Lk_isJump l dC dI cI cJ cZ a x2_35 lk_35 tr y37 hy) (cwV 1 hts (gd_V tw451 tw453 ps6 tw5 tw454) rfl rfl rfl hd_Lk_isJump ⟨Nat.le_of_ble_eq_true rfl, Nat.le_of_ble_eq_true rfl⟩) hNw hK hP hD hS hA (ci := 3) rfl rfl rfl [0, 1, 2, 3, 4, 5, 6, 11, 12, 13, 14, 15, 16, 17, 18, 19, 20, 21] [7, 8, 9, 10, 22, 23, 24] rfl rfl rfl rfl rfl (by decide +kernel) (by decide +kernel) rfl hl.1 rfl (Nat.le_of_ble_eq_true rfl) rfl d_Lk_listFaults_37 ⟨Nat.zero_le _, Nat.zero_le _⟩ (fun H locs hP hD hS => ?_)
        refine lv_if_eq (tgt := 59) hx hb d_Lk_listFaults_40 (by decide) (fun hc => ?_) (fun hc => ?_)
        · have h := o_t hc h
          exact B59 x1_35 x2_35 lk_35 _ _ _ h hP hD hS (lv_sub hl [0, 1, 2] rfl)
        · have h := o_f hc h
          refine lv_aload_n hx hb d_Lk_listFaults_43 rfl (lv_at hl 0 rfl) ?_
          refine va_get (D := (dC, dI)) (ci := 3) (v := .ref (a 20)) (C := R_Lk) (T := F_Lk) (N := 14) hx hb hts inb_Lk hown hK hP 0 rfl rfl 8 (by decide) (hts _ tw235) (fun _ h9 => h9) rfl d_Lk_listFaults_44 ?_
          refine lv_iload_n hx hb d_Lk_listFaults_47 rfl (lv_at hl 2 rfl) ?_
          obtain ⟨hin, h⟩ := o_in h
          refine va_iald hx hb hK hP 3 0 rfl rfl hin d_Lk_listFaults_48 ?_
          refine lv_iconst (v := -1) hx hb d_Lk_listFaults_49 (by decide) ?_
          refine lv_icmp_ne (tgt := 59) hx hb d_Lk_listFaults_50 (by decide) (fun hc => ?_) (fun hc => ?_)
          · have h := o_f hc h
            exact B59 x1_35 x2_35 lk_35 _ _ _ h hP hD hS (lv_sub hl [0, 1, 2] rfl)
          · have h := o_t hc h
            refine lv_aload_n hx hb d_Lk_listFaults_53 rfl (lv_at hl 0 rfl) ?_
            refine lv_iconst (v := 2) hx hb d_Lk_listFaults_54 (by decide) ?_
            refine lv_iload_n hx hb d_Lk_listFaults_55 rfl (lv_at hl 2 rfl) ?_
            obtain ⟨y56, hy, h⟩ := o_bd h
            refine kdV (nn := 25) (rest := []) (w' := (cLk cI cJ cZ a y56 ++ cF0 cI cJ cZ a f0 ++ cTr cI cJ cZ a tr ++ cKn cI cJ cZ a kn)) (wr := (cF0 cI cJ cZ a f0 ++ cTr cI cJ cZ a tr ++ cKn cI cJ cZ a kn)) (st1 := []) ⟨hx, hb, hml, hown, hts⟩ (c_Lk_addFault l dC dI cI cJ cZ a (2 : Int32) x2_35 lk_35 y56 hy) (cwV 2 hts (gd_V tw602 tw604 ps12 tw5 tw605) rfl rfl rfl hd_Lk_addFault ⟨Nat.le_of_ble_eq_true rfl, Nat.le_of_ble_eq_true rfl⟩) hNw hK hP hD hS hA (ci := 3) rfl rfl rfl [0, 1, 2, 3, 4, 5, 6] [7, 8, 9, 10, 11, 12, 13, 14, 15, 16, 17, 18, 19, 20, 21, 22, 23, 24] rfl rfl rfl rfl rfl (by decide +kernel) (by decide +kernel) rfl hl.1 rfl (Nat.le_of_ble_eq_true rfl) rfl d_Lk_listFaults_56 ⟨Nat.zero_le _, Nat.zero_le _⟩ (fun H locs hP hD hS => ?_)
            exact B59 x1_35 x2_35 y56 _ _ _ h hP hD hS (lv_sub hl [0, 1, 2] rfl)
      refine lv_iload_n hx hb d_Lk_listFaults_7 rfl (lv_at hl 1 rfl) ?_
      refine lv_aload_n hx hb d_Lk_listFaults_8 rfl (lv_at hl 0 rfl) ?_
      refine va_get (D := (dC, dI)) (ci := 3) (v := .int (Lk_length s7.2)) (C := R_Lk) (T := F_Lk) (N := 14) hx hb hts inb_Lk hown hK hP 0 rfl rfl 5 (by decide) (hts _ tw232) (fun _ h9 => h9) rfl d_Lk_listFaults_9 ?_
      refine lv_icmp_ge (tgt := 103) hx hb d_Lk_listFaults_12 (by decide) (fun hc => ?_) (fun hc => ?_)
      · have h := o_t hc h
        cases h
        exact kr_v hx hb hr hlocks hP hD hS d_Lk_listFaults_103
      · have h := o_f hc h
        refine lv_aload_n hx hb d_Lk_listFaults_15 rfl (lv_at hl 0 rfl) ?_
        refine va_get (D := (dC, dI)) (ci := 3) (v := .ref (a 18)) (C := R_Lk) (T := F_Lk) (N := 14) hx hb hts inb_Lk hown hK hP 0 rfl rfl 6 (by decide) (hts _ tw233) (fun _ h9 => h9) rfl d_Lk_listFaults_16 ?_
        refine lv_iload_n hx hb d_Lk_listFaults_19 rfl (lv_at hl 1 rfl) ?_
        obtain ⟨hin, h⟩ := o_in h
        refine va_iald hx hb hK hP 1 0 rfl rfl hin d_Lk_listFaults_20 ?_
        refine lv_istore_n (lv' := [(2, .int ((Lk_order s7.2) s7.1.toNatClampNeg)), (0, .ref (a 17)), (1, .int s7.1)]) hx hb d_Lk_listFaults_21 rfl hl (by decide) rfl (fun ls hl => ?_)
        refine lv_iload_n hx hb d_Lk_listFaults_22 rfl (lv_at hl 0 rfl) ?_
        refine lv_aload_n hx hb d_Lk_listFaults_23 rfl (lv_at hl 1 rfl) ?_
        refine va_get (D := (dC, dI)) (ci := 3) (v := .int (Lk_root s7.2)) (C := R_Lk) (T := F_Lk) (N := 14) hx hb hts inb_Lk hown hK hP 0 rfl rfl 4 (by decide) (hts _ tw230) (fun _ h9 => h9) rfl d_Lk_listFaults_24 ?_
        refine lv_icmp_eq (tgt := 35) hx hb d_Lk_listFaults_27 (by decide) (fun hc => ?_) (fun hc => ?_)
        · have h := o_t hc h
          exact B35 s7.1 ((Lk_order s7.2) s7.1.toNatClampNeg) s7.2 _ _ _ h hP hD hS (lv_sub hl [1, 2, 0] rfl)
        · have h := o_f hc h
          refine lv_aload_n hx hb d_Lk_listFaults_30 rfl (lv_at hl 1 rfl) ?_
          refine lv_iload_n hx hb d_Lk_listFaults_31 rfl (lv_at hl 0 rfl) ?_
          obtain ⟨y32, hy, h⟩ := o_bd h
          refine kdV (nn := 25) (rest := []) (w' := (cLk cI cJ cZ a y32 ++ cF0 cI cJ cZ a f0 ++ cTr cI cJ cZ a tr ++ cKn cI cJ cZ a kn)) (wr := ([] : va_W)) (st1 := []) ⟨hx, hb, hml, hown, hts⟩ (c_Lk_listPlaceFault l dC dI cI cJ cZ a N ((Lk_order s7.2) s7.1.toNatClampNeg) s7.2 f0 tr kn y32 hy) (cwV 1 hts (gd_V tw584 tw586 ps11 tw5 tw587) rfl rfl rfl hd_Lk_listPlaceFault ⟨Nat.le_of_ble_eq_true rfl, Nat.le_of_ble_eq_true rfl⟩) hNw hK hP hD hS hA (ci := 3) rfl rfl rfl [0, 1, 2, 3, 4, 5, 6, 7, 8, 9, 10, 11, 12, 13, 14, 15, 16, 17, 18, 19, 20, 21, 22, 23, 24] [] rfl rfl rfl rfl rfl (by decide +kernel) (by decide +kernel) rfl hl.1 rfl (Nat.le_of_ble_eq_true rfl) rfl d_Lk_listFaults_32 ⟨Nat.zero_le _, Nat.zero_le _⟩ (fun H locs hP hD hS => ?_)
          exact B35 s7.1 ((Lk_order s7.2) s7.1.toNatClampNeg) y32 _ _ _ h hP hD hS (lv_sub hl [1, 2, 0] rfl)
  refine lv_aload_n hx hb d_Lk_listFaults_0 rfl (lv_at hl 0 rfl) ?_
  refine lv_iconst (v := 0) hx hb d_Lk_listFaults_1 (by decide) ?_
  refine va_put (D := (dC, dI)) (ci := 3) (v := .int (0 : Int32)) (ty := .int) (C := R_Lk) (T := F_Lk) (N := 14) hx hb hts inb_Lk ft_Lk ft_Lk_ok n_Lk hown hK hP hD hS 0 rfl rfl 9 (by decide) (hts _ tw237) (fun _ h9 => h9) rfl (by decide +kernel) rfl rfl (Nat.le_of_ble_eq_true rfl) d_Lk_listFaults_2 (fun H locs hP hD hS => ?_)
  have hP : va_P (dC, dI) classes (cLk cI cJ cZ a ((Lk_root lk), (Lk_length lk), (Lk_order lk), (Lk_waiting lk), (Lk_targets lk), (0 : Int32), (Lk_faultSort lk), (Lk_faultNode lk), (Lk_noteCount lk), (Lk_noteNode lk)) ++ cF0 cI cJ cZ a f0 ++ cTr cI cJ cZ a tr ++ cKn cI cJ cZ a kn) H := hP
  have hD : va_D A (cLk cI cJ cZ a ((Lk_root lk), (Lk_length lk), (Lk_order lk), (Lk_waiting lk), (Lk_targets lk), (0 : Int32), (Lk_faultSort lk), (Lk_faultNode lk), (Lk_noteCount lk), (Lk_noteNode lk)) ++ cF0 cI cJ cZ a f0 ++ cTr cI cJ cZ a tr ++ cKn cI cJ cZ a kn) := hD
  refine lv_iconst (v := 0) hx hb d_Lk_listFaults_5 (by decide) ?_
  refine lv_istore_n (lv' := [(1, .int (0 : Int32)), (0, .ref (a 17))]) hx hb d_Lk_listFaults_6 rfl hl (by decide) rfl (fun ls hl => ?_)
  exact L7 N ((0 : Int32), ((Lk_root lk), (Lk_length lk), (Lk_order lk), (Lk_waiting lk), (Lk_targets lk), (0 : Int32), (Lk_faultSort lk), (Lk_faultNode lk), (Lk_noteCount lk), (Lk_noteNode lk))) _ _ _ h hP hD hS (lv_sub hl [1, 0] rfl)
set_option maxHeartbeats 4000000 in
set_option maxRecDepth 100000 in
theorem c_Lk_listNotes (l : Launch) (dC : Nat → ClassId) (dI : Nat → Nat → Nat) (cI cJ cZ : ClassId) (a : Nat → Nat) (N : Nat) (lk : LkS) (f0 : FlS) (f1 : FlS) (tr : TrS) (res : LkS) (h : f_Lk_listNotes N lk f0 f1 tr = some res) :
    Kt l (dC, dI) classes [(cI, .int), (cJ, .long), (cZ, .boolean)] y_Lk_listNotes (wz y_Lk_listNotes b_Lk_listNotes 3 none) { frames := 2, cells := 0, slots := 0, locals := 43 } [.ref (a 17)] (cLk cI cJ cZ a lk ++ cF0 cI cJ cZ a f0 ++ cF1 cI cJ cZ a f1 ++ cTr cI cJ cZ a tr) none (cLk cI cJ cZ a res ++ cF0 cI cJ cZ a f0 ++ cF1 cI cJ cZ a f1 ++ cTr cI cJ cZ a tr) := by
  refine Kt_of (cc := b_Lk_listNotes) (maxL := 3) (ret := none) (by decide) (Nat.le_of_ble_eq_true rfl) ?_
  intro p e s m args below meth c A ls hx hb hr hml hlocks hown hts hNw hK hP hD hA hS hl
  have hl : lv_has ls 3 [(0, .ref (a 17))] := hl
  have hP : va_P (dC, dI) classes (cLk cI cJ cZ a lk ++ cF0 cI cJ cZ a f0 ++ cF1 cI cJ cZ a f1 ++ cTr cI cJ cZ a tr) s.heap := hP
  have L7 : ∀ (n7 : Nat) (s7 : Int32 × LkS) (H : Heap) (locs : List Loc) (ls : Array Slot), lp (f_Lk_listNotes_L7 N f0 f1 tr) n7 s7 = some res → va_P (dC, dI) classes (cLk cI cJ cZ a s7.2 ++ cF0 cI cJ cZ a f0 ++ cF1 cI cJ cZ a f1 ++ cTr cI cJ cZ a tr) H → va_D A (cLk cI cJ cZ a s7.2 ++ cF0 cI cJ cZ a f0 ++ cF1 cI cJ cZ a f1 ++ cTr cI cJ cZ a tr) → va_S A s.heap H locs → lv_has ls 3 [(0, .ref (a 17)), (1, .int s7.1)] → W p l e { frames := 2, cells := 0, slots := 0, locals := 43 } s m args below meth c H locs 0 0 (KZ below args s (dC, dI) classes none (cLk cI cJ cZ a res ++ cF0 cI cJ cZ a f0 ++ cF1 cI cJ cZ a f1 ++ cTr cI cJ cZ a tr) A) (F0 m 7 ls []) := by
    intro n7
    induction n7 with
    | zero => intro _ _ _ _ h; exact (lp_0 h).elim
    | succ n7 ih7 =>
      intro s7 H locs ls h hP hD hS hl
      have h := lp_s h
      refine lv_iload_n hx hb d_Lk_listNotes_7 rfl (lv_at hl 1 rfl) ?_
      refine lv_aload_n hx hb d_Lk_listNotes_8 rfl (lv_at hl 0 rfl) ?_
      refine va_get (D := (dC, dI)) (ci := 3) (v := .int (Lk_length s7.2)) (C := R_Lk) (T := F_Lk) (N := 14) hx hb hts inb_Lk hown hK hP 0 rfl rfl 5 (by decide) (hts _ tw232) (fun _ h9 => h9) rfl d_Lk_listNotes_9 ?_
      refine lv_icmp_ge (tgt := 89) hx hb d_Lk_listNotes_12 (by decide) (fun hc => ?_) (fun hc => ?_)
      · have h := o_t hc h
        cases h
        exact kr_v hx hb hr hlocks hP hD hS d_Lk_listNotes_89
      · have h := o_f hc h
        refine lv_aload_n hx hb d_Lk_listNotes_15 rfl (lv_at hl 0 rfl) ?_
        refine va_get (D := (dC, dI)) (ci := 3) (v := .ref (a 18)) (C := R_Lk) (T := F_Lk) (N := 14) hx hb hts inb_Lk hown hK hP 0 rfl rfl 6 (by decide) (hts _ tw233) (fun _ h9 => h9) rfl d_Lk_listNotes_16 ?_
        refine lv_iload_n hx hb d_Lk_listNotes_19 rfl (lv_at hl 1 rfl) ?_
        obtain ⟨hin, h⟩ := o_in h
        refine va_iald hx hb hK hP 1 0 rfl rfl hin d_Lk_listNotes_20 ?_
        refine lv_istore_n (lv' := [(2, .int ((Lk_order s7.2) s7.1.toNatClampNeg)), (0, .ref (a 17)), (1, .int s7.1)]) hx hb d_Lk_listNotes_21 rfl hl (by decide) rfl (fun ls hl => ?_)
        refine lv_aload_n hx hb d_Lk_listNotes_22 rfl (lv_at hl 1 rfl) ?_
        refine va_get (D := (dC, dI)) (ci := 3) (v := .ref (a 24)) (C := R_Lk) (T := F_Lk) (N := 14) hx hb hts inb_Lk hown hK hP 0 rfl rfl 2 (by decide) (hts _ tw226) (fun _ h9 => h9) rfl d_Lk_listNotes_23 ?_
        refine lv_iload_n hx hb d_Lk_listNotes_26 rfl (lv_at hl 0 rfl) ?_
        obtain ⟨y27, hy, h⟩ := o_bd h
        refine kdU (nn := 26) (rest := []) (w' := (cLk cI cJ cZ a s7.2 ++ cF0 cI cJ cZ a f0 ++ cF1 cI cJ cZ a f1 ++ cTr cI cJ cZ a tr)) (wr := (cLk cI cJ cZ a s7.2 ++ cF1 cI cJ cZ a f1 ++ cTr cI cJ cZ a tr)) (st1 := [.int y27]) ⟨hx, hb, hml, hown, hts⟩ (c_Fl_meets_0 l dC dI cI cJ cZ a ((Lk_order s7.2) s7.1.toNatClampNeg) f0 y27 hy) (va_cwU 1 hts (gd_U tw588 tw590 tw591 tw589 tw6 tw593) rfl rfl rfl rfl hdU_meets ⟨Nat.le_of_ble_eq_true rfl, Nat.le_of_ble_eq_true rfl⟩) hNw hK hP hD hS hA (ci := 4) rfl rfl rfl [7, 8, 9, 10] [0, 1, 2, 3, 4, 5, 6, 11, 12, 13, 14, 15, 16, 17, 18, 19, 20, 21, 22, 23, 24, 25] rfl rfl rfl rfl rfl (by decide +kernel) (by decide +kernel) rfl hl.1 rfl (Nat.le_of_ble_eq_true rfl) rfl d_Lk_listNotes_27 ⟨Nat.zero_le _, Nat.zero_le _⟩ (fun H locs hP hD hS => ?_)
        refine lv_if_eq (tgt := 83) hx hb d_Lk_listNotes_30 (by decide) (fun hc => ?_) (fun hc => ?_)
        · have h := o_t hc h
          refine lv_iinc (v := (s7.1 + 1)) (lv' := [(1, .int (s7.1 + 1)), (2, .int ((Lk_order s7.2) s7.1.toNatClampNeg)), (0, .ref (a 17))]) hx hb d_Lk_listNotes_83 hl (k := 2) rfl rfl (by decide) rfl (fun ls hl => ?_)
          refine lv_goto (tgt := 7) hx hb d_Lk_listNotes_86 (by decide) ?_
          exact ih7 ((s7.1 + 1), s7.2) _ _ _ h hP hD hS (lv_sub hl [2, 0] rfl)
        · have h := o_f hc h
          refine lv_aload_n hx hb d_Lk_listNotes_33 rfl (lv_at hl 1 rfl) ?_
          refine va_get (D := (dC, dI)) (ci := 3) (v := .ref (a 28)) (C := R_Lk) (T := F_Lk) (N := 14) hx hb hts inb_Lk hown hK hP 0 rfl rfl 3 (by decide) (hts _ tw228) (fun _ h9 => h9) rfl d_Lk_listNotes_34 ?_
          refine lv_iload_n hx hb d_Lk_listNotes_37 rfl (lv_at hl 0 rfl) ?_
          obtain ⟨y38, hy, h⟩ := o_bd h
          refine kdU (nn := 26) (rest := []) (w' := (cLk cI cJ cZ a s7.2 ++ cF0 cI cJ cZ a f0 ++ cF1 cI cJ cZ a f1 ++ cTr cI cJ cZ a tr)) (wr := (cLk cI cJ cZ a s7.2 ++ cF0 cI cJ cZ a f0 ++ cTr cI cJ cZ a tr)) (st1 := [.int y38]) ⟨hx, hb, hml, hown, hts⟩ (c_Fl_meets_1 l dC dI cI cJ cZ a ((Lk_order s7.2) s7.1.toNatClampNeg) f1 y38 hy) (va_cwU 1 hts (gd_U tw588 tw590 tw592 tw589 tw6 tw593) rfl rfl rfl rfl hdU_meets ⟨Nat.le_of_ble_eq_true rfl, Nat.le_of_ble_eq_true rfl⟩) hNw hK hP hD hS hA (ci := 5) rfl rfl rfl [11, 12, 13, 14] [0, 1, 2, 3, 4, 5, 6, 7, 8, 9, 10, 15, 16, 17, 18, 19, 20, 21, 22, 23, 24, 25] rfl rfl rfl rfl rfl (by decide +kernel) (by decide +kernel) rfl hl.1 rfl (Nat.le_of_ble_eq_true rfl) rfl d_Lk_listNotes_38 ⟨Nat.zero_le _, Nat.zero_le _⟩ (fun H locs hP hD hS => ?_)
          refine lv_if_ne (tgt := 83) hx hb d_Lk_listNotes_41 (by decide) (fun hc => ?_) (fun hc => ?_)
          · have h := o_f hc h
            refine lv_iinc (v := (s7.1 + 1)) (lv' := [(1, .int (s7.1 + 1)), (2, .int ((Lk_order s7.2) s7.1.toNatClampNeg)), (0, .ref (a 17))]) hx hb d_Lk_listNotes_83 hl (k := 2) rfl rfl (by decide) rfl (fun ls hl => ?_)
            refine lv_goto (tgt := 7) hx hb d_Lk_listNotes_86 (by decide) ?_
            exact ih7 ((s7.1 + 1), s7.2) _ _ _ h hP hD hS (lv_sub hl [2, 0] rfl)
          · have h := o_t hc h
            refine lv_aload_n hx hb d_Lk_listNotes_44 rfl (lv_at hl 1 rfl) ?_
            refine va_get (D := (dC, dI)) (ci := 3) (v := .ref (a 28)) (C := R_Lk) (T := F_Lk) (N := 14) hx hb hts inb_Lk hown hK hP 0 rfl rfl 3 (by decide) (hts _ tw228) (fun _ h9 => h9) rfl d_Lk_listNotes_45 ?_
            refine lv_aload_n hx hb d_Lk_listNotes_48 rfl (lv_at hl 1 rfl) ?_
            refine va_get (D := (dC, dI)) (ci := 3) (v := .ref (a 4)) (C := R_Lk) (T := F_Lk) (N := 14) hx hb hts inb_Lk hown hK hP 0 rfl rfl 0 (by decide) (hts _ tw224) (fun _ h9 => h9) rfl d_Lk_listNotes_49 ?_
            refine va_get (D := (dC, dI)) (ci := 1) (v := .ref (a 8)) (C := R_Tr) (T := F_Tr) (N := 14) hx hb hts inb_Tr hown hK hP 15 rfl rfl 7 (by decide) (hts _ tw78) (fun _ h9 => h9) rfl d_Lk_listNotes_52 ?_
            refine lv_iload_n hx hb d_Lk_listNotes_55 rfl (lv_at hl 0 rfl) ?_
            obtain ⟨hin, h⟩ := o_in h
            refine va_iald hx hb hK hP 19 0 rfl rfl hin d_Lk_listNotes_56 ?_
            obtain ⟨y57, hy, h⟩ := o_bd h
            refine kdU (nn := 26) (rest := []) (w' := (cLk cI cJ cZ a s7.2 ++ cF0 cI cJ cZ a f0 ++ cF1 cI cJ cZ a f1 ++ cTr cI cJ cZ a tr)) (wr := (cLk cI cJ cZ a s7.2 ++ cF0 cI cJ cZ a f0 ++ cTr cI cJ cZ a tr)) (st1 := [.int y57]) ⟨hx, hb, hml, hown, hts⟩ (c_Fl_meets_1 l dC dI cI cJ cZ a ((Tr_parent tr) ((Lk_order s7.2) s7.1.toNatClampNeg).toNatClampNeg) f1 y57 hy) (va_cwU 1 hts (gd_U tw588 tw590 tw592 tw589 tw6 tw593) rfl rfl rfl rfl hdU_meets ⟨Nat.le_of_ble_eq_true rfl, Nat.le_of_ble_eq_true rfl⟩) hNw hK hP hD hS hA (ci := 5) rfl rfl rfl [11, 12, 13, 14] [0, 1, 2, 3, 4, 5, 6, 7, 8, 9, 10, 15, 16, 17, 18, 19, 20, 21, 22, 23, 24, 25] rfl rfl rfl rfl rfl (by decide +kernel) (by decide +kernel) rfl hl.1 rfl (Nat.le_of_ble_eq_true rfl) rfl d_Lk_listNotes_57 ⟨Nat.zero_le _, Nat.zero_le _⟩ (fun H locs hP hD hS => ?_)
            refine lv_if_eq (tgt := 83) hx hb d_Lk_listNotes_60 (by decide) (fun hc => ?_) (fun hc => ?_)
            · have h := o_t hc h
              refine lv_iinc (v := (s7.1 + 1)) (lv' := [(1, .int (s7.1 + 1)), (2, .int ((Lk_order s7.2) s7.1.toNatClampNeg)), (0, .ref (a 17))]) hx hb d_Lk_listNotes_83 hl (k := 2) rfl rfl (by decide) rfl (fun ls hl => ?_)
              refine lv_goto (tgt := 7) hx hb d_Lk_listNotes_86 (by decide) ?_
              exact ih7 ((s7.1 + 1), s7.2) _ _ _ h hP hD hS (lv_sub hl [2, 0] rfl)
            · have h := o_f hc h
              refine lv_aload_n hx hb d_Lk_listNotes_63 rfl (lv_at hl 1 rfl) ?_
              refine va_get (D := (dC, dI)) (ci := 3) (v := .ref (a 23)) (C := R_Lk) (T := F_Lk) (N := 14) hx hb hts inb_Lk hown hK hP 0 rfl rfl 13 (by decide) (hts _ tw245) (fun _ h9 => h9) rfl d_Lk_listNotes_64 ?_
              refine lv_aload_n hx hb d_Lk_listNotes_67 rfl (lv_at hl 1 rfl) ?_
              refine va_get (D := (dC, dI)) (ci := 3) (v := .int (Lk_noteCount s7.2)) (C := R_Lk) (T := F_Lk) (N := 14) hx hb hts inb_Lk hown hK hP 0 rfl rfl 12 (by decide) (hts _ tw243) (fun _ h9 => h9) rfl d_Lk_listNotes_68 ?_
              refine lv_iload_n hx hb d_Lk_listNotes_71 rfl (lv_at hl 0 rfl) ?_
              obtain ⟨hin, h⟩ := o_in h
              refine va_iast hx hb hK hP hD hS 6 0 rfl rfl hin d_Lk_listNotes_72 (fun H locs hP hD hS => ?_)
              have hP : va_P (dC, dI) classes (cLk cI cJ cZ a ((Lk_root s7.2), (Lk_length s7.2), (Lk_order s7.2), (Lk_waiting s7.2), (Lk_targets s7.2), (Lk_faultCount s7.2), (Lk_faultSort s7.2), (Lk_faultNode s7.2), (Lk_noteCount s7.2), (upd (Lk_noteNode s7.2) (Lk_noteCount s7.2).toNatClampNeg ((Lk_order s7.2) s7.1.toNatClampNeg))) ++ cF0 cI cJ cZ a f0 ++ cF1 cI cJ cZ a f1 ++ cTr cI cJ cZ a tr) H := hP
              have hD : va_D A (cLk cI cJ cZ a ((Lk_root s7.2), (Lk_length s7.2), (Lk_order s7.2), (Lk_waiting s7.2), (Lk_targets s7.2), (Lk_faultCount s7.2), (Lk_faultSort s7.2), (Lk_faultNode s7.2), (Lk_noteCount s7.2), (upd (Lk_noteNode s7.2) (Lk_noteCount s7.2).toNatClampNeg ((Lk_order s7.2) s7.1.toNatClampNeg))) ++ cF0 cI cJ cZ a f0 ++ cF1 cI cJ cZ a f1 ++ cTr cI cJ cZ a tr) := hD
              refine lv_aload_n hx hb d_Lk_listNotes_73 rfl (lv_at hl 1 rfl) ?_
              refine lv_dup hx hb d_Lk_listNotes_74 rfl ?_
              refine va_get (D := (dC, dI)) (ci := 3) (v := .int (Lk_noteCount s7.2)) (C := R_Lk) (T := F_Lk) (N := 14) hx hb hts inb_Lk hown hK hP 0 rfl rfl 12 (by decide) (hts _ tw243) (fun _ h9 => h9) rfl d_Lk_listNotes_75 ?_
              refine lv_iconst (v := 1) hx hb d_Lk_listNotes_78 (by decide) ?_
              refine lv_iadd hx hb d_Lk_listNotes_79 ?_
              refine va_put (D := (dC, dI)) (ci := 3) (v := .int ((Lk_noteCount s7.2) + (1 : Int32))) (ty := .int) (C := R_Lk) (T := F_Lk) (N := 14) hx hb hts inb_Lk ft_Lk ft_Lk_ok n_Lk hown hK hP hD hS 0 rfl rfl 12 (by decide) (hts _ tw243) (fun _ h9 => h9) rfl (by decide +kernel) rfl rfl (Nat.le_of_ble_eq_true rfl) d_Lk_listNotes_80 (fun H locs hP hD hS => ?_)
              have hP : va_P (dC, dI) classes (cLk cI cJ cZ a ((Lk_root s7.2), (Lk_length s7.2), (Lk_order s7.2), (Lk_waiting s7.2), (Lk_targets s7.2), (Lk_faultCount s7.2), (Lk_faultSort s7.2), (Lk_faultNode s7.2), ((Lk_noteCount s7.2) + (1 : Int32)), (upd (Lk_noteNode s7.2) (Lk_noteCount s7.2).toNatClampNeg ((Lk_order s7.2) s7.1.toNatClampNeg))) ++ cF0 cI cJ cZ a f0 ++ cF1 cI cJ cZ a f1 ++ cTr cI cJ cZ a tr) H := hP
              have hD : va_D A (cLk cI cJ cZ a ((Lk_root s7.2), (Lk_length s7.2), (Lk_order s7.2), (Lk_waiting s7.2), (Lk_targets s7.2), (Lk_faultCount s7.2), (Lk_faultSort s7.2), (Lk_faultNode s7.2), ((Lk_noteCount s7.2) + (1 : Int32)), (upd (Lk_noteNode s7.2) (Lk_noteCount s7.2).toNatClampNeg ((Lk_order s7.2) s7.1.toNatClampNeg))) ++ cF0 cI cJ cZ a f0 ++ cF1 cI cJ cZ a f1 ++ cTr cI cJ cZ a tr) := hD
              refine lv_iinc (v := (s7.1 + 1)) (lv' := [(1, .int (s7.1 + 1)), (2, .int ((Lk_order s7.2) s7.1.toNatClampNeg)), (0, .ref (a 17))]) hx hb d_Lk_listNotes_83 hl (k := 2) rfl rfl (by decide) rfl (fun ls hl => ?_)
              refine lv_goto (tgt := 7) hx hb d_Lk_listNotes_86 (by decide) ?_
              exact ih7 ((s7.1 + 1), ((Lk_root s7.2), (Lk_length s7.2), (Lk_order s7.2), (Lk_waiting s7.2), (Lk_targets s7.2), (Lk_faultCount s7.2), (Lk_faultSort s7.2), (Lk_faultNode s7.2), ((Lk_noteCount s7.2) + (1 : Int32)), (upd (Lk_noteNode s7.2) (Lk_noteCount s7.2).toNatClampNeg ((Lk_order s7.2) s7.1.toNatClampNeg)))) _ _ _ h hP hD hS (lv_sub hl [2, 0] rfl)
  refine lv_aload_n hx hb d_Lk_listNotes_0 rfl (lv_at hl 0 rfl) ?_
  refine lv_iconst (v := 0) hx hb d_Lk_listNotes_1 (by decide) ?_
  refine va_put (D := (dC, dI)) (ci := 3) (v := .int (0 : Int32)) (ty := .int) (C := R_Lk) (T := F_Lk) (N := 14) hx hb hts inb_Lk ft_Lk ft_Lk_ok n_Lk hown hK hP hD hS 0 rfl rfl 12 (by decide) (hts _ tw243) (fun _ h9 => h9) rfl (by decide +kernel) rfl rfl (Nat.le_of_ble_eq_true rfl) d_Lk_listNotes_2 (fun H locs hP hD hS => ?_)
  have hP : va_P (dC, dI) classes (cLk cI cJ cZ a ((Lk_root lk), (Lk_length lk), (Lk_order lk), (Lk_waiting lk), (Lk_targets lk), (Lk_faultCount lk), (Lk_faultSort lk), (Lk_faultNode lk), (0 : Int32), (Lk_noteNode lk)) ++ cF0 cI cJ cZ a f0 ++ cF1 cI cJ cZ a f1 ++ cTr cI cJ cZ a tr) H := hP
  have hD : va_D A (cLk cI cJ cZ a ((Lk_root lk), (Lk_length lk), (Lk_order lk), (Lk_waiting lk), (Lk_targets lk), (Lk_faultCount lk), (Lk_faultSort lk), (Lk_faultNode lk), (0 : Int32), (Lk_noteNode lk)) ++ cF0 cI cJ cZ a f0 ++ cF1 cI cJ cZ a f1 ++ cTr cI cJ cZ a tr) := hD
  refine lv_iconst (v := 1) hx hb d_Lk_listNotes_5 (by decide) ?_
  refine lv_istore_n (lv' := [(1, .int (1 : Int32)), (0, .ref (a 17))]) hx hb d_Lk_listNotes_6 rfl hl (by decide) rfl (fun ls hl => ?_)
  exact L7 N ((1 : Int32), ((Lk_root lk), (Lk_length lk), (Lk_order lk), (Lk_waiting lk), (Lk_targets lk), (Lk_faultCount lk), (Lk_faultSort lk), (Lk_faultNode lk), (0 : Int32), (Lk_noteNode lk))) _ _ _ h hP hD hS (lv_sub hl [1, 0] rfl)
set_option maxHeartbeats 4000000 in
set_option maxRecDepth 100000 in
theorem c_Lk_lookAt (l : Launch) (dC : Nat → ClassId) (dI : Nat → Nat → Nat) (cI cJ cZ : ClassId) (a : Nat → Nat) (N : Nat) (x1 : Int32) (lk : LkS) (f0 : FlS) (f1 : FlS) (tr : TrS) (kn : KnS) (res : LkS × FlS × FlS) (h : f_Lk_lookAt N x1 lk f0 f1 tr kn = some res) :
    Kt l (dC, dI) classes [(cI, .int), (cJ, .long), (cZ, .boolean)] y_Lk_lookAt (wz y_Lk_lookAt b_Lk_lookAt 2 none) { frames := 6, cells := 0, slots := 0, locals := 137 } [.ref (a 17), .int x1] (cLk cI cJ cZ a lk ++ cF0 cI cJ cZ a f0 ++ cF1 cI cJ cZ a f1 ++ cTr cI cJ cZ a tr ++ cKn cI cJ cZ a kn) none (cLk cI cJ cZ a res.1 ++ cF0 cI cJ cZ a res.2.1 ++ cF1 cI cJ cZ a res.2.2 ++ cTr cI cJ cZ a tr ++ cKn cI cJ cZ a kn) := by
  refine Kt_of (cc := b_Lk_lookAt) (maxL := 2) (ret := none) (by decide) (Nat.le_of_ble_eq_true rfl) ?_
  intro p e s m args below meth c A ls hx hb hr hml hlocks hown hts hNw hK hP hD hA hS hl
  have hl : lv_has ls 2 [(0, .ref (a 17)), (1, .int x1)] := hl
  have hP : va_P (dC, dI) classes (cLk cI cJ cZ a lk ++ cF0 cI cJ cZ a f0 ++ cF1 cI cJ cZ a f1 ++ cTr cI cJ cZ a tr ++ cKn cI cJ cZ a kn) s.heap := hP
  refine lv_aload_n hx hb d_Lk_lookAt_0 rfl (lv_at hl 0 rfl) ?_
  refine lv_iload_n hx hb d_Lk_lookAt_1 rfl (lv_at hl 1 rfl) ?_
  refine va_put (D := (dC, dI)) (ci := 3) (v := .int x1) (ty := .int) (C := R_Lk) (T := F_Lk) (N := 14) hx hb hts inb_Lk ft_Lk ft_Lk_ok n_Lk hown hK hP hD hS 0 rfl rfl 4 (by decide) (hts _ tw230) (fun _ h9 => h9) rfl (by decide +kernel) rfl rfl (Nat.le_of_ble_eq_true rfl) d_Lk_lookAt_2 (fun H locs hP hD hS => ?_)
  have hP : va_P (dC, dI) classes (cLk cI cJ cZ a (x1, (Lk_length lk), (Lk_order lk), (Lk_waiting lk), (Lk_targets lk), (Lk_faultCount lk), (Lk_faultSort lk), (Lk_faultNode lk), (Lk_noteCount lk), (Lk_noteNode lk)) ++ cF0 cI cJ cZ a f0 ++ cF1 cI cJ cZ a f1 ++ cTr cI cJ cZ a tr ++ cKn cI cJ cZ a kn) H := hP
  have hD : va_D A (cLk cI cJ cZ a (x1, (Lk_length lk), (Lk_order lk), (Lk_waiting lk), (Lk_targets lk), (Lk_faultCount lk), (Lk_faultSort lk), (Lk_faultNode lk), (Lk_noteCount lk), (Lk_noteNode lk)) ++ cF0 cI cJ cZ a f0 ++ cF1 cI cJ cZ a f1 ++ cTr cI cJ cZ a tr ++ cKn cI cJ cZ a kn) := hD
  refine lv_aload_n hx hb d_Lk_lookAt_5 rfl (lv_at hl 0 rfl) ?_
  obtain ⟨y6, hy, h⟩ := o_bd h
  refine kdV (nn := 29) (rest := []) (w' := (cLk cI cJ cZ a y6 ++ cF0 cI cJ cZ a f0 ++ cF1 cI cJ cZ a f1 ++ cTr cI cJ cZ a tr ++ cKn cI cJ cZ a kn)) (wr := (cF0 cI cJ cZ a f0 ++ cF1 cI cJ cZ a f1 ++ cKn cI cJ cZ a kn)) (st1 := []) ⟨hx, hb, hml, hown, hts⟩ (c_Lk_orderText l dC dI cI cJ cZ a N (x1, (Lk_length lk), (Lk_order lk), (Lk_waiting lk), (Lk_targets lk), (Lk_faultCount lk), (Lk_faultSort lk), (Lk_faultNode lk), (Lk_noteCount lk), (Lk_noteNode lk)) tr y6 hy) (cwV 0 hts (gd_V tw442 tw444 ps4 tw5 tw445) rfl rfl rfl hd_Lk_orderText ⟨Nat.le_of_ble_eq_true rfl, Nat.le_of_ble_eq_true rfl⟩) hNw hK hP hD hS hA (ci := 3) rfl rfl rfl [0, 1, 2, 3, 4, 5, 6, 15, 16, 17, 18, 19, 20, 21, 22, 23, 24, 25] [7, 8, 9, 10, 11, 12, 13, 14, 26, 27, 28] rfl rfl rfl rfl rfl (by decide +kernel) (by decide +kernel) rfl hl.1 rfl (Nat.le_of_ble_eq_true rfl) rfl d_Lk_lookAt_6 ⟨Nat.zero_le _, Nat.zero_le _⟩ (fun H locs hP hD hS => ?_)
  refine lv_aload_n hx hb d_Lk_lookAt_9 rfl (lv_at hl 0 rfl) ?_
  obtain ⟨y10, hy, h⟩ := o_bd h
  refine kdV (nn := 29) (rest := []) (w' := (cLk cI cJ cZ a y10 ++ cF0 cI cJ cZ a f0 ++ cF1 cI cJ cZ a f1 ++ cTr cI cJ cZ a tr ++ cKn cI cJ cZ a kn)) (wr := (cF0 cI cJ cZ a f0 ++ cF1 cI cJ cZ a f1 ++ cKn cI cJ cZ a kn)) (st1 := []) ⟨hx, hb, hml, hown, hts⟩ (c_Lk_findTargets l dC dI cI cJ cZ a N y6 tr y10 hy) (cwV 0 hts (gd_V tw447 tw449 ps5 tw5 tw450) rfl rfl rfl hd_Lk_findTargets ⟨Nat.le_of_ble_eq_true rfl, Nat.le_of_ble_eq_true rfl⟩) hNw hK hP hD hS hA (ci := 3) rfl rfl rfl [0, 1, 2, 3, 4, 5, 6, 15, 16, 17, 18, 19, 20, 21, 22, 23, 24, 25] [7, 8, 9, 10, 11, 12, 13, 14, 26, 27, 28] rfl rfl rfl rfl rfl (by decide +kernel) (by decide +kernel) rfl hl.1 rfl (Nat.le_of_ble_eq_true rfl) rfl d_Lk_lookAt_10 ⟨Nat.zero_le _, Nat.zero_le _⟩ (fun H locs hP hD hS => ?_)
  refine lv_aload_n hx hb d_Lk_lookAt_13 rfl (lv_at hl 0 rfl) ?_
  refine va_get (D := (dC, dI)) (ci := 3) (v := .ref (a 24)) (C := R_Lk) (T := F_Lk) (N := 14) hx hb hts inb_Lk hown hK hP 0 rfl rfl 2 (by decide) (hts _ tw226) (fun _ h9 => h9) rfl d_Lk_lookAt_14 ?_
  refine lv_aload_n hx hb d_Lk_lookAt_17 rfl (lv_at hl 0 rfl) ?_
  refine va_get (D := (dC, dI)) (ci := 3) (v := .ref (a 18)) (C := R_Lk) (T := F_Lk) (N := 14) hx hb hts inb_Lk hown hK hP 0 rfl rfl 6 (by decide) (hts _ tw233) (fun _ h9 => h9) rfl d_Lk_lookAt_18 ?_
  refine lv_aload_n hx hb d_Lk_lookAt_21 rfl (lv_at hl 0 rfl) ?_
  refine va_get (D := (dC, dI)) (ci := 3) (v := .int (Lk_length y10)) (C := R_Lk) (T := F_Lk) (N := 14) hx hb hts inb_Lk hown hK hP 0 rfl rfl 5 (by decide) (hts _ tw232) (fun _ h9 => h9) rfl d_Lk_lookAt_22 ?_
  refine lv_aload_n hx hb d_Lk_lookAt_25 rfl (lv_at hl 0 rfl) ?_
  refine va_get (D := (dC, dI)) (ci := 3) (v := .ref (a 20)) (C := R_Lk) (T := F_Lk) (N := 14) hx hb hts inb_Lk hown hK hP 0 rfl rfl 8 (by decide) (hts _ tw235) (fun _ h9 => h9) rfl d_Lk_lookAt_26 ?_
  obtain ⟨y29, hy, h⟩ := o_bd h
  refine kdU (nn := 29) (rest := []) (w' := (cLk cI cJ cZ a y10 ++ cF0 cI cJ cZ a y29 ++ cF1 cI cJ cZ a f1 ++ cTr cI cJ cZ a tr ++ cKn cI cJ cZ a kn)) (wr := ([(a 17, .inr (3, [.ref (a 4), .ref (a 1), .ref (a 24), .ref (a 28), .int (Lk_root y10), .int (Lk_length y10), .ref (a 18), .ref (a 19), .ref (a 20), .int (Lk_faultCount y10), .ref (a 21), .ref (a 22), .int (Lk_noteCount y10), .ref (a 23)])), (a 19, .inl (cI, 60, .inl (Lk_waiting y10))), (a 21, .inl (cI, 120, .inl (Lk_faultSort y10))), (a 22, .inl (cI, 120, .inl (Lk_faultNode y10))), (a 23, .inl (cI, 60, .inl (Lk_noteNode y10)))] ++ cF1 cI cJ cZ a f1)) (st1 := []) ⟨hx, hb, hml, hown, hts⟩ (c_Fl_flow_0 l dC dI cI cJ cZ a N (Lk_length y10) f0 tr kn (Lk_order y10) (Lk_targets y10) y29 hy) (va_cwU 3 hts (gd_U tw473 tw475 tw476 tw474 tw6 tw478) rfl rfl rfl rfl hdU_flow ⟨Nat.le_of_ble_eq_true rfl, Nat.le_of_ble_eq_true rfl⟩) hNw hK hP hD hS hA (ci := 4) rfl rfl rfl [7, 8, 9, 10, 15, 16, 17, 18, 19, 20, 21, 22, 23, 24, 25, 26, 27, 28, 1, 3] [0, 2, 4, 5, 6, 11, 12, 13, 14] rfl rfl rfl rfl rfl (by decide +kernel) (by decide +kernel) rfl hl.1 rfl (Nat.le_of_ble_eq_true rfl) rfl d_Lk_lookAt_29 ⟨Nat.zero_le _, Nat.zero_le _⟩ (fun H locs hP hD hS => ?_)
  refine lv_aload_n hx hb d_Lk_lookAt_32 rfl (lv_at hl 0 rfl) ?_
  refine va_get (D := (dC, dI)) (ci := 3) (v := .ref (a 28)) (C := R_Lk) (T := F_Lk) (N := 14) hx hb hts inb_Lk hown hK hP 0 rfl rfl 3 (by decide) (hts _ tw228) (fun _ h9 => h9) rfl d_Lk_lookAt_33 ?_
  refine lv_aload_n hx hb d_Lk_lookAt_36 rfl (lv_at hl 0 rfl) ?_
  refine va_get (D := (dC, dI)) (ci := 3) (v := .ref (a 18)) (C := R_Lk) (T := F_Lk) (N := 14) hx hb hts inb_Lk hown hK hP 0 rfl rfl 6 (by decide) (hts _ tw233) (fun _ h9 => h9) rfl d_Lk_lookAt_37 ?_
  refine lv_aload_n hx hb d_Lk_lookAt_40 rfl (lv_at hl 0 rfl) ?_
  refine va_get (D := (dC, dI)) (ci := 3) (v := .int (Lk_length y10)) (C := R_Lk) (T := F_Lk) (N := 14) hx hb hts inb_Lk hown hK hP 0 rfl rfl 5 (by decide) (hts _ tw232) (fun _ h9 => h9) rfl d_Lk_lookAt_41 ?_
  refine lv_aload_n hx hb d_Lk_lookAt_44 rfl (lv_at hl 0 rfl) ?_
  refine va_get (D := (dC, dI)) (ci := 3) (v := .ref (a 20)) (C := R_Lk) (T := F_Lk) (N := 14) hx hb hts inb_Lk hown hK hP 0 rfl rfl 8 (by decide) (hts _ tw235) (fun _ h9 => h9) rfl d_Lk_lookAt_45 ?_
  obtain ⟨y48, hy, h⟩ := o_bd h
  refine kdU (nn := 29) (rest := []) (w' := (cLk cI cJ cZ a y10 ++ cF0 cI cJ cZ a y29 ++ cF1 cI cJ cZ a y48 ++ cTr cI cJ cZ a tr ++ cKn cI cJ cZ a kn)) (wr := ([(a 17, .inr (3, [.ref (a 4), .ref (a 1), .ref (a 24), .ref (a 28), .int (Lk_root y10), .int (Lk_length y10), .ref (a 18), .ref (a 19), .ref (a 20), .int (Lk_faultCount y10), .ref (a 21), .ref (a 22), .int (Lk_noteCount y10), .ref (a 23)])), (a 19, .inl (cI, 60, .inl (Lk_waiting y10))), (a 21, .inl (cI, 120, .inl (Lk_faultSort y10))), (a 22, .inl (cI, 120, .inl (Lk_faultNode y10))), (a 23, .inl (cI, 60, .inl (Lk_noteNode y10)))] ++ cF0 cI cJ cZ a y29)) (st1 := []) ⟨hx, hb, hml, hown, hts⟩ (c_Fl_flow_1 l dC dI cI cJ cZ a N (Lk_length y10) f1 tr kn (Lk_order y10) (Lk_targets y10) y48 hy) (va_cwU 3 hts (gd_U tw473 tw475 tw477 tw474 tw6 tw478) rfl rfl rfl rfl hdU_flow ⟨Nat.le_of_ble_eq_true rfl, Nat.le_of_ble_eq_true rfl⟩) hNw hK hP hD hS hA (ci := 5) rfl rfl rfl [11, 12, 13, 14, 15, 16, 17, 18, 19, 20, 21, 22, 23, 24, 25, 26, 27, 28, 1, 3] [0, 2, 4, 5, 6, 7, 8, 9, 10] rfl rfl rfl rfl rfl (by decide +kernel) (by decide +kernel) rfl hl.1 rfl (Nat.le_of_ble_eq_true rfl) rfl d_Lk_lookAt_48 ⟨Nat.zero_le _, Nat.zero_le _⟩ (fun H locs hP hD hS => ?_)
  refine lv_aload_n hx hb d_Lk_lookAt_51 rfl (lv_at hl 0 rfl) ?_
  obtain ⟨y52, hy, h⟩ := o_bd h
  refine kdV (nn := 29) (rest := []) (w' := (cLk cI cJ cZ a y52 ++ cF0 cI cJ cZ a y29 ++ cF1 cI cJ cZ a y48 ++ cTr cI cJ cZ a tr ++ cKn cI cJ cZ a kn)) (wr := (cF1 cI cJ cZ a y48)) (st1 := []) ⟨hx, hb, hml, hown, hts⟩ (c_Lk_listFaults l dC dI cI cJ cZ a N y10 y29 tr kn y52 hy) (cwV 0 hts (gd_V tw580 tw582 ps10 tw5 tw583) rfl rfl rfl hd_Lk_listFaults ⟨Nat.le_of_ble_eq_true rfl, Nat.le_of_ble_eq_true rfl⟩) hNw hK hP hD hS hA (ci := 3) rfl rfl rfl [0, 1, 2, 3, 4, 5, 6, 7, 8, 9, 10, 15, 16, 17, 18, 19, 20, 21, 22, 23, 24, 25, 26, 27, 28] [11, 12, 13, 14] rfl rfl rfl rfl rfl (by decide +kernel) (by decide +kernel) rfl hl.1 rfl (Nat.le_of_ble_eq_true rfl) rfl d_Lk_lookAt_52 ⟨Nat.zero_le _, Nat.zero_le _⟩ (fun H locs hP hD hS => ?_)
  refine lv_aload_n hx hb d_Lk_lookAt_55 rfl (lv_at hl 0 rfl) ?_
  obtain ⟨y56, hy, h⟩ := o_bd h
  refine kdV (nn := 29) (rest := []) (w' := (cLk cI cJ cZ a y56 ++ cF0 cI cJ cZ a y29 ++ cF1 cI cJ cZ a y48 ++ cTr cI cJ cZ a tr ++ cKn cI cJ cZ a kn)) (wr := (cKn cI cJ cZ a kn)) (st1 := []) ⟨hx, hb, hml, hown, hts⟩ (c_Lk_listNotes l dC dI cI cJ cZ a N y52 y29 y48 tr y56 hy) (cwV 0 hts (gd_V tw612 tw614 ps14 tw5 tw615) rfl rfl rfl hd_Lk_listNotes ⟨Nat.le_of_ble_eq_true rfl, Nat.le_of_ble_eq_true rfl⟩) hNw hK hP hD hS hA (ci := 3) rfl rfl rfl [0, 1, 2, 3, 4, 5, 6, 7, 8, 9, 10, 11, 12, 13, 14, 15, 16, 17, 18, 19, 20, 21, 22, 23, 24, 25] [26, 27, 28] rfl rfl rfl rfl rfl (by decide +kernel) (by decide +kernel) rfl hl.1 rfl (Nat.le_of_ble_eq_true rfl) rfl d_Lk_lookAt_56 ⟨Nat.zero_le _, Nat.zero_le _⟩ (fun H locs hP hD hS => ?_)
  cases h
  exact kr_v hx hb hr hlocks hP hD hS d_Lk_lookAt_59
set_option maxHeartbeats 4000000 in
set_option maxRecDepth 100000 in
theorem c_Lk_hasReturn (l : Launch) (dC : Nat → ClassId) (dI : Nat → Nat → Nat) (cI cJ cZ : ClassId) (a : Nat → Nat) (N : Nat) (x1 : Int32) (lk : LkS) (tr : TrS) (res : Int32) (h : f_Lk_hasReturn N x1 lk tr = some res) :
    Kt l (dC, dI) classes [(cI, .int), (cJ, .long), (cZ, .boolean)] y_Lk_hasReturn (wz y_Lk_hasReturn b_Lk_hasReturn 3 (some .boolean)) { frames := 0, cells := 0, slots := 0, locals := 0 } [.ref (a 17), .int x1] (cLk cI cJ cZ a lk ++ cTr cI cJ cZ a tr) (some (.int res)) (cLk cI cJ cZ a lk ++ cTr cI cJ cZ a tr) := by
  refine Kt_of (cc := b_Lk_hasReturn) (maxL := 3) (ret := (some .boolean)) (by decide) (Nat.le_of_ble_eq_true rfl) ?_
  intro p e s m args below meth c A ls hx hb hr hml hlocks hown hts hNw hK hP hD hA hS hl
  have hl : lv_has ls 3 [(0, .ref (a 17)), (1, .int x1)] := hl
  have hP : va_P (dC, dI) classes (cLk cI cJ cZ a lk ++ cTr cI cJ cZ a tr) s.heap := hP
  have L2 : ∀ (x1_2 : Int32) (n2 : Nat) (s2 : Int32) (H : Heap) (locs : List Loc) (ls : Array Slot), lp (f_Lk_hasReturn_L2 N x1_2 lk tr) n2 s2 = some res → va_P (dC, dI) classes (cLk cI cJ cZ a lk ++ cTr cI cJ cZ a tr) H → va_D A (cLk cI cJ cZ a lk ++ cTr cI cJ cZ a tr) → va_S A s.heap H locs → lv_has ls 3 [(0, .ref (a 17)), (1, .int x1_2), (2, .int s2)] → W p l e { frames := 0, cells := 0, slots := 0, locals := 0 } s m args below meth c H locs 0 0 (KZ below args s (dC, dI) classes (some (.int res)) (cLk cI cJ cZ a lk ++ cTr cI cJ cZ a tr) A) (F0 m 2 ls []) := by
    intro x1_2 n2
    induction n2 with
    | zero => intro _ _ _ _ h; exact (lp_0 h).elim
    | succ n2 ih2 =>
      intro s2 H locs ls h hP hD hS hl
      have h := lp_s h
      refine lv_iload_n hx hb d_Lk_hasReturn_2 rfl (lv_at hl 2 rfl) ?_
      refine lv_aload_n hx hb d_Lk_hasReturn_3 rfl (lv_at hl 0 rfl) ?_
      refine va_get (D := (dC, dI)) (ci := 3) (v := .int (Lk_length lk)) (C := R_Lk) (T := F_Lk) (N := 14) hx hb hts inb_Lk hown hK hP 0 rfl rfl 5 (by decide) (hts _ tw232) (fun _ h9 => h9) rfl d_Lk_hasReturn_4 ?_
      refine lv_icmp_ge (tgt := 54) hx hb d_Lk_hasReturn_7 (by decide) (fun hc => ?_) (fun hc => ?_)
      · have h := o_t hc h
        refine lv_iconst (v := 0) hx hb d_Lk_hasReturn_54 (by decide) ?_
        cases h
        exact kr_z hx hb hr (by decide) hlocks hP hD hS d_Lk_hasReturn_55
      · have h := o_f hc h
        refine lv_aload_n hx hb d_Lk_hasReturn_10 rfl (lv_at hl 0 rfl) ?_
        refine va_get (D := (dC, dI)) (ci := 3) (v := .ref (a 4)) (C := R_Lk) (T := F_Lk) (N := 14) hx hb hts inb_Lk hown hK hP 0 rfl rfl 0 (by decide) (hts _ tw224) (fun _ h9 => h9) rfl d_Lk_hasReturn_11 ?_
        refine va_get (D := (dC, dI)) (ci := 1) (v := .ref (a 5)) (C := R_Tr) (T := F_Tr) (N := 14) hx hb hts inb_Tr hown hK hP 7 rfl rfl 4 (by decide) (hts _ tw64) (fun _ h9 => h9) rfl d_Lk_hasReturn_14 ?_
        refine lv_aload_n hx hb d_Lk_hasReturn_17 rfl (lv_at hl 0 rfl) ?_
        refine va_get (D := (dC, dI)) (ci := 3) (v := .ref (a 18)) (C := R_Lk) (T := F_Lk) (N := 14) hx hb hts inb_Lk hown hK hP 0 rfl rfl 6 (by decide) (hts _ tw233) (fun _ h9 => h9) rfl d_Lk_hasReturn_18 ?_
        refine lv_iload_n hx hb d_Lk_hasReturn_21 rfl (lv_at hl 2 rfl) ?_
        obtain ⟨hin, h⟩ := o_in h
        refine va_iald hx hb hK hP 1 0 rfl rfl hin d_Lk_hasReturn_22 ?_
        obtain ⟨hin, h⟩ := o_in h
        refine va_iald hx hb hK hP 8 0 rfl rfl hin d_Lk_hasReturn_23 ?_
        refine lv_iconst (v := 3) hx hb d_Lk_hasReturn_24 (by decide) ?_
        refine lv_icmp_ne (tgt := 48) hx hb d_Lk_hasReturn_25 (by decide) (fun hc => ?_) (fun hc => ?_)
        · have h := o_f hc h
          refine lv_iinc (v := (s2 + 1)) (lv' := [(2, .int (s2 + 1)), (0, .ref (a 17)), (1, .int x1_2)]) hx hb d_Lk_hasReturn_48 hl (k := 2) rfl rfl (by decide) rfl (fun ls hl => ?_)
          refine lv_goto (tgt := 2) hx hb d_Lk_hasReturn_51 (by decide) ?_
          exact ih2 (s2 + 1) _ _ _ h hP hD hS (lv_sub hl [1, 2, 0] rfl)
        · have h := o_t hc h
          refine lv_aload_n hx hb d_Lk_hasReturn_28 rfl (lv_at hl 0 rfl) ?_
          refine va_get (D := (dC, dI)) (ci := 3) (v := .ref (a 4)) (C := R_Lk) (T := F_Lk) (N := 14) hx hb hts inb_Lk hown hK hP 0 rfl rfl 0 (by decide) (hts _ tw224) (fun _ h9 => h9) rfl d_Lk_hasReturn_29 ?_
          refine va_get (D := (dC, dI)) (ci := 1) (v := .ref (a 6)) (C := R_Tr) (T := F_Tr) (N := 14) hx hb hts inb_Tr hown hK hP 7 rfl rfl 5 (by decide) (hts _ tw69) (fun _ h9 => h9) rfl d_Lk_hasReturn_32 ?_
          refine lv_aload_n hx hb d_Lk_hasReturn_35 rfl (lv_at hl 0 rfl) ?_
          refine va_get (D := (dC, dI)) (ci := 3) (v := .ref (a 18)) (C := R_Lk) (T := F_Lk) (N := 14) hx hb hts inb_Lk hown hK hP 0 rfl rfl 6 (by decide) (hts _ tw233) (fun _ h9 => h9) rfl d_Lk_hasReturn_36 ?_
          refine lv_iload_n hx hb d_Lk_hasReturn_39 rfl (lv_at hl 2 rfl) ?_
          obtain ⟨hin, h⟩ := o_in h
          refine va_iald hx hb hK hP 1 0 rfl rfl hin d_Lk_hasReturn_40 ?_
          obtain ⟨hin, h⟩ := o_in h
          refine va_iald hx hb hK hP 9 0 rfl rfl hin d_Lk_hasReturn_41 ?_
          refine lv_iload_n hx hb d_Lk_hasReturn_42 rfl (lv_at hl 1 rfl) ?_
          refine lv_icmp_ne (tgt := 48) hx hb d_Lk_hasReturn_43 (by decide) (fun hc => ?_) (fun hc => ?_)
          · have h := o_f hc h
            refine lv_iinc (v := (s2 + 1)) (lv' := [(2, .int (s2 + 1)), (0, .ref (a 17)), (1, .int x1_2)]) hx hb d_Lk_hasReturn_48 hl (k := 2) rfl rfl (by decide) rfl (fun ls hl => ?_)
            refine lv_goto (tgt := 2) hx hb d_Lk_hasReturn_51 (by decide) ?_
            exact ih2 (s2 + 1) _ _ _ h hP hD hS (lv_sub hl [1, 2, 0] rfl)
          · have h := o_t hc h
            refine lv_iconst (v := 1) hx hb d_Lk_hasReturn_46 (by decide) ?_
            cases h
            exact kr_z hx hb hr (by decide) hlocks hP hD hS d_Lk_hasReturn_47
  refine lv_iconst (v := 0) hx hb d_Lk_hasReturn_0 (by decide) ?_
  refine lv_istore_n (lv' := [(2, .int (0 : Int32)), (0, .ref (a 17)), (1, .int x1)]) hx hb d_Lk_hasReturn_1 rfl hl (by decide) rfl (fun ls hl => ?_)
  exact L2 x1 N (0 : Int32) _ _ _ h hP hD hS (lv_sub hl [1, 2, 0] rfl)
