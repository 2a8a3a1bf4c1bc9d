set_option maxHeartbeats 4000000 in
set_option maxRecDepth 100000 in
theorem c_Rf_clear (l : Launch) (dC : Nat → ClassId) (dI : Nat → Nat → Nat) (cI cJ cZ : ClassId) (a : Nat → Nat) (N : Nat) (kn : KnS) (tr : TrS) (rw : RwS) (lk : LkS) (f0 : FlS) (f1 : FlS) (res : Int32 × KnS × TrS × RwS × LkS × FlS × FlS) (h : f_Rf_clear N kn tr rw lk f0 f1 = some res) :
    Kt l (dC, dI) classes [(cI, .int), (cJ, .long), (cZ, .boolean)] y_Rf_clear (wz y_Rf_clear b_Rf_clear 2 (some .int)) { frames := 3, cells := 0, slots := 0, locals := 65 } [.ref (a 0)] (cO cI cJ cZ a ++ cKn cI cJ cZ a kn ++ cTr cI cJ cZ a tr ++ cRw cI cJ cZ a rw ++ cLk cI cJ cZ a lk ++ cF0 cI cJ cZ a f0 ++ cF1 cI cJ cZ a f1) (some (.int res.1)) (cO cI cJ cZ a ++ cKn cI cJ cZ a res.2.1 ++ cTr cI cJ cZ a res.2.2.1 ++ cRw cI cJ cZ a res.2.2.2.1 ++ cLk cI cJ cZ a res.2.2.2.2.1 ++ cF0 cI cJ cZ a res.2.2.2.2.2.1 ++ cF1 cI cJ cZ a res.2.2.2.2.2.2) := by
  refine Kt_of (cc := b_Rf_clear) (maxL := 2) (ret := (some .int)) (by decide) (Nat.le_of_ble_eq_true rfl) ?_
  intro p e s m args below meth c A ls hx hb hr hml hlocks hown hts hNw hK hP hD hA hS hl
  have hl : lv_has ls 2 [(0, .ref (a 0))] := hl
  have hP : va_P (dC, dI) classes (cO cI cJ cZ a ++ cKn cI cJ cZ a kn ++ cTr cI cJ cZ a tr ++ cRw cI cJ cZ a rw ++ cLk cI cJ cZ a lk ++ cF0 cI cJ cZ a f0 ++ cF1 cI cJ cZ a f1) s.heap := hP
  refine lv_aload_n hx hb d_Rf_clear_0 rfl (lv_at hl 0 rfl) ?_
  refine va_get (D := (dC, dI)) (ci := 6) (v := .ref (a 4)) (C := R_Rf) (T := F_Rf) (N := 4) hx hb hts inb_Rf hown hK hP 0 rfl rfl 1 (by decide) (hts _ tw277) (fun _ h9 => h9) rfl d_Rf_clear_1 ?_
  refine va_get (D := (dC, dI)) (ci := 1) (v := .int (Tr_size tr)) (C := R_Tr) (T := F_Tr) (N := 14) hx hb hts inb_Tr hown hK hP 4 rfl rfl 0 (by decide) (hts _ tw59) (fun _ h9 => h9) rfl d_Rf_clear_4 ?_
  refine lv_istore_n (lv' := [(1, .int (Tr_size tr)), (0, .ref (a 0))]) hx hb d_Rf_clear_7 rfl hl (by decide) rfl (fun ls hl => ?_)
  refine lv_aload_n hx hb d_Rf_clear_8 rfl (lv_at hl 1 rfl) ?_
  refine va_get (D := (dC, dI)) (ci := 6) (v := .ref (a 1)) (C := R_Rf) (T := F_Rf) (N := 4) hx hb hts inb_Rf hown hK hP 0 rfl rfl 0 (by decide) (hts _ tw276) (fun _ h9 => h9) rfl d_Rf_clear_9 ?_
  obtain ⟨y12, hy, h⟩ := o_bd h
  refine kdV (nn := 32) (rest := []) (w' := (cO cI cJ cZ a ++ cKn cI cJ cZ a y12 ++ cTr cI cJ cZ a tr ++ cRw cI cJ cZ a rw ++ cLk cI cJ cZ a lk ++ cF0 cI cJ cZ a f0 ++ cF1 cI cJ cZ a f1)) (wr := (cO cI cJ cZ a ++ cTr cI cJ cZ a tr ++ cRw cI cJ cZ a rw ++ cLk cI cJ cZ a lk ++ cF0 cI cJ cZ a f0 ++ cF1 cI cJ cZ a f1)) (st1 := []) ⟨hx, hb, hml, hown, hts⟩ (c_Kn_startAgain l dC dI cI cJ cZ a N kn y12 hy) (cwV 0 hts (gd_V tw293 tw25 tw26 tw2 tw27) rfl rfl rfl hd_Kn_startAgain ⟨Nat.le_of_ble_eq_true rfl, Nat.le_of_ble_eq_true rfl⟩) hNw hK hP hD hS hA (ci := 0) rfl rfl rfl [1, 2, 3] [0, 4, 5, 6, 7, 8, 9, 10, 11, 12, 13, 14, 15, 16, 17, 18, 19, 20, 21, 22, 23, 24, 25, 26, 27, 28, 29, 30, 31] rfl rfl rfl rfl rfl (by decide +kernel) (by decide +kernel) rfl hl.1 rfl (Nat.le_of_ble_eq_true rfl) rfl d_Rf_clear_12 ⟨Nat.zero_le _, Nat.zero_le _⟩ (fun H locs hP hD hS => ?_)
  refine lv_aload_n hx hb d_Rf_clear_15 rfl (lv_at hl 1 rfl) ?_
  refine va_get (D := (dC, dI)) (ci := 6) (v := .ref (a 4)) (C := R_Rf) (T := F_Rf) (N := 4) hx hb hts inb_Rf hown hK hP 0 rfl rfl 1 (by decide) (hts _ tw277) (fun _ h9 => h9) rfl d_Rf_clear_16 ?_
  obtain ⟨y19, hy, h⟩ := o_bd h
  refine kdV (nn := 32) (rest := []) (w' := (cO cI cJ cZ a ++ cKn cI cJ cZ a y12 ++ cTr cI cJ cZ a y19 ++ cRw cI cJ cZ a rw ++ cLk cI cJ cZ a lk ++ cF0 cI cJ cZ a f0 ++ cF1 cI cJ cZ a f1)) (wr := (cO cI cJ cZ a ++ cKn cI cJ cZ a y12 ++ cRw cI cJ cZ a rw ++ cLk cI cJ cZ a lk ++ cF0 cI cJ cZ a f0 ++ cF1 cI cJ cZ a f1)) (st1 := []) ⟨hx, hb, hml, hown, hts⟩ (c_Tr_startAgain l dC dI cI cJ cZ a tr y19 hy) (cwV 0 hts (gd_V tw294 tw295 tw296 tw3 tw297) rfl rfl rfl hd_Tr_startAgain ⟨Nat.le_of_ble_eq_true rfl, Nat.le_of_ble_eq_true rfl⟩) hNw hK hP hD hS hA (ci := 1) rfl rfl rfl [4, 5, 6, 7, 8, 9, 10, 11, 12, 13, 14] [0, 1, 2, 3, 15, 16, 17, 18, 19, 20, 21, 22, 23, 24, 25, 26, 27, 28, 29, 30, 31] rfl rfl rfl rfl rfl (by decide +kernel) (by decide +kernel) rfl hl.1 rfl (Nat.le_of_ble_eq_true rfl) rfl d_Rf_clear_19 ⟨Nat.zero_le _, Nat.zero_le _⟩ (fun H locs hP hD hS => ?_)
  refine lv_aload_n hx hb d_Rf_clear_22 rfl (lv_at hl 1 rfl) ?_
  refine va_get (D := (dC, dI)) (ci := 6) (v := .ref (a 15)) (C := R_Rf) (T := F_Rf) (N := 4) hx hb hts inb_Rf hown hK hP 0 rfl rfl 2 (by decide) (hts _ tw278) (fun _ h9 => h9) rfl d_Rf_clear_23 ?_
  obtain ⟨y26, hy, h⟩ := o_bd h
  refine kdV (nn := 32) (rest := []) (w' := (cO cI cJ cZ a ++ cKn cI cJ cZ a y12 ++ cTr cI cJ cZ a y19 ++ cRw cI cJ cZ a y26 ++ cLk cI cJ cZ a lk ++ cF0 cI cJ cZ a f0 ++ cF1 cI cJ cZ a f1)) (wr := (cO cI cJ cZ a ++ cKn cI cJ cZ a y12 ++ cTr cI cJ cZ a y19 ++ cLk cI cJ cZ a lk ++ cF0 cI cJ cZ a f0 ++ cF1 cI cJ cZ a f1)) (st1 := []) ⟨hx, hb, hml, hown, hts⟩ (c_Rw_close l dC dI cI cJ cZ a rw y26 hy) (cwV 0 hts (gd_V tw298 tw299 tw300 tw4 tw301) rfl rfl rfl hd_Rw_close ⟨Nat.le_of_ble_eq_true rfl, Nat.le_of_ble_eq_true rfl⟩) hNw hK hP hD hS hA (ci := 2) rfl rfl rfl [15, 16] [0, 1, 2, 3, 4, 5, 6, 7, 8, 9, 10, 11, 12, 13, 14, 17, 18, 19, 20, 21, 22, 23, 24, 25, 26, 27, 28, 29, 30, 31] rfl rfl rfl rfl rfl (by decide +kernel) (by decide +kernel) rfl hl.1 rfl (Nat.le_of_ble_eq_true rfl) rfl d_Rf_clear_26 ⟨Nat.zero_le _, Nat.zero_le _⟩ (fun H locs hP hD hS => ?_)
  refine lv_aload_n hx hb d_Rf_clear_29 rfl (lv_at hl 1 rfl) ?_
  refine va_get (D := (dC, dI)) (ci := 6) (v := .ref (a 17)) (C := R_Rf) (T := F_Rf) (N := 4) hx hb hts inb_Rf hown hK hP 0 rfl rfl 3 (by decide) (hts _ tw279) (fun _ h9 => h9) rfl d_Rf_clear_30 ?_
  obtain ⟨y33, hy, h⟩ := o_bd h
  refine kdV (nn := 32) (rest := []) (w' := (cO cI cJ cZ a ++ cKn cI cJ cZ a y12 ++ cTr cI cJ cZ a y19 ++ cRw cI cJ cZ a y26 ++ cLk cI cJ cZ a y33.1 ++ cF0 cI cJ cZ a y33.2.1 ++ cF1 cI cJ cZ a y33.2.2)) (wr := (cO cI cJ cZ a ++ cKn cI cJ cZ a y12 ++ cTr cI cJ cZ a y19 ++ cRw cI cJ cZ a y26)) (st1 := []) ⟨hx, hb, hml, hown, hts⟩ (c_Lk_startAgain l dC dI cI cJ cZ a N lk f0 f1 y33 hy) (cwV 0 hts (gd_V tw302 tw211 tw212 tw5 tw213) rfl rfl rfl hd_Lk_startAgain ⟨Nat.le_of_ble_eq_true rfl, Nat.le_of_ble_eq_true rfl⟩) hNw hK hP hD hS hA (ci := 3) rfl rfl rfl [17, 18, 19, 20, 21, 22, 23, 24, 25, 26, 27, 28, 29, 30, 31] [0, 1, 2, 3, 4, 5, 6, 7, 8, 9, 10, 11, 12, 13, 14, 15, 16] rfl rfl rfl rfl rfl (by decide +kernel) (by decide +kernel) rfl hl.1 rfl (Nat.le_of_ble_eq_true rfl) rfl d_Rf_clear_33 ⟨Nat.zero_le _, Nat.zero_le _⟩ (fun H locs hP hD hS => ?_)
  refine lv_iload_n hx hb d_Rf_clear_36 rfl (lv_at hl 0 rfl) ?_
  cases h
  exact kr_i hx hb hr hlocks hP hD hS d_Rf_clear_37
set_option maxHeartbeats 4000000 in
set_option maxRecDepth 100000 in
theorem c_Rf_exception (l : Launch) (dC : Nat → ClassId) (dI : Nat → Nat → Nat) (cI cJ cZ : ClassId) (a : Nat → Nat) (N : Nat) (x1 : Int32) (kn : KnS) (res : Int32 × KnS) (h : f_Rf_exception N x1 kn = some res) :
    Kt l (dC, dI) classes [(cI, .int), (cJ, .long), (cZ, .boolean)] y_Rf_exception (wz y_Rf_exception b_Rf_exception 2 (some .int)) { frames := 2, cells := 0, slots := 0, locals := 45 } [.ref (a 0), .int x1] (cO cI cJ cZ a ++ cKn cI cJ cZ a kn) (some (.int res.1)) (cO cI cJ cZ a ++ cKn cI cJ cZ a res.2) := by
  refine Kt_of (cc := b_Rf_exception) (maxL := 2) (ret := (some .int)) (by decide) (Nat.le_of_ble_eq_true rfl) ?_
  intro p e s m args below meth c A ls hx hb hr hml hlocks hown hts hNw hK hP hD hA hS hl
  have hl : lv_has ls 2 [(0, .ref (a 0)), (1, .int x1)] := hl
  have hP : va_P (dC, dI) classes (cO cI cJ cZ a ++ cKn cI cJ cZ a kn) s.heap := hP
  refine lv_aload_n hx hb d_Rf_exception_0 rfl (lv_at hl 0 rfl) ?_
  refine va_get (D := (dC, dI)) (ci := 6) (v := .ref (a 1)) (C := R_Rf) (T := F_Rf) (N := 4) hx hb hts inb_Rf hown hK hP 0 rfl rfl 0 (by decide) (hts _ tw276) (fun _ h9 => h9) rfl d_Rf_exception_1 ?_
  refine lv_iload_n hx hb d_Rf_exception_4 rfl (lv_at hl 1 rfl) ?_
  obtain ⟨y5, hy, h⟩ := o_bd h
  refine kdV (nn := 4) (rest := []) (w' := (cO cI cJ cZ a ++ cKn cI cJ cZ a kn)) (wr := (cO cI cJ cZ a)) (st1 := [.int y5]) ⟨hx, hb, hml, hown, hts⟩ (c_Kn_has l dC dI cI cJ cZ a x1 kn y5 hy) (cwV 1 hts (gd_V tw307 tw308 tw309 tw2 tw310) rfl rfl rfl hd_Kn_has ⟨Nat.le_of_ble_eq_true rfl, Nat.le_of_ble_eq_true rfl⟩) hNw hK hP hD hS hA (ci := 0) rfl rfl rfl [1, 2, 3] [0] rfl rfl rfl rfl rfl (by decide +kernel) (by decide +kernel) rfl hl.1 rfl (Nat.le_of_ble_eq_true rfl) rfl d_Rf_exception_5 ⟨Nat.zero_le _, Nat.zero_le _⟩ (fun H locs hP hD hS => ?_)
  refine lv_if_ne (tgt := 14) hx hb d_Rf_exception_8 (by decide) (fun hc => ?_) (fun hc => ?_)
  · have h := o_f hc h
    refine lv_aload_n hx hb d_Rf_exception_14 rfl (lv_at hl 0 rfl) ?_
    refine va_get (D := (dC, dI)) (ci := 6) (v := .ref (a 1)) (C := R_Rf) (T := F_Rf) (N := 4) hx hb hts inb_Rf hown hK hP 0 rfl rfl 0 (by decide) (hts _ tw276) (fun _ h9 => h9) rfl d_Rf_exception_15 ?_
    refine va_get (D := (dC, dI)) (ci := 0) (v := .int (Kn_count kn)) (C := R_Kn) (T := F_Kn) (N := 3) hx hb hts inb_Kn hown hK hP 1 rfl rfl 0 (by decide) (hts _ tw36) (fun _ h9 => h9) rfl d_Rf_exception_18 ?_
    refine lv_bipush (v := 12) hx hb d_Rf_exception_21 (by decide) ?_
    refine lv_icmp_lt (tgt := 31) hx hb d_Rf_exception_23 (by decide) (fun hc => ?_) (fun hc => ?_)
    · have h := o_t hc h
      refine lv_aload_n hx hb d_Rf_exception_31 rfl (lv_at hl 0 rfl) ?_
      refine va_get (D := (dC, dI)) (ci := 6) (v := .ref (a 1)) (C := R_Rf) (T := F_Rf) (N := 4) hx hb hts inb_Rf hown hK hP 0 rfl rfl 0 (by decide) (hts _ tw276) (fun _ h9 => h9) rfl d_Rf_exception_32 ?_
      refine lv_iload_n hx hb d_Rf_exception_35 rfl (lv_at hl 1 rfl) ?_
      obtain ⟨y36, hy, h⟩ := o_bd h
      refine kdV (nn := 4) (rest := []) (w' := (cO cI cJ cZ a ++ cKn cI cJ cZ a y36.2)) (wr := (cO cI cJ cZ a)) (st1 := [.int y36.1]) ⟨hx, hb, hml, hown, hts⟩ (c_Kn_addBelow l dC dI cI cJ cZ a N x1 kn y36 hy) (cwV 1 hts (gd_V tw311 tw29 tw30 tw2 tw31) rfl rfl rfl hd_Kn_addBelow ⟨Nat.le_of_ble_eq_true rfl, Nat.le_of_ble_eq_true rfl⟩) hNw hK hP hD hS hA (ci := 0) rfl rfl rfl [1, 2, 3] [0] rfl rfl rfl rfl rfl (by decide +kernel) (by decide +kernel) rfl hl.1 rfl (Nat.le_of_ble_eq_true rfl) rfl d_Rf_exception_36 ⟨Nat.zero_le _, Nat.zero_le _⟩ (fun H locs hP hD hS => ?_)
      cases h
      exact kr_i hx hb hr hlocks hP hD hS d_Rf_exception_39
    · have h := o_f hc h
      refine lv_bipush (v := -3) hx hb d_Rf_exception_26 (by decide) ?_
      refine lv_goto (tgt := 39) hx hb d_Rf_exception_28 (by decide) ?_
      cases h
      exact kr_i hx hb hr hlocks hP hD hS d_Rf_exception_39
  · have h := o_t hc h
    refine lv_bipush (v := -2) hx hb d_Rf_exception_11 (by decide) ?_
    cases h
    exact kr_i hx hb hr hlocks hP hD hS d_Rf_exception_13
set_option maxHeartbeats 4000000 in
set_option maxRecDepth 100000 in
theorem c_Rf_fitsNode (l : Launch) (dC : Nat → ClassId) (dI : Nat → Nat → Nat) (cI cJ cZ : ClassId) (a : Nat → Nat) (x1 : Int32) (x2 : Int32) (x3 : Int32) (x4 : Int32) (kn : KnS) (tr : TrS) (res : Int32) (h : f_Rf_fitsNode x1 x2 x3 x4 kn tr = some res) :
    Kt l (dC, dI) classes [(cI, .int), (cJ, .long), (cZ, .boolean)] y_Rf_fitsNode (wz y_Rf_fitsNode b_Rf_fitsNode 5 (some .boolean)) { frames := 3, cells := 0, slots := 0, locals := 64 } [.ref (a 0), .int x1, .int x2, .int x3, .int x4] (cO cI cJ cZ a ++ cKn cI cJ cZ a kn ++ cTr cI cJ cZ a tr) (some (.int res)) (cO cI cJ cZ a ++ cKn cI cJ cZ a kn ++ cTr cI cJ cZ a tr) := by
  refine Kt_of (cc := b_Rf_fitsNode) (maxL := 5) (ret := (some .boolean)) (by decide) (Nat.le_of_ble_eq_true rfl) ?_
  intro p e s m args below meth c A ls hx hb hr hml hlocks hown hts hNw hK hP hD hA hS hl
  have hl : lv_has ls 5 [(0, .ref (a 0)), (1, .int x1), (2, .int x2), (3, .int x3), (4, .int x4)] := hl
  have hP : va_P (dC, dI) classes (cO cI cJ cZ a ++ cKn cI cJ cZ a kn ++ cTr cI cJ cZ a tr) s.heap := hP
  have B197 : ∀ (x2_197 : Int32) (x3_197 : Int32) (H : Heap) (locs : List Loc) (ls : Array Slot), f_Rf_fitsNode_b197 x2_197 x3_197 kn tr = some res → va_P (dC, dI) classes (cO cI cJ cZ a ++ cKn cI cJ cZ a kn ++ cTr cI cJ cZ a tr) H → va_D A (cO cI cJ cZ a ++ cKn cI cJ cZ a kn ++ cTr cI cJ cZ a tr) → va_S A s.heap H locs → lv_has ls 5 [(0, .ref (a 0)), (2, .int x2_197), (3, .int x3_197)] → W p l e { frames := 3, cells := 0, slots := 0, locals := 64 } s m args below meth c H locs 0 0 (KZ below args s (dC, dI) classes (some (.int res)) (cO cI cJ cZ a ++ cKn cI cJ cZ a kn ++ cTr cI cJ cZ a tr) A) (F0 m 197 ls []) := by
    intro x2_197 x3_197 H locs ls h hP hD hS hl
    refine lv_iload_n hx hb d_Rf_fitsNode_197 rfl (lv_at hl 1 rfl) ?_
    refine lv_iconst (v := 2) hx hb d_Rf_fitsNode_198 (by decide) ?_
    obtain ⟨y199, hy, h⟩ := o_bd h
    refine kdS (nn := 15) (rest := []) (w' := (cO cI cJ cZ a ++ cKn cI cJ cZ a kn ++ cTr cI cJ cZ a tr)) (wr := (cO cI cJ cZ a ++ cKn cI cJ cZ a kn ++ cTr cI cJ cZ a tr)) (st1 := [.int y199]) ⟨hx, hb, hml, hown, hts⟩ (c_Rf_isTest l dC dI cI cJ cZ a x2_197 (2 : Int32) y199 hy) (va_cwS 2 hts (gd_S tw320 tw321 tw1 tw322) rfl rfl rfl hd_Rf_isTest.2 ⟨Nat.le_of_ble_eq_true rfl, Nat.le_of_ble_eq_true rfl⟩) hNw hK hP hD hS hA [] [0, 1, 2, 3, 4, 5, 6, 7, 8, 9, 10, 11, 12, 13, 14] rfl rfl rfl rfl rfl (by decide +kernel) (by decide +kernel) rfl hl.1 rfl (Nat.le_of_ble_eq_true rfl) rfl d_Rf_fitsNode_199 ⟨Nat.zero_le _, Nat.zero_le _⟩ (fun H locs hP hD hS => ?_)
    refine lv_if_eq (tgt := 220) hx hb d_Rf_fitsNode_202 (by decide) (fun hc => ?_) (fun hc => ?_)
    · have h := o_t hc h
      refine lv_iconst (v := 0) hx hb d_Rf_fitsNode_220 (by decide) ?_
      cases h
      exact kr_z hx hb hr (by decide) hlocks hP hD hS d_Rf_fitsNode_221
    · have h := o_f hc h
      refine lv_aload_n hx hb d_Rf_fitsNode_205 rfl (lv_at hl 0 rfl) ?_
      refine va_get (D := (dC, dI)) (ci := 6) (v := .ref (a 4)) (C := R_Rf) (T := F_Rf) (N := 4) hx hb hts inb_Rf hown hK hP 0 rfl rfl 1 (by decide) (hts _ tw277) (fun _ h9 => h9) rfl d_Rf_fitsNode_206 ?_
      refine lv_iload_n hx hb d_Rf_fitsNode_209 rfl (lv_at hl 2 rfl) ?_
      obtain ⟨y210, hy, h⟩ := o_bd h
      refine kdV (nn := 15) (rest := []) (w' := (cO cI cJ cZ a ++ cKn cI cJ cZ a kn ++ cTr cI cJ cZ a tr)) (wr := (cO cI cJ cZ a ++ cKn cI cJ cZ a kn)) (st1 := [.int y210]) ⟨hx, hb, hml, hown, hts⟩ (c_Tr_isFree l dC dI cI cJ cZ a x3_197 tr y210 hy) (cwV 1 hts (gd_V tw323 tw324 tw325 tw3 tw326) rfl rfl rfl hd_Tr_isFree ⟨Nat.le_of_ble_eq_true rfl, Nat.le_of_ble_eq_true rfl⟩) hNw hK hP hD hS hA (ci := 1) rfl rfl rfl [4, 5, 6, 7, 8, 9, 10, 11, 12, 13, 14] [0, 1, 2, 3] rfl rfl rfl rfl rfl (by decide +kernel) (by decide +kernel) rfl hl.1 rfl (Nat.le_of_ble_eq_true rfl) rfl d_Rf_fitsNode_210 ⟨Nat.zero_le _, Nat.zero_le _⟩ (fun H locs hP hD hS => ?_)
      refine lv_if_eq (tgt := 220) hx hb d_Rf_fitsNode_213 (by decide) (fun hc => ?_) (fun hc => ?_)
      · have h := o_t hc h
        refine lv_iconst (v := 0) hx hb d_Rf_fitsNode_220 (by decide) ?_
        cases h
        exact kr_z hx hb hr (by decide) hlocks hP hD hS d_Rf_fitsNode_221
      · have h := o_f hc h
        refine lv_iconst (v := 1) hx hb d_Rf_fitsNode_216 (by decide) ?_
        refine lv_goto (tgt := 221) hx hb d_Rf_fitsNode_217 (by decide) ?_
        cases h
        exact kr_z hx hb hr (by decide) hlocks hP hD hS d_Rf_fitsNode_221
  refine lv_iload_n hx hb d_Rf_fitsNode_0 rfl (lv_at hl 1 rfl) ?_
  refine lv_iconst (v := 4) hx hb d_Rf_fitsNode_1 (by decide) ?_
  refine lv_icmp_ne (tgt := 54) hx hb d_Rf_fitsNode_2 (by decide) (fun hc => ?_) (fun hc => ?_)
  · have h := o_f hc h
    refine lv_iload hx hb d_Rf_fitsNode_54 (lv_at hl 4 rfl) ?_
    refine lv_iconst (v := -1) hx hb d_Rf_fitsNode_56 (by decide) ?_
    refine lv_icmp_eq (tgt := 62) hx hb d_Rf_fitsNode_57 (by decide) (fun hc => ?_) (fun hc => ?_)
    · have h := o_t hc h
      refine lv_iload_n hx hb d_Rf_fitsNode_62 rfl (lv_at hl 1 rfl) ?_
      refine sw_by (x := x1) (k := 0) (fun hc => ?_) (fun hn0 => ?_)
      · have h := o_t hc h
        refine sw_in (x := x1) (k := 0) hc (lv_tableIn (tgt := 116) hx hb d_Rf_fitsNode_63 (by decide) (by decide) (by rfl) (by decide) ?_)
        refine lv_iload_n hx hb d_Rf_fitsNode_116 rfl (lv_at hl 2 rfl) ?_
        refine lv_if_ne (tgt := 129) hx hb d_Rf_fitsNode_117 (by decide) (fun hc => ?_) (fun hc => ?_)
        · have h := o_f hc h
          refine lv_iconst (v := 0) hx hb d_Rf_fitsNode_129 (by decide) ?_
          cases h
          exact kr_z hx hb hr (by decide) hlocks hP hD hS d_Rf_fitsNode_130
        · have h := o_t hc h
          refine lv_iload_n hx hb d_Rf_fitsNode_120 rfl (lv_at hl 3 rfl) ?_
          refine lv_iconst (v := -1) hx hb d_Rf_fitsNode_121 (by decide) ?_
          refine lv_icmp_ne (tgt := 129) hx hb d_Rf_fitsNode_122 (by decide) (fun hc => ?_) (fun hc => ?_)
          · have h := o_f hc h
            refine lv_iconst (v := 0) hx hb d_Rf_fitsNode_129 (by decide) ?_
            cases h
            exact kr_z hx hb hr (by decide) hlocks hP hD hS d_Rf_fitsNode_130
          · have h := o_t hc h
            refine lv_iconst (v := 1) hx hb d_Rf_fitsNode_125 (by decide) ?_
            refine lv_goto (tgt := 130) hx hb d_Rf_fitsNode_126 (by decide) ?_
            cases h
            exact kr_z hx hb hr (by decide) hlocks hP hD hS d_Rf_fitsNode_130
      · have h := o_f hn0 h
        refine sw_by (x := x1) (k := 1) (fun hc => ?_) (fun hn1 => ?_)
        · have h := o_t hc h
          refine sw_in (x := x1) (k := 1) hc (lv_tableIn (tgt := 131) hx hb d_Rf_fitsNode_63 (by decide) (by decide) (by rfl) (by decide) ?_)
          refine lv_iload_n hx hb d_Rf_fitsNode_131 rfl (lv_at hl 2 rfl) ?_
          refine lv_if_ne (tgt := 155) hx hb d_Rf_fitsNode_132 (by decide) (fun hc => ?_) (fun hc => ?_)
          · have h := o_f hc h
            refine lv_iconst (v := 0) hx hb d_Rf_fitsNode_155 (by decide) ?_
            cases h
            exact kr_z hx hb hr (by decide) hlocks hP hD hS d_Rf_fitsNode_156
          · have h := o_t hc h
            refine lv_iload_n hx hb d_Rf_fitsNode_135 rfl (lv_at hl 3 rfl) ?_
            refine lv_iconst (v := -1) hx hb d_Rf_fitsNode_136 (by decide) ?_
            refine lv_icmp_eq (tgt := 151) hx hb d_Rf_fitsNode_137 (by decide) (fun hc => ?_) (fun hc => ?_)
            · have h := o_t hc h
              refine lv_iconst (v := 1) hx hb d_Rf_fitsNode_151 (by decide) ?_
              refine lv_goto (tgt := 156) hx hb d_Rf_fitsNode_152 (by decide) ?_
              cases h
              exact kr_z hx hb hr (by decide) hlocks hP hD hS d_Rf_fitsNode_156
            · have h := o_f hc h
              refine lv_aload_n hx hb d_Rf_fitsNode_140 rfl (lv_at hl 0 rfl) ?_
              refine va_get (D := (dC, dI)) (ci := 6) (v := .ref (a 1)) (C := R_Rf) (T := F_Rf) (N := 4) hx hb hts inb_Rf hown hK hP 0 rfl rfl 0 (by decide) (hts _ tw276) (fun _ h9 => h9) rfl d_Rf_fitsNode_141 ?_
              refine lv_iload_n hx hb d_Rf_fitsNode_144 rfl (lv_at hl 3 rfl) ?_
              obtain ⟨y145, hy, h⟩ := o_bd h
              refine kdV (nn := 15) (rest := []) (w' := (cO cI cJ cZ a ++ cKn cI cJ cZ a kn ++ cTr cI cJ cZ a tr)) (wr := (cO cI cJ cZ a ++ cTr cI cJ cZ a tr)) (st1 := [.int y145]) ⟨hx, hb, hml, hown, hts⟩ (c_Kn_has l dC dI cI cJ cZ a x3 kn y145 hy) (cwV 1 hts (gd_V tw307 tw308 tw309 tw2 tw310) rfl rfl rfl hd_Kn_has ⟨Nat.le_of_ble_eq_true rfl, Nat.le_of_ble_eq_true rfl⟩) hNw hK hP hD hS hA (ci := 0) rfl rfl rfl [1, 2, 3] [0, 4, 5, 6, 7, 8, 9, 10, 11, 12, 13, 14] rfl rfl rfl rfl rfl (by decide +kernel) (by decide +kernel) rfl hl.1 rfl (Nat.le_of_ble_eq_true rfl) rfl d_Rf_fitsNode_145 ⟨Nat.zero_le _, Nat.zero_le _⟩ (fun H locs hP hD hS => ?_)
              refine lv_if_eq (tgt := 155) hx hb d_Rf_fitsNode_148 (by decide) (fun hc => ?_) (fun hc => ?_)
              · have h := o_t hc h
                refine lv_iconst (v := 0) hx hb d_Rf_fitsNode_155 (by decide) ?_
                cases h
                exact kr_z hx hb hr (by decide) hlocks hP hD hS d_Rf_fitsNode_156
              · have h := o_f hc h
                refine lv_iconst (v := 1) hx hb d_Rf_fitsNode_151 (by decide) ?_
                refine lv_goto (tgt := 156) hx hb d_Rf_fitsNode_152 (by decide) ?_
                cases h
                exact kr_z hx hb hr (by decide) hlocks hP hD hS d_Rf_fitsNode_156
        · have h := o_f hn1 h
          refine sw_by (x := x1) (k := 2) (fun hc => ?_) (fun hn2 => ?_)
          · have h := o_t hc h
            refine sw_in (x := x1) (k := 2) hc (lv_tableIn (tgt := 157) hx hb d_Rf_fitsNode_63 (by decide) (by decide) (by rfl) (by decide) ?_)
            refine lv_iload_n hx hb d_Rf_fitsNode_157 rfl (lv_at hl 2 rfl) ?_
            refine lv_if_ne (tgt := 176) hx hb d_Rf_fitsNode_158 (by decide) (fun hc => ?_) (fun hc => ?_)
            · have h := o_f hc h
              refine lv_iconst (v := 0) hx hb d_Rf_fitsNode_176 (by decide) ?_
              cases h
              exact kr_z hx hb hr (by decide) hlocks hP hD hS d_Rf_fitsNode_177
            · have h := o_t hc h
              refine lv_aload_n hx hb d_Rf_fitsNode_161 rfl (lv_at hl 0 rfl) ?_
              refine va_get (D := (dC, dI)) (ci := 6) (v := .ref (a 1)) (C := R_Rf) (T := F_Rf) (N := 4) hx hb hts inb_Rf hown hK hP 0 rfl rfl 0 (by decide) (hts _ tw276) (fun _ h9 => h9) rfl d_Rf_fitsNode_162 ?_
              refine lv_iload_n hx hb d_Rf_fitsNode_165 rfl (lv_at hl 3 rfl) ?_
              obtain ⟨y166, hy, h⟩ := o_bd h
              refine kdV (nn := 15) (rest := []) (w' := (cO cI cJ cZ a ++ cKn cI cJ cZ a kn ++ cTr cI cJ cZ a tr)) (wr := (cO cI cJ cZ a ++ cTr cI cJ cZ a tr)) (st1 := [.int y166]) ⟨hx, hb, hml, hown, hts⟩ (c_Kn_has l dC dI cI cJ cZ a x3 kn y166 hy) (cwV 1 hts (gd_V tw307 tw308 tw309 tw2 tw310) rfl rfl rfl hd_Kn_has ⟨Nat.le_of_ble_eq_true rfl, Nat.le_of_ble_eq_true rfl⟩) hNw hK hP hD hS hA (ci := 0) rfl rfl rfl [1, 2, 3] [0, 4, 5, 6, 7, 8, 9, 10, 11, 12, 13, 14] rfl rfl rfl rfl rfl (by decide +kernel) (by decide +kernel) rfl hl.1 rfl (Nat.le_of_ble_eq_true rfl) rfl d_Rf_fitsNode_166 ⟨Nat.zero_le _, Nat.zero_le _⟩ (fun H locs hP hD hS => ?_)
              refine lv_if_eq (tgt := 176) hx hb d_Rf_fitsNode_169 (by decide) (fun hc => ?_) (fun hc => ?_)
              · have h := o_t hc h
                refine lv_iconst (v := 0) hx hb d_Rf_fitsNode_176 (by decide) ?_
                cases h
                exact kr_z hx hb hr (by decide) hlocks hP hD hS d_Rf_fitsNode_177
              · have h := o_f hc h
                refine lv_iconst (v := 1) hx hb d_Rf_fitsNode_172 (by decide) ?_
                refine lv_goto (tgt := 177) hx hb d_Rf_fitsNode_173 (by decide) ?_
                cases h
                exact kr_z hx hb hr (by decide) hlocks hP hD hS d_Rf_fitsNode_177
          · have h := o_f hn2 h
            refine sw_by (x := x1) (k := 3) (fun hc => ?_) (fun hn3 => ?_)
            · have h := o_t hc h
              refine sw_in (x := x1) (k := 3) hc (lv_tableIn (tgt := 178) hx hb d_Rf_fitsNode_63 (by decide) (by decide) (by rfl) (by decide) ?_)
              refine lv_iload_n hx hb d_Rf_fitsNode_178 rfl (lv_at hl 2 rfl) ?_
              refine lv_if_ne (tgt := 195) hx hb d_Rf_fitsNode_179 (by decide) (fun hc => ?_) (fun hc => ?_)
              · have h := o_f hc h
                refine lv_iconst (v := 0) hx hb d_Rf_fitsNode_195 (by decide) ?_
                cases h
                exact kr_z hx hb hr (by decide) hlocks hP hD hS d_Rf_fitsNode_196
              · have h := o_t hc h
                refine lv_iload_n hx hb d_Rf_fitsNode_182 rfl (lv_at hl 3 rfl) ?_
                refine lv_if_eq (tgt := 191) hx hb d_Rf_fitsNode_183 (by decide) (fun hc => ?_) (fun hc => ?_)
                · have h := o_t hc h
                  refine lv_iconst (v := 1) hx hb d_Rf_fitsNode_191 (by decide) ?_
                  refine lv_goto (tgt := 196) hx hb d_Rf_fitsNode_192 (by decide) ?_
                  cases h
                  exact kr_z hx hb hr (by decide) hlocks hP hD hS d_Rf_fitsNode_196
                · have h := o_f hc h
                  refine lv_iload_n hx hb d_Rf_fitsNode_186 rfl (lv_at hl 3 rfl) ?_
                  refine lv_iconst (v := 1) hx hb d_Rf_fitsNode_187 (by decide) ?_
                  refine lv_icmp_ne (tgt := 195) hx hb d_Rf_fitsNode_188 (by decide) (fun hc => ?_) (fun hc => ?_)
                  · have h := o_f hc h
                    refine lv_iconst (v := 0) hx hb d_Rf_fitsNode_195 (by decide) ?_
                    cases h
                    exact kr_z hx hb hr (by decide) hlocks hP hD hS d_Rf_fitsNode_196
                  · have h := o_t hc h
                    refine lv_iconst (v := 1) hx hb d_Rf_fitsNode_191 (by decide) ?_
                    refine lv_goto (tgt := 196) hx hb d_Rf_fitsNode_192 (by decide) ?_
                    cases h
                    exact kr_z hx hb hr (by decide) hlocks hP hD hS d_Rf_fitsNode_196
            · have h := o_f hn3 h
              refine sw_by (x := x1) (k := 4) (fun hc => ?_) (fun hn4 => ?_)
              · have h := o_t hc h
                refine sw_in (x := x1) (k := 4) hc (lv_tableIn (tgt := 289) hx hb d_Rf_fitsNode_63 (by decide) (by decide) (by rfl) (by decide) ?_)
                refine lv_iconst (v := 0) hx hb d_Rf_fitsNode_289 (by decide) ?_
                cases h
                exact kr_z hx hb hr (by decide) hlocks hP hD hS d_Rf_fitsNode_290
              · have h := o_f hn4 h
                refine sw_by (x := x1) (k := 5) (fun hc => ?_) (fun hn5 => ?_)
                · have h := o_t hc h
                  refine sw_in (x := x1) (k := 5) hc (lv_tableIn (tgt := 197) hx hb d_Rf_fitsNode_63 (by decide) (by decide) (by rfl) (by decide) ?_)
                  exact B197 x2 x3 _ _ _ h hP hD hS (lv_sub hl [0, 2, 3] rfl)
                · have h := o_f hn5 h
                  refine sw_by (x := x1) (k := 6) (fun hc => ?_) (fun hn6 => ?_)
                  · have h := o_t hc h
                    refine sw_in (x := x1) (k := 6) hc (lv_tableIn (tgt := 197) hx hb d_Rf_fitsNode_63 (by decide) (by decide) (by rfl) (by decide) ?_)
                    exact B197 x2 x3 _ _ _ h hP hD hS (lv_sub hl [0, 2, 3] rfl)
                  · have h := o_f hn6 h
                    refine sw_by (x := x1) (k := 7) (fun hc => ?_) (fun hn7 => ?_)
                    · have h := o_t hc h
                      refine sw_in (x := x1) (k := 7) hc (lv_tableIn (tgt := 222) hx hb d_Rf_fitsNode_63 (by decide) (by decide) (by rfl) (by decide) ?_)
                      refine lv_iload_n hx hb d_Rf_fitsNode_222 rfl (lv_at hl 2 rfl) ?_
                      refine lv_iconst (v := 3) hx hb d_Rf_fitsNode_223 (by decide) ?_
                      obtain ⟨y224, hy, h⟩ := o_bd h
                      refine kdS (nn := 15) (rest := []) (w' := (cO cI cJ cZ a ++ cKn cI cJ cZ a kn ++ cTr cI cJ cZ a tr)) (wr := (cO cI cJ cZ a ++ cKn cI cJ cZ a kn ++ cTr cI cJ cZ a tr)) (st1 := [.int y224]) ⟨hx, hb, hml, hown, hts⟩ (c_Rf_isTest l dC dI cI cJ cZ a x2 (3 : Int32) y224 hy) (va_cwS 2 hts (gd_S tw320 tw321 tw1 tw322) rfl rfl rfl hd_Rf_isTest.2 ⟨Nat.le_of_ble_eq_true rfl, Nat.le_of_ble_eq_true rfl⟩) hNw hK hP hD hS hA [] [0, 1, 2, 3, 4, 5, 6, 7, 8, 9, 10, 11, 12, 13, 14] rfl rfl rfl rfl rfl (by decide +kernel) (by decide +kernel) rfl hl.1 rfl (Nat.le_of_ble_eq_true rfl) rfl d_Rf_fitsNode_224 ⟨Nat.zero_le _, Nat.zero_le _⟩ (fun H locs hP hD hS => ?_)
                      refine lv_if_eq (tgt := 245) hx hb d_Rf_fitsNode_227 (by decide) (fun hc => ?_) (fun hc => ?_)
                      · have h := o_t hc h
                        refine lv_iconst (v := 0) hx hb d_Rf_fitsNode_245 (by decide) ?_
                        cases h
                        exact kr_z hx hb hr (by decide) hlocks hP hD hS d_Rf_fitsNode_246
                      · have h := o_f hc h
                        refine lv_aload_n hx hb d_Rf_fitsNode_230 rfl (lv_at hl 0 rfl) ?_
                        refine va_get (D := (dC, dI)) (ci := 6) (v := .ref (a 4)) (C := R_Rf) (T := F_Rf) (N := 4) hx hb hts inb_Rf hown hK hP 0 rfl rfl 1 (by decide) (hts _ tw277) (fun _ h9 => h9) rfl d_Rf_fitsNode_231 ?_
                        refine lv_iload_n hx hb d_Rf_fitsNode_234 rfl (lv_at hl 3 rfl) ?_
                        obtain ⟨y235, hy, h⟩ := o_bd h
                        refine kdV (nn := 15) (rest := []) (w' := (cO cI cJ cZ a ++ cKn cI cJ cZ a kn ++ cTr cI cJ cZ a tr)) (wr := (cO cI cJ cZ a ++ cKn cI cJ cZ a kn)) (st1 := [.int y235]) ⟨hx, hb, hml, hown, hts⟩ (c_Tr_isFree l dC dI cI cJ cZ a x3 tr y235 hy) (cwV 1 hts (gd_V tw323 tw324 tw325 tw3 tw326) rfl rfl rfl hd_Tr_isFree ⟨Nat.le_of_ble_eq_true rfl, Nat.le_of_ble_eq_true rfl⟩) hNw hK hP hD hS hA (ci := 1) rfl rfl rfl [4, 5, 6, 7, 8, 9, 10, 11, 12, 13, 14] [0, 1, 2, 3] rfl rfl rfl rfl rfl (by decide +kernel) (by decide +kernel) rfl hl.1 rfl (Nat.le_of_ble_eq_true rfl) rfl d_Rf_fitsNode_235 ⟨Nat.zero_le _, Nat.zero_le _⟩ (fun H locs hP hD hS => ?_)
                        refine lv_if_eq (tgt := 245) hx hb d_Rf_fitsNode_238 (by decide) (fun hc => ?_) (fun hc => ?_)
                        · have h := o_t hc h
                          refine lv_iconst (v := 0) hx hb d_Rf_fitsNode_245 (by decide) ?_
                          cases h
                          exact kr_z hx hb hr (by decide) hlocks hP hD hS d_Rf_fitsNode_246
                        · have h := o_f hc h
                          refine lv_iconst (v := 1) hx hb d_Rf_fitsNode_241 (by decide) ?_
                          refine lv_goto (tgt := 246) hx hb d_Rf_fitsNode_242 (by decide) ?_
                          cases h
                          exact kr_z hx hb hr (by decide) hlocks hP hD hS d_Rf_fitsNode_246
                    · have h := o_f hn7 h
                      refine sw_by (x := x1) (k := 8) (fun hc => ?_) (fun hn8 => ?_)
                      · have h := o_t hc h
                        refine sw_in (x := x1) (k := 8) hc (lv_tableIn (tgt := 247) hx hb d_Rf_fitsNode_63 (by decide) (by decide) (by rfl) (by decide) ?_)
                        refine lv_iload_n hx hb d_Rf_fitsNode_247 rfl (lv_at hl 2 rfl) ?_
                        refine lv_if_ne (tgt := 266) hx hb d_Rf_fitsNode_248 (by decide) (fun hc => ?_) (fun hc => ?_)
                        · have h := o_f hc h
                          refine lv_iconst (v := 0) hx hb d_Rf_fitsNode_266 (by decide) ?_
                          cases h
                          exact kr_z hx hb hr (by decide) hlocks hP hD hS d_Rf_fitsNode_267
                        · have h := o_t hc h
                          refine lv_aload_n hx hb d_Rf_fitsNode_251 rfl (lv_at hl 0 rfl) ?_
                          refine va_get (D := (dC, dI)) (ci := 6) (v := .ref (a 4)) (C := R_Rf) (T := F_Rf) (N := 4) hx hb hts inb_Rf hown hK hP 0 rfl rfl 1 (by decide) (hts _ tw277) (fun _ h9 => h9) rfl d_Rf_fitsNode_252 ?_
                          refine lv_iload_n hx hb d_Rf_fitsNode_255 rfl (lv_at hl 3 rfl) ?_
                          obtain ⟨y256, hy, h⟩ := o_bd h
                          refine kdV (nn := 15) (rest := []) (w' := (cO cI cJ cZ a ++ cKn cI cJ cZ a kn ++ cTr cI cJ cZ a tr)) (wr := (cO cI cJ cZ a ++ cKn cI cJ cZ a kn)) (st1 := [.int y256]) ⟨hx, hb, hml, hown, hts⟩ (c_Tr_isFree l dC dI cI cJ cZ a x3 tr y256 hy) (cwV 1 hts (gd_V tw323 tw324 tw325 tw3 tw326) rfl rfl rfl hd_Tr_isFree ⟨Nat.le_of_ble_eq_true rfl, Nat.le_of_ble_eq_true rfl⟩) hNw hK hP hD hS hA (ci := 1) rfl rfl rfl [4, 5, 6, 7, 8, 9, 10, 11, 12, 13, 14] [0, 1, 2, 3] rfl rfl rfl rfl rfl (by decide +kernel) (by decide +kernel) rfl hl.1 rfl (Nat.le_of_ble_eq_true rfl) rfl d_Rf_fitsNode_256 ⟨Nat.zero_le _, Nat.zero_le _⟩ (fun H locs hP hD hS => ?_)
                          refine lv_if_eq (tgt := 266) hx hb d_Rf_fitsNode_259 (by decide) (fun hc => ?_) (fun hc => ?_)
                          · have h := o_t hc h
                            refine lv_iconst (v := 0) hx hb d_Rf_fitsNode_266 (by decide) ?_
                            cases h
                            exact kr_z hx hb hr (by decide) hlocks hP hD hS d_Rf_fitsNode_267
                          · have h := o_f hc h
                            refine lv_iconst (v := 1) hx hb d_Rf_fitsNode_262 (by decide) ?_
                            refine lv_goto (tgt := 267) hx hb d_Rf_fitsNode_263 (by decide) ?_
                            cases h
                            exact kr_z hx hb hr (by decide) hlocks hP hD hS d_Rf_fitsNode_267
                      · have h := o_f hn8 h
                        refine sw_by (x := x1) (k := 9) (fun hc => ?_) (fun hn9 => ?_)
                        · have h := o_t hc h
                          refine sw_in (x := x1) (k := 9) hc (lv_tableIn (tgt := 268) hx hb d_Rf_fitsNode_63 (by decide) (by decide) (by rfl) (by decide) ?_)
                          refine lv_iload_n hx hb d_Rf_fitsNode_268 rfl (lv_at hl 2 rfl) ?_
                          refine lv_if_ne (tgt := 287) hx hb d_Rf_fitsNode_269 (by decide) (fun hc => ?_) (fun hc => ?_)
                          · have h := o_f hc h
                            refine lv_iconst (v := 0) hx hb d_Rf_fitsNode_287 (by decide) ?_
                            cases h
                            exact kr_z hx hb hr (by decide) hlocks hP hD hS d_Rf_fitsNode_288
                          · have h := o_t hc h
                            refine lv_aload_n hx hb d_Rf_fitsNode_272 rfl (lv_at hl 0 rfl) ?_
                            refine va_get (D := (dC, dI)) (ci := 6) (v := .ref (a 4)) (C := R_Rf) (T := F_Rf) (N := 4) hx hb hts inb_Rf hown hK hP 0 rfl rfl 1 (by decide) (hts _ tw277) (fun _ h9 => h9) rfl d_Rf_fitsNode_273 ?_
                            refine lv_iload_n hx hb d_Rf_fitsNode_276 rfl (lv_at hl 3 rfl) ?_
                            obtain ⟨y277, hy, h⟩ := o_bd h
                            refine kdV (nn := 15) (rest := []) (w' := (cO cI cJ cZ a ++ cKn cI cJ cZ a kn ++ cTr cI cJ cZ a tr)) (wr := (cO cI cJ cZ a ++ cKn cI cJ cZ a kn)) (st1 := [.int y277]) ⟨hx, hb, hml, hown, hts⟩ (c_Tr_isFreeBlock l dC dI cI cJ cZ a x3 tr y277 hy) (cwV 1 hts (gd_V tw332 tw333 tw334 tw3 tw335) rfl rfl rfl hd_Tr_isFreeBlock ⟨Nat.le_of_ble_eq_true rfl, Nat.le_of_ble_eq_true rfl⟩) hNw hK hP hD hS hA (ci := 1) rfl rfl rfl [4, 5, 6, 7, 8, 9, 10, 11, 12, 13, 14] [0, 1, 2, 3] rfl rfl rfl rfl rfl (by decide +kernel) (by decide +kernel) rfl hl.1 rfl (Nat.le_of_ble_eq_true rfl) rfl d_Rf_fitsNode_277 ⟨Nat.zero_le _, Nat.zero_le _⟩ (fun H locs hP hD hS => ?_)
                            refine lv_if_eq (tgt := 287) hx hb d_Rf_fitsNode_280 (by decide) (fun hc => ?_) (fun hc => ?_)
                            · have h := o_t hc h
                              refine lv_iconst (v := 0) hx hb d_Rf_fitsNode_287 (by decide) ?_
                              cases h
                              exact kr_z hx hb hr (by decide) hlocks hP hD hS d_Rf_fitsNode_288
                            · have h := o_f hc h
                              refine lv_iconst (v := 1) hx hb d_Rf_fitsNode_283 (by decide) ?_
                              refine lv_goto (tgt := 288) hx hb d_Rf_fitsNode_284 (by decide) ?_
                              cases h
                              exact kr_z hx hb hr (by decide) hlocks hP hD hS d_Rf_fitsNode_288
                        · have h := o_f hn9 h
                          refine lv_tableOut (tgt := 289) hx hb d_Rf_fitsNode_63 (by have g0 := sw_ne hn0 (show (0 : Int32).toInt = 0 by decide); have g1 := sw_ne hn1 (show (1 : Int32).toInt = 1 by decide); have g2 := sw_ne hn2 (show (2 : Int32).toInt = 2 by decide); have g3 := sw_ne hn3 (show (3 : Int32).toInt = 3 by decide); have g4 := sw_ne hn4 (show (4 : Int32).toInt = 4 by decide); have g5 := sw_ne hn5 (show (5 : Int32).toInt = 5 by decide); have g6 := sw_ne hn6 (show (6 : Int32).toInt = 6 by decide); have g7 := sw_ne hn7 (show (7 : Int32).toInt = 7 by decide); have g8 := sw_ne hn8 (show (8 : Int32).toInt = 8 by decide); have g9 := sw_ne hn9 (show (9 : Int32).toInt = 9 by decide); omega) (by decide) ?_
                          refine lv_iconst (v := 0) hx hb d_Rf_fitsNode_289 (by decide) ?_
                          cases h
                          exact kr_z hx hb hr (by decide) hlocks hP hD hS d_Rf_fitsNode_290
    · have h := o_f hc h
      refine lv_iconst (v := 0) hx hb d_Rf_fitsNode_60 (by decide) ?_
      cases h
      exact kr_z hx hb hr (by decide) hlocks hP hD hS d_Rf_fitsNode_61
  · have h := o_t hc h
    refine lv_iload_n hx hb d_Rf_fitsNode_5 rfl (lv_at hl 2 rfl) ?_
    refine lv_iconst (v := 2) hx hb d_Rf_fitsNode_6 (by decide) ?_
    obtain ⟨y7, hy, h⟩ := o_bd h
    refine kdS (nn := 15) (rest := []) (w' := (cO cI cJ cZ a ++ cKn cI cJ cZ a kn ++ cTr cI cJ cZ a tr)) (wr := (cO cI cJ cZ a ++ cKn cI cJ cZ a kn ++ cTr cI cJ cZ a tr)) (st1 := [.int y7]) ⟨hx, hb, hml, hown, hts⟩ (c_Rf_isTest l dC dI cI cJ cZ a x2 (2 : Int32) y7 hy) (va_cwS 2 hts (gd_S tw320 tw321 tw1 tw322) rfl rfl rfl hd_Rf_isTest.2 ⟨Nat.le_of_ble_eq_true rfl, Nat.le_of_ble_eq_true rfl⟩) hNw hK hP hD hS hA [] [0, 1, 2, 3, 4, 5, 6, 7, 8, 9, 10, 11, 12, 13, 14] rfl rfl rfl rfl rfl (by decide +kernel) (by decide +kernel) rfl hl.1 rfl (Nat.le_of_ble_eq_true rfl) rfl d_Rf_fitsNode_7 ⟨Nat.zero_le _, Nat.zero_le _⟩ (fun H locs hP hD hS => ?_)
    refine lv_if_eq (tgt := 52) hx hb d_Rf_fitsNode_10 (by decide) (fun hc => ?_) (fun hc => ?_)
    · have h := o_t hc h
      refine lv_iconst (v := 0) hx hb d_Rf_fitsNode_52 (by decide) ?_
      cases h
      exact kr_z hx hb hr (by decide) hlocks hP hD hS d_Rf_fitsNode_53
    · have h := o_f hc h
      refine lv_aload_n hx hb d_Rf_fitsNode_13 rfl (lv_at hl 0 rfl) ?_
      refine va_get (D := (dC, dI)) (ci := 6) (v := .ref (a 4)) (C := R_Rf) (T := F_Rf) (N := 4) hx hb hts inb_Rf hown hK hP 0 rfl rfl 1 (by decide) (hts _ tw277) (fun _ h9 => h9) rfl d_Rf_fitsNode_14 ?_
      refine lv_iload_n hx hb d_Rf_fitsNode_17 rfl (lv_at hl 3 rfl) ?_
      obtain ⟨y18, hy, h⟩ := o_bd h
      refine kdV (nn := 15) (rest := []) (w' := (cO cI cJ cZ a ++ cKn cI cJ cZ a kn ++ cTr cI cJ cZ a tr)) (wr := (cO cI cJ cZ a ++ cKn cI cJ cZ a kn)) (st1 := [.int y18]) ⟨hx, hb, hml, hown, hts⟩ (c_Tr_isFree l dC dI cI cJ cZ a x3 tr y18 hy) (cwV 1 hts (gd_V tw323 tw324 tw325 tw3 tw326) rfl rfl rfl hd_Tr_isFree ⟨Nat.le_of_ble_eq_true rfl, Nat.le_of_ble_eq_true rfl⟩) hNw hK hP hD hS hA (ci := 1) rfl rfl rfl [4, 5, 6, 7, 8, 9, 10, 11, 12, 13, 14] [0, 1, 2, 3] rfl rfl rfl rfl rfl (by decide +kernel) (by decide +kernel) rfl hl.1 rfl (Nat.le_of_ble_eq_true rfl) rfl d_Rf_fitsNode_18 ⟨Nat.zero_le _, Nat.zero_le _⟩ (fun H locs hP hD hS => ?_)
      refine lv_if_eq (tgt := 52) hx hb d_Rf_fitsNode_21 (by decide) (fun hc => ?_) (fun hc => ?_)
      · have h := o_t hc h
        refine lv_iconst (v := 0) hx hb d_Rf_fitsNode_52 (by decide) ?_
        cases h
        exact kr_z hx hb hr (by decide) hlocks hP hD hS d_Rf_fitsNode_53
      · have h := o_f hc h
        refine lv_iload hx hb d_Rf_fitsNode_24 (lv_at hl 4 rfl) ?_
        refine lv_iconst (v := -1) hx hb d_Rf_fitsNode_26 (by decide) ?_
        refine lv_icmp_eq (tgt := 48) hx hb d_Rf_fitsNode_27 (by decide) (fun hc => ?_) (fun hc => ?_)
        · have h := o_t hc h
          refine lv_iconst (v := 1) hx hb d_Rf_fitsNode_48 (by decide) ?_
          refine lv_goto (tgt := 53) hx hb d_Rf_fitsNode_49 (by decide) ?_
          cases h
          exact kr_z hx hb hr (by decide) hlocks hP hD hS d_Rf_fitsNode_53
        · have h := o_f hc h
          refine lv_aload_n hx hb d_Rf_fitsNode_30 rfl (lv_at hl 0 rfl) ?_
          refine va_get (D := (dC, dI)) (ci := 6) (v := .ref (a 4)) (C := R_Rf) (T := F_Rf) (N := 4) hx hb hts inb_Rf hown hK hP 0 rfl rfl 1 (by decide) (hts _ tw277) (fun _ h9 => h9) rfl d_Rf_fitsNode_31 ?_
          refine lv_iload hx hb d_Rf_fitsNode_34 (lv_at hl 4 rfl) ?_
          obtain ⟨y36, hy, h⟩ := o_bd h
          refine kdV (nn := 15) (rest := []) (w' := (cO cI cJ cZ a ++ cKn cI cJ cZ a kn ++ cTr cI cJ cZ a tr)) (wr := (cO cI cJ cZ a ++ cKn cI cJ cZ a kn)) (st1 := [.int y36]) ⟨hx, hb, hml, hown, hts⟩ (c_Tr_isFree l dC dI cI cJ cZ a x4 tr y36 hy) (cwV 1 hts (gd_V tw323 tw324 tw325 tw3 tw326) rfl rfl rfl hd_Tr_isFree ⟨Nat.le_of_ble_eq_true rfl, Nat.le_of_ble_eq_true rfl⟩) hNw hK hP hD hS hA (ci := 1) rfl rfl rfl [4, 5, 6, 7, 8, 9, 10, 11, 12, 13, 14] [0, 1, 2, 3] rfl rfl rfl rfl rfl (by decide +kernel) (by decide +kernel) rfl hl.1 rfl (Nat.le_of_ble_eq_true rfl) rfl d_Rf_fitsNode_36 ⟨Nat.zero_le _, Nat.zero_le _⟩ (fun H locs hP hD hS => ?_)
          refine lv_if_eq (tgt := 52) hx hb d_Rf_fitsNode_39 (by decide) (fun hc => ?_) (fun hc => ?_)
          · have h := o_t hc h
            refine lv_iconst (v := 0) hx hb d_Rf_fitsNode_52 (by decide) ?_
            cases h
            exact kr_z hx hb hr (by decide) hlocks hP hD hS d_Rf_fitsNode_53
          · have h := o_f hc h
            refine lv_iload_n hx hb d_Rf_fitsNode_42 rfl (lv_at hl 3 rfl) ?_
            refine lv_iload hx hb d_Rf_fitsNode_43 (lv_at hl 4 rfl) ?_
            refine lv_icmp_eq (tgt := 52) hx hb d_Rf_fitsNode_45 (by decide) (fun hc => ?_) (fun hc => ?_)
            · have h := o_t hc h
              refine lv_iconst (v := 0) hx hb d_Rf_fitsNode_52 (by decide) ?_
              cases h
              exact kr_z hx hb hr (by decide) hlocks hP hD hS d_Rf_fitsNode_53
            · have h := o_f hc h
              refine lv_iconst (v := 1) hx hb d_Rf_fitsNode_48 (by decide) ?_
              refine lv_goto (tgt := 53) hx hb d_Rf_fitsNode_49 (by decide) ?_
              cases h
              exact kr_z hx hb hr (by decide) hlocks hP hD hS d_Rf_fitsNode_53
set_option maxHeartbeats 4000000 in
set_option maxRecDepth 100000 in
theorem c_Rf_node (l : Launch) (dC : Nat → ClassId) (dI : Nat → Nat → Nat) (cI cJ cZ : ClassId) (a : Nat → Nat) (x1 : Int32) (x2 : Int32) (x3 : Int32) (x4 : Int32) (kn : KnS) (tr : TrS) (res : Int32 × TrS) (h : f_Rf_node x1 x2 x3 x4 kn tr = some res) :
    Kt l (dC, dI) classes [(cI, .int), (cJ, .long), (cZ, .boolean)] y_Rf_node (wz y_Rf_node b_Rf_node 6 (some .int)) { frames := 4, cells := 0, slots := 0, locals := 88 } [.ref (a 0), .int x1, .int x2, .int x3, .int x4] (cO cI cJ cZ a ++ cKn cI cJ cZ a kn ++ cTr cI cJ cZ a tr) (some (.int res.1)) (cO cI cJ cZ a ++ cKn cI cJ cZ a kn ++ cTr cI cJ cZ a res.2) := by
  refine Kt_of (cc := b_Rf_node) (maxL := 6) (ret := (some .int)) (by decide) (Nat.le_of_ble_eq_true rfl) ?_
  intro p e s m args below meth c A ls hx hb hr hml hlocks hown hts hNw hK hP hD hA hS hl
  have hl : lv_has ls 6 [(0, .ref (a 0)), (1, .int x1), (2, .int x2), (3, .int x3), (4, .int x4)] := hl
  have hP : va_P (dC, dI) classes (cO cI cJ cZ a ++ cKn cI cJ cZ a kn ++ cTr cI cJ cZ a tr) s.heap := hP
  have B47 : ∀ (z0_47 : Int32) (z1_47 : Int32) (tr_47 : TrS) (H : Heap) (locs : List Loc) (ls : Array Slot), f_Rf_node_b47 z0_47 z1_47 kn tr_47 = some res → va_P (dC, dI) classes (cO cI cJ cZ a ++ cKn cI cJ cZ a kn ++ cTr cI cJ cZ a tr_47) H → va_D A (cO cI cJ cZ a ++ cKn cI cJ cZ a kn ++ cTr cI cJ cZ a tr_47) → va_S A s.heap H locs → lv_has ls 6 [] → W p l e { frames := 4, cells := 0, slots := 0, locals := 88 } s m args below meth c H locs 0 0 (KZ below args s (dC, dI) classes (some (.int res.1)) (cO cI cJ cZ a ++ cKn cI cJ cZ a kn ++ cTr cI cJ cZ a res.2) A) (F0 m 47 ls [.int z0_47, .int z1_47, .ref (a 4)]) := by
    intro z0_47 z1_47 tr_47 H locs ls h hP hD hS hl
    obtain ⟨y47, hy, h⟩ := o_bd h
    refine kdV (nn := 15) (rest := []) (w' := (cO cI cJ cZ a ++ cKn cI cJ cZ a kn ++ cTr cI cJ cZ a y47.2)) (wr := (cO cI cJ cZ a ++ cKn cI cJ cZ a kn)) (st1 := [.int y47.1]) ⟨hx, hb, hml, hown, hts⟩ (c_Tr_add l dC dI cI cJ cZ a z1_47 z0_47 tr_47 y47 hy) (cwV 2 hts (gd_V tw341 tw342 tw343 tw3 tw344) rfl rfl rfl hd_Tr_add ⟨Nat.le_of_ble_eq_true rfl, Nat.le_of_ble_eq_true rfl⟩) hNw hK hP hD hS hA (ci := 1) rfl rfl rfl [4, 5, 6, 7, 8, 9, 10, 11, 12, 13, 14] [0, 1, 2, 3] rfl rfl rfl rfl rfl (by decide +kernel) (by decide +kernel) rfl hl.1 rfl (Nat.le_of_ble_eq_true rfl) rfl d_Rf_node_47 ⟨Nat.zero_le _, Nat.zero_le _⟩ (fun H locs hP hD hS => ?_)
    cases h
    exact kr_i hx hb hr hlocks hP hD hS d_Rf_node_50
  refine lv_aload_n hx hb d_Rf_node_0 rfl (lv_at hl 0 rfl) ?_
  refine lv_iload_n hx hb d_Rf_node_1 rfl (lv_at hl 1 rfl) ?_
  refine lv_iload_n hx hb d_Rf_node_2 rfl (lv_at hl 2 rfl) ?_
  refine lv_iload_n hx hb d_Rf_node_3 rfl (lv_at hl 3 rfl) ?_
  refine lv_iload hx hb d_Rf_node_4 (lv_at hl 4 rfl) ?_
  obtain ⟨y6, hy, h⟩ := o_bd h
  refine kdV (nn := 15) (rest := []) (w' := (cO cI cJ cZ a ++ cKn cI cJ cZ a kn ++ cTr cI cJ cZ a tr)) (wr := ([] : va_W)) (st1 := [.int y6]) ⟨hx, hb, hml, hown, hts⟩ (c_Rf_fitsNode l dC dI cI cJ cZ a x1 x2 x3 x4 kn tr y6 hy) (cwV 4 hts (gd_V tw316 tw318 ps1 tw1 tw319) rfl rfl rfl hd_Rf_fitsNode ⟨Nat.le_of_ble_eq_true rfl, Nat.le_of_ble_eq_true rfl⟩) hNw hK hP hD hS hA (ci := 6) rfl rfl rfl [0, 1, 2, 3, 4, 5, 6, 7, 8, 9, 10, 11, 12, 13, 14] [] rfl rfl rfl rfl rfl (by decide +kernel) (by decide +kernel) rfl hl.1 rfl (Nat.le_of_ble_eq_true rfl) rfl d_Rf_node_6 ⟨Nat.zero_le _, Nat.zero_le _⟩ (fun H locs hP hD hS => ?_)
  refine lv_if_ne (tgt := 15) hx hb d_Rf_node_9 (by decide) (fun hc => ?_) (fun hc => ?_)
  · have h := o_f hc h
    refine lv_aload_n hx hb d_Rf_node_15 rfl (lv_at hl 0 rfl) ?_
    refine va_get (D := (dC, dI)) (ci := 6) (v := .ref (a 4)) (C := R_Rf) (T := F_Rf) (N := 4) hx hb hts inb_Rf hown hK hP 0 rfl rfl 1 (by decide) (hts _ tw277) (fun _ h9 => h9) rfl d_Rf_node_16 ?_
    obtain ⟨y19, hy, h⟩ := o_bd h
    refine kdV (nn := 15) (rest := []) (w' := (cO cI cJ cZ a ++ cKn cI cJ cZ a kn ++ cTr cI cJ cZ a tr)) (wr := (cO cI cJ cZ a ++ cKn cI cJ cZ a kn)) (st1 := [.int y19]) ⟨hx, hb, hml, hown, hts⟩ (c_Tr_isFull l dC dI cI cJ cZ a tr y19 hy) (cwV 0 hts (gd_V tw337 tw338 tw339 tw3 tw340) rfl rfl rfl hd_Tr_isFull ⟨Nat.le_of_ble_eq_true rfl, Nat.le_of_ble_eq_true rfl⟩) hNw hK hP hD hS hA (ci := 1) rfl rfl rfl [4, 5, 6, 7, 8, 9, 10, 11, 12, 13, 14] [0, 1, 2, 3] rfl rfl rfl rfl rfl (by decide +kernel) (by decide +kernel) rfl hl.1 rfl (Nat.le_of_ble_eq_true rfl) rfl d_Rf_node_19 ⟨Nat.zero_le _, Nat.zero_le _⟩ (fun H locs hP hD hS => ?_)
    refine lv_if_eq (tgt := 28) hx hb d_Rf_node_22 (by decide) (fun hc => ?_) (fun hc => ?_)
    · have h := o_t hc h
      refine lv_iload_n hx hb d_Rf_node_28 rfl (lv_at hl 1 rfl) ?_
      refine lv_iconst (v := 4) hx hb d_Rf_node_29 (by decide) ?_
      refine lv_icmp_ge (tgt := 51) hx hb d_Rf_node_30 (by decide) (fun hc => ?_) (fun hc => ?_)
      · have h := o_t hc h
        refine lv_aload_n hx hb d_Rf_node_51 rfl (lv_at hl 0 rfl) ?_
        refine va_get (D := (dC, dI)) (ci := 6) (v := .ref (a 4)) (C := R_Rf) (T := F_Rf) (N := 4) hx hb hts inb_Rf hown hK hP 0 rfl rfl 1 (by decide) (hts _ tw277) (fun _ h9 => h9) rfl d_Rf_node_52 ?_
        refine lv_iload_n hx hb d_Rf_node_55 rfl (lv_at hl 1 rfl) ?_
        refine lv_iload_n hx hb d_Rf_node_56 rfl (lv_at hl 2 rfl) ?_
        obtain ⟨y57, hy, h⟩ := o_bd h
        refine kdV (nn := 15) (rest := []) (w' := (cO cI cJ cZ a ++ cKn cI cJ cZ a kn ++ cTr cI cJ cZ a y57.2)) (wr := (cO cI cJ cZ a ++ cKn cI cJ cZ a kn)) (st1 := [.int y57.1]) ⟨hx, hb, hml, hown, hts⟩ (c_Tr_add l dC dI cI cJ cZ a x1 x2 tr y57 hy) (cwV 2 hts (gd_V tw341 tw342 tw343 tw3 tw344) rfl rfl rfl hd_Tr_add ⟨Nat.le_of_ble_eq_true rfl, Nat.le_of_ble_eq_true rfl⟩) hNw hK hP hD hS hA (ci := 1) rfl rfl rfl [4, 5, 6, 7, 8, 9, 10, 11, 12, 13, 14] [0, 1, 2, 3] rfl rfl rfl rfl rfl (by decide +kernel) (by decide +kernel) rfl hl.1 rfl (Nat.le_of_ble_eq_true rfl) rfl d_Rf_node_57 ⟨Nat.zero_le _, Nat.zero_le _⟩ (fun H locs hP hD hS => ?_)
        refine lv_istore (lv' := [(5, .int y57.1), (0, .ref (a 0)), (1, .int x1), (2, .int x2), (3, .int x3), (4, .int x4)]) hx hb d_Rf_node_60 hl (by decide) rfl (fun ls hl => ?_)
        refine lv_aload_n hx hb d_Rf_node_62 rfl (lv_at hl 1 rfl) ?_
        refine va_get (D := (dC, dI)) (ci := 6) (v := .ref (a 4)) (C := R_Rf) (T := F_Rf) (N := 4) hx hb hts inb_Rf hown hK hP 0 rfl rfl 1 (by decide) (hts _ tw277) (fun _ h9 => h9) rfl d_Rf_node_63 ?_
        refine lv_iload hx hb d_Rf_node_66 (lv_at hl 0 rfl) ?_
        refine lv_iload_n hx hb d_Rf_node_68 rfl (lv_at hl 4 rfl) ?_
        obtain ⟨y69, hy, h⟩ := o_bd h
        refine kdV (nn := 15) (rest := []) (w' := (cO cI cJ cZ a ++ cKn cI cJ cZ a kn ++ cTr cI cJ cZ a y69)) (wr := (cO cI cJ cZ a ++ cKn cI cJ cZ a kn)) (st1 := []) ⟨hx, hb, hml, hown, hts⟩ (c_Tr_adopt l dC dI cI cJ cZ a y57.1 x3 y57.2 y69 hy) (cwV 2 hts (gd_V tw345 tw346 tw347 tw3 tw348) rfl rfl rfl hd_Tr_adopt ⟨Nat.le_of_ble_eq_true rfl, Nat.le_of_ble_eq_true rfl⟩) hNw hK hP hD hS hA (ci := 1) rfl rfl rfl [4, 5, 6, 7, 8, 9, 10, 11, 12, 13, 14] [0, 1, 2, 3] rfl rfl rfl rfl rfl (by decide +kernel) (by decide +kernel) rfl hl.1 rfl (Nat.le_of_ble_eq_true rfl) rfl d_Rf_node_69 ⟨Nat.zero_le _, Nat.zero_le _⟩ (fun H locs hP hD hS => ?_)
        refine lv_iload hx hb d_Rf_node_72 (lv_at hl 5 rfl) ?_
        refine lv_iconst (v := -1) hx hb d_Rf_node_74 (by decide) ?_
        refine lv_icmp_eq (tgt := 89) hx hb d_Rf_node_75 (by decide) (fun hc => ?_) (fun hc => ?_)
        · have h := o_t hc h
          refine lv_iload hx hb d_Rf_node_89 (lv_at hl 0 rfl) ?_
          cases h
          exact kr_i hx hb hr hlocks hP hD hS d_Rf_node_91
        · have h := o_f hc h
          refine lv_aload_n hx hb d_Rf_node_78 rfl (lv_at hl 1 rfl) ?_
          refine va_get (D := (dC, dI)) (ci := 6) (v := .ref (a 4)) (C := R_Rf) (T := F_Rf) (N := 4) hx hb hts inb_Rf hown hK hP 0 rfl rfl 1 (by decide) (hts _ tw277) (fun _ h9 => h9) rfl d_Rf_node_79 ?_
          refine lv_iload hx hb d_Rf_node_82 (lv_at hl 0 rfl) ?_
          refine lv_iload hx hb d_Rf_node_84 (lv_at hl 5 rfl) ?_
          obtain ⟨y86, hy, h⟩ := o_bd h
          refine kdV (nn := 15) (rest := []) (w' := (cO cI cJ cZ a ++ cKn cI cJ cZ a kn ++ cTr cI cJ cZ a y86)) (wr := (cO cI cJ cZ a ++ cKn cI cJ cZ a kn)) (st1 := []) ⟨hx, hb, hml, hown, hts⟩ (c_Tr_adopt l dC dI cI cJ cZ a y57.1 x4 y69 y86 hy) (cwV 2 hts (gd_V tw345 tw346 tw347 tw3 tw348) rfl rfl rfl hd_Tr_adopt ⟨Nat.le_of_ble_eq_true rfl, Nat.le_of_ble_eq_true rfl⟩) hNw hK hP hD hS hA (ci := 1) rfl rfl rfl [4, 5, 6, 7, 8, 9, 10, 11, 12, 13, 14] [0, 1, 2, 3] rfl rfl rfl rfl rfl (by decide +kernel) (by decide +kernel) rfl hl.1 rfl (Nat.le_of_ble_eq_true rfl) rfl d_Rf_node_86 ⟨Nat.zero_le _, Nat.zero_le _⟩ (fun H locs hP hD hS => ?_)
          refine lv_iload hx hb d_Rf_node_89 (lv_at hl 0 rfl) ?_
          cases h
          exact kr_i hx hb hr hlocks hP hD hS d_Rf_node_91
      · have h := o_f hc h
        refine lv_aload_n hx hb d_Rf_node_33 rfl (lv_at hl 0 rfl) ?_
        refine va_get (D := (dC, dI)) (ci := 6) (v := .ref (a 4)) (C := R_Rf) (T := F_Rf) (N := 4) hx hb hts inb_Rf hown hK hP 0 rfl rfl 1 (by decide) (hts _ tw277) (fun _ h9 => h9) rfl d_Rf_node_34 ?_
        refine lv_iload_n hx hb d_Rf_node_37 rfl (lv_at hl 1 rfl) ?_
        refine lv_iload_n hx hb d_Rf_node_38 rfl (lv_at hl 1 rfl) ?_
        refine lv_if_ne (tgt := 46) hx hb d_Rf_node_39 (by decide) (fun hc => ?_) (fun hc => ?_)
        · have h := o_f hc h
          refine lv_iload_n hx hb d_Rf_node_46 rfl (lv_at hl 3 rfl) ?_
          exact B47 x3 x1 tr _ _ _ h hP hD hS (lv_sub hl [] rfl)
        · have h := o_t hc h
          refine lv_iconst (v := 0) hx hb d_Rf_node_42 (by decide) ?_
          refine lv_goto (tgt := 47) hx hb d_Rf_node_43 (by decide) ?_
          exact B47 (0 : Int32) x1 tr _ _ _ h hP hD hS (lv_sub hl [] rfl)
    · have h := o_f hc h
      refine lv_bipush (v := -3) hx hb d_Rf_node_25 (by decide) ?_
      cases h
      exact kr_i hx hb hr hlocks hP hD hS d_Rf_node_27
  · have h := o_t hc h
    refine lv_bipush (v := -2) hx hb d_Rf_node_12 (by decide) ?_
    cases h
    exact kr_i hx hb hr hlocks hP hD hS d_Rf_node_14
set_option maxHeartbeats 4000000 in
set_option maxRecDepth 100000 in
theorem c_Rf_jump (l : Launch) (dC : Nat → ClassId) (dI : Nat → Nat → Nat) (cI cJ cZ : ClassId) (a : Nat → Nat) (x1 : Int32) (x2 : Int32) (tr : TrS) (res : Int32 × TrS) (h : f_Rf_jump x1 x2 tr = some res) :
    Kt l (dC, dI) classes [(cI, .int), (cJ, .long), (cZ, .boolean)] y_Rf_jump (wz y_Rf_jump b_Rf_jump 3 (some .int)) { frames := 1, cells := 0, slots := 0, locals := 23 } [.ref (a 0), .int x1, .int x2] (cO cI cJ cZ a ++ cTr cI cJ cZ a tr) (some (.int res.1)) (cO cI cJ cZ a ++ cTr cI cJ cZ a res.2) := by
  refine Kt_of (cc := b_Rf_jump) (maxL := 3) (ret := (some .int)) (by decide) (Nat.le_of_ble_eq_true rfl) ?_
  intro p e s m args below meth c A ls hx hb hr hml hlocks hown hts hNw hK hP hD hA hS hl
  have hl : lv_has ls 3 [(0, .ref (a 0)), (1, .int x1), (2, .int x2)] := hl
  have hP : va_P (dC, dI) classes (cO cI cJ cZ a ++ cTr cI cJ cZ a tr) s.heap := hP
  have B24 : ∀ (x1_24 : Int32) (x2_24 : Int32) (tr_24 : TrS) (H : Heap) (locs : List Loc) (ls : Array Slot), f_Rf_jump_b24 x1_24 x2_24 tr_24 = some res → va_P (dC, dI) classes (cO cI cJ cZ a ++ cTr cI cJ cZ a tr_24) H → va_D A (cO cI cJ cZ a ++ cTr cI cJ cZ a tr_24) → va_S A s.heap H locs → lv_has ls 3 [(0, .ref (a 0)), (1, .int x1_24), (2, .int x2_24)] → W p l e { frames := 1, cells := 0, slots := 0, locals := 23 } s m args below meth c H locs 0 0 (KZ below args s (dC, dI) classes (some (.int res.1)) (cO cI cJ cZ a ++ cTr cI cJ cZ a res.2) A) (F0 m 24 ls []) := by
    intro x1_24 x2_24 tr_24 H locs ls h hP hD hS hl
    refine lv_aload_n hx hb d_Rf_jump_24 rfl (lv_at hl 0 rfl) ?_
    refine va_get (D := (dC, dI)) (ci := 6) (v := .ref (a 4)) (C := R_Rf) (T := F_Rf) (N := 4) hx hb hts inb_Rf hown hK hP 0 rfl rfl 1 (by decide) (hts _ tw277) (fun _ h9 => h9) rfl d_Rf_jump_25 ?_
    obtain ⟨y28, hy, h⟩ := o_bd h
    refine kdV (nn := 12) (rest := []) (w' := (cO cI cJ cZ a ++ cTr cI cJ cZ a tr_24)) (wr := (cO cI cJ cZ a)) (st1 := [.int y28]) ⟨hx, hb, hml, hown, hts⟩ (c_Tr_isFull l dC dI cI cJ cZ a tr_24 y28 hy) (cwV 0 hts (gd_V tw337 tw338 tw339 tw3 tw340) rfl rfl rfl hd_Tr_isFull ⟨Nat.le_of_ble_eq_true rfl, Nat.le_of_ble_eq_true rfl⟩) hNw hK hP hD hS hA (ci := 1) rfl rfl rfl [1, 2, 3, 4, 5, 6, 7, 8, 9, 10, 11] [0] rfl rfl rfl rfl rfl (by decide +kernel) (by decide +kernel) rfl hl.1 rfl (Nat.le_of_ble_eq_true rfl) rfl d_Rf_jump_28 ⟨Nat.zero_le _, Nat.zero_le _⟩ (fun H locs hP hD hS => ?_)
    refine lv_if_eq (tgt := 39) hx hb d_Rf_jump_31 (by decide) (fun hc => ?_) (fun hc => ?_)
    · have h := o_t hc h
      refine lv_aload_n hx hb d_Rf_jump_39 rfl (lv_at hl 0 rfl) ?_
      refine va_get (D := (dC, dI)) (ci := 6) (v := .ref (a 4)) (C := R_Rf) (T := F_Rf) (N := 4) hx hb hts inb_Rf hown hK hP 0 rfl rfl 1 (by decide) (hts _ tw277) (fun _ h9 => h9) rfl d_Rf_jump_40 ?_
      refine lv_bipush (v := 10) hx hb d_Rf_jump_43 (by decide) ?_
      refine lv_iload_n hx hb d_Rf_jump_45 rfl (lv_at hl 1 rfl) ?_
      refine lv_iadd hx hb d_Rf_jump_46 ?_
      refine lv_iload_n hx hb d_Rf_jump_47 rfl (lv_at hl 2 rfl) ?_
      obtain ⟨y48, hy, h⟩ := o_bd h
      refine kdV (nn := 12) (rest := []) (w' := (cO cI cJ cZ a ++ cTr cI cJ cZ a y48.2)) (wr := (cO cI cJ cZ a)) (st1 := [.int y48.1]) ⟨hx, hb, hml, hown, hts⟩ (c_Tr_add l dC dI cI cJ cZ a ((10 : Int32) + x1_24) x2_24 tr_24 y48 hy) (cwV 2 hts (gd_V tw341 tw342 tw343 tw3 tw344) rfl rfl rfl hd_Tr_add ⟨Nat.le_of_ble_eq_true rfl, Nat.le_of_ble_eq_true rfl⟩) hNw hK hP hD hS hA (ci := 1) rfl rfl rfl [1, 2, 3, 4, 5, 6, 7, 8, 9, 10, 11] [0] rfl rfl rfl rfl rfl (by decide +kernel) (by decide +kernel) rfl hl.1 rfl (Nat.le_of_ble_eq_true rfl) rfl d_Rf_jump_48 ⟨Nat.zero_le _, Nat.zero_le _⟩ (fun H locs hP hD hS => ?_)
      cases h
      exact kr_i hx hb hr hlocks hP hD hS d_Rf_jump_51
    · have h := o_f hc h
      refine lv_bipush (v := -3) hx hb d_Rf_jump_34 (by decide) ?_
      refine lv_goto (tgt := 51) hx hb d_Rf_jump_36 (by decide) ?_
      cases h
      exact kr_i hx hb hr hlocks hP hD hS d_Rf_jump_51
  refine lv_iload_n hx hb d_Rf_jump_0 rfl (lv_at hl 1 rfl) ?_
  refine lv_if_lt (tgt := 21) hx hb d_Rf_jump_1 (by decide) (fun hc => ?_) (fun hc => ?_)
  · have h := o_t hc h
    refine lv_bipush (v := -2) hx hb d_Rf_jump_21 (by decide) ?_
    cases h
    exact kr_i hx hb hr hlocks hP hD hS d_Rf_jump_23
  · have h := o_f hc h
    refine lv_iload_n hx hb d_Rf_jump_4 rfl (lv_at hl 1 rfl) ?_
    refine lv_iconst (v := 1) hx hb d_Rf_jump_5 (by decide) ?_
    refine lv_icmp_gt (tgt := 21) hx hb d_Rf_jump_6 (by decide) (fun hc => ?_) (fun hc => ?_)
    · have h := o_t hc h
      refine lv_bipush (v := -2) hx hb d_Rf_jump_21 (by decide) ?_
      cases h
      exact kr_i hx hb hr hlocks hP hD hS d_Rf_jump_23
    · have h := o_f hc h
      refine lv_iload_n hx hb d_Rf_jump_9 rfl (lv_at hl 2 rfl) ?_
      refine lv_iconst (v := -1) hx hb d_Rf_jump_10 (by decide) ?_
      refine lv_icmp_eq (tgt := 24) hx hb d_Rf_jump_11 (by decide) (fun hc => ?_) (fun hc => ?_)
      · have h := o_t hc h
        exact B24 x1 x2 tr _ _ _ h hP hD hS (lv_sub hl [0, 1, 2] rfl)
      · have h := o_f hc h
        refine lv_iload_n hx hb d_Rf_jump_14 rfl (lv_at hl 2 rfl) ?_
        obtain ⟨y15, hy, h⟩ := o_bd h
        refine kdS (nn := 12) (rest := []) (w' := (cO cI cJ cZ a ++ cTr cI cJ cZ a tr)) (wr := (cO cI cJ cZ a ++ cTr cI cJ cZ a tr)) (st1 := [.int y15]) ⟨hx, hb, hml, hown, hts⟩ (c_Rf_isName l dC dI cI cJ cZ a x2 y15 hy) (va_cwS 1 hts (gd_S tw353 tw354 tw1 tw355) rfl rfl rfl hd_Rf_isName.2 ⟨Nat.le_of_ble_eq_true rfl, Nat.le_of_ble_eq_true rfl⟩) hNw hK hP hD hS hA [] [0, 1, 2, 3, 4, 5, 6, 7, 8, 9, 10, 11] rfl rfl rfl rfl rfl (by decide +kernel) (by decide +kernel) rfl hl.1 rfl (Nat.le_of_ble_eq_true rfl) rfl d_Rf_jump_15 ⟨Nat.zero_le _, Nat.zero_le _⟩ (fun H locs hP hD hS => ?_)
        refine lv_if_ne (tgt := 24) hx hb d_Rf_jump_18 (by decide) (fun hc => ?_) (fun hc => ?_)
        · have h := o_f hc h
          exact B24 x1 x2 tr _ _ _ h hP hD hS (lv_sub hl [0, 1, 2] rfl)
        · have h := o_t hc h
          refine lv_bipush (v := -2) hx hb d_Rf_jump_21 (by decide) ?_
          cases h
          exact kr_i hx hb hr hlocks hP hD hS d_Rf_jump_23
set_option maxHeartbeats 4000000 in
set_option maxRecDepth 100000 in
theorem c_Rf_label (l : Launch) (dC : Nat → ClassId) (dI : Nat → Nat → Nat) (cI cJ cZ : ClassId) (a : Nat → Nat) (x1 : Int32) (x2 : Int32) (tr : TrS) (res : Int32 × TrS) (h : f_Rf_label x1 x2 tr = some res) :
    Kt l (dC, dI) classes [(cI, .int), (cJ, .long), (cZ, .boolean)] y_Rf_label (wz y_Rf_label b_Rf_label 4 (some .int)) { frames := 2, cells := 0, slots := 0, locals := 43 } [.ref (a 0), .int x1, .int x2] (cO cI cJ cZ a ++ cTr cI cJ cZ a tr) (some (.int res.1)) (cO cI cJ cZ a ++ cTr cI cJ cZ a res.2) := by
  refine Kt_of (cc := b_Rf_label) (maxL := 4) (ret := (some .int)) (by decide) (Nat.le_of_ble_eq_true rfl) ?_
  intro p e s m args below meth c A ls hx hb hr hml hlocks hown hts hNw hK hP hD hA hS hl
  have hl : lv_has ls 4 [(0, .ref (a 0)), (1, .int x1), (2, .int x2)] := hl
  have hP : va_P (dC, dI) classes (cO cI cJ cZ a ++ cTr cI cJ cZ a tr) s.heap := hP
  refine lv_iload_n hx hb d_Rf_label_0 rfl (lv_at hl 1 rfl) ?_
  obtain ⟨y1, hy, h⟩ := o_bd h
  refine kdS (nn := 12) (rest := []) (w' := (cO cI cJ cZ a ++ cTr cI cJ cZ a tr)) (wr := (cO cI cJ cZ a ++ cTr cI cJ cZ a tr)) (st1 := [.int y1]) ⟨hx, hb, hml, hown, hts⟩ (c_Rf_isName l dC dI cI cJ cZ a x1 y1 hy) (va_cwS 1 hts (gd_S tw353 tw354 tw1 tw355) rfl rfl rfl hd_Rf_isName.2 ⟨Nat.le_of_ble_eq_true rfl, Nat.le_of_ble_eq_true rfl⟩) hNw hK hP hD hS hA [] [0, 1, 2, 3, 4, 5, 6, 7, 8, 9, 10, 11] rfl rfl rfl rfl rfl (by decide +kernel) (by decide +kernel) rfl hl.1 rfl (Nat.le_of_ble_eq_true rfl) rfl d_Rf_label_1 ⟨Nat.zero_le _, Nat.zero_le _⟩ (fun H locs hP hD hS => ?_)
  refine lv_if_eq (tgt := 18) hx hb d_Rf_label_4 (by decide) (fun hc => ?_) (fun hc => ?_)
  · have h := o_t hc h
    refine lv_bipush (v := -2) hx hb d_Rf_label_18 (by decide) ?_
    cases h
    exact kr_i hx hb hr hlocks hP hD hS d_Rf_label_20
  · have h := o_f hc h
    refine lv_aload_n hx hb d_Rf_label_7 rfl (lv_at hl 0 rfl) ?_
    refine va_get (D := (dC, dI)) (ci := 6) (v := .ref (a 4)) (C := R_Rf) (T := F_Rf) (N := 4) hx hb hts inb_Rf hown hK hP 0 rfl rfl 1 (by decide) (hts _ tw277) (fun _ h9 => h9) rfl d_Rf_label_8 ?_
    refine lv_iload_n hx hb d_Rf_label_11 rfl (lv_at hl 2 rfl) ?_
    obtain ⟨y12, hy, h⟩ := o_bd h
    refine kdV (nn := 12) (rest := []) (w' := (cO cI cJ cZ a ++ cTr cI cJ cZ a tr)) (wr := (cO cI cJ cZ a)) (st1 := [.int y12]) ⟨hx, hb, hml, hown, hts⟩ (c_Tr_isFree l dC dI cI cJ cZ a x2 tr y12 hy) (cwV 1 hts (gd_V tw323 tw324 tw325 tw3 tw326) rfl rfl rfl hd_Tr_isFree ⟨Nat.le_of_ble_eq_true rfl, Nat.le_of_ble_eq_true rfl⟩) hNw hK hP hD hS hA (ci := 1) rfl rfl rfl [1, 2, 3, 4, 5, 6, 7, 8, 9, 10, 11] [0] rfl rfl rfl rfl rfl (by decide +kernel) (by decide +kernel) rfl hl.1 rfl (Nat.le_of_ble_eq_true rfl) rfl d_Rf_label_12 ⟨Nat.zero_le _, Nat.zero_le _⟩ (fun H locs hP hD hS => ?_)
    refine lv_if_ne (tgt := 21) hx hb d_Rf_label_15 (by decide) (fun hc => ?_) (fun hc => ?_)
    · have h := o_f hc h
      refine lv_aload_n hx hb d_Rf_label_21 rfl (lv_at hl 0 rfl) ?_
      refine va_get (D := (dC, dI)) (ci := 6) (v := .ref (a 4)) (C := R_Rf) (T := F_Rf) (N := 4) hx hb hts inb_Rf hown hK hP 0 rfl rfl 1 (by decide) (hts _ tw277) (fun _ h9 => h9) rfl d_Rf_label_22 ?_
      obtain ⟨y25, hy, h⟩ := o_bd h
      refine kdV (nn := 12) (rest := []) (w' := (cO cI cJ cZ a ++ cTr cI cJ cZ a tr)) (wr := (cO cI cJ cZ a)) (st1 := [.int y25]) ⟨hx, hb, hml, hown, hts⟩ (c_Tr_isFull l dC dI cI cJ cZ a tr y25 hy) (cwV 0 hts (gd_V tw337 tw338 tw339 tw3 tw340) rfl rfl rfl hd_Tr_isFull ⟨Nat.le_of_ble_eq_true rfl, Nat.le_of_ble_eq_true rfl⟩) hNw hK hP hD hS hA (ci := 1) rfl rfl rfl [1, 2, 3, 4, 5, 6, 7, 8, 9, 10, 11] [0] rfl rfl rfl rfl rfl (by decide +kernel) (by decide +kernel) rfl hl.1 rfl (Nat.le_of_ble_eq_true rfl) rfl d_Rf_label_25 ⟨Nat.zero_le _, Nat.zero_le _⟩ (fun H locs hP hD hS => ?_)
      refine lv_if_eq (tgt := 34) hx hb d_Rf_label_28 (by decide) (fun hc => ?_) (fun hc => ?_)
      · have h := o_t hc h
        refine lv_aload_n hx hb d_Rf_label_34 rfl (lv_at hl 0 rfl) ?_
        refine va_get (D := (dC, dI)) (ci := 6) (v := .ref (a 4)) (C := R_Rf) (T := F_Rf) (N := 4) hx hb hts inb_Rf hown hK hP 0 rfl rfl 1 (by decide) (hts _ tw277) (fun _ h9 => h9) rfl d_Rf_label_35 ?_
        refine lv_bipush (v := 12) hx hb d_Rf_label_38 (by decide) ?_
        refine lv_iload_n hx hb d_Rf_label_40 rfl (lv_at hl 1 rfl) ?_
        obtain ⟨y41, hy, h⟩ := o_bd h
        refine kdV (nn := 12) (rest := []) (w' := (cO cI cJ cZ a ++ cTr cI cJ cZ a y41.2)) (wr := (cO cI cJ cZ a)) (st1 := [.int y41.1]) ⟨hx, hb, hml, hown, hts⟩ (c_Tr_add l dC dI cI cJ cZ a (12 : Int32) x1 tr y41 hy) (cwV 2 hts (gd_V tw341 tw342 tw343 tw3 tw344) rfl rfl rfl hd_Tr_add ⟨Nat.le_of_ble_eq_true rfl, Nat.le_of_ble_eq_true rfl⟩) hNw hK hP hD hS hA (ci := 1) rfl rfl rfl [1, 2, 3, 4, 5, 6, 7, 8, 9, 10, 11] [0] rfl rfl rfl rfl rfl (by decide +kernel) (by decide +kernel) rfl hl.1 rfl (Nat.le_of_ble_eq_true rfl) rfl d_Rf_label_41 ⟨Nat.zero_le _, Nat.zero_le _⟩ (fun H locs hP hD hS => ?_)
        refine lv_istore_n (lv' := [(3, .int y41.1), (0, .ref (a 0)), (1, .int x1), (2, .int x2)]) hx hb d_Rf_label_44 rfl hl (by decide) rfl (fun ls hl => ?_)
        refine lv_aload_n hx hb d_Rf_label_45 rfl (lv_at hl 1 rfl) ?_
        refine va_get (D := (dC, dI)) (ci := 6) (v := .ref (a 4)) (C := R_Rf) (T := F_Rf) (N := 4) hx hb hts inb_Rf hown hK hP 0 rfl rfl 1 (by decide) (hts _ tw277) (fun _ h9 => h9) rfl d_Rf_label_46 ?_
        refine lv_iload_n hx hb d_Rf_label_49 rfl (lv_at hl 0 rfl) ?_
        refine lv_iload_n hx hb d_Rf_label_50 rfl (lv_at hl 3 rfl) ?_
        obtain ⟨y51, hy, h⟩ := o_bd h
        refine kdV (nn := 12) (rest := []) (w' := (cO cI cJ cZ a ++ cTr cI cJ cZ a y51)) (wr := (cO cI cJ cZ a)) (st1 := []) ⟨hx, hb, hml, hown, hts⟩ (c_Tr_adopt l dC dI cI cJ cZ a y41.1 x2 y41.2 y51 hy) (cwV 2 hts (gd_V tw345 tw346 tw347 tw3 tw348) rfl rfl rfl hd_Tr_adopt ⟨Nat.le_of_ble_eq_true rfl, Nat.le_of_ble_eq_true rfl⟩) hNw hK hP hD hS hA (ci := 1) rfl rfl rfl [1, 2, 3, 4, 5, 6, 7, 8, 9, 10, 11] [0] rfl rfl rfl rfl rfl (by decide +kernel) (by decide +kernel) rfl hl.1 rfl (Nat.le_of_ble_eq_true rfl) rfl d_Rf_label_51 ⟨Nat.zero_le _, Nat.zero_le _⟩ (fun H locs hP hD hS => ?_)
        refine lv_iload_n hx hb d_Rf_label_54 rfl (lv_at hl 0 rfl) ?_
        cases h
        exact kr_i hx hb hr hlocks hP hD hS d_Rf_label_55
      · have h := o_f hc h
        refine lv_bipush (v := -3) hx hb d_Rf_label_31 (by decide) ?_
        cases h
        exact kr_i hx hb hr hlocks hP hD hS d_Rf_label_33
    · have h := o_t hc h
      refine lv_bipush (v := -2) hx hb d_Rf_label_18 (by decide) ?_
      cases h
      exact kr_i hx hb hr hlocks hP hD hS d_Rf_label_20
set_option maxHeartbeats 4000000 in
set_option maxRecDepth 100000 in
theorem c_Rf_row (l : Launch) (dC : Nat → ClassId) (dI : Nat → Nat → Nat) (cI cJ cZ : ClassId) (a : Nat → Nat) (x1 : Int32) (rw : RwS) (res : Int32 × RwS) (h : f_Rf_row x1 rw = some res) :
    Kt l (dC, dI) classes [(cI, .int), (cJ, .long), (cZ, .boolean)] y_Rf_row (wz y_Rf_row b_Rf_row 2 (some .int)) { frames := 1, cells := 0, slots := 0, locals := 21 } [.ref (a 0), .int x1] (cO cI cJ cZ a ++ cRw cI cJ cZ a rw) (some (.int res.1)) (cO cI cJ cZ a ++ cRw cI cJ cZ a res.2) := by
  refine Kt_of (cc := b_Rf_row) (maxL := 2) (ret := (some .int)) (by decide) (Nat.le_of_ble_eq_true rfl) ?_
  intro p e s m args below meth c A ls hx hb hr hml hlocks hown hts hNw hK hP hD hA hS hl
  have hl : lv_has ls 2 [(0, .ref (a 0)), (1, .int x1)] := hl
  have hP : va_P (dC, dI) classes (cO cI cJ cZ a ++ cRw cI cJ cZ a rw) s.heap := hP
  refine lv_iload_n hx hb d_Rf_row_0 rfl (lv_at hl 1 rfl) ?_
  refine lv_if_lt (tgt := 9) hx hb d_Rf_row_1 (by decide) (fun hc => ?_) (fun hc => ?_)
  · have h := o_t hc h
    refine lv_bipush (v := -2) hx hb d_Rf_row_9 (by decide) ?_
    cases h
    exact kr_i hx hb hr hlocks hP hD hS d_Rf_row_11
  · have h := o_f hc h
    refine lv_iload_n hx hb d_Rf_row_4 rfl (lv_at hl 1 rfl) ?_
    refine lv_iconst (v := 3) hx hb d_Rf_row_5 (by decide) ?_
    refine lv_icmp_le (tgt := 12) hx hb d_Rf_row_6 (by decide) (fun hc => ?_) (fun hc => ?_)
    · have h := o_t hc h
      refine lv_aload_n hx hb d_Rf_row_12 rfl (lv_at hl 0 rfl) ?_
      refine va_get (D := (dC, dI)) (ci := 6) (v := .ref (a 15)) (C := R_Rf) (T := F_Rf) (N := 4) hx hb hts inb_Rf hown hK hP 0 rfl rfl 2 (by decide) (hts _ tw278) (fun _ h9 => h9) rfl d_Rf_row_13 ?_
      obtain ⟨y16, hy, h⟩ := o_bd h
      refine kdV (nn := 3) (rest := []) (w' := (cO cI cJ cZ a ++ cRw cI cJ cZ a rw)) (wr := (cO cI cJ cZ a)) (st1 := [.int y16]) ⟨hx, hb, hml, hown, hts⟩ (c_Rw_isOpen l dC dI cI cJ cZ a rw y16 hy) (cwV 0 hts (gd_V tw364 tw365 tw366 tw4 tw367) rfl rfl rfl hd_Rw_isOpen ⟨Nat.le_of_ble_eq_true rfl, Nat.le_of_ble_eq_true rfl⟩) hNw hK hP hD hS hA (ci := 2) rfl rfl rfl [1, 2] [0] rfl rfl rfl rfl rfl (by decide +kernel) (by decide +kernel) rfl hl.1 rfl (Nat.le_of_ble_eq_true rfl) rfl d_Rf_row_16 ⟨Nat.zero_le _, Nat.zero_le _⟩ (fun H locs hP hD hS => ?_)
      refine lv_if_eq (tgt := 25) hx hb d_Rf_row_19 (by decide) (fun hc => ?_) (fun hc => ?_)
      · have h := o_t hc h
        refine lv_aload_n hx hb d_Rf_row_25 rfl (lv_at hl 0 rfl) ?_
        refine va_get (D := (dC, dI)) (ci := 6) (v := .ref (a 15)) (C := R_Rf) (T := F_Rf) (N := 4) hx hb hts inb_Rf hown hK hP 0 rfl rfl 2 (by decide) (hts _ tw278) (fun _ h9 => h9) rfl d_Rf_row_26 ?_
        refine lv_bipush (v := 13) hx hb d_Rf_row_29 (by decide) ?_
        refine lv_iload_n hx hb d_Rf_row_31 rfl (lv_at hl 1 rfl) ?_
        refine lv_iadd hx hb d_Rf_row_32 ?_
        obtain ⟨y33, hy, h⟩ := o_bd h
        refine kdV (nn := 3) (rest := []) (w' := (cO cI cJ cZ a ++ cRw cI cJ cZ a y33)) (wr := (cO cI cJ cZ a)) (st1 := []) ⟨hx, hb, hml, hown, hts⟩ (c_Rw_start l dC dI cI cJ cZ a ((13 : Int32) + x1) rw y33 hy) (cwV 1 hts (gd_V tw368 tw369 tw370 tw4 tw371) rfl rfl rfl hd_Rw_start ⟨Nat.le_of_ble_eq_true rfl, Nat.le_of_ble_eq_true rfl⟩) hNw hK hP hD hS hA (ci := 2) rfl rfl rfl [1, 2] [0] rfl rfl rfl rfl rfl (by decide +kernel) (by decide +kernel) rfl hl.1 rfl (Nat.le_of_ble_eq_true rfl) rfl d_Rf_row_33 ⟨Nat.zero_le _, Nat.zero_le _⟩ (fun H locs hP hD hS => ?_)
        refine lv_iload_n hx hb d_Rf_row_36 rfl (lv_at hl 1 rfl) ?_
        cases h
        exact kr_i hx hb hr hlocks hP hD hS d_Rf_row_37
      · have h := o_f hc h
        refine lv_bipush (v := -4) hx hb d_Rf_row_22 (by decide) ?_
        cases h
        exact kr_i hx hb hr hlocks hP hD hS d_Rf_row_24
    · have h := o_f hc h
      refine lv_bipush (v := -2) hx hb d_Rf_row_9 (by decide) ?_
      cases h
      exact kr_i hx hb hr hlocks hP hD hS d_Rf_row_11
set_option maxHeartbeats 4000000 in
set_option maxRecDepth 100000 in
theorem c_Rf_fitsRow (l : Launch) (dC : Nat → ClassId) (dI : Nat → Nat → Nat) (cI cJ cZ : ClassId) (a : Nat → Nat) (x1 : Int32) (x2 : Int32) (kn : KnS) (tr : TrS) (rw : RwS) (res : Int32) (h : f_Rf_fitsRow x1 x2 kn tr rw = some res) :
    Kt l (dC, dI) classes [(cI, .int), (cJ, .long), (cZ, .boolean)] y_Rf_fitsRow (wz y_Rf_fitsRow b_Rf_fitsRow 3 (some .boolean)) { frames := 3, cells := 0, slots := 0, locals := 64 } [.ref (a 0), .int x1, .int x2] (cO cI cJ cZ a ++ cKn cI cJ cZ a kn ++ cTr cI cJ cZ a tr ++ cRw cI cJ cZ a rw) (some (.int res)) (cO cI cJ cZ a ++ cKn cI cJ cZ a kn ++ cTr cI cJ cZ a tr ++ cRw cI cJ cZ a rw) := by
  refine Kt_of (cc := b_Rf_fitsRow) (maxL := 3) (ret := (some .boolean)) (by decide) (Nat.le_of_ble_eq_true rfl) ?_
  intro p e s m args below meth c A ls hx hb hr hml hlocks hown hts hNw hK hP hD hA hS hl
  have hl : lv_has ls 3 [(0, .ref (a 0)), (1, .int x1), (2, .int x2)] := hl
  have hP : va_P (dC, dI) classes (cO cI cJ cZ a ++ cKn cI cJ cZ a kn ++ cTr cI cJ cZ a tr ++ cRw cI cJ cZ a rw) s.heap := hP
  refine lv_aload_n hx hb d_Rf_fitsRow_0 rfl (lv_at hl 0 rfl) ?_
  refine va_get (D := (dC, dI)) (ci := 6) (v := .ref (a 4)) (C := R_Rf) (T := F_Rf) (N := 4) hx hb hts inb_Rf hown hK hP 0 rfl rfl 1 (by decide) (hts _ tw277) (fun _ h9 => h9) rfl d_Rf_fitsRow_1 ?_
  refine lv_iload_n hx hb d_Rf_fitsRow_4 rfl (lv_at hl 1 rfl) ?_
  obtain ⟨y5, hy, h⟩ := o_bd h
  refine kdV (nn := 17) (rest := []) (w' := (cO cI cJ cZ a ++ cKn cI cJ cZ a kn ++ cTr cI cJ cZ a tr ++ cRw cI cJ cZ a rw)) (wr := (cO cI cJ cZ a ++ cKn cI cJ cZ a kn ++ cRw cI cJ cZ a rw)) (st1 := [.int y5]) ⟨hx, hb, hml, hown, hts⟩ (c_Tr_isFree l dC dI cI cJ cZ a x1 tr y5 hy) (cwV 1 hts (gd_V tw323 tw324 tw325 tw3 tw326) rfl rfl rfl hd_Tr_isFree ⟨Nat.le_of_ble_eq_true rfl, Nat.le_of_ble_eq_true rfl⟩) hNw hK hP hD hS hA (ci := 1) rfl rfl rfl [4, 5, 6, 7, 8, 9, 10, 11, 12, 13, 14] [0, 1, 2, 3, 15, 16] rfl rfl rfl rfl rfl (by decide +kernel) (by decide +kernel) rfl hl.1 rfl (Nat.le_of_ble_eq_true rfl) rfl d_Rf_fitsRow_5 ⟨Nat.zero_le _, Nat.zero_le _⟩ (fun H locs hP hD hS => ?_)
  refine lv_if_ne (tgt := 13) hx hb d_Rf_fitsRow_8 (by decide) (fun hc => ?_) (fun hc => ?_)
  · have h := o_f hc h
    refine lv_aload_n hx hb d_Rf_fitsRow_13 rfl (lv_at hl 0 rfl) ?_
    refine va_get (D := (dC, dI)) (ci := 6) (v := .ref (a 15)) (C := R_Rf) (T := F_Rf) (N := 4) hx hb hts inb_Rf hown hK hP 0 rfl rfl 2 (by decide) (hts _ tw278) (fun _ h9 => h9) rfl d_Rf_fitsRow_14 ?_
    refine va_get (D := (dC, dI)) (ci := 2) (v := .int (Rw_sort rw)) (C := R_Rw) (T := F_Rw) (N := 4) hx hb hts inb_Rw hown hK hP 15 rfl rfl 0 (by decide) (hts _ tw128) (fun _ h9 => h9) rfl d_Rf_fitsRow_17 ?_
    refine sw_by (x := (Rw_sort rw)) (k := 13) (fun hc => ?_) (fun hn0 => ?_)
    · have h := o_t hc h
      refine sw_in (x := (Rw_sort rw)) (k := 13) hc (lv_tableIn (tgt := 48) hx hb d_Rf_fitsRow_20 (by decide) (by decide) (by rfl) (by decide) ?_)
      refine lv_iload_n hx hb d_Rf_fitsRow_48 rfl (lv_at hl 2 rfl) ?_
      refine lv_if_ne (tgt := 56) hx hb d_Rf_fitsRow_49 (by decide) (fun hc => ?_) (fun hc => ?_)
      · have h := o_f hc h
        refine lv_iconst (v := 0) hx hb d_Rf_fitsRow_56 (by decide) ?_
        cases h
        exact kr_z hx hb hr (by decide) hlocks hP hD hS d_Rf_fitsRow_57
      · have h := o_t hc h
        refine lv_iconst (v := 1) hx hb d_Rf_fitsRow_52 (by decide) ?_
        refine lv_goto (tgt := 57) hx hb d_Rf_fitsRow_53 (by decide) ?_
        cases h
        exact kr_z hx hb hr (by decide) hlocks hP hD hS d_Rf_fitsRow_57
    · have h := o_f hn0 h
      refine sw_by (x := (Rw_sort rw)) (k := 14) (fun hc => ?_) (fun hn1 => ?_)
      · have h := o_t hc h
        refine sw_in (x := (Rw_sort rw)) (k := 14) hc (lv_tableIn (tgt := 58) hx hb d_Rf_fitsRow_20 (by decide) (by decide) (by rfl) (by decide) ?_)
        refine lv_aload_n hx hb d_Rf_fitsRow_58 rfl (lv_at hl 0 rfl) ?_
        refine va_get (D := (dC, dI)) (ci := 6) (v := .ref (a 15)) (C := R_Rf) (T := F_Rf) (N := 4) hx hb hts inb_Rf hown hK hP 0 rfl rfl 2 (by decide) (hts _ tw278) (fun _ h9 => h9) rfl d_Rf_fitsRow_59 ?_
        refine lv_iload_n hx hb d_Rf_fitsRow_62 rfl (lv_at hl 2 rfl) ?_
        obtain ⟨y63, hy, h⟩ := o_bd h
        refine kdV (nn := 17) (rest := []) (w' := (cO cI cJ cZ a ++ cKn cI cJ cZ a kn ++ cTr cI cJ cZ a tr ++ cRw cI cJ cZ a rw)) (wr := (cO cI cJ cZ a ++ cKn cI cJ cZ a kn ++ cTr cI cJ cZ a tr)) (st1 := [.int y63]) ⟨hx, hb, hml, hown, hts⟩ (c_Rw_fitsMark l dC dI cI cJ cZ a x2 rw y63 hy) (cwV 1 hts (gd_V tw380 tw381 tw382 tw4 tw383) rfl rfl rfl hd_Rw_fitsMark ⟨Nat.le_of_ble_eq_true rfl, Nat.le_of_ble_eq_true rfl⟩) hNw hK hP hD hS hA (ci := 2) rfl rfl rfl [15, 16] [0, 1, 2, 3, 4, 5, 6, 7, 8, 9, 10, 11, 12, 13, 14] rfl rfl rfl rfl rfl (by decide +kernel) (by decide +kernel) rfl hl.1 rfl (Nat.le_of_ble_eq_true rfl) rfl d_Rf_fitsRow_63 ⟨Nat.zero_le _, Nat.zero_le _⟩ (fun H locs hP hD hS => ?_)
        refine lv_if_eq (tgt := 87) hx hb d_Rf_fitsRow_66 (by decide) (fun hc => ?_) (fun hc => ?_)
        · have h := o_t hc h
          refine lv_iconst (v := 0) hx hb d_Rf_fitsRow_87 (by decide) ?_
          cases h
          exact kr_z hx hb hr (by decide) hlocks hP hD hS d_Rf_fitsRow_88
        · have h := o_f hc h
          refine lv_iload_n hx hb d_Rf_fitsRow_69 rfl (lv_at hl 2 rfl) ?_
          refine lv_if_ne (tgt := 83) hx hb d_Rf_fitsRow_70 (by decide) (fun hc => ?_) (fun hc => ?_)
          · have h := o_f hc h
            refine lv_iconst (v := 1) hx hb d_Rf_fitsRow_83 (by decide) ?_
            refine lv_goto (tgt := 88) hx hb d_Rf_fitsRow_84 (by decide) ?_
            cases h
            exact kr_z hx hb hr (by decide) hlocks hP hD hS d_Rf_fitsRow_88
          · have h := o_t hc h
            refine lv_aload_n hx hb d_Rf_fitsRow_73 rfl (lv_at hl 0 rfl) ?_
            refine va_get (D := (dC, dI)) (ci := 6) (v := .ref (a 15)) (C := R_Rf) (T := F_Rf) (N := 4) hx hb hts inb_Rf hown hK hP 0 rfl rfl 2 (by decide) (hts _ tw278) (fun _ h9 => h9) rfl d_Rf_fitsRow_74 ?_
            refine va_get (D := (dC, dI)) (ci := 2) (v := .int (Rw_size rw)) (C := R_Rw) (T := F_Rw) (N := 4) hx hb hts inb_Rw hown hK hP 15 rfl rfl 1 (by decide) (hts _ tw130) (fun _ h9 => h9) rfl d_Rf_fitsRow_77 ?_
            refine lv_if_le (tgt := 87) hx hb d_Rf_fitsRow_80 (by decide) (fun hc => ?_) (fun hc => ?_)
            · have h := o_t hc h
              refine lv_iconst (v := 0) hx hb d_Rf_fitsRow_87 (by decide) ?_
              cases h
              exact kr_z hx hb hr (by decide) hlocks hP hD hS d_Rf_fitsRow_88
            · have h := o_f hc h
              refine lv_iconst (v := 1) hx hb d_Rf_fitsRow_83 (by decide) ?_
              refine lv_goto (tgt := 88) hx hb d_Rf_fitsRow_84 (by decide) ?_
              cases h
              exact kr_z hx hb hr (by decide) hlocks hP hD hS d_Rf_fitsRow_88
      · have h := o_f hn1 h
        refine sw_by (x := (Rw_sort rw)) (k := 15) (fun hc => ?_) (fun hn2 => ?_)
        · have h := o_t hc h
          refine sw_in (x := (Rw_sort rw)) (k := 15) hc (lv_tableIn (tgt := 89) hx hb d_Rf_fitsRow_20 (by decide) (by decide) (by rfl) (by decide) ?_)
          refine lv_aload_n hx hb d_Rf_fitsRow_89 rfl (lv_at hl 0 rfl) ?_
          refine va_get (D := (dC, dI)) (ci := 6) (v := .ref (a 15)) (C := R_Rf) (T := F_Rf) (N := 4) hx hb hts inb_Rf hown hK hP 0 rfl rfl 2 (by decide) (hts _ tw278) (fun _ h9 => h9) rfl d_Rf_fitsRow_90 ?_
          refine lv_iload_n hx hb d_Rf_fitsRow_93 rfl (lv_at hl 2 rfl) ?_
          obtain ⟨y94, hy, h⟩ := o_bd h
          refine kdV (nn := 17) (rest := []) (w' := (cO cI cJ cZ a ++ cKn cI cJ cZ a kn ++ cTr cI cJ cZ a tr ++ cRw cI cJ cZ a rw)) (wr := (cO cI cJ cZ a ++ cKn cI cJ cZ a kn ++ cTr cI cJ cZ a tr)) (st1 := [.int y94]) ⟨hx, hb, hml, hown, hts⟩ (c_Rw_fitsMark l dC dI cI cJ cZ a x2 rw y94 hy) (cwV 1 hts (gd_V tw380 tw381 tw382 tw4 tw383) rfl rfl rfl hd_Rw_fitsMark ⟨Nat.le_of_ble_eq_true rfl, Nat.le_of_ble_eq_true rfl⟩) hNw hK hP hD hS hA (ci := 2) rfl rfl rfl [15, 16] [0, 1, 2, 3, 4, 5, 6, 7, 8, 9, 10, 11, 12, 13, 14] rfl rfl rfl rfl rfl (by decide +kernel) (by decide +kernel) rfl hl.1 rfl (Nat.le_of_ble_eq_true rfl) rfl d_Rf_fitsRow_94 ⟨Nat.zero_le _, Nat.zero_le _⟩ (fun H locs hP hD hS => ?_)
          refine lv_if_eq (tgt := 123) hx hb d_Rf_fitsRow_97 (by decide) (fun hc => ?_) (fun hc => ?_)
          · have h := o_t hc h
            refine lv_iconst (v := 0) hx hb d_Rf_fitsRow_123 (by decide) ?_
            cases h
            exact kr_z hx hb hr (by decide) hlocks hP hD hS d_Rf_fitsRow_124
          · have h := o_f hc h
            refine lv_iload_n hx hb d_Rf_fitsRow_100 rfl (lv_at hl 2 rfl) ?_
            refine lv_if_eq (tgt := 123) hx hb d_Rf_fitsRow_101 (by decide) (fun hc => ?_) (fun hc => ?_)
            · have h := o_t hc h
              refine lv_iconst (v := 0) hx hb d_Rf_fitsRow_123 (by decide) ?_
              cases h
              exact kr_z hx hb hr (by decide) hlocks hP hD hS d_Rf_fitsRow_124
            · have h := o_f hc h
              refine lv_aload_n hx hb d_Rf_fitsRow_104 rfl (lv_at hl 0 rfl) ?_
              refine va_get (D := (dC, dI)) (ci := 6) (v := .ref (a 4)) (C := R_Rf) (T := F_Rf) (N := 4) hx hb hts inb_Rf hown hK hP 0 rfl rfl 1 (by decide) (hts _ tw277) (fun _ h9 => h9) rfl d_Rf_fitsRow_105 ?_
              refine va_get (D := (dC, dI)) (ci := 1) (v := .ref (a 5)) (C := R_Tr) (T := F_Tr) (N := 14) hx hb hts inb_Tr hown hK hP 4 rfl rfl 4 (by decide) (hts _ tw66) (fun _ h9 => h9) rfl d_Rf_fitsRow_108 ?_
              refine lv_iload_n hx hb d_Rf_fitsRow_111 rfl (lv_at hl 1 rfl) ?_
              obtain ⟨hin, h⟩ := o_in h
              refine va_iald hx hb hK hP 5 0 rfl rfl hin d_Rf_fitsRow_112 ?_
              obtain ⟨y113, hy, h⟩ := o_bd h
              refine kdS (nn := 17) (rest := []) (w' := (cO cI cJ cZ a ++ cKn cI cJ cZ a kn ++ cTr cI cJ cZ a tr ++ cRw cI cJ cZ a rw)) (wr := (cO cI cJ cZ a ++ cKn cI cJ cZ a kn ++ cTr cI cJ cZ a tr ++ cRw cI cJ cZ a rw)) (st1 := [.int y113]) ⟨hx, hb, hml, hown, hts⟩ (c_Rf_fitsRules l dC dI cI cJ cZ a ((Tr_sort tr) x1.toNatClampNeg) y113 hy) (va_cwS 1 hts (gd_S tw384 tw385 tw1 tw386) rfl rfl rfl hd_Rf_fitsRules.2 ⟨Nat.le_of_ble_eq_true rfl, Nat.le_of_ble_eq_true rfl⟩) hNw hK hP hD hS hA [] [0, 1, 2, 3, 4, 5, 6, 7, 8, 9, 10, 11, 12, 13, 14, 15, 16] rfl rfl rfl rfl rfl (by decide +kernel) (by decide +kernel) rfl hl.1 rfl (Nat.le_of_ble_eq_true rfl) rfl d_Rf_fitsRow_113 ⟨Nat.zero_le _, Nat.zero_le _⟩ (fun H locs hP hD hS => ?_)
              refine lv_if_eq (tgt := 123) hx hb d_Rf_fitsRow_116 (by decide) (fun hc => ?_) (fun hc => ?_)
              · have h := o_t hc h
                refine lv_iconst (v := 0) hx hb d_Rf_fitsRow_123 (by decide) ?_
                cases h
                exact kr_z hx hb hr (by decide) hlocks hP hD hS d_Rf_fitsRow_124
              · have h := o_f hc h
                refine lv_iconst (v := 1) hx hb d_Rf_fitsRow_119 (by decide) ?_
                refine lv_goto (tgt := 124) hx hb d_Rf_fitsRow_120 (by decide) ?_
                cases h
                exact kr_z hx hb hr (by decide) hlocks hP hD hS d_Rf_fitsRow_124
        · have h := o_f hn2 h
          refine lv_tableOut (tgt := 125) hx hb d_Rf_fitsRow_20 (by have g0 := sw_ne hn0 (show (13 : Int32).toInt = 13 by decide); have g1 := sw_ne hn1 (show (14 : Int32).toInt = 14 by decide); have g2 := sw_ne hn2 (show (15 : Int32).toInt = 15 by decide); omega) (by decide) ?_
          refine lv_aload_n hx hb d_Rf_fitsRow_125 rfl (lv_at hl 0 rfl) ?_
          refine va_get (D := (dC, dI)) (ci := 6) (v := .ref (a 4)) (C := R_Rf) (T := F_Rf) (N := 4) hx hb hts inb_Rf hown hK hP 0 rfl rfl 1 (by decide) (hts _ tw277) (fun _ h9 => h9) rfl d_Rf_fitsRow_126 ?_
          refine lv_iload_n hx hb d_Rf_fitsRow_129 rfl (lv_at hl 1 rfl) ?_
          obtain ⟨y130, hy, h⟩ := o_bd h
          refine kdV (nn := 17) (rest := []) (w' := (cO cI cJ cZ a ++ cKn cI cJ cZ a kn ++ cTr cI cJ cZ a tr ++ cRw cI cJ cZ a rw)) (wr := (cO cI cJ cZ a ++ cKn cI cJ cZ a kn ++ cRw cI cJ cZ a rw)) (st1 := [.int y130]) ⟨hx, hb, hml, hown, hts⟩ (c_Tr_isFreeBlock l dC dI cI cJ cZ a x1 tr y130 hy) (cwV 1 hts (gd_V tw332 tw333 tw334 tw3 tw335) rfl rfl rfl hd_Tr_isFreeBlock ⟨Nat.le_of_ble_eq_true rfl, Nat.le_of_ble_eq_true rfl⟩) hNw hK hP hD hS hA (ci := 1) rfl rfl rfl [4, 5, 6, 7, 8, 9, 10, 11, 12, 13, 14] [0, 1, 2, 3, 15, 16] rfl rfl rfl rfl rfl (by decide +kernel) (by decide +kernel) rfl hl.1 rfl (Nat.le_of_ble_eq_true rfl) rfl d_Rf_fitsRow_130 ⟨Nat.zero_le _, Nat.zero_le _⟩ (fun H locs hP hD hS => ?_)
          refine lv_if_eq (tgt := 169) hx hb d_Rf_fitsRow_133 (by decide) (fun hc => ?_) (fun hc => ?_)
          · have h := o_t hc h
            refine lv_iconst (v := 0) hx hb d_Rf_fitsRow_169 (by decide) ?_
            cases h
            exact kr_z hx hb hr (by decide) hlocks hP hD hS d_Rf_fitsRow_170
          · have h := o_f hc h
            refine lv_aload_n hx hb d_Rf_fitsRow_136 rfl (lv_at hl 0 rfl) ?_
            refine va_get (D := (dC, dI)) (ci := 6) (v := .ref (a 15)) (C := R_Rf) (T := F_Rf) (N := 4) hx hb hts inb_Rf hown hK hP 0 rfl rfl 2 (by decide) (hts _ tw278) (fun _ h9 => h9) rfl d_Rf_fitsRow_137 ?_
            refine va_get (D := (dC, dI)) (ci := 2) (v := .int (Rw_size rw)) (C := R_Rw) (T := F_Rw) (N := 4) hx hb hts inb_Rw hown hK hP 15 rfl rfl 1 (by decide) (hts _ tw130) (fun _ h9 => h9) rfl d_Rf_fitsRow_140 ?_
            refine lv_if_ne (tgt := 154) hx hb d_Rf_fitsRow_143 (by decide) (fun hc => ?_) (fun hc => ?_)
            · have h := o_f hc h
              refine lv_aload_n hx hb d_Rf_fitsRow_154 rfl (lv_at hl 0 rfl) ?_
              refine va_get (D := (dC, dI)) (ci := 6) (v := .ref (a 1)) (C := R_Rf) (T := F_Rf) (N := 4) hx hb hts inb_Rf hown hK hP 0 rfl rfl 0 (by decide) (hts _ tw276) (fun _ h9 => h9) rfl d_Rf_fitsRow_155 ?_
              refine lv_iload_n hx hb d_Rf_fitsRow_158 rfl (lv_at hl 2 rfl) ?_
              obtain ⟨y159, hy, h⟩ := o_bd h
              refine kdV (nn := 17) (rest := []) (w' := (cO cI cJ cZ a ++ cKn cI cJ cZ a kn ++ cTr cI cJ cZ a tr ++ cRw cI cJ cZ a rw)) (wr := (cO cI cJ cZ a ++ cTr cI cJ cZ a tr ++ cRw cI cJ cZ a rw)) (st1 := [.int y159]) ⟨hx, hb, hml, hown, hts⟩ (c_Kn_has l dC dI cI cJ cZ a x2 kn y159 hy) (cwV 1 hts (gd_V tw307 tw308 tw309 tw2 tw310) rfl rfl rfl hd_Kn_has ⟨Nat.le_of_ble_eq_true rfl, Nat.le_of_ble_eq_true rfl⟩) hNw hK hP hD hS hA (ci := 0) rfl rfl rfl [1, 2, 3] [0, 4, 5, 6, 7, 8, 9, 10, 11, 12, 13, 14, 15, 16] rfl rfl rfl rfl rfl (by decide +kernel) (by decide +kernel) rfl hl.1 rfl (Nat.le_of_ble_eq_true rfl) rfl d_Rf_fitsRow_159 ⟨Nat.zero_le _, Nat.zero_le _⟩ (fun H locs hP hD hS => ?_)
              refine lv_if_eq (tgt := 169) hx hb d_Rf_fitsRow_162 (by decide) (fun hc => ?_) (fun hc => ?_)
              · have h := o_t hc h
                refine lv_iconst (v := 0) hx hb d_Rf_fitsRow_169 (by decide) ?_
                cases h
                exact kr_z hx hb hr (by decide) hlocks hP hD hS d_Rf_fitsRow_170
              · have h := o_f hc h
                refine lv_iconst (v := 1) hx hb d_Rf_fitsRow_165 (by decide) ?_
                refine lv_goto (tgt := 170) hx hb d_Rf_fitsRow_166 (by decide) ?_
                cases h
                exact kr_z hx hb hr (by decide) hlocks hP hD hS d_Rf_fitsRow_170
            · have h := o_t hc h
              refine lv_iload_n hx hb d_Rf_fitsRow_146 rfl (lv_at hl 2 rfl) ?_
              refine lv_iconst (v := -1) hx hb d_Rf_fitsRow_147 (by decide) ?_
              refine lv_icmp_ne (tgt := 169) hx hb d_Rf_fitsRow_148 (by decide) (fun hc => ?_) (fun hc => ?_)
              · have h := o_f hc h
                refine lv_iconst (v := 0) hx hb d_Rf_fitsRow_169 (by decide) ?_
                cases h
                exact kr_z hx hb hr (by decide) hlocks hP hD hS d_Rf_fitsRow_170
              · have h := o_t hc h
                refine lv_goto (tgt := 165) hx hb d_Rf_fitsRow_151 (by decide) ?_
                refine lv_iconst (v := 1) hx hb d_Rf_fitsRow_165 (by decide) ?_
                refine lv_goto (tgt := 170) hx hb d_Rf_fitsRow_166 (by decide) ?_
                cases h
                exact kr_z hx hb hr (by decide) hlocks hP hD hS d_Rf_fitsRow_170
  · have h := o_t hc h
    refine lv_iconst (v := 0) hx hb d_Rf_fitsRow_11 (by decide) ?_
    cases h
    exact kr_z hx hb hr (by decide) hlocks hP hD hS d_Rf_fitsRow_12
set_option maxHeartbeats 4000000 in
set_option maxRecDepth 100000 in
theorem c_Rf_put (l : Launch) (dC : Nat → ClassId) (dI : Nat → Nat → Nat) (cI cJ cZ : ClassId) (a : Nat → Nat) (x1 : Int32) (x2 : Int32) (kn : KnS) (tr : TrS) (rw : RwS) (res : Int32 × TrS × RwS) (h : f_Rf_put x1 x2 kn tr rw = some res) :
    Kt l (dC, dI) classes [(cI, .int), (cJ, .long), (cZ, .boolean)] y_Rf_put (wz y_Rf_put b_Rf_put 3 (some .int)) { frames := 4, cells := 0, slots := 0, locals := 86 } [.ref (a 0), .int x1, .int x2] (cO cI cJ cZ a ++ cKn cI cJ cZ a kn ++ cTr cI cJ cZ a tr ++ cRw cI cJ cZ a rw) (some (.int res.1)) (cO cI cJ cZ a ++ cKn cI cJ cZ a kn ++ cTr cI cJ cZ a res.2.1 ++ cRw cI cJ cZ a res.2.2) := by
  refine Kt_of (cc := b_Rf_put) (maxL := 3) (ret := (some .int)) (by decide) (Nat.le_of_ble_eq_true rfl) ?_
  intro p e s m args below meth c A ls hx hb hr hml hlocks hown hts hNw hK hP hD hA hS hl
  have hl : lv_has ls 3 [(0, .ref (a 0)), (1, .int x1), (2, .int x2)] := hl
  have hP : va_P (dC, dI) classes (cO cI cJ cZ a ++ cKn cI cJ cZ a kn ++ cTr cI cJ cZ a tr ++ cRw cI cJ cZ a rw) s.heap := hP
  have B47 : ∀ (z0_47 : Int32) (z1_47 : Int32) (x1_47 : Int32) (x2_47 : Int32) (tr_47 : TrS) (rw_47 : RwS) (H : Heap) (locs : List Loc) (ls : Array Slot), f_Rf_put_b47 z0_47 z1_47 x1_47 x2_47 kn tr_47 rw_47 = some res → va_P (dC, dI) classes (cO cI cJ cZ a ++ cKn cI cJ cZ a kn ++ cTr cI cJ cZ a tr_47 ++ cRw cI cJ cZ a rw_47) H → va_D A (cO cI cJ cZ a ++ cKn cI cJ cZ a kn ++ cTr cI cJ cZ a tr_47 ++ cRw cI cJ cZ a rw_47) → va_S A s.heap H locs → lv_has ls 3 [(0, .ref (a 0)), (1, .int x1_47), (2, .int x2_47)] → W p l e { frames := 4, cells := 0, slots := 0, locals := 86 } s m args below meth c H locs 0 0 (KZ below args s (dC, dI) classes (some (.int res.1)) (cO cI cJ cZ a ++ cKn cI cJ cZ a kn ++ cTr cI cJ cZ a res.2.1 ++ cRw cI cJ cZ a res.2.2) A) (F0 m 47 ls [.int z0_47, .int z1_47, .ref (a 4)]) := by
    intro z0_47 z1_47 x1_47 x2_47 tr_47 rw_47 H locs ls h hP hD hS hl
    obtain ⟨y47, hy, h⟩ := o_bd h
    refine kdV (nn := 17) (rest := []) (w' := (cO cI cJ cZ a ++ cKn cI cJ cZ a kn ++ cTr cI cJ cZ a y47 ++ cRw cI cJ cZ a rw_47)) (wr := (cO cI cJ cZ a ++ cKn cI cJ cZ a kn ++ cRw cI cJ cZ a rw_47)) (st1 := []) ⟨hx, hb, hml, hown, hts⟩ (c_Tr_take l dC dI cI cJ cZ a z1_47 z0_47 tr_47 y47 hy) (cwV 2 hts (gd_V tw387 tw388 tw389 tw3 tw390) rfl rfl rfl hd_Tr_take ⟨Nat.le_of_ble_eq_true rfl, Nat.le_of_ble_eq_true rfl⟩) hNw hK hP hD hS hA (ci := 1) rfl rfl rfl [4, 5, 6, 7, 8, 9, 10, 11, 12, 13, 14] [0, 1, 2, 3, 15, 16] rfl rfl rfl rfl rfl (by decide +kernel) (by decide +kernel) rfl hl.1 rfl (Nat.le_of_ble_eq_true rfl) rfl d_Rf_put_47 ⟨Nat.zero_le _, Nat.zero_le _⟩ (fun H locs hP hD hS => ?_)
    refine lv_aload_n hx hb d_Rf_put_50 rfl (lv_at hl 0 rfl) ?_
    refine va_get (D := (dC, dI)) (ci := 6) (v := .ref (a 15)) (C := R_Rf) (T := F_Rf) (N := 4) hx hb hts inb_Rf hown hK hP 0 rfl rfl 2 (by decide) (hts _ tw278) (fun _ h9 => h9) rfl d_Rf_put_51 ?_
    refine lv_iload_n hx hb d_Rf_put_54 rfl (lv_at hl 1 rfl) ?_
    refine lv_iload_n hx hb d_Rf_put_55 rfl (lv_at hl 2 rfl) ?_
    obtain ⟨y56, hy, h⟩ := o_bd h
    refine kdV (nn := 17) (rest := []) (w' := (cO cI cJ cZ a ++ cKn cI cJ cZ a kn ++ cTr cI cJ cZ a y47 ++ cRw cI cJ cZ a y56)) (wr := (cO cI cJ cZ a ++ cKn cI cJ cZ a kn ++ cTr cI cJ cZ a y47)) (st1 := []) ⟨hx, hb, hml, hown, hts⟩ (c_Rw_add l dC dI cI cJ cZ a x1_47 x2_47 rw_47 y56 hy) (cwV 2 hts (gd_V tw391 tw392 tw393 tw4 tw394) rfl rfl rfl hd_Rw_add ⟨Nat.le_of_ble_eq_true rfl, Nat.le_of_ble_eq_true rfl⟩) hNw hK hP hD hS hA (ci := 2) rfl rfl rfl [15, 16] [0, 1, 2, 3, 4, 5, 6, 7, 8, 9, 10, 11, 12, 13, 14] rfl rfl rfl rfl rfl (by decide +kernel) (by decide +kernel) rfl hl.1 rfl (Nat.le_of_ble_eq_true rfl) rfl d_Rf_put_56 ⟨Nat.zero_le _, Nat.zero_le _⟩ (fun H locs hP hD hS => ?_)
    refine lv_aload_n hx hb d_Rf_put_59 rfl (lv_at hl 0 rfl) ?_
    refine va_get (D := (dC, dI)) (ci := 6) (v := .ref (a 15)) (C := R_Rf) (T := F_Rf) (N := 4) hx hb hts inb_Rf hown hK hP 0 rfl rfl 2 (by decide) (hts _ tw278) (fun _ h9 => h9) rfl d_Rf_put_60 ?_
    refine va_get (D := (dC, dI)) (ci := 2) (v := .int (Rw_size y56)) (C := R_Rw) (T := F_Rw) (N := 4) hx hb hts inb_Rw hown hK hP 15 rfl rfl 1 (by decide) (hts _ tw130) (fun _ h9 => h9) rfl d_Rf_put_63 ?_
    cases h
    exact kr_i hx hb hr hlocks hP hD hS d_Rf_put_66
  refine lv_aload_n hx hb d_Rf_put_0 rfl (lv_at hl 0 rfl) ?_
  refine va_get (D := (dC, dI)) (ci := 6) (v := .ref (a 15)) (C := R_Rf) (T := F_Rf) (N := 4) hx hb hts inb_Rf hown hK hP 0 rfl rfl 2 (by decide) (hts _ tw278) (fun _ h9 => h9) rfl d_Rf_put_1 ?_
  obtain ⟨y4, hy, h⟩ := o_bd h
  refine kdV (nn := 17) (rest := []) (w' := (cO cI cJ cZ a ++ cKn cI cJ cZ a kn ++ cTr cI cJ cZ a tr ++ cRw cI cJ cZ a rw)) (wr := (cO cI cJ cZ a ++ cKn cI cJ cZ a kn ++ cTr cI cJ cZ a tr)) (st1 := [.int y4]) ⟨hx, hb, hml, hown, hts⟩ (c_Rw_isOpen l dC dI cI cJ cZ a rw y4 hy) (cwV 0 hts (gd_V tw364 tw365 tw366 tw4 tw367) rfl rfl rfl hd_Rw_isOpen ⟨Nat.le_of_ble_eq_true rfl, Nat.le_of_ble_eq_true rfl⟩) hNw hK hP hD hS hA (ci := 2) rfl rfl rfl [15, 16] [0, 1, 2, 3, 4, 5, 6, 7, 8, 9, 10, 11, 12, 13, 14] rfl rfl rfl rfl rfl (by decide +kernel) (by decide +kernel) rfl hl.1 rfl (Nat.le_of_ble_eq_true rfl) rfl d_Rf_put_4 ⟨Nat.zero_le _, Nat.zero_le _⟩ (fun H locs hP hD hS => ?_)
  refine lv_if_ne (tgt := 13) hx hb d_Rf_put_7 (by decide) (fun hc => ?_) (fun hc => ?_)
  · have h := o_f hc h
    refine lv_aload_n hx hb d_Rf_put_13 rfl (lv_at hl 0 rfl) ?_
    refine lv_iload_n hx hb d_Rf_put_14 rfl (lv_at hl 1 rfl) ?_
    refine lv_iload_n hx hb d_Rf_put_15 rfl (lv_at hl 2 rfl) ?_
    obtain ⟨y16, hy, h⟩ := o_bd h
    refine kdV (nn := 17) (rest := []) (w' := (cO cI cJ cZ a ++ cKn cI cJ cZ a kn ++ cTr cI cJ cZ a tr ++ cRw cI cJ cZ a rw)) (wr := ([] : va_W)) (st1 := [.int y16]) ⟨hx, hb, hml, hown, hts⟩ (c_Rf_fitsRow l dC dI cI cJ cZ a x1 x2 kn tr rw y16 hy) (cwV 2 hts (gd_V tw376 tw378 ps2 tw1 tw379) rfl rfl rfl hd_Rf_fitsRow ⟨Nat.le_of_ble_eq_true rfl, Nat.le_of_ble_eq_true rfl⟩) hNw hK hP hD hS hA (ci := 6) rfl rfl rfl [0, 1, 2, 3, 4, 5, 6, 7, 8, 9, 10, 11, 12, 13, 14, 15, 16] [] rfl rfl rfl rfl rfl (by decide +kernel) (by decide +kernel) rfl hl.1 rfl (Nat.le_of_ble_eq_true rfl) rfl d_Rf_put_16 ⟨Nat.zero_le _, Nat.zero_le _⟩ (fun H locs hP hD hS => ?_)
    refine lv_if_ne (tgt := 25) hx hb d_Rf_put_19 (by decide) (fun hc => ?_) (fun hc => ?_)
    · have h := o_f hc h
      refine lv_aload_n hx hb d_Rf_put_25 rfl (lv_at hl 0 rfl) ?_
      refine va_get (D := (dC, dI)) (ci := 6) (v := .ref (a 4)) (C := R_Rf) (T := F_Rf) (N := 4) hx hb hts inb_Rf hown hK hP 0 rfl rfl 1 (by decide) (hts _ tw277) (fun _ h9 => h9) rfl d_Rf_put_26 ?_
      refine lv_iload_n hx hb d_Rf_put_29 rfl (lv_at hl 1 rfl) ?_
      refine lv_aload_n hx hb d_Rf_put_30 rfl (lv_at hl 0 rfl) ?_
      refine va_get (D := (dC, dI)) (ci := 6) (v := .ref (a 15)) (C := R_Rf) (T := F_Rf) (N := 4) hx hb hts inb_Rf hown hK hP 0 rfl rfl 2 (by decide) (hts _ tw278) (fun _ h9 => h9) rfl d_Rf_put_31 ?_
      refine va_get (D := (dC, dI)) (ci := 2) (v := .int (Rw_sort rw)) (C := R_Rw) (T := F_Rw) (N := 4) hx hb hts inb_Rw hown hK hP 15 rfl rfl 0 (by decide) (hts _ tw128) (fun _ h9 => h9) rfl d_Rf_put_34 ?_
      refine lv_bipush (v := 13) hx hb d_Rf_put_37 (by decide) ?_
      refine lv_icmp_ne (tgt := 46) hx hb d_Rf_put_39 (by decide) (fun hc => ?_) (fun hc => ?_)
      · have h := o_f hc h
        refine lv_iload_n hx hb d_Rf_put_46 rfl (lv_at hl 2 rfl) ?_
        exact B47 x2 x1 x1 x2 tr rw _ _ _ h hP hD hS (lv_sub hl [0, 1, 2] rfl)
      · have h := o_t hc h
        refine lv_iconst (v := -1) hx hb d_Rf_put_42 (by decide) ?_
        refine lv_goto (tgt := 47) hx hb d_Rf_put_43 (by decide) ?_
        exact B47 (-1 : Int32) x1 x1 x2 tr rw _ _ _ h hP hD hS (lv_sub hl [0, 1, 2] rfl)
    · have h := o_t hc h
      refine lv_bipush (v := -2) hx hb d_Rf_put_22 (by decide) ?_
      cases h
      exact kr_i hx hb hr hlocks hP hD hS d_Rf_put_24
  · have h := o_t hc h
    refine lv_bipush (v := -4) hx hb d_Rf_put_10 (by decide) ?_
    cases h
    exact kr_i hx hb hr hlocks hP hD hS d_Rf_put_12
set_option maxHeartbeats 4000000 in
set_option maxRecDepth 100000 in
theorem c_Rf_fitsEnd (l : Launch) (dC : Nat → ClassId) (dI : Nat → Nat → Nat) (cI cJ cZ : ClassId) (a : Nat → Nat) (x1 : Int32) (tr : TrS) (rw : RwS) (res : Int32) (h : f_Rf_fitsEnd x1 tr rw = some res) :
    Kt l (dC, dI) classes [(cI, .int), (cJ, .long), (cZ, .boolean)] y_Rf_fitsEnd (wz y_Rf_fitsEnd b_Rf_fitsEnd 2 (some .boolean)) { frames := 3, cells := 0, slots := 0, locals := 64 } [.ref (a 0), .int x1] (cO cI cJ cZ a ++ cTr cI cJ cZ a tr ++ cRw cI cJ cZ a rw) (some (.int res)) (cO cI cJ cZ a ++ cTr cI cJ cZ a tr ++ cRw cI cJ cZ a rw) := by
  refine Kt_of (cc := b_Rf_fitsEnd) (maxL := 2) (ret := (some .boolean)) (by decide) (Nat.le_of_ble_eq_true rfl) ?_
  intro p e s m args below meth c A ls hx hb hr hml hlocks hown hts hNw hK hP hD hA hS hl
  have hl : lv_has ls 2 [(0, .ref (a 0)), (1, .int x1)] := hl
  have hP : va_P (dC, dI) classes (cO cI cJ cZ a ++ cTr cI cJ cZ a tr ++ cRw cI cJ cZ a rw) s.heap := hP
  refine lv_aload_n hx hb d_Rf_fitsEnd_0 rfl (lv_at hl 0 rfl) ?_
  refine va_get (D := (dC, dI)) (ci := 6) (v := .ref (a 15)) (C := R_Rf) (T := F_Rf) (N := 4) hx hb hts inb_Rf hown hK hP 0 rfl rfl 2 (by decide) (hts _ tw278) (fun _ h9 => h9) rfl d_Rf_fitsEnd_1 ?_
  refine va_get (D := (dC, dI)) (ci := 2) (v := .int (Rw_sort rw)) (C := R_Rw) (T := F_Rw) (N := 4) hx hb hts inb_Rw hown hK hP 12 rfl rfl 0 (by decide) (hts _ tw128) (fun _ h9 => h9) rfl d_Rf_fitsEnd_4 ?_
  refine lv_bipush (v := 14) hx hb d_Rf_fitsEnd_7 (by decide) ?_
  refine lv_icmp_ne (tgt := 21) hx hb d_Rf_fitsEnd_9 (by decide) (fun hc => ?_) (fun hc => ?_)
  · have h := o_f hc h
    refine lv_aload_n hx hb d_Rf_fitsEnd_21 rfl (lv_at hl 0 rfl) ?_
    refine va_get (D := (dC, dI)) (ci := 6) (v := .ref (a 15)) (C := R_Rf) (T := F_Rf) (N := 4) hx hb hts inb_Rf hown hK hP 0 rfl rfl 2 (by decide) (hts _ tw278) (fun _ h9 => h9) rfl d_Rf_fitsEnd_22 ?_
    refine va_get (D := (dC, dI)) (ci := 2) (v := .int (Rw_sort rw)) (C := R_Rw) (T := F_Rw) (N := 4) hx hb hts inb_Rw hown hK hP 12 rfl rfl 0 (by decide) (hts _ tw128) (fun _ h9 => h9) rfl d_Rf_fitsEnd_25 ?_
    refine lv_bipush (v := 16) hx hb d_Rf_fitsEnd_28 (by decide) ?_
    refine lv_icmp_ne (tgt := 79) hx hb d_Rf_fitsEnd_30 (by decide) (fun hc => ?_) (fun hc => ?_)
    · have h := o_f hc h
      refine lv_iload_n hx hb d_Rf_fitsEnd_79 rfl (lv_at hl 1 rfl) ?_
      refine lv_if_ne (tgt := 87) hx hb d_Rf_fitsEnd_80 (by decide) (fun hc => ?_) (fun hc => ?_)
      · have h := o_f hc h
        refine lv_iconst (v := 0) hx hb d_Rf_fitsEnd_87 (by decide) ?_
        cases h
        exact kr_z hx hb hr (by decide) hlocks hP hD hS d_Rf_fitsEnd_88
      · have h := o_t hc h
        refine lv_iconst (v := 1) hx hb d_Rf_fitsEnd_83 (by decide) ?_
        refine lv_goto (tgt := 88) hx hb d_Rf_fitsEnd_84 (by decide) ?_
        cases h
        exact kr_z hx hb hr (by decide) hlocks hP hD hS d_Rf_fitsEnd_88
    · have h := o_t hc h
      refine lv_aload_n hx hb d_Rf_fitsEnd_33 rfl (lv_at hl 0 rfl) ?_
      refine va_get (D := (dC, dI)) (ci := 6) (v := .ref (a 15)) (C := R_Rf) (T := F_Rf) (N := 4) hx hb hts inb_Rf hown hK hP 0 rfl rfl 2 (by decide) (hts _ tw278) (fun _ h9 => h9) rfl d_Rf_fitsEnd_34 ?_
      refine va_get (D := (dC, dI)) (ci := 2) (v := .int (Rw_size rw)) (C := R_Rw) (T := F_Rw) (N := 4) hx hb hts inb_Rw hown hK hP 12 rfl rfl 1 (by decide) (hts _ tw130) (fun _ h9 => h9) rfl d_Rf_fitsEnd_37 ?_
      refine lv_if_le (tgt := 77) hx hb d_Rf_fitsEnd_40 (by decide) (fun hc => ?_) (fun hc => ?_)
      · have h := o_t hc h
        refine lv_iconst (v := 0) hx hb d_Rf_fitsEnd_77 (by decide) ?_
        cases h
        exact kr_z hx hb hr (by decide) hlocks hP hD hS d_Rf_fitsEnd_78
      · have h := o_f hc h
        refine lv_iload_n hx hb d_Rf_fitsEnd_43 rfl (lv_at hl 1 rfl) ?_
        refine lv_iconst (v := -1) hx hb d_Rf_fitsEnd_44 (by decide) ?_
        refine lv_icmp_ne (tgt := 62) hx hb d_Rf_fitsEnd_45 (by decide) (fun hc => ?_) (fun hc => ?_)
        · have h := o_f hc h
          refine lv_aload_n hx hb d_Rf_fitsEnd_62 rfl (lv_at hl 0 rfl) ?_
          refine va_get (D := (dC, dI)) (ci := 6) (v := .ref (a 4)) (C := R_Rf) (T := F_Rf) (N := 4) hx hb hts inb_Rf hown hK hP 0 rfl rfl 1 (by decide) (hts _ tw277) (fun _ h9 => h9) rfl d_Rf_fitsEnd_63 ?_
          refine lv_iload_n hx hb d_Rf_fitsEnd_66 rfl (lv_at hl 1 rfl) ?_
          obtain ⟨y67, hy, h⟩ := o_bd h
          refine kdV (nn := 14) (rest := []) (w' := (cO cI cJ cZ a ++ cTr cI cJ cZ a tr ++ cRw cI cJ cZ a rw)) (wr := (cO cI cJ cZ a ++ cRw cI cJ cZ a rw)) (st1 := [.int y67]) ⟨hx, hb, hml, hown, hts⟩ (c_Tr_isFreeBlock l dC dI cI cJ cZ a x1 tr y67 hy) (cwV 1 hts (gd_V tw332 tw333 tw334 tw3 tw335) rfl rfl rfl hd_Tr_isFreeBlock ⟨Nat.le_of_ble_eq_true rfl, Nat.le_of_ble_eq_true rfl⟩) hNw hK hP hD hS hA (ci := 1) rfl rfl rfl [1, 2, 3, 4, 5, 6, 7, 8, 9, 10, 11] [0, 12, 13] rfl rfl rfl rfl rfl (by decide +kernel) (by decide +kernel) rfl hl.1 rfl (Nat.le_of_ble_eq_true rfl) rfl d_Rf_fitsEnd_67 ⟨Nat.zero_le _, Nat.zero_le _⟩ (fun H locs hP hD hS => ?_)
          refine lv_if_eq (tgt := 77) hx hb d_Rf_fitsEnd_70 (by decide) (fun hc => ?_) (fun hc => ?_)
          · have h := o_t hc h
            refine lv_iconst (v := 0) hx hb d_Rf_fitsEnd_77 (by decide) ?_
            cases h
            exact kr_z hx hb hr (by decide) hlocks hP hD hS d_Rf_fitsEnd_78
          · have h := o_f hc h
            refine lv_iconst (v := 1) hx hb d_Rf_fitsEnd_73 (by decide) ?_
            refine lv_goto (tgt := 78) hx hb d_Rf_fitsEnd_74 (by decide) ?_
            cases h
            exact kr_z hx hb hr (by decide) hlocks hP hD hS d_Rf_fitsEnd_78
        · have h := o_t hc h
          refine lv_aload_n hx hb d_Rf_fitsEnd_48 rfl (lv_at hl 0 rfl) ?_
          refine va_get (D := (dC, dI)) (ci := 6) (v := .ref (a 15)) (C := R_Rf) (T := F_Rf) (N := 4) hx hb hts inb_Rf hown hK hP 0 rfl rfl 2 (by decide) (hts _ tw278) (fun _ h9 => h9) rfl d_Rf_fitsEnd_49 ?_
          refine va_get (D := (dC, dI)) (ci := 2) (v := .int (Rw_size rw)) (C := R_Rw) (T := F_Rw) (N := 4) hx hb hts inb_Rw hown hK hP 12 rfl rfl 1 (by decide) (hts _ tw130) (fun _ h9 => h9) rfl d_Rf_fitsEnd_52 ?_
          refine lv_iconst (v := 1) hx hb d_Rf_fitsEnd_55 (by decide) ?_
          refine lv_icmp_le (tgt := 77) hx hb d_Rf_fitsEnd_56 (by decide) (fun hc => ?_) (fun hc => ?_)
          · have h := o_t hc h
            refine lv_iconst (v := 0) hx hb d_Rf_fitsEnd_77 (by decide) ?_
            cases h
            exact kr_z hx hb hr (by decide) hlocks hP hD hS d_Rf_fitsEnd_78
          · have h := o_f hc h
            refine lv_goto (tgt := 73) hx hb d_Rf_fitsEnd_59 (by decide) ?_
            refine lv_iconst (v := 1) hx hb d_Rf_fitsEnd_73 (by decide) ?_
            refine lv_goto (tgt := 78) hx hb d_Rf_fitsEnd_74 (by decide) ?_
            cases h
            exact kr_z hx hb hr (by decide) hlocks hP hD hS d_Rf_fitsEnd_78
  · have h := o_t hc h
    refine lv_aload_n hx hb d_Rf_fitsEnd_12 rfl (lv_at hl 0 rfl) ?_
    refine va_get (D := (dC, dI)) (ci := 6) (v := .ref (a 15)) (C := R_Rf) (T := F_Rf) (N := 4) hx hb hts inb_Rf hown hK hP 0 rfl rfl 2 (by decide) (hts _ tw278) (fun _ h9 => h9) rfl d_Rf_fitsEnd_13 ?_
    refine lv_iload_n hx hb d_Rf_fitsEnd_16 rfl (lv_at hl 1 rfl) ?_
    obtain ⟨y17, hy, h⟩ := o_bd h
    refine kdV (nn := 14) (rest := []) (w' := (cO cI cJ cZ a ++ cTr cI cJ cZ a tr ++ cRw cI cJ cZ a rw)) (wr := (cO cI cJ cZ a ++ cTr cI cJ cZ a tr)) (st1 := [.int y17]) ⟨hx, hb, hml, hown, hts⟩ (c_Rw_fitsMark l dC dI cI cJ cZ a x1 rw y17 hy) (cwV 1 hts (gd_V tw380 tw381 tw382 tw4 tw383) rfl rfl rfl hd_Rw_fitsMark ⟨Nat.le_of_ble_eq_true rfl, Nat.le_of_ble_eq_true rfl⟩) hNw hK hP hD hS hA (ci := 2) rfl rfl rfl [12, 13] [0, 1, 2, 3, 4, 5, 6, 7, 8, 9, 10, 11] rfl rfl rfl rfl rfl (by decide +kernel) (by decide +kernel) rfl hl.1 rfl (Nat.le_of_ble_eq_true rfl) rfl d_Rf_fitsEnd_17 ⟨Nat.zero_le _, Nat.zero_le _⟩ (fun H locs hP hD hS => ?_)
    obtain ⟨hbo, h⟩ := o_bo h
    cases h
    exact kr_z hx hb hr hbo hlocks hP hD hS d_Rf_fitsEnd_20
set_option maxHeartbeats 4000000 in
set_option maxRecDepth 100000 in
theorem c_Rf_end (l : Launch) (dC : Nat → ClassId) (dI : Nat → Nat → Nat) (cI cJ cZ : ClassId) (a : Nat → Nat) (N : Nat) (x1 : Int32) (tr : TrS) (rw : RwS) (res : Int32 × TrS × RwS) (h : f_Rf_end N x1 tr rw = some res) :
    Kt l (dC, dI) classes [(cI, .int), (cJ, .long), (cZ, .boolean)] y_Rf_end (wz y_Rf_end b_Rf_end 4 (some .int)) { frames := 4, cells := 0, slots := 0, locals := 85 } [.ref (a 0), .int x1] (cO cI cJ cZ a ++ cTr cI cJ cZ a tr ++ cRw cI cJ cZ a rw) (some (.int res.1)) (cO cI cJ cZ a ++ cTr cI cJ cZ a res.2.1 ++ cRw cI cJ cZ a res.2.2) := by
  refine Kt_of (cc := b_Rf_end) (maxL := 4) (ret := (some .int)) (by decide) (Nat.le_of_ble_eq_true rfl) ?_
  intro p e s m args below meth c A ls hx hb hr hml hlocks hown hts hNw hK hP hD hA hS hl
  have hl : lv_has ls 4 [(0, .ref (a 0)), (1, .int x1)] := hl
  have hP : va_P (dC, dI) classes (cO cI cJ cZ a ++ cTr cI cJ cZ a tr ++ cRw cI cJ cZ a rw) s.heap := hP
  have L55 : ∀ (x1_55 : Int32) (x2_55 : Int32) (n55 : Nat) (s55 : Int32 × TrS × RwS) (H : Heap) (locs : List Loc) (ls : Array Slot), lp (f_Rf_end_L55 N x1_55 x2_55) n55 s55 = some res → va_P (dC, dI) classes (cO cI cJ cZ a ++ cTr cI cJ cZ a s55.2.1 ++ cRw cI cJ cZ a s55.2.2) H → va_D A (cO cI cJ cZ a ++ cTr cI cJ cZ a s55.2.1 ++ cRw cI cJ cZ a s55.2.2) → va_S A s.heap H locs → lv_has ls 4 [(0, .ref (a 0)), (1, .int x1_55), (2, .int x2_55), (3, .int s55.1)] → W p l e { frames := 4, cells := 0, slots := 0, locals := 85 } s m args below meth c H locs 0 0 (KZ below args s (dC, dI) classes (some (.int res.1)) (cO cI cJ cZ a ++ cTr cI cJ cZ a res.2.1 ++ cRw cI cJ cZ a res.2.2) A) (F0 m 55 ls []) := by
    intro x1_55 x2_55 n55
    induction n55 with
    | zero => intro _ _ _ _ h; exact (lp_0 h).elim
    | succ n55 ih55 =>
      intro s55 H locs ls h hP hD hS hl
      have h := lp_s h
      refine lv_iload_n hx hb d_Rf_end_55 rfl (lv_at hl 3 rfl) ?_
      refine lv_aload_n hx hb d_Rf_end_56 rfl (lv_at hl 0 rfl) ?_
      refine va_get (D := (dC, dI)) (ci := 6) (v := .ref (a 15)) (C := R_Rf) (T := F_Rf) (N := 4) hx hb hts inb_Rf hown hK hP 0 rfl rfl 2 (by decide) (hts _ tw278) (fun _ h9 => h9) rfl d_Rf_end_57 ?_
      refine va_get (D := (dC, dI)) (ci := 2) (v := .int (Rw_size s55.2.2)) (C := R_Rw) (T := F_Rw) (N := 4) hx hb hts inb_Rw hown hK hP 12 rfl rfl 1 (by decide) (hts _ tw130) (fun _ h9 => h9) rfl d_Rf_end_60 ?_
      refine lv_icmp_ge (tgt := 89) hx hb d_Rf_end_63 (by decide) (fun hc => ?_) (fun hc => ?_)
      · have h := o_t hc h
        refine lv_aload_n hx hb d_Rf_end_89 rfl (lv_at hl 0 rfl) ?_
        refine va_get (D := (dC, dI)) (ci := 6) (v := .ref (a 4)) (C := R_Rf) (T := F_Rf) (N := 4) hx hb hts inb_Rf hown hK hP 0 rfl rfl 1 (by decide) (hts _ tw277) (fun _ h9 => h9) rfl d_Rf_end_90 ?_
        refine lv_iload_n hx hb d_Rf_end_93 rfl (lv_at hl 2 rfl) ?_
        refine lv_iload_n hx hb d_Rf_end_94 rfl (lv_at hl 1 rfl) ?_
        refine lv_aload_n hx hb d_Rf_end_95 rfl (lv_at hl 0 rfl) ?_
        refine va_get (D := (dC, dI)) (ci := 6) (v := .ref (a 15)) (C := R_Rf) (T := F_Rf) (N := 4) hx hb hts inb_Rf hown hK hP 0 rfl rfl 2 (by decide) (hts _ tw278) (fun _ h9 => h9) rfl d_Rf_end_96 ?_
        refine va_get (D := (dC, dI)) (ci := 2) (v := .int (Rw_hasDefault s55.2.2)) (C := R_Rw) (T := F_Rw) (N := 4) hx hb hts inb_Rw hown hK hP 12 rfl rfl 2 (by decide) (hts _ tw132) (fun _ h9 => h9) rfl d_Rf_end_99 ?_
        obtain ⟨y102, hy, h⟩ := o_bd h
        refine kdV (nn := 14) (rest := []) (w' := (cO cI cJ cZ a ++ cTr cI cJ cZ a y102 ++ cRw cI cJ cZ a s55.2.2)) (wr := (cO cI cJ cZ a ++ cRw cI cJ cZ a s55.2.2)) (st1 := []) ⟨hx, hb, hml, hown, hts⟩ (c_Tr_closeRow l dC dI cI cJ cZ a x2_55 x1_55 (Rw_hasDefault s55.2.2) s55.2.1 y102 hy) (cwV 3 hts (gd_V tw403 tw404 tw405 tw3 tw406) rfl rfl rfl hd_Tr_closeRow ⟨Nat.le_of_ble_eq_true rfl, Nat.le_of_ble_eq_true rfl⟩) hNw hK hP hD hS hA (ci := 1) rfl rfl rfl [1, 2, 3, 4, 5, 6, 7, 8, 9, 10, 11] [0, 12, 13] rfl rfl rfl rfl rfl (by decide +kernel) (by decide +kernel) rfl hl.1 rfl (Nat.le_of_ble_eq_true rfl) rfl d_Rf_end_102 ⟨Nat.zero_le _, Nat.zero_le _⟩ (fun H locs hP hD hS => ?_)
        refine lv_aload_n hx hb d_Rf_end_105 rfl (lv_at hl 0 rfl) ?_
        refine va_get (D := (dC, dI)) (ci := 6) (v := .ref (a 15)) (C := R_Rf) (T := F_Rf) (N := 4) hx hb hts inb_Rf hown hK hP 0 rfl rfl 2 (by decide) (hts _ tw278) (fun _ h9 => h9) rfl d_Rf_end_106 ?_
        obtain ⟨y109, hy, h⟩ := o_bd h
        refine kdV (nn := 14) (rest := []) (w' := (cO cI cJ cZ a ++ cTr cI cJ cZ a y102 ++ cRw cI cJ cZ a y109)) (wr := (cO cI cJ cZ a ++ cTr cI cJ cZ a y102)) (st1 := []) ⟨hx, hb, hml, hown, hts⟩ (c_Rw_close l dC dI cI cJ cZ a s55.2.2 y109 hy) (cwV 0 hts (gd_V tw298 tw299 tw300 tw4 tw301) rfl rfl rfl hd_Rw_close ⟨Nat.le_of_ble_eq_true rfl, Nat.le_of_ble_eq_true rfl⟩) hNw hK hP hD hS hA (ci := 2) rfl rfl rfl [12, 13] [0, 1, 2, 3, 4, 5, 6, 7, 8, 9, 10, 11] rfl rfl rfl rfl rfl (by decide +kernel) (by decide +kernel) rfl hl.1 rfl (Nat.le_of_ble_eq_true rfl) rfl d_Rf_end_109 ⟨Nat.zero_le _, Nat.zero_le _⟩ (fun H locs hP hD hS => ?_)
        refine lv_iload_n hx hb d_Rf_end_112 rfl (lv_at hl 2 rfl) ?_
        cases h
        exact kr_i hx hb hr hlocks hP hD hS d_Rf_end_113
      · have h := o_f hc h
        refine lv_aload_n hx hb d_Rf_end_66 rfl (lv_at hl 0 rfl) ?_
        refine va_get (D := (dC, dI)) (ci := 6) (v := .ref (a 4)) (C := R_Rf) (T := F_Rf) (N := 4) hx hb hts inb_Rf hown hK hP 0 rfl rfl 1 (by decide) (hts _ tw277) (fun _ h9 => h9) rfl d_Rf_end_67 ?_
        refine lv_iload_n hx hb d_Rf_end_70 rfl (lv_at hl 2 rfl) ?_
        refine lv_aload_n hx hb d_Rf_end_71 rfl (lv_at hl 0 rfl) ?_
        refine va_get (D := (dC, dI)) (ci := 6) (v := .ref (a 15)) (C := R_Rf) (T := F_Rf) (N := 4) hx hb hts inb_Rf hown hK hP 0 rfl rfl 2 (by decide) (hts _ tw278) (fun _ h9 => h9) rfl d_Rf_end_72 ?_
        refine va_get (D := (dC, dI)) (ci := 2) (v := .ref (a 16)) (C := R_Rw) (T := F_Rw) (N := 4) hx hb hts inb_Rw hown hK hP 12 rfl rfl 3 (by decide) (hts _ tw134) (fun _ h9 => h9) rfl d_Rf_end_75 ?_
        refine lv_iload_n hx hb d_Rf_end_78 rfl (lv_at hl 3 rfl) ?_
        obtain ⟨hin, h⟩ := o_in h
        refine va_iald hx hb hK hP 13 0 rfl rfl hin d_Rf_end_79 ?_
        obtain ⟨y80, hy, h⟩ := o_bd h
        refine kdV (nn := 14) (rest := []) (w' := (cO cI cJ cZ a ++ cTr cI cJ cZ a y80 ++ cRw cI cJ cZ a s55.2.2)) (wr := (cO cI cJ cZ a ++ cRw cI cJ cZ a s55.2.2)) (st1 := []) ⟨hx, hb, hml, hown, hts⟩ (c_Tr_adopt l dC dI cI cJ cZ a x2_55 ((Rw_parts s55.2.2) s55.1.toNatClampNeg) s55.2.1 y80 hy) (cwV 2 hts (gd_V tw345 tw346 tw347 tw3 tw348) rfl rfl rfl hd_Tr_adopt ⟨Nat.le_of_ble_eq_true rfl, Nat.le_of_ble_eq_true rfl⟩) hNw hK hP hD hS hA (ci := 1) rfl rfl rfl [1, 2, 3, 4, 5, 6, 7, 8, 9, 10, 11] [0, 12, 13] rfl rfl rfl rfl rfl (by decide +kernel) (by decide +kernel) rfl hl.1 rfl (Nat.le_of_ble_eq_true rfl) rfl d_Rf_end_80 ⟨Nat.zero_le _, Nat.zero_le _⟩ (fun H locs hP hD hS => ?_)
        refine lv_iinc (v := (s55.1 + 1)) (lv' := [(3, .int (s55.1 + 1)), (0, .ref (a 0)), (1, .int x1_55), (2, .int x2_55)]) hx hb d_Rf_end_83 hl (k := 3) rfl rfl (by decide) rfl (fun ls hl => ?_)
        refine lv_goto (tgt := 55) hx hb d_Rf_end_86 (by decide) ?_
        exact ih55 ((s55.1 + 1), y80, s55.2.2) _ _ _ h hP hD hS (lv_sub hl [1, 2, 3, 0] rfl)
  refine lv_aload_n hx hb d_Rf_end_0 rfl (lv_at hl 0 rfl) ?_
  refine va_get (D := (dC, dI)) (ci := 6) (v := .ref (a 15)) (C := R_Rf) (T := F_Rf) (N := 4) hx hb hts inb_Rf hown hK hP 0 rfl rfl 2 (by decide) (hts _ tw278) (fun _ h9 => h9) rfl d_Rf_end_1 ?_
  obtain ⟨y4, hy, h⟩ := o_bd h
  refine kdV (nn := 14) (rest := []) (w' := (cO cI cJ cZ a ++ cTr cI cJ cZ a tr ++ cRw cI cJ cZ a rw)) (wr := (cO cI cJ cZ a ++ cTr cI cJ cZ a tr)) (st1 := [.int y4]) ⟨hx, hb, hml, hown, hts⟩ (c_Rw_isOpen l dC dI cI cJ cZ a rw y4 hy) (cwV 0 hts (gd_V tw364 tw365 tw366 tw4 tw367) rfl rfl rfl hd_Rw_isOpen ⟨Nat.le_of_ble_eq_true rfl, Nat.le_of_ble_eq_true rfl⟩) hNw hK hP hD hS hA (ci := 2) rfl rfl rfl [12, 13] [0, 1, 2, 3, 4, 5, 6, 7, 8, 9, 10, 11] rfl rfl rfl rfl rfl (by decide +kernel) (by decide +kernel) rfl hl.1 rfl (Nat.le_of_ble_eq_true rfl) rfl d_Rf_end_4 ⟨Nat.zero_le _, Nat.zero_le _⟩ (fun H locs hP hD hS => ?_)
  refine lv_if_ne (tgt := 13) hx hb d_Rf_end_7 (by decide) (fun hc => ?_) (fun hc => ?_)
  · have h := o_f hc h
    refine lv_aload_n hx hb d_Rf_end_13 rfl (lv_at hl 0 rfl) ?_
    refine lv_iload_n hx hb d_Rf_end_14 rfl (lv_at hl 1 rfl) ?_
    obtain ⟨y15, hy, h⟩ := o_bd h
    refine kdV (nn := 14) (rest := []) (w' := (cO cI cJ cZ a ++ cTr cI cJ cZ a tr ++ cRw cI cJ cZ a rw)) (wr := ([] : va_W)) (st1 := [.int y15]) ⟨hx, hb, hml, hown, hts⟩ (c_Rf_fitsEnd l dC dI cI cJ cZ a x1 tr rw y15 hy) (cwV 1 hts (gd_V tw399 tw401 ps3 tw1 tw402) rfl rfl rfl hd_Rf_fitsEnd ⟨Nat.le_of_ble_eq_true rfl, Nat.le_of_ble_eq_true rfl⟩) hNw hK hP hD hS hA (ci := 6) rfl rfl rfl [0, 1, 2, 3, 4, 5, 6, 7, 8, 9, 10, 11, 12, 13] [] rfl rfl rfl rfl rfl (by decide +kernel) (by decide +kernel) rfl hl.1 rfl (Nat.le_of_ble_eq_true rfl) rfl d_Rf_end_15 ⟨Nat.zero_le _, Nat.zero_le _⟩ (fun H locs hP hD hS => ?_)
    refine lv_if_ne (tgt := 24) hx hb d_Rf_end_18 (by decide) (fun hc => ?_) (fun hc => ?_)
    · have h := o_f hc h
      refine lv_aload_n hx hb d_Rf_end_24 rfl (lv_at hl 0 rfl) ?_
      refine va_get (D := (dC, dI)) (ci := 6) (v := .ref (a 4)) (C := R_Rf) (T := F_Rf) (N := 4) hx hb hts inb_Rf hown hK hP 0 rfl rfl 1 (by decide) (hts _ tw277) (fun _ h9 => h9) rfl d_Rf_end_25 ?_
      obtain ⟨y28, hy, h⟩ := o_bd h
      refine kdV (nn := 14) (rest := []) (w' := (cO cI cJ cZ a ++ cTr cI cJ cZ a tr ++ cRw cI cJ cZ a rw)) (wr := (cO cI cJ cZ a ++ cRw cI cJ cZ a rw)) (st1 := [.int y28]) ⟨hx, hb, hml, hown, hts⟩ (c_Tr_isFull l dC dI cI cJ cZ a tr y28 hy) (cwV 0 hts (gd_V tw337 tw338 tw339 tw3 tw340) rfl rfl rfl hd_Tr_isFull ⟨Nat.le_of_ble_eq_true rfl, Nat.le_of_ble_eq_true rfl⟩) hNw hK hP hD hS hA (ci := 1) rfl rfl rfl [1, 2, 3, 4, 5, 6, 7, 8, 9, 10, 11] [0, 12, 13] rfl rfl rfl rfl rfl (by decide +kernel) (by decide +kernel) rfl hl.1 rfl (Nat.le_of_ble_eq_true rfl) rfl d_Rf_end_28 ⟨Nat.zero_le _, Nat.zero_le _⟩ (fun H locs hP hD hS => ?_)
      refine lv_if_eq (tgt := 37) hx hb d_Rf_end_31 (by decide) (fun hc => ?_) (fun hc => ?_)
      · have h := o_t hc h
        refine lv_aload_n hx hb d_Rf_end_37 rfl (lv_at hl 0 rfl) ?_
        refine va_get (D := (dC, dI)) (ci := 6) (v := .ref (a 4)) (C := R_Rf) (T := F_Rf) (N := 4) hx hb hts inb_Rf hown hK hP 0 rfl rfl 1 (by decide) (hts _ tw277) (fun _ h9 => h9) rfl d_Rf_end_38 ?_
        refine lv_aload_n hx hb d_Rf_end_41 rfl (lv_at hl 0 rfl) ?_
        refine va_get (D := (dC, dI)) (ci := 6) (v := .ref (a 15)) (C := R_Rf) (T := F_Rf) (N := 4) hx hb hts inb_Rf hown hK hP 0 rfl rfl 2 (by decide) (hts _ tw278) (fun _ h9 => h9) rfl d_Rf_end_42 ?_
        refine va_get (D := (dC, dI)) (ci := 2) (v := .int (Rw_sort rw)) (C := R_Rw) (T := F_Rw) (N := 4) hx hb hts inb_Rw hown hK hP 12 rfl rfl 0 (by decide) (hts _ tw128) (fun _ h9 => h9) rfl d_Rf_end_45 ?_
        refine lv_iconst (v := 0) hx hb d_Rf_end_48 (by decide) ?_
        obtain ⟨y49, hy, h⟩ := o_bd h
        refine kdV (nn := 14) (rest := []) (w' := (cO cI cJ cZ a ++ cTr cI cJ cZ a y49.2 ++ cRw cI cJ cZ a rw)) (wr := (cO cI cJ cZ a ++ cRw cI cJ cZ a rw)) (st1 := [.int y49.1]) ⟨hx, hb, hml, hown, hts⟩ (c_Tr_add l dC dI cI cJ cZ a (Rw_sort rw) (0 : Int32) tr y49 hy) (cwV 2 hts (gd_V tw341 tw342 tw343 tw3 tw344) rfl rfl rfl hd_Tr_add ⟨Nat.le_of_ble_eq_true rfl, Nat.le_of_ble_eq_true rfl⟩) hNw hK hP hD hS hA (ci := 1) rfl rfl rfl [1, 2, 3, 4, 5, 6, 7, 8, 9, 10, 11] [0, 12, 13] rfl rfl rfl rfl rfl (by decide +kernel) (by decide +kernel) rfl hl.1 rfl (Nat.le_of_ble_eq_true rfl) rfl d_Rf_end_49 ⟨Nat.zero_le _, Nat.zero_le _⟩ (fun H locs hP hD hS => ?_)
        refine lv_istore_n (lv' := [(2, .int y49.1), (0, .ref (a 0)), (1, .int x1)]) hx hb d_Rf_end_52 rfl hl (by decide) rfl (fun ls hl => ?_)
        refine lv_iconst (v := 0) hx hb d_Rf_end_53 (by decide) ?_
        refine lv_istore_n (lv' := [(3, .int (0 : Int32)), (2, .int y49.1), (0, .ref (a 0)), (1, .int x1)]) hx hb d_Rf_end_54 rfl hl (by decide) rfl (fun ls hl => ?_)
        exact L55 x1 y49.1 N ((0 : Int32), y49.2, rw) _ _ _ h hP hD hS (lv_sub hl [2, 3, 1, 0] rfl)
      · have h := o_f hc h
        refine lv_bipush (v := -3) hx hb d_Rf_end_34 (by decide) ?_
        cases h
        exact kr_i hx hb hr hlocks hP hD hS d_Rf_end_36
    · have h := o_t hc h
      refine lv_bipush (v := -2) hx hb d_Rf_end_21 (by decide) ?_
      cases h
      exact kr_i hx hb hr hlocks hP hD hS d_Rf_end_23
  · have h := o_t hc h
    refine lv_bipush (v := -4) hx hb d_Rf_end_10 (by decide) ?_
    cases h
    exact kr_i hx hb hr hlocks hP hD hS d_Rf_end_12
set_option maxHeartbeats 4000000 in
set_option maxRecDepth 100000 in
theorem c_Rf_drop (l : Launch) (dC : Nat → ClassId) (dI : Nat → Nat → Nat) (cI cJ cZ : ClassId) (a : Nat → Nat) (N : Nat) (tr : TrS) (rw : RwS) (res : Int32 × TrS × RwS) (h : f_Rf_drop N tr rw = some res) :
    Kt l (dC, dI) classes [(cI, .int), (cJ, .long), (cZ, .boolean)] y_Rf_drop (wz y_Rf_drop b_Rf_drop 3 (some .int)) { frames := 1, cells := 0, slots := 0, locals := 21 } [.ref (a 0)] (cO cI cJ cZ a ++ cTr cI cJ cZ a tr ++ cRw cI cJ cZ a rw) (some (.int res.1)) (cO cI cJ cZ a ++ cTr cI cJ cZ a res.2.1 ++ cRw cI cJ cZ a res.2.2) := by
  refine Kt_of (cc := b_Rf_drop) (maxL := 3) (ret := (some .int)) (by decide) (Nat.le_of_ble_eq_true rfl) ?_
  intro p e s m args below meth c A ls hx hb hr hml hlocks hown hts hNw hK hP hD hA hS hl
  have hl : lv_has ls 3 [(0, .ref (a 0))] := hl
  have hP : va_P (dC, dI) classes (cO cI cJ cZ a ++ cTr cI cJ cZ a tr ++ cRw cI cJ cZ a rw) s.heap := hP
  have L23 : ∀ (x1_23 : Int32) (n23 : Nat) (s23 : Int32 × TrS × RwS) (H : Heap) (locs : List Loc) (ls : Array Slot), lp (f_Rf_drop_L23 N x1_23) n23 s23 = some res → va_P (dC, dI) classes (cO cI cJ cZ a ++ cTr cI cJ cZ a s23.2.1 ++ cRw cI cJ cZ a s23.2.2) H → va_D A (cO cI cJ cZ a ++ cTr cI cJ cZ a s23.2.1 ++ cRw cI cJ cZ a s23.2.2) → va_S A s.heap H locs → lv_has ls 3 [(0, .ref (a 0)), (1, .int x1_23), (2, .int s23.1)] → W p l e { frames := 1, cells := 0, slots := 0, locals := 21 } s m args below meth c H locs 0 0 (KZ below args s (dC, dI) classes (some (.int res.1)) (cO cI cJ cZ a ++ cTr cI cJ cZ a res.2.1 ++ cRw cI cJ cZ a res.2.2) A) (F0 m 23 ls []) := by
    intro x1_23 n23
    induction n23 with
    | zero => intro _ _ _ _ h; exact (lp_0 h).elim
    | succ n23 ih23 =>
      intro s23 H locs ls h hP hD hS hl
      have h := lp_s h
      refine lv_iload_n hx hb d_Rf_drop_23 rfl (lv_at hl 2 rfl) ?_
      refine lv_iload_n hx hb d_Rf_drop_24 rfl (lv_at hl 1 rfl) ?_
      refine lv_icmp_ge (tgt := 50) hx hb d_Rf_drop_25 (by decide) (fun hc => ?_) (fun hc => ?_)
      · have h := o_t hc h
        refine lv_aload_n hx hb d_Rf_drop_50 rfl (lv_at hl 0 rfl) ?_
        refine va_get (D := (dC, dI)) (ci := 6) (v := .ref (a 15)) (C := R_Rf) (T := F_Rf) (N := 4) hx hb hts inb_Rf hown hK hP 0 rfl rfl 2 (by decide) (hts _ tw278) (fun _ h9 => h9) rfl d_Rf_drop_51 ?_
        obtain ⟨y54, hy, h⟩ := o_bd h
        refine kdV (nn := 14) (rest := []) (w' := (cO cI cJ cZ a ++ cTr cI cJ cZ a s23.2.1 ++ cRw cI cJ cZ a y54)) (wr := (cO cI cJ cZ a ++ cTr cI cJ cZ a s23.2.1)) (st1 := []) ⟨hx, hb, hml, hown, hts⟩ (c_Rw_close l dC dI cI cJ cZ a s23.2.2 y54 hy) (cwV 0 hts (gd_V tw298 tw299 tw300 tw4 tw301) rfl rfl rfl hd_Rw_close ⟨Nat.le_of_ble_eq_true rfl, Nat.le_of_ble_eq_true rfl⟩) hNw hK hP hD hS hA (ci := 2) rfl rfl rfl [12, 13] [0, 1, 2, 3, 4, 5, 6, 7, 8, 9, 10, 11] rfl rfl rfl rfl rfl (by decide +kernel) (by decide +kernel) rfl hl.1 rfl (Nat.le_of_ble_eq_true rfl) rfl d_Rf_drop_54 ⟨Nat.zero_le _, Nat.zero_le _⟩ (fun H locs hP hD hS => ?_)
        refine lv_iload_n hx hb d_Rf_drop_57 rfl (lv_at hl 1 rfl) ?_
        cases h
        exact kr_i hx hb hr hlocks hP hD hS d_Rf_drop_58
      · have h := o_f hc h
        refine lv_aload_n hx hb d_Rf_drop_28 rfl (lv_at hl 0 rfl) ?_
        refine va_get (D := (dC, dI)) (ci := 6) (v := .ref (a 4)) (C := R_Rf) (T := F_Rf) (N := 4) hx hb hts inb_Rf hown hK hP 0 rfl rfl 1 (by decide) (hts _ tw277) (fun _ h9 => h9) rfl d_Rf_drop_29 ?_
        refine lv_aload_n hx hb d_Rf_drop_32 rfl (lv_at hl 0 rfl) ?_
        refine va_get (D := (dC, dI)) (ci := 6) (v := .ref (a 15)) (C := R_Rf) (T := F_Rf) (N := 4) hx hb hts inb_Rf hown hK hP 0 rfl rfl 2 (by decide) (hts _ tw278) (fun _ h9 => h9) rfl d_Rf_drop_33 ?_
        refine va_get (D := (dC, dI)) (ci := 2) (v := .ref (a 16)) (C := R_Rw) (T := F_Rw) (N := 4) hx hb hts inb_Rw hown hK hP 12 rfl rfl 3 (by decide) (hts _ tw134) (fun _ h9 => h9) rfl d_Rf_drop_36 ?_
        refine lv_iload_n hx hb d_Rf_drop_39 rfl (lv_at hl 2 rfl) ?_
        obtain ⟨hin, h⟩ := o_in h
        refine va_iald hx hb hK hP 13 0 rfl rfl hin d_Rf_drop_40 ?_
        obtain ⟨y41, hy, h⟩ := o_bd h
        refine kdV (nn := 14) (rest := []) (w' := (cO cI cJ cZ a ++ cTr cI cJ cZ a y41 ++ cRw cI cJ cZ a s23.2.2)) (wr := (cO cI cJ cZ a ++ cRw cI cJ cZ a s23.2.2)) (st1 := []) ⟨hx, hb, hml, hown, hts⟩ (c_Tr_release l dC dI cI cJ cZ a ((Rw_parts s23.2.2) s23.1.toNatClampNeg) s23.2.1 y41 hy) (cwV 1 hts (gd_V tw412 tw413 tw414 tw3 tw415) rfl rfl rfl hd_Tr_release ⟨Nat.le_of_ble_eq_true rfl, Nat.le_of_ble_eq_true rfl⟩) hNw hK hP hD hS hA (ci := 1) rfl rfl rfl [1, 2, 3, 4, 5, 6, 7, 8, 9, 10, 11] [0, 12, 13] rfl rfl rfl rfl rfl (by decide +kernel) (by decide +kernel) rfl hl.1 rfl (Nat.le_of_ble_eq_true rfl) rfl d_Rf_drop_41 ⟨Nat.zero_le _, Nat.zero_le _⟩ (fun H locs hP hD hS => ?_)
        refine lv_iinc (v := (s23.1 + 1)) (lv' := [(2, .int (s23.1 + 1)), (0, .ref (a 0)), (1, .int x1_23)]) hx hb d_Rf_drop_44 hl (k := 2) rfl rfl (by decide) rfl (fun ls hl => ?_)
        refine lv_goto (tgt := 23) hx hb d_Rf_drop_47 (by decide) ?_
        exact ih23 ((s23.1 + 1), y41, s23.2.2) _ _ _ h hP hD hS (lv_sub hl [1, 2, 0] rfl)
  refine lv_aload_n hx hb d_Rf_drop_0 rfl (lv_at hl 0 rfl) ?_
  refine va_get (D := (dC, dI)) (ci := 6) (v := .ref (a 15)) (C := R_Rf) (T := F_Rf) (N := 4) hx hb hts inb_Rf hown hK hP 0 rfl rfl 2 (by decide) (hts _ tw278) (fun _ h9 => h9) rfl d_Rf_drop_1 ?_
  obtain ⟨y4, hy, h⟩ := o_bd h
  refine kdV (nn := 14) (rest := []) (w' := (cO cI cJ cZ a ++ cTr cI cJ cZ a tr ++ cRw cI cJ cZ a rw)) (wr := (cO cI cJ cZ a ++ cTr cI cJ cZ a tr)) (st1 := [.int y4]) ⟨hx, hb, hml, hown, hts⟩ (c_Rw_isOpen l dC dI cI cJ cZ a rw y4 hy) (cwV 0 hts (gd_V tw364 tw365 tw366 tw4 tw367) rfl rfl rfl hd_Rw_isOpen ⟨Nat.le_of_ble_eq_true rfl, Nat.le_of_ble_eq_true rfl⟩) hNw hK hP hD hS hA (ci := 2) rfl rfl rfl [12, 13] [0, 1, 2, 3, 4, 5, 6, 7, 8, 9, 10, 11] rfl rfl rfl rfl rfl (by decide +kernel) (by decide +kernel) rfl hl.1 rfl (Nat.le_of_ble_eq_true rfl) rfl d_Rf_drop_4 ⟨Nat.zero_le _, Nat.zero_le _⟩ (fun H locs hP hD hS => ?_)
  refine lv_if_ne (tgt := 13) hx hb d_Rf_drop_7 (by decide) (fun hc => ?_) (fun hc => ?_)
  · have h := o_f hc h
    refine lv_aload_n hx hb d_Rf_drop_13 rfl (lv_at hl 0 rfl) ?_
    refine va_get (D := (dC, dI)) (ci := 6) (v := .ref (a 15)) (C := R_Rf) (T := F_Rf) (N := 4) hx hb hts inb_Rf hown hK hP 0 rfl rfl 2 (by decide) (hts _ tw278) (fun _ h9 => h9) rfl d_Rf_drop_14 ?_
    refine va_get (D := (dC, dI)) (ci := 2) (v := .int (Rw_size rw)) (C := R_Rw) (T := F_Rw) (N := 4) hx hb hts inb_Rw hown hK hP 12 rfl rfl 1 (by decide) (hts _ tw130) (fun _ h9 => h9) rfl d_Rf_drop_17 ?_
    refine lv_istore_n (lv' := [(1, .int (Rw_size rw)), (0, .ref (a 0))]) hx hb d_Rf_drop_20 rfl hl (by decide) rfl (fun ls hl => ?_)
    refine lv_iconst (v := 0) hx hb d_Rf_drop_21 (by decide) ?_
    refine lv_istore_n (lv' := [(2, .int (0 : Int32)), (1, .int (Rw_size rw)), (0, .ref (a 0))]) hx hb d_Rf_drop_22 rfl hl (by decide) rfl (fun ls hl => ?_)
    exact L23 (Rw_size rw) N ((0 : Int32), tr, rw) _ _ _ h hP hD hS (lv_sub hl [2, 1, 0] rfl)
  · have h := o_t hc h
    refine lv_bipush (v := -4) hx hb d_Rf_drop_10 (by decide) ?_
    cases h
    exact kr_i hx hb hr hlocks hP hD hS d_Rf_drop_12
set_option maxHeartbeats 4000000 in
set_option maxRecDepth 100000 in
theorem c_Rf_told (l : Launch) (dC : Nat → ClassId) (dI : Nat → Nat → Nat) (cI cJ cZ : ClassId) (a : Nat → Nat) (x1 : Int32) (x2 : Int32) (tr : TrS) (res : Int32) (h : f_Rf_told x1 x2 tr = some res) :
    Kt l (dC, dI) classes [(cI, .int), (cJ, .long), (cZ, .boolean)] y_Rf_told (wz y_Rf_told b_Rf_told 3 (some .int)) { frames := 1, cells := 0, slots := 0, locals := 21 } [.ref (a 0), .int x1, .int x2] (cO cI cJ cZ a ++ cTr cI cJ cZ a tr) (some (.int res)) (cO cI cJ cZ a ++ cTr cI cJ cZ a tr) := by
  refine Kt_of (cc := b_Rf_told) (maxL := 3) (ret := (some .int)) (by decide) (Nat.le_of_ble_eq_true rfl) ?_
  intro p e s m args below meth c A ls hx hb hr hml hlocks hown hts hNw hK hP hD hA hS hl
  have hl : lv_has ls 3 [(0, .ref (a 0)), (1, .int x1), (2, .int x2)] := hl
  have hP : va_P (dC, dI) classes (cO cI cJ cZ a ++ cTr cI cJ cZ a tr) s.heap := hP
  refine lv_aload_n hx hb d_Rf_told_0 rfl (lv_at hl 0 rfl) ?_
  refine va_get (D := (dC, dI)) (ci := 6) (v := .ref (a 4)) (C := R_Rf) (T := F_Rf) (N := 4) hx hb hts inb_Rf hown hK hP 0 rfl rfl 1 (by decide) (hts _ tw277) (fun _ h9 => h9) rfl d_Rf_told_1 ?_
  refine lv_iload_n hx hb d_Rf_told_4 rfl (lv_at hl 1 rfl) ?_
  obtain ⟨y5, hy, h⟩ := o_bd h
  refine kdV (nn := 12) (rest := []) (w' := (cO cI cJ cZ a ++ cTr cI cJ cZ a tr)) (wr := (cO cI cJ cZ a)) (st1 := [.int y5]) ⟨hx, hb, hml, hown, hts⟩ (c_Tr_has l dC dI cI cJ cZ a x1 tr y5 hy) (cwV 1 hts (gd_V tw421 tw328 tw329 tw3 tw330) rfl rfl rfl hd_Tr_has ⟨Nat.le_of_ble_eq_true rfl, Nat.le_of_ble_eq_true rfl⟩) hNw hK hP hD hS hA (ci := 1) rfl rfl rfl [1, 2, 3, 4, 5, 6, 7, 8, 9, 10, 11] [0] rfl rfl rfl rfl rfl (by decide +kernel) (by decide +kernel) rfl hl.1 rfl (Nat.le_of_ble_eq_true rfl) rfl d_Rf_told_5 ⟨Nat.zero_le _, Nat.zero_le _⟩ (fun H locs hP hD hS => ?_)
  refine lv_if_ne (tgt := 14) hx hb d_Rf_told_8 (by decide) (fun hc => ?_) (fun hc => ?_)
  · have h := o_f hc h
    refine lv_iload_n hx hb d_Rf_told_14 rfl (lv_at hl 2 rfl) ?_
    refine sw_by (x := x2) (k := 0) (fun hc => ?_) (fun hn0 => ?_)
    · have h := o_t hc h
      refine sw_in (x := x2) (k := 0) hc (lv_tableIn (tgt := 48) hx hb d_Rf_told_15 (by decide) (by decide) (by rfl) (by decide) ?_)
      refine lv_aload_n hx hb d_Rf_told_48 rfl (lv_at hl 0 rfl) ?_
      refine va_get (D := (dC, dI)) (ci := 6) (v := .ref (a 4)) (C := R_Rf) (T := F_Rf) (N := 4) hx hb hts inb_Rf hown hK hP 0 rfl rfl 1 (by decide) (hts _ tw277) (fun _ h9 => h9) rfl d_Rf_told_49 ?_
      refine va_get (D := (dC, dI)) (ci := 1) (v := .ref (a 5)) (C := R_Tr) (T := F_Tr) (N := 14) hx hb hts inb_Tr hown hK hP 1 rfl rfl 4 (by decide) (hts _ tw66) (fun _ h9 => h9) rfl d_Rf_told_52 ?_
      refine lv_iload_n hx hb d_Rf_told_55 rfl (lv_at hl 1 rfl) ?_
      obtain ⟨hin, h⟩ := o_in h
      refine va_iald hx hb hK hP 2 0 rfl rfl hin d_Rf_told_56 ?_
      cases h
      exact kr_i hx hb hr hlocks hP hD hS d_Rf_told_57
    · have h := o_f hn0 h
      refine sw_by (x := x2) (k := 1) (fun hc => ?_) (fun hn1 => ?_)
      · have h := o_t hc h
        refine sw_in (x := x2) (k := 1) hc (lv_tableIn (tgt := 58) hx hb d_Rf_told_15 (by decide) (by decide) (by rfl) (by decide) ?_)
        refine lv_aload_n hx hb d_Rf_told_58 rfl (lv_at hl 0 rfl) ?_
        refine va_get (D := (dC, dI)) (ci := 6) (v := .ref (a 4)) (C := R_Rf) (T := F_Rf) (N := 4) hx hb hts inb_Rf hown hK hP 0 rfl rfl 1 (by decide) (hts _ tw277) (fun _ h9 => h9) rfl d_Rf_told_59 ?_
        refine va_get (D := (dC, dI)) (ci := 1) (v := .ref (a 6)) (C := R_Tr) (T := F_Tr) (N := 14) hx hb hts inb_Tr hown hK hP 1 rfl rfl 5 (by decide) (hts _ tw71) (fun _ h9 => h9) rfl d_Rf_told_62 ?_
        refine lv_iload_n hx hb d_Rf_told_65 rfl (lv_at hl 1 rfl) ?_
        obtain ⟨hin, h⟩ := o_in h
        refine va_iald hx hb hK hP 3 0 rfl rfl hin d_Rf_told_66 ?_
        cases h
        exact kr_i hx hb hr hlocks hP hD hS d_Rf_told_67
      · have h := o_f hn1 h
        refine sw_by (x := x2) (k := 2) (fun hc => ?_) (fun hn2 => ?_)
        · have h := o_t hc h
          refine sw_in (x := x2) (k := 2) hc (lv_tableIn (tgt := 68) hx hb d_Rf_told_15 (by decide) (by decide) (by rfl) (by decide) ?_)
          refine lv_aload_n hx hb d_Rf_told_68 rfl (lv_at hl 0 rfl) ?_
          refine va_get (D := (dC, dI)) (ci := 6) (v := .ref (a 4)) (C := R_Rf) (T := F_Rf) (N := 4) hx hb hts inb_Rf hown hK hP 0 rfl rfl 1 (by decide) (hts _ tw277) (fun _ h9 => h9) rfl d_Rf_told_69 ?_
          refine va_get (D := (dC, dI)) (ci := 1) (v := .ref (a 9)) (C := R_Tr) (T := F_Tr) (N := 14) hx hb hts inb_Tr hown hK hP 1 rfl rfl 8 (by decide) (hts _ tw83) (fun _ h9 => h9) rfl d_Rf_told_72 ?_
          refine lv_iload_n hx hb d_Rf_told_75 rfl (lv_at hl 1 rfl) ?_
          obtain ⟨hin, h⟩ := o_in h
          refine va_iald hx hb hK hP 6 0 rfl rfl hin d_Rf_told_76 ?_
          cases h
          exact kr_i hx hb hr hlocks hP hD hS d_Rf_told_77
        · have h := o_f hn2 h
          refine sw_by (x := x2) (k := 3) (fun hc => ?_) (fun hn3 => ?_)
          · have h := o_t hc h
            refine sw_in (x := x2) (k := 3) hc (lv_tableIn (tgt := 78) hx hb d_Rf_told_15 (by decide) (by decide) (by rfl) (by decide) ?_)
            refine lv_aload_n hx hb d_Rf_told_78 rfl (lv_at hl 0 rfl) ?_
            refine va_get (D := (dC, dI)) (ci := 6) (v := .ref (a 4)) (C := R_Rf) (T := F_Rf) (N := 4) hx hb hts inb_Rf hown hK hP 0 rfl rfl 1 (by decide) (hts _ tw277) (fun _ h9 => h9) rfl d_Rf_told_79 ?_
            refine va_get (D := (dC, dI)) (ci := 1) (v := .ref (a 8)) (C := R_Tr) (T := F_Tr) (N := 14) hx hb hts inb_Tr hown hK hP 1 rfl rfl 7 (by decide) (hts _ tw79) (fun _ h9 => h9) rfl d_Rf_told_82 ?_
            refine lv_iload_n hx hb d_Rf_told_85 rfl (lv_at hl 1 rfl) ?_
            obtain ⟨hin, h⟩ := o_in h
            refine va_iald hx hb hK hP 5 0 rfl rfl hin d_Rf_told_86 ?_
            cases h
            exact kr_i hx hb hr hlocks hP hD hS d_Rf_told_87
          · have h := o_f hn3 h
            refine sw_by (x := x2) (k := 4) (fun hc => ?_) (fun hn4 => ?_)
            · have h := o_t hc h
              refine sw_in (x := x2) (k := 4) hc (lv_tableIn (tgt := 88) hx hb d_Rf_told_15 (by decide) (by decide) (by rfl) (by decide) ?_)
              refine lv_aload_n hx hb d_Rf_told_88 rfl (lv_at hl 0 rfl) ?_
              refine va_get (D := (dC, dI)) (ci := 6) (v := .ref (a 4)) (C := R_Rf) (T := F_Rf) (N := 4) hx hb hts inb_Rf hown hK hP 0 rfl rfl 1 (by decide) (hts _ tw277) (fun _ h9 => h9) rfl d_Rf_told_89 ?_
              refine va_get (D := (dC, dI)) (ci := 1) (v := .ref (a 7)) (C := R_Tr) (T := F_Tr) (N := 14) hx hb hts inb_Tr hown hK hP 1 rfl rfl 6 (by decide) (hts _ tw75) (fun _ h9 => h9) rfl d_Rf_told_92 ?_
              refine lv_iload_n hx hb d_Rf_told_95 rfl (lv_at hl 1 rfl) ?_
              obtain ⟨hin, h⟩ := o_in h
              refine va_iald hx hb hK hP 4 0 rfl rfl hin d_Rf_told_96 ?_
              cases h
              exact kr_i hx hb hr hlocks hP hD hS d_Rf_told_97
            · have h := o_f hn4 h
              refine lv_tableOut (tgt := 98) hx hb d_Rf_told_15 (by have g0 := sw_ne hn0 (show (0 : Int32).toInt = 0 by decide); have g1 := sw_ne hn1 (show (1 : Int32).toInt = 1 by decide); have g2 := sw_ne hn2 (show (2 : Int32).toInt = 2 by decide); have g3 := sw_ne hn3 (show (3 : Int32).toInt = 3 by decide); have g4 := sw_ne hn4 (show (4 : Int32).toInt = 4 by decide); omega) (by decide) ?_
              refine lv_bipush (v := -2) hx hb d_Rf_told_98 (by decide) ?_
              cases h
              exact kr_i hx hb hr hlocks hP hD hS d_Rf_told_100
  · have h := o_t hc h
    refine lv_bipush (v := -2) hx hb d_Rf_told_11 (by decide) ?_
    cases h
    exact kr_i hx hb hr hlocks hP hD hS d_Rf_told_13
set_option maxHeartbeats 4000000 in
set_option maxRecDepth 100000 in
theorem c_Rf_part (l : Launch) (dC : Nat → ClassId) (dI : Nat → Nat → Nat) (cI cJ cZ : ClassId) (a : Nat → Nat) (x1 : Int32) (x2 : Int32) (tr : TrS) (res : Int32) (h : f_Rf_part x1 x2 tr = some res) :
    Kt l (dC, dI) classes [(cI, .int), (cJ, .long), (cZ, .boolean)] y_Rf_part (wz y_Rf_part b_Rf_part 3 (some .int)) { frames := 1, cells := 0, slots := 0, locals := 22 } [.ref (a 0), .int x1, .int x2] (cO cI cJ cZ a ++ cTr cI cJ cZ a tr) (some (.int res)) (cO cI cJ cZ a ++ cTr cI cJ cZ a tr) := by
  refine Kt_of (cc := b_Rf_part) (maxL := 3) (ret := (some .int)) (by decide) (Nat.le_of_ble_eq_true rfl) ?_
  intro p e s m args below meth c A ls hx hb hr hml hlocks hown hts hNw hK hP hD hA hS hl
  have hl : lv_has ls 3 [(0, .ref (a 0)), (1, .int x1), (2, .int x2)] := hl
  have hP : va_P (dC, dI) classes (cO cI cJ cZ a ++ cTr cI cJ cZ a tr) s.heap := hP
  refine lv_aload_n hx hb d_Rf_part_0 rfl (lv_at hl 0 rfl) ?_
  refine va_get (D := (dC, dI)) (ci := 6) (v := .ref (a 4)) (C := R_Rf) (T := F_Rf) (N := 4) hx hb hts inb_Rf hown hK hP 0 rfl rfl 1 (by decide) (hts _ tw277) (fun _ h9 => h9) rfl d_Rf_part_1 ?_
  refine lv_iload_n hx hb d_Rf_part_4 rfl (lv_at hl 1 rfl) ?_
  obtain ⟨y5, hy, h⟩ := o_bd h
  refine kdV (nn := 12) (rest := []) (w' := (cO cI cJ cZ a ++ cTr cI cJ cZ a tr)) (wr := (cO cI cJ cZ a)) (st1 := [.int y5]) ⟨hx, hb, hml, hown, hts⟩ (c_Tr_has l dC dI cI cJ cZ a x1 tr y5 hy) (cwV 1 hts (gd_V tw421 tw328 tw329 tw3 tw330) rfl rfl rfl hd_Tr_has ⟨Nat.le_of_ble_eq_true rfl, Nat.le_of_ble_eq_true rfl⟩) hNw hK hP hD hS hA (ci := 1) rfl rfl rfl [1, 2, 3, 4, 5, 6, 7, 8, 9, 10, 11] [0] rfl rfl rfl rfl rfl (by decide +kernel) (by decide +kernel) rfl hl.1 rfl (Nat.le_of_ble_eq_true rfl) rfl d_Rf_part_5 ⟨Nat.zero_le _, Nat.zero_le _⟩ (fun H locs hP hD hS => ?_)
  refine lv_if_eq (tgt := 28) hx hb d_Rf_part_8 (by decide) (fun hc => ?_) (fun hc => ?_)
  · have h := o_t hc h
    refine lv_bipush (v := -2) hx hb d_Rf_part_28 (by decide) ?_
    cases h
    exact kr_i hx hb hr hlocks hP hD hS d_Rf_part_30
  · have h := o_f hc h
    refine lv_iload_n hx hb d_Rf_part_11 rfl (lv_at hl 2 rfl) ?_
    refine lv_if_lt (tgt := 28) hx hb d_Rf_part_12 (by decide) (fun hc => ?_) (fun hc => ?_)
    · have h := o_t hc h
      refine lv_bipush (v := -2) hx hb d_Rf_part_28 (by decide) ?_
      cases h
      exact kr_i hx hb hr hlocks hP hD hS d_Rf_part_30
    · have h := o_f hc h
      refine lv_iload_n hx hb d_Rf_part_15 rfl (lv_at hl 2 rfl) ?_
      refine lv_aload_n hx hb d_Rf_part_16 rfl (lv_at hl 0 rfl) ?_
      refine va_get (D := (dC, dI)) (ci := 6) (v := .ref (a 4)) (C := R_Rf) (T := F_Rf) (N := 4) hx hb hts inb_Rf hown hK hP 0 rfl rfl 1 (by decide) (hts _ tw277) (fun _ h9 => h9) rfl d_Rf_part_17 ?_
      refine va_get (D := (dC, dI)) (ci := 1) (v := .ref (a 9)) (C := R_Tr) (T := F_Tr) (N := 14) hx hb hts inb_Tr hown hK hP 1 rfl rfl 8 (by decide) (hts _ tw83) (fun _ h9 => h9) rfl d_Rf_part_20 ?_
      refine lv_iload_n hx hb d_Rf_part_23 rfl (lv_at hl 1 rfl) ?_
      obtain ⟨hin, h⟩ := o_in h
      refine va_iald hx hb hK hP 6 0 rfl rfl hin d_Rf_part_24 ?_
      refine lv_icmp_lt (tgt := 31) hx hb d_Rf_part_25 (by decide) (fun hc => ?_) (fun hc => ?_)
      · have h := o_t hc h
        refine lv_aload_n hx hb d_Rf_part_31 rfl (lv_at hl 0 rfl) ?_
        refine va_get (D := (dC, dI)) (ci := 6) (v := .ref (a 4)) (C := R_Rf) (T := F_Rf) (N := 4) hx hb hts inb_Rf hown hK hP 0 rfl rfl 1 (by decide) (hts _ tw277) (fun _ h9 => h9) rfl d_Rf_part_32 ?_
        refine lv_iload_n hx hb d_Rf_part_35 rfl (lv_at hl 1 rfl) ?_
        refine lv_iload_n hx hb d_Rf_part_36 rfl (lv_at hl 2 rfl) ?_
        obtain ⟨y37, hy, h⟩ := o_bd h
        refine kdV (nn := 12) (rest := []) (w' := (cO cI cJ cZ a ++ cTr cI cJ cZ a tr)) (wr := (cO cI cJ cZ a)) (st1 := [.int y37]) ⟨hx, hb, hml, hown, hts⟩ (c_Tr_kid l dC dI cI cJ cZ a x1 x2 tr y37 hy) (cwV 2 hts (gd_V tw426 tw427 tw428 tw3 tw429) rfl rfl rfl hd_Tr_kid ⟨Nat.le_of_ble_eq_true rfl, Nat.le_of_ble_eq_true rfl⟩) hNw hK hP hD hS hA (ci := 1) rfl rfl rfl [1, 2, 3, 4, 5, 6, 7, 8, 9, 10, 11] [0] rfl rfl rfl rfl rfl (by decide +kernel) (by decide +kernel) rfl hl.1 rfl (Nat.le_of_ble_eq_true rfl) rfl d_Rf_part_37 ⟨Nat.zero_le _, Nat.zero_le _⟩ (fun H locs hP hD hS => ?_)
        cases h
        exact kr_i hx hb hr hlocks hP hD hS d_Rf_part_40
      · have h := o_f hc h
        refine lv_bipush (v := -2) hx hb d_Rf_part_28 (by decide) ?_
        cases h
        exact kr_i hx hb hr hlocks hP hD hS d_Rf_part_30
set_option maxHeartbeats 4000000 in
set_option maxRecDepth 100000 in
theorem c_Rf_of (l : Launch) (dC : Nat → ClassId) (dI : Nat → Nat → Nat) (cI cJ cZ : ClassId) (a : Nat → Nat) (x1 : Int32) (kn : KnS) (tr : TrS) (rw : RwS) (lk : LkS) (res : Int32) (h : f_Rf_of x1 kn tr rw lk = some res) :
    Kt l (dC, dI) classes [(cI, .int), (cJ, .long), (cZ, .boolean)] y_Rf_of (wz y_Rf_of b_Rf_of 2 (some .int)) { frames := 1, cells := 0, slots := 0, locals := 20 } [.ref (a 0), .int x1] (cO cI cJ cZ a ++ cKn cI cJ cZ a kn ++ cTr cI cJ cZ a tr ++ cRw cI cJ cZ a rw ++ cLk cI cJ cZ a lk) (some (.int res)) (cO cI cJ cZ a ++ cKn cI cJ cZ a kn ++ cTr cI cJ cZ a tr ++ cRw cI cJ cZ a rw ++ cLk cI cJ cZ a lk) := by
  refine Kt_of (cc := b_Rf_of) (maxL := 2) (ret := (some .int)) (by decide) (Nat.le_of_ble_eq_true rfl) ?_
  intro p e s m args below meth c A ls hx hb hr hml hlocks hown hts hNw hK hP hD hA hS hl
  have hl : lv_has ls 2 [(0, .ref (a 0)), (1, .int x1)] := hl
  have hP : va_P (dC, dI) classes (cO cI cJ cZ a ++ cKn cI cJ cZ a kn ++ cTr cI cJ cZ a tr ++ cRw cI cJ cZ a rw ++ cLk cI cJ cZ a lk) s.heap := hP
  refine lv_iload_n hx hb d_Rf_of_0 rfl (lv_at hl 1 rfl) ?_
  refine sw_by (x := x1) (k := 0) (fun hc => ?_) (fun hn0 => ?_)
  · have h := o_t hc h
    refine sw_in (x := x1) (k := 0) hc (lv_tableIn (tgt := 32) hx hb d_Rf_of_1 (by decide) (by decide) (by rfl) (by decide) ?_)
    refine lv_aload_n hx hb d_Rf_of_32 rfl (lv_at hl 0 rfl) ?_
    refine va_get (D := (dC, dI)) (ci := 6) (v := .ref (a 4)) (C := R_Rf) (T := F_Rf) (N := 4) hx hb hts inb_Rf hown hK hP 0 rfl rfl 1 (by decide) (hts _ tw277) (fun _ h9 => h9) rfl d_Rf_of_33 ?_
    refine va_get (D := (dC, dI)) (ci := 1) (v := .int (Tr_size tr)) (C := R_Tr) (T := F_Tr) (N := 14) hx hb hts inb_Tr hown hK hP 4 rfl rfl 0 (by decide) (hts _ tw59) (fun _ h9 => h9) rfl d_Rf_of_36 ?_
    cases h
    exact kr_i hx hb hr hlocks hP hD hS d_Rf_of_39
  · have h := o_f hn0 h
    refine sw_by (x := x1) (k := 1) (fun hc => ?_) (fun hn1 => ?_)
    · have h := o_t hc h
      refine sw_in (x := x1) (k := 1) hc (lv_tableIn (tgt := 40) hx hb d_Rf_of_1 (by decide) (by decide) (by rfl) (by decide) ?_)
      refine lv_aload_n hx hb d_Rf_of_40 rfl (lv_at hl 0 rfl) ?_
      refine va_get (D := (dC, dI)) (ci := 6) (v := .ref (a 1)) (C := R_Rf) (T := F_Rf) (N := 4) hx hb hts inb_Rf hown hK hP 0 rfl rfl 0 (by decide) (hts _ tw276) (fun _ h9 => h9) rfl d_Rf_of_41 ?_
      refine va_get (D := (dC, dI)) (ci := 0) (v := .int (Kn_count kn)) (C := R_Kn) (T := F_Kn) (N := 3) hx hb hts inb_Kn hown hK hP 1 rfl rfl 0 (by decide) (hts _ tw36) (fun _ h9 => h9) rfl d_Rf_of_44 ?_
      cases h
      exact kr_i hx hb hr hlocks hP hD hS d_Rf_of_47
    · have h := o_f hn1 h
      refine sw_by (x := x1) (k := 2) (fun hc => ?_) (fun hn2 => ?_)
      · have h := o_t hc h
        refine sw_in (x := x1) (k := 2) hc (lv_tableIn (tgt := 48) hx hb d_Rf_of_1 (by decide) (by decide) (by rfl) (by decide) ?_)
        refine lv_aload_n hx hb d_Rf_of_48 rfl (lv_at hl 0 rfl) ?_
        refine va_get (D := (dC, dI)) (ci := 6) (v := .ref (a 15)) (C := R_Rf) (T := F_Rf) (N := 4) hx hb hts inb_Rf hown hK hP 0 rfl rfl 2 (by decide) (hts _ tw278) (fun _ h9 => h9) rfl d_Rf_of_49 ?_
        obtain ⟨y52, hy, h⟩ := o_bd h
        refine kdV (nn := 24) (rest := []) (w' := (cO cI cJ cZ a ++ cKn cI cJ cZ a kn ++ cTr cI cJ cZ a tr ++ cRw cI cJ cZ a rw ++ cLk cI cJ cZ a lk)) (wr := (cO cI cJ cZ a ++ cKn cI cJ cZ a kn ++ cTr cI cJ cZ a tr ++ cLk cI cJ cZ a lk)) (st1 := [.int y52]) ⟨hx, hb, hml, hown, hts⟩ (c_Rw_isOpen l dC dI cI cJ cZ a rw y52 hy) (cwV 0 hts (gd_V tw364 tw365 tw366 tw4 tw367) rfl rfl rfl hd_Rw_isOpen ⟨Nat.le_of_ble_eq_true rfl, Nat.le_of_ble_eq_true rfl⟩) hNw hK hP hD hS hA (ci := 2) rfl rfl rfl [15, 16] [0, 1, 2, 3, 4, 5, 6, 7, 8, 9, 10, 11, 12, 13, 14, 17, 18, 19, 20, 21, 22, 23] rfl rfl rfl rfl rfl (by decide +kernel) (by decide +kernel) rfl hl.1 rfl (Nat.le_of_ble_eq_true rfl) rfl d_Rf_of_52 ⟨Nat.zero_le _, Nat.zero_le _⟩ (fun H locs hP hD hS => ?_)
        refine lv_if_eq (tgt := 68) hx hb d_Rf_of_55 (by decide) (fun hc => ?_) (fun hc => ?_)
        · have h := o_t hc h
          refine lv_iconst (v := -1) hx hb d_Rf_of_68 (by decide) ?_
          cases h
          exact kr_i hx hb hr hlocks hP hD hS d_Rf_of_69
        · have h := o_f hc h
          refine lv_aload_n hx hb d_Rf_of_58 rfl (lv_at hl 0 rfl) ?_
          refine va_get (D := (dC, dI)) (ci := 6) (v := .ref (a 15)) (C := R_Rf) (T := F_Rf) (N := 4) hx hb hts inb_Rf hown hK hP 0 rfl rfl 2 (by decide) (hts _ tw278) (fun _ h9 => h9) rfl d_Rf_of_59 ?_
          refine va_get (D := (dC, dI)) (ci := 2) (v := .int (Rw_size rw)) (C := R_Rw) (T := F_Rw) (N := 4) hx hb hts inb_Rw hown hK hP 15 rfl rfl 1 (by decide) (hts _ tw130) (fun _ h9 => h9) rfl d_Rf_of_62 ?_
          refine lv_goto (tgt := 69) hx hb d_Rf_of_65 (by decide) ?_
          cases h
          exact kr_i hx hb hr hlocks hP hD hS d_Rf_of_69
      · have h := o_f hn2 h
        refine sw_by (x := x1) (k := 3) (fun hc => ?_) (fun hn3 => ?_)
        · have h := o_t hc h
          refine sw_in (x := x1) (k := 3) hc (lv_tableIn (tgt := 70) hx hb d_Rf_of_1 (by decide) (by decide) (by rfl) (by decide) ?_)
          refine lv_aload_n hx hb d_Rf_of_70 rfl (lv_at hl 0 rfl) ?_
          refine va_get (D := (dC, dI)) (ci := 6) (v := .ref (a 17)) (C := R_Rf) (T := F_Rf) (N := 4) hx hb hts inb_Rf hown hK hP 0 rfl rfl 3 (by decide) (hts _ tw279) (fun _ h9 => h9) rfl d_Rf_of_71 ?_
          refine va_get (D := (dC, dI)) (ci := 3) (v := .int (Lk_root lk)) (C := R_Lk) (T := F_Lk) (N := 14) hx hb hts inb_Lk hown hK hP 17 rfl rfl 4 (by decide) (hts _ tw231) (fun _ h9 => h9) rfl d_Rf_of_74 ?_
          cases h
          exact kr_i hx hb hr hlocks hP hD hS d_Rf_of_77
        · have h := o_f hn3 h
          refine lv_tableOut (tgt := 78) hx hb d_Rf_of_1 (by have g0 := sw_ne hn0 (show (0 : Int32).toInt = 0 by decide); have g1 := sw_ne hn1 (show (1 : Int32).toInt = 1 by decide); have g2 := sw_ne hn2 (show (2 : Int32).toInt = 2 by decide); have g3 := sw_ne hn3 (show (3 : Int32).toInt = 3 by decide); omega) (by decide) ?_
          refine lv_bipush (v := -2) hx hb d_Rf_of_78 (by decide) ?_
          cases h
          exact kr_i hx hb hr hlocks hP hD hS d_Rf_of_80
set_option maxHeartbeats 4000000 in
set_option maxRecDepth 100000 in
theorem c_Rf_check (l : Launch) (dC : Nat → ClassId) (dI : Nat → Nat → Nat) (cI cJ cZ : ClassId) (a : Nat → Nat) (N : Nat) (x1 : Int32) (kn : KnS) (tr : TrS) (lk : LkS) (f0 : FlS) (f1 : FlS) (res : Int32 × LkS × FlS × FlS) (h : f_Rf_check N x1 kn tr lk f0 f1 = some res) :
    Kt l (dC, dI) classes [(cI, .int), (cJ, .long), (cZ, .boolean)] y_Rf_check (wz y_Rf_check b_Rf_check 2 (some .int)) { frames := 7, cells := 0, slots := 0, locals := 158 } [.ref (a 0), .int x1] (cO cI cJ cZ a ++ cKn cI cJ cZ a kn ++ cTr cI cJ cZ a tr ++ cLk cI cJ cZ a lk ++ cF0 cI cJ cZ a f0 ++ cF1 cI cJ cZ a f1) (some (.int res.1)) (cO cI cJ cZ a ++ cKn cI cJ cZ a kn ++ cTr cI cJ cZ a tr ++ cLk cI cJ cZ a res.2.1 ++ cF0 cI cJ cZ a res.2.2.1 ++ cF1 cI cJ cZ a res.2.2.2) := by
  refine Kt_of (cc := b_Rf_check) (maxL := 2) (ret := (some .int)) (by decide) (Nat.le_of_ble_eq_true rfl) ?_
  intro p e s m args below meth c A ls hx hb hr hml hlocks hown hts hNw hK hP hD hA hS hl
  have hl : lv_has ls 2 [(0, .ref (a 0)), (1, .int x1)] := hl
  have hP : va_P (dC, dI) classes (cO cI cJ cZ a ++ cKn cI cJ cZ a kn ++ cTr cI cJ cZ a tr ++ cLk cI cJ cZ a lk ++ cF0 cI cJ cZ a f0 ++ cF1 cI cJ cZ a f1) s.heap := hP
  refine lv_aload_n hx hb d_Rf_check_0 rfl (lv_at hl 0 rfl) ?_
  refine va_get (D := (dC, dI)) (ci := 6) (v := .ref (a 4)) (C := R_Rf) (T := F_Rf) (N := 4) hx hb hts inb_Rf hown hK hP 0 rfl rfl 1 (by decide) (hts _ tw277) (fun _ h9 => h9) rfl d_Rf_check_1 ?_
  refine lv_iload_n hx hb d_Rf_check_4 rfl (lv_at hl 1 rfl) ?_
  obtain ⟨y5, hy, h⟩ := o_bd h
  refine kdV (nn := 30) (rest := []) (w' := (cO cI cJ cZ a ++ cKn cI cJ cZ a kn ++ cTr cI cJ cZ a tr ++ cLk cI cJ cZ a lk ++ cF0 cI cJ cZ a f0 ++ cF1 cI cJ cZ a f1)) (wr := (cO cI cJ cZ a ++ cKn cI cJ cZ a kn ++ cLk cI cJ cZ a lk ++ cF0 cI cJ cZ a f0 ++ cF1 cI cJ cZ a f1)) (st1 := [.int y5]) ⟨hx, hb, hml, hown, hts⟩ (c_Tr_has l dC dI cI cJ cZ a x1 tr y5 hy) (cwV 1 hts (gd_V tw421 tw328 tw329 tw3 tw330) rfl rfl rfl hd_Tr_has ⟨Nat.le_of_ble_eq_true rfl, Nat.le_of_ble_eq_true rfl⟩) hNw hK hP hD hS hA (ci := 1) rfl rfl rfl [4, 5, 6, 7, 8, 9, 10, 11, 12, 13, 14] [0, 1, 2, 3, 15, 16, 17, 18, 19, 20, 21, 22, 23, 24, 25, 26, 27, 28, 29] rfl rfl rfl rfl rfl (by decide +kernel) (by decide +kernel) rfl hl.1 rfl (Nat.le_of_ble_eq_true rfl) rfl d_Rf_check_5 ⟨Nat.zero_le _, Nat.zero_le _⟩ (fun H locs hP hD hS => ?_)
  refine lv_if_ne (tgt := 14) hx hb d_Rf_check_8 (by decide) (fun hc => ?_) (fun hc => ?_)
  · have h := o_f hc h
    refine lv_aload_n hx hb d_Rf_check_14 rfl (lv_at hl 0 rfl) ?_
    refine va_get (D := (dC, dI)) (ci := 6) (v := .ref (a 17)) (C := R_Rf) (T := F_Rf) (N := 4) hx hb hts inb_Rf hown hK hP 0 rfl rfl 3 (by decide) (hts _ tw279) (fun _ h9 => h9) rfl d_Rf_check_15 ?_
    refine lv_iload_n hx hb d_Rf_check_18 rfl (lv_at hl 1 rfl) ?_
    obtain ⟨y19, hy, h⟩ := o_bd h
    refine kdV (nn := 30) (rest := []) (w' := (cO cI cJ cZ a ++ cKn cI cJ cZ a kn ++ cTr cI cJ cZ a tr ++ cLk cI cJ cZ a y19.1 ++ cF0 cI cJ cZ a y19.2.1 ++ cF1 cI cJ cZ a y19.2.2)) (wr := (cO cI cJ cZ a)) (st1 := []) ⟨hx, hb, hml, hown, hts⟩ (c_Lk_lookAt l dC dI cI cJ cZ a N x1 lk f0 f1 tr kn y19 hy) (cwV 1 hts (gd_V tw438 tw439 tw440 tw5 tw441) rfl rfl rfl hd_Lk_lookAt ⟨Nat.le_of_ble_eq_true rfl, Nat.le_of_ble_eq_true rfl⟩) hNw hK hP hD hS hA (ci := 3) rfl rfl rfl [15, 16, 17, 18, 19, 20, 21, 22, 23, 24, 25, 26, 27, 28, 29, 4, 5, 6, 7, 8, 9, 10, 11, 12, 13, 14, 1, 2, 3] [0] rfl rfl rfl rfl rfl (by decide +kernel) (by decide +kernel) rfl hl.1 rfl (Nat.le_of_ble_eq_true rfl) rfl d_Rf_check_19 ⟨Nat.zero_le _, Nat.zero_le _⟩ (fun H locs hP hD hS => ?_)
    refine lv_aload_n hx hb d_Rf_check_22 rfl (lv_at hl 0 rfl) ?_
    refine va_get (D := (dC, dI)) (ci := 6) (v := .ref (a 17)) (C := R_Rf) (T := F_Rf) (N := 4) hx hb hts inb_Rf hown hK hP 0 rfl rfl 3 (by decide) (hts _ tw279) (fun _ h9 => h9) rfl d_Rf_check_23 ?_
    refine va_get (D := (dC, dI)) (ci := 3) (v := .int (Lk_faultCount y19.1)) (C := R_Lk) (T := F_Lk) (N := 14) hx hb hts inb_Lk hown hK hP 15 rfl rfl 9 (by decide) (hts _ tw238) (fun _ h9 => h9) rfl d_Rf_check_26 ?_
    cases h
    exact kr_i hx hb hr hlocks hP hD hS d_Rf_check_29
  · have h := o_t hc h
    refine lv_bipush (v := -2) hx hb d_Rf_check_11 (by decide) ?_
    cases h
    exact kr_i hx hb hr hlocks hP hD hS d_Rf_check_13
set_option maxHeartbeats 4000000 in
set_option maxRecDepth 100000 in
theorem c_Rf_fault (l : Launch) (dC : Nat → ClassId) (dI : Nat → Nat → Nat) (cI cJ cZ : ClassId) (a : Nat → Nat) (x1 : Int32) (x2 : Int32) (lk : LkS) (res : Int32) (h : f_Rf_fault x1 x2 lk = some res) :
    Kt l (dC, dI) classes [(cI, .int), (cJ, .long), (cZ, .boolean)] y_Rf_fault (wz y_Rf_fault b_Rf_fault 3 (some .int)) { frames := 0, cells := 0, slots := 0, locals := 0 } [.ref (a 0), .int x1, .int x2] (cO cI cJ cZ a ++ cLk cI cJ cZ a lk) (some (.int res)) (cO cI cJ cZ a ++ cLk cI cJ cZ a lk) := by
  refine Kt_of (cc := b_Rf_fault) (maxL := 3) (ret := (some .int)) (by decide) (Nat.le_of_ble_eq_true rfl) ?_
  intro p e s m args below meth c A ls hx hb hr hml hlocks hown hts hNw hK hP hD hA hS hl
  have hl : lv_has ls 3 [(0, .ref (a 0)), (1, .int x1), (2, .int x2)] := hl
  have hP : va_P (dC, dI) classes (cO cI cJ cZ a ++ cLk cI cJ cZ a lk) s.heap := hP
  refine lv_iload_n hx hb d_Rf_fault_0 rfl (lv_at hl 1 rfl) ?_
  refine lv_if_lt (tgt := 24) hx hb d_Rf_fault_1 (by decide) (fun hc => ?_) (fun hc => ?_)
  · have h := o_t hc h
    refine lv_bipush (v := -2) hx hb d_Rf_fault_24 (by decide) ?_
    cases h
    exact kr_i hx hb hr hlocks hP hD hS d_Rf_fault_26
  · have h := o_f hc h
    refine lv_iload_n hx hb d_Rf_fault_4 rfl (lv_at hl 1 rfl) ?_
    refine lv_aload_n hx hb d_Rf_fault_5 rfl (lv_at hl 0 rfl) ?_
    refine va_get (D := (dC, dI)) (ci := 6) (v := .ref (a 17)) (C := R_Rf) (T := F_Rf) (N := 4) hx hb hts inb_Rf hown hK hP 0 rfl rfl 3 (by decide) (hts _ tw279) (fun _ h9 => h9) rfl d_Rf_fault_6 ?_
    refine va_get (D := (dC, dI)) (ci := 3) (v := .int (Lk_faultCount lk)) (C := R_Lk) (T := F_Lk) (N := 14) hx hb hts inb_Lk hown hK hP 1 rfl rfl 9 (by decide) (hts _ tw238) (fun _ h9 => h9) rfl d_Rf_fault_9 ?_
    refine lv_icmp_ge (tgt := 24) hx hb d_Rf_fault_12 (by decide) (fun hc => ?_) (fun hc => ?_)
    · have h := o_t hc h
      refine lv_bipush (v := -2) hx hb d_Rf_fault_24 (by decide) ?_
      cases h
      exact kr_i hx hb hr hlocks hP hD hS d_Rf_fault_26
    · have h := o_f hc h
      refine lv_iload_n hx hb d_Rf_fault_15 rfl (lv_at hl 2 rfl) ?_
      refine lv_if_lt (tgt := 24) hx hb d_Rf_fault_16 (by decide) (fun hc => ?_) (fun hc => ?_)
      · have h := o_t hc h
        refine lv_bipush (v := -2) hx hb d_Rf_fault_24 (by decide) ?_
        cases h
        exact kr_i hx hb hr hlocks hP hD hS d_Rf_fault_26
      · have h := o_f hc h
        refine lv_iload_n hx hb d_Rf_fault_19 rfl (lv_at hl 2 rfl) ?_
        refine lv_iconst (v := 1) hx hb d_Rf_fault_20 (by decide) ?_
        refine lv_icmp_le (tgt := 27) hx hb d_Rf_fault_21 (by decide) (fun hc => ?_) (fun hc => ?_)
        · have h := o_t hc h
          refine lv_iload_n hx hb d_Rf_fault_27 rfl (lv_at hl 2 rfl) ?_
          refine lv_if_ne (tgt := 43) hx hb d_Rf_fault_28 (by decide) (fun hc => ?_) (fun hc => ?_)
          · have h := o_f hc h
            refine lv_aload_n hx hb d_Rf_fault_43 rfl (lv_at hl 0 rfl) ?_
            refine va_get (D := (dC, dI)) (ci := 6) (v := .ref (a 17)) (C := R_Rf) (T := F_Rf) (N := 4) hx hb hts inb_Rf hown hK hP 0 rfl rfl 3 (by decide) (hts _ tw279) (fun _ h9 => h9) rfl d_Rf_fault_44 ?_
            refine va_get (D := (dC, dI)) (ci := 3) (v := .ref (a 22)) (C := R_Lk) (T := F_Lk) (N := 14) hx hb hts inb_Lk hown hK hP 1 rfl rfl 11 (by decide) (hts _ tw242) (fun _ h9 => h9) rfl d_Rf_fault_47 ?_
            refine lv_iload_n hx hb d_Rf_fault_50 rfl (lv_at hl 1 rfl) ?_
            obtain ⟨hin, h⟩ := o_in h
            refine va_iald hx hb hK hP 6 0 rfl rfl hin d_Rf_fault_51 ?_
            cases h
            exact kr_i hx hb hr hlocks hP hD hS d_Rf_fault_52
          · have h := o_t hc h
            refine lv_aload_n hx hb d_Rf_fault_31 rfl (lv_at hl 0 rfl) ?_
            refine va_get (D := (dC, dI)) (ci := 6) (v := .ref (a 17)) (C := R_Rf) (T := F_Rf) (N := 4) hx hb hts inb_Rf hown hK hP 0 rfl rfl 3 (by decide) (hts _ tw279) (fun _ h9 => h9) rfl d_Rf_fault_32 ?_
            refine va_get (D := (dC, dI)) (ci := 3) (v := .ref (a 21)) (C := R_Lk) (T := F_Lk) (N := 14) hx hb hts inb_Lk hown hK hP 1 rfl rfl 10 (by decide) (hts _ tw240) (fun _ h9 => h9) rfl d_Rf_fault_35 ?_
            refine lv_iload_n hx hb d_Rf_fault_38 rfl (lv_at hl 1 rfl) ?_
            obtain ⟨hin, h⟩ := o_in h
            refine va_iald hx hb hK hP 5 0 rfl rfl hin d_Rf_fault_39 ?_
            refine lv_goto (tgt := 52) hx hb d_Rf_fault_40 (by decide) ?_
            cases h
            exact kr_i hx hb hr hlocks hP hD hS d_Rf_fault_52
        · have h := o_f hc h
          refine lv_bipush (v := -2) hx hb d_Rf_fault_24 (by decide) ?_
          cases h
          exact kr_i hx hb hr hlocks hP hD hS d_Rf_fault_26
set_option maxHeartbeats 4000000 in
set_option maxRecDepth 100000 in
theorem c_Rf_notes (l : Launch) (dC : Nat → ClassId) (dI : Nat → Nat → Nat) (cI cJ cZ : ClassId) (a : Nat → Nat) (lk : LkS) (res : Int32) (h : f_Rf_notes lk = some res) :
    Kt l (dC, dI) classes [(cI, .int), (cJ, .long), (cZ, .boolean)] y_Rf_notes (wz y_Rf_notes b_Rf_notes 1 (some .int)) { frames := 0, cells := 0, slots := 0, locals := 0 } [.ref (a 0)] (cO cI cJ cZ a ++ cLk cI cJ cZ a lk) (some (.int res)) (cO cI cJ cZ a ++ cLk cI cJ cZ a lk) := by
  refine Kt_of (cc := b_Rf_notes) (maxL := 1) (ret := (some .int)) (by decide) (Nat.le_of_ble_eq_true rfl) ?_
  intro p e s m args below meth c A ls hx hb hr hml hlocks hown hts hNw hK hP hD hA hS hl
  have hl : lv_has ls 1 [(0, .ref (a 0))] := hl
  have hP : va_P (dC, dI) classes (cO cI cJ cZ a ++ cLk cI cJ cZ a lk) s.heap := hP
  refine lv_aload_n hx hb d_Rf_notes_0 rfl (lv_at hl 0 rfl) ?_
  refine va_get (D := (dC, dI)) (ci := 6) (v := .ref (a 17)) (C := R_Rf) (T := F_Rf) (N := 4) hx hb hts inb_Rf hown hK hP 0 rfl rfl 3 (by decide) (hts _ tw279) (fun _ h9 => h9) rfl d_Rf_notes_1 ?_
  refine va_get (D := (dC, dI)) (ci := 3) (v := .int (Lk_noteCount lk)) (C := R_Lk) (T := F_Lk) (N := 14) hx hb hts inb_Lk hown hK hP 1 rfl rfl 12 (by decide) (hts _ tw244) (fun _ h9 => h9) rfl d_Rf_notes_4 ?_
  cases h
  exact kr_i hx hb hr hlocks hP hD hS d_Rf_notes_7
set_option maxHeartbeats 4000000 in
set_option maxRecDepth 100000 in
theorem c_Rf_note (l : Launch) (dC : Nat → ClassId) (dI : Nat → Nat → Nat) (cI cJ cZ : ClassId) (a : Nat → Nat) (x1 : Int32) (lk : LkS) (res : Int32) (h : f_Rf_note x1 lk = some res) :
    Kt l (dC, dI) classes [(cI, .int), (cJ, .long), (cZ, .boolean)] y_Rf_note (wz y_Rf_note b_Rf_note 2 (some .int)) { frames := 0, cells := 0, slots := 0, locals := 0 } [.ref (a 0), .int x1] (cO cI cJ cZ a ++ cLk cI cJ cZ a lk) (some (.int res)) (cO cI cJ cZ a ++ cLk cI cJ cZ a lk) := by
  refine Kt_of (cc := b_Rf_note) (maxL := 2) (ret := (some .int)) (by decide) (Nat.le_of_ble_eq_true rfl) ?_
  intro p e s m args below meth c A ls hx hb hr hml hlocks hown hts hNw hK hP hD hA hS hl
  have hl : lv_has ls 2 [(0, .ref (a 0)), (1, .int x1)] := hl
  have hP : va_P (dC, dI) classes (cO cI cJ cZ a ++ cLk cI cJ cZ a lk) s.heap := hP
  refine lv_iload_n hx hb d_Rf_note_0 rfl (lv_at hl 1 rfl) ?_
  refine lv_if_lt (tgt := 15) hx hb d_Rf_note_1 (by decide) (fun hc => ?_) (fun hc => ?_)
  · have h := o_t hc h
    refine lv_bipush (v := -2) hx hb d_Rf_note_15 (by decide) ?_
    refine lv_goto (tgt := 29) hx hb d_Rf_note_17 (by decide) ?_
    cases h
    exact kr_i hx hb hr hlocks hP hD hS d_Rf_note_29
  · have h := o_f hc h
    refine lv_iload_n hx hb d_Rf_note_4 rfl (lv_at hl 1 rfl) ?_
    refine lv_aload_n hx hb d_Rf_note_5 rfl (lv_at hl 0 rfl) ?_
    refine va_get (D := (dC, dI)) (ci := 6) (v := .ref (a 17)) (C := R_Rf) (T := F_Rf) (N := 4) hx hb hts inb_Rf hown hK hP 0 rfl rfl 3 (by decide) (hts _ tw279) (fun _ h9 => h9) rfl d_Rf_note_6 ?_
    refine va_get (D := (dC, dI)) (ci := 3) (v := .int (Lk_noteCount lk)) (C := R_Lk) (T := F_Lk) (N := 14) hx hb hts inb_Lk hown hK hP 1 rfl rfl 12 (by decide) (hts _ tw244) (fun _ h9 => h9) rfl d_Rf_note_9 ?_
    refine lv_icmp_lt (tgt := 20) hx hb d_Rf_note_12 (by decide) (fun hc => ?_) (fun hc => ?_)
    · have h := o_t hc h
      refine lv_aload_n hx hb d_Rf_note_20 rfl (lv_at hl 0 rfl) ?_
      refine va_get (D := (dC, dI)) (ci := 6) (v := .ref (a 17)) (C := R_Rf) (T := F_Rf) (N := 4) hx hb hts inb_Rf hown hK hP 0 rfl rfl 3 (by decide) (hts _ tw279) (fun _ h9 => h9) rfl d_Rf_note_21 ?_
      refine va_get (D := (dC, dI)) (ci := 3) (v := .ref (a 23)) (C := R_Lk) (T := F_Lk) (N := 14) hx hb hts inb_Lk hown hK hP 1 rfl rfl 13 (by decide) (hts _ tw246) (fun _ h9 => h9) rfl d_Rf_note_24 ?_
      refine lv_iload_n hx hb d_Rf_note_27 rfl (lv_at hl 1 rfl) ?_
      obtain ⟨hin, h⟩ := o_in h
      refine va_iald hx hb hK hP 7 0 rfl rfl hin d_Rf_note_28 ?_
      cases h
      exact kr_i hx hb hr hlocks hP hD hS d_Rf_note_29
    · have h := o_f hc h
      refine lv_bipush (v := -2) hx hb d_Rf_note_15 (by decide) ?_
      refine lv_goto (tgt := 29) hx hb d_Rf_note_17 (by decide) ?_
      cases h
      exact kr_i hx hb hr hlocks hP hD hS d_Rf_note_29
set_option maxHeartbeats 4000000 in
set_option maxRecDepth 100000 in
theorem c_Rf_reached (l : Launch) (dC : Nat → ClassId) (dI : Nat → Nat → Nat) (cI cJ cZ : ClassId) (a : Nat → Nat) (x1 : Int32) (tr : TrS) (lk : LkS) (f0 : FlS) (res : Int32) (h : f_Rf_reached x1 tr f0 = some res) :
    Kt l (dC, dI) classes [(cI, .int), (cJ, .long), (cZ, .boolean)] y_Rf_reached (wz y_Rf_reached b_Rf_reached 2 (some .boolean)) { frames := 2, cells := 0, slots := 0, locals := 43 } [.ref (a 0), .int x1] (cO cI cJ cZ a ++ cTr cI cJ cZ a tr ++ cLk cI cJ cZ a lk ++ cF0 cI cJ cZ a f0) (some (.int res)) (cO cI cJ cZ a ++ cTr cI cJ cZ a tr ++ cLk cI cJ cZ a lk ++ cF0 cI cJ cZ a f0) := by
  refine Kt_of (cc := b_Rf_reached) (maxL := 2) (ret := (some .boolean)) (by decide) (Nat.le_of_ble_eq_true rfl) ?_
  intro p e s m args below meth c A ls hx hb hr hml hlocks hown hts hNw hK hP hD hA hS hl
  have hl : lv_has ls 2 [(0, .ref (a 0)), (1, .int x1)] := hl
  have hP : va_P (dC, dI) classes (cO cI cJ cZ a ++ cTr cI cJ cZ a tr ++ cLk cI cJ cZ a lk ++ cF0 cI cJ cZ a f0) s.heap := hP
  refine lv_aload_n hx hb d_Rf_reached_0 rfl (lv_at hl 0 rfl) ?_
  refine va_get (D := (dC, dI)) (ci := 6) (v := .ref (a 4)) (C := R_Rf) (T := F_Rf) (N := 4) hx hb hts inb_Rf hown hK hP 0 rfl rfl 1 (by decide) (hts _ tw277) (fun _ h9 => h9) rfl d_Rf_reached_1 ?_
  refine lv_iload_n hx hb d_Rf_reached_4 rfl (lv_at hl 1 rfl) ?_
  obtain ⟨y5, hy, h⟩ := o_bd h
  refine kdV (nn := 23) (rest := []) (w' := (cO cI cJ cZ a ++ cTr cI cJ cZ a tr ++ cLk cI cJ cZ a lk ++ cF0 cI cJ cZ a f0)) (wr := (cO cI cJ cZ a ++ cLk cI cJ cZ a lk ++ cF0 cI cJ cZ a f0)) (st1 := [.int y5]) ⟨hx, hb, hml, hown, hts⟩ (c_Tr_has l dC dI cI cJ cZ a x1 tr y5 hy) (cwV 1 hts (gd_V tw421 tw328 tw329 tw3 tw330) rfl rfl rfl hd_Tr_has ⟨Nat.le_of_ble_eq_true rfl, Nat.le_of_ble_eq_true rfl⟩) hNw hK hP hD hS hA (ci := 1) rfl rfl rfl [1, 2, 3, 4, 5, 6, 7, 8, 9, 10, 11] [0, 12, 13, 14, 15, 16, 17, 18, 19, 20, 21, 22] rfl rfl rfl rfl rfl (by decide +kernel) (by decide +kernel) rfl hl.1 rfl (Nat.le_of_ble_eq_true rfl) rfl d_Rf_reached_5 ⟨Nat.zero_le _, Nat.zero_le _⟩ (fun H locs hP hD hS => ?_)
  refine lv_if_eq (tgt := 29) hx hb d_Rf_reached_8 (by decide) (fun hc => ?_) (fun hc => ?_)
  · have h := o_t hc h
    refine lv_iconst (v := 0) hx hb d_Rf_reached_29 (by decide) ?_
    cases h
    exact kr_z hx hb hr (by decide) hlocks hP hD hS d_Rf_reached_30
  · have h := o_f hc h
    refine lv_aload_n hx hb d_Rf_reached_11 rfl (lv_at hl 0 rfl) ?_
    refine va_get (D := (dC, dI)) (ci := 6) (v := .ref (a 17)) (C := R_Rf) (T := F_Rf) (N := 4) hx hb hts inb_Rf hown hK hP 0 rfl rfl 3 (by decide) (hts _ tw279) (fun _ h9 => h9) rfl d_Rf_reached_12 ?_
    refine va_get (D := (dC, dI)) (ci := 3) (v := .ref (a 24)) (C := R_Lk) (T := F_Lk) (N := 14) hx hb hts inb_Lk hown hK hP 12 rfl rfl 2 (by decide) (hts _ tw227) (fun _ h9 => h9) rfl d_Rf_reached_15 ?_
    refine lv_iload_n hx hb d_Rf_reached_18 rfl (lv_at hl 1 rfl) ?_
    obtain ⟨y19, hy, h⟩ := o_bd h
    refine kdU (nn := 23) (rest := []) (w' := (cO cI cJ cZ a ++ cTr cI cJ cZ a tr ++ cLk cI cJ cZ a lk ++ cF0 cI cJ cZ a f0)) (wr := (cO cI cJ cZ a ++ cTr cI cJ cZ a tr ++ cLk cI cJ cZ a lk)) (st1 := [.int y19]) ⟨hx, hb, hml, hown, hts⟩ (c_Fl_meets_0 l dC dI cI cJ cZ a x1 f0 y19 hy) (va_cwU 1 hts (gd_U tw632 tw590 tw591 tw589 tw6 tw593) rfl rfl rfl rfl hdU_meets ⟨Nat.le_of_ble_eq_true rfl, Nat.le_of_ble_eq_true rfl⟩) hNw hK hP hD hS hA (ci := 4) rfl rfl rfl [19, 20, 21, 22] [0, 1, 2, 3, 4, 5, 6, 7, 8, 9, 10, 11, 12, 13, 14, 15, 16, 17, 18] rfl rfl rfl rfl rfl (by decide +kernel) (by decide +kernel) rfl hl.1 rfl (Nat.le_of_ble_eq_true rfl) rfl d_Rf_reached_19 ⟨Nat.zero_le _, Nat.zero_le _⟩ (fun H locs hP hD hS => ?_)
    refine lv_if_eq (tgt := 29) hx hb d_Rf_reached_22 (by decide) (fun hc => ?_) (fun hc => ?_)
    · have h := o_t hc h
      refine lv_iconst (v := 0) hx hb d_Rf_reached_29 (by decide) ?_
      cases h
      exact kr_z hx hb hr (by decide) hlocks hP hD hS d_Rf_reached_30
    · have h := o_f hc h
      refine lv_iconst (v := 1) hx hb d_Rf_reached_25 (by decide) ?_
      refine lv_goto (tgt := 30) hx hb d_Rf_reached_26 (by decide) ?_
      cases h
      exact kr_z hx hb hr (by decide) hlocks hP hD hS d_Rf_reached_30
set_option maxHeartbeats 4000000 in
set_option maxRecDepth 100000 in
theorem c_Rf_completes (l : Launch) (dC : Nat → ClassId) (dI : Nat → Nat → Nat) (cI cJ cZ : ClassId) (a : Nat → Nat) (x1 : Int32) (tr : TrS) (lk : LkS) (f0 : FlS) (res : Int32) (h : f_Rf_completes x1 tr f0 = some res) :
    Kt l (dC, dI) classes [(cI, .int), (cJ, .long), (cZ, .boolean)] y_Rf_completes (wz y_Rf_completes b_Rf_completes 2 (some .boolean)) { frames := 2, cells := 0, slots := 0, locals := 43 } [.ref (a 0), .int x1] (cO cI cJ cZ a ++ cTr cI cJ cZ a tr ++ cLk cI cJ cZ a lk ++ cF0 cI cJ cZ a f0) (some (.int res)) (cO cI cJ cZ a ++ cTr cI cJ cZ a tr ++ cLk cI cJ cZ a lk ++ cF0 cI cJ cZ a f0) := by
  refine Kt_of (cc := b_Rf_completes) (maxL := 2) (ret := (some .boolean)) (by decide) (Nat.le_of_ble_eq_true rfl) ?_
  intro p e s m args below meth c A ls hx hb hr hml hlocks hown hts hNw hK hP hD hA hS hl
  have hl : lv_has ls 2 [(0, .ref (a 0)), (1, .int x1)] := hl
  have hP : va_P (dC, dI) classes (cO cI cJ cZ a ++ cTr cI cJ cZ a tr ++ cLk cI cJ cZ a lk ++ cF0 cI cJ cZ a f0) s.heap := hP
  refine lv_aload_n hx hb d_Rf_completes_0 rfl (lv_at hl 0 rfl) ?_
  refine va_get (D := (dC, dI)) (ci := 6) (v := .ref (a 4)) (C := R_Rf) (T := F_Rf) (N := 4) hx hb hts inb_Rf hown hK hP 0 rfl rfl 1 (by decide) (hts _ tw277) (fun _ h9 => h9) rfl d_Rf_completes_1 ?_
  refine lv_iload_n hx hb d_Rf_completes_4 rfl (lv_at hl 1 rfl) ?_
  obtain ⟨y5, hy, h⟩ := o_bd h
  refine kdV (nn := 23) (rest := []) (w' := (cO cI cJ cZ a ++ cTr cI cJ cZ a tr ++ cLk cI cJ cZ a lk ++ cF0 cI cJ cZ a f0)) (wr := (cO cI cJ cZ a ++ cLk cI cJ cZ a lk ++ cF0 cI cJ cZ a f0)) (st1 := [.int y5]) ⟨hx, hb, hml, hown, hts⟩ (c_Tr_has l dC dI cI cJ cZ a x1 tr y5 hy) (cwV 1 hts (gd_V tw421 tw328 tw329 tw3 tw330) rfl rfl rfl hd_Tr_has ⟨Nat.le_of_ble_eq_true rfl, Nat.le_of_ble_eq_true rfl⟩) hNw hK hP hD hS hA (ci := 1) rfl rfl rfl [1, 2, 3, 4, 5, 6, 7, 8, 9, 10, 11] [0, 12, 13, 14, 15, 16, 17, 18, 19, 20, 21, 22] rfl rfl rfl rfl rfl (by decide +kernel) (by decide +kernel) rfl hl.1 rfl (Nat.le_of_ble_eq_true rfl) rfl d_Rf_completes_5 ⟨Nat.zero_le _, Nat.zero_le _⟩ (fun H locs hP hD hS => ?_)
  refine lv_if_eq (tgt := 43) hx hb d_Rf_completes_8 (by decide) (fun hc => ?_) (fun hc => ?_)
  · have h := o_t hc h
    refine lv_iconst (v := 0) hx hb d_Rf_completes_43 (by decide) ?_
    cases h
    exact kr_z hx hb hr (by decide) hlocks hP hD hS d_Rf_completes_44
  · have h := o_f hc h
    refine lv_aload_n hx hb d_Rf_completes_11 rfl (lv_at hl 0 rfl) ?_
    refine va_get (D := (dC, dI)) (ci := 6) (v := .ref (a 17)) (C := R_Rf) (T := F_Rf) (N := 4) hx hb hts inb_Rf hown hK hP 0 rfl rfl 3 (by decide) (hts _ tw279) (fun _ h9 => h9) rfl d_Rf_completes_12 ?_
    refine va_get (D := (dC, dI)) (ci := 3) (v := .ref (a 24)) (C := R_Lk) (T := F_Lk) (N := 14) hx hb hts inb_Lk hown hK hP 12 rfl rfl 2 (by decide) (hts _ tw227) (fun _ h9 => h9) rfl d_Rf_completes_15 ?_
    refine lv_iload_n hx hb d_Rf_completes_18 rfl (lv_at hl 1 rfl) ?_
    obtain ⟨y19, hy, h⟩ := o_bd h
    refine kdU (nn := 23) (rest := []) (w' := (cO cI cJ cZ a ++ cTr cI cJ cZ a tr ++ cLk cI cJ cZ a lk ++ cF0 cI cJ cZ a f0)) (wr := (cO cI cJ cZ a ++ cTr cI cJ cZ a tr ++ cLk cI cJ cZ a lk)) (st1 := [.int y19]) ⟨hx, hb, hml, hown, hts⟩ (c_Fl_meets_0 l dC dI cI cJ cZ a x1 f0 y19 hy) (va_cwU 1 hts (gd_U tw632 tw590 tw591 tw589 tw6 tw593) rfl rfl rfl rfl hdU_meets ⟨Nat.le_of_ble_eq_true rfl, Nat.le_of_ble_eq_true rfl⟩) hNw hK hP hD hS hA (ci := 4) rfl rfl rfl [19, 20, 21, 22] [0, 1, 2, 3, 4, 5, 6, 7, 8, 9, 10, 11, 12, 13, 14, 15, 16, 17, 18] rfl rfl rfl rfl rfl (by decide +kernel) (by decide +kernel) rfl hl.1 rfl (Nat.le_of_ble_eq_true rfl) rfl d_Rf_completes_19 ⟨Nat.zero_le _, Nat.zero_le _⟩ (fun H locs hP hD hS => ?_)
    refine lv_if_eq (tgt := 43) hx hb d_Rf_completes_22 (by decide) (fun hc => ?_) (fun hc => ?_)
    · have h := o_t hc h
      refine lv_iconst (v := 0) hx hb d_Rf_completes_43 (by decide) ?_
      cases h
      exact kr_z hx hb hr (by decide) hlocks hP hD hS d_Rf_completes_44
    · have h := o_f hc h
      refine lv_aload_n hx hb d_Rf_completes_25 rfl (lv_at hl 0 rfl) ?_
      refine va_get (D := (dC, dI)) (ci := 6) (v := .ref (a 17)) (C := R_Rf) (T := F_Rf) (N := 4) hx hb hts inb_Rf hown hK hP 0 rfl rfl 3 (by decide) (hts _ tw279) (fun _ h9 => h9) rfl d_Rf_completes_26 ?_
      refine va_get (D := (dC, dI)) (ci := 3) (v := .ref (a 24)) (C := R_Lk) (T := F_Lk) (N := 14) hx hb hts inb_Lk hown hK hP 12 rfl rfl 2 (by decide) (hts _ tw227) (fun _ h9 => h9) rfl d_Rf_completes_29 ?_
      refine lv_iload_n hx hb d_Rf_completes_32 rfl (lv_at hl 1 rfl) ?_
      obtain ⟨y33, hy, h⟩ := o_bd h
      refine kdU (nn := 23) (rest := []) (w' := (cO cI cJ cZ a ++ cTr cI cJ cZ a tr ++ cLk cI cJ cZ a lk ++ cF0 cI cJ cZ a f0)) (wr := (cO cI cJ cZ a ++ cTr cI cJ cZ a tr ++ cLk cI cJ cZ a lk)) (st1 := [.int y33]) ⟨hx, hb, hml, hown, hts⟩ (c_Fl_endsNormally_0 l dC dI cI cJ cZ a x1 f0 y33 hy) (va_cwU 1 hts (gd_U tw637 tw547 tw548 tw546 tw6 tw550) rfl rfl rfl rfl hdU_endsNormally ⟨Nat.le_of_ble_eq_true rfl, Nat.le_of_ble_eq_true rfl⟩) hNw hK hP hD hS hA (ci := 4) rfl rfl rfl [19, 20, 21, 22] [0, 1, 2, 3, 4, 5, 6, 7, 8, 9, 10, 11, 12, 13, 14, 15, 16, 17, 18] rfl rfl rfl rfl rfl (by decide +kernel) (by decide +kernel) rfl hl.1 rfl (Nat.le_of_ble_eq_true rfl) rfl d_Rf_completes_33 ⟨Nat.zero_le _, Nat.zero_le _⟩ (fun H locs hP hD hS => ?_)
      refine lv_if_eq (tgt := 43) hx hb d_Rf_completes_36 (by decide) (fun hc => ?_) (fun hc => ?_)
      · have h := o_t hc h
        refine lv_iconst (v := 0) hx hb d_Rf_completes_43 (by decide) ?_
        cases h
        exact kr_z hx hb hr (by decide) hlocks hP hD hS d_Rf_completes_44
      · have h := o_f hc h
        refine lv_iconst (v := 1) hx hb d_Rf_completes_39 (by decide) ?_
        refine lv_goto (tgt := 44) hx hb d_Rf_completes_40 (by decide) ?_
        cases h
        exact kr_z hx hb hr (by decide) hlocks hP hD hS d_Rf_completes_44
set_option maxHeartbeats 4000000 in
set_option maxRecDepth 100000 in
theorem c_Rf_can (l : Launch) (dC : Nat → ClassId) (dI : Nat → Nat → Nat) (cI cJ cZ : ClassId) (a : Nat → Nat) (x1 : Int32) (x2 : Int32) (kn : KnS) (tr : TrS) (lk : LkS) (f0 : FlS) (res : Int32) (h : f_Rf_can x1 x2 kn tr f0 = some res) :
    Kt l (dC, dI) classes [(cI, .int), (cJ, .long), (cZ, .boolean)] y_Rf_can (wz y_Rf_can b_Rf_can 3 (some .int)) { frames := 2, cells := 0, slots := 0, locals := 43 } [.ref (a 0), .int x1, .int x2] (cO cI cJ cZ a ++ cKn cI cJ cZ a kn ++ cTr cI cJ cZ a tr ++ cLk cI cJ cZ a lk ++ cF0 cI cJ cZ a f0) (some (.int res)) (cO cI cJ cZ a ++ cKn cI cJ cZ a kn ++ cTr cI cJ cZ a tr ++ cLk cI cJ cZ a lk ++ cF0 cI cJ cZ a f0) := by
  refine Kt_of (cc := b_Rf_can) (maxL := 3) (ret := (some .int)) (by decide) (Nat.le_of_ble_eq_true rfl) ?_
  intro p e s m args below meth c A ls hx hb hr hml hlocks hown hts hNw hK hP hD hA hS hl
  have hl : lv_has ls 3 [(0, .ref (a 0)), (1, .int x1), (2, .int x2)] := hl
  have hP : va_P (dC, dI) classes (cO cI cJ cZ a ++ cKn cI cJ cZ a kn ++ cTr cI cJ cZ a tr ++ cLk cI cJ cZ a lk ++ cF0 cI cJ cZ a f0) s.heap := hP
  refine lv_aload_n hx hb d_Rf_can_0 rfl (lv_at hl 0 rfl) ?_
  refine va_get (D := (dC, dI)) (ci := 6) (v := .ref (a 4)) (C := R_Rf) (T := F_Rf) (N := 4) hx hb hts inb_Rf hown hK hP 0 rfl rfl 1 (by decide) (hts _ tw277) (fun _ h9 => h9) rfl d_Rf_can_1 ?_
  refine lv_iload_n hx hb d_Rf_can_4 rfl (lv_at hl 1 rfl) ?_
  obtain ⟨y5, hy, h⟩ := o_bd h
  refine kdV (nn := 26) (rest := []) (w' := (cO cI cJ cZ a ++ cKn cI cJ cZ a kn ++ cTr cI cJ cZ a tr ++ cLk cI cJ cZ a lk ++ cF0 cI cJ cZ a f0)) (wr := (cO cI cJ cZ a ++ cKn cI cJ cZ a kn ++ cLk cI cJ cZ a lk ++ cF0 cI cJ cZ a f0)) (st1 := [.int y5]) ⟨hx, hb, hml, hown, hts⟩ (c_Tr_has l dC dI cI cJ cZ a x1 tr y5 hy) (cwV 1 hts (gd_V tw421 tw328 tw329 tw3 tw330) rfl rfl rfl hd_Tr_has ⟨Nat.le_of_ble_eq_true rfl, Nat.le_of_ble_eq_true rfl⟩) hNw hK hP hD hS hA (ci := 1) rfl rfl rfl [4, 5, 6, 7, 8, 9, 10, 11, 12, 13, 14] [0, 1, 2, 3, 15, 16, 17, 18, 19, 20, 21, 22, 23, 24, 25] rfl rfl rfl rfl rfl (by decide +kernel) (by decide +kernel) rfl hl.1 rfl (Nat.le_of_ble_eq_true rfl) rfl d_Rf_can_5 ⟨Nat.zero_le _, Nat.zero_le _⟩ (fun H locs hP hD hS => ?_)
  refine lv_if_eq (tgt := 22) hx hb d_Rf_can_8 (by decide) (fun hc => ?_) (fun hc => ?_)
  · have h := o_t hc h
    refine lv_bipush (v := -2) hx hb d_Rf_can_22 (by decide) ?_
    cases h
    exact kr_i hx hb hr hlocks hP hD hS d_Rf_can_24
  · have h := o_f hc h
    refine lv_aload_n hx hb d_Rf_can_11 rfl (lv_at hl 0 rfl) ?_
    refine va_get (D := (dC, dI)) (ci := 6) (v := .ref (a 1)) (C := R_Rf) (T := F_Rf) (N := 4) hx hb hts inb_Rf hown hK hP 0 rfl rfl 0 (by decide) (hts _ tw276) (fun _ h9 => h9) rfl d_Rf_can_12 ?_
    refine lv_iload_n hx hb d_Rf_can_15 rfl (lv_at hl 2 rfl) ?_
    obtain ⟨y16, hy, h⟩ := o_bd h
    refine kdV (nn := 26) (rest := []) (w' := (cO cI cJ cZ a ++ cKn cI cJ cZ a kn ++ cTr cI cJ cZ a tr ++ cLk cI cJ cZ a lk ++ cF0 cI cJ cZ a f0)) (wr := (cO cI cJ cZ a ++ cTr cI cJ cZ a tr ++ cLk cI cJ cZ a lk ++ cF0 cI cJ cZ a f0)) (st1 := [.int y16]) ⟨hx, hb, hml, hown, hts⟩ (c_Kn_has l dC dI cI cJ cZ a x2 kn y16 hy) (cwV 1 hts (gd_V tw307 tw308 tw309 tw2 tw310) rfl rfl rfl hd_Kn_has ⟨Nat.le_of_ble_eq_true rfl, Nat.le_of_ble_eq_true rfl⟩) hNw hK hP hD hS hA (ci := 0) rfl rfl rfl [1, 2, 3] [0, 4, 5, 6, 7, 8, 9, 10, 11, 12, 13, 14, 15, 16, 17, 18, 19, 20, 21, 22, 23, 24, 25] rfl rfl rfl rfl rfl (by decide +kernel) (by decide +kernel) rfl hl.1 rfl (Nat.le_of_ble_eq_true rfl) rfl d_Rf_can_16 ⟨Nat.zero_le _, Nat.zero_le _⟩ (fun H locs hP hD hS => ?_)
    refine lv_if_ne (tgt := 25) hx hb d_Rf_can_19 (by decide) (fun hc => ?_) (fun hc => ?_)
    · have h := o_f hc h
      refine lv_aload_n hx hb d_Rf_can_25 rfl (lv_at hl 0 rfl) ?_
      refine va_get (D := (dC, dI)) (ci := 6) (v := .ref (a 17)) (C := R_Rf) (T := F_Rf) (N := 4) hx hb hts inb_Rf hown hK hP 0 rfl rfl 3 (by decide) (hts _ tw279) (fun _ h9 => h9) rfl d_Rf_can_26 ?_
      refine va_get (D := (dC, dI)) (ci := 3) (v := .ref (a 24)) (C := R_Lk) (T := F_Lk) (N := 14) hx hb hts inb_Lk hown hK hP 15 rfl rfl 2 (by decide) (hts _ tw227) (fun _ h9 => h9) rfl d_Rf_can_29 ?_
      refine lv_iload_n hx hb d_Rf_can_32 rfl (lv_at hl 1 rfl) ?_
      obtain ⟨y33, hy, h⟩ := o_bd h
      refine kdU (nn := 26) (rest := []) (w' := (cO cI cJ cZ a ++ cKn cI cJ cZ a kn ++ cTr cI cJ cZ a tr ++ cLk cI cJ cZ a lk ++ cF0 cI cJ cZ a f0)) (wr := (cO cI cJ cZ a ++ cKn cI cJ cZ a kn ++ cTr cI cJ cZ a tr ++ cLk cI cJ cZ a lk)) (st1 := [.int y33]) ⟨hx, hb, hml, hown, hts⟩ (c_Fl_meets_0 l dC dI cI cJ cZ a x1 f0 y33 hy) (va_cwU 1 hts (gd_U tw632 tw590 tw591 tw589 tw6 tw593) rfl rfl rfl rfl hdU_meets ⟨Nat.le_of_ble_eq_true rfl, Nat.le_of_ble_eq_true rfl⟩) hNw hK hP hD hS hA (ci := 4) rfl rfl rfl [22, 23, 24, 25] [0, 1, 2, 3, 4, 5, 6, 7, 8, 9, 10, 11, 12, 13, 14, 15, 16, 17, 18, 19, 20, 21] rfl rfl rfl rfl rfl (by decide +kernel) (by decide +kernel) rfl hl.1 rfl (Nat.le_of_ble_eq_true rfl) rfl d_Rf_can_33 ⟨Nat.zero_le _, Nat.zero_le _⟩ (fun H locs hP hD hS => ?_)
      refine lv_if_eq (tgt := 63) hx hb d_Rf_can_36 (by decide) (fun hc => ?_) (fun hc => ?_)
      · have h := o_t hc h
        refine lv_iconst (v := 0) hx hb d_Rf_can_63 (by decide) ?_
        cases h
        exact kr_i hx hb hr hlocks hP hD hS d_Rf_can_64
      · have h := o_f hc h
        refine lv_aload_n hx hb d_Rf_can_39 rfl (lv_at hl 0 rfl) ?_
        refine va_get (D := (dC, dI)) (ci := 6) (v := .ref (a 17)) (C := R_Rf) (T := F_Rf) (N := 4) hx hb hts inb_Rf hown hK hP 0 rfl rfl 3 (by decide) (hts _ tw279) (fun _ h9 => h9) rfl d_Rf_can_40 ?_
        refine va_get (D := (dC, dI)) (ci := 3) (v := .ref (a 24)) (C := R_Lk) (T := F_Lk) (N := 14) hx hb hts inb_Lk hown hK hP 15 rfl rfl 2 (by decide) (hts _ tw227) (fun _ h9 => h9) rfl d_Rf_can_43 ?_
        refine va_get (D := (dC, dI)) (ci := 4) (v := .ref (a 27)) (C := R_Br) (T := F_Br) (N := 9) hx hb hts inb_Br hown hK hP 22 rfl rfl 8 (by decide) (hts _ tw174) (fun _ h9 => h9) rfl d_Rf_can_46 ?_
        refine lv_iload_n hx hb d_Rf_can_49 rfl (lv_at hl 1 rfl) ?_
        obtain ⟨hin, h⟩ := o_in h
        refine va_iald hx hb hK hP 25 0 rfl rfl hin d_Rf_can_50 ?_
        refine lv_i2l hx hb d_Rf_can_51 rfl ?_
        refine lv_iload_n hx hb d_Rf_can_52 rfl (lv_at hl 2 rfl) ?_
        obtain ⟨y53, hy, h⟩ := o_bd h
        refine kdS (nn := 26) (rest := []) (w' := (cO cI cJ cZ a ++ cKn cI cJ cZ a kn ++ cTr cI cJ cZ a tr ++ cLk cI cJ cZ a lk ++ cF0 cI cJ cZ a f0)) (wr := (cO cI cJ cZ a ++ cKn cI cJ cZ a kn ++ cTr cI cJ cZ a tr ++ cLk cI cJ cZ a lk ++ cF0 cI cJ cZ a f0)) (st1 := [.int y53]) ⟨hx, hb, hml, hown, hts⟩ (c_Rf_isIn l dC dI cI cJ cZ a (((Fl_thrown f0) x1.toNatClampNeg).toInt64) x2 y53 hy) (va_cwS 2 hts (gd_S tw642 tw33 tw1 tw34) rfl rfl rfl hd_Rf_isIn.2 ⟨Nat.le_of_ble_eq_true rfl, Nat.le_of_ble_eq_true rfl⟩) hNw hK hP hD hS hA [] [0, 1, 2, 3, 4, 5, 6, 7, 8, 9, 10, 11, 12, 13, 14, 15, 16, 17, 18, 19, 20, 21, 22, 23, 24, 25] rfl rfl rfl rfl rfl (by decide +kernel) (by decide +kernel) rfl hl.1 rfl (Nat.le_of_ble_eq_true rfl) rfl d_Rf_can_53 ⟨Nat.zero_le _, Nat.zero_le _⟩ (fun H locs hP hD hS => ?_)
        refine lv_if_eq (tgt := 63) hx hb d_Rf_can_56 (by decide) (fun hc => ?_) (fun hc => ?_)
        · have h := o_t hc h
          refine lv_iconst (v := 0) hx hb d_Rf_can_63 (by decide) ?_
          cases h
          exact kr_i hx hb hr hlocks hP hD hS d_Rf_can_64
        · have h := o_f hc h
          refine lv_iconst (v := 1) hx hb d_Rf_can_59 (by decide) ?_
          refine lv_goto (tgt := 64) hx hb d_Rf_can_60 (by decide) ?_
          cases h
          exact kr_i hx hb hr hlocks hP hD hS d_Rf_can_64
    · have h := o_t hc h
      refine lv_bipush (v := -2) hx hb d_Rf_can_22 (by decide) ?_
      cases h
      exact kr_i hx hb hr hlocks hP hD hS d_Rf_can_24
set_option maxHeartbeats 4000000 in
set_option maxRecDepth 100000 in
theorem c_Rf_target (l : Launch) (dC : Nat → ClassId) (dI : Nat → Nat → Nat) (cI cJ cZ : ClassId) (a : Nat → Nat) (x1 : Int32) (tr : TrS) (lk : LkS) (res : Int32) (h : f_Rf_target x1 tr lk = some res) :
    Kt l (dC, dI) classes [(cI, .int), (cJ, .long), (cZ, .boolean)] y_Rf_target (wz y_Rf_target b_Rf_target 2 (some .int)) { frames := 1, cells := 0, slots := 0, locals := 21 } [.ref (a 0), .int x1] (cO cI cJ cZ a ++ cTr cI cJ cZ a tr ++ cLk cI cJ cZ a lk) (some (.int res)) (cO cI cJ cZ a ++ cTr cI cJ cZ a tr ++ cLk cI cJ cZ a lk) := by
  refine Kt_of (cc := b_Rf_target) (maxL := 2) (ret := (some .int)) (by decide) (Nat.le_of_ble_eq_true rfl) ?_
  intro p e s m args below meth c A ls hx hb hr hml hlocks hown hts hNw hK hP hD hA hS hl
  have hl : lv_has ls 2 [(0, .ref (a 0)), (1, .int x1)] := hl
  have hP : va_P (dC, dI) classes (cO cI cJ cZ a ++ cTr cI cJ cZ a tr ++ cLk cI cJ cZ a lk) s.heap := hP
  refine lv_aload_n hx hb d_Rf_target_0 rfl (lv_at hl 0 rfl) ?_
  refine va_get (D := (dC, dI)) (ci := 6) (v := .ref (a 4)) (C := R_Rf) (T := F_Rf) (N := 4) hx hb hts inb_Rf hown hK hP 0 rfl rfl 1 (by decide) (hts _ tw277) (fun _ h9 => h9) rfl d_Rf_target_1 ?_
  refine lv_iload_n hx hb d_Rf_target_4 rfl (lv_at hl 1 rfl) ?_
  obtain ⟨y5, hy, h⟩ := o_bd h
  refine kdV (nn := 19) (rest := []) (w' := (cO cI cJ cZ a ++ cTr cI cJ cZ a tr ++ cLk cI cJ cZ a lk)) (wr := (cO cI cJ cZ a ++ cLk cI cJ cZ a lk)) (st1 := [.int y5]) ⟨hx, hb, hml, hown, hts⟩ (c_Tr_has l dC dI cI cJ cZ a x1 tr y5 hy) (cwV 1 hts (gd_V tw421 tw328 tw329 tw3 tw330) rfl rfl rfl hd_Tr_has ⟨Nat.le_of_ble_eq_true rfl, Nat.le_of_ble_eq_true rfl⟩) hNw hK hP hD hS hA (ci := 1) rfl rfl rfl [1, 2, 3, 4, 5, 6, 7, 8, 9, 10, 11] [0, 12, 13, 14, 15, 16, 17, 18] rfl rfl rfl rfl rfl (by decide +kernel) (by decide +kernel) rfl hl.1 rfl (Nat.le_of_ble_eq_true rfl) rfl d_Rf_target_5 ⟨Nat.zero_le _, Nat.zero_le _⟩ (fun H locs hP hD hS => ?_)
  refine lv_if_eq (tgt := 23) hx hb d_Rf_target_8 (by decide) (fun hc => ?_) (fun hc => ?_)
  · have h := o_t hc h
    refine lv_bipush (v := -2) hx hb d_Rf_target_23 (by decide) ?_
    cases h
    exact kr_i hx hb hr hlocks hP hD hS d_Rf_target_25
  · have h := o_f hc h
    refine lv_aload_n hx hb d_Rf_target_11 rfl (lv_at hl 0 rfl) ?_
    refine va_get (D := (dC, dI)) (ci := 6) (v := .ref (a 17)) (C := R_Rf) (T := F_Rf) (N := 4) hx hb hts inb_Rf hown hK hP 0 rfl rfl 3 (by decide) (hts _ tw279) (fun _ h9 => h9) rfl d_Rf_target_12 ?_
    refine va_get (D := (dC, dI)) (ci := 3) (v := .ref (a 20)) (C := R_Lk) (T := F_Lk) (N := 14) hx hb hts inb_Lk hown hK hP 12 rfl rfl 8 (by decide) (hts _ tw236) (fun _ h9 => h9) rfl d_Rf_target_15 ?_
    refine lv_iload_n hx hb d_Rf_target_18 rfl (lv_at hl 1 rfl) ?_
    obtain ⟨hin, h⟩ := o_in h
    refine va_iald hx hb hK hP 15 0 rfl rfl hin d_Rf_target_19 ?_
    refine lv_goto (tgt := 25) hx hb d_Rf_target_20 (by decide) ?_
    cases h
    exact kr_i hx hb hr hlocks hP hD hS d_Rf_target_25
set_option maxHeartbeats 4000000 in
set_option maxRecDepth 100000 in
theorem c_Rf_walked (l : Launch) (dC : Nat → ClassId) (dI : Nat → Nat → Nat) (cI cJ cZ : ClassId) (a : Nat → Nat) (x1 : Int32) (tr : TrS) (lk : LkS) (f1 : FlS) (res : Int32) (h : f_Rf_walked x1 tr f1 = some res) :
    Kt l (dC, dI) classes [(cI, .int), (cJ, .long), (cZ, .boolean)] y_Rf_walked (wz y_Rf_walked b_Rf_walked 2 (some .boolean)) { frames := 2, cells := 0, slots := 0, locals := 43 } [.ref (a 0), .int x1] (cO cI cJ cZ a ++ cTr cI cJ cZ a tr ++ cLk cI cJ cZ a lk ++ cF1 cI cJ cZ a f1) (some (.int res)) (cO cI cJ cZ a ++ cTr cI cJ cZ a tr ++ cLk cI cJ cZ a lk ++ cF1 cI cJ cZ a f1) := by
  refine Kt_of (cc := b_Rf_walked) (maxL := 2) (ret := (some .boolean)) (by decide) (Nat.le_of_ble_eq_true rfl) ?_
  intro p e s m args below meth c A ls hx hb hr hml hlocks hown hts hNw hK hP hD hA hS hl
  have hl : lv_has ls 2 [(0, .ref (a 0)), (1, .int x1)] := hl
  have hP : va_P (dC, dI) classes (cO cI cJ cZ a ++ cTr cI cJ cZ a tr ++ cLk cI cJ cZ a lk ++ cF1 cI cJ cZ a f1) s.heap := hP
  refine lv_aload_n hx hb d_Rf_walked_0 rfl (lv_at hl 0 rfl) ?_
  refine va_get (D := (dC, dI)) (ci := 6) (v := .ref (a 4)) (C := R_Rf) (T := F_Rf) (N := 4) hx hb hts inb_Rf hown hK hP 0 rfl rfl 1 (by decide) (hts _ tw277) (fun _ h9 => h9) rfl d_Rf_walked_1 ?_
  refine lv_iload_n hx hb d_Rf_walked_4 rfl (lv_at hl 1 rfl) ?_
  obtain ⟨y5, hy, h⟩ := o_bd h
  refine kdV (nn := 23) (rest := []) (w' := (cO cI cJ cZ a ++ cTr cI cJ cZ a tr ++ cLk cI cJ cZ a lk ++ cF1 cI cJ cZ a f1)) (wr := (cO cI cJ cZ a ++ cLk cI cJ cZ a lk ++ cF1 cI cJ cZ a f1)) (st1 := [.int y5]) ⟨hx, hb, hml, hown, hts⟩ (c_Tr_has l dC dI cI cJ cZ a x1 tr y5 hy) (cwV 1 hts (gd_V tw421 tw328 tw329 tw3 tw330) rfl rfl rfl hd_Tr_has ⟨Nat.le_of_ble_eq_true rfl, Nat.le_of_ble_eq_true rfl⟩) hNw hK hP hD hS hA (ci := 1) rfl rfl rfl [1, 2, 3, 4, 5, 6, 7, 8, 9, 10, 11] [0, 12, 13, 14, 15, 16, 17, 18, 19, 20, 21, 22] rfl rfl rfl rfl rfl (by decide +kernel) (by decide +kernel) rfl hl.1 rfl (Nat.le_of_ble_eq_true rfl) rfl d_Rf_walked_5 ⟨Nat.zero_le _, Nat.zero_le _⟩ (fun H locs hP hD hS => ?_)
  refine lv_if_eq (tgt := 29) hx hb d_Rf_walked_8 (by decide) (fun hc => ?_) (fun hc => ?_)
  · have h := o_t hc h
    refine lv_iconst (v := 0) hx hb d_Rf_walked_29 (by decide) ?_
    cases h
    exact kr_z hx hb hr (by decide) hlocks hP hD hS d_Rf_walked_30
  · have h := o_f hc h
    refine lv_aload_n hx hb d_Rf_walked_11 rfl (lv_at hl 0 rfl) ?_
    refine va_get (D := (dC, dI)) (ci := 6) (v := .ref (a 17)) (C := R_Rf) (T := F_Rf) (N := 4) hx hb hts inb_Rf hown hK hP 0 rfl rfl 3 (by decide) (hts _ tw279) (fun _ h9 => h9) rfl d_Rf_walked_12 ?_
    refine va_get (D := (dC, dI)) (ci := 3) (v := .ref (a 28)) (C := R_Lk) (T := F_Lk) (N := 14) hx hb hts inb_Lk hown hK hP 12 rfl rfl 3 (by decide) (hts _ tw229) (fun _ h9 => h9) rfl d_Rf_walked_15 ?_
    refine lv_iload_n hx hb d_Rf_walked_18 rfl (lv_at hl 1 rfl) ?_
    obtain ⟨y19, hy, h⟩ := o_bd h
    refine kdU (nn := 23) (rest := []) (w' := (cO cI cJ cZ a ++ cTr cI cJ cZ a tr ++ cLk cI cJ cZ a lk ++ cF1 cI cJ cZ a f1)) (wr := (cO cI cJ cZ a ++ cTr cI cJ cZ a tr ++ cLk cI cJ cZ a lk)) (st1 := [.int y19]) ⟨hx, hb, hml, hown, hts⟩ (c_Fl_meets_1 l dC dI cI cJ cZ a x1 f1 y19 hy) (va_cwU 1 hts (gd_U tw632 tw590 tw592 tw589 tw6 tw593) rfl rfl rfl rfl hdU_meets ⟨Nat.le_of_ble_eq_true rfl, Nat.le_of_ble_eq_true rfl⟩) hNw hK hP hD hS hA (ci := 5) rfl rfl rfl [19, 20, 21, 22] [0, 1, 2, 3, 4, 5, 6, 7, 8, 9, 10, 11, 12, 13, 14, 15, 16, 17, 18] rfl rfl rfl rfl rfl (by decide +kernel) (by decide +kernel) rfl hl.1 rfl (Nat.le_of_ble_eq_true rfl) rfl d_Rf_walked_19 ⟨Nat.zero_le _, Nat.zero_le _⟩ (fun H locs hP hD hS => ?_)
    refine lv_if_eq (tgt := 29) hx hb d_Rf_walked_22 (by decide) (fun hc => ?_) (fun hc => ?_)
    · have h := o_t hc h
      refine lv_iconst (v := 0) hx hb d_Rf_walked_29 (by decide) ?_
      cases h
      exact kr_z hx hb hr (by decide) hlocks hP hD hS d_Rf_walked_30
    · have h := o_f hc h
      refine lv_iconst (v := 1) hx hb d_Rf_walked_25 (by decide) ?_
      refine lv_goto (tgt := 30) hx hb d_Rf_walked_26 (by decide) ?_
      cases h
      exact kr_z hx hb hr (by decide) hlocks hP hD hS d_Rf_walked_30
set_option maxHeartbeats 4000000 in
set_option maxRecDepth 100000 in
theorem c_Rf_fitsWhich (l : Launch) (dC : Nat → ClassId) (dI : Nat → Nat → Nat) (cI cJ cZ : ClassId) (a : Nat → Nat) (x1 : Int32) (x2 : Int32) (kn : KnS) (tr : TrS) (res : Int32) (h : f_Rf_fitsWhich x1 x2 kn tr = some res) :
    Kt l (dC, dI) classes [(cI, .int), (cJ, .long), (cZ, .boolean)] y_Rf_fitsWhich (wz y_Rf_fitsWhich b_Rf_fitsWhich 3 (some .boolean)) { frames := 1, cells := 0, slots := 0, locals := 21 } [.ref (a 0), .int x1, .int x2] (cO cI cJ cZ a ++ cKn cI cJ cZ a kn ++ cTr cI cJ cZ a tr) (some (.int res)) (cO cI cJ cZ a ++ cKn cI cJ cZ a kn ++ cTr cI cJ cZ a tr) := by
  refine Kt_of (cc := b_Rf_fitsWhich) (maxL := 3) (ret := (some .boolean)) (by decide) (Nat.le_of_ble_eq_true rfl) ?_
  intro p e s m args below meth c A ls hx hb hr hml hlocks hown hts hNw hK hP hD hA hS hl
  have hl : lv_has ls 3 [(0, .ref (a 0)), (1, .int x1), (2, .int x2)] := hl
  have hP : va_P (dC, dI) classes (cO cI cJ cZ a ++ cKn cI cJ cZ a kn ++ cTr cI cJ cZ a tr) s.heap := hP
  have B36 : ∀ (x2_36 : Int32) (H : Heap) (locs : List Loc) (ls : Array Slot), f_Rf_fitsWhich_b36 x2_36 kn tr = some res → va_P (dC, dI) classes (cO cI cJ cZ a ++ cKn cI cJ cZ a kn ++ cTr cI cJ cZ a tr) H → va_D A (cO cI cJ cZ a ++ cKn cI cJ cZ a kn ++ cTr cI cJ cZ a tr) → va_S A s.heap H locs → lv_has ls 3 [(2, .int x2_36)] → W p l e { frames := 1, cells := 0, slots := 0, locals := 21 } s m args below meth c H locs 0 0 (KZ below args s (dC, dI) classes (some (.int res)) (cO cI cJ cZ a ++ cKn cI cJ cZ a kn ++ cTr cI cJ cZ a tr) A) (F0 m 36 ls []) := by
    intro x2_36 H locs ls h hP hD hS hl
    refine lv_iload_n hx hb d_Rf_fitsWhich_36 rfl (lv_at hl 0 rfl) ?_
    refine lv_if_ne (tgt := 44) hx hb d_Rf_fitsWhich_37 (by decide) (fun hc => ?_) (fun hc => ?_)
    · have h := o_f hc h
      refine lv_iconst (v := 0) hx hb d_Rf_fitsWhich_44 (by decide) ?_
      cases h
      exact kr_z hx hb hr (by decide) hlocks hP hD hS d_Rf_fitsWhich_45
    · have h := o_t hc h
      refine lv_iconst (v := 1) hx hb d_Rf_fitsWhich_40 (by decide) ?_
      refine lv_goto (tgt := 45) hx hb d_Rf_fitsWhich_41 (by decide) ?_
      cases h
      exact kr_z hx hb hr (by decide) hlocks hP hD hS d_Rf_fitsWhich_45
  have B46 : ∀ (x2_46 : Int32) (H : Heap) (locs : List Loc) (ls : Array Slot), f_Rf_fitsWhich_b46 x2_46 kn tr = some res → va_P (dC, dI) classes (cO cI cJ cZ a ++ cKn cI cJ cZ a kn ++ cTr cI cJ cZ a tr) H → va_D A (cO cI cJ cZ a ++ cKn cI cJ cZ a kn ++ cTr cI cJ cZ a tr) → va_S A s.heap H locs → lv_has ls 3 [(0, .ref (a 0)), (2, .int x2_46)] → W p l e { frames := 1, cells := 0, slots := 0, locals := 21 } s m args below meth c H locs 0 0 (KZ below args s (dC, dI) classes (some (.int res)) (cO cI cJ cZ a ++ cKn cI cJ cZ a kn ++ cTr cI cJ cZ a tr) A) (F0 m 46 ls []) := by
    intro x2_46 H locs ls h hP hD hS hl
    refine lv_aload_n hx hb d_Rf_fitsWhich_46 rfl (lv_at hl 0 rfl) ?_
    refine va_get (D := (dC, dI)) (ci := 6) (v := .ref (a 4)) (C := R_Rf) (T := F_Rf) (N := 4) hx hb hts inb_Rf hown hK hP 0 rfl rfl 1 (by decide) (hts _ tw277) (fun _ h9 => h9) rfl d_Rf_fitsWhich_47 ?_
    refine lv_iload_n hx hb d_Rf_fitsWhich_50 rfl (lv_at hl 1 rfl) ?_
    obtain ⟨y51, hy, h⟩ := o_bd h
    refine kdV (nn := 15) (rest := []) (w' := (cO cI cJ cZ a ++ cKn cI cJ cZ a kn ++ cTr cI cJ cZ a tr)) (wr := (cO cI cJ cZ a ++ cKn cI cJ cZ a kn)) (st1 := [.int y51]) ⟨hx, hb, hml, hown, hts⟩ (c_Tr_has l dC dI cI cJ cZ a x2_46 tr y51 hy) (cwV 1 hts (gd_V tw421 tw328 tw329 tw3 tw330) rfl rfl rfl hd_Tr_has ⟨Nat.le_of_ble_eq_true rfl, Nat.le_of_ble_eq_true rfl⟩) hNw hK hP hD hS hA (ci := 1) rfl rfl rfl [4, 5, 6, 7, 8, 9, 10, 11, 12, 13, 14] [0, 1, 2, 3] rfl rfl rfl rfl rfl (by decide +kernel) (by decide +kernel) rfl hl.1 rfl (Nat.le_of_ble_eq_true rfl) rfl d_Rf_fitsWhich_51 ⟨Nat.zero_le _, Nat.zero_le _⟩ (fun H locs hP hD hS => ?_)
    obtain ⟨hbo, h⟩ := o_bo h
    cases h
    exact kr_z hx hb hr hbo hlocks hP hD hS d_Rf_fitsWhich_54
  refine lv_iload_n hx hb d_Rf_fitsWhich_0 rfl (lv_at hl 1 rfl) ?_
  refine sw_by (x := x1) (k := 0) (fun hc => ?_) (fun hn0 => ?_)
  · have h := o_t hc h
    refine sw_in (x := x1) (k := 0) hc (lv_tableIn (tgt := 36) hx hb d_Rf_fitsWhich_1 (by decide) (by decide) (by rfl) (by decide) ?_)
    exact B36 x2 _ _ _ h hP hD hS (lv_sub hl [2] rfl)
  · have h := o_f hn0 h
    refine sw_by (x := x1) (k := 1) (fun hc => ?_) (fun hn1 => ?_)
    · have h := o_t hc h
      refine sw_in (x := x1) (k := 1) hc (lv_tableIn (tgt := 36) hx hb d_Rf_fitsWhich_1 (by decide) (by decide) (by rfl) (by decide) ?_)
      exact B36 x2 _ _ _ h hP hD hS (lv_sub hl [2] rfl)
    · have h := o_f hn1 h
      refine sw_by (x := x1) (k := 2) (fun hc => ?_) (fun hn2 => ?_)
      · have h := o_t hc h
        refine sw_in (x := x1) (k := 2) hc (lv_tableIn (tgt := 46) hx hb d_Rf_fitsWhich_1 (by decide) (by decide) (by rfl) (by decide) ?_)
        exact B46 x2 _ _ _ h hP hD hS (lv_sub hl [0, 2] rfl)
      · have h := o_f hn2 h
        refine sw_by (x := x1) (k := 3) (fun hc => ?_) (fun hn3 => ?_)
        · have h := o_t hc h
          refine sw_in (x := x1) (k := 3) hc (lv_tableIn (tgt := 46) hx hb d_Rf_fitsWhich_1 (by decide) (by decide) (by rfl) (by decide) ?_)
          exact B46 x2 _ _ _ h hP hD hS (lv_sub hl [0, 2] rfl)
        · have h := o_f hn3 h
          refine sw_by (x := x1) (k := 4) (fun hc => ?_) (fun hn4 => ?_)
          · have h := o_t hc h
            refine sw_in (x := x1) (k := 4) hc (lv_tableIn (tgt := 55) hx hb d_Rf_fitsWhich_1 (by decide) (by decide) (by rfl) (by decide) ?_)
            refine lv_aload_n hx hb d_Rf_fitsWhich_55 rfl (lv_at hl 0 rfl) ?_
            refine va_get (D := (dC, dI)) (ci := 6) (v := .ref (a 1)) (C := R_Rf) (T := F_Rf) (N := 4) hx hb hts inb_Rf hown hK hP 0 rfl rfl 0 (by decide) (hts _ tw276) (fun _ h9 => h9) rfl d_Rf_fitsWhich_56 ?_
            refine lv_iload_n hx hb d_Rf_fitsWhich_59 rfl (lv_at hl 2 rfl) ?_
            obtain ⟨y60, hy, h⟩ := o_bd h
            refine kdV (nn := 15) (rest := []) (w' := (cO cI cJ cZ a ++ cKn cI cJ cZ a kn ++ cTr cI cJ cZ a tr)) (wr := (cO cI cJ cZ a ++ cTr cI cJ cZ a tr)) (st1 := [.int y60]) ⟨hx, hb, hml, hown, hts⟩ (c_Kn_has l dC dI cI cJ cZ a x2 kn y60 hy) (cwV 1 hts (gd_V tw307 tw308 tw309 tw2 tw310) rfl rfl rfl hd_Kn_has ⟨Nat.le_of_ble_eq_true rfl, Nat.le_of_ble_eq_true rfl⟩) hNw hK hP hD hS hA (ci := 0) rfl rfl rfl [1, 2, 3] [0, 4, 5, 6, 7, 8, 9, 10, 11, 12, 13, 14] rfl rfl rfl rfl rfl (by decide +kernel) (by decide +kernel) rfl hl.1 rfl (Nat.le_of_ble_eq_true rfl) rfl d_Rf_fitsWhich_60 ⟨Nat.zero_le _, Nat.zero_le _⟩ (fun H locs hP hD hS => ?_)
            obtain ⟨hbo, h⟩ := o_bo h
            cases h
            exact kr_z hx hb hr hbo hlocks hP hD hS d_Rf_fitsWhich_63
          · have h := o_f hn4 h
            refine lv_tableOut (tgt := 64) hx hb d_Rf_fitsWhich_1 (by have g0 := sw_ne hn0 (show (0 : Int32).toInt = 0 by decide); have g1 := sw_ne hn1 (show (1 : Int32).toInt = 1 by decide); have g2 := sw_ne hn2 (show (2 : Int32).toInt = 2 by decide); have g3 := sw_ne hn3 (show (3 : Int32).toInt = 3 by decide); have g4 := sw_ne hn4 (show (4 : Int32).toInt = 4 by decide); omega) (by decide) ?_
            refine lv_iconst (v := 0) hx hb d_Rf_fitsWhich_64 (by decide) ?_
            cases h
            exact kr_z hx hb hr (by decide) hlocks hP hD hS d_Rf_fitsWhich_65
set_option maxHeartbeats 4000000 in
set_option maxRecDepth 100000 in
theorem c_Rf_ends (l : Launch) (dC : Nat → ClassId) (dI : Nat → Nat → Nat) (cI cJ cZ : ClassId) (a : Nat → Nat) (x1 : Int32) (x2 : Int32) (x3 : Int32) (kn : KnS) (tr : TrS) (lk : LkS) (f1 : FlS) (res : Int32) (h : f_Rf_ends x1 x2 x3 kn tr f1 = some res) :
    Kt l (dC, dI) classes [(cI, .int), (cJ, .long), (cZ, .boolean)] y_Rf_ends (wz y_Rf_ends b_Rf_ends 4 (some .int)) { frames := 2, cells := 0, slots := 0, locals := 45 } [.ref (a 0), .int x1, .int x2, .int x3] (cO cI cJ cZ a ++ cKn cI cJ cZ a kn ++ cTr cI cJ cZ a tr ++ cLk cI cJ cZ a lk ++ cF1 cI cJ cZ a f1) (some (.int res)) (cO cI cJ cZ a ++ cKn cI cJ cZ a kn ++ cTr cI cJ cZ a tr ++ cLk cI cJ cZ a lk ++ cF1 cI cJ cZ a f1) := by
  refine Kt_of (cc := b_Rf_ends) (maxL := 4) (ret := (some .int)) (by decide) (Nat.le_of_ble_eq_true rfl) ?_
  intro p e s m args below meth c A ls hx hb hr hml hlocks hown hts hNw hK hP hD hA hS hl
  have hl : lv_has ls 4 [(0, .ref (a 0)), (1, .int x1), (2, .int x2), (3, .int x3)] := hl
  have hP : va_P (dC, dI) classes (cO cI cJ cZ a ++ cKn cI cJ cZ a kn ++ cTr cI cJ cZ a tr ++ cLk cI cJ cZ a lk ++ cF1 cI cJ cZ a f1) s.heap := hP
  refine lv_aload_n hx hb d_Rf_ends_0 rfl (lv_at hl 0 rfl) ?_
  refine va_get (D := (dC, dI)) (ci := 6) (v := .ref (a 4)) (C := R_Rf) (T := F_Rf) (N := 4) hx hb hts inb_Rf hown hK hP 0 rfl rfl 1 (by decide) (hts _ tw277) (fun _ h9 => h9) rfl d_Rf_ends_1 ?_
  refine lv_iload_n hx hb d_Rf_ends_4 rfl (lv_at hl 1 rfl) ?_
  obtain ⟨y5, hy, h⟩ := o_bd h
  refine kdV (nn := 26) (rest := []) (w' := (cO cI cJ cZ a ++ cKn cI cJ cZ a kn ++ cTr cI cJ cZ a tr ++ cLk cI cJ cZ a lk ++ cF1 cI cJ cZ a f1)) (wr := (cO cI cJ cZ a ++ cKn cI cJ cZ a kn ++ cLk cI cJ cZ a lk ++ cF1 cI cJ cZ a f1)) (st1 := [.int y5]) ⟨hx, hb, hml, hown, hts⟩ (c_Tr_has l dC dI cI cJ cZ a x1 tr y5 hy) (cwV 1 hts (gd_V tw421 tw328 tw329 tw3 tw330) rfl rfl rfl hd_Tr_has ⟨Nat.le_of_ble_eq_true rfl, Nat.le_of_ble_eq_true rfl⟩) hNw hK hP hD hS hA (ci := 1) rfl rfl rfl [4, 5, 6, 7, 8, 9, 10, 11, 12, 13, 14] [0, 1, 2, 3, 15, 16, 17, 18, 19, 20, 21, 22, 23, 24, 25] rfl rfl rfl rfl rfl (by decide +kernel) (by decide +kernel) rfl hl.1 rfl (Nat.le_of_ble_eq_true rfl) rfl d_Rf_ends_5 ⟨Nat.zero_le _, Nat.zero_le _⟩ (fun H locs hP hD hS => ?_)
  refine lv_if_eq (tgt := 20) hx hb d_Rf_ends_8 (by decide) (fun hc => ?_) (fun hc => ?_)
  · have h := o_t hc h
    refine lv_bipush (v := -2) hx hb d_Rf_ends_20 (by decide) ?_
    cases h
    exact kr_i hx hb hr hlocks hP hD hS d_Rf_ends_22
  · have h := o_f hc h
    refine lv_aload_n hx hb d_Rf_ends_11 rfl (lv_at hl 0 rfl) ?_
    refine lv_iload_n hx hb d_Rf_ends_12 rfl (lv_at hl 2 rfl) ?_
    refine lv_iload_n hx hb d_Rf_ends_13 rfl (lv_at hl 3 rfl) ?_
    obtain ⟨y14, hy, h⟩ := o_bd h
    refine kdV (nn := 26) (rest := []) (w' := (cO cI cJ cZ a ++ cKn cI cJ cZ a kn ++ cTr cI cJ cZ a tr ++ cLk cI cJ cZ a lk ++ cF1 cI cJ cZ a f1)) (wr := (cLk cI cJ cZ a lk ++ cF1 cI cJ cZ a f1)) (st1 := [.int y14]) ⟨hx, hb, hml, hown, hts⟩ (c_Rf_fitsWhich l dC dI cI cJ cZ a x2 x3 kn tr y14 hy) (cwV 2 hts (gd_V tw655 tw657 ps15 tw1 tw658) rfl rfl rfl hd_Rf_fitsWhich ⟨Nat.le_of_ble_eq_true rfl, Nat.le_of_ble_eq_true rfl⟩) hNw hK hP hD hS hA (ci := 6) rfl rfl rfl [0, 1, 2, 3, 4, 5, 6, 7, 8, 9, 10, 11, 12, 13, 14] [15, 16, 17, 18, 19, 20, 21, 22, 23, 24, 25] rfl rfl rfl rfl rfl (by decide +kernel) (by decide +kernel) rfl hl.1 rfl (Nat.le_of_ble_eq_true rfl) rfl d_Rf_ends_14 ⟨Nat.zero_le _, Nat.zero_le _⟩ (fun H locs hP hD hS => ?_)
    refine lv_if_ne (tgt := 23) hx hb d_Rf_ends_17 (by decide) (fun hc => ?_) (fun hc => ?_)
    · have h := o_f hc h
      refine lv_aload_n hx hb d_Rf_ends_23 rfl (lv_at hl 0 rfl) ?_
      refine va_get (D := (dC, dI)) (ci := 6) (v := .ref (a 17)) (C := R_Rf) (T := F_Rf) (N := 4) hx hb hts inb_Rf hown hK hP 0 rfl rfl 3 (by decide) (hts _ tw279) (fun _ h9 => h9) rfl d_Rf_ends_24 ?_
      refine va_get (D := (dC, dI)) (ci := 3) (v := .ref (a 28)) (C := R_Lk) (T := F_Lk) (N := 14) hx hb hts inb_Lk hown hK hP 15 rfl rfl 3 (by decide) (hts _ tw229) (fun _ h9 => h9) rfl d_Rf_ends_27 ?_
      refine lv_iload_n hx hb d_Rf_ends_30 rfl (lv_at hl 1 rfl) ?_
      obtain ⟨y31, hy, h⟩ := o_bd h
      refine kdU (nn := 26) (rest := []) (w' := (cO cI cJ cZ a ++ cKn cI cJ cZ a kn ++ cTr cI cJ cZ a tr ++ cLk cI cJ cZ a lk ++ cF1 cI cJ cZ a f1)) (wr := (cO cI cJ cZ a ++ cKn cI cJ cZ a kn ++ cTr cI cJ cZ a tr ++ cLk cI cJ cZ a lk)) (st1 := [.int y31]) ⟨hx, hb, hml, hown, hts⟩ (c_Fl_meets_1 l dC dI cI cJ cZ a x1 f1 y31 hy) (va_cwU 1 hts (gd_U tw632 tw590 tw592 tw589 tw6 tw593) rfl rfl rfl rfl hdU_meets ⟨Nat.le_of_ble_eq_true rfl, Nat.le_of_ble_eq_true rfl⟩) hNw hK hP hD hS hA (ci := 5) rfl rfl rfl [22, 23, 24, 25] [0, 1, 2, 3, 4, 5, 6, 7, 8, 9, 10, 11, 12, 13, 14, 15, 16, 17, 18, 19, 20, 21] rfl rfl rfl rfl rfl (by decide +kernel) (by decide +kernel) rfl hl.1 rfl (Nat.le_of_ble_eq_true rfl) rfl d_Rf_ends_31 ⟨Nat.zero_le _, Nat.zero_le _⟩ (fun H locs hP hD hS => ?_)
      refine lv_if_eq (tgt := 57) hx hb d_Rf_ends_34 (by decide) (fun hc => ?_) (fun hc => ?_)
      · have h := o_t hc h
        refine lv_iconst (v := 0) hx hb d_Rf_ends_57 (by decide) ?_
        cases h
        exact kr_i hx hb hr hlocks hP hD hS d_Rf_ends_58
      · have h := o_f hc h
        refine lv_aload_n hx hb d_Rf_ends_37 rfl (lv_at hl 0 rfl) ?_
        refine va_get (D := (dC, dI)) (ci := 6) (v := .ref (a 17)) (C := R_Rf) (T := F_Rf) (N := 4) hx hb hts inb_Rf hown hK hP 0 rfl rfl 3 (by decide) (hts _ tw279) (fun _ h9 => h9) rfl d_Rf_ends_38 ?_
        refine va_get (D := (dC, dI)) (ci := 3) (v := .ref (a 28)) (C := R_Lk) (T := F_Lk) (N := 14) hx hb hts inb_Lk hown hK hP 15 rfl rfl 3 (by decide) (hts _ tw229) (fun _ h9 => h9) rfl d_Rf_ends_41 ?_
        refine lv_iload_n hx hb d_Rf_ends_44 rfl (lv_at hl 1 rfl) ?_
        refine lv_iload_n hx hb d_Rf_ends_45 rfl (lv_at hl 2 rfl) ?_
        refine lv_iload_n hx hb d_Rf_ends_46 rfl (lv_at hl 3 rfl) ?_
        obtain ⟨y47, hy, h⟩ := o_bd h
        refine kdU (nn := 26) (rest := []) (w' := (cO cI cJ cZ a ++ cKn cI cJ cZ a kn ++ cTr cI cJ cZ a tr ++ cLk cI cJ cZ a lk ++ cF1 cI cJ cZ a f1)) (wr := (cO cI cJ cZ a ++ cKn cI cJ cZ a kn ++ cTr cI cJ cZ a tr ++ cLk cI cJ cZ a lk)) (st1 := [.int y47]) ⟨hx, hb, hml, hown, hts⟩ (c_Fl_endsBy_1 l dC dI cI cJ cZ a x1 x2 x3 f1 y47 hy) (va_cwU 3 hts (gd_U tw659 tw661 tw663 tw660 tw6 tw664) rfl rfl rfl rfl hdU_endsBy ⟨Nat.le_of_ble_eq_true rfl, Nat.le_of_ble_eq_true rfl⟩) hNw hK hP hD hS hA (ci := 5) rfl rfl rfl [22, 23, 24, 25] [0, 1, 2, 3, 4, 5, 6, 7, 8, 9, 10, 11, 12, 13, 14, 15, 16, 17, 18, 19, 20, 21] rfl rfl rfl rfl rfl (by decide +kernel) (by decide +kernel) rfl hl.1 rfl (Nat.le_of_ble_eq_true rfl) rfl d_Rf_ends_47 ⟨Nat.zero_le _, Nat.zero_le _⟩ (fun H locs hP hD hS => ?_)
        refine lv_if_eq (tgt := 57) hx hb d_Rf_ends_50 (by decide) (fun hc => ?_) (fun hc => ?_)
        · have h := o_t hc h
          refine lv_iconst (v := 0) hx hb d_Rf_ends_57 (by decide) ?_
          cases h
          exact kr_i hx hb hr hlocks hP hD hS d_Rf_ends_58
        · have h := o_f hc h
          refine lv_iconst (v := 1) hx hb d_Rf_ends_53 (by decide) ?_
          refine lv_goto (tgt := 58) hx hb d_Rf_ends_54 (by decide) ?_
          cases h
          exact kr_i hx hb hr hlocks hP hD hS d_Rf_ends_58
    · have h := o_t hc h
      refine lv_bipush (v := -2) hx hb d_Rf_ends_20 (by decide) ?_
      cases h
      exact kr_i hx hb hr hlocks hP hD hS d_Rf_ends_22
set_option maxHeartbeats 4000000 in
set_option maxRecDepth 100000 in
theorem c_Rf_judge (l : Launch) (dC : Nat → ClassId) (dI : Nat → Nat → Nat) (cI cJ cZ : ClassId) (a : Nat → Nat) (N : Nat) (x1 : Int32) (x2 : Int32) (tr : TrS) (lk : LkS) (f0 : FlS) (res : Int32) (h : f_Rf_judge N x1 x2 tr lk f0 = some res) :
    Kt l (dC, dI) classes [(cI, .int), (cJ, .long), (cZ, .boolean)] y_Rf_judge (wz y_Rf_judge b_Rf_judge 6 (some .int)) { frames := 2, cells := 0, slots := 0, locals := 43 } [.ref (a 0), .int x1, .int x2] (cO cI cJ cZ a ++ cTr cI cJ cZ a tr ++ cLk cI cJ cZ a lk ++ cF0 cI cJ cZ a f0) (some (.int res)) (cO cI cJ cZ a ++ cTr cI cJ cZ a tr ++ cLk cI cJ cZ a lk ++ cF0 cI cJ cZ a f0) := by
  refine Kt_of (cc := b_Rf_judge) (maxL := 6) (ret := (some .int)) (by decide) (Nat.le_of_ble_eq_true rfl) ?_
  intro p e s m args below meth c A ls hx hb hr hml hlocks hown hts hNw hK hP hD hA hS hl
  have hl : lv_has ls 6 [(0, .ref (a 0)), (1, .int x1), (2, .int x2)] := hl
  have hP : va_P (dC, dI) classes (cO cI cJ cZ a ++ cTr cI cJ cZ a tr ++ cLk cI cJ cZ a lk ++ cF0 cI cJ cZ a f0) s.heap := hP
  refine lv_aload_n hx hb d_Rf_judge_0 rfl (lv_at hl 0 rfl) ?_
  refine va_get (D := (dC, dI)) (ci := 6) (v := .ref (a 17)) (C := R_Rf) (T := F_Rf) (N := 4) hx hb hts inb_Rf hown hK hP 0 rfl rfl 3 (by decide) (hts _ tw279) (fun _ h9 => h9) rfl d_Rf_judge_1 ?_
  refine lv_iconst (v := 1) hx hb d_Rf_judge_4 (by decide) ?_
  obtain ⟨y5, hy, h⟩ := o_bd h
  refine kdV (nn := 23) (rest := []) (w' := (cO cI cJ cZ a ++ cTr cI cJ cZ a tr ++ cLk cI cJ cZ a lk ++ cF0 cI cJ cZ a f0)) (wr := (cO cI cJ cZ a ++ cF0 cI cJ cZ a f0)) (st1 := [.int y5]) ⟨hx, hb, hml, hown, hts⟩ (c_Lk_hasReturn l dC dI cI cJ cZ a N (1 : Int32) lk tr y5 hy) (cwV 1 hts (gd_V tw673 tw674 tw675 tw5 tw676) rfl rfl rfl hd_Lk_hasReturn ⟨Nat.le_of_ble_eq_true rfl, Nat.le_of_ble_eq_true rfl⟩) hNw hK hP hD hS hA (ci := 3) rfl rfl rfl [12, 13, 14, 15, 16, 17, 18, 1, 2, 3, 4, 5, 6, 7, 8, 9, 10, 11] [0, 19, 20, 21, 22] rfl rfl rfl rfl rfl (by decide +kernel) (by decide +kernel) rfl hl.1 rfl (Nat.le_of_ble_eq_true rfl) rfl d_Rf_judge_5 ⟨Nat.zero_le _, Nat.zero_le _⟩ (fun H locs hP hD hS => ?_)
  refine lv_istore_n (lv' := [(3, .int y5), (0, .ref (a 0)), (1, .int x1), (2, .int x2)]) hx hb d_Rf_judge_8 rfl hl (by decide) rfl (fun ls hl => ?_)
  refine lv_aload_n hx hb d_Rf_judge_9 rfl (lv_at hl 1 rfl) ?_
  refine va_get (D := (dC, dI)) (ci := 6) (v := .ref (a 17)) (C := R_Rf) (T := F_Rf) (N := 4) hx hb hts inb_Rf hown hK hP 0 rfl rfl 3 (by decide) (hts _ tw279) (fun _ h9 => h9) rfl d_Rf_judge_10 ?_
  refine lv_iconst (v := 0) hx hb d_Rf_judge_13 (by decide) ?_
  obtain ⟨y14, hy, h⟩ := o_bd h
  refine kdV (nn := 23) (rest := []) (w' := (cO cI cJ cZ a ++ cTr cI cJ cZ a tr ++ cLk cI cJ cZ a lk ++ cF0 cI cJ cZ a f0)) (wr := (cO cI cJ cZ a ++ cF0 cI cJ cZ a f0)) (st1 := [.int y14]) ⟨hx, hb, hml, hown, hts⟩ (c_Lk_hasReturn l dC dI cI cJ cZ a N (0 : Int32) lk tr y14 hy) (cwV 1 hts (gd_V tw673 tw674 tw675 tw5 tw676) rfl rfl rfl hd_Lk_hasReturn ⟨Nat.le_of_ble_eq_true rfl, Nat.le_of_ble_eq_true rfl⟩) hNw hK hP hD hS hA (ci := 3) rfl rfl rfl [12, 13, 14, 15, 16, 17, 18, 1, 2, 3, 4, 5, 6, 7, 8, 9, 10, 11] [0, 19, 20, 21, 22] rfl rfl rfl rfl rfl (by decide +kernel) (by decide +kernel) rfl hl.1 rfl (Nat.le_of_ble_eq_true rfl) rfl d_Rf_judge_14 ⟨Nat.zero_le _, Nat.zero_le _⟩ (fun H locs hP hD hS => ?_)
  refine lv_istore (lv' := [(4, .int y14), (3, .int y5), (0, .ref (a 0)), (1, .int x1), (2, .int x2)]) hx hb d_Rf_judge_17 hl (by decide) rfl (fun ls hl => ?_)
  refine lv_aload_n hx hb d_Rf_judge_19 rfl (lv_at hl 2 rfl) ?_
  refine va_get (D := (dC, dI)) (ci := 6) (v := .ref (a 17)) (C := R_Rf) (T := F_Rf) (N := 4) hx hb hts inb_Rf hown hK hP 0 rfl rfl 3 (by decide) (hts _ tw279) (fun _ h9 => h9) rfl d_Rf_judge_20 ?_
  refine va_get (D := (dC, dI)) (ci := 3) (v := .ref (a 24)) (C := R_Lk) (T := F_Lk) (N := 14) hx hb hts inb_Lk hown hK hP 12 rfl rfl 2 (by decide) (hts _ tw227) (fun _ h9 => h9) rfl d_Rf_judge_23 ?_
  refine lv_iload_n hx hb d_Rf_judge_26 rfl (lv_at hl 3 rfl) ?_
  obtain ⟨y27, hy, h⟩ := o_bd h
  refine kdU (nn := 23) (rest := []) (w' := (cO cI cJ cZ a ++ cTr cI cJ cZ a tr ++ cLk cI cJ cZ a lk ++ cF0 cI cJ cZ a f0)) (wr := (cO cI cJ cZ a ++ cTr cI cJ cZ a tr ++ cLk cI cJ cZ a lk)) (st1 := [.int y27]) ⟨hx, hb, hml, hown, hts⟩ (c_Fl_endsNormally_0 l dC dI cI cJ cZ a x1 f0 y27 hy) (va_cwU 1 hts (gd_U tw637 tw547 tw548 tw546 tw6 tw550) rfl rfl rfl rfl hdU_endsNormally ⟨Nat.le_of_ble_eq_true rfl, Nat.le_of_ble_eq_true rfl⟩) hNw hK hP hD hS hA (ci := 4) rfl rfl rfl [19, 20, 21, 22] [0, 1, 2, 3, 4, 5, 6, 7, 8, 9, 10, 11, 12, 13, 14, 15, 16, 17, 18] rfl rfl rfl rfl rfl (by decide +kernel) (by decide +kernel) rfl hl.1 rfl (Nat.le_of_ble_eq_true rfl) rfl d_Rf_judge_27 ⟨Nat.zero_le _, Nat.zero_le _⟩ (fun H locs hP hD hS => ?_)
  refine lv_istore (lv' := [(5, .int y27), (4, .int y14), (3, .int y5), (0, .ref (a 0)), (1, .int x1), (2, .int x2)]) hx hb d_Rf_judge_30 hl (by decide) rfl (fun ls hl => ?_)
  refine lv_iload_n hx hb d_Rf_judge_32 rfl (lv_at hl 5 rfl) ?_
  refine sw_by (x := x2) (k := 0) (fun hc => ?_) (fun hn0 => ?_)
  · have h := o_t hc h
    refine sw_in (x := x2) (k := 0) hc (lv_tableIn (tgt := 60) hx hb d_Rf_judge_33 (by decide) (by decide) (by rfl) (by decide) ?_)
    refine lv_iload_n hx hb d_Rf_judge_60 rfl (lv_at hl 2 rfl) ?_
    refine lv_if_eq (tgt := 69) hx hb d_Rf_judge_61 (by decide) (fun hc => ?_) (fun hc => ?_)
    · have h := o_t hc h
      refine lv_iconst (v := 0) hx hb d_Rf_judge_69 (by decide) ?_
      cases h
      exact kr_i hx hb hr hlocks hP hD hS d_Rf_judge_70
    · have h := o_f hc h
      refine lv_bipush (v := 6) hx hb d_Rf_judge_64 (by decide) ?_
      refine lv_goto (tgt := 70) hx hb d_Rf_judge_66 (by decide) ?_
      cases h
      exact kr_i hx hb hr hlocks hP hD hS d_Rf_judge_70
  · have h := o_f hn0 h
    refine sw_by (x := x2) (k := 1) (fun hc => ?_) (fun hn1 => ?_)
    · have h := o_t hc h
      refine sw_in (x := x2) (k := 1) hc (lv_tableIn (tgt := 71) hx hb d_Rf_judge_33 (by decide) (by decide) (by rfl) (by decide) ?_)
      refine lv_iload hx hb d_Rf_judge_71 (lv_at hl 1 rfl) ?_
      refine lv_if_eq (tgt := 81) hx hb d_Rf_judge_73 (by decide) (fun hc => ?_) (fun hc => ?_)
      · have h := o_t hc h
        refine lv_iload hx hb d_Rf_judge_81 (lv_at hl 0 rfl) ?_
        refine lv_if_eq (tgt := 91) hx hb d_Rf_judge_83 (by decide) (fun hc => ?_) (fun hc => ?_)
        · have h := o_t hc h
          refine lv_iconst (v := 0) hx hb d_Rf_judge_91 (by decide) ?_
          cases h
          exact kr_i hx hb hr hlocks hP hD hS d_Rf_judge_92
        · have h := o_f hc h
          refine lv_bipush (v := 7) hx hb d_Rf_judge_86 (by decide) ?_
          refine lv_goto (tgt := 92) hx hb d_Rf_judge_88 (by decide) ?_
          cases h
          exact kr_i hx hb hr hlocks hP hD hS d_Rf_judge_92
      · have h := o_f hc h
        refine lv_bipush (v := 6) hx hb d_Rf_judge_76 (by decide) ?_
        refine lv_goto (tgt := 92) hx hb d_Rf_judge_78 (by decide) ?_
        cases h
        exact kr_i hx hb hr hlocks hP hD hS d_Rf_judge_92
    · have h := o_f hn1 h
      refine sw_by (x := x2) (k := 2) (fun hc => ?_) (fun hn2 => ?_)
      · have h := o_t hc h
        refine sw_in (x := x2) (k := 2) hc (lv_tableIn (tgt := 93) hx hb d_Rf_judge_33 (by decide) (by decide) (by rfl) (by decide) ?_)
        refine lv_iload_n hx hb d_Rf_judge_93 rfl (lv_at hl 2 rfl) ?_
        refine lv_if_ne (tgt := 102) hx hb d_Rf_judge_94 (by decide) (fun hc => ?_) (fun hc => ?_)
        · have h := o_f hc h
          refine lv_bipush (v := 6) hx hb d_Rf_judge_102 (by decide) ?_
          refine lv_goto (tgt := 118) hx hb d_Rf_judge_104 (by decide) ?_
          cases h
          exact kr_i hx hb hr hlocks hP hD hS d_Rf_judge_118
        · have h := o_t hc h
          refine lv_iload hx hb d_Rf_judge_97 (lv_at hl 1 rfl) ?_
          refine lv_if_eq (tgt := 107) hx hb d_Rf_judge_99 (by decide) (fun hc => ?_) (fun hc => ?_)
          · have h := o_t hc h
            refine lv_iload hx hb d_Rf_judge_107 (lv_at hl 0 rfl) ?_
            refine lv_if_eq (tgt := 116) hx hb d_Rf_judge_109 (by decide) (fun hc => ?_) (fun hc => ?_)
            · have h := o_t hc h
              refine lv_bipush (v := 8) hx hb d_Rf_judge_116 (by decide) ?_
              cases h
              exact kr_i hx hb hr hlocks hP hD hS d_Rf_judge_118
            · have h := o_f hc h
              refine lv_iconst (v := 0) hx hb d_Rf_judge_112 (by decide) ?_
              refine lv_goto (tgt := 118) hx hb d_Rf_judge_113 (by decide) ?_
              cases h
              exact kr_i hx hb hr hlocks hP hD hS d_Rf_judge_118
          · have h := o_f hc h
            refine lv_bipush (v := 6) hx hb d_Rf_judge_102 (by decide) ?_
            refine lv_goto (tgt := 118) hx hb d_Rf_judge_104 (by decide) ?_
            cases h
            exact kr_i hx hb hr hlocks hP hD hS d_Rf_judge_118
      · have h := o_f hn2 h
        refine lv_tableOut (tgt := 119) hx hb d_Rf_judge_33 (by have g0 := sw_ne hn0 (show (0 : Int32).toInt = 0 by decide); have g1 := sw_ne hn1 (show (1 : Int32).toInt = 1 by decide); have g2 := sw_ne hn2 (show (2 : Int32).toInt = 2 by decide); omega) (by decide) ?_
        refine lv_iload_n hx hb d_Rf_judge_119 rfl (lv_at hl 2 rfl) ?_
        refine lv_if_eq (tgt := 138) hx hb d_Rf_judge_120 (by decide) (fun hc => ?_) (fun hc => ?_)
        · have h := o_t hc h
          refine lv_iconst (v := 0) hx hb d_Rf_judge_138 (by decide) ?_
          cases h
          exact kr_i hx hb hr hlocks hP hD hS d_Rf_judge_139
        · have h := o_f hc h
          refine lv_iload hx hb d_Rf_judge_123 (lv_at hl 1 rfl) ?_
          refine lv_if_ne (tgt := 133) hx hb d_Rf_judge_125 (by decide) (fun hc => ?_) (fun hc => ?_)
          · have h := o_f hc h
            refine lv_bipush (v := 9) hx hb d_Rf_judge_133 (by decide) ?_
            refine lv_goto (tgt := 139) hx hb d_Rf_judge_135 (by decide) ?_
            cases h
            exact kr_i hx hb hr hlocks hP hD hS d_Rf_judge_139
          · have h := o_t hc h
            refine lv_iload hx hb d_Rf_judge_128 (lv_at hl 0 rfl) ?_
            refine lv_if_eq (tgt := 138) hx hb d_Rf_judge_130 (by decide) (fun hc => ?_) (fun hc => ?_)
            · have h := o_t hc h
              refine lv_iconst (v := 0) hx hb d_Rf_judge_138 (by decide) ?_
              cases h
              exact kr_i hx hb hr hlocks hP hD hS d_Rf_judge_139
            · have h := o_f hc h
              refine lv_bipush (v := 9) hx hb d_Rf_judge_133 (by decide) ?_
              refine lv_goto (tgt := 139) hx hb d_Rf_judge_135 (by decide) ?_
              cases h
              exact kr_i hx hb hr hlocks hP hD hS d_Rf_judge_139
set_option maxHeartbeats 4000000 in
set_option maxRecDepth 100000 in
theorem c_Rf_member (l : Launch) (dC : Nat → ClassId) (dI : Nat → Nat → Nat) (cI cJ cZ : ClassId) (a : Nat → Nat) (N : Nat) (x1 : Int32) (x2 : Int32) (kn : KnS) (tr : TrS) (lk : LkS) (f0 : FlS) (f1 : FlS) (res : Int32 × LkS × FlS × FlS) (h : f_Rf_member N x1 x2 kn tr lk f0 f1 = some res) :
    Kt l (dC, dI) classes [(cI, .int), (cJ, .long), (cZ, .boolean)] y_Rf_member (wz y_Rf_member b_Rf_member 3 (some .int)) { frames := 7, cells := 0, slots := 0, locals := 158 } [.ref (a 0), .int x1, .int x2] (cO cI cJ cZ a ++ cKn cI cJ cZ a kn ++ cTr cI cJ cZ a tr ++ cLk cI cJ cZ a lk ++ cF0 cI cJ cZ a f0 ++ cF1 cI cJ cZ a f1) (some (.int res.1)) (cO cI cJ cZ a ++ cKn cI cJ cZ a kn ++ cTr cI cJ cZ a tr ++ cLk cI cJ cZ a res.2.1 ++ cF0 cI cJ cZ a res.2.2.1 ++ cF1 cI cJ cZ a res.2.2.2) := by
  refine Kt_of (cc := b_Rf_member) (maxL := 3) (ret := (some .int)) (by decide) (Nat.le_of_ble_eq_true rfl) ?_
  intro p e s m args below meth c A ls hx hb hr hml hlocks hown hts hNw hK hP hD hA hS hl
  have hl : lv_has ls 3 [(0, .ref (a 0)), (1, .int x1), (2, .int x2)] := hl
  have hP : va_P (dC, dI) classes (cO cI cJ cZ a ++ cKn cI cJ cZ a kn ++ cTr cI cJ cZ a tr ++ cLk cI cJ cZ a lk ++ cF0 cI cJ cZ a f0 ++ cF1 cI cJ cZ a f1) s.heap := hP
  refine lv_aload_n hx hb d_Rf_member_0 rfl (lv_at hl 0 rfl) ?_
  refine va_get (D := (dC, dI)) (ci := 6) (v := .ref (a 4)) (C := R_Rf) (T := F_Rf) (N := 4) hx hb hts inb_Rf hown hK hP 0 rfl rfl 1 (by decide) (hts _ tw277) (fun _ h9 => h9) rfl d_Rf_member_1 ?_
  refine lv_iload_n hx hb d_Rf_member_4 rfl (lv_at hl 1 rfl) ?_
  obtain ⟨y5, hy, h⟩ := o_bd h
  refine kdV (nn := 30) (rest := []) (w' := (cO cI cJ cZ a ++ cKn cI cJ cZ a kn ++ cTr cI cJ cZ a tr ++ cLk cI cJ cZ a lk ++ cF0 cI cJ cZ a f0 ++ cF1 cI cJ cZ a f1)) (wr := (cO cI cJ cZ a ++ cKn cI cJ cZ a kn ++ cLk cI cJ cZ a lk ++ cF0 cI cJ cZ a f0 ++ cF1 cI cJ cZ a f1)) (st1 := [.int y5]) ⟨hx, hb, hml, hown, hts⟩ (c_Tr_has l dC dI cI cJ cZ a x1 tr y5 hy) (cwV 1 hts (gd_V tw421 tw328 tw329 tw3 tw330) rfl rfl rfl hd_Tr_has ⟨Nat.le_of_ble_eq_true rfl, Nat.le_of_ble_eq_true rfl⟩) hNw hK hP hD hS hA (ci := 1) rfl rfl rfl [4, 5, 6, 7, 8, 9, 10, 11, 12, 13, 14] [0, 1, 2, 3, 15, 16, 17, 18, 19, 20, 21, 22, 23, 24, 25, 26, 27, 28, 29] rfl rfl rfl rfl rfl (by decide +kernel) (by decide +kernel) rfl hl.1 rfl (Nat.le_of_ble_eq_true rfl) rfl d_Rf_member_5 ⟨Nat.zero_le _, Nat.zero_le _⟩ (fun H locs hP hD hS => ?_)
  refine lv_if_eq (tgt := 20) hx hb d_Rf_member_8 (by decide) (fun hc => ?_) (fun hc => ?_)
  · have h := o_t hc h
    refine lv_bipush (v := -2) hx hb d_Rf_member_20 (by decide) ?_
    cases h
    exact kr_i hx hb hr hlocks hP hD hS d_Rf_member_22
  · have h := o_f hc h
    refine lv_iload_n hx hb d_Rf_member_11 rfl (lv_at hl 2 rfl) ?_
    refine lv_if_lt (tgt := 20) hx hb d_Rf_member_12 (by decide) (fun hc => ?_) (fun hc => ?_)
    · have h := o_t hc h
      refine lv_bipush (v := -2) hx hb d_Rf_member_20 (by decide) ?_
      cases h
      exact kr_i hx hb hr hlocks hP hD hS d_Rf_member_22
    · have h := o_f hc h
      refine lv_iload_n hx hb d_Rf_member_15 rfl (lv_at hl 2 rfl) ?_
      refine lv_iconst (v := 3) hx hb d_Rf_member_16 (by decide) ?_
      refine lv_icmp_le (tgt := 23) hx hb d_Rf_member_17 (by decide) (fun hc => ?_) (fun hc => ?_)
      · have h := o_t hc h
        refine lv_aload_n hx hb d_Rf_member_23 rfl (lv_at hl 0 rfl) ?_
        refine va_get (D := (dC, dI)) (ci := 6) (v := .ref (a 17)) (C := R_Rf) (T := F_Rf) (N := 4) hx hb hts inb_Rf hown hK hP 0 rfl rfl 3 (by decide) (hts _ tw279) (fun _ h9 => h9) rfl d_Rf_member_24 ?_
        refine lv_iload_n hx hb d_Rf_member_27 rfl (lv_at hl 1 rfl) ?_
        obtain ⟨y28, hy, h⟩ := o_bd h
        refine kdV (nn := 30) (rest := []) (w' := (cO cI cJ cZ a ++ cKn cI cJ cZ a kn ++ cTr cI cJ cZ a tr ++ cLk cI cJ cZ a y28.1 ++ cF0 cI cJ cZ a y28.2.1 ++ cF1 cI cJ cZ a y28.2.2)) (wr := (cO cI cJ cZ a)) (st1 := []) ⟨hx, hb, hml, hown, hts⟩ (c_Lk_lookAt l dC dI cI cJ cZ a N x1 lk f0 f1 tr kn y28 hy) (cwV 1 hts (gd_V tw438 tw439 tw440 tw5 tw441) rfl rfl rfl hd_Lk_lookAt ⟨Nat.le_of_ble_eq_true rfl, Nat.le_of_ble_eq_true rfl⟩) hNw hK hP hD hS hA (ci := 3) rfl rfl rfl [15, 16, 17, 18, 19, 20, 21, 22, 23, 24, 25, 26, 27, 28, 29, 4, 5, 6, 7, 8, 9, 10, 11, 12, 13, 14, 1, 2, 3] [0] rfl rfl rfl rfl rfl (by decide +kernel) (by decide +kernel) rfl hl.1 rfl (Nat.le_of_ble_eq_true rfl) rfl d_Rf_member_28 ⟨Nat.zero_le _, Nat.zero_le _⟩ (fun H locs hP hD hS => ?_)
        refine lv_aload_n hx hb d_Rf_member_31 rfl (lv_at hl 0 rfl) ?_
        refine va_get (D := (dC, dI)) (ci := 6) (v := .ref (a 17)) (C := R_Rf) (T := F_Rf) (N := 4) hx hb hts inb_Rf hown hK hP 0 rfl rfl 3 (by decide) (hts _ tw279) (fun _ h9 => h9) rfl d_Rf_member_32 ?_
        refine va_get (D := (dC, dI)) (ci := 3) (v := .int (Lk_faultCount y28.1)) (C := R_Lk) (T := F_Lk) (N := 14) hx hb hts inb_Lk hown hK hP 15 rfl rfl 9 (by decide) (hts _ tw238) (fun _ h9 => h9) rfl d_Rf_member_35 ?_
        refine lv_if_le (tgt := 53) hx hb d_Rf_member_38 (by decide) (fun hc => ?_) (fun hc => ?_)
        · have h := o_t hc h
          refine lv_aload_n hx hb d_Rf_member_53 rfl (lv_at hl 0 rfl) ?_
          refine lv_iload_n hx hb d_Rf_member_54 rfl (lv_at hl 1 rfl) ?_
          refine lv_iload_n hx hb d_Rf_member_55 rfl (lv_at hl 2 rfl) ?_
          obtain ⟨y56, hy, h⟩ := o_bd h
          refine kdV (nn := 30) (rest := []) (w' := (cO cI cJ cZ a ++ cKn cI cJ cZ a kn ++ cTr cI cJ cZ a tr ++ cLk cI cJ cZ a y28.1 ++ cF0 cI cJ cZ a y28.2.1 ++ cF1 cI cJ cZ a y28.2.2)) (wr := (cKn cI cJ cZ a kn ++ cF1 cI cJ cZ a y28.2.2)) (st1 := [.int y56]) ⟨hx, hb, hml, hown, hts⟩ (c_Rf_judge l dC dI cI cJ cZ a N x1 x2 tr y28.1 y28.2.1 y56 hy) (cwV 2 hts (gd_V tw669 tw671 ps16 tw1 tw672) rfl rfl rfl hd_Rf_judge ⟨Nat.le_of_ble_eq_true rfl, Nat.le_of_ble_eq_true rfl⟩) hNw hK hP hD hS hA (ci := 6) rfl rfl rfl [0, 4, 5, 6, 7, 8, 9, 10, 11, 12, 13, 14, 15, 16, 17, 18, 19, 20, 21, 22, 23, 24, 25] [1, 2, 3, 26, 27, 28, 29] rfl rfl rfl rfl rfl (by decide +kernel) (by decide +kernel) rfl hl.1 rfl (Nat.le_of_ble_eq_true rfl) rfl d_Rf_member_56 ⟨Nat.zero_le _, Nat.zero_le _⟩ (fun H locs hP hD hS => ?_)
          cases h
          exact kr_i hx hb hr hlocks hP hD hS d_Rf_member_59
        · have h := o_f hc h
          refine lv_aload_n hx hb d_Rf_member_41 rfl (lv_at hl 0 rfl) ?_
          refine va_get (D := (dC, dI)) (ci := 6) (v := .ref (a 17)) (C := R_Rf) (T := F_Rf) (N := 4) hx hb hts inb_Rf hown hK hP 0 rfl rfl 3 (by decide) (hts _ tw279) (fun _ h9 => h9) rfl d_Rf_member_42 ?_
          refine va_get (D := (dC, dI)) (ci := 3) (v := .ref (a 21)) (C := R_Lk) (T := F_Lk) (N := 14) hx hb hts inb_Lk hown hK hP 15 rfl rfl 10 (by decide) (hts _ tw240) (fun _ h9 => h9) rfl d_Rf_member_45 ?_
          refine lv_iconst (v := 0) hx hb d_Rf_member_48 (by decide) ?_
          obtain ⟨hin, h⟩ := o_in h
          refine va_iald hx hb hK hP 19 0 rfl rfl hin d_Rf_member_49 ?_
          refine lv_goto (tgt := 59) hx hb d_Rf_member_50 (by decide) ?_
          cases h
          exact kr_i hx hb hr hlocks hP hD hS d_Rf_member_59
      · have h := o_f hc h
        refine lv_bipush (v := -2) hx hb d_Rf_member_20 (by decide) ?_
        cases h
        exact kr_i hx hb hr hlocks hP hD hS d_Rf_member_22
