set_option maxHeartbeats 4000000 in
set_option maxRecDepth 100000 in
theorem c_Md_jump (l : Launch) (dC : Nat → ClassId) (dI : Nat → Nat → Nat) (cI cJ cZ : ClassId) (a : Nat → Nat) (x1 : Int32) (x2 : Int32) (mb : MbS) (mg : MgS) (mx : MxS) (mf : MfS) (res : Int32 × MbS × MgS) (h : f_Md_jump x1 x2 mb mg = some res) :
    Kt l (dC, dI) classes [(cI, .int), (cJ, .long), (cZ, .boolean)] y_Md_jump (wz y_Md_jump b_Md_jump 3 (some .int)) { frames := 1, cells := 0, slots := 0, locals := 23 } [.ref (a 0), .int x1, .int x2] (cMd cI cJ cZ a mb mg mx mf) (some (.int res.1)) (cMd cI cJ cZ a res.2.1 res.2.2 mx mf) := by
  refine Kt_of (cc := b_Md_jump) (maxL := 3) (ret := (some .int)) (by decide) (Nat.le_of_ble_eq_true rfl) ?_
  intro p e s m args below meth c A ls hx hb hr hml hlocks hown hts hNw hK hP hD hA hS hl
  have hl : lv_has ls 3 [(0, .ref (a 0)), (1, .int x1), (2, .int x2)] := hl
  have hP : va_P (dC, dI) classes (cMd cI cJ cZ a mb mg mx mf) s.heap := hP
  refine lv_iload_n hx hb d_Md_jump_0 rfl (lv_at hl 1 rfl) ?_
  refine lv_iconst (v := 0) hx hb d_Md_jump_1 (by decide) ?_
  refine lv_iconst (v := 1) hx hb d_Md_jump_2 (by decide) ?_
  obtain ⟨y3, hy, h⟩ := o_bd h
  refine kdS (nn := 24) (rest := []) (w' := (cMd cI cJ cZ a mb mg mx mf)) (wr := (cMd cI cJ cZ a mb mg mx mf)) (st1 := [.int y3]) ⟨hx, hb, hml, hown, hts⟩ (c_Md_isIn l dC dI cI cJ cZ a x1 (0 : Int32) (1 : Int32) y3 hy) (va_cwS 3 hts (gd_S tw806 tw807 tw9 tw808) rfl rfl rfl hd_Md_isIn.2 ⟨Nat.le_of_ble_eq_true rfl, Nat.le_of_ble_eq_true rfl⟩) hNw hK hP hD hS hA [] [0, 1, 2, 3, 4, 5, 6, 7, 8, 9, 10, 11, 12, 13, 14, 15, 16, 17, 18, 19, 20, 21, 22, 23] rfl rfl rfl rfl rfl (by decide +kernel) (by decide +kernel) rfl hl.1 rfl (Nat.le_of_ble_eq_true rfl) rfl d_Md_jump_3 ⟨Nat.zero_le _, Nat.zero_le _⟩ (fun H locs hP hD hS => ?_)
  refine lv_if_eq (tgt := 18) hx hb d_Md_jump_6 (by decide) (fun hc => ?_) (fun hc => ?_)
  · have h := o_t hc h
    refine lv_bipush (v := -2) hx hb d_Md_jump_18 (by decide) ?_
    cases h
    exact kr_i hx hb hr hlocks hP hD hS d_Md_jump_20
  · have h := o_f hc h
    refine lv_iload_n hx hb d_Md_jump_9 rfl (lv_at hl 2 rfl) ?_
    refine lv_iconst (v := -1) hx hb d_Md_jump_10 (by decide) ?_
    refine lv_iconst (v := 5) hx hb d_Md_jump_11 (by decide) ?_
    obtain ⟨y12, hy, h⟩ := o_bd h
    refine kdS (nn := 24) (rest := []) (w' := (cMd cI cJ cZ a mb mg mx mf)) (wr := (cMd cI cJ cZ a mb mg mx mf)) (st1 := [.int y12]) ⟨hx, hb, hml, hown, hts⟩ (c_Md_isIn l dC dI cI cJ cZ a x2 (-1 : Int32) (5 : Int32) y12 hy) (va_cwS 3 hts (gd_S tw806 tw807 tw9 tw808) rfl rfl rfl hd_Md_isIn.2 ⟨Nat.le_of_ble_eq_true rfl, Nat.le_of_ble_eq_true rfl⟩) hNw hK hP hD hS hA [] [0, 1, 2, 3, 4, 5, 6, 7, 8, 9, 10, 11, 12, 13, 14, 15, 16, 17, 18, 19, 20, 21, 22, 23] rfl rfl rfl rfl rfl (by decide +kernel) (by decide +kernel) rfl hl.1 rfl (Nat.le_of_ble_eq_true rfl) rfl d_Md_jump_12 ⟨Nat.zero_le _, Nat.zero_le _⟩ (fun H locs hP hD hS => ?_)
    refine lv_if_ne (tgt := 21) hx hb d_Md_jump_15 (by decide) (fun hc => ?_) (fun hc => ?_)
    · have h := o_f hc h
      refine lv_aload_n hx hb d_Md_jump_21 rfl (lv_at hl 0 rfl) ?_
      refine va_get (D := (dC, dI)) (ci := 7) (v := .int (Mb_nodes mb)) (C := R_Md) (T := F_Md) (N := 35) hx hb hts inb_Md hown hK hP 0 rfl rfl 2 (by decide) (hts _ tw689) (fun _ h9 => h9) rfl d_Md_jump_22 ?_
      refine lv_bipush (v := 60) hx hb d_Md_jump_25 (by decide) ?_
      refine lv_icmp_ne (tgt := 35) hx hb d_Md_jump_27 (by decide) (fun hc => ?_) (fun hc => ?_)
      · have h := o_f hc h
        refine lv_aload_n hx hb d_Md_jump_35 rfl (lv_at hl 0 rfl) ?_
        refine lv_bipush (v := 10) hx hb d_Md_jump_36 (by decide) ?_
        refine lv_iload_n hx hb d_Md_jump_38 rfl (lv_at hl 1 rfl) ?_
        refine lv_iadd hx hb d_Md_jump_39 ?_
        refine lv_iload_n hx hb d_Md_jump_40 rfl (lv_at hl 2 rfl) ?_
        obtain ⟨y41, hy, h⟩ := o_bd h
        refine kdV (nn := 24) (rest := []) (w' := (cMd cI cJ cZ a y41.2.1 y41.2.2 mx mf)) (wr := ([] : va_W)) (st1 := [.int y41.1]) ⟨hx, hb, hml, hown, hts⟩ (c_Md_make l dC dI cI cJ cZ a ((10 : Int32) + x1) x2 mb mg mx mf y41 hy) (cwV 2 hts (gd_V tw825 tw827 ps22 tw9 tw828) rfl rfl rfl hd_Md_make ⟨Nat.le_of_ble_eq_true rfl, Nat.le_of_ble_eq_true rfl⟩) hNw hK hP hD hS hA (ci := 7) rfl rfl rfl [0, 1, 2, 3, 4, 5, 6, 7, 8, 9, 10, 11, 12, 13, 14, 15, 16, 17, 18, 19, 20, 21, 22, 23] [] rfl rfl rfl rfl rfl (by decide +kernel) (by decide +kernel) rfl hl.1 rfl (Nat.le_of_ble_eq_true rfl) rfl d_Md_jump_41 ⟨Nat.zero_le _, Nat.zero_le _⟩ (fun H locs hP hD hS => ?_)
        cases h
        exact kr_i hx hb hr hlocks hP hD hS d_Md_jump_44
      · have h := o_t hc h
        refine lv_bipush (v := -3) hx hb d_Md_jump_30 (by decide) ?_
        refine lv_goto (tgt := 44) hx hb d_Md_jump_32 (by decide) ?_
        cases h
        exact kr_i hx hb hr hlocks hP hD hS d_Md_jump_44
    · have h := o_t hc h
      refine lv_bipush (v := -2) hx hb d_Md_jump_18 (by decide) ?_
      cases h
      exact kr_i hx hb hr hlocks hP hD hS d_Md_jump_20
set_option maxHeartbeats 4000000 in
set_option maxRecDepth 100000 in
theorem c_Md_label (l : Launch) (dC : Nat → ClassId) (dI : Nat → Nat → Nat) (cI cJ cZ : ClassId) (a : Nat → Nat) (x1 : Int32) (x2 : Int32) (mb : MbS) (mg : MgS) (mx : MxS) (mf : MfS) (res : Int32 × MbS × MgS) (h : f_Md_label x1 x2 mb mg = some res) :
    Kt l (dC, dI) classes [(cI, .int), (cJ, .long), (cZ, .boolean)] y_Md_label (wz y_Md_label b_Md_label 4 (some .int)) { frames := 3, cells := 0, slots := 0, locals := 64 } [.ref (a 0), .int x1, .int x2] (cMd cI cJ cZ a mb mg mx mf) (some (.int res.1)) (cMd cI cJ cZ a res.2.1 res.2.2 mx mf) := by
  refine Kt_of (cc := b_Md_label) (maxL := 4) (ret := (some .int)) (by decide) (Nat.le_of_ble_eq_true rfl) ?_
  intro p e s m args below meth c A ls hx hb hr hml hlocks hown hts hNw hK hP hD hA hS hl
  have hl : lv_has ls 4 [(0, .ref (a 0)), (1, .int x1), (2, .int x2)] := hl
  have hP : va_P (dC, dI) classes (cMd cI cJ cZ a mb mg mx mf) s.heap := hP
  refine lv_iload_n hx hb d_Md_label_0 rfl (lv_at hl 1 rfl) ?_
  refine lv_iconst (v := 0) hx hb d_Md_label_1 (by decide) ?_
  refine lv_iconst (v := 5) hx hb d_Md_label_2 (by decide) ?_
  obtain ⟨y3, hy, h⟩ := o_bd h
  refine kdS (nn := 24) (rest := []) (w' := (cMd cI cJ cZ a mb mg mx mf)) (wr := (cMd cI cJ cZ a mb mg mx mf)) (st1 := [.int y3]) ⟨hx, hb, hml, hown, hts⟩ (c_Md_isIn l dC dI cI cJ cZ a x1 (0 : Int32) (5 : Int32) y3 hy) (va_cwS 3 hts (gd_S tw806 tw807 tw9 tw808) rfl rfl rfl hd_Md_isIn.2 ⟨Nat.le_of_ble_eq_true rfl, Nat.le_of_ble_eq_true rfl⟩) hNw hK hP hD hS hA [] [0, 1, 2, 3, 4, 5, 6, 7, 8, 9, 10, 11, 12, 13, 14, 15, 16, 17, 18, 19, 20, 21, 22, 23] rfl rfl rfl rfl rfl (by decide +kernel) (by decide +kernel) rfl hl.1 rfl (Nat.le_of_ble_eq_true rfl) rfl d_Md_label_3 ⟨Nat.zero_le _, Nat.zero_le _⟩ (fun H locs hP hD hS => ?_)
  refine lv_if_eq (tgt := 17) hx hb d_Md_label_6 (by decide) (fun hc => ?_) (fun hc => ?_)
  · have h := o_t hc h
    refine lv_bipush (v := -2) hx hb d_Md_label_17 (by decide) ?_
    cases h
    exact kr_i hx hb hr hlocks hP hD hS d_Md_label_19
  · have h := o_f hc h
    refine lv_aload_n hx hb d_Md_label_9 rfl (lv_at hl 0 rfl) ?_
    refine lv_iload_n hx hb d_Md_label_10 rfl (lv_at hl 2 rfl) ?_
    obtain ⟨y11, hy, h⟩ := o_bd h
    refine kdV (nn := 24) (rest := []) (w' := (cMd cI cJ cZ a mb mg mx mf)) (wr := ([] : va_W)) (st1 := [.int y11]) ⟨hx, hb, hml, hown, hts⟩ (c_Md_isFree l dC dI cI cJ cZ a x2 mb mg mx mf y11 hy) (cwV 1 hts (gd_V tw817 tw819 ps20 tw9 tw820) rfl rfl rfl hd_Md_isFree ⟨Nat.le_of_ble_eq_true rfl, Nat.le_of_ble_eq_true rfl⟩) hNw hK hP hD hS hA (ci := 7) rfl rfl rfl [0, 1, 2, 3, 4, 5, 6, 7, 8, 9, 10, 11, 12, 13, 14, 15, 16, 17, 18, 19, 20, 21, 22, 23] [] rfl rfl rfl rfl rfl (by decide +kernel) (by decide +kernel) rfl hl.1 rfl (Nat.le_of_ble_eq_true rfl) rfl d_Md_label_11 ⟨Nat.zero_le _, Nat.zero_le _⟩ (fun H locs hP hD hS => ?_)
    refine lv_if_ne (tgt := 20) hx hb d_Md_label_14 (by decide) (fun hc => ?_) (fun hc => ?_)
    · have h := o_f hc h
      refine lv_aload_n hx hb d_Md_label_20 rfl (lv_at hl 0 rfl) ?_
      refine va_get (D := (dC, dI)) (ci := 7) (v := .int (Mb_nodes mb)) (C := R_Md) (T := F_Md) (N := 35) hx hb hts inb_Md hown hK hP 0 rfl rfl 2 (by decide) (hts _ tw689) (fun _ h9 => h9) rfl d_Md_label_21 ?_
      refine lv_bipush (v := 60) hx hb d_Md_label_24 (by decide) ?_
      refine lv_icmp_ne (tgt := 32) hx hb d_Md_label_26 (by decide) (fun hc => ?_) (fun hc => ?_)
      · have h := o_f hc h
        refine lv_aload_n hx hb d_Md_label_32 rfl (lv_at hl 0 rfl) ?_
        refine lv_bipush (v := 12) hx hb d_Md_label_33 (by decide) ?_
        refine lv_iload_n hx hb d_Md_label_35 rfl (lv_at hl 1 rfl) ?_
        obtain ⟨y36, hy, h⟩ := o_bd h
        refine kdV (nn := 24) (rest := []) (w' := (cMd cI cJ cZ a y36.2.1 y36.2.2 mx mf)) (wr := ([] : va_W)) (st1 := [.int y36.1]) ⟨hx, hb, hml, hown, hts⟩ (c_Md_make l dC dI cI cJ cZ a (12 : Int32) x1 mb mg mx mf y36 hy) (cwV 2 hts (gd_V tw825 tw827 ps22 tw9 tw828) rfl rfl rfl hd_Md_make ⟨Nat.le_of_ble_eq_true rfl, Nat.le_of_ble_eq_true rfl⟩) hNw hK hP hD hS hA (ci := 7) rfl rfl rfl [0, 1, 2, 3, 4, 5, 6, 7, 8, 9, 10, 11, 12, 13, 14, 15, 16, 17, 18, 19, 20, 21, 22, 23] [] rfl rfl rfl rfl rfl (by decide +kernel) (by decide +kernel) rfl hl.1 rfl (Nat.le_of_ble_eq_true rfl) rfl d_Md_label_36 ⟨Nat.zero_le _, Nat.zero_le _⟩ (fun H locs hP hD hS => ?_)
        refine lv_istore_n (lv' := [(3, .int y36.1), (0, .ref (a 0)), (1, .int x1), (2, .int x2)]) hx hb d_Md_label_39 rfl hl (by decide) rfl (fun ls hl => ?_)
        refine lv_aload_n hx hb d_Md_label_40 rfl (lv_at hl 1 rfl) ?_
        refine lv_iload_n hx hb d_Md_label_41 rfl (lv_at hl 0 rfl) ?_
        refine lv_iload_n hx hb d_Md_label_42 rfl (lv_at hl 3 rfl) ?_
        obtain ⟨y43, hy, h⟩ := o_bd h
        refine kdV (nn := 24) (rest := []) (w' := (cMd cI cJ cZ a y43 y36.2.2 mx mf)) (wr := ([] : va_W)) (st1 := []) ⟨hx, hb, hml, hown, hts⟩ (c_Md_join l dC dI cI cJ cZ a y36.1 x2 y36.2.1 y36.2.2 mx mf y43 hy) (cwV 2 hts (gd_V tw829 tw831 ps23 tw9 tw832) rfl rfl rfl hd_Md_join ⟨Nat.le_of_ble_eq_true rfl, Nat.le_of_ble_eq_true rfl⟩) hNw hK hP hD hS hA (ci := 7) rfl rfl rfl [0, 1, 2, 3, 4, 5, 6, 7, 8, 9, 10, 11, 12, 13, 14, 15, 16, 17, 18, 19, 20, 21, 22, 23] [] rfl rfl rfl rfl rfl (by decide +kernel) (by decide +kernel) rfl hl.1 rfl (Nat.le_of_ble_eq_true rfl) rfl d_Md_label_43 ⟨Nat.zero_le _, Nat.zero_le _⟩ (fun H locs hP hD hS => ?_)
        refine lv_iload_n hx hb d_Md_label_46 rfl (lv_at hl 0 rfl) ?_
        cases h
        exact kr_i hx hb hr hlocks hP hD hS d_Md_label_47
      · have h := o_t hc h
        refine lv_bipush (v := -3) hx hb d_Md_label_29 (by decide) ?_
        cases h
        exact kr_i hx hb hr hlocks hP hD hS d_Md_label_31
    · have h := o_t hc h
      refine lv_bipush (v := -2) hx hb d_Md_label_17 (by decide) ?_
      cases h
      exact kr_i hx hb hr hlocks hP hD hS d_Md_label_19
set_option maxHeartbeats 4000000 in
set_option maxRecDepth 100000 in
theorem c_Md_row (l : Launch) (dC : Nat → ClassId) (dI : Nat → Nat → Nat) (cI cJ cZ : ClassId) (a : Nat → Nat) (x1 : Int32) (mb : MbS) (mg : MgS) (mx : MxS) (mf : MfS) (res : Int32 × MbS) (h : f_Md_row x1 mb = some res) :
    Kt l (dC, dI) classes [(cI, .int), (cJ, .long), (cZ, .boolean)] y_Md_row (wz y_Md_row b_Md_row 2 (some .int)) { frames := 1, cells := 0, slots := 0, locals := 22 } [.ref (a 0), .int x1] (cMd cI cJ cZ a mb mg mx mf) (some (.int res.1)) (cMd cI cJ cZ a res.2 mg mx mf) := by
  refine Kt_of (cc := b_Md_row) (maxL := 2) (ret := (some .int)) (by decide) (Nat.le_of_ble_eq_true rfl) ?_
  intro p e s m args below meth c A ls hx hb hr hml hlocks hown hts hNw hK hP hD hA hS hl
  have hl : lv_has ls 2 [(0, .ref (a 0)), (1, .int x1)] := hl
  have hP : va_P (dC, dI) classes (cMd cI cJ cZ a mb mg mx mf) s.heap := hP
  refine lv_iload_n hx hb d_Md_row_0 rfl (lv_at hl 1 rfl) ?_
  refine lv_iconst (v := 0) hx hb d_Md_row_1 (by decide) ?_
  refine lv_iconst (v := 3) hx hb d_Md_row_2 (by decide) ?_
  obtain ⟨y3, hy, h⟩ := o_bd h
  refine kdS (nn := 24) (rest := []) (w' := (cMd cI cJ cZ a mb mg mx mf)) (wr := (cMd cI cJ cZ a mb mg mx mf)) (st1 := [.int y3]) ⟨hx, hb, hml, hown, hts⟩ (c_Md_isIn l dC dI cI cJ cZ a x1 (0 : Int32) (3 : Int32) y3 hy) (va_cwS 3 hts (gd_S tw806 tw807 tw9 tw808) rfl rfl rfl hd_Md_isIn.2 ⟨Nat.le_of_ble_eq_true rfl, Nat.le_of_ble_eq_true rfl⟩) hNw hK hP hD hS hA [] [0, 1, 2, 3, 4, 5, 6, 7, 8, 9, 10, 11, 12, 13, 14, 15, 16, 17, 18, 19, 20, 21, 22, 23] rfl rfl rfl rfl rfl (by decide +kernel) (by decide +kernel) rfl hl.1 rfl (Nat.le_of_ble_eq_true rfl) rfl d_Md_row_3 ⟨Nat.zero_le _, Nat.zero_le _⟩ (fun H locs hP hD hS => ?_)
  refine lv_if_ne (tgt := 12) hx hb d_Md_row_6 (by decide) (fun hc => ?_) (fun hc => ?_)
  · have h := o_f hc h
    refine lv_aload_n hx hb d_Md_row_12 rfl (lv_at hl 0 rfl) ?_
    refine va_get (D := (dC, dI)) (ci := 7) (v := .int (Mb_rowKind mb)) (C := R_Md) (T := F_Md) (N := 35) hx hb hts inb_Md hown hK hP 0 rfl rfl 14 (by decide) (hts _ tw701) (fun _ h9 => h9) rfl d_Md_row_13 ?_
    refine lv_iconst (v := -1) hx hb d_Md_row_16 (by decide) ?_
    refine lv_icmp_eq (tgt := 23) hx hb d_Md_row_17 (by decide) (fun hc => ?_) (fun hc => ?_)
    · have h := o_t hc h
      refine lv_aload_n hx hb d_Md_row_23 rfl (lv_at hl 0 rfl) ?_
      refine lv_iload_n hx hb d_Md_row_24 rfl (lv_at hl 1 rfl) ?_
      refine va_put (D := (dC, dI)) (ci := 7) (v := .int x1) (ty := .int) (C := R_Md) (T := F_Md) (N := 35) hx hb hts inb_Md ft_Md ft_Md_ok n_Md hown hK hP hD hS 0 rfl rfl 14 (by decide) (hts _ tw701) (fun _ h9 => h9) rfl (by decide +kernel) rfl rfl (Nat.le_of_ble_eq_true rfl) d_Md_row_25 (fun H locs hP hD hS => ?_)
      have hP : va_P (dC, dI) classes (cMd cI cJ cZ a ((Mb_kinds mb), (Mb_above mb), (Mb_nodes mb), (Mb_sort mb), (Mb_given mb), (Mb_partOf mb), (Mb_mark mb), (Mb_first mb), (Mb_last mb), (Mb_next mb), (Mb_before mb), (Mb_hasEnding mb), (Mb_endMark mb), (Mb_inRow mb), x1, (Mb_rowFirst mb), (Mb_rowLast mb), (Mb_rowCount mb)) mg mx mf) H := hP
      have hD : va_D A (cMd cI cJ cZ a ((Mb_kinds mb), (Mb_above mb), (Mb_nodes mb), (Mb_sort mb), (Mb_given mb), (Mb_partOf mb), (Mb_mark mb), (Mb_first mb), (Mb_last mb), (Mb_next mb), (Mb_before mb), (Mb_hasEnding mb), (Mb_endMark mb), (Mb_inRow mb), x1, (Mb_rowFirst mb), (Mb_rowLast mb), (Mb_rowCount mb)) mg mx mf) := hD
      refine lv_aload_n hx hb d_Md_row_28 rfl (lv_at hl 0 rfl) ?_
      refine lv_iconst (v := -1) hx hb d_Md_row_29 (by decide) ?_
      refine va_put (D := (dC, dI)) (ci := 7) (v := .int (-1 : Int32)) (ty := .int) (C := R_Md) (T := F_Md) (N := 35) hx hb hts inb_Md ft_Md ft_Md_ok n_Md hown hK hP hD hS 0 rfl rfl 15 (by decide) (hts _ tw702) (fun _ h9 => h9) rfl (by decide +kernel) rfl rfl (Nat.le_of_ble_eq_true rfl) d_Md_row_30 (fun H locs hP hD hS => ?_)
      have hP : va_P (dC, dI) classes (cMd cI cJ cZ a ((Mb_kinds mb), (Mb_above mb), (Mb_nodes mb), (Mb_sort mb), (Mb_given mb), (Mb_partOf mb), (Mb_mark mb), (Mb_first mb), (Mb_last mb), (Mb_next mb), (Mb_before mb), (Mb_hasEnding mb), (Mb_endMark mb), (Mb_inRow mb), x1, (-1 : Int32), (Mb_rowLast mb), (Mb_rowCount mb)) mg mx mf) H := hP
      have hD : va_D A (cMd cI cJ cZ a ((Mb_kinds mb), (Mb_above mb), (Mb_nodes mb), (Mb_sort mb), (Mb_given mb), (Mb_partOf mb), (Mb_mark mb), (Mb_first mb), (Mb_last mb), (Mb_next mb), (Mb_before mb), (Mb_hasEnding mb), (Mb_endMark mb), (Mb_inRow mb), x1, (-1 : Int32), (Mb_rowLast mb), (Mb_rowCount mb)) mg mx mf) := hD
      refine lv_aload_n hx hb d_Md_row_33 rfl (lv_at hl 0 rfl) ?_
      refine lv_iconst (v := -1) hx hb d_Md_row_34 (by decide) ?_
      refine va_put (D := (dC, dI)) (ci := 7) (v := .int (-1 : Int32)) (ty := .int) (C := R_Md) (T := F_Md) (N := 35) hx hb hts inb_Md ft_Md ft_Md_ok n_Md hown hK hP hD hS 0 rfl rfl 16 (by decide) (hts _ tw703) (fun _ h9 => h9) rfl (by decide +kernel) rfl rfl (Nat.le_of_ble_eq_true rfl) d_Md_row_35 (fun H locs hP hD hS => ?_)
      have hP : va_P (dC, dI) classes (cMd cI cJ cZ a ((Mb_kinds mb), (Mb_above mb), (Mb_nodes mb), (Mb_sort mb), (Mb_given mb), (Mb_partOf mb), (Mb_mark mb), (Mb_first mb), (Mb_last mb), (Mb_next mb), (Mb_before mb), (Mb_hasEnding mb), (Mb_endMark mb), (Mb_inRow mb), x1, (-1 : Int32), (-1 : Int32), (Mb_rowCount mb)) mg mx mf) H := hP
      have hD : va_D A (cMd cI cJ cZ a ((Mb_kinds mb), (Mb_above mb), (Mb_nodes mb), (Mb_sort mb), (Mb_given mb), (Mb_partOf mb), (Mb_mark mb), (Mb_first mb), (Mb_last mb), (Mb_next mb), (Mb_before mb), (Mb_hasEnding mb), (Mb_endMark mb), (Mb_inRow mb), x1, (-1 : Int32), (-1 : Int32), (Mb_rowCount mb)) mg mx mf) := hD
      refine lv_aload_n hx hb d_Md_row_38 rfl (lv_at hl 0 rfl) ?_
      refine lv_iconst (v := 0) hx hb d_Md_row_39 (by decide) ?_
      refine va_put (D := (dC, dI)) (ci := 7) (v := .int (0 : Int32)) (ty := .int) (C := R_Md) (T := F_Md) (N := 35) hx hb hts inb_Md ft_Md ft_Md_ok n_Md hown hK hP hD hS 0 rfl rfl 17 (by decide) (hts _ tw704) (fun _ h9 => h9) rfl (by decide +kernel) rfl rfl (Nat.le_of_ble_eq_true rfl) d_Md_row_40 (fun H locs hP hD hS => ?_)
      have hP : va_P (dC, dI) classes (cMd cI cJ cZ a ((Mb_kinds mb), (Mb_above mb), (Mb_nodes mb), (Mb_sort mb), (Mb_given mb), (Mb_partOf mb), (Mb_mark mb), (Mb_first mb), (Mb_last mb), (Mb_next mb), (Mb_before mb), (Mb_hasEnding mb), (Mb_endMark mb), (Mb_inRow mb), x1, (-1 : Int32), (-1 : Int32), (0 : Int32)) mg mx mf) H := hP
      have hD : va_D A (cMd cI cJ cZ a ((Mb_kinds mb), (Mb_above mb), (Mb_nodes mb), (Mb_sort mb), (Mb_given mb), (Mb_partOf mb), (Mb_mark mb), (Mb_first mb), (Mb_last mb), (Mb_next mb), (Mb_before mb), (Mb_hasEnding mb), (Mb_endMark mb), (Mb_inRow mb), x1, (-1 : Int32), (-1 : Int32), (0 : Int32)) mg mx mf) := hD
      refine lv_iload_n hx hb d_Md_row_43 rfl (lv_at hl 1 rfl) ?_
      cases h
      exact kr_i hx hb hr hlocks hP hD hS d_Md_row_44
    · have h := o_f hc h
      refine lv_bipush (v := -4) hx hb d_Md_row_20 (by decide) ?_
      cases h
      exact kr_i hx hb hr hlocks hP hD hS d_Md_row_22
  · have h := o_t hc h
    refine lv_bipush (v := -2) hx hb d_Md_row_9 (by decide) ?_
    cases h
    exact kr_i hx hb hr hlocks hP hD hS d_Md_row_11
set_option maxHeartbeats 4000000 in
set_option maxRecDepth 100000 in
theorem c_Md_hasDefault (l : Launch) (dC : Nat → ClassId) (dI : Nat → Nat → Nat) (cI cJ cZ : ClassId) (a : Nat → Nat) (N : Nat) (mb : MbS) (mg : MgS) (mx : MxS) (mf : MfS) (res : Int32) (h : f_Md_hasDefault N mb = some res) :
    Kt l (dC, dI) classes [(cI, .int), (cJ, .long), (cZ, .boolean)] y_Md_hasDefault (wz y_Md_hasDefault b_Md_hasDefault 3 (some .boolean)) { frames := 0, cells := 0, slots := 0, locals := 0 } [.ref (a 0)] (cMd cI cJ cZ a mb mg mx mf) (some (.int res)) (cMd cI cJ cZ a mb mg mx mf) := by
  refine Kt_of (cc := b_Md_hasDefault) (maxL := 3) (ret := (some .boolean)) (by decide) (Nat.le_of_ble_eq_true rfl) ?_
  intro p e s m args below meth c A ls hx hb hr hml hlocks hown hts hNw hK hP hD hA hS hl
  have hl : lv_has ls 3 [(0, .ref (a 0))] := hl
  have hP : va_P (dC, dI) classes (cMd cI cJ cZ a mb mg mx mf) s.heap := hP
  have L7 : ∀ (n7 : Nat) (s7 : Int32 × Int32) (H : Heap) (locs : List Loc) (ls : Array Slot), lp (f_Md_hasDefault_L7 N mb) n7 s7 = some res → va_P (dC, dI) classes (cMd cI cJ cZ a mb mg mx mf) H → va_D A (cMd cI cJ cZ a mb mg mx mf) → va_S A s.heap H locs → lv_has ls 3 [(0, .ref (a 0)), (1, .int s7.1), (2, .int s7.2)] → W p l e { frames := 0, cells := 0, slots := 0, locals := 0 } s m args below meth c H locs 0 0 (KZ below args s (dC, dI) classes (some (.int res)) (cMd cI cJ cZ a mb mg mx mf) A) (F0 m 7 ls []) := by
    intro n7
    induction n7 with
    | zero => intro _ _ _ _ h; exact (lp_0 h).elim
    | succ n7 ih7 =>
      intro s7 H locs ls h hP hD hS hl
      have h := lp_s h
      have B31 : ∀ (z0_31 : Int32) (x2_31 : Int32) (H : Heap) (locs : List Loc) (ls : Array Slot), f_Md_hasDefault_b31 N (lp (f_Md_hasDefault_L7 N mb) n7) z0_31 x2_31 mb = some res → va_P (dC, dI) classes (cMd cI cJ cZ a mb mg mx mf) H → va_D A (cMd cI cJ cZ a mb mg mx mf) → va_S A s.heap H locs → lv_has ls 3 [(0, .ref (a 0)), (2, .int x2_31)] → W p l e { frames := 0, cells := 0, slots := 0, locals := 0 } s m args below meth c H locs 0 0 (KZ below args s (dC, dI) classes (some (.int res)) (cMd cI cJ cZ a mb mg mx mf) A) (F0 m 31 ls [.int z0_31]) := by
        intro z0_31 x2_31 H locs ls h hP hD hS hl
        refine lv_istore_n (lv' := [(1, .int z0_31), (0, .ref (a 0)), (2, .int x2_31)]) hx hb d_Md_hasDefault_31 rfl hl (by decide) rfl (fun ls hl => ?_)
        refine lv_aload_n hx hb d_Md_hasDefault_32 rfl (lv_at hl 1 rfl) ?_
        refine va_get (D := (dC, dI)) (ci := 7) (v := .ref (a 8)) (C := R_Md) (T := F_Md) (N := 35) hx hb hts inb_Md hown hK hP 0 rfl rfl 9 (by decide) (hts _ tw696) (fun _ h9 => h9) rfl d_Md_hasDefault_33 ?_
        refine lv_iload_n hx hb d_Md_hasDefault_36 rfl (lv_at hl 2 rfl) ?_
        obtain ⟨hin, h⟩ := o_in h
        refine va_iald hx hb hK hP 8 0 rfl rfl hin d_Md_hasDefault_37 ?_
        refine lv_istore_n (lv' := [(2, .int ((Mb_next mb) x2_31.toNatClampNeg)), (1, .int z0_31), (0, .ref (a 0))]) hx hb d_Md_hasDefault_38 rfl hl (by decide) rfl (fun ls hl => ?_)
        refine lv_goto (tgt := 7) hx hb d_Md_hasDefault_39 (by decide) ?_
        exact ih7 (z0_31, ((Mb_next mb) x2_31.toNatClampNeg)) _ _ _ h hP hD hS (lv_sub hl [2, 1, 0] rfl)
      have B26 : ∀ (x2_26 : Int32) (H : Heap) (locs : List Loc) (ls : Array Slot), f_Md_hasDefault_b26 N (lp (f_Md_hasDefault_L7 N mb) n7) x2_26 mb = some res → va_P (dC, dI) classes (cMd cI cJ cZ a mb mg mx mf) H → va_D A (cMd cI cJ cZ a mb mg mx mf) → va_S A s.heap H locs → lv_has ls 3 [(0, .ref (a 0)), (2, .int x2_26)] → W p l e { frames := 0, cells := 0, slots := 0, locals := 0 } s m args below meth c H locs 0 0 (KZ below args s (dC, dI) classes (some (.int res)) (cMd cI cJ cZ a mb mg mx mf) A) (F0 m 26 ls []) := by
        intro x2_26 H locs ls h hP hD hS hl
        refine lv_iconst (v := 1) hx hb d_Md_hasDefault_26 (by decide) ?_
        refine lv_goto (tgt := 31) hx hb d_Md_hasDefault_27 (by decide) ?_
        exact B31 (1 : Int32) x2_26 _ _ _ h hP hD hS (lv_sub hl [0, 1] rfl)
      refine lv_iload_n hx hb d_Md_hasDefault_7 rfl (lv_at hl 2 rfl) ?_
      refine lv_iconst (v := -1) hx hb d_Md_hasDefault_8 (by decide) ?_
      refine lv_icmp_eq (tgt := 42) hx hb d_Md_hasDefault_9 (by decide) (fun hc => ?_) (fun hc => ?_)
      · have h := o_t hc h
        refine lv_iload_n hx hb d_Md_hasDefault_42 rfl (lv_at hl 1 rfl) ?_
        obtain ⟨hbo, h⟩ := o_bo h
        cases h
        exact kr_z hx hb hr hbo hlocks hP hD hS d_Md_hasDefault_43
      · have h := o_f hc h
        refine lv_iload_n hx hb d_Md_hasDefault_12 rfl (lv_at hl 1 rfl) ?_
        refine lv_if_ne (tgt := 26) hx hb d_Md_hasDefault_13 (by decide) (fun hc => ?_) (fun hc => ?_)
        · have h := o_f hc h
          exact B26 s7.2 _ _ _ h hP hD hS (lv_sub hl [0, 2] rfl)
        · have h := o_t hc h
          refine lv_aload_n hx hb d_Md_hasDefault_16 rfl (lv_at hl 0 rfl) ?_
          refine va_get (D := (dC, dI)) (ci := 7) (v := .ref (a 5)) (C := R_Md) (T := F_Md) (N := 35) hx hb hts inb_Md hown hK hP 0 rfl rfl 6 (by decide) (hts _ tw693) (fun _ h9 => h9) rfl d_Md_hasDefault_17 ?_
          refine lv_iload_n hx hb d_Md_hasDefault_20 rfl (lv_at hl 2 rfl) ?_
          obtain ⟨hin, h⟩ := o_in h
          refine va_iald hx hb hK hP 5 0 rfl rfl hin d_Md_hasDefault_21 ?_
          refine lv_iconst (v := 2) hx hb d_Md_hasDefault_22 (by decide) ?_
          refine lv_icmp_ne (tgt := 30) hx hb d_Md_hasDefault_23 (by decide) (fun hc => ?_) (fun hc => ?_)
          · have h := o_f hc h
            refine lv_iconst (v := 0) hx hb d_Md_hasDefault_30 (by decide) ?_
            exact B31 (0 : Int32) s7.2 _ _ _ h hP hD hS (lv_sub hl [0, 2] rfl)
          · have h := o_t hc h
            exact B26 s7.2 _ _ _ h hP hD hS (lv_sub hl [0, 2] rfl)
  refine lv_iconst (v := 0) hx hb d_Md_hasDefault_0 (by decide) ?_
  refine lv_istore_n (lv' := [(1, .int (0 : Int32)), (0, .ref (a 0))]) hx hb d_Md_hasDefault_1 rfl hl (by decide) rfl (fun ls hl => ?_)
  refine lv_aload_n hx hb d_Md_hasDefault_2 rfl (lv_at hl 1 rfl) ?_
  refine va_get (D := (dC, dI)) (ci := 7) (v := .int (Mb_rowFirst mb)) (C := R_Md) (T := F_Md) (N := 35) hx hb hts inb_Md hown hK hP 0 rfl rfl 15 (by decide) (hts _ tw702) (fun _ h9 => h9) rfl d_Md_hasDefault_3 ?_
  refine lv_istore_n (lv' := [(2, .int (Mb_rowFirst mb)), (1, .int (0 : Int32)), (0, .ref (a 0))]) hx hb d_Md_hasDefault_6 rfl hl (by decide) rfl (fun ls hl => ?_)
  exact L7 N ((0 : Int32), (Mb_rowFirst mb)) _ _ _ h hP hD hS (lv_sub hl [2, 1, 0] rfl)
set_option maxHeartbeats 4000000 in
set_option maxRecDepth 100000 in
theorem c_Md_mayPut (l : Launch) (dC : Nat → ClassId) (dI : Nat → Nat → Nat) (cI cJ cZ : ClassId) (a : Nat → Nat) (N : Nat) (x1 : Int32) (x2 : Int32) (mb : MbS) (mg : MgS) (mx : MxS) (mf : MfS) (res : Int32) (h : f_Md_mayPut N x1 x2 mb = some res) :
    Kt l (dC, dI) classes [(cI, .int), (cJ, .long), (cZ, .boolean)] y_Md_mayPut (wz y_Md_mayPut b_Md_mayPut 4 (some .boolean)) { frames := 3, cells := 0, slots := 0, locals := 64 } [.ref (a 0), .int x1, .int x2] (cMd cI cJ cZ a mb mg mx mf) (some (.int res)) (cMd cI cJ cZ a mb mg mx mf) := by
  refine Kt_of (cc := b_Md_mayPut) (maxL := 4) (ret := (some .boolean)) (by decide) (Nat.le_of_ble_eq_true rfl) ?_
  intro p e s m args below meth c A ls hx hb hr hml hlocks hown hts hNw hK hP hD hA hS hl
  have hl : lv_has ls 4 [(0, .ref (a 0)), (1, .int x1), (2, .int x2)] := hl
  have hP : va_P (dC, dI) classes (cMd cI cJ cZ a mb mg mx mf) s.heap := hP
  have B71 : ∀ (z0_71 : Int32) (z1_71 : Int32) (x2_71 : Int32) (H : Heap) (locs : List Loc) (ls : Array Slot), f_Md_mayPut_b71 N z0_71 z1_71 x2_71 mb = some res → va_P (dC, dI) classes (cMd cI cJ cZ a mb mg mx mf) H → va_D A (cMd cI cJ cZ a mb mg mx mf) → va_S A s.heap H locs → lv_has ls 4 [(0, .ref (a 0)), (2, .int x2_71)] → W p l e { frames := 3, cells := 0, slots := 0, locals := 64 } s m args below meth c H locs 0 0 (KZ below args s (dC, dI) classes (some (.int res)) (cMd cI cJ cZ a mb mg mx mf) A) (F0 m 71 ls [.int z0_71, .int z1_71]) := by
    intro z0_71 z1_71 x2_71 H locs ls h hP hD hS hl
    refine lv_iconst (v := 2) hx hb d_Md_mayPut_71 (by decide) ?_
    obtain ⟨y72, hy, h⟩ := o_bd h
    refine kdS (nn := 24) (rest := []) (w' := (cMd cI cJ cZ a mb mg mx mf)) (wr := (cMd cI cJ cZ a mb mg mx mf)) (st1 := [.int y72]) ⟨hx, hb, hml, hown, hts⟩ (c_Md_isIn l dC dI cI cJ cZ a z1_71 z0_71 (2 : Int32) y72 hy) (va_cwS 3 hts (gd_S tw806 tw807 tw9 tw808) rfl rfl rfl hd_Md_isIn.2 ⟨Nat.le_of_ble_eq_true rfl, Nat.le_of_ble_eq_true rfl⟩) hNw hK hP hD hS hA [] [0, 1, 2, 3, 4, 5, 6, 7, 8, 9, 10, 11, 12, 13, 14, 15, 16, 17, 18, 19, 20, 21, 22, 23] rfl rfl rfl rfl rfl (by decide +kernel) (by decide +kernel) rfl hl.1 rfl (Nat.le_of_ble_eq_true rfl) rfl d_Md_mayPut_72 ⟨Nat.zero_le _, Nat.zero_le _⟩ (fun H locs hP hD hS => ?_)
    refine lv_if_eq (tgt := 94) hx hb d_Md_mayPut_75 (by decide) (fun hc => ?_) (fun hc => ?_)
    · have h := o_t hc h
      refine lv_iconst (v := 0) hx hb d_Md_mayPut_94 (by decide) ?_
      cases h
      exact kr_z hx hb hr (by decide) hlocks hP hD hS d_Md_mayPut_95
    · have h := o_f hc h
      refine lv_iload_n hx hb d_Md_mayPut_78 rfl (lv_at hl 1 rfl) ?_
      refine lv_iconst (v := 2) hx hb d_Md_mayPut_79 (by decide) ?_
      refine lv_icmp_ne (tgt := 90) hx hb d_Md_mayPut_80 (by decide) (fun hc => ?_) (fun hc => ?_)
      · have h := o_f hc h
        refine lv_iconst (v := 1) hx hb d_Md_mayPut_90 (by decide) ?_
        refine lv_goto (tgt := 95) hx hb d_Md_mayPut_91 (by decide) ?_
        cases h
        exact kr_z hx hb hr (by decide) hlocks hP hD hS d_Md_mayPut_95
      · have h := o_t hc h
        refine lv_aload_n hx hb d_Md_mayPut_83 rfl (lv_at hl 0 rfl) ?_
        obtain ⟨y84, hy, h⟩ := o_bd h
        refine kdV (nn := 24) (rest := []) (w' := (cMd cI cJ cZ a mb mg mx mf)) (wr := ([] : va_W)) (st1 := [.int y84]) ⟨hx, hb, hml, hown, hts⟩ (c_Md_hasDefault l dC dI cI cJ cZ a N mb mg mx mf y84 hy) (cwV 0 hts (gd_V tw853 tw855 ps25 tw9 tw856) rfl rfl rfl hd_Md_hasDefault ⟨Nat.le_of_ble_eq_true rfl, Nat.le_of_ble_eq_true rfl⟩) hNw hK hP hD hS hA (ci := 7) rfl rfl rfl [0, 1, 2, 3, 4, 5, 6, 7, 8, 9, 10, 11, 12, 13, 14, 15, 16, 17, 18, 19, 20, 21, 22, 23] [] rfl rfl rfl rfl rfl (by decide +kernel) (by decide +kernel) rfl hl.1 rfl (Nat.le_of_ble_eq_true rfl) rfl d_Md_mayPut_84 ⟨Nat.zero_le _, Nat.zero_le _⟩ (fun H locs hP hD hS => ?_)
        refine lv_if_ne (tgt := 94) hx hb d_Md_mayPut_87 (by decide) (fun hc => ?_) (fun hc => ?_)
        · have h := o_f hc h
          refine lv_iconst (v := 0) hx hb d_Md_mayPut_94 (by decide) ?_
          cases h
          exact kr_z hx hb hr (by decide) hlocks hP hD hS d_Md_mayPut_95
        · have h := o_t hc h
          refine lv_iconst (v := 1) hx hb d_Md_mayPut_90 (by decide) ?_
          refine lv_goto (tgt := 95) hx hb d_Md_mayPut_91 (by decide) ?_
          cases h
          exact kr_z hx hb hr (by decide) hlocks hP hD hS d_Md_mayPut_95
  have B121 : ∀ (x2_121 : Int32) (H : Heap) (locs : List Loc) (ls : Array Slot), f_Md_mayPut_b121 N x2_121 mb = some res → va_P (dC, dI) classes (cMd cI cJ cZ a mb mg mx mf) H → va_D A (cMd cI cJ cZ a mb mg mx mf) → va_S A s.heap H locs → lv_has ls 4 [(0, .ref (a 0)), (2, .int x2_121)] → W p l e { frames := 3, cells := 0, slots := 0, locals := 64 } s m args below meth c H locs 0 0 (KZ below args s (dC, dI) classes (some (.int res)) (cMd cI cJ cZ a mb mg mx mf) A) (F0 m 121 ls []) := by
    intro x2_121 H locs ls h hP hD hS hl
    refine lv_iload_n hx hb d_Md_mayPut_121 rfl (lv_at hl 1 rfl) ?_
    refine lv_iconst (v := 2) hx hb d_Md_mayPut_122 (by decide) ?_
    refine lv_icmp_ne (tgt := 133) hx hb d_Md_mayPut_123 (by decide) (fun hc => ?_) (fun hc => ?_)
    · have h := o_f hc h
      refine lv_iconst (v := 1) hx hb d_Md_mayPut_133 (by decide) ?_
      refine lv_goto (tgt := 138) hx hb d_Md_mayPut_134 (by decide) ?_
      cases h
      exact kr_z hx hb hr (by decide) hlocks hP hD hS d_Md_mayPut_138
    · have h := o_t hc h
      refine lv_aload_n hx hb d_Md_mayPut_126 rfl (lv_at hl 0 rfl) ?_
      obtain ⟨y127, hy, h⟩ := o_bd h
      refine kdV (nn := 24) (rest := []) (w' := (cMd cI cJ cZ a mb mg mx mf)) (wr := ([] : va_W)) (st1 := [.int y127]) ⟨hx, hb, hml, hown, hts⟩ (c_Md_hasDefault l dC dI cI cJ cZ a N mb mg mx mf y127 hy) (cwV 0 hts (gd_V tw853 tw855 ps25 tw9 tw856) rfl rfl rfl hd_Md_hasDefault ⟨Nat.le_of_ble_eq_true rfl, Nat.le_of_ble_eq_true rfl⟩) hNw hK hP hD hS hA (ci := 7) rfl rfl rfl [0, 1, 2, 3, 4, 5, 6, 7, 8, 9, 10, 11, 12, 13, 14, 15, 16, 17, 18, 19, 20, 21, 22, 23] [] rfl rfl rfl rfl rfl (by decide +kernel) (by decide +kernel) rfl hl.1 rfl (Nat.le_of_ble_eq_true rfl) rfl d_Md_mayPut_127 ⟨Nat.zero_le _, Nat.zero_le _⟩ (fun H locs hP hD hS => ?_)
      refine lv_if_ne (tgt := 137) hx hb d_Md_mayPut_130 (by decide) (fun hc => ?_) (fun hc => ?_)
      · have h := o_f hc h
        refine lv_iconst (v := 0) hx hb d_Md_mayPut_137 (by decide) ?_
        cases h
        exact kr_z hx hb hr (by decide) hlocks hP hD hS d_Md_mayPut_138
      · have h := o_t hc h
        refine lv_iconst (v := 1) hx hb d_Md_mayPut_133 (by decide) ?_
        refine lv_goto (tgt := 138) hx hb d_Md_mayPut_134 (by decide) ?_
        cases h
        exact kr_z hx hb hr (by decide) hlocks hP hD hS d_Md_mayPut_138
  refine lv_aload_n hx hb d_Md_mayPut_0 rfl (lv_at hl 0 rfl) ?_
  refine lv_iload_n hx hb d_Md_mayPut_1 rfl (lv_at hl 1 rfl) ?_
  obtain ⟨y2, hy, h⟩ := o_bd h
  refine kdV (nn := 24) (rest := []) (w' := (cMd cI cJ cZ a mb mg mx mf)) (wr := ([] : va_W)) (st1 := [.int y2]) ⟨hx, hb, hml, hown, hts⟩ (c_Md_isFree l dC dI cI cJ cZ a x1 mb mg mx mf y2 hy) (cwV 1 hts (gd_V tw817 tw819 ps20 tw9 tw820) rfl rfl rfl hd_Md_isFree ⟨Nat.le_of_ble_eq_true rfl, Nat.le_of_ble_eq_true rfl⟩) hNw hK hP hD hS hA (ci := 7) rfl rfl rfl [0, 1, 2, 3, 4, 5, 6, 7, 8, 9, 10, 11, 12, 13, 14, 15, 16, 17, 18, 19, 20, 21, 22, 23] [] rfl rfl rfl rfl rfl (by decide +kernel) (by decide +kernel) rfl hl.1 rfl (Nat.le_of_ble_eq_true rfl) rfl d_Md_mayPut_2 ⟨Nat.zero_le _, Nat.zero_le _⟩ (fun H locs hP hD hS => ?_)
  refine lv_if_ne (tgt := 10) hx hb d_Md_mayPut_5 (by decide) (fun hc => ?_) (fun hc => ?_)
  · have h := o_f hc h
    refine lv_aload_n hx hb d_Md_mayPut_10 rfl (lv_at hl 0 rfl) ?_
    refine va_get (D := (dC, dI)) (ci := 7) (v := .ref (a 2)) (C := R_Md) (T := F_Md) (N := 35) hx hb hts inb_Md hown hK hP 0 rfl rfl 3 (by decide) (hts _ tw690) (fun _ h9 => h9) rfl d_Md_mayPut_11 ?_
    refine lv_iload_n hx hb d_Md_mayPut_14 rfl (lv_at hl 1 rfl) ?_
    obtain ⟨hin, h⟩ := o_in h
    refine va_iald hx hb hK hP 2 0 rfl rfl hin d_Md_mayPut_15 ?_
    refine lv_istore_n (lv' := [(3, .int ((Mb_sort mb) x1.toNatClampNeg)), (0, .ref (a 0)), (1, .int x1), (2, .int x2)]) hx hb d_Md_mayPut_16 rfl hl (by decide) rfl (fun ls hl => ?_)
    refine lv_aload_n hx hb d_Md_mayPut_17 rfl (lv_at hl 1 rfl) ?_
    refine va_get (D := (dC, dI)) (ci := 7) (v := .int (Mb_rowKind mb)) (C := R_Md) (T := F_Md) (N := 35) hx hb hts inb_Md hown hK hP 0 rfl rfl 14 (by decide) (hts _ tw701) (fun _ h9 => h9) rfl d_Md_mayPut_18 ?_
    refine sw_by (x := (Mb_rowKind mb)) (k := 0) (fun hc => ?_) (fun hn0 => ?_)
    · have h := o_t hc h
      refine sw_in (x := (Mb_rowKind mb)) (k := 0) hc (lv_tableIn (tgt := 48) hx hb d_Md_mayPut_21 (by decide) (by decide) (by rfl) (by decide) ?_)
      refine lv_iload_n hx hb d_Md_mayPut_48 rfl (lv_at hl 3 rfl) ?_
      refine lv_if_ne (tgt := 56) hx hb d_Md_mayPut_49 (by decide) (fun hc => ?_) (fun hc => ?_)
      · have h := o_f hc h
        refine lv_iconst (v := 0) hx hb d_Md_mayPut_56 (by decide) ?_
        cases h
        exact kr_z hx hb hr (by decide) hlocks hP hD hS d_Md_mayPut_57
      · have h := o_t hc h
        refine lv_iconst (v := 1) hx hb d_Md_mayPut_52 (by decide) ?_
        refine lv_goto (tgt := 57) hx hb d_Md_mayPut_53 (by decide) ?_
        cases h
        exact kr_z hx hb hr (by decide) hlocks hP hD hS d_Md_mayPut_57
    · have h := o_f hn0 h
      refine sw_by (x := (Mb_rowKind mb)) (k := 1) (fun hc => ?_) (fun hn1 => ?_)
      · have h := o_t hc h
        refine sw_in (x := (Mb_rowKind mb)) (k := 1) hc (lv_tableIn (tgt := 58) hx hb d_Md_mayPut_21 (by decide) (by decide) (by rfl) (by decide) ?_)
        refine lv_iload_n hx hb d_Md_mayPut_58 rfl (lv_at hl 3 rfl) ?_
        refine lv_aload_n hx hb d_Md_mayPut_59 rfl (lv_at hl 1 rfl) ?_
        refine va_get (D := (dC, dI)) (ci := 7) (v := .int (Mb_rowCount mb)) (C := R_Md) (T := F_Md) (N := 35) hx hb hts inb_Md hown hK hP 0 rfl rfl 17 (by decide) (hts _ tw704) (fun _ h9 => h9) rfl d_Md_mayPut_60 ?_
        refine lv_if_ne (tgt := 70) hx hb d_Md_mayPut_63 (by decide) (fun hc => ?_) (fun hc => ?_)
        · have h := o_f hc h
          refine lv_iconst (v := 0) hx hb d_Md_mayPut_70 (by decide) ?_
          exact B71 (0 : Int32) x2 x2 _ _ _ h hP hD hS (lv_sub hl [1, 3] rfl)
        · have h := o_t hc h
          refine lv_iconst (v := 1) hx hb d_Md_mayPut_66 (by decide) ?_
          refine lv_goto (tgt := 71) hx hb d_Md_mayPut_67 (by decide) ?_
          exact B71 (1 : Int32) x2 x2 _ _ _ h hP hD hS (lv_sub hl [1, 3] rfl)
      · have h := o_f hn1 h
        refine sw_by (x := (Mb_rowKind mb)) (k := 2) (fun hc => ?_) (fun hn2 => ?_)
        · have h := o_t hc h
          refine sw_in (x := (Mb_rowKind mb)) (k := 2) hc (lv_tableIn (tgt := 96) hx hb d_Md_mayPut_21 (by decide) (by decide) (by rfl) (by decide) ?_)
          refine lv_iload_n hx hb d_Md_mayPut_96 rfl (lv_at hl 3 rfl) ?_
          refine lv_iconst (v := 1) hx hb d_Md_mayPut_97 (by decide) ?_
          refine lv_iconst (v := 2) hx hb d_Md_mayPut_98 (by decide) ?_
          obtain ⟨y99, hy, h⟩ := o_bd h
          refine kdS (nn := 24) (rest := []) (w' := (cMd cI cJ cZ a mb mg mx mf)) (wr := (cMd cI cJ cZ a mb mg mx mf)) (st1 := [.int y99]) ⟨hx, hb, hml, hown, hts⟩ (c_Md_isIn l dC dI cI cJ cZ a x2 (1 : Int32) (2 : Int32) y99 hy) (va_cwS 3 hts (gd_S tw806 tw807 tw9 tw808) rfl rfl rfl hd_Md_isIn.2 ⟨Nat.le_of_ble_eq_true rfl, Nat.le_of_ble_eq_true rfl⟩) hNw hK hP hD hS hA [] [0, 1, 2, 3, 4, 5, 6, 7, 8, 9, 10, 11, 12, 13, 14, 15, 16, 17, 18, 19, 20, 21, 22, 23] rfl rfl rfl rfl rfl (by decide +kernel) (by decide +kernel) rfl hl.1 rfl (Nat.le_of_ble_eq_true rfl) rfl d_Md_mayPut_99 ⟨Nat.zero_le _, Nat.zero_le _⟩ (fun H locs hP hD hS => ?_)
          refine lv_if_eq (tgt := 137) hx hb d_Md_mayPut_102 (by decide) (fun hc => ?_) (fun hc => ?_)
          · have h := o_t hc h
            refine lv_iconst (v := 0) hx hb d_Md_mayPut_137 (by decide) ?_
            cases h
            exact kr_z hx hb hr (by decide) hlocks hP hD hS d_Md_mayPut_138
          · have h := o_f hc h
            refine lv_iload_n hx hb d_Md_mayPut_105 rfl (lv_at hl 0 rfl) ?_
            refine lv_bipush (v := 13) hx hb d_Md_mayPut_106 (by decide) ?_
            refine lv_icmp_eq (tgt := 121) hx hb d_Md_mayPut_108 (by decide) (fun hc => ?_) (fun hc => ?_)
            · have h := o_t hc h
              exact B121 x2 _ _ _ h hP hD hS (lv_sub hl [1, 3] rfl)
            · have h := o_f hc h
              refine lv_iload_n hx hb d_Md_mayPut_111 rfl (lv_at hl 0 rfl) ?_
              refine lv_iconst (v := 1) hx hb d_Md_mayPut_112 (by decide) ?_
              refine lv_icmp_eq (tgt := 121) hx hb d_Md_mayPut_113 (by decide) (fun hc => ?_) (fun hc => ?_)
              · have h := o_t hc h
                exact B121 x2 _ _ _ h hP hD hS (lv_sub hl [1, 3] rfl)
              · have h := o_f hc h
                refine lv_iload_n hx hb d_Md_mayPut_116 rfl (lv_at hl 0 rfl) ?_
                refine lv_iconst (v := 2) hx hb d_Md_mayPut_117 (by decide) ?_
                refine lv_icmp_ne (tgt := 137) hx hb d_Md_mayPut_118 (by decide) (fun hc => ?_) (fun hc => ?_)
                · have h := o_f hc h
                  refine lv_iconst (v := 0) hx hb d_Md_mayPut_137 (by decide) ?_
                  cases h
                  exact kr_z hx hb hr (by decide) hlocks hP hD hS d_Md_mayPut_138
                · have h := o_t hc h
                  exact B121 x2 _ _ _ h hP hD hS (lv_sub hl [1, 3] rfl)
        · have h := o_f hn2 h
          refine lv_tableOut (tgt := 139) hx hb d_Md_mayPut_21 (by have g0 := sw_ne hn0 (show (0 : Int32).toInt = 0 by decide); have g1 := sw_ne hn1 (show (1 : Int32).toInt = 1 by decide); have g2 := sw_ne hn2 (show (2 : Int32).toInt = 2 by decide); omega) (by decide) ?_
          refine lv_iload_n hx hb d_Md_mayPut_139 rfl (lv_at hl 0 rfl) ?_
          refine lv_bipush (v := 13) hx hb d_Md_mayPut_140 (by decide) ?_
          refine lv_icmp_ne (tgt := 172) hx hb d_Md_mayPut_142 (by decide) (fun hc => ?_) (fun hc => ?_)
          · have h := o_f hc h
            refine lv_iconst (v := 0) hx hb d_Md_mayPut_172 (by decide) ?_
            cases h
            exact kr_z hx hb hr (by decide) hlocks hP hD hS d_Md_mayPut_173
          · have h := o_t hc h
            refine lv_aload_n hx hb d_Md_mayPut_145 rfl (lv_at hl 1 rfl) ?_
            refine va_get (D := (dC, dI)) (ci := 7) (v := .int (Mb_rowCount mb)) (C := R_Md) (T := F_Md) (N := 35) hx hb hts inb_Md hown hK hP 0 rfl rfl 17 (by decide) (hts _ tw704) (fun _ h9 => h9) rfl d_Md_mayPut_146 ?_
            refine lv_if_ne (tgt := 160) hx hb d_Md_mayPut_149 (by decide) (fun hc => ?_) (fun hc => ?_)
            · have h := o_f hc h
              refine lv_aload_n hx hb d_Md_mayPut_160 rfl (lv_at hl 1 rfl) ?_
              refine lv_iload_n hx hb d_Md_mayPut_161 rfl (lv_at hl 3 rfl) ?_
              obtain ⟨y162, hy, h⟩ := o_bd h
              refine kdV (nn := 24) (rest := []) (w' := (cMd cI cJ cZ a mb mg mx mf)) (wr := ([] : va_W)) (st1 := [.int y162]) ⟨hx, hb, hml, hown, hts⟩ (c_Md_isKind l dC dI cI cJ cZ a x2 mb mg mx mf y162 hy) (cwV 1 hts (gd_V tw802 tw804 ps18 tw9 tw805) rfl rfl rfl hd_Md_isKind ⟨Nat.le_of_ble_eq_true rfl, Nat.le_of_ble_eq_true rfl⟩) hNw hK hP hD hS hA (ci := 7) rfl rfl rfl [0, 1, 2, 3, 4, 5, 6, 7, 8, 9, 10, 11, 12, 13, 14, 15, 16, 17, 18, 19, 20, 21, 22, 23] [] rfl rfl rfl rfl rfl (by decide +kernel) (by decide +kernel) rfl hl.1 rfl (Nat.le_of_ble_eq_true rfl) rfl d_Md_mayPut_162 ⟨Nat.zero_le _, Nat.zero_le _⟩ (fun H locs hP hD hS => ?_)
              refine lv_if_eq (tgt := 172) hx hb d_Md_mayPut_165 (by decide) (fun hc => ?_) (fun hc => ?_)
              · have h := o_t hc h
                refine lv_iconst (v := 0) hx hb d_Md_mayPut_172 (by decide) ?_
                cases h
                exact kr_z hx hb hr (by decide) hlocks hP hD hS d_Md_mayPut_173
              · have h := o_f hc h
                refine lv_iconst (v := 1) hx hb d_Md_mayPut_168 (by decide) ?_
                refine lv_goto (tgt := 173) hx hb d_Md_mayPut_169 (by decide) ?_
                cases h
                exact kr_z hx hb hr (by decide) hlocks hP hD hS d_Md_mayPut_173
            · have h := o_t hc h
              refine lv_iload_n hx hb d_Md_mayPut_152 rfl (lv_at hl 3 rfl) ?_
              refine lv_iconst (v := -1) hx hb d_Md_mayPut_153 (by decide) ?_
              refine lv_icmp_ne (tgt := 172) hx hb d_Md_mayPut_154 (by decide) (fun hc => ?_) (fun hc => ?_)
              · have h := o_f hc h
                refine lv_iconst (v := 0) hx hb d_Md_mayPut_172 (by decide) ?_
                cases h
                exact kr_z hx hb hr (by decide) hlocks hP hD hS d_Md_mayPut_173
              · have h := o_t hc h
                refine lv_goto (tgt := 168) hx hb d_Md_mayPut_157 (by decide) ?_
                refine lv_iconst (v := 1) hx hb d_Md_mayPut_168 (by decide) ?_
                refine lv_goto (tgt := 173) hx hb d_Md_mayPut_169 (by decide) ?_
                cases h
                exact kr_z hx hb hr (by decide) hlocks hP hD hS d_Md_mayPut_173
  · have h := o_t hc h
    refine lv_iconst (v := 0) hx hb d_Md_mayPut_8 (by decide) ?_
    cases h
    exact kr_z hx hb hr (by decide) hlocks hP hD hS d_Md_mayPut_9
set_option maxHeartbeats 4000000 in
set_option maxRecDepth 100000 in
theorem c_Md_put (l : Launch) (dC : Nat → ClassId) (dI : Nat → Nat → Nat) (cI cJ cZ : ClassId) (a : Nat → Nat) (N : Nat) (x1 : Int32) (x2 : Int32) (mb : MbS) (mg : MgS) (mx : MxS) (mf : MfS) (res : Int32 × MbS) (h : f_Md_put N x1 x2 mb = some res) :
    Kt l (dC, dI) classes [(cI, .int), (cJ, .long), (cZ, .boolean)] y_Md_put (wz y_Md_put b_Md_put 3 (some .int)) { frames := 4, cells := 0, slots := 0, locals := 87 } [.ref (a 0), .int x1, .int x2] (cMd cI cJ cZ a mb mg mx mf) (some (.int res.1)) (cMd cI cJ cZ a res.2 mg mx mf) := by
  refine Kt_of (cc := b_Md_put) (maxL := 3) (ret := (some .int)) (by decide) (Nat.le_of_ble_eq_true rfl) ?_
  intro p e s m args below meth c A ls hx hb hr hml hlocks hown hts hNw hK hP hD hA hS hl
  have hl : lv_has ls 3 [(0, .ref (a 0)), (1, .int x1), (2, .int x2)] := hl
  have hP : va_P (dC, dI) classes (cMd cI cJ cZ a mb mg mx mf) s.heap := hP
  have B81 : ∀ (x1_81 : Int32) (mb_81 : MbS) (H : Heap) (locs : List Loc) (ls : Array Slot), f_Md_put_b81 N x1_81 mb_81 = some res → va_P (dC, dI) classes (cMd cI cJ cZ a mb_81 mg mx mf) H → va_D A (cMd cI cJ cZ a mb_81 mg mx mf) → va_S A s.heap H locs → lv_has ls 3 [(0, .ref (a 0)), (1, .int x1_81)] → W p l e { frames := 4, cells := 0, slots := 0, locals := 87 } s m args below meth c H locs 0 0 (KZ below args s (dC, dI) classes (some (.int res.1)) (cMd cI cJ cZ a res.2 mg mx mf) A) (F0 m 81 ls []) := by
    intro x1_81 mb_81 H locs ls h hP hD hS hl
    refine lv_aload_n hx hb d_Md_put_81 rfl (lv_at hl 0 rfl) ?_
    refine lv_iload_n hx hb d_Md_put_82 rfl (lv_at hl 1 rfl) ?_
    refine va_put (D := (dC, dI)) (ci := 7) (v := .int x1_81) (ty := .int) (C := R_Md) (T := F_Md) (N := 35) hx hb hts inb_Md ft_Md ft_Md_ok n_Md hown hK hP hD hS 0 rfl rfl 16 (by decide) (hts _ tw703) (fun _ h9 => h9) rfl (by decide +kernel) rfl rfl (Nat.le_of_ble_eq_true rfl) d_Md_put_83 (fun H locs hP hD hS => ?_)
    have hP : va_P (dC, dI) classes (cMd cI cJ cZ a ((Mb_kinds mb_81), (Mb_above mb_81), (Mb_nodes mb_81), (Mb_sort mb_81), (Mb_given mb_81), (Mb_partOf mb_81), (Mb_mark mb_81), (Mb_first mb_81), (Mb_last mb_81), (Mb_next mb_81), (Mb_before mb_81), (Mb_hasEnding mb_81), (Mb_endMark mb_81), (Mb_inRow mb_81), (Mb_rowKind mb_81), (Mb_rowFirst mb_81), x1_81, (Mb_rowCount mb_81)) mg mx mf) H := hP
    have hD : va_D A (cMd cI cJ cZ a ((Mb_kinds mb_81), (Mb_above mb_81), (Mb_nodes mb_81), (Mb_sort mb_81), (Mb_given mb_81), (Mb_partOf mb_81), (Mb_mark mb_81), (Mb_first mb_81), (Mb_last mb_81), (Mb_next mb_81), (Mb_before mb_81), (Mb_hasEnding mb_81), (Mb_endMark mb_81), (Mb_inRow mb_81), (Mb_rowKind mb_81), (Mb_rowFirst mb_81), x1_81, (Mb_rowCount mb_81)) mg mx mf) := hD
    refine lv_aload_n hx hb d_Md_put_86 rfl (lv_at hl 0 rfl) ?_
    refine lv_dup hx hb d_Md_put_87 rfl ?_
    refine va_get (D := (dC, dI)) (ci := 7) (v := .int (Mb_rowCount mb_81)) (C := R_Md) (T := F_Md) (N := 35) hx hb hts inb_Md hown hK hP 0 rfl rfl 17 (by decide) (hts _ tw704) (fun _ h9 => h9) rfl d_Md_put_88 ?_
    refine lv_iconst (v := 1) hx hb d_Md_put_91 (by decide) ?_
    refine lv_iadd hx hb d_Md_put_92 ?_
    refine va_put (D := (dC, dI)) (ci := 7) (v := .int ((Mb_rowCount mb_81) + (1 : Int32))) (ty := .int) (C := R_Md) (T := F_Md) (N := 35) hx hb hts inb_Md ft_Md ft_Md_ok n_Md hown hK hP hD hS 0 rfl rfl 17 (by decide) (hts _ tw704) (fun _ h9 => h9) rfl (by decide +kernel) rfl rfl (Nat.le_of_ble_eq_true rfl) d_Md_put_93 (fun H locs hP hD hS => ?_)
    have hP : va_P (dC, dI) classes (cMd cI cJ cZ a ((Mb_kinds mb_81), (Mb_above mb_81), (Mb_nodes mb_81), (Mb_sort mb_81), (Mb_given mb_81), (Mb_partOf mb_81), (Mb_mark mb_81), (Mb_first mb_81), (Mb_last mb_81), (Mb_next mb_81), (Mb_before mb_81), (Mb_hasEnding mb_81), (Mb_endMark mb_81), (Mb_inRow mb_81), (Mb_rowKind mb_81), (Mb_rowFirst mb_81), x1_81, ((Mb_rowCount mb_81) + (1 : Int32))) mg mx mf) H := hP
    have hD : va_D A (cMd cI cJ cZ a ((Mb_kinds mb_81), (Mb_above mb_81), (Mb_nodes mb_81), (Mb_sort mb_81), (Mb_given mb_81), (Mb_partOf mb_81), (Mb_mark mb_81), (Mb_first mb_81), (Mb_last mb_81), (Mb_next mb_81), (Mb_before mb_81), (Mb_hasEnding mb_81), (Mb_endMark mb_81), (Mb_inRow mb_81), (Mb_rowKind mb_81), (Mb_rowFirst mb_81), x1_81, ((Mb_rowCount mb_81) + (1 : Int32))) mg mx mf) := hD
    refine lv_aload_n hx hb d_Md_put_96 rfl (lv_at hl 0 rfl) ?_
    refine va_get (D := (dC, dI)) (ci := 7) (v := .int ((Mb_rowCount mb_81) + (1 : Int32))) (C := R_Md) (T := F_Md) (N := 35) hx hb hts inb_Md hown hK hP 0 rfl rfl 17 (by decide) (hts _ tw704) (fun _ h9 => h9) rfl d_Md_put_97 ?_
    cases h
    exact kr_i hx hb hr hlocks hP hD hS d_Md_put_100
  have B47 : ∀ (z0_47 : Int32) (z1_47 : Int32) (x1_47 : Int32) (mb_47 : MbS) (H : Heap) (locs : List Loc) (ls : Array Slot), f_Md_put_b47 N z0_47 z1_47 x1_47 mb_47 = some res → va_P (dC, dI) classes (cMd cI cJ cZ a mb_47 mg mx mf) H → va_D A (cMd cI cJ cZ a mb_47 mg mx mf) → va_S A s.heap H locs → lv_has ls 3 [(0, .ref (a 0)), (1, .int x1_47)] → W p l e { frames := 4, cells := 0, slots := 0, locals := 87 } s m args below meth c H locs 0 0 (KZ below args s (dC, dI) classes (some (.int res.1)) (cMd cI cJ cZ a res.2 mg mx mf) A) (F0 m 47 ls [.int z0_47, .int z1_47, .ref (a 5)]) := by
    intro z0_47 z1_47 x1_47 mb_47 H locs ls h hP hD hS hl
    obtain ⟨hin, h⟩ := o_in h
    refine va_iast hx hb hK hP hD hS 5 0 rfl rfl hin d_Md_put_47 (fun H locs hP hD hS => ?_)
    have hP : va_P (dC, dI) classes (cMd cI cJ cZ a ((Mb_kinds mb_47), (Mb_above mb_47), (Mb_nodes mb_47), (Mb_sort mb_47), (Mb_given mb_47), (Mb_partOf mb_47), (upd (Mb_mark mb_47) z1_47.toNatClampNeg z0_47), (Mb_first mb_47), (Mb_last mb_47), (Mb_next mb_47), (Mb_before mb_47), (Mb_hasEnding mb_47), (Mb_endMark mb_47), (Mb_inRow mb_47), (Mb_rowKind mb_47), (Mb_rowFirst mb_47), (Mb_rowLast mb_47), (Mb_rowCount mb_47)) mg mx mf) H := hP
    have hD : va_D A (cMd cI cJ cZ a ((Mb_kinds mb_47), (Mb_above mb_47), (Mb_nodes mb_47), (Mb_sort mb_47), (Mb_given mb_47), (Mb_partOf mb_47), (upd (Mb_mark mb_47) z1_47.toNatClampNeg z0_47), (Mb_first mb_47), (Mb_last mb_47), (Mb_next mb_47), (Mb_before mb_47), (Mb_hasEnding mb_47), (Mb_endMark mb_47), (Mb_inRow mb_47), (Mb_rowKind mb_47), (Mb_rowFirst mb_47), (Mb_rowLast mb_47), (Mb_rowCount mb_47)) mg mx mf) := hD
    refine lv_aload_n hx hb d_Md_put_48 rfl (lv_at hl 0 rfl) ?_
    refine va_get (D := (dC, dI)) (ci := 7) (v := .ref (a 8)) (C := R_Md) (T := F_Md) (N := 35) hx hb hts inb_Md hown hK hP 0 rfl rfl 9 (by decide) (hts _ tw696) (fun _ h9 => h9) rfl d_Md_put_49 ?_
    refine lv_iload_n hx hb d_Md_put_52 rfl (lv_at hl 1 rfl) ?_
    refine lv_iconst (v := -1) hx hb d_Md_put_53 (by decide) ?_
    obtain ⟨hin, h⟩ := o_in h
    refine va_iast hx hb hK hP hD hS 8 0 rfl rfl hin d_Md_put_54 (fun H locs hP hD hS => ?_)
    have hP : va_P (dC, dI) classes (cMd cI cJ cZ a ((Mb_kinds mb_47), (Mb_above mb_47), (Mb_nodes mb_47), (Mb_sort mb_47), (Mb_given mb_47), (Mb_partOf mb_47), (upd (Mb_mark mb_47) z1_47.toNatClampNeg z0_47), (Mb_first mb_47), (Mb_last mb_47), (upd (Mb_next mb_47) x1_47.toNatClampNeg (-1 : Int32)), (Mb_before mb_47), (Mb_hasEnding mb_47), (Mb_endMark mb_47), (Mb_inRow mb_47), (Mb_rowKind mb_47), (Mb_rowFirst mb_47), (Mb_rowLast mb_47), (Mb_rowCount mb_47)) mg mx mf) H := hP
    have hD : va_D A (cMd cI cJ cZ a ((Mb_kinds mb_47), (Mb_above mb_47), (Mb_nodes mb_47), (Mb_sort mb_47), (Mb_given mb_47), (Mb_partOf mb_47), (upd (Mb_mark mb_47) z1_47.toNatClampNeg z0_47), (Mb_first mb_47), (Mb_last mb_47), (upd (Mb_next mb_47) x1_47.toNatClampNeg (-1 : Int32)), (Mb_before mb_47), (Mb_hasEnding mb_47), (Mb_endMark mb_47), (Mb_inRow mb_47), (Mb_rowKind mb_47), (Mb_rowFirst mb_47), (Mb_rowLast mb_47), (Mb_rowCount mb_47)) mg mx mf) := hD
    refine lv_aload_n hx hb d_Md_put_55 rfl (lv_at hl 0 rfl) ?_
    refine va_get (D := (dC, dI)) (ci := 7) (v := .int (Mb_rowLast mb_47)) (C := R_Md) (T := F_Md) (N := 35) hx hb hts inb_Md hown hK hP 0 rfl rfl 16 (by decide) (hts _ tw703) (fun _ h9 => h9) rfl d_Md_put_56 ?_
    refine lv_iconst (v := -1) hx hb d_Md_put_59 (by decide) ?_
    refine lv_icmp_ne (tgt := 71) hx hb d_Md_put_60 (by decide) (fun hc => ?_) (fun hc => ?_)
    · have h := o_f hc h
      refine lv_aload_n hx hb d_Md_put_71 rfl (lv_at hl 0 rfl) ?_
      refine va_get (D := (dC, dI)) (ci := 7) (v := .ref (a 8)) (C := R_Md) (T := F_Md) (N := 35) hx hb hts inb_Md hown hK hP 0 rfl rfl 9 (by decide) (hts _ tw696) (fun _ h9 => h9) rfl d_Md_put_72 ?_
      refine lv_aload_n hx hb d_Md_put_75 rfl (lv_at hl 0 rfl) ?_
      refine va_get (D := (dC, dI)) (ci := 7) (v := .int (Mb_rowLast mb_47)) (C := R_Md) (T := F_Md) (N := 35) hx hb hts inb_Md hown hK hP 0 rfl rfl 16 (by decide) (hts _ tw703) (fun _ h9 => h9) rfl d_Md_put_76 ?_
      refine lv_iload_n hx hb d_Md_put_79 rfl (lv_at hl 1 rfl) ?_
      obtain ⟨hin, h⟩ := o_in h
      refine va_iast hx hb hK hP hD hS 8 0 rfl rfl hin d_Md_put_80 (fun H locs hP hD hS => ?_)
      have hP : va_P (dC, dI) classes (cMd cI cJ cZ a ((Mb_kinds mb_47), (Mb_above mb_47), (Mb_nodes mb_47), (Mb_sort mb_47), (Mb_given mb_47), (Mb_partOf mb_47), (upd (Mb_mark mb_47) z1_47.toNatClampNeg z0_47), (Mb_first mb_47), (Mb_last mb_47), (upd (upd (Mb_next mb_47) x1_47.toNatClampNeg (-1 : Int32)) (Mb_rowLast mb_47).toNatClampNeg x1_47), (Mb_before mb_47), (Mb_hasEnding mb_47), (Mb_endMark mb_47), (Mb_inRow mb_47), (Mb_rowKind mb_47), (Mb_rowFirst mb_47), (Mb_rowLast mb_47), (Mb_rowCount mb_47)) mg mx mf) H := hP
      have hD : va_D A (cMd cI cJ cZ a ((Mb_kinds mb_47), (Mb_above mb_47), (Mb_nodes mb_47), (Mb_sort mb_47), (Mb_given mb_47), (Mb_partOf mb_47), (upd (Mb_mark mb_47) z1_47.toNatClampNeg z0_47), (Mb_first mb_47), (Mb_last mb_47), (upd (upd (Mb_next mb_47) x1_47.toNatClampNeg (-1 : Int32)) (Mb_rowLast mb_47).toNatClampNeg x1_47), (Mb_before mb_47), (Mb_hasEnding mb_47), (Mb_endMark mb_47), (Mb_inRow mb_47), (Mb_rowKind mb_47), (Mb_rowFirst mb_47), (Mb_rowLast mb_47), (Mb_rowCount mb_47)) mg mx mf) := hD
      exact B81 x1_47 ((Mb_kinds mb_47), (Mb_above mb_47), (Mb_nodes mb_47), (Mb_sort mb_47), (Mb_given mb_47), (Mb_partOf mb_47), (upd (Mb_mark mb_47) z1_47.toNatClampNeg z0_47), (Mb_first mb_47), (Mb_last mb_47), (upd (upd (Mb_next mb_47) x1_47.toNatClampNeg (-1 : Int32)) (Mb_rowLast mb_47).toNatClampNeg x1_47), (Mb_before mb_47), (Mb_hasEnding mb_47), (Mb_endMark mb_47), (Mb_inRow mb_47), (Mb_rowKind mb_47), (Mb_rowFirst mb_47), (Mb_rowLast mb_47), (Mb_rowCount mb_47)) _ _ _ h hP hD hS (lv_sub hl [0, 1] rfl)
    · have h := o_t hc h
      refine lv_aload_n hx hb d_Md_put_63 rfl (lv_at hl 0 rfl) ?_
      refine lv_iload_n hx hb d_Md_put_64 rfl (lv_at hl 1 rfl) ?_
      refine va_put (D := (dC, dI)) (ci := 7) (v := .int x1_47) (ty := .int) (C := R_Md) (T := F_Md) (N := 35) hx hb hts inb_Md ft_Md ft_Md_ok n_Md hown hK hP hD hS 0 rfl rfl 15 (by decide) (hts _ tw702) (fun _ h9 => h9) rfl (by decide +kernel) rfl rfl (Nat.le_of_ble_eq_true rfl) d_Md_put_65 (fun H locs hP hD hS => ?_)
      have hP : va_P (dC, dI) classes (cMd cI cJ cZ a ((Mb_kinds mb_47), (Mb_above mb_47), (Mb_nodes mb_47), (Mb_sort mb_47), (Mb_given mb_47), (Mb_partOf mb_47), (upd (Mb_mark mb_47) z1_47.toNatClampNeg z0_47), (Mb_first mb_47), (Mb_last mb_47), (upd (Mb_next mb_47) x1_47.toNatClampNeg (-1 : Int32)), (Mb_before mb_47), (Mb_hasEnding mb_47), (Mb_endMark mb_47), (Mb_inRow mb_47), (Mb_rowKind mb_47), x1_47, (Mb_rowLast mb_47), (Mb_rowCount mb_47)) mg mx mf) H := hP
      have hD : va_D A (cMd cI cJ cZ a ((Mb_kinds mb_47), (Mb_above mb_47), (Mb_nodes mb_47), (Mb_sort mb_47), (Mb_given mb_47), (Mb_partOf mb_47), (upd (Mb_mark mb_47) z1_47.toNatClampNeg z0_47), (Mb_first mb_47), (Mb_last mb_47), (upd (Mb_next mb_47) x1_47.toNatClampNeg (-1 : Int32)), (Mb_before mb_47), (Mb_hasEnding mb_47), (Mb_endMark mb_47), (Mb_inRow mb_47), (Mb_rowKind mb_47), x1_47, (Mb_rowLast mb_47), (Mb_rowCount mb_47)) mg mx mf) := hD
      refine lv_goto (tgt := 81) hx hb d_Md_put_68 (by decide) ?_
      exact B81 x1_47 ((Mb_kinds mb_47), (Mb_above mb_47), (Mb_nodes mb_47), (Mb_sort mb_47), (Mb_given mb_47), (Mb_partOf mb_47), (upd (Mb_mark mb_47) z1_47.toNatClampNeg z0_47), (Mb_first mb_47), (Mb_last mb_47), (upd (Mb_next mb_47) x1_47.toNatClampNeg (-1 : Int32)), (Mb_before mb_47), (Mb_hasEnding mb_47), (Mb_endMark mb_47), (Mb_inRow mb_47), (Mb_rowKind mb_47), x1_47, (Mb_rowLast mb_47), (Mb_rowCount mb_47)) _ _ _ h hP hD hS (lv_sub hl [0, 1] rfl)
  refine lv_aload_n hx hb d_Md_put_0 rfl (lv_at hl 0 rfl) ?_
  refine va_get (D := (dC, dI)) (ci := 7) (v := .int (Mb_rowKind mb)) (C := R_Md) (T := F_Md) (N := 35) hx hb hts inb_Md hown hK hP 0 rfl rfl 14 (by decide) (hts _ tw701) (fun _ h9 => h9) rfl d_Md_put_1 ?_
  refine lv_iconst (v := -1) hx hb d_Md_put_4 (by decide) ?_
  refine lv_icmp_ne (tgt := 11) hx hb d_Md_put_5 (by decide) (fun hc => ?_) (fun hc => ?_)
  · have h := o_f hc h
    refine lv_aload_n hx hb d_Md_put_11 rfl (lv_at hl 0 rfl) ?_
    refine lv_iload_n hx hb d_Md_put_12 rfl (lv_at hl 1 rfl) ?_
    refine lv_iload_n hx hb d_Md_put_13 rfl (lv_at hl 2 rfl) ?_
    obtain ⟨y14, hy, h⟩ := o_bd h
    refine kdV (nn := 24) (rest := []) (w' := (cMd cI cJ cZ a mb mg mx mf)) (wr := ([] : va_W)) (st1 := [.int y14]) ⟨hx, hb, hml, hown, hts⟩ (c_Md_mayPut l dC dI cI cJ cZ a N x1 x2 mb mg mx mf y14 hy) (cwV 2 hts (gd_V tw849 tw851 ps24 tw9 tw852) rfl rfl rfl hd_Md_mayPut ⟨Nat.le_of_ble_eq_true rfl, Nat.le_of_ble_eq_true rfl⟩) hNw hK hP hD hS hA (ci := 7) rfl rfl rfl [0, 1, 2, 3, 4, 5, 6, 7, 8, 9, 10, 11, 12, 13, 14, 15, 16, 17, 18, 19, 20, 21, 22, 23] [] rfl rfl rfl rfl rfl (by decide +kernel) (by decide +kernel) rfl hl.1 rfl (Nat.le_of_ble_eq_true rfl) rfl d_Md_put_14 ⟨Nat.zero_le _, Nat.zero_le _⟩ (fun H locs hP hD hS => ?_)
    refine lv_if_ne (tgt := 23) hx hb d_Md_put_17 (by decide) (fun hc => ?_) (fun hc => ?_)
    · have h := o_f hc h
      refine lv_aload_n hx hb d_Md_put_23 rfl (lv_at hl 0 rfl) ?_
      refine va_get (D := (dC, dI)) (ci := 7) (v := .ref (a 12)) (C := R_Md) (T := F_Md) (N := 35) hx hb hts inb_Md hown hK hP 0 rfl rfl 13 (by decide) (hts _ tw700) (fun _ h9 => h9) rfl d_Md_put_24 ?_
      refine lv_iload_n hx hb d_Md_put_27 rfl (lv_at hl 1 rfl) ?_
      refine lv_iconst (v := 1) hx hb d_Md_put_28 (by decide) ?_
      obtain ⟨hin, h⟩ := o_in h
      refine va_zast hx hb hK hP hD hS 12 2 rfl rfl hin d_Md_put_29 (fun H locs hP hD hS => ?_)
      have hP : va_P (dC, dI) classes (cMd cI cJ cZ a ((Mb_kinds mb), (Mb_above mb), (Mb_nodes mb), (Mb_sort mb), (Mb_given mb), (Mb_partOf mb), (Mb_mark mb), (Mb_first mb), (Mb_last mb), (Mb_next mb), (Mb_before mb), (Mb_hasEnding mb), (Mb_endMark mb), (upd (Mb_inRow mb) x1.toNatClampNeg (vp_nar .boolean (1 : Int32))), (Mb_rowKind mb), (Mb_rowFirst mb), (Mb_rowLast mb), (Mb_rowCount mb)) mg mx mf) H := hP
      have hD : va_D A (cMd cI cJ cZ a ((Mb_kinds mb), (Mb_above mb), (Mb_nodes mb), (Mb_sort mb), (Mb_given mb), (Mb_partOf mb), (Mb_mark mb), (Mb_first mb), (Mb_last mb), (Mb_next mb), (Mb_before mb), (Mb_hasEnding mb), (Mb_endMark mb), (upd (Mb_inRow mb) x1.toNatClampNeg (vp_nar .boolean (1 : Int32))), (Mb_rowKind mb), (Mb_rowFirst mb), (Mb_rowLast mb), (Mb_rowCount mb)) mg mx mf) := hD
      refine lv_aload_n hx hb d_Md_put_30 rfl (lv_at hl 0 rfl) ?_
      refine va_get (D := (dC, dI)) (ci := 7) (v := .ref (a 5)) (C := R_Md) (T := F_Md) (N := 35) hx hb hts inb_Md hown hK hP 0 rfl rfl 6 (by decide) (hts _ tw693) (fun _ h9 => h9) rfl d_Md_put_31 ?_
      refine lv_iload_n hx hb d_Md_put_34 rfl (lv_at hl 1 rfl) ?_
      refine lv_aload_n hx hb d_Md_put_35 rfl (lv_at hl 0 rfl) ?_
      refine va_get (D := (dC, dI)) (ci := 7) (v := .int (Mb_rowKind mb)) (C := R_Md) (T := F_Md) (N := 35) hx hb hts inb_Md hown hK hP 0 rfl rfl 14 (by decide) (hts _ tw701) (fun _ h9 => h9) rfl d_Md_put_36 ?_
      refine lv_if_ne (tgt := 46) hx hb d_Md_put_39 (by decide) (fun hc => ?_) (fun hc => ?_)
      · have h := o_f hc h
        refine lv_iload_n hx hb d_Md_put_46 rfl (lv_at hl 2 rfl) ?_
        exact B47 x2 x1 x1 ((Mb_kinds mb), (Mb_above mb), (Mb_nodes mb), (Mb_sort mb), (Mb_given mb), (Mb_partOf mb), (Mb_mark mb), (Mb_first mb), (Mb_last mb), (Mb_next mb), (Mb_before mb), (Mb_hasEnding mb), (Mb_endMark mb), (upd (Mb_inRow mb) x1.toNatClampNeg (vp_nar .boolean (1 : Int32))), (Mb_rowKind mb), (Mb_rowFirst mb), (Mb_rowLast mb), (Mb_rowCount mb)) _ _ _ h hP hD hS (lv_sub hl [0, 1] rfl)
      · have h := o_t hc h
        refine lv_iconst (v := -1) hx hb d_Md_put_42 (by decide) ?_
        refine lv_goto (tgt := 47) hx hb d_Md_put_43 (by decide) ?_
        exact B47 (-1 : Int32) x1 x1 ((Mb_kinds mb), (Mb_above mb), (Mb_nodes mb), (Mb_sort mb), (Mb_given mb), (Mb_partOf mb), (Mb_mark mb), (Mb_first mb), (Mb_last mb), (Mb_next mb), (Mb_before mb), (Mb_hasEnding mb), (Mb_endMark mb), (upd (Mb_inRow mb) x1.toNatClampNeg (vp_nar .boolean (1 : Int32))), (Mb_rowKind mb), (Mb_rowFirst mb), (Mb_rowLast mb), (Mb_rowCount mb)) _ _ _ h hP hD hS (lv_sub hl [0, 1] rfl)
    · have h := o_t hc h
      refine lv_bipush (v := -2) hx hb d_Md_put_20 (by decide) ?_
      cases h
      exact kr_i hx hb hr hlocks hP hD hS d_Md_put_22
  · have h := o_t hc h
    refine lv_bipush (v := -4) hx hb d_Md_put_8 (by decide) ?_
    cases h
    exact kr_i hx hb hr hlocks hP hD hS d_Md_put_10
set_option maxHeartbeats 4000000 in
set_option maxRecDepth 100000 in
theorem c_Md_mayEnd (l : Launch) (dC : Nat → ClassId) (dI : Nat → Nat → Nat) (cI cJ cZ : ClassId) (a : Nat → Nat) (N : Nat) (x1 : Int32) (mb : MbS) (mg : MgS) (mx : MxS) (mf : MfS) (res : Int32) (h : f_Md_mayEnd N x1 mb = some res) :
    Kt l (dC, dI) classes [(cI, .int), (cJ, .long), (cZ, .boolean)] y_Md_mayEnd (wz y_Md_mayEnd b_Md_mayEnd 2 (some .boolean)) { frames := 3, cells := 0, slots := 0, locals := 64 } [.ref (a 0), .int x1] (cMd cI cJ cZ a mb mg mx mf) (some (.int res)) (cMd cI cJ cZ a mb mg mx mf) := by
  refine Kt_of (cc := b_Md_mayEnd) (maxL := 2) (ret := (some .boolean)) (by decide) (Nat.le_of_ble_eq_true rfl) ?_
  intro p e s m args below meth c A ls hx hb hr hml hlocks hown hts hNw hK hP hD hA hS hl
  have hl : lv_has ls 2 [(0, .ref (a 0)), (1, .int x1)] := hl
  have hP : va_P (dC, dI) classes (cMd cI cJ cZ a mb mg mx mf) s.heap := hP
  refine lv_aload_n hx hb d_Md_mayEnd_0 rfl (lv_at hl 0 rfl) ?_
  refine va_get (D := (dC, dI)) (ci := 7) (v := .int (Mb_rowKind mb)) (C := R_Md) (T := F_Md) (N := 35) hx hb hts inb_Md hown hK hP 0 rfl rfl 14 (by decide) (hts _ tw701) (fun _ h9 => h9) rfl d_Md_mayEnd_1 ?_
  refine sw_by (x := (Mb_rowKind mb)) (k := 1) (fun hc => ?_) (fun hn0 => ?_)
  · have h := o_t hc h
    refine sw_in (x := (Mb_rowKind mb)) (k := 1) hc (lv_lookup (off := 28) (tgt := 32) hx hb d_Md_mayEnd_4 (by decide) (by decide) (by decide) ?_)
    refine lv_iload_n hx hb d_Md_mayEnd_32 rfl (lv_at hl 1 rfl) ?_
    refine lv_iconst (v := 0) hx hb d_Md_mayEnd_33 (by decide) ?_
    refine lv_iconst (v := 2) hx hb d_Md_mayEnd_34 (by decide) ?_
    obtain ⟨y35, hy, h⟩ := o_bd h
    refine kdS (nn := 24) (rest := []) (w' := (cMd cI cJ cZ a mb mg mx mf)) (wr := (cMd cI cJ cZ a mb mg mx mf)) (st1 := [.int y35]) ⟨hx, hb, hml, hown, hts⟩ (c_Md_isIn l dC dI cI cJ cZ a x1 (0 : Int32) (2 : Int32) y35 hy) (va_cwS 3 hts (gd_S tw806 tw807 tw9 tw808) rfl rfl rfl hd_Md_isIn.2 ⟨Nat.le_of_ble_eq_true rfl, Nat.le_of_ble_eq_true rfl⟩) hNw hK hP hD hS hA [] [0, 1, 2, 3, 4, 5, 6, 7, 8, 9, 10, 11, 12, 13, 14, 15, 16, 17, 18, 19, 20, 21, 22, 23] rfl rfl rfl rfl rfl (by decide +kernel) (by decide +kernel) rfl hl.1 rfl (Nat.le_of_ble_eq_true rfl) rfl d_Md_mayEnd_35 ⟨Nat.zero_le _, Nat.zero_le _⟩ (fun H locs hP hD hS => ?_)
    refine lv_if_eq (tgt := 57) hx hb d_Md_mayEnd_38 (by decide) (fun hc => ?_) (fun hc => ?_)
    · have h := o_t hc h
      refine lv_iconst (v := 0) hx hb d_Md_mayEnd_57 (by decide) ?_
      cases h
      exact kr_z hx hb hr (by decide) hlocks hP hD hS d_Md_mayEnd_58
    · have h := o_f hc h
      refine lv_iload_n hx hb d_Md_mayEnd_41 rfl (lv_at hl 1 rfl) ?_
      refine lv_iconst (v := 2) hx hb d_Md_mayEnd_42 (by decide) ?_
      refine lv_icmp_ne (tgt := 53) hx hb d_Md_mayEnd_43 (by decide) (fun hc => ?_) (fun hc => ?_)
      · have h := o_f hc h
        refine lv_iconst (v := 1) hx hb d_Md_mayEnd_53 (by decide) ?_
        refine lv_goto (tgt := 58) hx hb d_Md_mayEnd_54 (by decide) ?_
        cases h
        exact kr_z hx hb hr (by decide) hlocks hP hD hS d_Md_mayEnd_58
      · have h := o_t hc h
        refine lv_aload_n hx hb d_Md_mayEnd_46 rfl (lv_at hl 0 rfl) ?_
        obtain ⟨y47, hy, h⟩ := o_bd h
        refine kdV (nn := 24) (rest := []) (w' := (cMd cI cJ cZ a mb mg mx mf)) (wr := ([] : va_W)) (st1 := [.int y47]) ⟨hx, hb, hml, hown, hts⟩ (c_Md_hasDefault l dC dI cI cJ cZ a N mb mg mx mf y47 hy) (cwV 0 hts (gd_V tw853 tw855 ps25 tw9 tw856) rfl rfl rfl hd_Md_hasDefault ⟨Nat.le_of_ble_eq_true rfl, Nat.le_of_ble_eq_true rfl⟩) hNw hK hP hD hS hA (ci := 7) rfl rfl rfl [0, 1, 2, 3, 4, 5, 6, 7, 8, 9, 10, 11, 12, 13, 14, 15, 16, 17, 18, 19, 20, 21, 22, 23] [] rfl rfl rfl rfl rfl (by decide +kernel) (by decide +kernel) rfl hl.1 rfl (Nat.le_of_ble_eq_true rfl) rfl d_Md_mayEnd_47 ⟨Nat.zero_le _, Nat.zero_le _⟩ (fun H locs hP hD hS => ?_)
        refine lv_if_ne (tgt := 57) hx hb d_Md_mayEnd_50 (by decide) (fun hc => ?_) (fun hc => ?_)
        · have h := o_f hc h
          refine lv_iconst (v := 0) hx hb d_Md_mayEnd_57 (by decide) ?_
          cases h
          exact kr_z hx hb hr (by decide) hlocks hP hD hS d_Md_mayEnd_58
        · have h := o_t hc h
          refine lv_iconst (v := 1) hx hb d_Md_mayEnd_53 (by decide) ?_
          refine lv_goto (tgt := 58) hx hb d_Md_mayEnd_54 (by decide) ?_
          cases h
          exact kr_z hx hb hr (by decide) hlocks hP hD hS d_Md_mayEnd_58
  · have h := o_f hn0 h
    refine sw_by (x := (Mb_rowKind mb)) (k := 3) (fun hc => ?_) (fun hn1 => ?_)
    · have h := o_t hc h
      refine sw_in (x := (Mb_rowKind mb)) (k := 3) hc (lv_lookup (off := 55) (tgt := 59) hx hb d_Md_mayEnd_4 (by decide) (by decide) (by decide) ?_)
      refine lv_aload_n hx hb d_Md_mayEnd_59 rfl (lv_at hl 0 rfl) ?_
      refine va_get (D := (dC, dI)) (ci := 7) (v := .int (Mb_rowCount mb)) (C := R_Md) (T := F_Md) (N := 35) hx hb hts inb_Md hown hK hP 0 rfl rfl 17 (by decide) (hts _ tw704) (fun _ h9 => h9) rfl d_Md_mayEnd_60 ?_
      refine lv_if_le (tgt := 105) hx hb d_Md_mayEnd_63 (by decide) (fun hc => ?_) (fun hc => ?_)
      · have h := o_t hc h
        refine lv_iconst (v := 0) hx hb d_Md_mayEnd_105 (by decide) ?_
        cases h
        exact kr_z hx hb hr (by decide) hlocks hP hD hS d_Md_mayEnd_106
      · have h := o_f hc h
        refine lv_iload_n hx hb d_Md_mayEnd_66 rfl (lv_at hl 1 rfl) ?_
        refine lv_iconst (v := -1) hx hb d_Md_mayEnd_67 (by decide) ?_
        refine lv_icmp_ne (tgt := 82) hx hb d_Md_mayEnd_68 (by decide) (fun hc => ?_) (fun hc => ?_)
        · have h := o_f hc h
          refine lv_aload_n hx hb d_Md_mayEnd_82 rfl (lv_at hl 0 rfl) ?_
          refine lv_iload_n hx hb d_Md_mayEnd_83 rfl (lv_at hl 1 rfl) ?_
          obtain ⟨y84, hy, h⟩ := o_bd h
          refine kdV (nn := 24) (rest := []) (w' := (cMd cI cJ cZ a mb mg mx mf)) (wr := ([] : va_W)) (st1 := [.int y84]) ⟨hx, hb, hml, hown, hts⟩ (c_Md_isFree l dC dI cI cJ cZ a x1 mb mg mx mf y84 hy) (cwV 1 hts (gd_V tw817 tw819 ps20 tw9 tw820) rfl rfl rfl hd_Md_isFree ⟨Nat.le_of_ble_eq_true rfl, Nat.le_of_ble_eq_true rfl⟩) hNw hK hP hD hS hA (ci := 7) rfl rfl rfl [0, 1, 2, 3, 4, 5, 6, 7, 8, 9, 10, 11, 12, 13, 14, 15, 16, 17, 18, 19, 20, 21, 22, 23] [] rfl rfl rfl rfl rfl (by decide +kernel) (by decide +kernel) rfl hl.1 rfl (Nat.le_of_ble_eq_true rfl) rfl d_Md_mayEnd_84 ⟨Nat.zero_le _, Nat.zero_le _⟩ (fun H locs hP hD hS => ?_)
          refine lv_if_eq (tgt := 105) hx hb d_Md_mayEnd_87 (by decide) (fun hc => ?_) (fun hc => ?_)
          · have h := o_t hc h
            refine lv_iconst (v := 0) hx hb d_Md_mayEnd_105 (by decide) ?_
            cases h
            exact kr_z hx hb hr (by decide) hlocks hP hD hS d_Md_mayEnd_106
          · have h := o_f hc h
            refine lv_aload_n hx hb d_Md_mayEnd_90 rfl (lv_at hl 0 rfl) ?_
            refine va_get (D := (dC, dI)) (ci := 7) (v := .ref (a 2)) (C := R_Md) (T := F_Md) (N := 35) hx hb hts inb_Md hown hK hP 0 rfl rfl 3 (by decide) (hts _ tw690) (fun _ h9 => h9) rfl d_Md_mayEnd_91 ?_
            refine lv_iload_n hx hb d_Md_mayEnd_94 rfl (lv_at hl 1 rfl) ?_
            obtain ⟨hin, h⟩ := o_in h
            refine va_iald hx hb hK hP 2 0 rfl rfl hin d_Md_mayEnd_95 ?_
            refine lv_bipush (v := 13) hx hb d_Md_mayEnd_96 (by decide) ?_
            refine lv_icmp_ne (tgt := 105) hx hb d_Md_mayEnd_98 (by decide) (fun hc => ?_) (fun hc => ?_)
            · have h := o_f hc h
              refine lv_iconst (v := 0) hx hb d_Md_mayEnd_105 (by decide) ?_
              cases h
              exact kr_z hx hb hr (by decide) hlocks hP hD hS d_Md_mayEnd_106
            · have h := o_t hc h
              refine lv_iconst (v := 1) hx hb d_Md_mayEnd_101 (by decide) ?_
              refine lv_goto (tgt := 106) hx hb d_Md_mayEnd_102 (by decide) ?_
              cases h
              exact kr_z hx hb hr (by decide) hlocks hP hD hS d_Md_mayEnd_106
        · have h := o_t hc h
          refine lv_aload_n hx hb d_Md_mayEnd_71 rfl (lv_at hl 0 rfl) ?_
          refine va_get (D := (dC, dI)) (ci := 7) (v := .int (Mb_rowCount mb)) (C := R_Md) (T := F_Md) (N := 35) hx hb hts inb_Md hown hK hP 0 rfl rfl 17 (by decide) (hts _ tw704) (fun _ h9 => h9) rfl d_Md_mayEnd_72 ?_
          refine lv_iconst (v := 1) hx hb d_Md_mayEnd_75 (by decide) ?_
          refine lv_icmp_le (tgt := 105) hx hb d_Md_mayEnd_76 (by decide) (fun hc => ?_) (fun hc => ?_)
          · have h := o_t hc h
            refine lv_iconst (v := 0) hx hb d_Md_mayEnd_105 (by decide) ?_
            cases h
            exact kr_z hx hb hr (by decide) hlocks hP hD hS d_Md_mayEnd_106
          · have h := o_f hc h
            refine lv_goto (tgt := 101) hx hb d_Md_mayEnd_79 (by decide) ?_
            refine lv_iconst (v := 1) hx hb d_Md_mayEnd_101 (by decide) ?_
            refine lv_goto (tgt := 106) hx hb d_Md_mayEnd_102 (by decide) ?_
            cases h
            exact kr_z hx hb hr (by decide) hlocks hP hD hS d_Md_mayEnd_106
    · have h := o_f hn1 h
      refine lv_lookup (off := 103) (tgt := 107) hx hb d_Md_mayEnd_4 (by decide) ((lv_osw hn0 (by decide)).trans <| (lv_osw hn1 (by decide)).trans <| rfl) (by decide) ?_
      refine lv_iload_n hx hb d_Md_mayEnd_107 rfl (lv_at hl 1 rfl) ?_
      refine lv_if_ne (tgt := 115) hx hb d_Md_mayEnd_108 (by decide) (fun hc => ?_) (fun hc => ?_)
      · have h := o_f hc h
        refine lv_iconst (v := 0) hx hb d_Md_mayEnd_115 (by decide) ?_
        cases h
        exact kr_z hx hb hr (by decide) hlocks hP hD hS d_Md_mayEnd_116
      · have h := o_t hc h
        refine lv_iconst (v := 1) hx hb d_Md_mayEnd_111 (by decide) ?_
        refine lv_goto (tgt := 116) hx hb d_Md_mayEnd_112 (by decide) ?_
        cases h
        exact kr_z hx hb hr (by decide) hlocks hP hD hS d_Md_mayEnd_116
set_option maxHeartbeats 4000000 in
set_option maxRecDepth 100000 in
theorem c_Md_end (l : Launch) (dC : Nat → ClassId) (dI : Nat → Nat → Nat) (cI cJ cZ : ClassId) (a : Nat → Nat) (N : Nat) (x1 : Int32) (mb : MbS) (mg : MgS) (mx : MxS) (mf : MfS) (res : Int32 × MbS × MgS) (h : f_Md_end N x1 mb mg = some res) :
    Kt l (dC, dI) classes [(cI, .int), (cJ, .long), (cZ, .boolean)] y_Md_end (wz y_Md_end b_Md_end 5 (some .int)) { frames := 4, cells := 0, slots := 0, locals := 85 } [.ref (a 0), .int x1] (cMd cI cJ cZ a mb mg mx mf) (some (.int res.1)) (cMd cI cJ cZ a res.2.1 res.2.2 mx mf) := by
  refine Kt_of (cc := b_Md_end) (maxL := 5) (ret := (some .int)) (by decide) (Nat.le_of_ble_eq_true rfl) ?_
  intro p e s m args below meth c A ls hx hb hr hml hlocks hown hts hNw hK hP hD hA hS hl
  have hl : lv_has ls 5 [(0, .ref (a 0)), (1, .int x1)] := hl
  have hP : va_P (dC, dI) classes (cMd cI cJ cZ a mb mg mx mf) s.heap := hP
  have B118 : ∀ (x2_118 : Int32) (mb_118 : MbS) (mg_118 : MgS) (H : Heap) (locs : List Loc) (ls : Array Slot), f_Md_end_b118 N x2_118 mb_118 mg_118 = some res → va_P (dC, dI) classes (cMd cI cJ cZ a mb_118 mg_118 mx mf) H → va_D A (cMd cI cJ cZ a mb_118 mg_118 mx mf) → va_S A s.heap H locs → lv_has ls 5 [(0, .ref (a 0)), (2, .int x2_118)] → W p l e { frames := 4, cells := 0, slots := 0, locals := 85 } s m args below meth c H locs 0 0 (KZ below args s (dC, dI) classes (some (.int res.1)) (cMd cI cJ cZ a res.2.1 res.2.2 mx mf) A) (F0 m 118 ls []) := by
    intro x2_118 mb_118 mg_118 H locs ls h hP hD hS hl
    refine lv_aload_n hx hb d_Md_end_118 rfl (lv_at hl 0 rfl) ?_
    refine lv_iconst (v := -1) hx hb d_Md_end_119 (by decide) ?_
    refine va_put (D := (dC, dI)) (ci := 7) (v := .int (-1 : Int32)) (ty := .int) (C := R_Md) (T := F_Md) (N := 35) hx hb hts inb_Md ft_Md ft_Md_ok n_Md hown hK hP hD hS 0 rfl rfl 14 (by decide) (hts _ tw701) (fun _ h9 => h9) rfl (by decide +kernel) rfl rfl (Nat.le_of_ble_eq_true rfl) d_Md_end_120 (fun H locs hP hD hS => ?_)
    have hP : va_P (dC, dI) classes (cMd cI cJ cZ a ((Mb_kinds mb_118), (Mb_above mb_118), (Mb_nodes mb_118), (Mb_sort mb_118), (Mb_given mb_118), (Mb_partOf mb_118), (Mb_mark mb_118), (Mb_first mb_118), (Mb_last mb_118), (Mb_next mb_118), (Mb_before mb_118), (Mb_hasEnding mb_118), (Mb_endMark mb_118), (Mb_inRow mb_118), (-1 : Int32), (Mb_rowFirst mb_118), (Mb_rowLast mb_118), (Mb_rowCount mb_118)) mg_118 mx mf) H := hP
    have hD : va_D A (cMd cI cJ cZ a ((Mb_kinds mb_118), (Mb_above mb_118), (Mb_nodes mb_118), (Mb_sort mb_118), (Mb_given mb_118), (Mb_partOf mb_118), (Mb_mark mb_118), (Mb_first mb_118), (Mb_last mb_118), (Mb_next mb_118), (Mb_before mb_118), (Mb_hasEnding mb_118), (Mb_endMark mb_118), (Mb_inRow mb_118), (-1 : Int32), (Mb_rowFirst mb_118), (Mb_rowLast mb_118), (Mb_rowCount mb_118)) mg_118 mx mf) := hD
    refine lv_iload_n hx hb d_Md_end_123 rfl (lv_at hl 1 rfl) ?_
    cases h
    exact kr_i hx hb hr hlocks hP hD hS d_Md_end_124
  have B92 : ∀ (x1_92 : Int32) (x2_92 : Int32) (mb_92 : MbS) (mg_92 : MgS) (H : Heap) (locs : List Loc) (ls : Array Slot), f_Md_end_b92 N x1_92 x2_92 mb_92 mg_92 = some res → va_P (dC, dI) classes (cMd cI cJ cZ a mb_92 mg_92 mx mf) H → va_D A (cMd cI cJ cZ a mb_92 mg_92 mx mf) → va_S A s.heap H locs → lv_has ls 5 [(0, .ref (a 0)), (1, .int x1_92), (2, .int x2_92)] → W p l e { frames := 4, cells := 0, slots := 0, locals := 85 } s m args below meth c H locs 0 0 (KZ below args s (dC, dI) classes (some (.int res.1)) (cMd cI cJ cZ a res.2.1 res.2.2 mx mf) A) (F0 m 92 ls []) := by
    intro x1_92 x2_92 mb_92 mg_92 H locs ls h hP hD hS hl
    refine lv_aload_n hx hb d_Md_end_92 rfl (lv_at hl 0 rfl) ?_
    refine va_get (D := (dC, dI)) (ci := 7) (v := .int (Mb_rowKind mb_92)) (C := R_Md) (T := F_Md) (N := 35) hx hb hts inb_Md hown hK hP 0 rfl rfl 14 (by decide) (hts _ tw701) (fun _ h9 => h9) rfl d_Md_end_93 ?_
    refine lv_iconst (v := 3) hx hb d_Md_end_96 (by decide) ?_
    refine lv_icmp_ne (tgt := 118) hx hb d_Md_end_97 (by decide) (fun hc => ?_) (fun hc => ?_)
    · have h := o_f hc h
      exact B118 x2_92 mb_92 mg_92 _ _ _ h hP hD hS (lv_sub hl [0, 2] rfl)
    · have h := o_t hc h
      refine lv_iload_n hx hb d_Md_end_100 rfl (lv_at hl 1 rfl) ?_
      refine lv_iconst (v := -1) hx hb d_Md_end_101 (by decide) ?_
      refine lv_icmp_eq (tgt := 118) hx hb d_Md_end_102 (by decide) (fun hc => ?_) (fun hc => ?_)
      · have h := o_t hc h
        exact B118 x2_92 mb_92 mg_92 _ _ _ h hP hD hS (lv_sub hl [0, 2] rfl)
      · have h := o_f hc h
        refine lv_aload_n hx hb d_Md_end_105 rfl (lv_at hl 0 rfl) ?_
        refine lv_iload_n hx hb d_Md_end_106 rfl (lv_at hl 2 rfl) ?_
        refine lv_iload_n hx hb d_Md_end_107 rfl (lv_at hl 1 rfl) ?_
        obtain ⟨y108, hy, h⟩ := o_bd h
        refine kdV (nn := 24) (rest := []) (w' := (cMd cI cJ cZ a y108 mg_92 mx mf)) (wr := ([] : va_W)) (st1 := []) ⟨hx, hb, hml, hown, hts⟩ (c_Md_join l dC dI cI cJ cZ a x2_92 x1_92 mb_92 mg_92 mx mf y108 hy) (cwV 2 hts (gd_V tw829 tw831 ps23 tw9 tw832) rfl rfl rfl hd_Md_join ⟨Nat.le_of_ble_eq_true rfl, Nat.le_of_ble_eq_true rfl⟩) hNw hK hP hD hS hA (ci := 7) rfl rfl rfl [0, 1, 2, 3, 4, 5, 6, 7, 8, 9, 10, 11, 12, 13, 14, 15, 16, 17, 18, 19, 20, 21, 22, 23] [] rfl rfl rfl rfl rfl (by decide +kernel) (by decide +kernel) rfl hl.1 rfl (Nat.le_of_ble_eq_true rfl) rfl d_Md_end_108 ⟨Nat.zero_le _, Nat.zero_le _⟩ (fun H locs hP hD hS => ?_)
        refine lv_aload_n hx hb d_Md_end_111 rfl (lv_at hl 0 rfl) ?_
        refine va_get (D := (dC, dI)) (ci := 7) (v := .ref (a 10)) (C := R_Md) (T := F_Md) (N := 35) hx hb hts inb_Md hown hK hP 0 rfl rfl 11 (by decide) (hts _ tw698) (fun _ h9 => h9) rfl d_Md_end_112 ?_
        refine lv_iload_n hx hb d_Md_end_115 rfl (lv_at hl 2 rfl) ?_
        refine lv_iconst (v := 1) hx hb d_Md_end_116 (by decide) ?_
        obtain ⟨hin, h⟩ := o_in h
        refine va_zast hx hb hK hP hD hS 10 2 rfl rfl hin d_Md_end_117 (fun H locs hP hD hS => ?_)
        have hP : va_P (dC, dI) classes (cMd cI cJ cZ a ((Mb_kinds y108), (Mb_above y108), (Mb_nodes y108), (Mb_sort y108), (Mb_given y108), (Mb_partOf y108), (Mb_mark y108), (Mb_first y108), (Mb_last y108), (Mb_next y108), (Mb_before y108), (upd (Mb_hasEnding y108) x2_92.toNatClampNeg (vp_nar .boolean (1 : Int32))), (Mb_endMark y108), (Mb_inRow y108), (Mb_rowKind y108), (Mb_rowFirst y108), (Mb_rowLast y108), (Mb_rowCount y108)) mg_92 mx mf) H := hP
        have hD : va_D A (cMd cI cJ cZ a ((Mb_kinds y108), (Mb_above y108), (Mb_nodes y108), (Mb_sort y108), (Mb_given y108), (Mb_partOf y108), (Mb_mark y108), (Mb_first y108), (Mb_last y108), (Mb_next y108), (Mb_before y108), (upd (Mb_hasEnding y108) x2_92.toNatClampNeg (vp_nar .boolean (1 : Int32))), (Mb_endMark y108), (Mb_inRow y108), (Mb_rowKind y108), (Mb_rowFirst y108), (Mb_rowLast y108), (Mb_rowCount y108)) mg_92 mx mf) := hD
        exact B118 x2_92 ((Mb_kinds y108), (Mb_above y108), (Mb_nodes y108), (Mb_sort y108), (Mb_given y108), (Mb_partOf y108), (Mb_mark y108), (Mb_first y108), (Mb_last y108), (Mb_next y108), (Mb_before y108), (upd (Mb_hasEnding y108) x2_92.toNatClampNeg (vp_nar .boolean (1 : Int32))), (Mb_endMark y108), (Mb_inRow y108), (Mb_rowKind y108), (Mb_rowFirst y108), (Mb_rowLast y108), (Mb_rowCount y108)) mg_92 _ _ _ h hP hD hS (lv_sub hl [0, 2] rfl)
  have L52 : ∀ (x1_52 : Int32) (x2_52 : Int32) (n52 : Nat) (s52 : Int32 × MbS × MgS) (H : Heap) (locs : List Loc) (ls : Array Slot), lp (f_Md_end_L52 N x1_52 x2_52) n52 s52 = some res → va_P (dC, dI) classes (cMd cI cJ cZ a s52.2.1 s52.2.2 mx mf) H → va_D A (cMd cI cJ cZ a s52.2.1 s52.2.2 mx mf) → va_S A s.heap H locs → lv_has ls 5 [(0, .ref (a 0)), (1, .int x1_52), (2, .int x2_52), (3, .int s52.1)] → W p l e { frames := 4, cells := 0, slots := 0, locals := 85 } s m args below meth c H locs 0 0 (KZ below args s (dC, dI) classes (some (.int res.1)) (cMd cI cJ cZ a res.2.1 res.2.2 mx mf) A) (F0 m 52 ls []) := by
    intro x1_52 x2_52 n52
    induction n52 with
    | zero => intro _ _ _ _ h; exact (lp_0 h).elim
    | succ n52 ih52 =>
      intro s52 H locs ls h hP hD hS hl
      have h := lp_s h
      refine lv_iload_n hx hb d_Md_end_52 rfl (lv_at hl 3 rfl) ?_
      refine lv_iconst (v := -1) hx hb d_Md_end_53 (by decide) ?_
      refine lv_icmp_eq (tgt := 77) hx hb d_Md_end_54 (by decide) (fun hc => ?_) (fun hc => ?_)
      · have h := o_t hc h
        refine lv_aload_n hx hb d_Md_end_77 rfl (lv_at hl 0 rfl) ?_
        refine va_get (D := (dC, dI)) (ci := 7) (v := .int (Mb_rowKind s52.2.1)) (C := R_Md) (T := F_Md) (N := 35) hx hb hts inb_Md hown hK hP 0 rfl rfl 14 (by decide) (hts _ tw701) (fun _ h9 => h9) rfl d_Md_end_78 ?_
        refine lv_iconst (v := 1) hx hb d_Md_end_81 (by decide) ?_
        refine lv_icmp_ne (tgt := 92) hx hb d_Md_end_82 (by decide) (fun hc => ?_) (fun hc => ?_)
        · have h := o_f hc h
          exact B92 x1_52 x2_52 s52.2.1 s52.2.2 _ _ _ h hP hD hS (lv_sub hl [0, 1, 2] rfl)
        · have h := o_t hc h
          refine lv_aload_n hx hb d_Md_end_85 rfl (lv_at hl 0 rfl) ?_
          refine va_get (D := (dC, dI)) (ci := 7) (v := .ref (a 11)) (C := R_Md) (T := F_Md) (N := 35) hx hb hts inb_Md hown hK hP 0 rfl rfl 12 (by decide) (hts _ tw699) (fun _ h9 => h9) rfl d_Md_end_86 ?_
          refine lv_iload_n hx hb d_Md_end_89 rfl (lv_at hl 2 rfl) ?_
          refine lv_iload_n hx hb d_Md_end_90 rfl (lv_at hl 1 rfl) ?_
          obtain ⟨hin, h⟩ := o_in h
          refine va_iast hx hb hK hP hD hS 11 0 rfl rfl hin d_Md_end_91 (fun H locs hP hD hS => ?_)
          have hP : va_P (dC, dI) classes (cMd cI cJ cZ a ((Mb_kinds s52.2.1), (Mb_above s52.2.1), (Mb_nodes s52.2.1), (Mb_sort s52.2.1), (Mb_given s52.2.1), (Mb_partOf s52.2.1), (Mb_mark s52.2.1), (Mb_first s52.2.1), (Mb_last s52.2.1), (Mb_next s52.2.1), (Mb_before s52.2.1), (Mb_hasEnding s52.2.1), (upd (Mb_endMark s52.2.1) x2_52.toNatClampNeg x1_52), (Mb_inRow s52.2.1), (Mb_rowKind s52.2.1), (Mb_rowFirst s52.2.1), (Mb_rowLast s52.2.1), (Mb_rowCount s52.2.1)) s52.2.2 mx mf) H := hP
          have hD : va_D A (cMd cI cJ cZ a ((Mb_kinds s52.2.1), (Mb_above s52.2.1), (Mb_nodes s52.2.1), (Mb_sort s52.2.1), (Mb_given s52.2.1), (Mb_partOf s52.2.1), (Mb_mark s52.2.1), (Mb_first s52.2.1), (Mb_last s52.2.1), (Mb_next s52.2.1), (Mb_before s52.2.1), (Mb_hasEnding s52.2.1), (upd (Mb_endMark s52.2.1) x2_52.toNatClampNeg x1_52), (Mb_inRow s52.2.1), (Mb_rowKind s52.2.1), (Mb_rowFirst s52.2.1), (Mb_rowLast s52.2.1), (Mb_rowCount s52.2.1)) s52.2.2 mx mf) := hD
          exact B92 x1_52 x2_52 ((Mb_kinds s52.2.1), (Mb_above s52.2.1), (Mb_nodes s52.2.1), (Mb_sort s52.2.1), (Mb_given s52.2.1), (Mb_partOf s52.2.1), (Mb_mark s52.2.1), (Mb_first s52.2.1), (Mb_last s52.2.1), (Mb_next s52.2.1), (Mb_before s52.2.1), (Mb_hasEnding s52.2.1), (upd (Mb_endMark s52.2.1) x2_52.toNatClampNeg x1_52), (Mb_inRow s52.2.1), (Mb_rowKind s52.2.1), (Mb_rowFirst s52.2.1), (Mb_rowLast s52.2.1), (Mb_rowCount s52.2.1)) s52.2.2 _ _ _ h hP hD hS (lv_sub hl [0, 1, 2] rfl)
      · have h := o_f hc h
        refine lv_aload_n hx hb d_Md_end_57 rfl (lv_at hl 0 rfl) ?_
        refine va_get (D := (dC, dI)) (ci := 7) (v := .ref (a 8)) (C := R_Md) (T := F_Md) (N := 35) hx hb hts inb_Md hown hK hP 0 rfl rfl 9 (by decide) (hts _ tw696) (fun _ h9 => h9) rfl d_Md_end_58 ?_
        refine lv_iload_n hx hb d_Md_end_61 rfl (lv_at hl 3 rfl) ?_
        obtain ⟨hin, h⟩ := o_in h
        refine va_iald hx hb hK hP 8 0 rfl rfl hin d_Md_end_62 ?_
        refine lv_istore (lv' := [(4, .int ((Mb_next s52.2.1) s52.1.toNatClampNeg)), (0, .ref (a 0)), (1, .int x1_52), (2, .int x2_52), (3, .int s52.1)]) hx hb d_Md_end_63 hl (by decide) rfl (fun ls hl => ?_)
        refine lv_aload_n hx hb d_Md_end_65 rfl (lv_at hl 1 rfl) ?_
        refine lv_iload_n hx hb d_Md_end_66 rfl (lv_at hl 3 rfl) ?_
        refine lv_iload_n hx hb d_Md_end_67 rfl (lv_at hl 4 rfl) ?_
        obtain ⟨y68, hy, h⟩ := o_bd h
        refine kdV (nn := 24) (rest := []) (w' := (cMd cI cJ cZ a y68 s52.2.2 mx mf)) (wr := ([] : va_W)) (st1 := []) ⟨hx, hb, hml, hown, hts⟩ (c_Md_join l dC dI cI cJ cZ a x2_52 s52.1 s52.2.1 s52.2.2 mx mf y68 hy) (cwV 2 hts (gd_V tw829 tw831 ps23 tw9 tw832) rfl rfl rfl hd_Md_join ⟨Nat.le_of_ble_eq_true rfl, Nat.le_of_ble_eq_true rfl⟩) hNw hK hP hD hS hA (ci := 7) rfl rfl rfl [0, 1, 2, 3, 4, 5, 6, 7, 8, 9, 10, 11, 12, 13, 14, 15, 16, 17, 18, 19, 20, 21, 22, 23] [] rfl rfl rfl rfl rfl (by decide +kernel) (by decide +kernel) rfl hl.1 rfl (Nat.le_of_ble_eq_true rfl) rfl d_Md_end_68 ⟨Nat.zero_le _, Nat.zero_le _⟩ (fun H locs hP hD hS => ?_)
        refine lv_iload hx hb d_Md_end_71 (lv_at hl 0 rfl) ?_
        refine lv_istore_n (lv' := [(3, .int ((Mb_next s52.2.1) s52.1.toNatClampNeg)), (4, .int ((Mb_next s52.2.1) s52.1.toNatClampNeg)), (0, .ref (a 0)), (1, .int x1_52), (2, .int x2_52)]) hx hb d_Md_end_73 rfl hl (by decide) rfl (fun ls hl => ?_)
        refine lv_goto (tgt := 52) hx hb d_Md_end_74 (by decide) ?_
        exact ih52 (((Mb_next s52.2.1) s52.1.toNatClampNeg), y68, s52.2.2) _ _ _ h hP hD hS (lv_sub hl [2, 3, 4, 0] rfl)
  refine lv_aload_n hx hb d_Md_end_0 rfl (lv_at hl 0 rfl) ?_
  refine va_get (D := (dC, dI)) (ci := 7) (v := .int (Mb_rowKind mb)) (C := R_Md) (T := F_Md) (N := 35) hx hb hts inb_Md hown hK hP 0 rfl rfl 14 (by decide) (hts _ tw701) (fun _ h9 => h9) rfl d_Md_end_1 ?_
  refine lv_iconst (v := -1) hx hb d_Md_end_4 (by decide) ?_
  refine lv_icmp_ne (tgt := 11) hx hb d_Md_end_5 (by decide) (fun hc => ?_) (fun hc => ?_)
  · have h := o_f hc h
    refine lv_aload_n hx hb d_Md_end_11 rfl (lv_at hl 0 rfl) ?_
    refine lv_iload_n hx hb d_Md_end_12 rfl (lv_at hl 1 rfl) ?_
    obtain ⟨y13, hy, h⟩ := o_bd h
    refine kdV (nn := 24) (rest := []) (w' := (cMd cI cJ cZ a mb mg mx mf)) (wr := ([] : va_W)) (st1 := [.int y13]) ⟨hx, hb, hml, hown, hts⟩ (c_Md_mayEnd l dC dI cI cJ cZ a N x1 mb mg mx mf y13 hy) (cwV 1 hts (gd_V tw861 tw863 ps26 tw9 tw864) rfl rfl rfl hd_Md_mayEnd ⟨Nat.le_of_ble_eq_true rfl, Nat.le_of_ble_eq_true rfl⟩) hNw hK hP hD hS hA (ci := 7) rfl rfl rfl [0, 1, 2, 3, 4, 5, 6, 7, 8, 9, 10, 11, 12, 13, 14, 15, 16, 17, 18, 19, 20, 21, 22, 23] [] rfl rfl rfl rfl rfl (by decide +kernel) (by decide +kernel) rfl hl.1 rfl (Nat.le_of_ble_eq_true rfl) rfl d_Md_end_13 ⟨Nat.zero_le _, Nat.zero_le _⟩ (fun H locs hP hD hS => ?_)
    refine lv_if_ne (tgt := 22) hx hb d_Md_end_16 (by decide) (fun hc => ?_) (fun hc => ?_)
    · have h := o_f hc h
      refine lv_aload_n hx hb d_Md_end_22 rfl (lv_at hl 0 rfl) ?_
      refine va_get (D := (dC, dI)) (ci := 7) (v := .int (Mb_nodes mb)) (C := R_Md) (T := F_Md) (N := 35) hx hb hts inb_Md hown hK hP 0 rfl rfl 2 (by decide) (hts _ tw689) (fun _ h9 => h9) rfl d_Md_end_23 ?_
      refine lv_bipush (v := 60) hx hb d_Md_end_26 (by decide) ?_
      refine lv_icmp_ne (tgt := 34) hx hb d_Md_end_28 (by decide) (fun hc => ?_) (fun hc => ?_)
      · have h := o_f hc h
        refine lv_aload_n hx hb d_Md_end_34 rfl (lv_at hl 0 rfl) ?_
        refine lv_bipush (v := 13) hx hb d_Md_end_35 (by decide) ?_
        refine lv_aload_n hx hb d_Md_end_37 rfl (lv_at hl 0 rfl) ?_
        refine va_get (D := (dC, dI)) (ci := 7) (v := .int (Mb_rowKind mb)) (C := R_Md) (T := F_Md) (N := 35) hx hb hts inb_Md hown hK hP 0 rfl rfl 14 (by decide) (hts _ tw701) (fun _ h9 => h9) rfl d_Md_end_38 ?_
        refine lv_iadd hx hb d_Md_end_41 ?_
        refine lv_iconst (v := 0) hx hb d_Md_end_42 (by decide) ?_
        obtain ⟨y43, hy, h⟩ := o_bd h
        refine kdV (nn := 24) (rest := []) (w' := (cMd cI cJ cZ a y43.2.1 y43.2.2 mx mf)) (wr := ([] : va_W)) (st1 := [.int y43.1]) ⟨hx, hb, hml, hown, hts⟩ (c_Md_make l dC dI cI cJ cZ a ((13 : Int32) + (Mb_rowKind mb)) (0 : Int32) mb mg mx mf y43 hy) (cwV 2 hts (gd_V tw825 tw827 ps22 tw9 tw828) rfl rfl rfl hd_Md_make ⟨Nat.le_of_ble_eq_true rfl, Nat.le_of_ble_eq_true rfl⟩) hNw hK hP hD hS hA (ci := 7) rfl rfl rfl [0, 1, 2, 3, 4, 5, 6, 7, 8, 9, 10, 11, 12, 13, 14, 15, 16, 17, 18, 19, 20, 21, 22, 23] [] rfl rfl rfl rfl rfl (by decide +kernel) (by decide +kernel) rfl hl.1 rfl (Nat.le_of_ble_eq_true rfl) rfl d_Md_end_43 ⟨Nat.zero_le _, Nat.zero_le _⟩ (fun H locs hP hD hS => ?_)
        refine lv_istore_n (lv' := [(2, .int y43.1), (0, .ref (a 0)), (1, .int x1)]) hx hb d_Md_end_46 rfl hl (by decide) rfl (fun ls hl => ?_)
        refine lv_aload_n hx hb d_Md_end_47 rfl (lv_at hl 1 rfl) ?_
        refine va_get (D := (dC, dI)) (ci := 7) (v := .int (Mb_rowFirst y43.2.1)) (C := R_Md) (T := F_Md) (N := 35) hx hb hts inb_Md hown hK hP 0 rfl rfl 15 (by decide) (hts _ tw702) (fun _ h9 => h9) rfl d_Md_end_48 ?_
        refine lv_istore_n (lv' := [(3, .int (Mb_rowFirst y43.2.1)), (2, .int y43.1), (0, .ref (a 0)), (1, .int x1)]) hx hb d_Md_end_51 rfl hl (by decide) rfl (fun ls hl => ?_)
        exact L52 x1 y43.1 N ((Mb_rowFirst y43.2.1), y43.2.1, y43.2.2) _ _ _ h hP hD hS (lv_sub hl [2, 3, 1, 0] rfl)
      · have h := o_t hc h
        refine lv_bipush (v := -3) hx hb d_Md_end_31 (by decide) ?_
        cases h
        exact kr_i hx hb hr hlocks hP hD hS d_Md_end_33
    · have h := o_t hc h
      refine lv_bipush (v := -2) hx hb d_Md_end_19 (by decide) ?_
      cases h
      exact kr_i hx hb hr hlocks hP hD hS d_Md_end_21
  · have h := o_t hc h
    refine lv_bipush (v := -4) hx hb d_Md_end_8 (by decide) ?_
    cases h
    exact kr_i hx hb hr hlocks hP hD hS d_Md_end_10
set_option maxHeartbeats 4000000 in
set_option maxRecDepth 100000 in
theorem c_Md_drop (l : Launch) (dC : Nat → ClassId) (dI : Nat → Nat → Nat) (cI cJ cZ : ClassId) (a : Nat → Nat) (N : Nat) (mb : MbS) (mg : MgS) (mx : MxS) (mf : MfS) (res : Int32 × MbS) (h : f_Md_drop N mb = some res) :
    Kt l (dC, dI) classes [(cI, .int), (cJ, .long), (cZ, .boolean)] y_Md_drop (wz y_Md_drop b_Md_drop 2 (some .int)) { frames := 0, cells := 0, slots := 0, locals := 0 } [.ref (a 0)] (cMd cI cJ cZ a mb mg mx mf) (some (.int res.1)) (cMd cI cJ cZ a res.2 mg mx mf) := by
  refine Kt_of (cc := b_Md_drop) (maxL := 2) (ret := (some .int)) (by decide) (Nat.le_of_ble_eq_true rfl) ?_
  intro p e s m args below meth c A ls hx hb hr hml hlocks hown hts hNw hK hP hD hA hS hl
  have hl : lv_has ls 2 [(0, .ref (a 0))] := hl
  have hP : va_P (dC, dI) classes (cMd cI cJ cZ a mb mg mx mf) s.heap := hP
  have L16 : ∀ (n16 : Nat) (s16 : Int32 × MbS) (H : Heap) (locs : List Loc) (ls : Array Slot), lp (f_Md_drop_L16 N) n16 s16 = some res → va_P (dC, dI) classes (cMd cI cJ cZ a s16.2 mg mx mf) H → va_D A (cMd cI cJ cZ a s16.2 mg mx mf) → va_S A s.heap H locs → lv_has ls 2 [(0, .ref (a 0)), (1, .int s16.1)] → W p l e { frames := 0, cells := 0, slots := 0, locals := 0 } s m args below meth c H locs 0 0 (KZ below args s (dC, dI) classes (some (.int res.1)) (cMd cI cJ cZ a res.2 mg mx mf) A) (F0 m 16 ls []) := by
    intro n16
    induction n16 with
    | zero => intro _ _ _ _ h; exact (lp_0 h).elim
    | succ n16 ih16 =>
      intro s16 H locs ls h hP hD hS hl
      have h := lp_s h
      refine lv_iload_n hx hb d_Md_drop_16 rfl (lv_at hl 1 rfl) ?_
      refine lv_iconst (v := -1) hx hb d_Md_drop_17 (by decide) ?_
      refine lv_icmp_eq (tgt := 45) hx hb d_Md_drop_18 (by decide) (fun hc => ?_) (fun hc => ?_)
      · have h := o_t hc h
        refine lv_aload_n hx hb d_Md_drop_45 rfl (lv_at hl 0 rfl) ?_
        refine lv_iconst (v := -1) hx hb d_Md_drop_46 (by decide) ?_
        refine va_put (D := (dC, dI)) (ci := 7) (v := .int (-1 : Int32)) (ty := .int) (C := R_Md) (T := F_Md) (N := 35) hx hb hts inb_Md ft_Md ft_Md_ok n_Md hown hK hP hD hS 0 rfl rfl 14 (by decide) (hts _ tw701) (fun _ h9 => h9) rfl (by decide +kernel) rfl rfl (Nat.le_of_ble_eq_true rfl) d_Md_drop_47 (fun H locs hP hD hS => ?_)
        have hP : va_P (dC, dI) classes (cMd cI cJ cZ a ((Mb_kinds s16.2), (Mb_above s16.2), (Mb_nodes s16.2), (Mb_sort s16.2), (Mb_given s16.2), (Mb_partOf s16.2), (Mb_mark s16.2), (Mb_first s16.2), (Mb_last s16.2), (Mb_next s16.2), (Mb_before s16.2), (Mb_hasEnding s16.2), (Mb_endMark s16.2), (Mb_inRow s16.2), (-1 : Int32), (Mb_rowFirst s16.2), (Mb_rowLast s16.2), (Mb_rowCount s16.2)) mg mx mf) H := hP
        have hD : va_D A (cMd cI cJ cZ a ((Mb_kinds s16.2), (Mb_above s16.2), (Mb_nodes s16.2), (Mb_sort s16.2), (Mb_given s16.2), (Mb_partOf s16.2), (Mb_mark s16.2), (Mb_first s16.2), (Mb_last s16.2), (Mb_next s16.2), (Mb_before s16.2), (Mb_hasEnding s16.2), (Mb_endMark s16.2), (Mb_inRow s16.2), (-1 : Int32), (Mb_rowFirst s16.2), (Mb_rowLast s16.2), (Mb_rowCount s16.2)) mg mx mf) := hD
        refine lv_aload_n hx hb d_Md_drop_50 rfl (lv_at hl 0 rfl) ?_
        refine va_get (D := (dC, dI)) (ci := 7) (v := .int (Mb_rowCount s16.2)) (C := R_Md) (T := F_Md) (N := 35) hx hb hts inb_Md hown hK hP 0 rfl rfl 17 (by decide) (hts _ tw704) (fun _ h9 => h9) rfl d_Md_drop_51 ?_
        cases h
        exact kr_i hx hb hr hlocks hP hD hS d_Md_drop_54
      · have h := o_f hc h
        refine lv_aload_n hx hb d_Md_drop_21 rfl (lv_at hl 0 rfl) ?_
        refine va_get (D := (dC, dI)) (ci := 7) (v := .ref (a 12)) (C := R_Md) (T := F_Md) (N := 35) hx hb hts inb_Md hown hK hP 0 rfl rfl 13 (by decide) (hts _ tw700) (fun _ h9 => h9) rfl d_Md_drop_22 ?_
        refine lv_iload_n hx hb d_Md_drop_25 rfl (lv_at hl 1 rfl) ?_
        refine lv_iconst (v := 0) hx hb d_Md_drop_26 (by decide) ?_
        obtain ⟨hin, h⟩ := o_in h
        refine va_zast hx hb hK hP hD hS 12 2 rfl rfl hin d_Md_drop_27 (fun H locs hP hD hS => ?_)
        have hP : va_P (dC, dI) classes (cMd cI cJ cZ a ((Mb_kinds s16.2), (Mb_above s16.2), (Mb_nodes s16.2), (Mb_sort s16.2), (Mb_given s16.2), (Mb_partOf s16.2), (Mb_mark s16.2), (Mb_first s16.2), (Mb_last s16.2), (Mb_next s16.2), (Mb_before s16.2), (Mb_hasEnding s16.2), (Mb_endMark s16.2), (upd (Mb_inRow s16.2) s16.1.toNatClampNeg (vp_nar .boolean (0 : Int32))), (Mb_rowKind s16.2), (Mb_rowFirst s16.2), (Mb_rowLast s16.2), (Mb_rowCount s16.2)) mg mx mf) H := hP
        have hD : va_D A (cMd cI cJ cZ a ((Mb_kinds s16.2), (Mb_above s16.2), (Mb_nodes s16.2), (Mb_sort s16.2), (Mb_given s16.2), (Mb_partOf s16.2), (Mb_mark s16.2), (Mb_first s16.2), (Mb_last s16.2), (Mb_next s16.2), (Mb_before s16.2), (Mb_hasEnding s16.2), (Mb_endMark s16.2), (upd (Mb_inRow s16.2) s16.1.toNatClampNeg (vp_nar .boolean (0 : Int32))), (Mb_rowKind s16.2), (Mb_rowFirst s16.2), (Mb_rowLast s16.2), (Mb_rowCount s16.2)) mg mx mf) := hD
        refine lv_aload_n hx hb d_Md_drop_28 rfl (lv_at hl 0 rfl) ?_
        refine va_get (D := (dC, dI)) (ci := 7) (v := .ref (a 5)) (C := R_Md) (T := F_Md) (N := 35) hx hb hts inb_Md hown hK hP 0 rfl rfl 6 (by decide) (hts _ tw693) (fun _ h9 => h9) rfl d_Md_drop_29 ?_
        refine lv_iload_n hx hb d_Md_drop_32 rfl (lv_at hl 1 rfl) ?_
        refine lv_iconst (v := -1) hx hb d_Md_drop_33 (by decide) ?_
        obtain ⟨hin, h⟩ := o_in h
        refine va_iast hx hb hK hP hD hS 5 0 rfl rfl hin d_Md_drop_34 (fun H locs hP hD hS => ?_)
        have hP : va_P (dC, dI) classes (cMd cI cJ cZ a ((Mb_kinds s16.2), (Mb_above s16.2), (Mb_nodes s16.2), (Mb_sort s16.2), (Mb_given s16.2), (Mb_partOf s16.2), (upd (Mb_mark s16.2) s16.1.toNatClampNeg (-1 : Int32)), (Mb_first s16.2), (Mb_last s16.2), (Mb_next s16.2), (Mb_before s16.2), (Mb_hasEnding s16.2), (Mb_endMark s16.2), (upd (Mb_inRow s16.2) s16.1.toNatClampNeg (vp_nar .boolean (0 : Int32))), (Mb_rowKind s16.2), (Mb_rowFirst s16.2), (Mb_rowLast s16.2), (Mb_rowCount s16.2)) mg mx mf) H := hP
        have hD : va_D A (cMd cI cJ cZ a ((Mb_kinds s16.2), (Mb_above s16.2), (Mb_nodes s16.2), (Mb_sort s16.2), (Mb_given s16.2), (Mb_partOf s16.2), (upd (Mb_mark s16.2) s16.1.toNatClampNeg (-1 : Int32)), (Mb_first s16.2), (Mb_last s16.2), (Mb_next s16.2), (Mb_before s16.2), (Mb_hasEnding s16.2), (Mb_endMark s16.2), (upd (Mb_inRow s16.2) s16.1.toNatClampNeg (vp_nar .boolean (0 : Int32))), (Mb_rowKind s16.2), (Mb_rowFirst s16.2), (Mb_rowLast s16.2), (Mb_rowCount s16.2)) mg mx mf) := hD
        refine lv_aload_n hx hb d_Md_drop_35 rfl (lv_at hl 0 rfl) ?_
        refine va_get (D := (dC, dI)) (ci := 7) (v := .ref (a 8)) (C := R_Md) (T := F_Md) (N := 35) hx hb hts inb_Md hown hK hP 0 rfl rfl 9 (by decide) (hts _ tw696) (fun _ h9 => h9) rfl d_Md_drop_36 ?_
        refine lv_iload_n hx hb d_Md_drop_39 rfl (lv_at hl 1 rfl) ?_
        obtain ⟨hin, h⟩ := o_in h
        refine va_iald hx hb hK hP 8 0 rfl rfl hin d_Md_drop_40 ?_
        refine lv_istore_n (lv' := [(1, .int ((Mb_next s16.2) s16.1.toNatClampNeg)), (0, .ref (a 0))]) hx hb d_Md_drop_41 rfl hl (by decide) rfl (fun ls hl => ?_)
        refine lv_goto (tgt := 16) hx hb d_Md_drop_42 (by decide) ?_
        exact ih16 (((Mb_next s16.2) s16.1.toNatClampNeg), ((Mb_kinds s16.2), (Mb_above s16.2), (Mb_nodes s16.2), (Mb_sort s16.2), (Mb_given s16.2), (Mb_partOf s16.2), (upd (Mb_mark s16.2) s16.1.toNatClampNeg (-1 : Int32)), (Mb_first s16.2), (Mb_last s16.2), (Mb_next s16.2), (Mb_before s16.2), (Mb_hasEnding s16.2), (Mb_endMark s16.2), (upd (Mb_inRow s16.2) s16.1.toNatClampNeg (vp_nar .boolean (0 : Int32))), (Mb_rowKind s16.2), (Mb_rowFirst s16.2), (Mb_rowLast s16.2), (Mb_rowCount s16.2))) _ _ _ h hP hD hS (lv_sub hl [1, 0] rfl)
  refine lv_aload_n hx hb d_Md_drop_0 rfl (lv_at hl 0 rfl) ?_
  refine va_get (D := (dC, dI)) (ci := 7) (v := .int (Mb_rowKind mb)) (C := R_Md) (T := F_Md) (N := 35) hx hb hts inb_Md hown hK hP 0 rfl rfl 14 (by decide) (hts _ tw701) (fun _ h9 => h9) rfl d_Md_drop_1 ?_
  refine lv_iconst (v := -1) hx hb d_Md_drop_4 (by decide) ?_
  refine lv_icmp_ne (tgt := 11) hx hb d_Md_drop_5 (by decide) (fun hc => ?_) (fun hc => ?_)
  · have h := o_f hc h
    refine lv_aload_n hx hb d_Md_drop_11 rfl (lv_at hl 0 rfl) ?_
    refine va_get (D := (dC, dI)) (ci := 7) (v := .int (Mb_rowFirst mb)) (C := R_Md) (T := F_Md) (N := 35) hx hb hts inb_Md hown hK hP 0 rfl rfl 15 (by decide) (hts _ tw702) (fun _ h9 => h9) rfl d_Md_drop_12 ?_
    refine lv_istore_n (lv' := [(1, .int (Mb_rowFirst mb)), (0, .ref (a 0))]) hx hb d_Md_drop_15 rfl hl (by decide) rfl (fun ls hl => ?_)
    exact L16 N ((Mb_rowFirst mb), mb) _ _ _ h hP hD hS (lv_sub hl [1, 0] rfl)
  · have h := o_t hc h
    refine lv_bipush (v := -4) hx hb d_Md_drop_8 (by decide) ?_
    cases h
    exact kr_i hx hb hr hlocks hP hD hS d_Md_drop_10
set_option maxHeartbeats 4000000 in
set_option maxRecDepth 100000 in
theorem c_Md_told (l : Launch) (dC : Nat → ClassId) (dI : Nat → Nat → Nat) (cI cJ cZ : ClassId) (a : Nat → Nat) (N : Nat) (x1 : Int32) (x2 : Int32) (mb : MbS) (mg : MgS) (mx : MxS) (mf : MfS) (res : Int32) (h : f_Md_told N x1 x2 mb = some res) :
    Kt l (dC, dI) classes [(cI, .int), (cJ, .long), (cZ, .boolean)] y_Md_told (wz y_Md_told b_Md_told 5 (some .int)) { frames := 2, cells := 0, slots := 0, locals := 43 } [.ref (a 0), .int x1, .int x2] (cMd cI cJ cZ a mb mg mx mf) (some (.int res)) (cMd cI cJ cZ a mb mg mx mf) := by
  refine Kt_of (cc := b_Md_told) (maxL := 5) (ret := (some .int)) (by decide) (Nat.le_of_ble_eq_true rfl) ?_
  intro p e s m args below meth c A ls hx hb hr hml hlocks hown hts hNw hK hP hD hA hS hl
  have hl : lv_has ls 5 [(0, .ref (a 0)), (1, .int x1), (2, .int x2)] := hl
  have hP : va_P (dC, dI) classes (cMd cI cJ cZ a mb mg mx mf) s.heap := hP
  have L76 : ∀ (n76 : Nat) (s76 : Int32 × Int32) (H : Heap) (locs : List Loc) (ls : Array Slot), lp (f_Md_told_L76 N mb) n76 s76 = some res → va_P (dC, dI) classes (cMd cI cJ cZ a mb mg mx mf) H → va_D A (cMd cI cJ cZ a mb mg mx mf) → va_S A s.heap H locs → lv_has ls 5 [(0, .ref (a 0)), (3, .int s76.1), (4, .int s76.2)] → W p l e { frames := 2, cells := 0, slots := 0, locals := 43 } s m args below meth c H locs 0 0 (KZ below args s (dC, dI) classes (some (.int res)) (cMd cI cJ cZ a mb mg mx mf) A) (F0 m 76 ls []) := by
    intro n76
    induction n76 with
    | zero => intro _ _ _ _ h; exact (lp_0 h).elim
    | succ n76 ih76 =>
      intro s76 H locs ls h hP hD hS hl
      have h := lp_s h
      refine lv_iload hx hb d_Md_told_76 (lv_at hl 2 rfl) ?_
      refine lv_iconst (v := -1) hx hb d_Md_told_78 (by decide) ?_
      refine lv_icmp_eq (tgt := 97) hx hb d_Md_told_79 (by decide) (fun hc => ?_) (fun hc => ?_)
      · have h := o_t hc h
        refine lv_iload_n hx hb d_Md_told_97 rfl (lv_at hl 1 rfl) ?_
        cases h
        exact kr_i hx hb hr hlocks hP hD hS d_Md_told_98
      · have h := o_f hc h
        refine lv_iinc (v := (s76.1 + 1)) (lv' := [(3, .int (s76.1 + 1)), (0, .ref (a 0)), (4, .int s76.2)]) hx hb d_Md_told_82 hl (k := 1) rfl rfl (by decide) rfl (fun ls hl => ?_)
        refine lv_aload_n hx hb d_Md_told_85 rfl (lv_at hl 1 rfl) ?_
        refine va_get (D := (dC, dI)) (ci := 7) (v := .ref (a 8)) (C := R_Md) (T := F_Md) (N := 35) hx hb hts inb_Md hown hK hP 0 rfl rfl 9 (by decide) (hts _ tw696) (fun _ h9 => h9) rfl d_Md_told_86 ?_
        refine lv_iload hx hb d_Md_told_89 (lv_at hl 2 rfl) ?_
        obtain ⟨hin, h⟩ := o_in h
        refine va_iald hx hb hK hP 8 0 rfl rfl hin d_Md_told_91 ?_
        refine lv_istore (lv' := [(4, .int ((Mb_next mb) s76.2.toNatClampNeg)), (3, .int (s76.1 + 1)), (0, .ref (a 0))]) hx hb d_Md_told_92 hl (by decide) rfl (fun ls hl => ?_)
        refine lv_goto (tgt := 76) hx hb d_Md_told_94 (by decide) ?_
        exact ih76 ((s76.1 + 1), ((Mb_next mb) s76.2.toNatClampNeg)) _ _ _ h hP hD hS (lv_sub hl [2, 1, 0] rfl)
  refine lv_aload_n hx hb d_Md_told_0 rfl (lv_at hl 0 rfl) ?_
  refine lv_iload_n hx hb d_Md_told_1 rfl (lv_at hl 1 rfl) ?_
  obtain ⟨y2, hy, h⟩ := o_bd h
  refine kdV (nn := 24) (rest := []) (w' := (cMd cI cJ cZ a mb mg mx mf)) (wr := ([] : va_W)) (st1 := [.int y2]) ⟨hx, hb, hml, hown, hts⟩ (c_Md_isNode l dC dI cI cJ cZ a x1 mb mg mx mf y2 hy) (cwV 1 hts (gd_V tw821 tw823 ps21 tw9 tw824) rfl rfl rfl hd_Md_isNode ⟨Nat.le_of_ble_eq_true rfl, Nat.le_of_ble_eq_true rfl⟩) hNw hK hP hD hS hA (ci := 7) rfl rfl rfl [0, 1, 2, 3, 4, 5, 6, 7, 8, 9, 10, 11, 12, 13, 14, 15, 16, 17, 18, 19, 20, 21, 22, 23] [] rfl rfl rfl rfl rfl (by decide +kernel) (by decide +kernel) rfl hl.1 rfl (Nat.le_of_ble_eq_true rfl) rfl d_Md_told_2 ⟨Nat.zero_le _, Nat.zero_le _⟩ (fun H locs hP hD hS => ?_)
  refine lv_if_eq (tgt := 17) hx hb d_Md_told_5 (by decide) (fun hc => ?_) (fun hc => ?_)
  · have h := o_t hc h
    refine lv_bipush (v := -2) hx hb d_Md_told_17 (by decide) ?_
    cases h
    exact kr_i hx hb hr hlocks hP hD hS d_Md_told_19
  · have h := o_f hc h
    refine lv_iload_n hx hb d_Md_told_8 rfl (lv_at hl 2 rfl) ?_
    refine lv_iconst (v := 0) hx hb d_Md_told_9 (by decide) ?_
    refine lv_iconst (v := 4) hx hb d_Md_told_10 (by decide) ?_
    obtain ⟨y11, hy, h⟩ := o_bd h
    refine kdS (nn := 24) (rest := []) (w' := (cMd cI cJ cZ a mb mg mx mf)) (wr := (cMd cI cJ cZ a mb mg mx mf)) (st1 := [.int y11]) ⟨hx, hb, hml, hown, hts⟩ (c_Md_isIn l dC dI cI cJ cZ a x2 (0 : Int32) (4 : Int32) y11 hy) (va_cwS 3 hts (gd_S tw806 tw807 tw9 tw808) rfl rfl rfl hd_Md_isIn.2 ⟨Nat.le_of_ble_eq_true rfl, Nat.le_of_ble_eq_true rfl⟩) hNw hK hP hD hS hA [] [0, 1, 2, 3, 4, 5, 6, 7, 8, 9, 10, 11, 12, 13, 14, 15, 16, 17, 18, 19, 20, 21, 22, 23] rfl rfl rfl rfl rfl (by decide +kernel) (by decide +kernel) rfl hl.1 rfl (Nat.le_of_ble_eq_true rfl) rfl d_Md_told_11 ⟨Nat.zero_le _, Nat.zero_le _⟩ (fun H locs hP hD hS => ?_)
    refine lv_if_ne (tgt := 20) hx hb d_Md_told_14 (by decide) (fun hc => ?_) (fun hc => ?_)
    · have h := o_f hc h
      refine lv_iload_n hx hb d_Md_told_20 rfl (lv_at hl 2 rfl) ?_
      refine sw_by (x := x2) (k := 0) (fun hc => ?_) (fun hn0 => ?_)
      · have h := o_t hc h
        refine sw_in (x := x2) (k := 0) hc (lv_tableIn (tgt := 52) hx hb d_Md_told_21 (by decide) (by decide) (by rfl) (by decide) ?_)
        refine lv_aload_n hx hb d_Md_told_52 rfl (lv_at hl 0 rfl) ?_
        refine va_get (D := (dC, dI)) (ci := 7) (v := .ref (a 2)) (C := R_Md) (T := F_Md) (N := 35) hx hb hts inb_Md hown hK hP 0 rfl rfl 3 (by decide) (hts _ tw690) (fun _ h9 => h9) rfl d_Md_told_53 ?_
        refine lv_iload_n hx hb d_Md_told_56 rfl (lv_at hl 1 rfl) ?_
        obtain ⟨hin, h⟩ := o_in h
        refine va_iald hx hb hK hP 2 0 rfl rfl hin d_Md_told_57 ?_
        cases h
        exact kr_i hx hb hr hlocks hP hD hS d_Md_told_58
      · have h := o_f hn0 h
        refine sw_by (x := x2) (k := 1) (fun hc => ?_) (fun hn1 => ?_)
        · have h := o_t hc h
          refine sw_in (x := x2) (k := 1) hc (lv_tableIn (tgt := 59) hx hb d_Md_told_21 (by decide) (by decide) (by rfl) (by decide) ?_)
          refine lv_aload_n hx hb d_Md_told_59 rfl (lv_at hl 0 rfl) ?_
          refine va_get (D := (dC, dI)) (ci := 7) (v := .ref (a 3)) (C := R_Md) (T := F_Md) (N := 35) hx hb hts inb_Md hown hK hP 0 rfl rfl 4 (by decide) (hts _ tw691) (fun _ h9 => h9) rfl d_Md_told_60 ?_
          refine lv_iload_n hx hb d_Md_told_63 rfl (lv_at hl 1 rfl) ?_
          obtain ⟨hin, h⟩ := o_in h
          refine va_iald hx hb hK hP 3 0 rfl rfl hin d_Md_told_64 ?_
          cases h
          exact kr_i hx hb hr hlocks hP hD hS d_Md_told_65
        · have h := o_f hn1 h
          refine sw_by (x := x2) (k := 2) (fun hc => ?_) (fun hn2 => ?_)
          · have h := o_t hc h
            refine sw_in (x := x2) (k := 2) hc (lv_tableIn (tgt := 66) hx hb d_Md_told_21 (by decide) (by decide) (by rfl) (by decide) ?_)
            refine lv_iconst (v := 0) hx hb d_Md_told_66 (by decide) ?_
            refine lv_istore_n (lv' := [(3, .int (0 : Int32)), (0, .ref (a 0)), (1, .int x1), (2, .int x2)]) hx hb d_Md_told_67 rfl hl (by decide) rfl (fun ls hl => ?_)
            refine lv_aload_n hx hb d_Md_told_68 rfl (lv_at hl 1 rfl) ?_
            refine va_get (D := (dC, dI)) (ci := 7) (v := .ref (a 6)) (C := R_Md) (T := F_Md) (N := 35) hx hb hts inb_Md hown hK hP 0 rfl rfl 7 (by decide) (hts _ tw694) (fun _ h9 => h9) rfl d_Md_told_69 ?_
            refine lv_iload_n hx hb d_Md_told_72 rfl (lv_at hl 2 rfl) ?_
            obtain ⟨hin, h⟩ := o_in h
            refine va_iald hx hb hK hP 6 0 rfl rfl hin d_Md_told_73 ?_
            refine lv_istore (lv' := [(4, .int ((Mb_first mb) x1.toNatClampNeg)), (3, .int (0 : Int32)), (0, .ref (a 0)), (1, .int x1), (2, .int x2)]) hx hb d_Md_told_74 hl (by decide) rfl (fun ls hl => ?_)
            exact L76 N ((0 : Int32), ((Mb_first mb) x1.toNatClampNeg)) _ _ _ h hP hD hS (lv_sub hl [2, 1, 0] rfl)
          · have h := o_f hn2 h
            refine sw_by (x := x2) (k := 3) (fun hc => ?_) (fun hn3 => ?_)
            · have h := o_t hc h
              refine sw_in (x := x2) (k := 3) hc (lv_tableIn (tgt := 99) hx hb d_Md_told_21 (by decide) (by decide) (by rfl) (by decide) ?_)
              refine lv_aload_n hx hb d_Md_told_99 rfl (lv_at hl 0 rfl) ?_
              refine va_get (D := (dC, dI)) (ci := 7) (v := .ref (a 4)) (C := R_Md) (T := F_Md) (N := 35) hx hb hts inb_Md hown hK hP 0 rfl rfl 5 (by decide) (hts _ tw692) (fun _ h9 => h9) rfl d_Md_told_100 ?_
              refine lv_iload_n hx hb d_Md_told_103 rfl (lv_at hl 1 rfl) ?_
              obtain ⟨hin, h⟩ := o_in h
              refine va_iald hx hb hK hP 4 0 rfl rfl hin d_Md_told_104 ?_
              cases h
              exact kr_i hx hb hr hlocks hP hD hS d_Md_told_105
            · have h := o_f hn3 h
              refine lv_tableOut (tgt := 106) hx hb d_Md_told_21 (by have g0 := sw_ne hn0 (show (0 : Int32).toInt = 0 by decide); have g1 := sw_ne hn1 (show (1 : Int32).toInt = 1 by decide); have g2 := sw_ne hn2 (show (2 : Int32).toInt = 2 by decide); have g3 := sw_ne hn3 (show (3 : Int32).toInt = 3 by decide); omega) (by decide) ?_
              refine lv_aload_n hx hb d_Md_told_106 rfl (lv_at hl 0 rfl) ?_
              refine va_get (D := (dC, dI)) (ci := 7) (v := .ref (a 5)) (C := R_Md) (T := F_Md) (N := 35) hx hb hts inb_Md hown hK hP 0 rfl rfl 6 (by decide) (hts _ tw693) (fun _ h9 => h9) rfl d_Md_told_107 ?_
              refine lv_iload_n hx hb d_Md_told_110 rfl (lv_at hl 1 rfl) ?_
              obtain ⟨hin, h⟩ := o_in h
              refine va_iald hx hb hK hP 5 0 rfl rfl hin d_Md_told_111 ?_
              cases h
              exact kr_i hx hb hr hlocks hP hD hS d_Md_told_112
    · have h := o_t hc h
      refine lv_bipush (v := -2) hx hb d_Md_told_17 (by decide) ?_
      cases h
      exact kr_i hx hb hr hlocks hP hD hS d_Md_told_19
set_option maxHeartbeats 4000000 in
set_option maxRecDepth 100000 in
theorem c_Md_part (l : Launch) (dC : Nat → ClassId) (dI : Nat → Nat → Nat) (cI cJ cZ : ClassId) (a : Nat → Nat) (N : Nat) (x1 : Int32) (x2 : Int32) (mb : MbS) (mg : MgS) (mx : MxS) (mf : MfS) (res : Int32) (h : f_Md_part N x1 x2 mb = some res) :
    Kt l (dC, dI) classes [(cI, .int), (cJ, .long), (cZ, .boolean)] y_Md_part (wz y_Md_part b_Md_part 5 (some .int)) { frames := 2, cells := 0, slots := 0, locals := 43 } [.ref (a 0), .int x1, .int x2] (cMd cI cJ cZ a mb mg mx mf) (some (.int res)) (cMd cI cJ cZ a mb mg mx mf) := by
  refine Kt_of (cc := b_Md_part) (maxL := 5) (ret := (some .int)) (by decide) (Nat.le_of_ble_eq_true rfl) ?_
  intro p e s m args below meth c A ls hx hb hr hml hlocks hown hts hNw hK hP hD hA hS hl
  have hl : lv_has ls 5 [(0, .ref (a 0)), (1, .int x1), (2, .int x2)] := hl
  have hP : va_P (dC, dI) classes (cMd cI cJ cZ a mb mg mx mf) s.heap := hP
  have B49 : ∀ (x3_49 : Int32) (H : Heap) (locs : List Loc) (ls : Array Slot), f_Md_part_b49 N x3_49 mb = some res → va_P (dC, dI) classes (cMd cI cJ cZ a mb mg mx mf) H → va_D A (cMd cI cJ cZ a mb mg mx mf) → va_S A s.heap H locs → lv_has ls 5 [(3, .int x3_49)] → W p l e { frames := 2, cells := 0, slots := 0, locals := 43 } s m args below meth c H locs 0 0 (KZ below args s (dC, dI) classes (some (.int res)) (cMd cI cJ cZ a mb mg mx mf) A) (F0 m 49 ls []) := by
    intro x3_49 H locs ls h hP hD hS hl
    refine lv_iload_n hx hb d_Md_part_49 rfl (lv_at hl 0 rfl) ?_
    refine lv_iconst (v := -1) hx hb d_Md_part_50 (by decide) ?_
    refine lv_icmp_ne (tgt := 59) hx hb d_Md_part_51 (by decide) (fun hc => ?_) (fun hc => ?_)
    · have h := o_f hc h
      refine lv_iload_n hx hb d_Md_part_59 rfl (lv_at hl 0 rfl) ?_
      cases h
      exact kr_i hx hb hr hlocks hP hD hS d_Md_part_60
    · have h := o_t hc h
      refine lv_bipush (v := -2) hx hb d_Md_part_54 (by decide) ?_
      refine lv_goto (tgt := 60) hx hb d_Md_part_56 (by decide) ?_
      cases h
      exact kr_i hx hb hr hlocks hP hD hS d_Md_part_60
  have L25 : ∀ (x2_25 : Int32) (n25 : Nat) (s25 : Int32 × Int32) (H : Heap) (locs : List Loc) (ls : Array Slot), lp (f_Md_part_L25 N x2_25 mb) n25 s25 = some res → va_P (dC, dI) classes (cMd cI cJ cZ a mb mg mx mf) H → va_D A (cMd cI cJ cZ a mb mg mx mf) → va_S A s.heap H locs → lv_has ls 5 [(0, .ref (a 0)), (2, .int x2_25), (3, .int s25.1), (4, .int s25.2)] → W p l e { frames := 2, cells := 0, slots := 0, locals := 43 } s m args below meth c H locs 0 0 (KZ below args s (dC, dI) classes (some (.int res)) (cMd cI cJ cZ a mb mg mx mf) A) (F0 m 25 ls []) := by
    intro x2_25 n25
    induction n25 with
    | zero => intro _ _ _ _ h; exact (lp_0 h).elim
    | succ n25 ih25 =>
      intro s25 H locs ls h hP hD hS hl
      have h := lp_s h
      refine lv_iload hx hb d_Md_part_25 (lv_at hl 3 rfl) ?_
      refine lv_iload_n hx hb d_Md_part_27 rfl (lv_at hl 1 rfl) ?_
      refine lv_icmp_ge (tgt := 49) hx hb d_Md_part_28 (by decide) (fun hc => ?_) (fun hc => ?_)
      · have h := o_t hc h
        exact B49 s25.1 _ _ _ h hP hD hS (lv_sub hl [2] rfl)
      · have h := o_f hc h
        refine lv_iload_n hx hb d_Md_part_31 rfl (lv_at hl 2 rfl) ?_
        refine lv_iconst (v := -1) hx hb d_Md_part_32 (by decide) ?_
        refine lv_icmp_eq (tgt := 49) hx hb d_Md_part_33 (by decide) (fun hc => ?_) (fun hc => ?_)
        · have h := o_t hc h
          exact B49 s25.1 _ _ _ h hP hD hS (lv_sub hl [2] rfl)
        · have h := o_f hc h
          refine lv_aload_n hx hb d_Md_part_36 rfl (lv_at hl 0 rfl) ?_
          refine va_get (D := (dC, dI)) (ci := 7) (v := .ref (a 8)) (C := R_Md) (T := F_Md) (N := 35) hx hb hts inb_Md hown hK hP 0 rfl rfl 9 (by decide) (hts _ tw696) (fun _ h9 => h9) rfl d_Md_part_37 ?_
          refine lv_iload_n hx hb d_Md_part_40 rfl (lv_at hl 2 rfl) ?_
          obtain ⟨hin, h⟩ := o_in h
          refine va_iald hx hb hK hP 8 0 rfl rfl hin d_Md_part_41 ?_
          refine lv_istore_n (lv' := [(3, .int ((Mb_next mb) s25.1.toNatClampNeg)), (0, .ref (a 0)), (2, .int x2_25), (4, .int s25.2)]) hx hb d_Md_part_42 rfl hl (by decide) rfl (fun ls hl => ?_)
          refine lv_iinc (v := (s25.2 + 1)) (lv' := [(4, .int (s25.2 + 1)), (3, .int ((Mb_next mb) s25.1.toNatClampNeg)), (0, .ref (a 0)), (2, .int x2_25)]) hx hb d_Md_part_43 hl (k := 3) rfl rfl (by decide) rfl (fun ls hl => ?_)
          refine lv_goto (tgt := 25) hx hb d_Md_part_46 (by decide) ?_
          exact ih25 (((Mb_next mb) s25.1.toNatClampNeg), (s25.2 + 1)) _ _ _ h hP hD hS (lv_sub hl [2, 3, 1, 0] rfl)
  refine lv_aload_n hx hb d_Md_part_0 rfl (lv_at hl 0 rfl) ?_
  refine lv_iload_n hx hb d_Md_part_1 rfl (lv_at hl 1 rfl) ?_
  obtain ⟨y2, hy, h⟩ := o_bd h
  refine kdV (nn := 24) (rest := []) (w' := (cMd cI cJ cZ a mb mg mx mf)) (wr := ([] : va_W)) (st1 := [.int y2]) ⟨hx, hb, hml, hown, hts⟩ (c_Md_isNode l dC dI cI cJ cZ a x1 mb mg mx mf y2 hy) (cwV 1 hts (gd_V tw821 tw823 ps21 tw9 tw824) rfl rfl rfl hd_Md_isNode ⟨Nat.le_of_ble_eq_true rfl, Nat.le_of_ble_eq_true rfl⟩) hNw hK hP hD hS hA (ci := 7) rfl rfl rfl [0, 1, 2, 3, 4, 5, 6, 7, 8, 9, 10, 11, 12, 13, 14, 15, 16, 17, 18, 19, 20, 21, 22, 23] [] rfl rfl rfl rfl rfl (by decide +kernel) (by decide +kernel) rfl hl.1 rfl (Nat.le_of_ble_eq_true rfl) rfl d_Md_part_2 ⟨Nat.zero_le _, Nat.zero_le _⟩ (fun H locs hP hD hS => ?_)
  refine lv_if_eq (tgt := 12) hx hb d_Md_part_5 (by decide) (fun hc => ?_) (fun hc => ?_)
  · have h := o_t hc h
    refine lv_bipush (v := -2) hx hb d_Md_part_12 (by decide) ?_
    cases h
    exact kr_i hx hb hr hlocks hP hD hS d_Md_part_14
  · have h := o_f hc h
    refine lv_iload_n hx hb d_Md_part_8 rfl (lv_at hl 2 rfl) ?_
    refine lv_if_ge (tgt := 15) hx hb d_Md_part_9 (by decide) (fun hc => ?_) (fun hc => ?_)
    · have h := o_t hc h
      refine lv_aload_n hx hb d_Md_part_15 rfl (lv_at hl 0 rfl) ?_
      refine va_get (D := (dC, dI)) (ci := 7) (v := .ref (a 6)) (C := R_Md) (T := F_Md) (N := 35) hx hb hts inb_Md hown hK hP 0 rfl rfl 7 (by decide) (hts _ tw694) (fun _ h9 => h9) rfl d_Md_part_16 ?_
      refine lv_iload_n hx hb d_Md_part_19 rfl (lv_at hl 1 rfl) ?_
      obtain ⟨hin, h⟩ := o_in h
      refine va_iald hx hb hK hP 6 0 rfl rfl hin d_Md_part_20 ?_
      refine lv_istore_n (lv' := [(3, .int ((Mb_first mb) x1.toNatClampNeg)), (0, .ref (a 0)), (1, .int x1), (2, .int x2)]) hx hb d_Md_part_21 rfl hl (by decide) rfl (fun ls hl => ?_)
      refine lv_iconst (v := 0) hx hb d_Md_part_22 (by decide) ?_
      refine lv_istore (lv' := [(4, .int (0 : Int32)), (3, .int ((Mb_first mb) x1.toNatClampNeg)), (0, .ref (a 0)), (1, .int x1), (2, .int x2)]) hx hb d_Md_part_23 hl (by decide) rfl (fun ls hl => ?_)
      exact L25 x2 N (((Mb_first mb) x1.toNatClampNeg), (0 : Int32)) _ _ _ h hP hD hS (lv_sub hl [2, 4, 1, 0] rfl)
    · have h := o_f hc h
      refine lv_bipush (v := -2) hx hb d_Md_part_12 (by decide) ?_
      cases h
      exact kr_i hx hb hr hlocks hP hD hS d_Md_part_14
set_option maxHeartbeats 4000000 in
set_option maxRecDepth 100000 in
theorem c_Md_of (l : Launch) (dC : Nat → ClassId) (dI : Nat → Nat → Nat) (cI cJ cZ : ClassId) (a : Nat → Nat) (x1 : Int32) (mb : MbS) (mg : MgS) (mx : MxS) (mf : MfS) (res : Int32) (h : f_Md_of x1 mb mg = some res) :
    Kt l (dC, dI) classes [(cI, .int), (cJ, .long), (cZ, .boolean)] y_Md_of (wz y_Md_of b_Md_of 2 (some .int)) { frames := 0, cells := 0, slots := 0, locals := 0 } [.ref (a 0), .int x1] (cMd cI cJ cZ a mb mg mx mf) (some (.int res)) (cMd cI cJ cZ a mb mg mx mf) := by
  refine Kt_of (cc := b_Md_of) (maxL := 2) (ret := (some .int)) (by decide) (Nat.le_of_ble_eq_true rfl) ?_
  intro p e s m args below meth c A ls hx hb hr hml hlocks hown hts hNw hK hP hD hA hS hl
  have hl : lv_has ls 2 [(0, .ref (a 0)), (1, .int x1)] := hl
  have hP : va_P (dC, dI) classes (cMd cI cJ cZ a mb mg mx mf) s.heap := hP
  refine lv_iload_n hx hb d_Md_of_0 rfl (lv_at hl 1 rfl) ?_
  refine sw_by (x := x1) (k := 0) (fun hc => ?_) (fun hn0 => ?_)
  · have h := o_t hc h
    refine sw_in (x := x1) (k := 0) hc (lv_tableIn (tgt := 32) hx hb d_Md_of_1 (by decide) (by decide) (by rfl) (by decide) ?_)
    refine lv_aload_n hx hb d_Md_of_32 rfl (lv_at hl 0 rfl) ?_
    refine va_get (D := (dC, dI)) (ci := 7) (v := .int (Mb_nodes mb)) (C := R_Md) (T := F_Md) (N := 35) hx hb hts inb_Md hown hK hP 0 rfl rfl 2 (by decide) (hts _ tw689) (fun _ h9 => h9) rfl d_Md_of_33 ?_
    cases h
    exact kr_i hx hb hr hlocks hP hD hS d_Md_of_36
  · have h := o_f hn0 h
    refine sw_by (x := x1) (k := 1) (fun hc => ?_) (fun hn1 => ?_)
    · have h := o_t hc h
      refine sw_in (x := x1) (k := 1) hc (lv_tableIn (tgt := 37) hx hb d_Md_of_1 (by decide) (by decide) (by rfl) (by decide) ?_)
      refine lv_aload_n hx hb d_Md_of_37 rfl (lv_at hl 0 rfl) ?_
      refine va_get (D := (dC, dI)) (ci := 7) (v := .int (Mb_kinds mb)) (C := R_Md) (T := F_Md) (N := 35) hx hb hts inb_Md hown hK hP 0 rfl rfl 0 (by decide) (hts _ tw687) (fun _ h9 => h9) rfl d_Md_of_38 ?_
      cases h
      exact kr_i hx hb hr hlocks hP hD hS d_Md_of_41
    · have h := o_f hn1 h
      refine sw_by (x := x1) (k := 2) (fun hc => ?_) (fun hn2 => ?_)
      · have h := o_t hc h
        refine sw_in (x := x1) (k := 2) hc (lv_tableIn (tgt := 42) hx hb d_Md_of_1 (by decide) (by decide) (by rfl) (by decide) ?_)
        refine lv_aload_n hx hb d_Md_of_42 rfl (lv_at hl 0 rfl) ?_
        refine va_get (D := (dC, dI)) (ci := 7) (v := .int (Mb_rowKind mb)) (C := R_Md) (T := F_Md) (N := 35) hx hb hts inb_Md hown hK hP 0 rfl rfl 14 (by decide) (hts _ tw701) (fun _ h9 => h9) rfl d_Md_of_43 ?_
        refine lv_iconst (v := -1) hx hb d_Md_of_46 (by decide) ?_
        refine lv_icmp_ne (tgt := 54) hx hb d_Md_of_47 (by decide) (fun hc => ?_) (fun hc => ?_)
        · have h := o_f hc h
          refine lv_aload_n hx hb d_Md_of_54 rfl (lv_at hl 0 rfl) ?_
          refine va_get (D := (dC, dI)) (ci := 7) (v := .int (Mb_rowCount mb)) (C := R_Md) (T := F_Md) (N := 35) hx hb hts inb_Md hown hK hP 0 rfl rfl 17 (by decide) (hts _ tw704) (fun _ h9 => h9) rfl d_Md_of_55 ?_
          cases h
          exact kr_i hx hb hr hlocks hP hD hS d_Md_of_58
        · have h := o_t hc h
          refine lv_iconst (v := -1) hx hb d_Md_of_50 (by decide) ?_
          refine lv_goto (tgt := 58) hx hb d_Md_of_51 (by decide) ?_
          cases h
          exact kr_i hx hb hr hlocks hP hD hS d_Md_of_58
      · have h := o_f hn2 h
        refine sw_by (x := x1) (k := 3) (fun hc => ?_) (fun hn3 => ?_)
        · have h := o_t hc h
          refine sw_in (x := x1) (k := 3) hc (lv_tableIn (tgt := 59) hx hb d_Md_of_1 (by decide) (by decide) (by rfl) (by decide) ?_)
          refine lv_aload_n hx hb d_Md_of_59 rfl (lv_at hl 0 rfl) ?_
          refine va_get (D := (dC, dI)) (ci := 7) (v := .int (Mg_root mg)) (C := R_Md) (T := F_Md) (N := 35) hx hb hts inb_Md hown hK hP 0 rfl rfl 18 (by decide) (hts _ tw705) (fun _ h9 => h9) rfl d_Md_of_60 ?_
          cases h
          exact kr_i hx hb hr hlocks hP hD hS d_Md_of_63
        · have h := o_f hn3 h
          refine lv_tableOut (tgt := 64) hx hb d_Md_of_1 (by have g0 := sw_ne hn0 (show (0 : Int32).toInt = 0 by decide); have g1 := sw_ne hn1 (show (1 : Int32).toInt = 1 by decide); have g2 := sw_ne hn2 (show (2 : Int32).toInt = 2 by decide); have g3 := sw_ne hn3 (show (3 : Int32).toInt = 3 by decide); omega) (by decide) ?_
          refine lv_bipush (v := -2) hx hb d_Md_of_64 (by decide) ?_
          cases h
          exact kr_i hx hb hr hlocks hP hD hS d_Md_of_66
