set_option maxHeartbeats 4000000 in
set_option maxRecDepth 100000 in
theorem c_Md_begin (l : Launch) (dC : Nat → ClassId) (dI : Nat → Nat → Nat) (cI cJ cZ : ClassId) (a : Nat → Nat) (mb : MbS) (mg : MgS) (mx : MxS) (mf : MfS) (res : MbS × MgS) (h : f_Md_begin mb mg = some res) :
    Kt l (dC, dI) classes [(cI, .int), (cJ, .long), (cZ, .boolean)] y_Md_begin (wz y_Md_begin b_Md_begin 1 none) { frames := 0, cells := 0, slots := 0, locals := 0 } [.ref (a 0)] (cMd cI cJ cZ a mb mg mx mf) none (cMd cI cJ cZ a res.1 res.2 mx mf) := by
  refine Kt_of (cc := b_Md_begin) (maxL := 1) (ret := none) (by decide) (Nat.le_of_ble_eq_true rfl) ?_
  intro p e s m args below meth c A ls hx hb hr hml hlocks hown hts hNw hK hP hD hA hS hl
  have hl : lv_has ls 1 [(0, .ref (a 0))] := hl
  have hP : va_P (dC, dI) classes (cMd cI cJ cZ a mb mg mx mf) s.heap := hP
  refine lv_aload_n hx hb d_Md_begin_0 rfl (lv_at hl 0 rfl) ?_
  refine lv_iconst (v := 4) hx hb d_Md_begin_1 (by decide) ?_
  refine va_put (D := (dC, dI)) (ci := 7) (v := .int (4 : Int32)) (ty := .int) (C := R_Md) (T := F_Md) (N := 35) hx hb hts inb_Md ft_Md ft_Md_ok n_Md hown hK hP hD hS 0 rfl rfl 0 (by decide) (hts _ tw687) (fun _ h9 => h9) rfl (by decide +kernel) rfl rfl (Nat.le_of_ble_eq_true rfl) d_Md_begin_2 (fun H locs hP hD hS => ?_)
  have hP : va_P (dC, dI) classes (cMd cI cJ cZ a ((4 : Int32), (Mb_above mb), (Mb_nodes mb), (Mb_sort mb), (Mb_given mb), (Mb_partOf mb), (Mb_mark mb), (Mb_first mb), (Mb_last mb), (Mb_next mb), (Mb_before mb), (Mb_hasEnding mb), (Mb_endMark mb), (Mb_inRow mb), (Mb_rowKind mb), (Mb_rowFirst mb), (Mb_rowLast mb), (Mb_rowCount mb)) mg mx mf) H := hP
  have hD : va_D A (cMd cI cJ cZ a ((4 : Int32), (Mb_above mb), (Mb_nodes mb), (Mb_sort mb), (Mb_given mb), (Mb_partOf mb), (Mb_mark mb), (Mb_first mb), (Mb_last mb), (Mb_next mb), (Mb_before mb), (Mb_hasEnding mb), (Mb_endMark mb), (Mb_inRow mb), (Mb_rowKind mb), (Mb_rowFirst mb), (Mb_rowLast mb), (Mb_rowCount mb)) mg mx mf) := hD
  refine lv_aload_n hx hb d_Md_begin_5 rfl (lv_at hl 0 rfl) ?_
  refine va_get (D := (dC, dI)) (ci := 7) (v := .ref (a 1)) (C := R_Md) (T := F_Md) (N := 35) hx hb hts inb_Md hown hK hP 0 rfl rfl 1 (by decide) (hts _ tw688) (fun _ h9 => h9) rfl d_Md_begin_6 ?_
  refine lv_iconst (v := 0) hx hb d_Md_begin_9 (by decide) ?_
  refine lv_iconst (v := -1) hx hb d_Md_begin_10 (by decide) ?_
  obtain ⟨hin, h⟩ := o_in h
  refine va_iast hx hb hK hP hD hS 1 0 rfl rfl hin d_Md_begin_11 (fun H locs hP hD hS => ?_)
  have hP : va_P (dC, dI) classes (cMd cI cJ cZ a ((4 : Int32), (upd (Mb_above mb) (0 : Int32).toNatClampNeg (-1 : Int32)), (Mb_nodes mb), (Mb_sort mb), (Mb_given mb), (Mb_partOf mb), (Mb_mark mb), (Mb_first mb), (Mb_last mb), (Mb_next mb), (Mb_before mb), (Mb_hasEnding mb), (Mb_endMark mb), (Mb_inRow mb), (Mb_rowKind mb), (Mb_rowFirst mb), (Mb_rowLast mb), (Mb_rowCount mb)) mg mx mf) H := hP
  have hD : va_D A (cMd cI cJ cZ a ((4 : Int32), (upd (Mb_above mb) (0 : Int32).toNatClampNeg (-1 : Int32)), (Mb_nodes mb), (Mb_sort mb), (Mb_given mb), (Mb_partOf mb), (Mb_mark mb), (Mb_first mb), (Mb_last mb), (Mb_next mb), (Mb_before mb), (Mb_hasEnding mb), (Mb_endMark mb), (Mb_inRow mb), (Mb_rowKind mb), (Mb_rowFirst mb), (Mb_rowLast mb), (Mb_rowCount mb)) mg mx mf) := hD
  refine lv_aload_n hx hb d_Md_begin_12 rfl (lv_at hl 0 rfl) ?_
  refine va_get (D := (dC, dI)) (ci := 7) (v := .ref (a 1)) (C := R_Md) (T := F_Md) (N := 35) hx hb hts inb_Md hown hK hP 0 rfl rfl 1 (by decide) (hts _ tw688) (fun _ h9 => h9) rfl d_Md_begin_13 ?_
  refine lv_iconst (v := 1) hx hb d_Md_begin_16 (by decide) ?_
  refine lv_iconst (v := 0) hx hb d_Md_begin_17 (by decide) ?_
  obtain ⟨hin, h⟩ := o_in h
  refine va_iast hx hb hK hP hD hS 1 0 rfl rfl hin d_Md_begin_18 (fun H locs hP hD hS => ?_)
  have hP : va_P (dC, dI) classes (cMd cI cJ cZ a ((4 : Int32), (upd (upd (Mb_above mb) (0 : Int32).toNatClampNeg (-1 : Int32)) (1 : Int32).toNatClampNeg (0 : Int32)), (Mb_nodes mb), (Mb_sort mb), (Mb_given mb), (Mb_partOf mb), (Mb_mark mb), (Mb_first mb), (Mb_last mb), (Mb_next mb), (Mb_before mb), (Mb_hasEnding mb), (Mb_endMark mb), (Mb_inRow mb), (Mb_rowKind mb), (Mb_rowFirst mb), (Mb_rowLast mb), (Mb_rowCount mb)) mg mx mf) H := hP
  have hD : va_D A (cMd cI cJ cZ a ((4 : Int32), (upd (upd (Mb_above mb) (0 : Int32).toNatClampNeg (-1 : Int32)) (1 : Int32).toNatClampNeg (0 : Int32)), (Mb_nodes mb), (Mb_sort mb), (Mb_given mb), (Mb_partOf mb), (Mb_mark mb), (Mb_first mb), (Mb_last mb), (Mb_next mb), (Mb_before mb), (Mb_hasEnding mb), (Mb_endMark mb), (Mb_inRow mb), (Mb_rowKind mb), (Mb_rowFirst mb), (Mb_rowLast mb), (Mb_rowCount mb)) mg mx mf) := hD
  refine lv_aload_n hx hb d_Md_begin_19 rfl (lv_at hl 0 rfl) ?_
  refine va_get (D := (dC, dI)) (ci := 7) (v := .ref (a 1)) (C := R_Md) (T := F_Md) (N := 35) hx hb hts inb_Md hown hK hP 0 rfl rfl 1 (by decide) (hts _ tw688) (fun _ h9 => h9) rfl d_Md_begin_20 ?_
  refine lv_iconst (v := 2) hx hb d_Md_begin_23 (by decide) ?_
  refine lv_iconst (v := 1) hx hb d_Md_begin_24 (by decide) ?_
  obtain ⟨hin, h⟩ := o_in h
  refine va_iast hx hb hK hP hD hS 1 0 rfl rfl hin d_Md_begin_25 (fun H locs hP hD hS => ?_)
  have hP : va_P (dC, dI) classes (cMd cI cJ cZ a ((4 : Int32), (upd (upd (upd (Mb_above mb) (0 : Int32).toNatClampNeg (-1 : Int32)) (1 : Int32).toNatClampNeg (0 : Int32)) (2 : Int32).toNatClampNeg (1 : Int32)), (Mb_nodes mb), (Mb_sort mb), (Mb_given mb), (Mb_partOf mb), (Mb_mark mb), (Mb_first mb), (Mb_last mb), (Mb_next mb), (Mb_before mb), (Mb_hasEnding mb), (Mb_endMark mb), (Mb_inRow mb), (Mb_rowKind mb), (Mb_rowFirst mb), (Mb_rowLast mb), (Mb_rowCount mb)) mg mx mf) H := hP
  have hD : va_D A (cMd cI cJ cZ a ((4 : Int32), (upd (upd (upd (Mb_above mb) (0 : Int32).toNatClampNeg (-1 : Int32)) (1 : Int32).toNatClampNeg (0 : Int32)) (2 : Int32).toNatClampNeg (1 : Int32)), (Mb_nodes mb), (Mb_sort mb), (Mb_given mb), (Mb_partOf mb), (Mb_mark mb), (Mb_first mb), (Mb_last mb), (Mb_next mb), (Mb_before mb), (Mb_hasEnding mb), (Mb_endMark mb), (Mb_inRow mb), (Mb_rowKind mb), (Mb_rowFirst mb), (Mb_rowLast mb), (Mb_rowCount mb)) mg mx mf) := hD
  refine lv_aload_n hx hb d_Md_begin_26 rfl (lv_at hl 0 rfl) ?_
  refine va_get (D := (dC, dI)) (ci := 7) (v := .ref (a 1)) (C := R_Md) (T := F_Md) (N := 35) hx hb hts inb_Md hown hK hP 0 rfl rfl 1 (by decide) (hts _ tw688) (fun _ h9 => h9) rfl d_Md_begin_27 ?_
  refine lv_iconst (v := 3) hx hb d_Md_begin_30 (by decide) ?_
  refine lv_iconst (v := 0) hx hb d_Md_begin_31 (by decide) ?_
  obtain ⟨hin, h⟩ := o_in h
  refine va_iast hx hb hK hP hD hS 1 0 rfl rfl hin d_Md_begin_32 (fun H locs hP hD hS => ?_)
  have hP : va_P (dC, dI) classes (cMd cI cJ cZ a ((4 : Int32), (upd (upd (upd (upd (Mb_above mb) (0 : Int32).toNatClampNeg (-1 : Int32)) (1 : Int32).toNatClampNeg (0 : Int32)) (2 : Int32).toNatClampNeg (1 : Int32)) (3 : Int32).toNatClampNeg (0 : Int32)), (Mb_nodes mb), (Mb_sort mb), (Mb_given mb), (Mb_partOf mb), (Mb_mark mb), (Mb_first mb), (Mb_last mb), (Mb_next mb), (Mb_before mb), (Mb_hasEnding mb), (Mb_endMark mb), (Mb_inRow mb), (Mb_rowKind mb), (Mb_rowFirst mb), (Mb_rowLast mb), (Mb_rowCount mb)) mg mx mf) H := hP
  have hD : va_D A (cMd cI cJ cZ a ((4 : Int32), (upd (upd (upd (upd (Mb_above mb) (0 : Int32).toNatClampNeg (-1 : Int32)) (1 : Int32).toNatClampNeg (0 : Int32)) (2 : Int32).toNatClampNeg (1 : Int32)) (3 : Int32).toNatClampNeg (0 : Int32)), (Mb_nodes mb), (Mb_sort mb), (Mb_given mb), (Mb_partOf mb), (Mb_mark mb), (Mb_first mb), (Mb_last mb), (Mb_next mb), (Mb_before mb), (Mb_hasEnding mb), (Mb_endMark mb), (Mb_inRow mb), (Mb_rowKind mb), (Mb_rowFirst mb), (Mb_rowLast mb), (Mb_rowCount mb)) mg mx mf) := hD
  refine lv_aload_n hx hb d_Md_begin_33 rfl (lv_at hl 0 rfl) ?_
  refine lv_iconst (v := 0) hx hb d_Md_begin_34 (by decide) ?_
  refine va_put (D := (dC, dI)) (ci := 7) (v := .int (0 : Int32)) (ty := .int) (C := R_Md) (T := F_Md) (N := 35) hx hb hts inb_Md ft_Md ft_Md_ok n_Md hown hK hP hD hS 0 rfl rfl 2 (by decide) (hts _ tw689) (fun _ h9 => h9) rfl (by decide +kernel) rfl rfl (Nat.le_of_ble_eq_true rfl) d_Md_begin_35 (fun H locs hP hD hS => ?_)
  have hP : va_P (dC, dI) classes (cMd cI cJ cZ a ((4 : Int32), (upd (upd (upd (upd (Mb_above mb) (0 : Int32).toNatClampNeg (-1 : Int32)) (1 : Int32).toNatClampNeg (0 : Int32)) (2 : Int32).toNatClampNeg (1 : Int32)) (3 : Int32).toNatClampNeg (0 : Int32)), (0 : Int32), (Mb_sort mb), (Mb_given mb), (Mb_partOf mb), (Mb_mark mb), (Mb_first mb), (Mb_last mb), (Mb_next mb), (Mb_before mb), (Mb_hasEnding mb), (Mb_endMark mb), (Mb_inRow mb), (Mb_rowKind mb), (Mb_rowFirst mb), (Mb_rowLast mb), (Mb_rowCount mb)) mg mx mf) H := hP
  have hD : va_D A (cMd cI cJ cZ a ((4 : Int32), (upd (upd (upd (upd (Mb_above mb) (0 : Int32).toNatClampNeg (-1 : Int32)) (1 : Int32).toNatClampNeg (0 : Int32)) (2 : Int32).toNatClampNeg (1 : Int32)) (3 : Int32).toNatClampNeg (0 : Int32)), (0 : Int32), (Mb_sort mb), (Mb_given mb), (Mb_partOf mb), (Mb_mark mb), (Mb_first mb), (Mb_last mb), (Mb_next mb), (Mb_before mb), (Mb_hasEnding mb), (Mb_endMark mb), (Mb_inRow mb), (Mb_rowKind mb), (Mb_rowFirst mb), (Mb_rowLast mb), (Mb_rowCount mb)) mg mx mf) := hD
  refine lv_aload_n hx hb d_Md_begin_38 rfl (lv_at hl 0 rfl) ?_
  refine lv_iconst (v := -1) hx hb d_Md_begin_39 (by decide) ?_
  refine va_put (D := (dC, dI)) (ci := 7) (v := .int (-1 : Int32)) (ty := .int) (C := R_Md) (T := F_Md) (N := 35) hx hb hts inb_Md ft_Md ft_Md_ok n_Md hown hK hP hD hS 0 rfl rfl 14 (by decide) (hts _ tw701) (fun _ h9 => h9) rfl (by decide +kernel) rfl rfl (Nat.le_of_ble_eq_true rfl) d_Md_begin_40 (fun H locs hP hD hS => ?_)
  have hP : va_P (dC, dI) classes (cMd cI cJ cZ a ((4 : Int32), (upd (upd (upd (upd (Mb_above mb) (0 : Int32).toNatClampNeg (-1 : Int32)) (1 : Int32).toNatClampNeg (0 : Int32)) (2 : Int32).toNatClampNeg (1 : Int32)) (3 : Int32).toNatClampNeg (0 : Int32)), (0 : Int32), (Mb_sort mb), (Mb_given mb), (Mb_partOf mb), (Mb_mark mb), (Mb_first mb), (Mb_last mb), (Mb_next mb), (Mb_before mb), (Mb_hasEnding mb), (Mb_endMark mb), (Mb_inRow mb), (-1 : Int32), (Mb_rowFirst mb), (Mb_rowLast mb), (Mb_rowCount mb)) mg mx mf) H := hP
  have hD : va_D A (cMd cI cJ cZ a ((4 : Int32), (upd (upd (upd (upd (Mb_above mb) (0 : Int32).toNatClampNeg (-1 : Int32)) (1 : Int32).toNatClampNeg (0 : Int32)) (2 : Int32).toNatClampNeg (1 : Int32)) (3 : Int32).toNatClampNeg (0 : Int32)), (0 : Int32), (Mb_sort mb), (Mb_given mb), (Mb_partOf mb), (Mb_mark mb), (Mb_first mb), (Mb_last mb), (Mb_next mb), (Mb_before mb), (Mb_hasEnding mb), (Mb_endMark mb), (Mb_inRow mb), (-1 : Int32), (Mb_rowFirst mb), (Mb_rowLast mb), (Mb_rowCount mb)) mg mx mf) := hD
  refine lv_aload_n hx hb d_Md_begin_43 rfl (lv_at hl 0 rfl) ?_
  refine lv_iconst (v := -1) hx hb d_Md_begin_44 (by decide) ?_
  refine va_put (D := (dC, dI)) (ci := 7) (v := .int (-1 : Int32)) (ty := .int) (C := R_Md) (T := F_Md) (N := 35) hx hb hts inb_Md ft_Md ft_Md_ok n_Md hown hK hP hD hS 0 rfl rfl 18 (by decide) (hts _ tw705) (fun _ h9 => h9) rfl (by decide +kernel) rfl rfl (Nat.le_of_ble_eq_true rfl) d_Md_begin_45 (fun H locs hP hD hS => ?_)
  have hP : va_P (dC, dI) classes (cMd cI cJ cZ a ((4 : Int32), (upd (upd (upd (upd (Mb_above mb) (0 : Int32).toNatClampNeg (-1 : Int32)) (1 : Int32).toNatClampNeg (0 : Int32)) (2 : Int32).toNatClampNeg (1 : Int32)) (3 : Int32).toNatClampNeg (0 : Int32)), (0 : Int32), (Mb_sort mb), (Mb_given mb), (Mb_partOf mb), (Mb_mark mb), (Mb_first mb), (Mb_last mb), (Mb_next mb), (Mb_before mb), (Mb_hasEnding mb), (Mb_endMark mb), (Mb_inRow mb), (-1 : Int32), (Mb_rowFirst mb), (Mb_rowLast mb), (Mb_rowCount mb)) ((-1 : Int32), (Mg_rooted mg), (Mg_knownKinds mg), (Mg_order mg), (Mg_inRoot mg), (Mg_targets mg)) mx mf) H := hP
  have hD : va_D A (cMd cI cJ cZ a ((4 : Int32), (upd (upd (upd (upd (Mb_above mb) (0 : Int32).toNatClampNeg (-1 : Int32)) (1 : Int32).toNatClampNeg (0 : Int32)) (2 : Int32).toNatClampNeg (1 : Int32)) (3 : Int32).toNatClampNeg (0 : Int32)), (0 : Int32), (Mb_sort mb), (Mb_given mb), (Mb_partOf mb), (Mb_mark mb), (Mb_first mb), (Mb_last mb), (Mb_next mb), (Mb_before mb), (Mb_hasEnding mb), (Mb_endMark mb), (Mb_inRow mb), (-1 : Int32), (Mb_rowFirst mb), (Mb_rowLast mb), (Mb_rowCount mb)) ((-1 : Int32), (Mg_rooted mg), (Mg_knownKinds mg), (Mg_order mg), (Mg_inRoot mg), (Mg_targets mg)) mx mf) := hD
  cases h
  exact kr_v hx hb hr hlocks hP hD hS d_Md_begin_48
set_option maxHeartbeats 4000000 in
set_option maxRecDepth 100000 in
theorem c_Md_clear (l : Launch) (dC : Nat → ClassId) (dI : Nat → Nat → Nat) (cI cJ cZ : ClassId) (a : Nat → Nat) (mb : MbS) (mg : MgS) (mx : MxS) (mf : MfS) (res : Int32 × MbS × MgS) (h : f_Md_clear mb mg = some res) :
    Kt l (dC, dI) classes [(cI, .int), (cJ, .long), (cZ, .boolean)] y_Md_clear (wz y_Md_clear b_Md_clear 2 (some .int)) { frames := 1, cells := 0, slots := 0, locals := 20 } [.ref (a 0)] (cMd cI cJ cZ a mb mg mx mf) (some (.int res.1)) (cMd cI cJ cZ a res.2.1 res.2.2 mx mf) := by
  refine Kt_of (cc := b_Md_clear) (maxL := 2) (ret := (some .int)) (by decide) (Nat.le_of_ble_eq_true rfl) ?_
  intro p e s m args below meth c A ls hx hb hr hml hlocks hown hts hNw hK hP hD hA hS hl
  have hl : lv_has ls 2 [(0, .ref (a 0))] := hl
  have hP : va_P (dC, dI) classes (cMd cI cJ cZ a mb mg mx mf) s.heap := hP
  refine lv_aload_n hx hb d_Md_clear_0 rfl (lv_at hl 0 rfl) ?_
  refine va_get (D := (dC, dI)) (ci := 7) (v := .int (Mb_nodes mb)) (C := R_Md) (T := F_Md) (N := 35) hx hb hts inb_Md hown hK hP 0 rfl rfl 2 (by decide) (hts _ tw689) (fun _ h9 => h9) rfl d_Md_clear_1 ?_
  refine lv_istore_n (lv' := [(1, .int (Mb_nodes mb)), (0, .ref (a 0))]) hx hb d_Md_clear_4 rfl hl (by decide) rfl (fun ls hl => ?_)
  refine lv_aload_n hx hb d_Md_clear_5 rfl (lv_at hl 1 rfl) ?_
  obtain ⟨y6, hy, h⟩ := o_bd h
  refine kdV (nn := 24) (rest := []) (w' := (cMd cI cJ cZ a y6.1 y6.2 mx mf)) (wr := ([] : va_W)) (st1 := []) ⟨hx, hb, hml, hown, hts⟩ (c_Md_begin l dC dI cI cJ cZ a mb mg mx mf y6 hy) (cwV 0 hts (gd_V tw683 tw685 ps17 tw9 tw686) rfl rfl rfl hd_Md_begin ⟨Nat.le_of_ble_eq_true rfl, Nat.le_of_ble_eq_true rfl⟩) hNw hK hP hD hS hA (ci := 7) rfl rfl rfl [0, 1, 2, 3, 4, 5, 6, 7, 8, 9, 10, 11, 12, 13, 14, 15, 16, 17, 18, 19, 20, 21, 22, 23] [] rfl rfl rfl rfl rfl (by decide +kernel) (by decide +kernel) rfl hl.1 rfl (Nat.le_of_ble_eq_true rfl) rfl d_Md_clear_6 ⟨Nat.zero_le _, Nat.zero_le _⟩ (fun H locs hP hD hS => ?_)
  refine lv_iload_n hx hb d_Md_clear_9 rfl (lv_at hl 0 rfl) ?_
  cases h
  exact kr_i hx hb hr hlocks hP hD hS d_Md_clear_10
set_option maxHeartbeats 4000000 in
set_option maxRecDepth 100000 in
theorem c_Md_isIn (l : Launch) (dC : Nat → ClassId) (dI : Nat → Nat → Nat) (cI cJ cZ : ClassId) (a : Nat → Nat) (x0 : Int32) (x1 : Int32) (x2 : Int32) (res : Int32) (h : f_Md_isIn x0 x1 x2 = some res) :
    Kt l (dC, dI) classes [(cI, .int), (cJ, .long), (cZ, .boolean)] y_Md_isIn (wz y_Md_isIn b_Md_isIn 3 (some .boolean)) { frames := 0, cells := 0, slots := 0, locals := 0 } [.int x0, .int x1, .int x2] ([] : va_W) (some (.int res)) ([] : va_W) := by
  refine Kt_of (cc := b_Md_isIn) (maxL := 3) (ret := (some .boolean)) (by decide) (Nat.le_of_ble_eq_true rfl) ?_
  intro p e s m args below meth c A ls hx hb hr hml hlocks hown hts hNw hK hP hD hA hS hl
  have hl : lv_has ls 3 [(0, .int x0), (1, .int x1), (2, .int x2)] := hl
  have hP : va_P (dC, dI) classes ([] : va_W) s.heap := hP
  refine lv_iload_n hx hb d_Md_isIn_0 rfl (lv_at hl 0 rfl) ?_
  refine lv_iload_n hx hb d_Md_isIn_1 rfl (lv_at hl 1 rfl) ?_
  refine lv_icmp_lt (tgt := 14) hx hb d_Md_isIn_2 (by decide) (fun hc => ?_) (fun hc => ?_)
  · have h := o_t hc h
    refine lv_iconst (v := 0) hx hb d_Md_isIn_14 (by decide) ?_
    cases h
    exact kr_z hx hb hr (by decide) hlocks hP hD hS d_Md_isIn_15
  · have h := o_f hc h
    refine lv_iload_n hx hb d_Md_isIn_5 rfl (lv_at hl 0 rfl) ?_
    refine lv_iload_n hx hb d_Md_isIn_6 rfl (lv_at hl 2 rfl) ?_
    refine lv_icmp_gt (tgt := 14) hx hb d_Md_isIn_7 (by decide) (fun hc => ?_) (fun hc => ?_)
    · have h := o_t hc h
      refine lv_iconst (v := 0) hx hb d_Md_isIn_14 (by decide) ?_
      cases h
      exact kr_z hx hb hr (by decide) hlocks hP hD hS d_Md_isIn_15
    · have h := o_f hc h
      refine lv_iconst (v := 1) hx hb d_Md_isIn_10 (by decide) ?_
      refine lv_goto (tgt := 15) hx hb d_Md_isIn_11 (by decide) ?_
      cases h
      exact kr_z hx hb hr (by decide) hlocks hP hD hS d_Md_isIn_15
set_option maxHeartbeats 4000000 in
set_option maxRecDepth 100000 in
theorem c_Md_isKind (l : Launch) (dC : Nat → ClassId) (dI : Nat → Nat → Nat) (cI cJ cZ : ClassId) (a : Nat → Nat) (x1 : Int32) (mb : MbS) (mg : MgS) (mx : MxS) (mf : MfS) (res : Int32) (h : f_Md_isKind x1 mb = some res) :
    Kt l (dC, dI) classes [(cI, .int), (cJ, .long), (cZ, .boolean)] y_Md_isKind (wz y_Md_isKind b_Md_isKind 2 (some .boolean)) { frames := 1, cells := 0, slots := 0, locals := 22 } [.ref (a 0), .int x1] (cMd cI cJ cZ a mb mg mx mf) (some (.int res)) (cMd cI cJ cZ a mb mg mx mf) := by
  refine Kt_of (cc := b_Md_isKind) (maxL := 2) (ret := (some .boolean)) (by decide) (Nat.le_of_ble_eq_true rfl) ?_
  intro p e s m args below meth c A ls hx hb hr hml hlocks hown hts hNw hK hP hD hA hS hl
  have hl : lv_has ls 2 [(0, .ref (a 0)), (1, .int x1)] := hl
  have hP : va_P (dC, dI) classes (cMd cI cJ cZ a mb mg mx mf) s.heap := hP
  refine lv_iload_n hx hb d_Md_isKind_0 rfl (lv_at hl 1 rfl) ?_
  refine lv_iconst (v := 0) hx hb d_Md_isKind_1 (by decide) ?_
  refine lv_aload_n hx hb d_Md_isKind_2 rfl (lv_at hl 0 rfl) ?_
  refine va_get (D := (dC, dI)) (ci := 7) (v := .int (Mb_kinds mb)) (C := R_Md) (T := F_Md) (N := 35) hx hb hts inb_Md hown hK hP 0 rfl rfl 0 (by decide) (hts _ tw687) (fun _ h9 => h9) rfl d_Md_isKind_3 ?_
  refine lv_iconst (v := 1) hx hb d_Md_isKind_6 (by decide) ?_
  refine lv_isub hx hb d_Md_isKind_7 ?_
  obtain ⟨y8, hy, h⟩ := o_bd h
  refine kdS (nn := 24) (rest := []) (w' := (cMd cI cJ cZ a mb mg mx mf)) (wr := (cMd cI cJ cZ a mb mg mx mf)) (st1 := [.int y8]) ⟨hx, hb, hml, hown, hts⟩ (c_Md_isIn l dC dI cI cJ cZ a x1 (0 : Int32) ((Mb_kinds mb) - (1 : Int32)) y8 hy) (va_cwS 3 hts (gd_S tw806 tw807 tw9 tw808) rfl rfl rfl hd_Md_isIn.2 ⟨Nat.le_of_ble_eq_true rfl, Nat.le_of_ble_eq_true rfl⟩) hNw hK hP hD hS hA [] [0, 1, 2, 3, 4, 5, 6, 7, 8, 9, 10, 11, 12, 13, 14, 15, 16, 17, 18, 19, 20, 21, 22, 23] rfl rfl rfl rfl rfl (by decide +kernel) (by decide +kernel) rfl hl.1 rfl (Nat.le_of_ble_eq_true rfl) rfl d_Md_isKind_8 ⟨Nat.zero_le _, Nat.zero_le _⟩ (fun H locs hP hD hS => ?_)
  obtain ⟨hbo, h⟩ := o_bo h
  cases h
  exact kr_z hx hb hr hbo hlocks hP hD hS d_Md_isKind_11
set_option maxHeartbeats 4000000 in
set_option maxRecDepth 100000 in
theorem c_Md_isNode (l : Launch) (dC : Nat → ClassId) (dI : Nat → Nat → Nat) (cI cJ cZ : ClassId) (a : Nat → Nat) (x1 : Int32) (mb : MbS) (mg : MgS) (mx : MxS) (mf : MfS) (res : Int32) (h : f_Md_isNode x1 mb = some res) :
    Kt l (dC, dI) classes [(cI, .int), (cJ, .long), (cZ, .boolean)] y_Md_isNode (wz y_Md_isNode b_Md_isNode 2 (some .boolean)) { frames := 1, cells := 0, slots := 0, locals := 22 } [.ref (a 0), .int x1] (cMd cI cJ cZ a mb mg mx mf) (some (.int res)) (cMd cI cJ cZ a mb mg mx mf) := by
  refine Kt_of (cc := b_Md_isNode) (maxL := 2) (ret := (some .boolean)) (by decide) (Nat.le_of_ble_eq_true rfl) ?_
  intro p e s m args below meth c A ls hx hb hr hml hlocks hown hts hNw hK hP hD hA hS hl
  have hl : lv_has ls 2 [(0, .ref (a 0)), (1, .int x1)] := hl
  have hP : va_P (dC, dI) classes (cMd cI cJ cZ a mb mg mx mf) s.heap := hP
  refine lv_iload_n hx hb d_Md_isNode_0 rfl (lv_at hl 1 rfl) ?_
  refine lv_iconst (v := 0) hx hb d_Md_isNode_1 (by decide) ?_
  refine lv_aload_n hx hb d_Md_isNode_2 rfl (lv_at hl 0 rfl) ?_
  refine va_get (D := (dC, dI)) (ci := 7) (v := .int (Mb_nodes mb)) (C := R_Md) (T := F_Md) (N := 35) hx hb hts inb_Md hown hK hP 0 rfl rfl 2 (by decide) (hts _ tw689) (fun _ h9 => h9) rfl d_Md_isNode_3 ?_
  refine lv_iconst (v := 1) hx hb d_Md_isNode_6 (by decide) ?_
  refine lv_isub hx hb d_Md_isNode_7 ?_
  obtain ⟨y8, hy, h⟩ := o_bd h
  refine kdS (nn := 24) (rest := []) (w' := (cMd cI cJ cZ a mb mg mx mf)) (wr := (cMd cI cJ cZ a mb mg mx mf)) (st1 := [.int y8]) ⟨hx, hb, hml, hown, hts⟩ (c_Md_isIn l dC dI cI cJ cZ a x1 (0 : Int32) ((Mb_nodes mb) - (1 : Int32)) y8 hy) (va_cwS 3 hts (gd_S tw806 tw807 tw9 tw808) rfl rfl rfl hd_Md_isIn.2 ⟨Nat.le_of_ble_eq_true rfl, Nat.le_of_ble_eq_true rfl⟩) hNw hK hP hD hS hA [] [0, 1, 2, 3, 4, 5, 6, 7, 8, 9, 10, 11, 12, 13, 14, 15, 16, 17, 18, 19, 20, 21, 22, 23] rfl rfl rfl rfl rfl (by decide +kernel) (by decide +kernel) rfl hl.1 rfl (Nat.le_of_ble_eq_true rfl) rfl d_Md_isNode_8 ⟨Nat.zero_le _, Nat.zero_le _⟩ (fun H locs hP hD hS => ?_)
  obtain ⟨hbo, h⟩ := o_bo h
  cases h
  exact kr_z hx hb hr hbo hlocks hP hD hS d_Md_isNode_11
set_option maxHeartbeats 4000000 in
set_option maxRecDepth 100000 in
theorem c_Md_isFree (l : Launch) (dC : Nat → ClassId) (dI : Nat → Nat → Nat) (cI cJ cZ : ClassId) (a : Nat → Nat) (x1 : Int32) (mb : MbS) (mg : MgS) (mx : MxS) (mf : MfS) (res : Int32) (h : f_Md_isFree x1 mb = some res) :
    Kt l (dC, dI) classes [(cI, .int), (cJ, .long), (cZ, .boolean)] y_Md_isFree (wz y_Md_isFree b_Md_isFree 2 (some .boolean)) { frames := 2, cells := 0, slots := 0, locals := 43 } [.ref (a 0), .int x1] (cMd cI cJ cZ a mb mg mx mf) (some (.int res)) (cMd cI cJ cZ a mb mg mx mf) := by
  refine Kt_of (cc := b_Md_isFree) (maxL := 2) (ret := (some .boolean)) (by decide) (Nat.le_of_ble_eq_true rfl) ?_
  intro p e s m args below meth c A ls hx hb hr hml hlocks hown hts hNw hK hP hD hA hS hl
  have hl : lv_has ls 2 [(0, .ref (a 0)), (1, .int x1)] := hl
  have hP : va_P (dC, dI) classes (cMd cI cJ cZ a mb mg mx mf) s.heap := hP
  refine lv_aload_n hx hb d_Md_isFree_0 rfl (lv_at hl 0 rfl) ?_
  refine lv_iload_n hx hb d_Md_isFree_1 rfl (lv_at hl 1 rfl) ?_
  obtain ⟨y2, hy, h⟩ := o_bd h
  refine kdV (nn := 24) (rest := []) (w' := (cMd cI cJ cZ a mb mg mx mf)) (wr := ([] : va_W)) (st1 := [.int y2]) ⟨hx, hb, hml, hown, hts⟩ (c_Md_isNode l dC dI cI cJ cZ a x1 mb mg mx mf y2 hy) (cwV 1 hts (gd_V tw821 tw823 ps21 tw9 tw824) rfl rfl rfl hd_Md_isNode ⟨Nat.le_of_ble_eq_true rfl, Nat.le_of_ble_eq_true rfl⟩) hNw hK hP hD hS hA (ci := 7) rfl rfl rfl [0, 1, 2, 3, 4, 5, 6, 7, 8, 9, 10, 11, 12, 13, 14, 15, 16, 17, 18, 19, 20, 21, 22, 23] [] rfl rfl rfl rfl rfl (by decide +kernel) (by decide +kernel) rfl hl.1 rfl (Nat.le_of_ble_eq_true rfl) rfl d_Md_isFree_2 ⟨Nat.zero_le _, Nat.zero_le _⟩ (fun H locs hP hD hS => ?_)
  refine lv_if_eq (tgt := 31) hx hb d_Md_isFree_5 (by decide) (fun hc => ?_) (fun hc => ?_)
  · have h := o_t hc h
    refine lv_iconst (v := 0) hx hb d_Md_isFree_31 (by decide) ?_
    cases h
    exact kr_z hx hb hr (by decide) hlocks hP hD hS d_Md_isFree_32
  · have h := o_f hc h
    refine lv_aload_n hx hb d_Md_isFree_8 rfl (lv_at hl 0 rfl) ?_
    refine va_get (D := (dC, dI)) (ci := 7) (v := .ref (a 4)) (C := R_Md) (T := F_Md) (N := 35) hx hb hts inb_Md hown hK hP 0 rfl rfl 5 (by decide) (hts _ tw692) (fun _ h9 => h9) rfl d_Md_isFree_9 ?_
    refine lv_iload_n hx hb d_Md_isFree_12 rfl (lv_at hl 1 rfl) ?_
    obtain ⟨hin, h⟩ := o_in h
    refine va_iald hx hb hK hP 4 0 rfl rfl hin d_Md_isFree_13 ?_
    refine lv_iconst (v := -1) hx hb d_Md_isFree_14 (by decide) ?_
    refine lv_icmp_ne (tgt := 31) hx hb d_Md_isFree_15 (by decide) (fun hc => ?_) (fun hc => ?_)
    · have h := o_f hc h
      refine lv_iconst (v := 0) hx hb d_Md_isFree_31 (by decide) ?_
      cases h
      exact kr_z hx hb hr (by decide) hlocks hP hD hS d_Md_isFree_32
    · have h := o_t hc h
      refine lv_aload_n hx hb d_Md_isFree_18 rfl (lv_at hl 0 rfl) ?_
      refine va_get (D := (dC, dI)) (ci := 7) (v := .ref (a 12)) (C := R_Md) (T := F_Md) (N := 35) hx hb hts inb_Md hown hK hP 0 rfl rfl 13 (by decide) (hts _ tw700) (fun _ h9 => h9) rfl d_Md_isFree_19 ?_
      refine lv_iload_n hx hb d_Md_isFree_22 rfl (lv_at hl 1 rfl) ?_
      obtain ⟨hin, h⟩ := o_in h
      refine va_zald hx hb hK hP 12 2 rfl rfl hin d_Md_isFree_23 ?_
      refine lv_if_ne (tgt := 31) hx hb d_Md_isFree_24 (by decide) (fun hc => ?_) (fun hc => ?_)
      · have h := o_f hc h
        refine lv_iconst (v := 0) hx hb d_Md_isFree_31 (by decide) ?_
        cases h
        exact kr_z hx hb hr (by decide) hlocks hP hD hS d_Md_isFree_32
      · have h := o_t hc h
        refine lv_iconst (v := 1) hx hb d_Md_isFree_27 (by decide) ?_
        refine lv_goto (tgt := 32) hx hb d_Md_isFree_28 (by decide) ?_
        cases h
        exact kr_z hx hb hr (by decide) hlocks hP hD hS d_Md_isFree_32
set_option maxHeartbeats 4000000 in
set_option maxRecDepth 100000 in
theorem c_Md_isBelow (l : Launch) (dC : Nat → ClassId) (dI : Nat → Nat → Nat) (cI cJ cZ : ClassId) (a : Nat → Nat) (N : Nat) (x1 : Int32) (x2 : Int32) (mb : MbS) (mg : MgS) (mx : MxS) (mf : MfS) (res : Int32) (h : f_Md_isBelow N x1 x2 mb = some res) :
    Kt l (dC, dI) classes [(cI, .int), (cJ, .long), (cZ, .boolean)] y_Md_isBelow (wz y_Md_isBelow b_Md_isBelow 4 (some .boolean)) { frames := 0, cells := 0, slots := 0, locals := 0 } [.ref (a 0), .int x1, .int x2] (cMd cI cJ cZ a mb mg mx mf) (some (.int res)) (cMd cI cJ cZ a mb mg mx mf) := by
  refine Kt_of (cc := b_Md_isBelow) (maxL := 4) (ret := (some .boolean)) (by decide) (Nat.le_of_ble_eq_true rfl) ?_
  intro p e s m args below meth c A ls hx hb hr hml hlocks hown hts hNw hK hP hD hA hS hl
  have hl : lv_has ls 4 [(0, .ref (a 0)), (1, .int x1), (2, .int x2)] := hl
  have hP : va_P (dC, dI) classes (cMd cI cJ cZ a mb mg mx mf) s.heap := hP
  have B22 : ∀ (x2_22 : Int32) (x3_22 : Int32) (H : Heap) (locs : List Loc) (ls : Array Slot), f_Md_isBelow_b22 N x2_22 x3_22 mb = some res → va_P (dC, dI) classes (cMd cI cJ cZ a mb mg mx mf) H → va_D A (cMd cI cJ cZ a mb mg mx mf) → va_S A s.heap H locs → lv_has ls 4 [(2, .int x2_22), (3, .int x3_22)] → W p l e { frames := 0, cells := 0, slots := 0, locals := 0 } s m args below meth c H locs 0 0 (KZ below args s (dC, dI) classes (some (.int res)) (cMd cI cJ cZ a mb mg mx mf) A) (F0 m 22 ls []) := by
    intro x2_22 x3_22 H locs ls h hP hD hS hl
    refine lv_iload_n hx hb d_Md_isBelow_22 rfl (lv_at hl 1 rfl) ?_
    refine lv_iload_n hx hb d_Md_isBelow_23 rfl (lv_at hl 0 rfl) ?_
    refine lv_icmp_ne (tgt := 31) hx hb d_Md_isBelow_24 (by decide) (fun hc => ?_) (fun hc => ?_)
    · have h := o_f hc h
      refine lv_iconst (v := 0) hx hb d_Md_isBelow_31 (by decide) ?_
      cases h
      exact kr_z hx hb hr (by decide) hlocks hP hD hS d_Md_isBelow_32
    · have h := o_t hc h
      refine lv_iconst (v := 1) hx hb d_Md_isBelow_27 (by decide) ?_
      refine lv_goto (tgt := 32) hx hb d_Md_isBelow_28 (by decide) ?_
      cases h
      exact kr_z hx hb hr (by decide) hlocks hP hD hS d_Md_isBelow_32
  have L2 : ∀ (x2_2 : Int32) (n2 : Nat) (s2 : Int32) (H : Heap) (locs : List Loc) (ls : Array Slot), lp (f_Md_isBelow_L2 N x2_2 mb) n2 s2 = some res → va_P (dC, dI) classes (cMd cI cJ cZ a mb mg mx mf) H → va_D A (cMd cI cJ cZ a mb mg mx mf) → va_S A s.heap H locs → lv_has ls 4 [(0, .ref (a 0)), (2, .int x2_2), (3, .int s2)] → W p l e { frames := 0, cells := 0, slots := 0, locals := 0 } s m args below meth c H locs 0 0 (KZ below args s (dC, dI) classes (some (.int res)) (cMd cI cJ cZ a mb mg mx mf) A) (F0 m 2 ls []) := by
    intro x2_2 n2
    induction n2 with
    | zero => intro _ _ _ _ h; exact (lp_0 h).elim
    | succ n2 ih2 =>
      intro s2 H locs ls h hP hD hS hl
      have h := lp_s h
      refine lv_iload_n hx hb d_Md_isBelow_2 rfl (lv_at hl 2 rfl) ?_
      refine lv_iconst (v := -1) hx hb d_Md_isBelow_3 (by decide) ?_
      refine lv_icmp_eq (tgt := 22) hx hb d_Md_isBelow_4 (by decide) (fun hc => ?_) (fun hc => ?_)
      · have h := o_t hc h
        exact B22 x2_2 s2 _ _ _ h hP hD hS (lv_sub hl [1, 2] rfl)
      · have h := o_f hc h
        refine lv_iload_n hx hb d_Md_isBelow_7 rfl (lv_at hl 2 rfl) ?_
        refine lv_iload_n hx hb d_Md_isBelow_8 rfl (lv_at hl 1 rfl) ?_
        refine lv_icmp_eq (tgt := 22) hx hb d_Md_isBelow_9 (by decide) (fun hc => ?_) (fun hc => ?_)
        · have h := o_t hc h
          exact B22 x2_2 s2 _ _ _ h hP hD hS (lv_sub hl [1, 2] rfl)
        · have h := o_f hc h
          refine lv_aload_n hx hb d_Md_isBelow_12 rfl (lv_at hl 0 rfl) ?_
          refine va_get (D := (dC, dI)) (ci := 7) (v := .ref (a 1)) (C := R_Md) (T := F_Md) (N := 35) hx hb hts inb_Md hown hK hP 0 rfl rfl 1 (by decide) (hts _ tw688) (fun _ h9 => h9) rfl d_Md_isBelow_13 ?_
          refine lv_iload_n hx hb d_Md_isBelow_16 rfl (lv_at hl 2 rfl) ?_
          obtain ⟨hin, h⟩ := o_in h
          refine va_iald hx hb hK hP 1 0 rfl rfl hin d_Md_isBelow_17 ?_
          refine lv_istore_n (lv' := [(3, .int ((Mb_above mb) s2.toNatClampNeg)), (0, .ref (a 0)), (2, .int x2_2)]) hx hb d_Md_isBelow_18 rfl hl (by decide) rfl (fun ls hl => ?_)
          refine lv_goto (tgt := 2) hx hb d_Md_isBelow_19 (by decide) ?_
          exact ih2 ((Mb_above mb) s2.toNatClampNeg) _ _ _ h hP hD hS (lv_sub hl [1, 2, 0] rfl)
  refine lv_iload_n hx hb d_Md_isBelow_0 rfl (lv_at hl 1 rfl) ?_
  refine lv_istore_n (lv' := [(3, .int x1), (0, .ref (a 0)), (1, .int x1), (2, .int x2)]) hx hb d_Md_isBelow_1 rfl hl (by decide) rfl (fun ls hl => ?_)
  exact L2 x2 N x1 _ _ _ h hP hD hS (lv_sub hl [1, 3, 0] rfl)
set_option maxHeartbeats 4000000 in
set_option maxRecDepth 100000 in
theorem c_Md_exception (l : Launch) (dC : Nat → ClassId) (dI : Nat → Nat → Nat) (cI cJ cZ : ClassId) (a : Nat → Nat) (x1 : Int32) (mb : MbS) (mg : MgS) (mx : MxS) (mf : MfS) (res : Int32 × MbS) (h : f_Md_exception x1 mb = some res) :
    Kt l (dC, dI) classes [(cI, .int), (cJ, .long), (cZ, .boolean)] y_Md_exception (wz y_Md_exception b_Md_exception 2 (some .int)) { frames := 2, cells := 0, slots := 0, locals := 43 } [.ref (a 0), .int x1] (cMd cI cJ cZ a mb mg mx mf) (some (.int res.1)) (cMd cI cJ cZ a res.2 mg mx mf) := by
  refine Kt_of (cc := b_Md_exception) (maxL := 2) (ret := (some .int)) (by decide) (Nat.le_of_ble_eq_true rfl) ?_
  intro p e s m args below meth c A ls hx hb hr hml hlocks hown hts hNw hK hP hD hA hS hl
  have hl : lv_has ls 2 [(0, .ref (a 0)), (1, .int x1)] := hl
  have hP : va_P (dC, dI) classes (cMd cI cJ cZ a mb mg mx mf) s.heap := hP
  refine lv_aload_n hx hb d_Md_exception_0 rfl (lv_at hl 0 rfl) ?_
  refine lv_iload_n hx hb d_Md_exception_1 rfl (lv_at hl 1 rfl) ?_
  obtain ⟨y2, hy, h⟩ := o_bd h
  refine kdV (nn := 24) (rest := []) (w' := (cMd cI cJ cZ a mb mg mx mf)) (wr := ([] : va_W)) (st1 := [.int y2]) ⟨hx, hb, hml, hown, hts⟩ (c_Md_isKind l dC dI cI cJ cZ a x1 mb mg mx mf y2 hy) (cwV 1 hts (gd_V tw802 tw804 ps18 tw9 tw805) rfl rfl rfl hd_Md_isKind ⟨Nat.le_of_ble_eq_true rfl, Nat.le_of_ble_eq_true rfl⟩) hNw hK hP hD hS hA (ci := 7) rfl rfl rfl [0, 1, 2, 3, 4, 5, 6, 7, 8, 9, 10, 11, 12, 13, 14, 15, 16, 17, 18, 19, 20, 21, 22, 23] [] rfl rfl rfl rfl rfl (by decide +kernel) (by decide +kernel) rfl hl.1 rfl (Nat.le_of_ble_eq_true rfl) rfl d_Md_exception_2 ⟨Nat.zero_le _, Nat.zero_le _⟩ (fun H locs hP hD hS => ?_)
  refine lv_if_ne (tgt := 11) hx hb d_Md_exception_5 (by decide) (fun hc => ?_) (fun hc => ?_)
  · have h := o_f hc h
    refine lv_aload_n hx hb d_Md_exception_11 rfl (lv_at hl 0 rfl) ?_
    refine va_get (D := (dC, dI)) (ci := 7) (v := .int (Mb_kinds mb)) (C := R_Md) (T := F_Md) (N := 35) hx hb hts inb_Md hown hK hP 0 rfl rfl 0 (by decide) (hts _ tw687) (fun _ h9 => h9) rfl d_Md_exception_12 ?_
    refine lv_bipush (v := 12) hx hb d_Md_exception_15 (by decide) ?_
    refine lv_icmp_ne (tgt := 23) hx hb d_Md_exception_17 (by decide) (fun hc => ?_) (fun hc => ?_)
    · have h := o_f hc h
      refine lv_aload_n hx hb d_Md_exception_23 rfl (lv_at hl 0 rfl) ?_
      refine va_get (D := (dC, dI)) (ci := 7) (v := .ref (a 1)) (C := R_Md) (T := F_Md) (N := 35) hx hb hts inb_Md hown hK hP 0 rfl rfl 1 (by decide) (hts _ tw688) (fun _ h9 => h9) rfl d_Md_exception_24 ?_
      refine lv_aload_n hx hb d_Md_exception_27 rfl (lv_at hl 0 rfl) ?_
      refine va_get (D := (dC, dI)) (ci := 7) (v := .int (Mb_kinds mb)) (C := R_Md) (T := F_Md) (N := 35) hx hb hts inb_Md hown hK hP 0 rfl rfl 0 (by decide) (hts _ tw687) (fun _ h9 => h9) rfl d_Md_exception_28 ?_
      refine lv_iload_n hx hb d_Md_exception_31 rfl (lv_at hl 1 rfl) ?_
      obtain ⟨hin, h⟩ := o_in h
      refine va_iast hx hb hK hP hD hS 1 0 rfl rfl hin d_Md_exception_32 (fun H locs hP hD hS => ?_)
      have hP : va_P (dC, dI) classes (cMd cI cJ cZ a ((Mb_kinds mb), (upd (Mb_above mb) (Mb_kinds mb).toNatClampNeg x1), (Mb_nodes mb), (Mb_sort mb), (Mb_given mb), (Mb_partOf mb), (Mb_mark mb), (Mb_first mb), (Mb_last mb), (Mb_next mb), (Mb_before mb), (Mb_hasEnding mb), (Mb_endMark mb), (Mb_inRow mb), (Mb_rowKind mb), (Mb_rowFirst mb), (Mb_rowLast mb), (Mb_rowCount mb)) mg mx mf) H := hP
      have hD : va_D A (cMd cI cJ cZ a ((Mb_kinds mb), (upd (Mb_above mb) (Mb_kinds mb).toNatClampNeg x1), (Mb_nodes mb), (Mb_sort mb), (Mb_given mb), (Mb_partOf mb), (Mb_mark mb), (Mb_first mb), (Mb_last mb), (Mb_next mb), (Mb_before mb), (Mb_hasEnding mb), (Mb_endMark mb), (Mb_inRow mb), (Mb_rowKind mb), (Mb_rowFirst mb), (Mb_rowLast mb), (Mb_rowCount mb)) mg mx mf) := hD
      refine lv_aload_n hx hb d_Md_exception_33 rfl (lv_at hl 0 rfl) ?_
      refine lv_dup hx hb d_Md_exception_34 rfl ?_
      refine va_get (D := (dC, dI)) (ci := 7) (v := .int (Mb_kinds mb)) (C := R_Md) (T := F_Md) (N := 35) hx hb hts inb_Md hown hK hP 0 rfl rfl 0 (by decide) (hts _ tw687) (fun _ h9 => h9) rfl d_Md_exception_35 ?_
      refine lv_iconst (v := 1) hx hb d_Md_exception_38 (by decide) ?_
      refine lv_iadd hx hb d_Md_exception_39 ?_
      refine va_put (D := (dC, dI)) (ci := 7) (v := .int ((Mb_kinds mb) + (1 : Int32))) (ty := .int) (C := R_Md) (T := F_Md) (N := 35) hx hb hts inb_Md ft_Md ft_Md_ok n_Md hown hK hP hD hS 0 rfl rfl 0 (by decide) (hts _ tw687) (fun _ h9 => h9) rfl (by decide +kernel) rfl rfl (Nat.le_of_ble_eq_true rfl) d_Md_exception_40 (fun H locs hP hD hS => ?_)
      have hP : va_P (dC, dI) classes (cMd cI cJ cZ a (((Mb_kinds mb) + (1 : Int32)), (upd (Mb_above mb) (Mb_kinds mb).toNatClampNeg x1), (Mb_nodes mb), (Mb_sort mb), (Mb_given mb), (Mb_partOf mb), (Mb_mark mb), (Mb_first mb), (Mb_last mb), (Mb_next mb), (Mb_before mb), (Mb_hasEnding mb), (Mb_endMark mb), (Mb_inRow mb), (Mb_rowKind mb), (Mb_rowFirst mb), (Mb_rowLast mb), (Mb_rowCount mb)) mg mx mf) H := hP
      have hD : va_D A (cMd cI cJ cZ a (((Mb_kinds mb) + (1 : Int32)), (upd (Mb_above mb) (Mb_kinds mb).toNatClampNeg x1), (Mb_nodes mb), (Mb_sort mb), (Mb_given mb), (Mb_partOf mb), (Mb_mark mb), (Mb_first mb), (Mb_last mb), (Mb_next mb), (Mb_before mb), (Mb_hasEnding mb), (Mb_endMark mb), (Mb_inRow mb), (Mb_rowKind mb), (Mb_rowFirst mb), (Mb_rowLast mb), (Mb_rowCount mb)) mg mx mf) := hD
      refine lv_aload_n hx hb d_Md_exception_43 rfl (lv_at hl 0 rfl) ?_
      refine va_get (D := (dC, dI)) (ci := 7) (v := .int ((Mb_kinds mb) + (1 : Int32))) (C := R_Md) (T := F_Md) (N := 35) hx hb hts inb_Md hown hK hP 0 rfl rfl 0 (by decide) (hts _ tw687) (fun _ h9 => h9) rfl d_Md_exception_44 ?_
      refine lv_iconst (v := 1) hx hb d_Md_exception_47 (by decide) ?_
      refine lv_isub hx hb d_Md_exception_48 ?_
      cases h
      exact kr_i hx hb hr hlocks hP hD hS d_Md_exception_49
    · have h := o_t hc h
      refine lv_bipush (v := -3) hx hb d_Md_exception_20 (by decide) ?_
      cases h
      exact kr_i hx hb hr hlocks hP hD hS d_Md_exception_22
  · have h := o_t hc h
    refine lv_bipush (v := -2) hx hb d_Md_exception_8 (by decide) ?_
    cases h
    exact kr_i hx hb hr hlocks hP hD hS d_Md_exception_10
set_option maxHeartbeats 4000000 in
set_option maxRecDepth 100000 in
theorem c_Md_make (l : Launch) (dC : Nat → ClassId) (dI : Nat → Nat → Nat) (cI cJ cZ : ClassId) (a : Nat → Nat) (x1 : Int32) (x2 : Int32) (mb : MbS) (mg : MgS) (mx : MxS) (mf : MfS) (res : Int32 × MbS × MgS) (h : f_Md_make x1 x2 mb mg = some res) :
    Kt l (dC, dI) classes [(cI, .int), (cJ, .long), (cZ, .boolean)] y_Md_make (wz y_Md_make b_Md_make 4 (some .int)) { frames := 0, cells := 0, slots := 0, locals := 0 } [.ref (a 0), .int x1, .int x2] (cMd cI cJ cZ a mb mg mx mf) (some (.int res.1)) (cMd cI cJ cZ a res.2.1 res.2.2 mx mf) := by
  refine Kt_of (cc := b_Md_make) (maxL := 4) (ret := (some .int)) (by decide) (Nat.le_of_ble_eq_true rfl) ?_
  intro p e s m args below meth c A ls hx hb hr hml hlocks hown hts hNw hK hP hD hA hS hl
  have hl : lv_has ls 4 [(0, .ref (a 0)), (1, .int x1), (2, .int x2)] := hl
  have hP : va_P (dC, dI) classes (cMd cI cJ cZ a mb mg mx mf) s.heap := hP
  refine lv_aload_n hx hb d_Md_make_0 rfl (lv_at hl 0 rfl) ?_
  refine va_get (D := (dC, dI)) (ci := 7) (v := .int (Mb_nodes mb)) (C := R_Md) (T := F_Md) (N := 35) hx hb hts inb_Md hown hK hP 0 rfl rfl 2 (by decide) (hts _ tw689) (fun _ h9 => h9) rfl d_Md_make_1 ?_
  refine lv_istore_n (lv' := [(3, .int (Mb_nodes mb)), (0, .ref (a 0)), (1, .int x1), (2, .int x2)]) hx hb d_Md_make_4 rfl hl (by decide) rfl (fun ls hl => ?_)
  refine lv_aload_n hx hb d_Md_make_5 rfl (lv_at hl 1 rfl) ?_
  refine lv_dup hx hb d_Md_make_6 rfl ?_
  refine va_get (D := (dC, dI)) (ci := 7) (v := .int (Mb_nodes mb)) (C := R_Md) (T := F_Md) (N := 35) hx hb hts inb_Md hown hK hP 0 rfl rfl 2 (by decide) (hts _ tw689) (fun _ h9 => h9) rfl d_Md_make_7 ?_
  refine lv_iconst (v := 1) hx hb d_Md_make_10 (by decide) ?_
  refine lv_iadd hx hb d_Md_make_11 ?_
  refine va_put (D := (dC, dI)) (ci := 7) (v := .int ((Mb_nodes mb) + (1 : Int32))) (ty := .int) (C := R_Md) (T := F_Md) (N := 35) hx hb hts inb_Md ft_Md ft_Md_ok n_Md hown hK hP hD hS 0 rfl rfl 2 (by decide) (hts _ tw689) (fun _ h9 => h9) rfl (by decide +kernel) rfl rfl (Nat.le_of_ble_eq_true rfl) d_Md_make_12 (fun H locs hP hD hS => ?_)
  have hP : va_P (dC, dI) classes (cMd cI cJ cZ a ((Mb_kinds mb), (Mb_above mb), ((Mb_nodes mb) + (1 : Int32)), (Mb_sort mb), (Mb_given mb), (Mb_partOf mb), (Mb_mark mb), (Mb_first mb), (Mb_last mb), (Mb_next mb), (Mb_before mb), (Mb_hasEnding mb), (Mb_endMark mb), (Mb_inRow mb), (Mb_rowKind mb), (Mb_rowFirst mb), (Mb_rowLast mb), (Mb_rowCount mb)) mg mx mf) H := hP
  have hD : va_D A (cMd cI cJ cZ a ((Mb_kinds mb), (Mb_above mb), ((Mb_nodes mb) + (1 : Int32)), (Mb_sort mb), (Mb_given mb), (Mb_partOf mb), (Mb_mark mb), (Mb_first mb), (Mb_last mb), (Mb_next mb), (Mb_before mb), (Mb_hasEnding mb), (Mb_endMark mb), (Mb_inRow mb), (Mb_rowKind mb), (Mb_rowFirst mb), (Mb_rowLast mb), (Mb_rowCount mb)) mg mx mf) := hD
  refine lv_aload_n hx hb d_Md_make_15 rfl (lv_at hl 1 rfl) ?_
  refine va_get (D := (dC, dI)) (ci := 7) (v := .ref (a 2)) (C := R_Md) (T := F_Md) (N := 35) hx hb hts inb_Md hown hK hP 0 rfl rfl 3 (by decide) (hts _ tw690) (fun _ h9 => h9) rfl d_Md_make_16 ?_
  refine lv_iload_n hx hb d_Md_make_19 rfl (lv_at hl 0 rfl) ?_
  refine lv_iload_n hx hb d_Md_make_20 rfl (lv_at hl 2 rfl) ?_
  obtain ⟨hin, h⟩ := o_in h
  refine va_iast hx hb hK hP hD hS 2 0 rfl rfl hin d_Md_make_21 (fun H locs hP hD hS => ?_)
  have hP : va_P (dC, dI) classes (cMd cI cJ cZ a ((Mb_kinds mb), (Mb_above mb), ((Mb_nodes mb) + (1 : Int32)), (upd (Mb_sort mb) (Mb_nodes mb).toNatClampNeg x1), (Mb_given mb), (Mb_partOf mb), (Mb_mark mb), (Mb_first mb), (Mb_last mb), (Mb_next mb), (Mb_before mb), (Mb_hasEnding mb), (Mb_endMark mb), (Mb_inRow mb), (Mb_rowKind mb), (Mb_rowFirst mb), (Mb_rowLast mb), (Mb_rowCount mb)) mg mx mf) H := hP
  have hD : va_D A (cMd cI cJ cZ a ((Mb_kinds mb), (Mb_above mb), ((Mb_nodes mb) + (1 : Int32)), (upd (Mb_sort mb) (Mb_nodes mb).toNatClampNeg x1), (Mb_given mb), (Mb_partOf mb), (Mb_mark mb), (Mb_first mb), (Mb_last mb), (Mb_next mb), (Mb_before mb), (Mb_hasEnding mb), (Mb_endMark mb), (Mb_inRow mb), (Mb_rowKind mb), (Mb_rowFirst mb), (Mb_rowLast mb), (Mb_rowCount mb)) mg mx mf) := hD
  refine lv_aload_n hx hb d_Md_make_22 rfl (lv_at hl 1 rfl) ?_
  refine va_get (D := (dC, dI)) (ci := 7) (v := .ref (a 3)) (C := R_Md) (T := F_Md) (N := 35) hx hb hts inb_Md hown hK hP 0 rfl rfl 4 (by decide) (hts _ tw691) (fun _ h9 => h9) rfl d_Md_make_23 ?_
  refine lv_iload_n hx hb d_Md_make_26 rfl (lv_at hl 0 rfl) ?_
  refine lv_iload_n hx hb d_Md_make_27 rfl (lv_at hl 3 rfl) ?_
  obtain ⟨hin, h⟩ := o_in h
  refine va_iast hx hb hK hP hD hS 3 0 rfl rfl hin d_Md_make_28 (fun H locs hP hD hS => ?_)
  have hP : va_P (dC, dI) classes (cMd cI cJ cZ a ((Mb_kinds mb), (Mb_above mb), ((Mb_nodes mb) + (1 : Int32)), (upd (Mb_sort mb) (Mb_nodes mb).toNatClampNeg x1), (upd (Mb_given mb) (Mb_nodes mb).toNatClampNeg x2), (Mb_partOf mb), (Mb_mark mb), (Mb_first mb), (Mb_last mb), (Mb_next mb), (Mb_before mb), (Mb_hasEnding mb), (Mb_endMark mb), (Mb_inRow mb), (Mb_rowKind mb), (Mb_rowFirst mb), (Mb_rowLast mb), (Mb_rowCount mb)) mg mx mf) H := hP
  have hD : va_D A (cMd cI cJ cZ a ((Mb_kinds mb), (Mb_above mb), ((Mb_nodes mb) + (1 : Int32)), (upd (Mb_sort mb) (Mb_nodes mb).toNatClampNeg x1), (upd (Mb_given mb) (Mb_nodes mb).toNatClampNeg x2), (Mb_partOf mb), (Mb_mark mb), (Mb_first mb), (Mb_last mb), (Mb_next mb), (Mb_before mb), (Mb_hasEnding mb), (Mb_endMark mb), (Mb_inRow mb), (Mb_rowKind mb), (Mb_rowFirst mb), (Mb_rowLast mb), (Mb_rowCount mb)) mg mx mf) := hD
  refine lv_aload_n hx hb d_Md_make_29 rfl (lv_at hl 1 rfl) ?_
  refine va_get (D := (dC, dI)) (ci := 7) (v := .ref (a 4)) (C := R_Md) (T := F_Md) (N := 35) hx hb hts inb_Md hown hK hP 0 rfl rfl 5 (by decide) (hts _ tw692) (fun _ h9 => h9) rfl d_Md_make_30 ?_
  refine lv_iload_n hx hb d_Md_make_33 rfl (lv_at hl 0 rfl) ?_
  refine lv_iconst (v := -1) hx hb d_Md_make_34 (by decide) ?_
  obtain ⟨hin, h⟩ := o_in h
  refine va_iast hx hb hK hP hD hS 4 0 rfl rfl hin d_Md_make_35 (fun H locs hP hD hS => ?_)
  have hP : va_P (dC, dI) classes (cMd cI cJ cZ a ((Mb_kinds mb), (Mb_above mb), ((Mb_nodes mb) + (1 : Int32)), (upd (Mb_sort mb) (Mb_nodes mb).toNatClampNeg x1), (upd (Mb_given mb) (Mb_nodes mb).toNatClampNeg x2), (upd (Mb_partOf mb) (Mb_nodes mb).toNatClampNeg (-1 : Int32)), (Mb_mark mb), (Mb_first mb), (Mb_last mb), (Mb_next mb), (Mb_before mb), (Mb_hasEnding mb), (Mb_endMark mb), (Mb_inRow mb), (Mb_rowKind mb), (Mb_rowFirst mb), (Mb_rowLast mb), (Mb_rowCount mb)) mg mx mf) H := hP
  have hD : va_D A (cMd cI cJ cZ a ((Mb_kinds mb), (Mb_above mb), ((Mb_nodes mb) + (1 : Int32)), (upd (Mb_sort mb) (Mb_nodes mb).toNatClampNeg x1), (upd (Mb_given mb) (Mb_nodes mb).toNatClampNeg x2), (upd (Mb_partOf mb) (Mb_nodes mb).toNatClampNeg (-1 : Int32)), (Mb_mark mb), (Mb_first mb), (Mb_last mb), (Mb_next mb), (Mb_before mb), (Mb_hasEnding mb), (Mb_endMark mb), (Mb_inRow mb), (Mb_rowKind mb), (Mb_rowFirst mb), (Mb_rowLast mb), (Mb_rowCount mb)) mg mx mf) := hD
  refine lv_aload_n hx hb d_Md_make_36 rfl (lv_at hl 1 rfl) ?_
  refine va_get (D := (dC, dI)) (ci := 7) (v := .ref (a 5)) (C := R_Md) (T := F_Md) (N := 35) hx hb hts inb_Md hown hK hP 0 rfl rfl 6 (by decide) (hts _ tw693) (fun _ h9 => h9) rfl d_Md_make_37 ?_
  refine lv_iload_n hx hb d_Md_make_40 rfl (lv_at hl 0 rfl) ?_
  refine lv_iconst (v := -1) hx hb d_Md_make_41 (by decide) ?_
  obtain ⟨hin, h⟩ := o_in h
  refine va_iast hx hb hK hP hD hS 5 0 rfl rfl hin d_Md_make_42 (fun H locs hP hD hS => ?_)
  have hP : va_P (dC, dI) classes (cMd cI cJ cZ a ((Mb_kinds mb), (Mb_above mb), ((Mb_nodes mb) + (1 : Int32)), (upd (Mb_sort mb) (Mb_nodes mb).toNatClampNeg x1), (upd (Mb_given mb) (Mb_nodes mb).toNatClampNeg x2), (upd (Mb_partOf mb) (Mb_nodes mb).toNatClampNeg (-1 : Int32)), (upd (Mb_mark mb) (Mb_nodes mb).toNatClampNeg (-1 : Int32)), (Mb_first mb), (Mb_last mb), (Mb_next mb), (Mb_before mb), (Mb_hasEnding mb), (Mb_endMark mb), (Mb_inRow mb), (Mb_rowKind mb), (Mb_rowFirst mb), (Mb_rowLast mb), (Mb_rowCount mb)) mg mx mf) H := hP
  have hD : va_D A (cMd cI cJ cZ a ((Mb_kinds mb), (Mb_above mb), ((Mb_nodes mb) + (1 : Int32)), (upd (Mb_sort mb) (Mb_nodes mb).toNatClampNeg x1), (upd (Mb_given mb) (Mb_nodes mb).toNatClampNeg x2), (upd (Mb_partOf mb) (Mb_nodes mb).toNatClampNeg (-1 : Int32)), (upd (Mb_mark mb) (Mb_nodes mb).toNatClampNeg (-1 : Int32)), (Mb_first mb), (Mb_last mb), (Mb_next mb), (Mb_before mb), (Mb_hasEnding mb), (Mb_endMark mb), (Mb_inRow mb), (Mb_rowKind mb), (Mb_rowFirst mb), (Mb_rowLast mb), (Mb_rowCount mb)) mg mx mf) := hD
  refine lv_aload_n hx hb d_Md_make_43 rfl (lv_at hl 1 rfl) ?_
  refine va_get (D := (dC, dI)) (ci := 7) (v := .ref (a 6)) (C := R_Md) (T := F_Md) (N := 35) hx hb hts inb_Md hown hK hP 0 rfl rfl 7 (by decide) (hts _ tw694) (fun _ h9 => h9) rfl d_Md_make_44 ?_
  refine lv_iload_n hx hb d_Md_make_47 rfl (lv_at hl 0 rfl) ?_
  refine lv_iconst (v := -1) hx hb d_Md_make_48 (by decide) ?_
  obtain ⟨hin, h⟩ := o_in h
  refine va_iast hx hb hK hP hD hS 6 0 rfl rfl hin d_Md_make_49 (fun H locs hP hD hS => ?_)
  have hP : va_P (dC, dI) classes (cMd cI cJ cZ a ((Mb_kinds mb), (Mb_above mb), ((Mb_nodes mb) + (1 : Int32)), (upd (Mb_sort mb) (Mb_nodes mb).toNatClampNeg x1), (upd (Mb_given mb) (Mb_nodes mb).toNatClampNeg x2), (upd (Mb_partOf mb) (Mb_nodes mb).toNatClampNeg (-1 : Int32)), (upd (Mb_mark mb) (Mb_nodes mb).toNatClampNeg (-1 : Int32)), (upd (Mb_first mb) (Mb_nodes mb).toNatClampNeg (-1 : Int32)), (Mb_last mb), (Mb_next mb), (Mb_before mb), (Mb_hasEnding mb), (Mb_endMark mb), (Mb_inRow mb), (Mb_rowKind mb), (Mb_rowFirst mb), (Mb_rowLast mb), (Mb_rowCount mb)) mg mx mf) H := hP
  have hD : va_D A (cMd cI cJ cZ a ((Mb_kinds mb), (Mb_above mb), ((Mb_nodes mb) + (1 : Int32)), (upd (Mb_sort mb) (Mb_nodes mb).toNatClampNeg x1), (upd (Mb_given mb) (Mb_nodes mb).toNatClampNeg x2), (upd (Mb_partOf mb) (Mb_nodes mb).toNatClampNeg (-1 : Int32)), (upd (Mb_mark mb) (Mb_nodes mb).toNatClampNeg (-1 : Int32)), (upd (Mb_first mb) (Mb_nodes mb).toNatClampNeg (-1 : Int32)), (Mb_last mb), (Mb_next mb), (Mb_before mb), (Mb_hasEnding mb), (Mb_endMark mb), (Mb_inRow mb), (Mb_rowKind mb), (Mb_rowFirst mb), (Mb_rowLast mb), (Mb_rowCount mb)) mg mx mf) := hD
  refine lv_aload_n hx hb d_Md_make_50 rfl (lv_at hl 1 rfl) ?_
  refine va_get (D := (dC, dI)) (ci := 7) (v := .ref (a 7)) (C := R_Md) (T := F_Md) (N := 35) hx hb hts inb_Md hown hK hP 0 rfl rfl 8 (by decide) (hts _ tw695) (fun _ h9 => h9) rfl d_Md_make_51 ?_
  refine lv_iload_n hx hb d_Md_make_54 rfl (lv_at hl 0 rfl) ?_
  refine lv_iconst (v := -1) hx hb d_Md_make_55 (by decide) ?_
  obtain ⟨hin, h⟩ := o_in h
  refine va_iast hx hb hK hP hD hS 7 0 rfl rfl hin d_Md_make_56 (fun H locs hP hD hS => ?_)
  have hP : va_P (dC, dI) classes (cMd cI cJ cZ a ((Mb_kinds mb), (Mb_above mb), ((Mb_nodes mb) + (1 : Int32)), (upd (Mb_sort mb) (Mb_nodes mb).toNatClampNeg x1), (upd (Mb_given mb) (Mb_nodes mb).toNatClampNeg x2), (upd (Mb_partOf mb) (Mb_nodes mb).toNatClampNeg (-1 : Int32)), (upd (Mb_mark mb) (Mb_nodes mb).toNatClampNeg (-1 : Int32)), (upd (Mb_first mb) (Mb_nodes mb).toNatClampNeg (-1 : Int32)), (upd (Mb_last mb) (Mb_nodes mb).toNatClampNeg (-1 : Int32)), (Mb_next mb), (Mb_before mb), (Mb_hasEnding mb), (Mb_endMark mb), (Mb_inRow mb), (Mb_rowKind mb), (Mb_rowFirst mb), (Mb_rowLast mb), (Mb_rowCount mb)) mg mx mf) H := hP
  have hD : va_D A (cMd cI cJ cZ a ((Mb_kinds mb), (Mb_above mb), ((Mb_nodes mb) + (1 : Int32)), (upd (Mb_sort mb) (Mb_nodes mb).toNatClampNeg x1), (upd (Mb_given mb) (Mb_nodes mb).toNatClampNeg x2), (upd (Mb_partOf mb) (Mb_nodes mb).toNatClampNeg (-1 : Int32)), (upd (Mb_mark mb) (Mb_nodes mb).toNatClampNeg (-1 : Int32)), (upd (Mb_first mb) (Mb_nodes mb).toNatClampNeg (-1 : Int32)), (upd (Mb_last mb) (Mb_nodes mb).toNatClampNeg (-1 : Int32)), (Mb_next mb), (Mb_before mb), (Mb_hasEnding mb), (Mb_endMark mb), (Mb_inRow mb), (Mb_rowKind mb), (Mb_rowFirst mb), (Mb_rowLast mb), (Mb_rowCount mb)) mg mx mf) := hD
  refine lv_aload_n hx hb d_Md_make_57 rfl (lv_at hl 1 rfl) ?_
  refine va_get (D := (dC, dI)) (ci := 7) (v := .ref (a 8)) (C := R_Md) (T := F_Md) (N := 35) hx hb hts inb_Md hown hK hP 0 rfl rfl 9 (by decide) (hts _ tw696) (fun _ h9 => h9) rfl d_Md_make_58 ?_
  refine lv_iload_n hx hb d_Md_make_61 rfl (lv_at hl 0 rfl) ?_
  refine lv_iconst (v := -1) hx hb d_Md_make_62 (by decide) ?_
  obtain ⟨hin, h⟩ := o_in h
  refine va_iast hx hb hK hP hD hS 8 0 rfl rfl hin d_Md_make_63 (fun H locs hP hD hS => ?_)
  have hP : va_P (dC, dI) classes (cMd cI cJ cZ a ((Mb_kinds mb), (Mb_above mb), ((Mb_nodes mb) + (1 : Int32)), (upd (Mb_sort mb) (Mb_nodes mb).toNatClampNeg x1), (upd (Mb_given mb) (Mb_nodes mb).toNatClampNeg x2), (upd (Mb_partOf mb) (Mb_nodes mb).toNatClampNeg (-1 : Int32)), (upd (Mb_mark mb) (Mb_nodes mb).toNatClampNeg (-1 : Int32)), (upd (Mb_first mb) (Mb_nodes mb).toNatClampNeg (-1 : Int32)), (upd (Mb_last mb) (Mb_nodes mb).toNatClampNeg (-1 : Int32)), (upd (Mb_next mb) (Mb_nodes mb).toNatClampNeg (-1 : Int32)), (Mb_before mb), (Mb_hasEnding mb), (Mb_endMark mb), (Mb_inRow mb), (Mb_rowKind mb), (Mb_rowFirst mb), (Mb_rowLast mb), (Mb_rowCount mb)) mg mx mf) H := hP
  have hD : va_D A (cMd cI cJ cZ a ((Mb_kinds mb), (Mb_above mb), ((Mb_nodes mb) + (1 : Int32)), (upd (Mb_sort mb) (Mb_nodes mb).toNatClampNeg x1), (upd (Mb_given mb) (Mb_nodes mb).toNatClampNeg x2), (upd (Mb_partOf mb) (Mb_nodes mb).toNatClampNeg (-1 : Int32)), (upd (Mb_mark mb) (Mb_nodes mb).toNatClampNeg (-1 : Int32)), (upd (Mb_first mb) (Mb_nodes mb).toNatClampNeg (-1 : Int32)), (upd (Mb_last mb) (Mb_nodes mb).toNatClampNeg (-1 : Int32)), (upd (Mb_next mb) (Mb_nodes mb).toNatClampNeg (-1 : Int32)), (Mb_before mb), (Mb_hasEnding mb), (Mb_endMark mb), (Mb_inRow mb), (Mb_rowKind mb), (Mb_rowFirst mb), (Mb_rowLast mb), (Mb_rowCount mb)) mg mx mf) := hD
  refine lv_aload_n hx hb d_Md_make_64 rfl (lv_at hl 1 rfl) ?_
  refine va_get (D := (dC, dI)) (ci := 7) (v := .ref (a 9)) (C := R_Md) (T := F_Md) (N := 35) hx hb hts inb_Md hown hK hP 0 rfl rfl 10 (by decide) (hts _ tw697) (fun _ h9 => h9) rfl d_Md_make_65 ?_
  refine lv_iload_n hx hb d_Md_make_68 rfl (lv_at hl 0 rfl) ?_
  refine lv_iconst (v := -1) hx hb d_Md_make_69 (by decide) ?_
  obtain ⟨hin, h⟩ := o_in h
  refine va_iast hx hb hK hP hD hS 9 0 rfl rfl hin d_Md_make_70 (fun H locs hP hD hS => ?_)
  have hP : va_P (dC, dI) classes (cMd cI cJ cZ a ((Mb_kinds mb), (Mb_above mb), ((Mb_nodes mb) + (1 : Int32)), (upd (Mb_sort mb) (Mb_nodes mb).toNatClampNeg x1), (upd (Mb_given mb) (Mb_nodes mb).toNatClampNeg x2), (upd (Mb_partOf mb) (Mb_nodes mb).toNatClampNeg (-1 : Int32)), (upd (Mb_mark mb) (Mb_nodes mb).toNatClampNeg (-1 : Int32)), (upd (Mb_first mb) (Mb_nodes mb).toNatClampNeg (-1 : Int32)), (upd (Mb_last mb) (Mb_nodes mb).toNatClampNeg (-1 : Int32)), (upd (Mb_next mb) (Mb_nodes mb).toNatClampNeg (-1 : Int32)), (upd (Mb_before mb) (Mb_nodes mb).toNatClampNeg (-1 : Int32)), (Mb_hasEnding mb), (Mb_endMark mb), (Mb_inRow mb), (Mb_rowKind mb), (Mb_rowFirst mb), (Mb_rowLast mb), (Mb_rowCount mb)) mg mx mf) H := hP
  have hD : va_D A (cMd cI cJ cZ a ((Mb_kinds mb), (Mb_above mb), ((Mb_nodes mb) + (1 : Int32)), (upd (Mb_sort mb) (Mb_nodes mb).toNatClampNeg x1), (upd (Mb_given mb) (Mb_nodes mb).toNatClampNeg x2), (upd (Mb_partOf mb) (Mb_nodes mb).toNatClampNeg (-1 : Int32)), (upd (Mb_mark mb) (Mb_nodes mb).toNatClampNeg (-1 : Int32)), (upd (Mb_first mb) (Mb_nodes mb).toNatClampNeg (-1 : Int32)), (upd (Mb_last mb) (Mb_nodes mb).toNatClampNeg (-1 : Int32)), (upd (Mb_next mb) (Mb_nodes mb).toNatClampNeg (-1 : Int32)), (upd (Mb_before mb) (Mb_nodes mb).toNatClampNeg (-1 : Int32)), (Mb_hasEnding mb), (Mb_endMark mb), (Mb_inRow mb), (Mb_rowKind mb), (Mb_rowFirst mb), (Mb_rowLast mb), (Mb_rowCount mb)) mg mx mf) := hD
  refine lv_aload_n hx hb d_Md_make_71 rfl (lv_at hl 1 rfl) ?_
  refine va_get (D := (dC, dI)) (ci := 7) (v := .ref (a 10)) (C := R_Md) (T := F_Md) (N := 35) hx hb hts inb_Md hown hK hP 0 rfl rfl 11 (by decide) (hts _ tw698) (fun _ h9 => h9) rfl d_Md_make_72 ?_
  refine lv_iload_n hx hb d_Md_make_75 rfl (lv_at hl 0 rfl) ?_
  refine lv_iconst (v := 0) hx hb d_Md_make_76 (by decide) ?_
  obtain ⟨hin, h⟩ := o_in h
  refine va_zast hx hb hK hP hD hS 10 2 rfl rfl hin d_Md_make_77 (fun H locs hP hD hS => ?_)
  have hP : va_P (dC, dI) classes (cMd cI cJ cZ a ((Mb_kinds mb), (Mb_above mb), ((Mb_nodes mb) + (1 : Int32)), (upd (Mb_sort mb) (Mb_nodes mb).toNatClampNeg x1), (upd (Mb_given mb) (Mb_nodes mb).toNatClampNeg x2), (upd (Mb_partOf mb) (Mb_nodes mb).toNatClampNeg (-1 : Int32)), (upd (Mb_mark mb) (Mb_nodes mb).toNatClampNeg (-1 : Int32)), (upd (Mb_first mb) (Mb_nodes mb).toNatClampNeg (-1 : Int32)), (upd (Mb_last mb) (Mb_nodes mb).toNatClampNeg (-1 : Int32)), (upd (Mb_next mb) (Mb_nodes mb).toNatClampNeg (-1 : Int32)), (upd (Mb_before mb) (Mb_nodes mb).toNatClampNeg (-1 : Int32)), (upd (Mb_hasEnding mb) (Mb_nodes mb).toNatClampNeg (vp_nar .boolean (0 : Int32))), (Mb_endMark mb), (Mb_inRow mb), (Mb_rowKind mb), (Mb_rowFirst mb), (Mb_rowLast mb), (Mb_rowCount mb)) mg mx mf) H := hP
  have hD : va_D A (cMd cI cJ cZ a ((Mb_kinds mb), (Mb_above mb), ((Mb_nodes mb) + (1 : Int32)), (upd (Mb_sort mb) (Mb_nodes mb).toNatClampNeg x1), (upd (Mb_given mb) (Mb_nodes mb).toNatClampNeg x2), (upd (Mb_partOf mb) (Mb_nodes mb).toNatClampNeg (-1 : Int32)), (upd (Mb_mark mb) (Mb_nodes mb).toNatClampNeg (-1 : Int32)), (upd (Mb_first mb) (Mb_nodes mb).toNatClampNeg (-1 : Int32)), (upd (Mb_last mb) (Mb_nodes mb).toNatClampNeg (-1 : Int32)), (upd (Mb_next mb) (Mb_nodes mb).toNatClampNeg (-1 : Int32)), (upd (Mb_before mb) (Mb_nodes mb).toNatClampNeg (-1 : Int32)), (upd (Mb_hasEnding mb) (Mb_nodes mb).toNatClampNeg (vp_nar .boolean (0 : Int32))), (Mb_endMark mb), (Mb_inRow mb), (Mb_rowKind mb), (Mb_rowFirst mb), (Mb_rowLast mb), (Mb_rowCount mb)) mg mx mf) := hD
  refine lv_aload_n hx hb d_Md_make_78 rfl (lv_at hl 1 rfl) ?_
  refine va_get (D := (dC, dI)) (ci := 7) (v := .ref (a 11)) (C := R_Md) (T := F_Md) (N := 35) hx hb hts inb_Md hown hK hP 0 rfl rfl 12 (by decide) (hts _ tw699) (fun _ h9 => h9) rfl d_Md_make_79 ?_
  refine lv_iload_n hx hb d_Md_make_82 rfl (lv_at hl 0 rfl) ?_
  refine lv_iconst (v := 0) hx hb d_Md_make_83 (by decide) ?_
  obtain ⟨hin, h⟩ := o_in h
  refine va_iast hx hb hK hP hD hS 11 0 rfl rfl hin d_Md_make_84 (fun H locs hP hD hS => ?_)
  have hP : va_P (dC, dI) classes (cMd cI cJ cZ a ((Mb_kinds mb), (Mb_above mb), ((Mb_nodes mb) + (1 : Int32)), (upd (Mb_sort mb) (Mb_nodes mb).toNatClampNeg x1), (upd (Mb_given mb) (Mb_nodes mb).toNatClampNeg x2), (upd (Mb_partOf mb) (Mb_nodes mb).toNatClampNeg (-1 : Int32)), (upd (Mb_mark mb) (Mb_nodes mb).toNatClampNeg (-1 : Int32)), (upd (Mb_first mb) (Mb_nodes mb).toNatClampNeg (-1 : Int32)), (upd (Mb_last mb) (Mb_nodes mb).toNatClampNeg (-1 : Int32)), (upd (Mb_next mb) (Mb_nodes mb).toNatClampNeg (-1 : Int32)), (upd (Mb_before mb) (Mb_nodes mb).toNatClampNeg (-1 : Int32)), (upd (Mb_hasEnding mb) (Mb_nodes mb).toNatClampNeg (vp_nar .boolean (0 : Int32))), (upd (Mb_endMark mb) (Mb_nodes mb).toNatClampNeg (0 : Int32)), (Mb_inRow mb), (Mb_rowKind mb), (Mb_rowFirst mb), (Mb_rowLast mb), (Mb_rowCount mb)) mg mx mf) H := hP
  have hD : va_D A (cMd cI cJ cZ a ((Mb_kinds mb), (Mb_above mb), ((Mb_nodes mb) + (1 : Int32)), (upd (Mb_sort mb) (Mb_nodes mb).toNatClampNeg x1), (upd (Mb_given mb) (Mb_nodes mb).toNatClampNeg x2), (upd (Mb_partOf mb) (Mb_nodes mb).toNatClampNeg (-1 : Int32)), (upd (Mb_mark mb) (Mb_nodes mb).toNatClampNeg (-1 : Int32)), (upd (Mb_first mb) (Mb_nodes mb).toNatClampNeg (-1 : Int32)), (upd (Mb_last mb) (Mb_nodes mb).toNatClampNeg (-1 : Int32)), (upd (Mb_next mb) (Mb_nodes mb).toNatClampNeg (-1 : Int32)), (upd (Mb_before mb) (Mb_nodes mb).toNatClampNeg (-1 : Int32)), (upd (Mb_hasEnding mb) (Mb_nodes mb).toNatClampNeg (vp_nar .boolean (0 : Int32))), (upd (Mb_endMark mb) (Mb_nodes mb).toNatClampNeg (0 : Int32)), (Mb_inRow mb), (Mb_rowKind mb), (Mb_rowFirst mb), (Mb_rowLast mb), (Mb_rowCount mb)) mg mx mf) := hD
  refine lv_aload_n hx hb d_Md_make_85 rfl (lv_at hl 1 rfl) ?_
  refine va_get (D := (dC, dI)) (ci := 7) (v := .ref (a 12)) (C := R_Md) (T := F_Md) (N := 35) hx hb hts inb_Md hown hK hP 0 rfl rfl 13 (by decide) (hts _ tw700) (fun _ h9 => h9) rfl d_Md_make_86 ?_
  refine lv_iload_n hx hb d_Md_make_89 rfl (lv_at hl 0 rfl) ?_
  refine lv_iconst (v := 0) hx hb d_Md_make_90 (by decide) ?_
  obtain ⟨hin, h⟩ := o_in h
  refine va_zast hx hb hK hP hD hS 12 2 rfl rfl hin d_Md_make_91 (fun H locs hP hD hS => ?_)
  have hP : va_P (dC, dI) classes (cMd cI cJ cZ a ((Mb_kinds mb), (Mb_above mb), ((Mb_nodes mb) + (1 : Int32)), (upd (Mb_sort mb) (Mb_nodes mb).toNatClampNeg x1), (upd (Mb_given mb) (Mb_nodes mb).toNatClampNeg x2), (upd (Mb_partOf mb) (Mb_nodes mb).toNatClampNeg (-1 : Int32)), (upd (Mb_mark mb) (Mb_nodes mb).toNatClampNeg (-1 : Int32)), (upd (Mb_first mb) (Mb_nodes mb).toNatClampNeg (-1 : Int32)), (upd (Mb_last mb) (Mb_nodes mb).toNatClampNeg (-1 : Int32)), (upd (Mb_next mb) (Mb_nodes mb).toNatClampNeg (-1 : Int32)), (upd (Mb_before mb) (Mb_nodes mb).toNatClampNeg (-1 : Int32)), (upd (Mb_hasEnding mb) (Mb_nodes mb).toNatClampNeg (vp_nar .boolean (0 : Int32))), (upd (Mb_endMark mb) (Mb_nodes mb).toNatClampNeg (0 : Int32)), (upd (Mb_inRow mb) (Mb_nodes mb).toNatClampNeg (vp_nar .boolean (0 : Int32))), (Mb_rowKind mb), (Mb_rowFirst mb), (Mb_rowLast mb), (Mb_rowCount mb)) mg mx mf) H := hP
  have hD : va_D A (cMd cI cJ cZ a ((Mb_kinds mb), (Mb_above mb), ((Mb_nodes mb) + (1 : Int32)), (upd (Mb_sort mb) (Mb_nodes mb).toNatClampNeg x1), (upd (Mb_given mb) (Mb_nodes mb).toNatClampNeg x2), (upd (Mb_partOf mb) (Mb_nodes mb).toNatClampNeg (-1 : Int32)), (upd (Mb_mark mb) (Mb_nodes mb).toNatClampNeg (-1 : Int32)), (upd (Mb_first mb) (Mb_nodes mb).toNatClampNeg (-1 : Int32)), (upd (Mb_last mb) (Mb_nodes mb).toNatClampNeg (-1 : Int32)), (upd (Mb_next mb) (Mb_nodes mb).toNatClampNeg (-1 : Int32)), (upd (Mb_before mb) (Mb_nodes mb).toNatClampNeg (-1 : Int32)), (upd (Mb_hasEnding mb) (Mb_nodes mb).toNatClampNeg (vp_nar .boolean (0 : Int32))), (upd (Mb_endMark mb) (Mb_nodes mb).toNatClampNeg (0 : Int32)), (upd (Mb_inRow mb) (Mb_nodes mb).toNatClampNeg (vp_nar .boolean (0 : Int32))), (Mb_rowKind mb), (Mb_rowFirst mb), (Mb_rowLast mb), (Mb_rowCount mb)) mg mx mf) := hD
  refine lv_aload_n hx hb d_Md_make_92 rfl (lv_at hl 1 rfl) ?_
  refine va_get (D := (dC, dI)) (ci := 7) (v := .ref (a 14)) (C := R_Md) (T := F_Md) (N := 35) hx hb hts inb_Md hown hK hP 0 rfl rfl 22 (by decide) (hts _ tw709) (fun _ h9 => h9) rfl d_Md_make_93 ?_
  refine lv_iload_n hx hb d_Md_make_96 rfl (lv_at hl 0 rfl) ?_
  refine lv_iconst (v := 0) hx hb d_Md_make_97 (by decide) ?_
  obtain ⟨hin, h⟩ := o_in h
  refine va_zast hx hb hK hP hD hS 14 2 rfl rfl hin d_Md_make_98 (fun H locs hP hD hS => ?_)
  have hP : va_P (dC, dI) classes (cMd cI cJ cZ a ((Mb_kinds mb), (Mb_above mb), ((Mb_nodes mb) + (1 : Int32)), (upd (Mb_sort mb) (Mb_nodes mb).toNatClampNeg x1), (upd (Mb_given mb) (Mb_nodes mb).toNatClampNeg x2), (upd (Mb_partOf mb) (Mb_nodes mb).toNatClampNeg (-1 : Int32)), (upd (Mb_mark mb) (Mb_nodes mb).toNatClampNeg (-1 : Int32)), (upd (Mb_first mb) (Mb_nodes mb).toNatClampNeg (-1 : Int32)), (upd (Mb_last mb) (Mb_nodes mb).toNatClampNeg (-1 : Int32)), (upd (Mb_next mb) (Mb_nodes mb).toNatClampNeg (-1 : Int32)), (upd (Mb_before mb) (Mb_nodes mb).toNatClampNeg (-1 : Int32)), (upd (Mb_hasEnding mb) (Mb_nodes mb).toNatClampNeg (vp_nar .boolean (0 : Int32))), (upd (Mb_endMark mb) (Mb_nodes mb).toNatClampNeg (0 : Int32)), (upd (Mb_inRow mb) (Mb_nodes mb).toNatClampNeg (vp_nar .boolean (0 : Int32))), (Mb_rowKind mb), (Mb_rowFirst mb), (Mb_rowLast mb), (Mb_rowCount mb)) ((Mg_root mg), (Mg_rooted mg), (Mg_knownKinds mg), (Mg_order mg), (upd (Mg_inRoot mg) (Mb_nodes mb).toNatClampNeg (vp_nar .boolean (0 : Int32))), (Mg_targets mg)) mx mf) H := hP
  have hD : va_D A (cMd cI cJ cZ a ((Mb_kinds mb), (Mb_above mb), ((Mb_nodes mb) + (1 : Int32)), (upd (Mb_sort mb) (Mb_nodes mb).toNatClampNeg x1), (upd (Mb_given mb) (Mb_nodes mb).toNatClampNeg x2), (upd (Mb_partOf mb) (Mb_nodes mb).toNatClampNeg (-1 : Int32)), (upd (Mb_mark mb) (Mb_nodes mb).toNatClampNeg (-1 : Int32)), (upd (Mb_first mb) (Mb_nodes mb).toNatClampNeg (-1 : Int32)), (upd (Mb_last mb) (Mb_nodes mb).toNatClampNeg (-1 : Int32)), (upd (Mb_next mb) (Mb_nodes mb).toNatClampNeg (-1 : Int32)), (upd (Mb_before mb) (Mb_nodes mb).toNatClampNeg (-1 : Int32)), (upd (Mb_hasEnding mb) (Mb_nodes mb).toNatClampNeg (vp_nar .boolean (0 : Int32))), (upd (Mb_endMark mb) (Mb_nodes mb).toNatClampNeg (0 : Int32)), (upd (Mb_inRow mb) (Mb_nodes mb).toNatClampNeg (vp_nar .boolean (0 : Int32))), (Mb_rowKind mb), (Mb_rowFirst mb), (Mb_rowLast mb), (Mb_rowCount mb)) ((Mg_root mg), (Mg_rooted mg), (Mg_knownKinds mg), (Mg_order mg), (upd (Mg_inRoot mg) (Mb_nodes mb).toNatClampNeg (vp_nar .boolean (0 : Int32))), (Mg_targets mg)) mx mf) := hD
  refine lv_iload_n hx hb d_Md_make_99 rfl (lv_at hl 0 rfl) ?_
  cases h
  exact kr_i hx hb hr hlocks hP hD hS d_Md_make_100
set_option maxHeartbeats 4000000 in
set_option maxRecDepth 100000 in
theorem c_Md_join (l : Launch) (dC : Nat → ClassId) (dI : Nat → Nat → Nat) (cI cJ cZ : ClassId) (a : Nat → Nat) (x1 : Int32) (x2 : Int32) (mb : MbS) (mg : MgS) (mx : MxS) (mf : MfS) (res : MbS) (h : f_Md_join x1 x2 mb = some res) :
    Kt l (dC, dI) classes [(cI, .int), (cJ, .long), (cZ, .boolean)] y_Md_join (wz y_Md_join b_Md_join 3 none) { frames := 0, cells := 0, slots := 0, locals := 0 } [.ref (a 0), .int x1, .int x2] (cMd cI cJ cZ a mb mg mx mf) none (cMd cI cJ cZ a res mg mx mf) := by
  refine Kt_of (cc := b_Md_join) (maxL := 3) (ret := none) (by decide) (Nat.le_of_ble_eq_true rfl) ?_
  intro p e s m args below meth c A ls hx hb hr hml hlocks hown hts hNw hK hP hD hA hS hl
  have hl : lv_has ls 3 [(0, .ref (a 0)), (1, .int x1), (2, .int x2)] := hl
  have hP : va_P (dC, dI) classes (cMd cI cJ cZ a mb mg mx mf) s.heap := hP
  have B65 : ∀ (x1_65 : Int32) (x2_65 : Int32) (mb_65 : MbS) (H : Heap) (locs : List Loc) (ls : Array Slot), f_Md_join_b65 x1_65 x2_65 mb_65 = some res → va_P (dC, dI) classes (cMd cI cJ cZ a mb_65 mg mx mf) H → va_D A (cMd cI cJ cZ a mb_65 mg mx mf) → va_S A s.heap H locs → lv_has ls 3 [(0, .ref (a 0)), (1, .int x1_65), (2, .int x2_65)] → W p l e { frames := 0, cells := 0, slots := 0, locals := 0 } s m args below meth c H locs 0 0 (KZ below args s (dC, dI) classes none (cMd cI cJ cZ a res mg mx mf) A) (F0 m 65 ls []) := by
    intro x1_65 x2_65 mb_65 H locs ls h hP hD hS hl
    refine lv_aload_n hx hb d_Md_join_65 rfl (lv_at hl 0 rfl) ?_
    refine va_get (D := (dC, dI)) (ci := 7) (v := .ref (a 7)) (C := R_Md) (T := F_Md) (N := 35) hx hb hts inb_Md hown hK hP 0 rfl rfl 8 (by decide) (hts _ tw695) (fun _ h9 => h9) rfl d_Md_join_66 ?_
    refine lv_iload_n hx hb d_Md_join_69 rfl (lv_at hl 1 rfl) ?_
    refine lv_iload_n hx hb d_Md_join_70 rfl (lv_at hl 2 rfl) ?_
    obtain ⟨hin, h⟩ := o_in h
    refine va_iast hx hb hK hP hD hS 7 0 rfl rfl hin d_Md_join_71 (fun H locs hP hD hS => ?_)
    have hP : va_P (dC, dI) classes (cMd cI cJ cZ a ((Mb_kinds mb_65), (Mb_above mb_65), (Mb_nodes mb_65), (Mb_sort mb_65), (Mb_given mb_65), (Mb_partOf mb_65), (Mb_mark mb_65), (Mb_first mb_65), (upd (Mb_last mb_65) x1_65.toNatClampNeg x2_65), (Mb_next mb_65), (Mb_before mb_65), (Mb_hasEnding mb_65), (Mb_endMark mb_65), (Mb_inRow mb_65), (Mb_rowKind mb_65), (Mb_rowFirst mb_65), (Mb_rowLast mb_65), (Mb_rowCount mb_65)) mg mx mf) H := hP
    have hD : va_D A (cMd cI cJ cZ a ((Mb_kinds mb_65), (Mb_above mb_65), (Mb_nodes mb_65), (Mb_sort mb_65), (Mb_given mb_65), (Mb_partOf mb_65), (Mb_mark mb_65), (Mb_first mb_65), (upd (Mb_last mb_65) x1_65.toNatClampNeg x2_65), (Mb_next mb_65), (Mb_before mb_65), (Mb_hasEnding mb_65), (Mb_endMark mb_65), (Mb_inRow mb_65), (Mb_rowKind mb_65), (Mb_rowFirst mb_65), (Mb_rowLast mb_65), (Mb_rowCount mb_65)) mg mx mf) := hD
    cases h
    exact kr_v hx hb hr hlocks hP hD hS d_Md_join_72
  refine lv_aload_n hx hb d_Md_join_0 rfl (lv_at hl 0 rfl) ?_
  refine va_get (D := (dC, dI)) (ci := 7) (v := .ref (a 4)) (C := R_Md) (T := F_Md) (N := 35) hx hb hts inb_Md hown hK hP 0 rfl rfl 5 (by decide) (hts _ tw692) (fun _ h9 => h9) rfl d_Md_join_1 ?_
  refine lv_iload_n hx hb d_Md_join_4 rfl (lv_at hl 2 rfl) ?_
  refine lv_iload_n hx hb d_Md_join_5 rfl (lv_at hl 1 rfl) ?_
  obtain ⟨hin, h⟩ := o_in h
  refine va_iast hx hb hK hP hD hS 4 0 rfl rfl hin d_Md_join_6 (fun H locs hP hD hS => ?_)
  have hP : va_P (dC, dI) classes (cMd cI cJ cZ a ((Mb_kinds mb), (Mb_above mb), (Mb_nodes mb), (Mb_sort mb), (Mb_given mb), (upd (Mb_partOf mb) x2.toNatClampNeg x1), (Mb_mark mb), (Mb_first mb), (Mb_last mb), (Mb_next mb), (Mb_before mb), (Mb_hasEnding mb), (Mb_endMark mb), (Mb_inRow mb), (Mb_rowKind mb), (Mb_rowFirst mb), (Mb_rowLast mb), (Mb_rowCount mb)) mg mx mf) H := hP
  have hD : va_D A (cMd cI cJ cZ a ((Mb_kinds mb), (Mb_above mb), (Mb_nodes mb), (Mb_sort mb), (Mb_given mb), (upd (Mb_partOf mb) x2.toNatClampNeg x1), (Mb_mark mb), (Mb_first mb), (Mb_last mb), (Mb_next mb), (Mb_before mb), (Mb_hasEnding mb), (Mb_endMark mb), (Mb_inRow mb), (Mb_rowKind mb), (Mb_rowFirst mb), (Mb_rowLast mb), (Mb_rowCount mb)) mg mx mf) := hD
  refine lv_aload_n hx hb d_Md_join_7 rfl (lv_at hl 0 rfl) ?_
  refine va_get (D := (dC, dI)) (ci := 7) (v := .ref (a 12)) (C := R_Md) (T := F_Md) (N := 35) hx hb hts inb_Md hown hK hP 0 rfl rfl 13 (by decide) (hts _ tw700) (fun _ h9 => h9) rfl d_Md_join_8 ?_
  refine lv_iload_n hx hb d_Md_join_11 rfl (lv_at hl 2 rfl) ?_
  refine lv_iconst (v := 0) hx hb d_Md_join_12 (by decide) ?_
  obtain ⟨hin, h⟩ := o_in h
  refine va_zast hx hb hK hP hD hS 12 2 rfl rfl hin d_Md_join_13 (fun H locs hP hD hS => ?_)
  have hP : va_P (dC, dI) classes (cMd cI cJ cZ a ((Mb_kinds mb), (Mb_above mb), (Mb_nodes mb), (Mb_sort mb), (Mb_given mb), (upd (Mb_partOf mb) x2.toNatClampNeg x1), (Mb_mark mb), (Mb_first mb), (Mb_last mb), (Mb_next mb), (Mb_before mb), (Mb_hasEnding mb), (Mb_endMark mb), (upd (Mb_inRow mb) x2.toNatClampNeg (vp_nar .boolean (0 : Int32))), (Mb_rowKind mb), (Mb_rowFirst mb), (Mb_rowLast mb), (Mb_rowCount mb)) mg mx mf) H := hP
  have hD : va_D A (cMd cI cJ cZ a ((Mb_kinds mb), (Mb_above mb), (Mb_nodes mb), (Mb_sort mb), (Mb_given mb), (upd (Mb_partOf mb) x2.toNatClampNeg x1), (Mb_mark mb), (Mb_first mb), (Mb_last mb), (Mb_next mb), (Mb_before mb), (Mb_hasEnding mb), (Mb_endMark mb), (upd (Mb_inRow mb) x2.toNatClampNeg (vp_nar .boolean (0 : Int32))), (Mb_rowKind mb), (Mb_rowFirst mb), (Mb_rowLast mb), (Mb_rowCount mb)) mg mx mf) := hD
  refine lv_aload_n hx hb d_Md_join_14 rfl (lv_at hl 0 rfl) ?_
  refine va_get (D := (dC, dI)) (ci := 7) (v := .ref (a 9)) (C := R_Md) (T := F_Md) (N := 35) hx hb hts inb_Md hown hK hP 0 rfl rfl 10 (by decide) (hts _ tw697) (fun _ h9 => h9) rfl d_Md_join_15 ?_
  refine lv_iload_n hx hb d_Md_join_18 rfl (lv_at hl 2 rfl) ?_
  refine lv_aload_n hx hb d_Md_join_19 rfl (lv_at hl 0 rfl) ?_
  refine va_get (D := (dC, dI)) (ci := 7) (v := .ref (a 7)) (C := R_Md) (T := F_Md) (N := 35) hx hb hts inb_Md hown hK hP 0 rfl rfl 8 (by decide) (hts _ tw695) (fun _ h9 => h9) rfl d_Md_join_20 ?_
  refine lv_iload_n hx hb d_Md_join_23 rfl (lv_at hl 1 rfl) ?_
  obtain ⟨hin, h⟩ := o_in h
  refine va_iald hx hb hK hP 7 0 rfl rfl hin d_Md_join_24 ?_
  obtain ⟨hin, h⟩ := o_in h
  refine va_iast hx hb hK hP hD hS 9 0 rfl rfl hin d_Md_join_25 (fun H locs hP hD hS => ?_)
  have hP : va_P (dC, dI) classes (cMd cI cJ cZ a ((Mb_kinds mb), (Mb_above mb), (Mb_nodes mb), (Mb_sort mb), (Mb_given mb), (upd (Mb_partOf mb) x2.toNatClampNeg x1), (Mb_mark mb), (Mb_first mb), (Mb_last mb), (Mb_next mb), (upd (Mb_before mb) x2.toNatClampNeg ((Mb_last mb) x1.toNatClampNeg)), (Mb_hasEnding mb), (Mb_endMark mb), (upd (Mb_inRow mb) x2.toNatClampNeg (vp_nar .boolean (0 : Int32))), (Mb_rowKind mb), (Mb_rowFirst mb), (Mb_rowLast mb), (Mb_rowCount mb)) mg mx mf) H := hP
  have hD : va_D A (cMd cI cJ cZ a ((Mb_kinds mb), (Mb_above mb), (Mb_nodes mb), (Mb_sort mb), (Mb_given mb), (upd (Mb_partOf mb) x2.toNatClampNeg x1), (Mb_mark mb), (Mb_first mb), (Mb_last mb), (Mb_next mb), (upd (Mb_before mb) x2.toNatClampNeg ((Mb_last mb) x1.toNatClampNeg)), (Mb_hasEnding mb), (Mb_endMark mb), (upd (Mb_inRow mb) x2.toNatClampNeg (vp_nar .boolean (0 : Int32))), (Mb_rowKind mb), (Mb_rowFirst mb), (Mb_rowLast mb), (Mb_rowCount mb)) mg mx mf) := hD
  refine lv_aload_n hx hb d_Md_join_26 rfl (lv_at hl 0 rfl) ?_
  refine va_get (D := (dC, dI)) (ci := 7) (v := .ref (a 8)) (C := R_Md) (T := F_Md) (N := 35) hx hb hts inb_Md hown hK hP 0 rfl rfl 9 (by decide) (hts _ tw696) (fun _ h9 => h9) rfl d_Md_join_27 ?_
  refine lv_iload_n hx hb d_Md_join_30 rfl (lv_at hl 2 rfl) ?_
  refine lv_iconst (v := -1) hx hb d_Md_join_31 (by decide) ?_
  obtain ⟨hin, h⟩ := o_in h
  refine va_iast hx hb hK hP hD hS 8 0 rfl rfl hin d_Md_join_32 (fun H locs hP hD hS => ?_)
  have hP : va_P (dC, dI) classes (cMd cI cJ cZ a ((Mb_kinds mb), (Mb_above mb), (Mb_nodes mb), (Mb_sort mb), (Mb_given mb), (upd (Mb_partOf mb) x2.toNatClampNeg x1), (Mb_mark mb), (Mb_first mb), (Mb_last mb), (upd (Mb_next mb) x2.toNatClampNeg (-1 : Int32)), (upd (Mb_before mb) x2.toNatClampNeg ((Mb_last mb) x1.toNatClampNeg)), (Mb_hasEnding mb), (Mb_endMark mb), (upd (Mb_inRow mb) x2.toNatClampNeg (vp_nar .boolean (0 : Int32))), (Mb_rowKind mb), (Mb_rowFirst mb), (Mb_rowLast mb), (Mb_rowCount mb)) mg mx mf) H := hP
  have hD : va_D A (cMd cI cJ cZ a ((Mb_kinds mb), (Mb_above mb), (Mb_nodes mb), (Mb_sort mb), (Mb_given mb), (upd (Mb_partOf mb) x2.toNatClampNeg x1), (Mb_mark mb), (Mb_first mb), (Mb_last mb), (upd (Mb_next mb) x2.toNatClampNeg (-1 : Int32)), (upd (Mb_before mb) x2.toNatClampNeg ((Mb_last mb) x1.toNatClampNeg)), (Mb_hasEnding mb), (Mb_endMark mb), (upd (Mb_inRow mb) x2.toNatClampNeg (vp_nar .boolean (0 : Int32))), (Mb_rowKind mb), (Mb_rowFirst mb), (Mb_rowLast mb), (Mb_rowCount mb)) mg mx mf) := hD
  refine lv_aload_n hx hb d_Md_join_33 rfl (lv_at hl 0 rfl) ?_
  refine va_get (D := (dC, dI)) (ci := 7) (v := .ref (a 7)) (C := R_Md) (T := F_Md) (N := 35) hx hb hts inb_Md hown hK hP 0 rfl rfl 8 (by decide) (hts _ tw695) (fun _ h9 => h9) rfl d_Md_join_34 ?_
  refine lv_iload_n hx hb d_Md_join_37 rfl (lv_at hl 1 rfl) ?_
  obtain ⟨hin, h⟩ := o_in h
  refine va_iald hx hb hK hP 7 0 rfl rfl hin d_Md_join_38 ?_
  refine lv_iconst (v := -1) hx hb d_Md_join_39 (by decide) ?_
  refine lv_icmp_ne (tgt := 53) hx hb d_Md_join_40 (by decide) (fun hc => ?_) (fun hc => ?_)
  · have h := o_f hc h
    refine lv_aload_n hx hb d_Md_join_53 rfl (lv_at hl 0 rfl) ?_
    refine va_get (D := (dC, dI)) (ci := 7) (v := .ref (a 8)) (C := R_Md) (T := F_Md) (N := 35) hx hb hts inb_Md hown hK hP 0 rfl rfl 9 (by decide) (hts _ tw696) (fun _ h9 => h9) rfl d_Md_join_54 ?_
    refine lv_aload_n hx hb d_Md_join_57 rfl (lv_at hl 0 rfl) ?_
    refine va_get (D := (dC, dI)) (ci := 7) (v := .ref (a 7)) (C := R_Md) (T := F_Md) (N := 35) hx hb hts inb_Md hown hK hP 0 rfl rfl 8 (by decide) (hts _ tw695) (fun _ h9 => h9) rfl d_Md_join_58 ?_
    refine lv_iload_n hx hb d_Md_join_61 rfl (lv_at hl 1 rfl) ?_
    obtain ⟨hin, h⟩ := o_in h
    refine va_iald hx hb hK hP 7 0 rfl rfl hin d_Md_join_62 ?_
    refine lv_iload_n hx hb d_Md_join_63 rfl (lv_at hl 2 rfl) ?_
    obtain ⟨hin, h⟩ := o_in h
    refine va_iast hx hb hK hP hD hS 8 0 rfl rfl hin d_Md_join_64 (fun H locs hP hD hS => ?_)
    have hP : va_P (dC, dI) classes (cMd cI cJ cZ a ((Mb_kinds mb), (Mb_above mb), (Mb_nodes mb), (Mb_sort mb), (Mb_given mb), (upd (Mb_partOf mb) x2.toNatClampNeg x1), (Mb_mark mb), (Mb_first mb), (Mb_last mb), (upd (upd (Mb_next mb) x2.toNatClampNeg (-1 : Int32)) ((Mb_last mb) x1.toNatClampNeg).toNatClampNeg x2), (upd (Mb_before mb) x2.toNatClampNeg ((Mb_last mb) x1.toNatClampNeg)), (Mb_hasEnding mb), (Mb_endMark mb), (upd (Mb_inRow mb) x2.toNatClampNeg (vp_nar .boolean (0 : Int32))), (Mb_rowKind mb), (Mb_rowFirst mb), (Mb_rowLast mb), (Mb_rowCount mb)) mg mx mf) H := hP
    have hD : va_D A (cMd cI cJ cZ a ((Mb_kinds mb), (Mb_above mb), (Mb_nodes mb), (Mb_sort mb), (Mb_given mb), (upd (Mb_partOf mb) x2.toNatClampNeg x1), (Mb_mark mb), (Mb_first mb), (Mb_last mb), (upd (upd (Mb_next mb) x2.toNatClampNeg (-1 : Int32)) ((Mb_last mb) x1.toNatClampNeg).toNatClampNeg x2), (upd (Mb_before mb) x2.toNatClampNeg ((Mb_last mb) x1.toNatClampNeg)), (Mb_hasEnding mb), (Mb_endMark mb), (upd (Mb_inRow mb) x2.toNatClampNeg (vp_nar .boolean (0 : Int32))), (Mb_rowKind mb), (Mb_rowFirst mb), (Mb_rowLast mb), (Mb_rowCount mb)) mg mx mf) := hD
    exact B65 x1 x2 ((Mb_kinds mb), (Mb_above mb), (Mb_nodes mb), (Mb_sort mb), (Mb_given mb), (upd (Mb_partOf mb) x2.toNatClampNeg x1), (Mb_mark mb), (Mb_first mb), (Mb_last mb), (upd (upd (Mb_next mb) x2.toNatClampNeg (-1 : Int32)) ((Mb_last mb) x1.toNatClampNeg).toNatClampNeg x2), (upd (Mb_before mb) x2.toNatClampNeg ((Mb_last mb) x1.toNatClampNeg)), (Mb_hasEnding mb), (Mb_endMark mb), (upd (Mb_inRow mb) x2.toNatClampNeg (vp_nar .boolean (0 : Int32))), (Mb_rowKind mb), (Mb_rowFirst mb), (Mb_rowLast mb), (Mb_rowCount mb)) _ _ _ h hP hD hS (lv_sub hl [0, 1, 2] rfl)
  · have h := o_t hc h
    refine lv_aload_n hx hb d_Md_join_43 rfl (lv_at hl 0 rfl) ?_
    refine va_get (D := (dC, dI)) (ci := 7) (v := .ref (a 6)) (C := R_Md) (T := F_Md) (N := 35) hx hb hts inb_Md hown hK hP 0 rfl rfl 7 (by decide) (hts _ tw694) (fun _ h9 => h9) rfl d_Md_join_44 ?_
    refine lv_iload_n hx hb d_Md_join_47 rfl (lv_at hl 1 rfl) ?_
    refine lv_iload_n hx hb d_Md_join_48 rfl (lv_at hl 2 rfl) ?_
    obtain ⟨hin, h⟩ := o_in h
    refine va_iast hx hb hK hP hD hS 6 0 rfl rfl hin d_Md_join_49 (fun H locs hP hD hS => ?_)
    have hP : va_P (dC, dI) classes (cMd cI cJ cZ a ((Mb_kinds mb), (Mb_above mb), (Mb_nodes mb), (Mb_sort mb), (Mb_given mb), (upd (Mb_partOf mb) x2.toNatClampNeg x1), (Mb_mark mb), (upd (Mb_first mb) x1.toNatClampNeg x2), (Mb_last mb), (upd (Mb_next mb) x2.toNatClampNeg (-1 : Int32)), (upd (Mb_before mb) x2.toNatClampNeg ((Mb_last mb) x1.toNatClampNeg)), (Mb_hasEnding mb), (Mb_endMark mb), (upd (Mb_inRow mb) x2.toNatClampNeg (vp_nar .boolean (0 : Int32))), (Mb_rowKind mb), (Mb_rowFirst mb), (Mb_rowLast mb), (Mb_rowCount mb)) mg mx mf) H := hP
    have hD : va_D A (cMd cI cJ cZ a ((Mb_kinds mb), (Mb_above mb), (Mb_nodes mb), (Mb_sort mb), (Mb_given mb), (upd (Mb_partOf mb) x2.toNatClampNeg x1), (Mb_mark mb), (upd (Mb_first mb) x1.toNatClampNeg x2), (Mb_last mb), (upd (Mb_next mb) x2.toNatClampNeg (-1 : Int32)), (upd (Mb_before mb) x2.toNatClampNeg ((Mb_last mb) x1.toNatClampNeg)), (Mb_hasEnding mb), (Mb_endMark mb), (upd (Mb_inRow mb) x2.toNatClampNeg (vp_nar .boolean (0 : Int32))), (Mb_rowKind mb), (Mb_rowFirst mb), (Mb_rowLast mb), (Mb_rowCount mb)) mg mx mf) := hD
    refine lv_goto (tgt := 65) hx hb d_Md_join_50 (by decide) ?_
    exact B65 x1 x2 ((Mb_kinds mb), (Mb_above mb), (Mb_nodes mb), (Mb_sort mb), (Mb_given mb), (upd (Mb_partOf mb) x2.toNatClampNeg x1), (Mb_mark mb), (upd (Mb_first mb) x1.toNatClampNeg x2), (Mb_last mb), (upd (Mb_next mb) x2.toNatClampNeg (-1 : Int32)), (upd (Mb_before mb) x2.toNatClampNeg ((Mb_last mb) x1.toNatClampNeg)), (Mb_hasEnding mb), (Mb_endMark mb), (upd (Mb_inRow mb) x2.toNatClampNeg (vp_nar .boolean (0 : Int32))), (Mb_rowKind mb), (Mb_rowFirst mb), (Mb_rowLast mb), (Mb_rowCount mb)) _ _ _ h hP hD hS (lv_sub hl [0, 1, 2] rfl)
set_option maxHeartbeats 4000000 in
set_option maxRecDepth 100000 in
theorem c_Md_mayBe (l : Launch) (dC : Nat → ClassId) (dI : Nat → Nat → Nat) (cI cJ cZ : ClassId) (a : Nat → Nat) (x1 : Int32) (x2 : Int32) (x3 : Int32) (x4 : Int32) (mb : MbS) (mg : MgS) (mx : MxS) (mf : MfS) (res : Int32) (h : f_Md_mayBe x1 x2 x3 x4 mb = some res) :
    Kt l (dC, dI) classes [(cI, .int), (cJ, .long), (cZ, .boolean)] y_Md_mayBe (wz y_Md_mayBe b_Md_mayBe 7 (some .boolean)) { frames := 3, cells := 0, slots := 0, locals := 64 } [.ref (a 0), .int x1, .int x2, .int x3, .int x4] (cMd cI cJ cZ a mb mg mx mf) (some (.int res)) (cMd cI cJ cZ a mb mg mx mf) := by
  refine Kt_of (cc := b_Md_mayBe) (maxL := 7) (ret := (some .boolean)) (by decide) (Nat.le_of_ble_eq_true rfl) ?_
  intro p e s m args below meth c A ls hx hb hr hml hlocks hown hts hNw hK hP hD hA hS hl
  have hl : lv_has ls 7 [(0, .ref (a 0)), (1, .int x1), (2, .int x2), (3, .int x3), (4, .int x4)] := hl
  have hP : va_P (dC, dI) classes (cMd cI cJ cZ a mb mg mx mf) s.heap := hP
  have B253 : ∀ (x1_253 : Int32) (x3_253 : Int32) (x4_253 : Int32) (x6_253 : Int32) (H : Heap) (locs : List Loc) (ls : Array Slot), f_Md_mayBe_b253 x1_253 x3_253 x4_253 x6_253 mb = some res → va_P (dC, dI) classes (cMd cI cJ cZ a mb mg mx mf) H → va_D A (cMd cI cJ cZ a mb mg mx mf) → va_S A s.heap H locs → lv_has ls 7 [(0, .ref (a 0)), (1, .int x1_253), (3, .int x3_253), (4, .int x4_253), (6, .int x6_253)] → W p l e { frames := 3, cells := 0, slots := 0, locals := 64 } s m args below meth c H locs 0 0 (KZ below args s (dC, dI) classes (some (.int res)) (cMd cI cJ cZ a mb mg mx mf) A) (F0 m 253 ls []) := by
    intro x1_253 x3_253 x4_253 x6_253 H locs ls h hP hD hS hl
    refine lv_iload hx hb d_Md_mayBe_253 (lv_at hl 4 rfl) ?_
    refine lv_if_eq (tgt := 288) hx hb d_Md_mayBe_255 (by decide) (fun hc => ?_) (fun hc => ?_)
    · have h := o_t hc h
      refine lv_iconst (v := 0) hx hb d_Md_mayBe_288 (by decide) ?_
      cases h
      exact kr_z hx hb hr (by decide) hlocks hP hD hS d_Md_mayBe_289
    · have h := o_f hc h
      refine lv_iload hx hb d_Md_mayBe_258 (lv_at hl 3 rfl) ?_
      refine lv_iconst (v := -1) hx hb d_Md_mayBe_260 (by decide) ?_
      refine lv_icmp_eq (tgt := 284) hx hb d_Md_mayBe_261 (by decide) (fun hc => ?_) (fun hc => ?_)
      · have h := o_t hc h
        refine lv_iconst (v := 1) hx hb d_Md_mayBe_284 (by decide) ?_
        refine lv_goto (tgt := 289) hx hb d_Md_mayBe_285 (by decide) ?_
        cases h
        exact kr_z hx hb hr (by decide) hlocks hP hD hS d_Md_mayBe_289
      · have h := o_f hc h
        refine lv_iload_n hx hb d_Md_mayBe_264 rfl (lv_at hl 1 rfl) ?_
        refine lv_iconst (v := 4) hx hb d_Md_mayBe_265 (by decide) ?_
        refine lv_icmp_ne (tgt := 288) hx hb d_Md_mayBe_266 (by decide) (fun hc => ?_) (fun hc => ?_)
        · have h := o_f hc h
          refine lv_iconst (v := 0) hx hb d_Md_mayBe_288 (by decide) ?_
          cases h
          exact kr_z hx hb hr (by decide) hlocks hP hD hS d_Md_mayBe_289
        · have h := o_t hc h
          refine lv_aload_n hx hb d_Md_mayBe_269 rfl (lv_at hl 0 rfl) ?_
          refine lv_iload hx hb d_Md_mayBe_270 (lv_at hl 3 rfl) ?_
          obtain ⟨y272, hy, h⟩ := o_bd h
          refine kdV (nn := 24) (rest := []) (w' := (cMd cI cJ cZ a mb mg mx mf)) (wr := ([] : va_W)) (st1 := [.int y272]) ⟨hx, hb, hml, hown, hts⟩ (c_Md_isFree l dC dI cI cJ cZ a x4_253 mb mg mx mf y272 hy) (cwV 1 hts (gd_V tw817 tw819 ps20 tw9 tw820) rfl rfl rfl hd_Md_isFree ⟨Nat.le_of_ble_eq_true rfl, Nat.le_of_ble_eq_true rfl⟩) hNw hK hP hD hS hA (ci := 7) rfl rfl rfl [0, 1, 2, 3, 4, 5, 6, 7, 8, 9, 10, 11, 12, 13, 14, 15, 16, 17, 18, 19, 20, 21, 22, 23] [] rfl rfl rfl rfl rfl (by decide +kernel) (by decide +kernel) rfl hl.1 rfl (Nat.le_of_ble_eq_true rfl) rfl d_Md_mayBe_272 ⟨Nat.zero_le _, Nat.zero_le _⟩ (fun H locs hP hD hS => ?_)
          refine lv_if_eq (tgt := 288) hx hb d_Md_mayBe_275 (by decide) (fun hc => ?_) (fun hc => ?_)
          · have h := o_t hc h
            refine lv_iconst (v := 0) hx hb d_Md_mayBe_288 (by decide) ?_
            cases h
            exact kr_z hx hb hr (by decide) hlocks hP hD hS d_Md_mayBe_289
          · have h := o_f hc h
            refine lv_iload_n hx hb d_Md_mayBe_278 rfl (lv_at hl 2 rfl) ?_
            refine lv_iload hx hb d_Md_mayBe_279 (lv_at hl 3 rfl) ?_
            refine lv_icmp_eq (tgt := 288) hx hb d_Md_mayBe_281 (by decide) (fun hc => ?_) (fun hc => ?_)
            · have h := o_t hc h
              refine lv_iconst (v := 0) hx hb d_Md_mayBe_288 (by decide) ?_
              cases h
              exact kr_z hx hb hr (by decide) hlocks hP hD hS d_Md_mayBe_289
            · have h := o_f hc h
              refine lv_iconst (v := 1) hx hb d_Md_mayBe_284 (by decide) ?_
              refine lv_goto (tgt := 289) hx hb d_Md_mayBe_285 (by decide) ?_
              cases h
              exact kr_z hx hb hr (by decide) hlocks hP hD hS d_Md_mayBe_289
  have B119 : ∀ (z0_119 : Int32) (x1_119 : Int32) (x3_119 : Int32) (x4_119 : Int32) (H : Heap) (locs : List Loc) (ls : Array Slot), f_Md_mayBe_b119 z0_119 x1_119 x3_119 x4_119 mb = some res → va_P (dC, dI) classes (cMd cI cJ cZ a mb mg mx mf) H → va_D A (cMd cI cJ cZ a mb mg mx mf) → va_S A s.heap H locs → lv_has ls 7 [(0, .ref (a 0)), (1, .int x1_119), (3, .int x3_119), (4, .int x4_119)] → W p l e { frames := 3, cells := 0, slots := 0, locals := 64 } s m args below meth c H locs 0 0 (KZ below args s (dC, dI) classes (some (.int res)) (cMd cI cJ cZ a mb mg mx mf) A) (F0 m 119 ls [.int z0_119]) := by
    intro z0_119 x1_119 x3_119 x4_119 H locs ls h hP hD hS hl
    refine lv_istore (lv' := [(6, .int z0_119), (0, .ref (a 0)), (1, .int x1_119), (3, .int x3_119), (4, .int x4_119)]) hx hb d_Md_mayBe_119 hl (by decide) rfl (fun ls hl => ?_)
    refine lv_goto (tgt := 253) hx hb d_Md_mayBe_121 (by decide) ?_
    exact B253 x1_119 x3_119 x4_119 z0_119 _ _ _ h hP hD hS (lv_sub hl [1, 2, 3, 4, 0] rfl)
  have B118 : ∀ (x1_118 : Int32) (x3_118 : Int32) (x4_118 : Int32) (H : Heap) (locs : List Loc) (ls : Array Slot), f_Md_mayBe_b118 x1_118 x3_118 x4_118 mb = some res → va_P (dC, dI) classes (cMd cI cJ cZ a mb mg mx mf) H → va_D A (cMd cI cJ cZ a mb mg mx mf) → va_S A s.heap H locs → lv_has ls 7 [(0, .ref (a 0)), (1, .int x1_118), (3, .int x3_118), (4, .int x4_118)] → W p l e { frames := 3, cells := 0, slots := 0, locals := 64 } s m args below meth c H locs 0 0 (KZ below args s (dC, dI) classes (some (.int res)) (cMd cI cJ cZ a mb mg mx mf) A) (F0 m 118 ls []) := by
    intro x1_118 x3_118 x4_118 H locs ls h hP hD hS hl
    refine lv_iconst (v := 0) hx hb d_Md_mayBe_118 (by decide) ?_
    exact B119 (0 : Int32) x1_118 x3_118 x4_118 _ _ _ h hP hD hS (lv_sub hl [0, 1, 2, 3] rfl)
  have B147 : ∀ (z0_147 : Int32) (x1_147 : Int32) (x3_147 : Int32) (x4_147 : Int32) (H : Heap) (locs : List Loc) (ls : Array Slot), f_Md_mayBe_b147 z0_147 x1_147 x3_147 x4_147 mb = some res → va_P (dC, dI) classes (cMd cI cJ cZ a mb mg mx mf) H → va_D A (cMd cI cJ cZ a mb mg mx mf) → va_S A s.heap H locs → lv_has ls 7 [(0, .ref (a 0)), (1, .int x1_147), (3, .int x3_147), (4, .int x4_147)] → W p l e { frames := 3, cells := 0, slots := 0, locals := 64 } s m args below meth c H locs 0 0 (KZ below args s (dC, dI) classes (some (.int res)) (cMd cI cJ cZ a mb mg mx mf) A) (F0 m 147 ls [.int z0_147]) := by
    intro z0_147 x1_147 x3_147 x4_147 H locs ls h hP hD hS hl
    refine lv_istore (lv' := [(6, .int z0_147), (0, .ref (a 0)), (1, .int x1_147), (3, .int x3_147), (4, .int x4_147)]) hx hb d_Md_mayBe_147 hl (by decide) rfl (fun ls hl => ?_)
    refine lv_goto (tgt := 253) hx hb d_Md_mayBe_149 (by decide) ?_
    exact B253 x1_147 x3_147 x4_147 z0_147 _ _ _ h hP hD hS (lv_sub hl [1, 2, 3, 4, 0] rfl)
  have B142 : ∀ (x1_142 : Int32) (x3_142 : Int32) (x4_142 : Int32) (H : Heap) (locs : List Loc) (ls : Array Slot), f_Md_mayBe_b142 x1_142 x3_142 x4_142 mb = some res → va_P (dC, dI) classes (cMd cI cJ cZ a mb mg mx mf) H → va_D A (cMd cI cJ cZ a mb mg mx mf) → va_S A s.heap H locs → lv_has ls 7 [(0, .ref (a 0)), (1, .int x1_142), (3, .int x3_142), (4, .int x4_142)] → W p l e { frames := 3, cells := 0, slots := 0, locals := 64 } s m args below meth c H locs 0 0 (KZ below args s (dC, dI) classes (some (.int res)) (cMd cI cJ cZ a mb mg mx mf) A) (F0 m 142 ls []) := by
    intro x1_142 x3_142 x4_142 H locs ls h hP hD hS hl
    refine lv_iconst (v := 1) hx hb d_Md_mayBe_142 (by decide) ?_
    refine lv_goto (tgt := 147) hx hb d_Md_mayBe_143 (by decide) ?_
    exact B147 (1 : Int32) x1_142 x3_142 x4_142 _ _ _ h hP hD hS (lv_sub hl [0, 1, 2, 3] rfl)
  have B146 : ∀ (x1_146 : Int32) (x3_146 : Int32) (x4_146 : Int32) (H : Heap) (locs : List Loc) (ls : Array Slot), f_Md_mayBe_b146 x1_146 x3_146 x4_146 mb = some res → va_P (dC, dI) classes (cMd cI cJ cZ a mb mg mx mf) H → va_D A (cMd cI cJ cZ a mb mg mx mf) → va_S A s.heap H locs → lv_has ls 7 [(0, .ref (a 0)), (1, .int x1_146), (3, .int x3_146), (4, .int x4_146)] → W p l e { frames := 3, cells := 0, slots := 0, locals := 64 } s m args below meth c H locs 0 0 (KZ below args s (dC, dI) classes (some (.int res)) (cMd cI cJ cZ a mb mg mx mf) A) (F0 m 146 ls []) := by
    intro x1_146 x3_146 x4_146 H locs ls h hP hD hS hl
    refine lv_iconst (v := 0) hx hb d_Md_mayBe_146 (by decide) ?_
    exact B147 (0 : Int32) x1_146 x3_146 x4_146 _ _ _ h hP hD hS (lv_sub hl [0, 1, 2, 3] rfl)
  have B170 : ∀ (z0_170 : Int32) (x1_170 : Int32) (x3_170 : Int32) (x4_170 : Int32) (H : Heap) (locs : List Loc) (ls : Array Slot), f_Md_mayBe_b170 z0_170 x1_170 x3_170 x4_170 mb = some res → va_P (dC, dI) classes (cMd cI cJ cZ a mb mg mx mf) H → va_D A (cMd cI cJ cZ a mb mg mx mf) → va_S A s.heap H locs → lv_has ls 7 [(0, .ref (a 0)), (1, .int x1_170), (3, .int x3_170), (4, .int x4_170)] → W p l e { frames := 3, cells := 0, slots := 0, locals := 64 } s m args below meth c H locs 0 0 (KZ below args s (dC, dI) classes (some (.int res)) (cMd cI cJ cZ a mb mg mx mf) A) (F0 m 170 ls [.int z0_170]) := by
    intro z0_170 x1_170 x3_170 x4_170 H locs ls h hP hD hS hl
    refine lv_istore (lv' := [(6, .int z0_170), (0, .ref (a 0)), (1, .int x1_170), (3, .int x3_170), (4, .int x4_170)]) hx hb d_Md_mayBe_170 hl (by decide) rfl (fun ls hl => ?_)
    refine lv_goto (tgt := 253) hx hb d_Md_mayBe_172 (by decide) ?_
    exact B253 x1_170 x3_170 x4_170 z0_170 _ _ _ h hP hD hS (lv_sub hl [1, 2, 3, 4, 0] rfl)
  have B169 : ∀ (x1_169 : Int32) (x3_169 : Int32) (x4_169 : Int32) (H : Heap) (locs : List Loc) (ls : Array Slot), f_Md_mayBe_b169 x1_169 x3_169 x4_169 mb = some res → va_P (dC, dI) classes (cMd cI cJ cZ a mb mg mx mf) H → va_D A (cMd cI cJ cZ a mb mg mx mf) → va_S A s.heap H locs → lv_has ls 7 [(0, .ref (a 0)), (1, .int x1_169), (3, .int x3_169), (4, .int x4_169)] → W p l e { frames := 3, cells := 0, slots := 0, locals := 64 } s m args below meth c H locs 0 0 (KZ below args s (dC, dI) classes (some (.int res)) (cMd cI cJ cZ a mb mg mx mf) A) (F0 m 169 ls []) := by
    intro x1_169 x3_169 x4_169 H locs ls h hP hD hS hl
    refine lv_iconst (v := 0) hx hb d_Md_mayBe_169 (by decide) ?_
    exact B170 (0 : Int32) x1_169 x3_169 x4_169 _ _ _ h hP hD hS (lv_sub hl [0, 1, 2, 3] rfl)
  have B194 : ∀ (z0_194 : Int32) (x1_194 : Int32) (x3_194 : Int32) (x4_194 : Int32) (H : Heap) (locs : List Loc) (ls : Array Slot), f_Md_mayBe_b194 z0_194 x1_194 x3_194 x4_194 mb = some res → va_P (dC, dI) classes (cMd cI cJ cZ a mb mg mx mf) H → va_D A (cMd cI cJ cZ a mb mg mx mf) → va_S A s.heap H locs → lv_has ls 7 [(0, .ref (a 0)), (1, .int x1_194), (3, .int x3_194), (4, .int x4_194)] → W p l e { frames := 3, cells := 0, slots := 0, locals := 64 } s m args below meth c H locs 0 0 (KZ below args s (dC, dI) classes (some (.int res)) (cMd cI cJ cZ a mb mg mx mf) A) (F0 m 194 ls [.int z0_194]) := by
    intro z0_194 x1_194 x3_194 x4_194 H locs ls h hP hD hS hl
    refine lv_istore (lv' := [(6, .int z0_194), (0, .ref (a 0)), (1, .int x1_194), (3, .int x3_194), (4, .int x4_194)]) hx hb d_Md_mayBe_194 hl (by decide) rfl (fun ls hl => ?_)
    refine lv_goto (tgt := 253) hx hb d_Md_mayBe_196 (by decide) ?_
    exact B253 x1_194 x3_194 x4_194 z0_194 _ _ _ h hP hD hS (lv_sub hl [1, 2, 3, 4, 0] rfl)
  have B193 : ∀ (x1_193 : Int32) (x3_193 : Int32) (x4_193 : Int32) (H : Heap) (locs : List Loc) (ls : Array Slot), f_Md_mayBe_b193 x1_193 x3_193 x4_193 mb = some res → va_P (dC, dI) classes (cMd cI cJ cZ a mb mg mx mf) H → va_D A (cMd cI cJ cZ a mb mg mx mf) → va_S A s.heap H locs → lv_has ls 7 [(0, .ref (a 0)), (1, .int x1_193), (3, .int x3_193), (4, .int x4_193)] → W p l e { frames := 3, cells := 0, slots := 0, locals := 64 } s m args below meth c H locs 0 0 (KZ below args s (dC, dI) classes (some (.int res)) (cMd cI cJ cZ a mb mg mx mf) A) (F0 m 193 ls []) := by
    intro x1_193 x3_193 x4_193 H locs ls h hP hD hS hl
    refine lv_iconst (v := 0) hx hb d_Md_mayBe_193 (by decide) ?_
    exact B194 (0 : Int32) x1_193 x3_193 x4_193 _ _ _ h hP hD hS (lv_sub hl [0, 1, 2, 3] rfl)
  have B251 : ∀ (z0_251 : Int32) (x1_251 : Int32) (x3_251 : Int32) (x4_251 : Int32) (H : Heap) (locs : List Loc) (ls : Array Slot), f_Md_mayBe_b251 z0_251 x1_251 x3_251 x4_251 mb = some res → va_P (dC, dI) classes (cMd cI cJ cZ a mb mg mx mf) H → va_D A (cMd cI cJ cZ a mb mg mx mf) → va_S A s.heap H locs → lv_has ls 7 [(0, .ref (a 0)), (1, .int x1_251), (3, .int x3_251), (4, .int x4_251)] → W p l e { frames := 3, cells := 0, slots := 0, locals := 64 } s m args below meth c H locs 0 0 (KZ below args s (dC, dI) classes (some (.int res)) (cMd cI cJ cZ a mb mg mx mf) A) (F0 m 251 ls [.int z0_251]) := by
    intro z0_251 x1_251 x3_251 x4_251 H locs ls h hP hD hS hl
    refine lv_istore (lv' := [(6, .int z0_251), (0, .ref (a 0)), (1, .int x1_251), (3, .int x3_251), (4, .int x4_251)]) hx hb d_Md_mayBe_251 hl (by decide) rfl (fun ls hl => ?_)
    exact B253 x1_251 x3_251 x4_251 z0_251 _ _ _ h hP hD hS (lv_sub hl [1, 2, 3, 4, 0] rfl)
  have B250 : ∀ (x1_250 : Int32) (x3_250 : Int32) (x4_250 : Int32) (H : Heap) (locs : List Loc) (ls : Array Slot), f_Md_mayBe_b250 x1_250 x3_250 x4_250 mb = some res → va_P (dC, dI) classes (cMd cI cJ cZ a mb mg mx mf) H → va_D A (cMd cI cJ cZ a mb mg mx mf) → va_S A s.heap H locs → lv_has ls 7 [(0, .ref (a 0)), (1, .int x1_250), (3, .int x3_250), (4, .int x4_250)] → W p l e { frames := 3, cells := 0, slots := 0, locals := 64 } s m args below meth c H locs 0 0 (KZ below args s (dC, dI) classes (some (.int res)) (cMd cI cJ cZ a mb mg mx mf) A) (F0 m 250 ls []) := by
    intro x1_250 x3_250 x4_250 H locs ls h hP hD hS hl
    refine lv_iconst (v := 0) hx hb d_Md_mayBe_250 (by decide) ?_
    exact B251 (0 : Int32) x1_250 x3_250 x4_250 _ _ _ h hP hD hS (lv_sub hl [0, 1, 2, 3] rfl)
  have B233 : ∀ (x1_233 : Int32) (x3_233 : Int32) (x4_233 : Int32) (x6_233 : Int32) (H : Heap) (locs : List Loc) (ls : Array Slot), f_Md_mayBe_b233 x1_233 x3_233 x4_233 x6_233 mb = some res → va_P (dC, dI) classes (cMd cI cJ cZ a mb mg mx mf) H → va_D A (cMd cI cJ cZ a mb mg mx mf) → va_S A s.heap H locs → lv_has ls 7 [(0, .ref (a 0)), (1, .int x1_233), (3, .int x3_233), (4, .int x4_233), (6, .int x6_233)] → W p l e { frames := 3, cells := 0, slots := 0, locals := 64 } s m args below meth c H locs 0 0 (KZ below args s (dC, dI) classes (some (.int res)) (cMd cI cJ cZ a mb mg mx mf) A) (F0 m 233 ls []) := by
    intro x1_233 x3_233 x4_233 x6_233 H locs ls h hP hD hS hl
    refine lv_iload hx hb d_Md_mayBe_233 (lv_at hl 4 rfl) ?_
    refine lv_if_eq (tgt := 250) hx hb d_Md_mayBe_235 (by decide) (fun hc => ?_) (fun hc => ?_)
    · have h := o_t hc h
      exact B250 x1_233 x3_233 x4_233 _ _ _ h hP hD hS (lv_sub hl [0, 1, 2, 3] rfl)
    · have h := o_f hc h
      refine lv_aload_n hx hb d_Md_mayBe_238 rfl (lv_at hl 0 rfl) ?_
      refine lv_iload_n hx hb d_Md_mayBe_239 rfl (lv_at hl 2 rfl) ?_
      obtain ⟨y240, hy, h⟩ := o_bd h
      refine kdV (nn := 24) (rest := []) (w' := (cMd cI cJ cZ a mb mg mx mf)) (wr := ([] : va_W)) (st1 := [.int y240]) ⟨hx, hb, hml, hown, hts⟩ (c_Md_isFree l dC dI cI cJ cZ a x3_233 mb mg mx mf y240 hy) (cwV 1 hts (gd_V tw817 tw819 ps20 tw9 tw820) rfl rfl rfl hd_Md_isFree ⟨Nat.le_of_ble_eq_true rfl, Nat.le_of_ble_eq_true rfl⟩) hNw hK hP hD hS hA (ci := 7) rfl rfl rfl [0, 1, 2, 3, 4, 5, 6, 7, 8, 9, 10, 11, 12, 13, 14, 15, 16, 17, 18, 19, 20, 21, 22, 23] [] rfl rfl rfl rfl rfl (by decide +kernel) (by decide +kernel) rfl hl.1 rfl (Nat.le_of_ble_eq_true rfl) rfl d_Md_mayBe_240 ⟨Nat.zero_le _, Nat.zero_le _⟩ (fun H locs hP hD hS => ?_)
      refine lv_if_eq (tgt := 250) hx hb d_Md_mayBe_243 (by decide) (fun hc => ?_) (fun hc => ?_)
      · have h := o_t hc h
        exact B250 x1_233 x3_233 x4_233 _ _ _ h hP hD hS (lv_sub hl [0, 1, 2, 3] rfl)
      · have h := o_f hc h
        refine lv_iconst (v := 1) hx hb d_Md_mayBe_246 (by decide) ?_
        refine lv_goto (tgt := 251) hx hb d_Md_mayBe_247 (by decide) ?_
        exact B251 (1 : Int32) x1_233 x3_233 x4_233 _ _ _ h hP hD hS (lv_sub hl [0, 1, 2, 3] rfl)
  have B228 : ∀ (z0_228 : Int32) (x1_228 : Int32) (x3_228 : Int32) (x4_228 : Int32) (H : Heap) (locs : List Loc) (ls : Array Slot), f_Md_mayBe_b228 z0_228 x1_228 x3_228 x4_228 mb = some res → va_P (dC, dI) classes (cMd cI cJ cZ a mb mg mx mf) H → va_D A (cMd cI cJ cZ a mb mg mx mf) → va_S A s.heap H locs → lv_has ls 7 [(0, .ref (a 0)), (1, .int x1_228), (3, .int x3_228), (4, .int x4_228)] → W p l e { frames := 3, cells := 0, slots := 0, locals := 64 } s m args below meth c H locs 0 0 (KZ below args s (dC, dI) classes (some (.int res)) (cMd cI cJ cZ a mb mg mx mf) A) (F0 m 228 ls [.int z0_228]) := by
    intro z0_228 x1_228 x3_228 x4_228 H locs ls h hP hD hS hl
    refine lv_istore (lv' := [(6, .int z0_228), (0, .ref (a 0)), (1, .int x1_228), (3, .int x3_228), (4, .int x4_228)]) hx hb d_Md_mayBe_228 hl (by decide) rfl (fun ls hl => ?_)
    refine lv_goto (tgt := 253) hx hb d_Md_mayBe_230 (by decide) ?_
    exact B253 x1_228 x3_228 x4_228 z0_228 _ _ _ h hP hD hS (lv_sub hl [1, 2, 3, 4, 0] rfl)
  have B227 : ∀ (x1_227 : Int32) (x3_227 : Int32) (x4_227 : Int32) (H : Heap) (locs : List Loc) (ls : Array Slot), f_Md_mayBe_b227 x1_227 x3_227 x4_227 mb = some res → va_P (dC, dI) classes (cMd cI cJ cZ a mb mg mx mf) H → va_D A (cMd cI cJ cZ a mb mg mx mf) → va_S A s.heap H locs → lv_has ls 7 [(0, .ref (a 0)), (1, .int x1_227), (3, .int x3_227), (4, .int x4_227)] → W p l e { frames := 3, cells := 0, slots := 0, locals := 64 } s m args below meth c H locs 0 0 (KZ below args s (dC, dI) classes (some (.int res)) (cMd cI cJ cZ a mb mg mx mf) A) (F0 m 227 ls []) := by
    intro x1_227 x3_227 x4_227 H locs ls h hP hD hS hl
    refine lv_iconst (v := 0) hx hb d_Md_mayBe_227 (by decide) ?_
    exact B228 (0 : Int32) x1_227 x3_227 x4_227 _ _ _ h hP hD hS (lv_sub hl [0, 1, 2, 3] rfl)
  have B43 : ∀ (z0_43 : Int32) (z1_43 : Int32) (z2_43 : Int32) (x1_43 : Int32) (x3_43 : Int32) (x4_43 : Int32) (H : Heap) (locs : List Loc) (ls : Array Slot), f_Md_mayBe_b43 z0_43 z1_43 z2_43 x1_43 x3_43 x4_43 mb = some res → va_P (dC, dI) classes (cMd cI cJ cZ a mb mg mx mf) H → va_D A (cMd cI cJ cZ a mb mg mx mf) → va_S A s.heap H locs → lv_has ls 7 [(0, .ref (a 0)), (1, .int x1_43), (3, .int x3_43), (4, .int x4_43)] → W p l e { frames := 3, cells := 0, slots := 0, locals := 64 } s m args below meth c H locs 0 0 (KZ below args s (dC, dI) classes (some (.int res)) (cMd cI cJ cZ a mb mg mx mf) A) (F0 m 43 ls [.int z0_43, .int z1_43, .int z2_43]) := by
    intro z0_43 z1_43 z2_43 x1_43 x3_43 x4_43 H locs ls h hP hD hS hl
    obtain ⟨y43, hy, h⟩ := o_bd h
    refine kdS (nn := 24) (rest := []) (w' := (cMd cI cJ cZ a mb mg mx mf)) (wr := (cMd cI cJ cZ a mb mg mx mf)) (st1 := [.int y43]) ⟨hx, hb, hml, hown, hts⟩ (c_Md_isIn l dC dI cI cJ cZ a z2_43 z1_43 z0_43 y43 hy) (va_cwS 3 hts (gd_S tw806 tw807 tw9 tw808) rfl rfl rfl hd_Md_isIn.2 ⟨Nat.le_of_ble_eq_true rfl, Nat.le_of_ble_eq_true rfl⟩) hNw hK hP hD hS hA [] [0, 1, 2, 3, 4, 5, 6, 7, 8, 9, 10, 11, 12, 13, 14, 15, 16, 17, 18, 19, 20, 21, 22, 23] rfl rfl rfl rfl rfl (by decide +kernel) (by decide +kernel) rfl hl.1 rfl (Nat.le_of_ble_eq_true rfl) rfl d_Md_mayBe_43 ⟨Nat.zero_le _, Nat.zero_le _⟩ (fun H locs hP hD hS => ?_)
    refine lv_istore (lv' := [(6, .int y43), (0, .ref (a 0)), (1, .int x1_43), (3, .int x3_43), (4, .int x4_43)]) hx hb d_Md_mayBe_46 hl (by decide) rfl (fun ls hl => ?_)
    refine lv_iload_n hx hb d_Md_mayBe_48 rfl (lv_at hl 2 rfl) ?_
    refine sw_by (x := x1_43) (k := 0) (fun hc => ?_) (fun hn0 => ?_)
    · have h := o_t hc h
      refine sw_in (x := x1_43) (k := 0) hc (lv_tableIn (tgt := 104) hx hb d_Md_mayBe_49 (by decide) (by decide) (by rfl) (by decide) ?_)
      refine lv_iload hx hb d_Md_mayBe_104 (lv_at hl 0 rfl) ?_
      refine lv_if_eq (tgt := 118) hx hb d_Md_mayBe_106 (by decide) (fun hc => ?_) (fun hc => ?_)
      · have h := o_t hc h
        exact B118 x1_43 x3_43 x4_43 _ _ _ h hP hD hS (lv_sub hl [1, 2, 3, 4] rfl)
      · have h := o_f hc h
        refine lv_iload_n hx hb d_Md_mayBe_109 rfl (lv_at hl 3 rfl) ?_
        refine lv_iconst (v := -1) hx hb d_Md_mayBe_110 (by decide) ?_
        refine lv_icmp_ne (tgt := 118) hx hb d_Md_mayBe_111 (by decide) (fun hc => ?_) (fun hc => ?_)
        · have h := o_f hc h
          exact B118 x1_43 x3_43 x4_43 _ _ _ h hP hD hS (lv_sub hl [1, 2, 3, 4] rfl)
        · have h := o_t hc h
          refine lv_iconst (v := 1) hx hb d_Md_mayBe_114 (by decide) ?_
          refine lv_goto (tgt := 119) hx hb d_Md_mayBe_115 (by decide) ?_
          exact B119 (1 : Int32) x1_43 x3_43 x4_43 _ _ _ h hP hD hS (lv_sub hl [1, 2, 3, 4] rfl)
    · have h := o_f hn0 h
      refine sw_by (x := x1_43) (k := 1) (fun hc => ?_) (fun hn1 => ?_)
      · have h := o_t hc h
        refine sw_in (x := x1_43) (k := 1) hc (lv_tableIn (tgt := 124) hx hb d_Md_mayBe_49 (by decide) (by decide) (by rfl) (by decide) ?_)
        refine lv_iload hx hb d_Md_mayBe_124 (lv_at hl 0 rfl) ?_
        refine lv_if_eq (tgt := 146) hx hb d_Md_mayBe_126 (by decide) (fun hc => ?_) (fun hc => ?_)
        · have h := o_t hc h
          exact B146 x1_43 x3_43 x4_43 _ _ _ h hP hD hS (lv_sub hl [1, 2, 3, 4] rfl)
        · have h := o_f hc h
          refine lv_iload_n hx hb d_Md_mayBe_129 rfl (lv_at hl 3 rfl) ?_
          refine lv_iconst (v := -1) hx hb d_Md_mayBe_130 (by decide) ?_
          refine lv_icmp_eq (tgt := 142) hx hb d_Md_mayBe_131 (by decide) (fun hc => ?_) (fun hc => ?_)
          · have h := o_t hc h
            exact B142 x1_43 x3_43 x4_43 _ _ _ h hP hD hS (lv_sub hl [1, 2, 3, 4] rfl)
          · have h := o_f hc h
            refine lv_aload_n hx hb d_Md_mayBe_134 rfl (lv_at hl 1 rfl) ?_
            refine lv_iload_n hx hb d_Md_mayBe_135 rfl (lv_at hl 3 rfl) ?_
            obtain ⟨y136, hy, h⟩ := o_bd h
            refine kdV (nn := 24) (rest := []) (w' := (cMd cI cJ cZ a mb mg mx mf)) (wr := ([] : va_W)) (st1 := [.int y136]) ⟨hx, hb, hml, hown, hts⟩ (c_Md_isKind l dC dI cI cJ cZ a x3_43 mb mg mx mf y136 hy) (cwV 1 hts (gd_V tw802 tw804 ps18 tw9 tw805) rfl rfl rfl hd_Md_isKind ⟨Nat.le_of_ble_eq_true rfl, Nat.le_of_ble_eq_true rfl⟩) hNw hK hP hD hS hA (ci := 7) rfl rfl rfl [0, 1, 2, 3, 4, 5, 6, 7, 8, 9, 10, 11, 12, 13, 14, 15, 16, 17, 18, 19, 20, 21, 22, 23] [] rfl rfl rfl rfl rfl (by decide +kernel) (by decide +kernel) rfl hl.1 rfl (Nat.le_of_ble_eq_true rfl) rfl d_Md_mayBe_136 ⟨Nat.zero_le _, Nat.zero_le _⟩ (fun H locs hP hD hS => ?_)
            refine lv_if_eq (tgt := 146) hx hb d_Md_mayBe_139 (by decide) (fun hc => ?_) (fun hc => ?_)
            · have h := o_t hc h
              exact B146 x1_43 x3_43 x4_43 _ _ _ h hP hD hS (lv_sub hl [1, 2, 3, 4] rfl)
            · have h := o_f hc h
              exact B142 x1_43 x3_43 x4_43 _ _ _ h hP hD hS (lv_sub hl [1, 2, 3, 4] rfl)
      · have h := o_f hn1 h
        refine sw_by (x := x1_43) (k := 2) (fun hc => ?_) (fun hn2 => ?_)
        · have h := o_t hc h
          refine sw_in (x := x1_43) (k := 2) hc (lv_tableIn (tgt := 152) hx hb d_Md_mayBe_49 (by decide) (by decide) (by rfl) (by decide) ?_)
          refine lv_iload hx hb d_Md_mayBe_152 (lv_at hl 0 rfl) ?_
          refine lv_if_eq (tgt := 169) hx hb d_Md_mayBe_154 (by decide) (fun hc => ?_) (fun hc => ?_)
          · have h := o_t hc h
            exact B169 x1_43 x3_43 x4_43 _ _ _ h hP hD hS (lv_sub hl [1, 2, 3, 4] rfl)
          · have h := o_f hc h
            refine lv_aload_n hx hb d_Md_mayBe_157 rfl (lv_at hl 1 rfl) ?_
            refine lv_iload_n hx hb d_Md_mayBe_158 rfl (lv_at hl 3 rfl) ?_
            obtain ⟨y159, hy, h⟩ := o_bd h
            refine kdV (nn := 24) (rest := []) (w' := (cMd cI cJ cZ a mb mg mx mf)) (wr := ([] : va_W)) (st1 := [.int y159]) ⟨hx, hb, hml, hown, hts⟩ (c_Md_isKind l dC dI cI cJ cZ a x3_43 mb mg mx mf y159 hy) (cwV 1 hts (gd_V tw802 tw804 ps18 tw9 tw805) rfl rfl rfl hd_Md_isKind ⟨Nat.le_of_ble_eq_true rfl, Nat.le_of_ble_eq_true rfl⟩) hNw hK hP hD hS hA (ci := 7) rfl rfl rfl [0, 1, 2, 3, 4, 5, 6, 7, 8, 9, 10, 11, 12, 13, 14, 15, 16, 17, 18, 19, 20, 21, 22, 23] [] rfl rfl rfl rfl rfl (by decide +kernel) (by decide +kernel) rfl hl.1 rfl (Nat.le_of_ble_eq_true rfl) rfl d_Md_mayBe_159 ⟨Nat.zero_le _, Nat.zero_le _⟩ (fun H locs hP hD hS => ?_)
            refine lv_if_eq (tgt := 169) hx hb d_Md_mayBe_162 (by decide) (fun hc => ?_) (fun hc => ?_)
            · have h := o_t hc h
              exact B169 x1_43 x3_43 x4_43 _ _ _ h hP hD hS (lv_sub hl [1, 2, 3, 4] rfl)
            · have h := o_f hc h
              refine lv_iconst (v := 1) hx hb d_Md_mayBe_165 (by decide) ?_
              refine lv_goto (tgt := 170) hx hb d_Md_mayBe_166 (by decide) ?_
              exact B170 (1 : Int32) x1_43 x3_43 x4_43 _ _ _ h hP hD hS (lv_sub hl [1, 2, 3, 4] rfl)
        · have h := o_f hn2 h
          refine sw_by (x := x1_43) (k := 3) (fun hc => ?_) (fun hn3 => ?_)
          · have h := o_t hc h
            refine sw_in (x := x1_43) (k := 3) hc (lv_tableIn (tgt := 175) hx hb d_Md_mayBe_49 (by decide) (by decide) (by rfl) (by decide) ?_)
            refine lv_iload hx hb d_Md_mayBe_175 (lv_at hl 0 rfl) ?_
            refine lv_if_eq (tgt := 193) hx hb d_Md_mayBe_177 (by decide) (fun hc => ?_) (fun hc => ?_)
            · have h := o_t hc h
              exact B193 x1_43 x3_43 x4_43 _ _ _ h hP hD hS (lv_sub hl [1, 2, 3, 4] rfl)
            · have h := o_f hc h
              refine lv_iload_n hx hb d_Md_mayBe_180 rfl (lv_at hl 3 rfl) ?_
              refine lv_iconst (v := 0) hx hb d_Md_mayBe_181 (by decide) ?_
              refine lv_iconst (v := 1) hx hb d_Md_mayBe_182 (by decide) ?_
              obtain ⟨y183, hy, h⟩ := o_bd h
              refine kdS (nn := 24) (rest := []) (w' := (cMd cI cJ cZ a mb mg mx mf)) (wr := (cMd cI cJ cZ a mb mg mx mf)) (st1 := [.int y183]) ⟨hx, hb, hml, hown, hts⟩ (c_Md_isIn l dC dI cI cJ cZ a x3_43 (0 : Int32) (1 : Int32) y183 hy) (va_cwS 3 hts (gd_S tw806 tw807 tw9 tw808) rfl rfl rfl hd_Md_isIn.2 ⟨Nat.le_of_ble_eq_true rfl, Nat.le_of_ble_eq_true rfl⟩) hNw hK hP hD hS hA [] [0, 1, 2, 3, 4, 5, 6, 7, 8, 9, 10, 11, 12, 13, 14, 15, 16, 17, 18, 19, 20, 21, 22, 23] rfl rfl rfl rfl rfl (by decide +kernel) (by decide +kernel) rfl hl.1 rfl (Nat.le_of_ble_eq_true rfl) rfl d_Md_mayBe_183 ⟨Nat.zero_le _, Nat.zero_le _⟩ (fun H locs hP hD hS => ?_)
              refine lv_if_eq (tgt := 193) hx hb d_Md_mayBe_186 (by decide) (fun hc => ?_) (fun hc => ?_)
              · have h := o_t hc h
                exact B193 x1_43 x3_43 x4_43 _ _ _ h hP hD hS (lv_sub hl [1, 2, 3, 4] rfl)
              · have h := o_f hc h
                refine lv_iconst (v := 1) hx hb d_Md_mayBe_189 (by decide) ?_
                refine lv_goto (tgt := 194) hx hb d_Md_mayBe_190 (by decide) ?_
                exact B194 (1 : Int32) x1_43 x3_43 x4_43 _ _ _ h hP hD hS (lv_sub hl [1, 2, 3, 4] rfl)
          · have h := o_f hn3 h
            refine sw_by (x := x1_43) (k := 4) (fun hc => ?_) (fun hn4 => ?_)
            · have h := o_t hc h
              refine sw_in (x := x1_43) (k := 4) hc (lv_tableIn (tgt := 233) hx hb d_Md_mayBe_49 (by decide) (by decide) (by rfl) (by decide) ?_)
              exact B233 x1_43 x3_43 x4_43 y43 _ _ _ h hP hD hS (lv_sub hl [1, 2, 3, 4, 0] rfl)
            · have h := o_f hn4 h
              refine sw_by (x := x1_43) (k := 5) (fun hc => ?_) (fun hn5 => ?_)
              · have h := o_t hc h
                refine sw_in (x := x1_43) (k := 5) hc (lv_tableIn (tgt := 233) hx hb d_Md_mayBe_49 (by decide) (by decide) (by rfl) (by decide) ?_)
                exact B233 x1_43 x3_43 x4_43 y43 _ _ _ h hP hD hS (lv_sub hl [1, 2, 3, 4, 0] rfl)
              · have h := o_f hn5 h
                refine sw_by (x := x1_43) (k := 6) (fun hc => ?_) (fun hn6 => ?_)
                · have h := o_t hc h
                  refine sw_in (x := x1_43) (k := 6) hc (lv_tableIn (tgt := 233) hx hb d_Md_mayBe_49 (by decide) (by decide) (by rfl) (by decide) ?_)
                  exact B233 x1_43 x3_43 x4_43 y43 _ _ _ h hP hD hS (lv_sub hl [1, 2, 3, 4, 0] rfl)
                · have h := o_f hn6 h
                  refine sw_by (x := x1_43) (k := 7) (fun hc => ?_) (fun hn7 => ?_)
                  · have h := o_t hc h
                    refine sw_in (x := x1_43) (k := 7) hc (lv_tableIn (tgt := 233) hx hb d_Md_mayBe_49 (by decide) (by decide) (by rfl) (by decide) ?_)
                    exact B233 x1_43 x3_43 x4_43 y43 _ _ _ h hP hD hS (lv_sub hl [1, 2, 3, 4, 0] rfl)
                  · have h := o_f hn7 h
                    refine sw_by (x := x1_43) (k := 8) (fun hc => ?_) (fun hn8 => ?_)
                    · have h := o_t hc h
                      refine sw_in (x := x1_43) (k := 8) hc (lv_tableIn (tgt := 233) hx hb d_Md_mayBe_49 (by decide) (by decide) (by rfl) (by decide) ?_)
                      exact B233 x1_43 x3_43 x4_43 y43 _ _ _ h hP hD hS (lv_sub hl [1, 2, 3, 4, 0] rfl)
                    · have h := o_f hn8 h
                      refine sw_by (x := x1_43) (k := 9) (fun hc => ?_) (fun hn9 => ?_)
                      · have h := o_t hc h
                        refine sw_in (x := x1_43) (k := 9) hc (lv_tableIn (tgt := 199) hx hb d_Md_mayBe_49 (by decide) (by decide) (by rfl) (by decide) ?_)
                        refine lv_iload hx hb d_Md_mayBe_199 (lv_at hl 0 rfl) ?_
                        refine lv_if_eq (tgt := 227) hx hb d_Md_mayBe_201 (by decide) (fun hc => ?_) (fun hc => ?_)
                        · have h := o_t hc h
                          exact B227 x1_43 x3_43 x4_43 _ _ _ h hP hD hS (lv_sub hl [1, 2, 3, 4] rfl)
                        · have h := o_f hc h
                          refine lv_aload_n hx hb d_Md_mayBe_204 rfl (lv_at hl 1 rfl) ?_
                          refine lv_iload_n hx hb d_Md_mayBe_205 rfl (lv_at hl 3 rfl) ?_
                          obtain ⟨y206, hy, h⟩ := o_bd h
                          refine kdV (nn := 24) (rest := []) (w' := (cMd cI cJ cZ a mb mg mx mf)) (wr := ([] : va_W)) (st1 := [.int y206]) ⟨hx, hb, hml, hown, hts⟩ (c_Md_isFree l dC dI cI cJ cZ a x3_43 mb mg mx mf y206 hy) (cwV 1 hts (gd_V tw817 tw819 ps20 tw9 tw820) rfl rfl rfl hd_Md_isFree ⟨Nat.le_of_ble_eq_true rfl, Nat.le_of_ble_eq_true rfl⟩) hNw hK hP hD hS hA (ci := 7) rfl rfl rfl [0, 1, 2, 3, 4, 5, 6, 7, 8, 9, 10, 11, 12, 13, 14, 15, 16, 17, 18, 19, 20, 21, 22, 23] [] rfl rfl rfl rfl rfl (by decide +kernel) (by decide +kernel) rfl hl.1 rfl (Nat.le_of_ble_eq_true rfl) rfl d_Md_mayBe_206 ⟨Nat.zero_le _, Nat.zero_le _⟩ (fun H locs hP hD hS => ?_)
                          refine lv_if_eq (tgt := 227) hx hb d_Md_mayBe_209 (by decide) (fun hc => ?_) (fun hc => ?_)
                          · have h := o_t hc h
                            exact B227 x1_43 x3_43 x4_43 _ _ _ h hP hD hS (lv_sub hl [1, 2, 3, 4] rfl)
                          · have h := o_f hc h
                            refine lv_aload_n hx hb d_Md_mayBe_212 rfl (lv_at hl 1 rfl) ?_
                            refine va_get (D := (dC, dI)) (ci := 7) (v := .ref (a 2)) (C := R_Md) (T := F_Md) (N := 35) hx hb hts inb_Md hown hK hP 0 rfl rfl 3 (by decide) (hts _ tw690) (fun _ h9 => h9) rfl d_Md_mayBe_213 ?_
                            refine lv_iload_n hx hb d_Md_mayBe_216 rfl (lv_at hl 3 rfl) ?_
                            obtain ⟨hin, h⟩ := o_in h
                            refine va_iald hx hb hK hP 2 0 rfl rfl hin d_Md_mayBe_217 ?_
                            refine lv_bipush (v := 13) hx hb d_Md_mayBe_218 (by decide) ?_
                            refine lv_icmp_ne (tgt := 227) hx hb d_Md_mayBe_220 (by decide) (fun hc => ?_) (fun hc => ?_)
                            · have h := o_f hc h
                              exact B227 x1_43 x3_43 x4_43 _ _ _ h hP hD hS (lv_sub hl [1, 2, 3, 4] rfl)
                            · have h := o_t hc h
                              refine lv_iconst (v := 1) hx hb d_Md_mayBe_223 (by decide) ?_
                              refine lv_goto (tgt := 228) hx hb d_Md_mayBe_224 (by decide) ?_
                              exact B228 (1 : Int32) x1_43 x3_43 x4_43 _ _ _ h hP hD hS (lv_sub hl [1, 2, 3, 4] rfl)
                      · have h := o_f hn9 h
                        refine lv_tableOut (tgt := 233) hx hb d_Md_mayBe_49 (by have g0 := sw_ne hn0 (show (0 : Int32).toInt = 0 by decide); have g1 := sw_ne hn1 (show (1 : Int32).toInt = 1 by decide); have g2 := sw_ne hn2 (show (2 : Int32).toInt = 2 by decide); have g3 := sw_ne hn3 (show (3 : Int32).toInt = 3 by decide); have g4 := sw_ne hn4 (show (4 : Int32).toInt = 4 by decide); have g5 := sw_ne hn5 (show (5 : Int32).toInt = 5 by decide); have g6 := sw_ne hn6 (show (6 : Int32).toInt = 6 by decide); have g7 := sw_ne hn7 (show (7 : Int32).toInt = 7 by decide); have g8 := sw_ne hn8 (show (8 : Int32).toInt = 8 by decide); have g9 := sw_ne hn9 (show (9 : Int32).toInt = 9 by decide); omega) (by decide) ?_
                        exact B233 x1_43 x3_43 x4_43 y43 _ _ _ h hP hD hS (lv_sub hl [1, 2, 3, 4, 0] rfl)
  refine lv_iload_n hx hb d_Md_mayBe_0 rfl (lv_at hl 1 rfl) ?_
  refine lv_iconst (v := 0) hx hb d_Md_mayBe_1 (by decide) ?_
  refine lv_bipush (v := 9) hx hb d_Md_mayBe_2 (by decide) ?_
  obtain ⟨y4, hy, h⟩ := o_bd h
  refine kdS (nn := 24) (rest := []) (w' := (cMd cI cJ cZ a mb mg mx mf)) (wr := (cMd cI cJ cZ a mb mg mx mf)) (st1 := [.int y4]) ⟨hx, hb, hml, hown, hts⟩ (c_Md_isIn l dC dI cI cJ cZ a x1 (0 : Int32) (9 : Int32) y4 hy) (va_cwS 3 hts (gd_S tw806 tw807 tw9 tw808) rfl rfl rfl hd_Md_isIn.2 ⟨Nat.le_of_ble_eq_true rfl, Nat.le_of_ble_eq_true rfl⟩) hNw hK hP hD hS hA [] [0, 1, 2, 3, 4, 5, 6, 7, 8, 9, 10, 11, 12, 13, 14, 15, 16, 17, 18, 19, 20, 21, 22, 23] rfl rfl rfl rfl rfl (by decide +kernel) (by decide +kernel) rfl hl.1 rfl (Nat.le_of_ble_eq_true rfl) rfl d_Md_mayBe_4 ⟨Nat.zero_le _, Nat.zero_le _⟩ (fun H locs hP hD hS => ?_)
  refine lv_if_ne (tgt := 12) hx hb d_Md_mayBe_7 (by decide) (fun hc => ?_) (fun hc => ?_)
  · have h := o_f hc h
    refine lv_iload_n hx hb d_Md_mayBe_12 rfl (lv_at hl 1 rfl) ?_
    refine lv_iconst (v := 4) hx hb d_Md_mayBe_13 (by decide) ?_
    refine lv_bipush (v := 7) hx hb d_Md_mayBe_14 (by decide) ?_
    obtain ⟨y16, hy, h⟩ := o_bd h
    refine kdS (nn := 24) (rest := []) (w' := (cMd cI cJ cZ a mb mg mx mf)) (wr := (cMd cI cJ cZ a mb mg mx mf)) (st1 := [.int y16]) ⟨hx, hb, hml, hown, hts⟩ (c_Md_isIn l dC dI cI cJ cZ a x1 (4 : Int32) (7 : Int32) y16 hy) (va_cwS 3 hts (gd_S tw806 tw807 tw9 tw808) rfl rfl rfl hd_Md_isIn.2 ⟨Nat.le_of_ble_eq_true rfl, Nat.le_of_ble_eq_true rfl⟩) hNw hK hP hD hS hA [] [0, 1, 2, 3, 4, 5, 6, 7, 8, 9, 10, 11, 12, 13, 14, 15, 16, 17, 18, 19, 20, 21, 22, 23] rfl rfl rfl rfl rfl (by decide +kernel) (by decide +kernel) rfl hl.1 rfl (Nat.le_of_ble_eq_true rfl) rfl d_Md_mayBe_16 ⟨Nat.zero_le _, Nat.zero_le _⟩ (fun H locs hP hD hS => ?_)
    refine lv_istore (lv' := [(5, .int y16), (0, .ref (a 0)), (1, .int x1), (2, .int x2), (3, .int x3), (4, .int x4)]) hx hb d_Md_mayBe_19 hl (by decide) rfl (fun ls hl => ?_)
    refine lv_iload_n hx hb d_Md_mayBe_21 rfl (lv_at hl 3 rfl) ?_
    refine lv_iconst (v := 0) hx hb d_Md_mayBe_22 (by decide) ?_
    refine lv_iload_n hx hb d_Md_mayBe_23 rfl (lv_at hl 2 rfl) ?_
    refine lv_bipush (v := 7) hx hb d_Md_mayBe_24 (by decide) ?_
    refine lv_icmp_ne (tgt := 33) hx hb d_Md_mayBe_26 (by decide) (fun hc => ?_) (fun hc => ?_)
    · have h := o_f hc h
      refine lv_iload hx hb d_Md_mayBe_33 (lv_at hl 0 rfl) ?_
      refine lv_if_eq (tgt := 42) hx hb d_Md_mayBe_35 (by decide) (fun hc => ?_) (fun hc => ?_)
      · have h := o_t hc h
        refine lv_iconst (v := 0) hx hb d_Md_mayBe_42 (by decide) ?_
        exact B43 (0 : Int32) (0 : Int32) x2 x1 x3 x4 _ _ _ h hP hD hS (lv_sub hl [1, 2, 4, 5] rfl)
      · have h := o_f hc h
        refine lv_iconst (v := 2) hx hb d_Md_mayBe_38 (by decide) ?_
        refine lv_goto (tgt := 43) hx hb d_Md_mayBe_39 (by decide) ?_
        exact B43 (2 : Int32) (0 : Int32) x2 x1 x3 x4 _ _ _ h hP hD hS (lv_sub hl [1, 2, 4, 5] rfl)
    · have h := o_t hc h
      refine lv_iconst (v := 3) hx hb d_Md_mayBe_29 (by decide) ?_
      refine lv_goto (tgt := 43) hx hb d_Md_mayBe_30 (by decide) ?_
      exact B43 (3 : Int32) (0 : Int32) x2 x1 x3 x4 _ _ _ h hP hD hS (lv_sub hl [1, 2, 4, 5] rfl)
  · have h := o_t hc h
    refine lv_iconst (v := 0) hx hb d_Md_mayBe_10 (by decide) ?_
    cases h
    exact kr_z hx hb hr (by decide) hlocks hP hD hS d_Md_mayBe_11
set_option maxHeartbeats 4000000 in
set_option maxRecDepth 100000 in
theorem c_Md_node (l : Launch) (dC : Nat → ClassId) (dI : Nat → Nat → Nat) (cI cJ cZ : ClassId) (a : Nat → Nat) (x1 : Int32) (x2 : Int32) (x3 : Int32) (x4 : Int32) (mb : MbS) (mg : MgS) (mx : MxS) (mf : MfS) (res : Int32 × MbS × MgS) (h : f_Md_node x1 x2 x3 x4 mb mg = some res) :
    Kt l (dC, dI) classes [(cI, .int), (cJ, .long), (cZ, .boolean)] y_Md_node (wz y_Md_node b_Md_node 6 (some .int)) { frames := 4, cells := 0, slots := 0, locals := 90 } [.ref (a 0), .int x1, .int x2, .int x3, .int x4] (cMd cI cJ cZ a mb mg mx mf) (some (.int res.1)) (cMd cI cJ cZ a res.2.1 res.2.2 mx mf) := by
  refine Kt_of (cc := b_Md_node) (maxL := 6) (ret := (some .int)) (by decide) (Nat.le_of_ble_eq_true rfl) ?_
  intro p e s m args below meth c A ls hx hb hr hml hlocks hown hts hNw hK hP hD hA hS hl
  have hl : lv_has ls 6 [(0, .ref (a 0)), (1, .int x1), (2, .int x2), (3, .int x3), (4, .int x4)] := hl
  have hP : va_P (dC, dI) classes (cMd cI cJ cZ a mb mg mx mf) s.heap := hP
  have B64 : ∀ (x4_64 : Int32) (x5_64 : Int32) (mb_64 : MbS) (mg_64 : MgS) (H : Heap) (locs : List Loc) (ls : Array Slot), f_Md_node_b64 x4_64 x5_64 mb_64 mg_64 = some res → va_P (dC, dI) classes (cMd cI cJ cZ a mb_64 mg_64 mx mf) H → va_D A (cMd cI cJ cZ a mb_64 mg_64 mx mf) → va_S A s.heap H locs → lv_has ls 6 [(0, .ref (a 0)), (4, .int x4_64), (5, .int x5_64)] → W p l e { frames := 4, cells := 0, slots := 0, locals := 90 } s m args below meth c H locs 0 0 (KZ below args s (dC, dI) classes (some (.int res.1)) (cMd cI cJ cZ a res.2.1 res.2.2 mx mf) A) (F0 m 64 ls []) := by
    intro x4_64 x5_64 mb_64 mg_64 H locs ls h hP hD hS hl
    refine lv_iload hx hb d_Md_node_64 (lv_at hl 1 rfl) ?_
    refine lv_iconst (v := -1) hx hb d_Md_node_66 (by decide) ?_
    refine lv_icmp_eq (tgt := 78) hx hb d_Md_node_67 (by decide) (fun hc => ?_) (fun hc => ?_)
    · have h := o_t hc h
      refine lv_iload hx hb d_Md_node_78 (lv_at hl 2 rfl) ?_
      cases h
      exact kr_i hx hb hr hlocks hP hD hS d_Md_node_80
    · have h := o_f hc h
      refine lv_aload_n hx hb d_Md_node_70 rfl (lv_at hl 0 rfl) ?_
      refine lv_iload hx hb d_Md_node_71 (lv_at hl 2 rfl) ?_
      refine lv_iload hx hb d_Md_node_73 (lv_at hl 1 rfl) ?_
      obtain ⟨y75, hy, h⟩ := o_bd h
      refine kdV (nn := 24) (rest := []) (w' := (cMd cI cJ cZ a y75 mg_64 mx mf)) (wr := ([] : va_W)) (st1 := []) ⟨hx, hb, hml, hown, hts⟩ (c_Md_join l dC dI cI cJ cZ a x5_64 x4_64 mb_64 mg_64 mx mf y75 hy) (cwV 2 hts (gd_V tw829 tw831 ps23 tw9 tw832) rfl rfl rfl hd_Md_join ⟨Nat.le_of_ble_eq_true rfl, Nat.le_of_ble_eq_true rfl⟩) hNw hK hP hD hS hA (ci := 7) rfl rfl rfl [0, 1, 2, 3, 4, 5, 6, 7, 8, 9, 10, 11, 12, 13, 14, 15, 16, 17, 18, 19, 20, 21, 22, 23] [] rfl rfl rfl rfl rfl (by decide +kernel) (by decide +kernel) rfl hl.1 rfl (Nat.le_of_ble_eq_true rfl) rfl d_Md_node_75 ⟨Nat.zero_le _, Nat.zero_le _⟩ (fun H locs hP hD hS => ?_)
      refine lv_iload hx hb d_Md_node_78 (lv_at hl 2 rfl) ?_
      cases h
      exact kr_i hx hb hr hlocks hP hD hS d_Md_node_80
  have B47 : ∀ (z0_47 : Int32) (z1_47 : Int32) (x1_47 : Int32) (x3_47 : Int32) (x4_47 : Int32) (mb_47 : MbS) (mg_47 : MgS) (H : Heap) (locs : List Loc) (ls : Array Slot), f_Md_node_b47 z0_47 z1_47 x1_47 x3_47 x4_47 mb_47 mg_47 = some res → va_P (dC, dI) classes (cMd cI cJ cZ a mb_47 mg_47 mx mf) H → va_D A (cMd cI cJ cZ a mb_47 mg_47 mx mf) → va_S A s.heap H locs → lv_has ls 6 [(0, .ref (a 0)), (1, .int x1_47), (3, .int x3_47), (4, .int x4_47)] → W p l e { frames := 4, cells := 0, slots := 0, locals := 90 } s m args below meth c H locs 0 0 (KZ below args s (dC, dI) classes (some (.int res.1)) (cMd cI cJ cZ a res.2.1 res.2.2 mx mf) A) (F0 m 47 ls [.int z0_47, .int z1_47, .ref (a 0)]) := by
    intro z0_47 z1_47 x1_47 x3_47 x4_47 mb_47 mg_47 H locs ls h hP hD hS hl
    obtain ⟨y47, hy, h⟩ := o_bd h
    refine kdV (nn := 24) (rest := []) (w' := (cMd cI cJ cZ a y47.2.1 y47.2.2 mx mf)) (wr := ([] : va_W)) (st1 := [.int y47.1]) ⟨hx, hb, hml, hown, hts⟩ (c_Md_make l dC dI cI cJ cZ a z1_47 z0_47 mb_47 mg_47 mx mf y47 hy) (cwV 2 hts (gd_V tw825 tw827 ps22 tw9 tw828) rfl rfl rfl hd_Md_make ⟨Nat.le_of_ble_eq_true rfl, Nat.le_of_ble_eq_true rfl⟩) hNw hK hP hD hS hA (ci := 7) rfl rfl rfl [0, 1, 2, 3, 4, 5, 6, 7, 8, 9, 10, 11, 12, 13, 14, 15, 16, 17, 18, 19, 20, 21, 22, 23] [] rfl rfl rfl rfl rfl (by decide +kernel) (by decide +kernel) rfl hl.1 rfl (Nat.le_of_ble_eq_true rfl) rfl d_Md_node_47 ⟨Nat.zero_le _, Nat.zero_le _⟩ (fun H locs hP hD hS => ?_)
    refine lv_istore (lv' := [(5, .int y47.1), (0, .ref (a 0)), (1, .int x1_47), (3, .int x3_47), (4, .int x4_47)]) hx hb d_Md_node_50 hl (by decide) rfl (fun ls hl => ?_)
    refine lv_iload_n hx hb d_Md_node_52 rfl (lv_at hl 2 rfl) ?_
    refine lv_iconst (v := 4) hx hb d_Md_node_53 (by decide) ?_
    refine lv_icmp_lt (tgt := 64) hx hb d_Md_node_54 (by decide) (fun hc => ?_) (fun hc => ?_)
    · have h := o_t hc h
      exact B64 x4_47 y47.1 y47.2.1 y47.2.2 _ _ _ h hP hD hS (lv_sub hl [1, 4, 0] rfl)
    · have h := o_f hc h
      refine lv_aload_n hx hb d_Md_node_57 rfl (lv_at hl 1 rfl) ?_
      refine lv_iload hx hb d_Md_node_58 (lv_at hl 0 rfl) ?_
      refine lv_iload_n hx hb d_Md_node_60 rfl (lv_at hl 3 rfl) ?_
      obtain ⟨y61, hy, h⟩ := o_bd h
      refine kdV (nn := 24) (rest := []) (w' := (cMd cI cJ cZ a y61 y47.2.2 mx mf)) (wr := ([] : va_W)) (st1 := []) ⟨hx, hb, hml, hown, hts⟩ (c_Md_join l dC dI cI cJ cZ a y47.1 x3_47 y47.2.1 y47.2.2 mx mf y61 hy) (cwV 2 hts (gd_V tw829 tw831 ps23 tw9 tw832) rfl rfl rfl hd_Md_join ⟨Nat.le_of_ble_eq_true rfl, Nat.le_of_ble_eq_true rfl⟩) hNw hK hP hD hS hA (ci := 7) rfl rfl rfl [0, 1, 2, 3, 4, 5, 6, 7, 8, 9, 10, 11, 12, 13, 14, 15, 16, 17, 18, 19, 20, 21, 22, 23] [] rfl rfl rfl rfl rfl (by decide +kernel) (by decide +kernel) rfl hl.1 rfl (Nat.le_of_ble_eq_true rfl) rfl d_Md_node_61 ⟨Nat.zero_le _, Nat.zero_le _⟩ (fun H locs hP hD hS => ?_)
      exact B64 x4_47 y47.1 y61 y47.2.2 _ _ _ h hP hD hS (lv_sub hl [1, 4, 0] rfl)
  refine lv_aload_n hx hb d_Md_node_0 rfl (lv_at hl 0 rfl) ?_
  refine lv_iload_n hx hb d_Md_node_1 rfl (lv_at hl 1 rfl) ?_
  refine lv_iload_n hx hb d_Md_node_2 rfl (lv_at hl 2 rfl) ?_
  refine lv_iload_n hx hb d_Md_node_3 rfl (lv_at hl 3 rfl) ?_
  refine lv_iload hx hb d_Md_node_4 (lv_at hl 4 rfl) ?_
  obtain ⟨y6, hy, h⟩ := o_bd h
  refine kdV (nn := 24) (rest := []) (w' := (cMd cI cJ cZ a mb mg mx mf)) (wr := ([] : va_W)) (st1 := [.int y6]) ⟨hx, hb, hml, hown, hts⟩ (c_Md_mayBe l dC dI cI cJ cZ a x1 x2 x3 x4 mb mg mx mf y6 hy) (cwV 4 hts (gd_V tw813 tw815 ps19 tw9 tw816) rfl rfl rfl hd_Md_mayBe ⟨Nat.le_of_ble_eq_true rfl, Nat.le_of_ble_eq_true rfl⟩) hNw hK hP hD hS hA (ci := 7) rfl rfl rfl [0, 1, 2, 3, 4, 5, 6, 7, 8, 9, 10, 11, 12, 13, 14, 15, 16, 17, 18, 19, 20, 21, 22, 23] [] rfl rfl rfl rfl rfl (by decide +kernel) (by decide +kernel) rfl hl.1 rfl (Nat.le_of_ble_eq_true rfl) rfl d_Md_node_6 ⟨Nat.zero_le _, Nat.zero_le _⟩ (fun H locs hP hD hS => ?_)
  refine lv_if_ne (tgt := 15) hx hb d_Md_node_9 (by decide) (fun hc => ?_) (fun hc => ?_)
  · have h := o_f hc h
    refine lv_aload_n hx hb d_Md_node_15 rfl (lv_at hl 0 rfl) ?_
    refine va_get (D := (dC, dI)) (ci := 7) (v := .int (Mb_nodes mb)) (C := R_Md) (T := F_Md) (N := 35) hx hb hts inb_Md hown hK hP 0 rfl rfl 2 (by decide) (hts _ tw689) (fun _ h9 => h9) rfl d_Md_node_16 ?_
    refine lv_bipush (v := 60) hx hb d_Md_node_19 (by decide) ?_
    refine lv_icmp_ne (tgt := 27) hx hb d_Md_node_21 (by decide) (fun hc => ?_) (fun hc => ?_)
    · have h := o_f hc h
      refine lv_aload_n hx hb d_Md_node_27 rfl (lv_at hl 0 rfl) ?_
      refine lv_iload_n hx hb d_Md_node_28 rfl (lv_at hl 1 rfl) ?_
      refine lv_iload_n hx hb d_Md_node_29 rfl (lv_at hl 1 rfl) ?_
      refine lv_iconst (v := 4) hx hb d_Md_node_30 (by decide) ?_
      refine lv_icmp_lt (tgt := 38) hx hb d_Md_node_31 (by decide) (fun hc => ?_) (fun hc => ?_)
      · have h := o_t hc h
        refine lv_iload_n hx hb d_Md_node_38 rfl (lv_at hl 1 rfl) ?_
        refine lv_if_ne (tgt := 46) hx hb d_Md_node_39 (by decide) (fun hc => ?_) (fun hc => ?_)
        · have h := o_f hc h
          refine lv_iload_n hx hb d_Md_node_46 rfl (lv_at hl 3 rfl) ?_
          exact B47 x3 x1 x1 x3 x4 mb mg _ _ _ h hP hD hS (lv_sub hl [0, 1, 3, 4] rfl)
        · have h := o_t hc h
          refine lv_iconst (v := 0) hx hb d_Md_node_42 (by decide) ?_
          refine lv_goto (tgt := 47) hx hb d_Md_node_43 (by decide) ?_
          exact B47 (0 : Int32) x1 x1 x3 x4 mb mg _ _ _ h hP hD hS (lv_sub hl [0, 1, 3, 4] rfl)
      · have h := o_f hc h
        refine lv_iload_n hx hb d_Md_node_34 rfl (lv_at hl 2 rfl) ?_
        refine lv_goto (tgt := 47) hx hb d_Md_node_35 (by decide) ?_
        exact B47 x2 x1 x1 x3 x4 mb mg _ _ _ h hP hD hS (lv_sub hl [0, 1, 3, 4] rfl)
    · have h := o_t hc h
      refine lv_bipush (v := -3) hx hb d_Md_node_24 (by decide) ?_
      cases h
      exact kr_i hx hb hr hlocks hP hD hS d_Md_node_26
  · have h := o_t hc h
    refine lv_bipush (v := -2) hx hb d_Md_node_12 (by decide) ?_
    cases h
    exact kr_i hx hb hr hlocks hP hD hS d_Md_node_14
