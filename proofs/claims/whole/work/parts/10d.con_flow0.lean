set_option maxHeartbeats 4000000 in
set_option maxRecDepth 100000 in
theorem c_Fl_forget_0 (l : Launch) (dC : Nat → ClassId) (dI : Nat → Nat → Nat) (cI cJ cZ : ClassId) (a : Nat → Nat) (fl : FlS) (res : FlS) (h : f_Fl_forget fl = some res) :
    Kt l (dC, dI) classes [(cI, .int), (cJ, .long), (cZ, .boolean)] y_Fl_forget (wz y_Fl_forget b_Fl_forget 1 none) { frames := 0, cells := 0, slots := 0, locals := 0 } [.ref (a 24)] (cF0 cI cJ cZ a fl) none (cF0 cI cJ cZ a res) := by
  refine Kt_of (cc := b_Fl_forget) (maxL := 1) (ret := none) (by decide) (Nat.le_of_ble_eq_true rfl) ?_
  intro p e s m args below meth c A ls hx hb hr hml hlocks hown hts hNw hK hP hD hA hS hl
  have hl : lv_has ls 1 [(0, .ref (a 24))] := hl
  have hP : va_P (dC, dI) classes (cF0 cI cJ cZ a fl) s.heap := hP
  refine lv_aload_n hx hb d_Fl_forget_0 rfl (lv_at hl 0 rfl) ?_
  refine lv_lconst (v := 0) hx hb d_Fl_forget_1 (by decide) ?_
  refine va_put (D := (dC, dI)) (ci := 4) (v := .long (0 : Int64)) (ty := .long) (C := R_Br) (T := F_Br) (N := 9) hx hb hts inb_Br ft_Br ft_Br_ok n_Br hown hK hP hD hS 0 rfl rfl 2 (by decide) (hts _ tw167) (fun _ h9 => h9) rfl (by decide +kernel) rfl rfl (Nat.le_of_ble_eq_true rfl) d_Fl_forget_2 (fun H locs hP hD hS => ?_)
  have hP : va_P (dC, dI) classes (cF0 cI cJ cZ a ((0 : Int64), (Fl_met fl), (Fl_normal fl), (Fl_returning fl), (Fl_breaks fl), (Fl_continues fl), (Fl_thrown fl))) H := hP
  have hD : va_D A (cF0 cI cJ cZ a ((0 : Int64), (Fl_met fl), (Fl_normal fl), (Fl_returning fl), (Fl_breaks fl), (Fl_continues fl), (Fl_thrown fl))) := hD
  refine lv_aload_n hx hb d_Fl_forget_5 rfl (lv_at hl 0 rfl) ?_
  refine lv_lconst (v := 0) hx hb d_Fl_forget_6 (by decide) ?_
  refine va_put (D := (dC, dI)) (ci := 4) (v := .long (0 : Int64)) (ty := .long) (C := R_Br) (T := F_Br) (N := 9) hx hb hts inb_Br ft_Br ft_Br_ok n_Br hown hK hP hD hS 0 rfl rfl 3 (by decide) (hts _ tw168) (fun _ h9 => h9) rfl (by decide +kernel) rfl rfl (Nat.le_of_ble_eq_true rfl) d_Fl_forget_7 (fun H locs hP hD hS => ?_)
  have hP : va_P (dC, dI) classes (cF0 cI cJ cZ a ((0 : Int64), (0 : Int64), (Fl_normal fl), (Fl_returning fl), (Fl_breaks fl), (Fl_continues fl), (Fl_thrown fl))) H := hP
  have hD : va_D A (cF0 cI cJ cZ a ((0 : Int64), (0 : Int64), (Fl_normal fl), (Fl_returning fl), (Fl_breaks fl), (Fl_continues fl), (Fl_thrown fl))) := hD
  refine lv_aload_n hx hb d_Fl_forget_10 rfl (lv_at hl 0 rfl) ?_
  refine lv_lconst (v := 0) hx hb d_Fl_forget_11 (by decide) ?_
  refine va_put (D := (dC, dI)) (ci := 4) (v := .long (0 : Int64)) (ty := .long) (C := R_Br) (T := F_Br) (N := 9) hx hb hts inb_Br ft_Br ft_Br_ok n_Br hown hK hP hD hS 0 rfl rfl 4 (by decide) (hts _ tw169) (fun _ h9 => h9) rfl (by decide +kernel) rfl rfl (Nat.le_of_ble_eq_true rfl) d_Fl_forget_12 (fun H locs hP hD hS => ?_)
  have hP : va_P (dC, dI) classes (cF0 cI cJ cZ a ((0 : Int64), (0 : Int64), (0 : Int64), (Fl_returning fl), (Fl_breaks fl), (Fl_continues fl), (Fl_thrown fl))) H := hP
  have hD : va_D A (cF0 cI cJ cZ a ((0 : Int64), (0 : Int64), (0 : Int64), (Fl_returning fl), (Fl_breaks fl), (Fl_continues fl), (Fl_thrown fl))) := hD
  refine lv_aload_n hx hb d_Fl_forget_15 rfl (lv_at hl 0 rfl) ?_
  refine lv_lconst (v := 0) hx hb d_Fl_forget_16 (by decide) ?_
  refine va_put (D := (dC, dI)) (ci := 4) (v := .long (0 : Int64)) (ty := .long) (C := R_Br) (T := F_Br) (N := 9) hx hb hts inb_Br ft_Br ft_Br_ok n_Br hown hK hP hD hS 0 rfl rfl 5 (by decide) (hts _ tw170) (fun _ h9 => h9) rfl (by decide +kernel) rfl rfl (Nat.le_of_ble_eq_true rfl) d_Fl_forget_17 (fun H locs hP hD hS => ?_)
  have hP : va_P (dC, dI) classes (cF0 cI cJ cZ a ((0 : Int64), (0 : Int64), (0 : Int64), (0 : Int64), (Fl_breaks fl), (Fl_continues fl), (Fl_thrown fl))) H := hP
  have hD : va_D A (cF0 cI cJ cZ a ((0 : Int64), (0 : Int64), (0 : Int64), (0 : Int64), (Fl_breaks fl), (Fl_continues fl), (Fl_thrown fl))) := hD
  cases h
  exact kr_v hx hb hr hlocks hP hD hS d_Fl_forget_20
set_option maxHeartbeats 4000000 in
set_option maxRecDepth 100000 in
theorem c_Fl_wipe_0 (l : Launch) (dC : Nat → ClassId) (dI : Nat → Nat → Nat) (cI cJ cZ : ClassId) (a : Nat → Nat) (x1 : Int32) (fl : FlS) (res : FlS) (h : f_Fl_wipe x1 fl = some res) :
    Kt l (dC, dI) classes [(cI, .int), (cJ, .long), (cZ, .boolean)] y_Fl_wipe (wz y_Fl_wipe b_Fl_wipe 2 none) { frames := 0, cells := 0, slots := 0, locals := 0 } [.ref (a 24), .int x1] (cF0 cI cJ cZ a fl) none (cF0 cI cJ cZ a res) := by
  refine Kt_of (cc := b_Fl_wipe) (maxL := 2) (ret := none) (by decide) (Nat.le_of_ble_eq_true rfl) ?_
  intro p e s m args below meth c A ls hx hb hr hml hlocks hown hts hNw hK hP hD hA hS hl
  have hl : lv_has ls 2 [(0, .ref (a 24)), (1, .int x1)] := hl
  have hP : va_P (dC, dI) classes (cF0 cI cJ cZ a fl) s.heap := hP
  refine lv_aload_n hx hb d_Fl_wipe_0 rfl (lv_at hl 0 rfl) ?_
  refine lv_dup hx hb d_Fl_wipe_1 rfl ?_
  refine va_get (D := (dC, dI)) (ci := 4) (v := .long (Fl_normal fl)) (C := R_Br) (T := F_Br) (N := 9) hx hb hts inb_Br hown hK hP 0 rfl rfl 4 (by decide) (hts _ tw169) (fun _ h9 => h9) rfl d_Fl_wipe_2 ?_
  refine lv_lconst (v := 1) hx hb d_Fl_wipe_5 (by decide) ?_
  refine lv_iload_n hx hb d_Fl_wipe_6 rfl (lv_at hl 1 rfl) ?_
  refine lv_lshl hx hb d_Fl_wipe_7 rfl ?_
  refine lv_ldc2 hx hb hown (hts _ tw488) d_Fl_wipe_8 ?_
  refine lv_lxor hx hb d_Fl_wipe_11 ?_
  refine lv_land hx hb d_Fl_wipe_12 ?_
  refine va_put (D := (dC, dI)) (ci := 4) (v := .long ((Fl_normal fl) &&& (((1 : Int64) <<< (x1.toInt64 &&& 63)) ^^^ (-1 : Int64)))) (ty := .long) (C := R_Br) (T := F_Br) (N := 9) hx hb hts inb_Br ft_Br ft_Br_ok n_Br hown hK hP hD hS 0 rfl rfl 4 (by decide) (hts _ tw169) (fun _ h9 => h9) rfl (by decide +kernel) rfl rfl (Nat.le_of_ble_eq_true rfl) d_Fl_wipe_13 (fun H locs hP hD hS => ?_)
  have hP : va_P (dC, dI) classes (cF0 cI cJ cZ a ((Fl_open fl), (Fl_met fl), ((Fl_normal fl) &&& (((1 : Int64) <<< (x1.toInt64 &&& 63)) ^^^ (-1 : Int64))), (Fl_returning fl), (Fl_breaks fl), (Fl_continues fl), (Fl_thrown fl))) H := hP
  have hD : va_D A (cF0 cI cJ cZ a ((Fl_open fl), (Fl_met fl), ((Fl_normal fl) &&& (((1 : Int64) <<< (x1.toInt64 &&& 63)) ^^^ (-1 : Int64))), (Fl_returning fl), (Fl_breaks fl), (Fl_continues fl), (Fl_thrown fl))) := hD
  refine lv_aload_n hx hb d_Fl_wipe_16 rfl (lv_at hl 0 rfl) ?_
  refine lv_dup hx hb d_Fl_wipe_17 rfl ?_
  refine va_get (D := (dC, dI)) (ci := 4) (v := .long (Fl_returning fl)) (C := R_Br) (T := F_Br) (N := 9) hx hb hts inb_Br hown hK hP 0 rfl rfl 5 (by decide) (hts _ tw170) (fun _ h9 => h9) rfl d_Fl_wipe_18 ?_
  refine lv_lconst (v := 1) hx hb d_Fl_wipe_21 (by decide) ?_
  refine lv_iload_n hx hb d_Fl_wipe_22 rfl (lv_at hl 1 rfl) ?_
  refine lv_lshl hx hb d_Fl_wipe_23 rfl ?_
  refine lv_ldc2 hx hb hown (hts _ tw488) d_Fl_wipe_24 ?_
  refine lv_lxor hx hb d_Fl_wipe_27 ?_
  refine lv_land hx hb d_Fl_wipe_28 ?_
  refine va_put (D := (dC, dI)) (ci := 4) (v := .long ((Fl_returning fl) &&& (((1 : Int64) <<< (x1.toInt64 &&& 63)) ^^^ (-1 : Int64)))) (ty := .long) (C := R_Br) (T := F_Br) (N := 9) hx hb hts inb_Br ft_Br ft_Br_ok n_Br hown hK hP hD hS 0 rfl rfl 5 (by decide) (hts _ tw170) (fun _ h9 => h9) rfl (by decide +kernel) rfl rfl (Nat.le_of_ble_eq_true rfl) d_Fl_wipe_29 (fun H locs hP hD hS => ?_)
  have hP : va_P (dC, dI) classes (cF0 cI cJ cZ a ((Fl_open fl), (Fl_met fl), ((Fl_normal fl) &&& (((1 : Int64) <<< (x1.toInt64 &&& 63)) ^^^ (-1 : Int64))), ((Fl_returning fl) &&& (((1 : Int64) <<< (x1.toInt64 &&& 63)) ^^^ (-1 : Int64))), (Fl_breaks fl), (Fl_continues fl), (Fl_thrown fl))) H := hP
  have hD : va_D A (cF0 cI cJ cZ a ((Fl_open fl), (Fl_met fl), ((Fl_normal fl) &&& (((1 : Int64) <<< (x1.toInt64 &&& 63)) ^^^ (-1 : Int64))), ((Fl_returning fl) &&& (((1 : Int64) <<< (x1.toInt64 &&& 63)) ^^^ (-1 : Int64))), (Fl_breaks fl), (Fl_continues fl), (Fl_thrown fl))) := hD
  refine lv_aload_n hx hb d_Fl_wipe_32 rfl (lv_at hl 0 rfl) ?_
  refine va_get (D := (dC, dI)) (ci := 4) (v := .ref (a 25)) (C := R_Br) (T := F_Br) (N := 9) hx hb hts inb_Br hown hK hP 0 rfl rfl 6 (by decide) (hts _ tw171) (fun _ h9 => h9) rfl d_Fl_wipe_33 ?_
  refine lv_iload_n hx hb d_Fl_wipe_36 rfl (lv_at hl 1 rfl) ?_
  refine lv_lconst (v := 0) hx hb d_Fl_wipe_37 (by decide) ?_
  obtain ⟨hin, h⟩ := o_in h
  refine va_last hx hb hK hP hD hS 1 1 rfl rfl hin d_Fl_wipe_38 (fun H locs hP hD hS => ?_)
  have hP : va_P (dC, dI) classes (cF0 cI cJ cZ a ((Fl_open fl), (Fl_met fl), ((Fl_normal fl) &&& (((1 : Int64) <<< (x1.toInt64 &&& 63)) ^^^ (-1 : Int64))), ((Fl_returning fl) &&& (((1 : Int64) <<< (x1.toInt64 &&& 63)) ^^^ (-1 : Int64))), (vp_updL (Fl_breaks fl) x1.toNatClampNeg (0 : Int64)), (Fl_continues fl), (Fl_thrown fl))) H := hP
  have hD : va_D A (cF0 cI cJ cZ a ((Fl_open fl), (Fl_met fl), ((Fl_normal fl) &&& (((1 : Int64) <<< (x1.toInt64 &&& 63)) ^^^ (-1 : Int64))), ((Fl_returning fl) &&& (((1 : Int64) <<< (x1.toInt64 &&& 63)) ^^^ (-1 : Int64))), (vp_updL (Fl_breaks fl) x1.toNatClampNeg (0 : Int64)), (Fl_continues fl), (Fl_thrown fl))) := hD
  refine lv_aload_n hx hb d_Fl_wipe_39 rfl (lv_at hl 0 rfl) ?_
  refine va_get (D := (dC, dI)) (ci := 4) (v := .ref (a 26)) (C := R_Br) (T := F_Br) (N := 9) hx hb hts inb_Br hown hK hP 0 rfl rfl 7 (by decide) (hts _ tw172) (fun _ h9 => h9) rfl d_Fl_wipe_40 ?_
  refine lv_iload_n hx hb d_Fl_wipe_43 rfl (lv_at hl 1 rfl) ?_
  refine lv_lconst (v := 0) hx hb d_Fl_wipe_44 (by decide) ?_
  obtain ⟨hin, h⟩ := o_in h
  refine va_last hx hb hK hP hD hS 2 1 rfl rfl hin d_Fl_wipe_45 (fun H locs hP hD hS => ?_)
  have hP : va_P (dC, dI) classes (cF0 cI cJ cZ a ((Fl_open fl), (Fl_met fl), ((Fl_normal fl) &&& (((1 : Int64) <<< (x1.toInt64 &&& 63)) ^^^ (-1 : Int64))), ((Fl_returning fl) &&& (((1 : Int64) <<< (x1.toInt64 &&& 63)) ^^^ (-1 : Int64))), (vp_updL (Fl_breaks fl) x1.toNatClampNeg (0 : Int64)), (vp_updL (Fl_continues fl) x1.toNatClampNeg (0 : Int64)), (Fl_thrown fl))) H := hP
  have hD : va_D A (cF0 cI cJ cZ a ((Fl_open fl), (Fl_met fl), ((Fl_normal fl) &&& (((1 : Int64) <<< (x1.toInt64 &&& 63)) ^^^ (-1 : Int64))), ((Fl_returning fl) &&& (((1 : Int64) <<< (x1.toInt64 &&& 63)) ^^^ (-1 : Int64))), (vp_updL (Fl_breaks fl) x1.toNatClampNeg (0 : Int64)), (vp_updL (Fl_continues fl) x1.toNatClampNeg (0 : Int64)), (Fl_thrown fl))) := hD
  refine lv_aload_n hx hb d_Fl_wipe_46 rfl (lv_at hl 0 rfl) ?_
  refine va_get (D := (dC, dI)) (ci := 4) (v := .ref (a 27)) (C := R_Br) (T := F_Br) (N := 9) hx hb hts inb_Br hown hK hP 0 rfl rfl 8 (by decide) (hts _ tw173) (fun _ h9 => h9) rfl d_Fl_wipe_47 ?_
  refine lv_iload_n hx hb d_Fl_wipe_50 rfl (lv_at hl 1 rfl) ?_
  refine lv_iconst (v := 0) hx hb d_Fl_wipe_51 (by decide) ?_
  obtain ⟨hin, h⟩ := o_in h
  refine va_iast hx hb hK hP hD hS 3 0 rfl rfl hin d_Fl_wipe_52 (fun H locs hP hD hS => ?_)
  have hP : va_P (dC, dI) classes (cF0 cI cJ cZ a ((Fl_open fl), (Fl_met fl), ((Fl_normal fl) &&& (((1 : Int64) <<< (x1.toInt64 &&& 63)) ^^^ (-1 : Int64))), ((Fl_returning fl) &&& (((1 : Int64) <<< (x1.toInt64 &&& 63)) ^^^ (-1 : Int64))), (vp_updL (Fl_breaks fl) x1.toNatClampNeg (0 : Int64)), (vp_updL (Fl_continues fl) x1.toNatClampNeg (0 : Int64)), (upd (Fl_thrown fl) x1.toNatClampNeg (0 : Int32)))) H := hP
  have hD : va_D A (cF0 cI cJ cZ a ((Fl_open fl), (Fl_met fl), ((Fl_normal fl) &&& (((1 : Int64) <<< (x1.toInt64 &&& 63)) ^^^ (-1 : Int64))), ((Fl_returning fl) &&& (((1 : Int64) <<< (x1.toInt64 &&& 63)) ^^^ (-1 : Int64))), (vp_updL (Fl_breaks fl) x1.toNatClampNeg (0 : Int64)), (vp_updL (Fl_continues fl) x1.toNatClampNeg (0 : Int64)), (upd (Fl_thrown fl) x1.toNatClampNeg (0 : Int32)))) := hD
  cases h
  exact kr_v hx hb hr hlocks hP hD hS d_Fl_wipe_53
set_option maxHeartbeats 4000000 in
set_option maxRecDepth 100000 in
theorem c_Br_thrownAs (l : Launch) (dC : Nat → ClassId) (dI : Nat → Nat → Nat) (cI cJ cZ : ClassId) (a : Nat → Nat) (x1 : Int32) (fl : FlS) (res : Int32) (h : f_Br_thrownAs x1 = some res) :
    Kt l (dC, dI) classes [(cI, .int), (cJ, .long), (cZ, .boolean)] y_Br_thrownAs (wz y_Br_thrownAs b_Br_thrownAs 2 (some .int)) { frames := 0, cells := 0, slots := 0, locals := 0 } [.ref (a 24), .int x1] (cF0 cI cJ cZ a fl) (some (.int res)) (cF0 cI cJ cZ a fl) := by
  refine Kt_of (cc := b_Br_thrownAs) (maxL := 2) (ret := (some .int)) (by decide) (Nat.le_of_ble_eq_true rfl) ?_
  intro p e s m args below meth c A ls hx hb hr hml hlocks hown hts hNw hK hP hD hA hS hl
  have hl : lv_has ls 2 [(0, .ref (a 24)), (1, .int x1)] := hl
  have hP : va_P (dC, dI) classes (cF0 cI cJ cZ a fl) s.heap := hP
  refine lv_iconst (v := 1) hx hb d_Br_thrownAs_0 (by decide) ?_
  refine lv_iload_n hx hb d_Br_thrownAs_1 rfl (lv_at hl 1 rfl) ?_
  refine lv_ishl hx hb d_Br_thrownAs_2 ?_
  cases h
  exact kr_i hx hb hr hlocks hP hD hS d_Br_thrownAs_3
set_option maxHeartbeats 4000000 in
set_option maxRecDepth 100000 in
theorem c_Fl_comeTo_0 (l : Launch) (dC : Nat → ClassId) (dI : Nat → Nat → Nat) (cI cJ cZ : ClassId) (a : Nat → Nat) (x1 : Int32) (x2 : Int32) (fl : FlS) (res : FlS) (h : f_Fl_comeTo x1 x2 fl = some res) :
    Kt l (dC, dI) classes [(cI, .int), (cJ, .long), (cZ, .boolean)] y_Fl_comeTo (wz y_Fl_comeTo b_Fl_comeTo 3 none) { frames := 1, cells := 0, slots := 0, locals := 22 } [.ref (a 24), .int x1, .int x2] (cF0 cI cJ cZ a fl) none (cF0 cI cJ cZ a res) := by
  refine Kt_of (cc := b_Fl_comeTo) (maxL := 3) (ret := none) (by decide) (Nat.le_of_ble_eq_true rfl) ?_
  intro p e s m args below meth c A ls hx hb hr hml hlocks hown hts hNw hK hP hD hA hS hl
  have hl : lv_has ls 3 [(0, .ref (a 24)), (1, .int x1), (2, .int x2)] := hl
  have hP : va_P (dC, dI) classes (cF0 cI cJ cZ a fl) s.heap := hP
  have B35 : ∀ (x1_35 : Int32) (x2_35 : Int32) (fl_35 : FlS) (H : Heap) (locs : List Loc) (ls : Array Slot), f_Fl_comeTo_b35 x1_35 x2_35 fl_35 = some res → va_P (dC, dI) classes (cF0 cI cJ cZ a fl_35) H → va_D A (cF0 cI cJ cZ a fl_35) → va_S A s.heap H locs → lv_has ls 3 [(0, .ref (a 24)), (1, .int x1_35), (2, .int x2_35)] → W p l e { frames := 1, cells := 0, slots := 0, locals := 22 } s m args below meth c H locs 0 0 (KZ below args s (dC, dI) classes none (cF0 cI cJ cZ a res) A) (F0 m 35 ls []) := by
    intro x1_35 x2_35 fl_35 H locs ls h hP hD hS hl
    refine lv_aload_n hx hb d_Fl_comeTo_35 rfl (lv_at hl 0 rfl) ?_
    refine va_get (D := (dC, dI)) (ci := 4) (v := .ref (a 25)) (C := R_Br) (T := F_Br) (N := 9) hx hb hts inb_Br hown hK hP 0 rfl rfl 6 (by decide) (hts _ tw171) (fun _ h9 => h9) rfl d_Fl_comeTo_36 ?_
    refine lv_iload_n hx hb d_Fl_comeTo_39 rfl (lv_at hl 1 rfl) ?_
    refine lv_dup2_11 hx hb d_Fl_comeTo_40 rfl rfl ?_
    obtain ⟨hin, h⟩ := o_in h
    refine va_lald hx hb hK hP 1 1 rfl rfl hin d_Fl_comeTo_41 ?_
    refine lv_aload_n hx hb d_Fl_comeTo_42 rfl (lv_at hl 0 rfl) ?_
    refine va_get (D := (dC, dI)) (ci := 4) (v := .ref (a 25)) (C := R_Br) (T := F_Br) (N := 9) hx hb hts inb_Br hown hK hP 0 rfl rfl 6 (by decide) (hts _ tw171) (fun _ h9 => h9) rfl d_Fl_comeTo_43 ?_
    refine lv_iload_n hx hb d_Fl_comeTo_46 rfl (lv_at hl 2 rfl) ?_
    obtain ⟨hin, h⟩ := o_in h
    refine va_lald hx hb hK hP 1 1 rfl rfl hin d_Fl_comeTo_47 ?_
    refine lv_lor hx hb d_Fl_comeTo_48 ?_
    obtain ⟨hin, h⟩ := o_in h
    refine va_last hx hb hK hP hD hS 1 1 rfl rfl hin d_Fl_comeTo_49 (fun H locs hP hD hS => ?_)
    have hP : va_P (dC, dI) classes (cF0 cI cJ cZ a ((Fl_open fl_35), (Fl_met fl_35), (Fl_normal fl_35), (Fl_returning fl_35), (vp_updL (Fl_breaks fl_35) x1_35.toNatClampNeg (((Fl_breaks fl_35) x1_35.toNatClampNeg) ||| ((Fl_breaks fl_35) x2_35.toNatClampNeg))), (Fl_continues fl_35), (Fl_thrown fl_35))) H := hP
    have hD : va_D A (cF0 cI cJ cZ a ((Fl_open fl_35), (Fl_met fl_35), (Fl_normal fl_35), (Fl_returning fl_35), (vp_updL (Fl_breaks fl_35) x1_35.toNatClampNeg (((Fl_breaks fl_35) x1_35.toNatClampNeg) ||| ((Fl_breaks fl_35) x2_35.toNatClampNeg))), (Fl_continues fl_35), (Fl_thrown fl_35))) := hD
    refine lv_aload_n hx hb d_Fl_comeTo_50 rfl (lv_at hl 0 rfl) ?_
    refine va_get (D := (dC, dI)) (ci := 4) (v := .ref (a 26)) (C := R_Br) (T := F_Br) (N := 9) hx hb hts inb_Br hown hK hP 0 rfl rfl 7 (by decide) (hts _ tw172) (fun _ h9 => h9) rfl d_Fl_comeTo_51 ?_
    refine lv_iload_n hx hb d_Fl_comeTo_54 rfl (lv_at hl 1 rfl) ?_
    refine lv_dup2_11 hx hb d_Fl_comeTo_55 rfl rfl ?_
    obtain ⟨hin, h⟩ := o_in h
    refine va_lald hx hb hK hP 2 1 rfl rfl hin d_Fl_comeTo_56 ?_
    refine lv_aload_n hx hb d_Fl_comeTo_57 rfl (lv_at hl 0 rfl) ?_
    refine va_get (D := (dC, dI)) (ci := 4) (v := .ref (a 26)) (C := R_Br) (T := F_Br) (N := 9) hx hb hts inb_Br hown hK hP 0 rfl rfl 7 (by decide) (hts _ tw172) (fun _ h9 => h9) rfl d_Fl_comeTo_58 ?_
    refine lv_iload_n hx hb d_Fl_comeTo_61 rfl (lv_at hl 2 rfl) ?_
    obtain ⟨hin, h⟩ := o_in h
    refine va_lald hx hb hK hP 2 1 rfl rfl hin d_Fl_comeTo_62 ?_
    refine lv_lor hx hb d_Fl_comeTo_63 ?_
    obtain ⟨hin, h⟩ := o_in h
    refine va_last hx hb hK hP hD hS 2 1 rfl rfl hin d_Fl_comeTo_64 (fun H locs hP hD hS => ?_)
    have hP : va_P (dC, dI) classes (cF0 cI cJ cZ a ((Fl_open fl_35), (Fl_met fl_35), (Fl_normal fl_35), (Fl_returning fl_35), (vp_updL (Fl_breaks fl_35) x1_35.toNatClampNeg (((Fl_breaks fl_35) x1_35.toNatClampNeg) ||| ((Fl_breaks fl_35) x2_35.toNatClampNeg))), (vp_updL (Fl_continues fl_35) x1_35.toNatClampNeg (((Fl_continues fl_35) x1_35.toNatClampNeg) ||| ((Fl_continues fl_35) x2_35.toNatClampNeg))), (Fl_thrown fl_35))) H := hP
    have hD : va_D A (cF0 cI cJ cZ a ((Fl_open fl_35), (Fl_met fl_35), (Fl_normal fl_35), (Fl_returning fl_35), (vp_updL (Fl_breaks fl_35) x1_35.toNatClampNeg (((Fl_breaks fl_35) x1_35.toNatClampNeg) ||| ((Fl_breaks fl_35) x2_35.toNatClampNeg))), (vp_updL (Fl_continues fl_35) x1_35.toNatClampNeg (((Fl_continues fl_35) x1_35.toNatClampNeg) ||| ((Fl_continues fl_35) x2_35.toNatClampNeg))), (Fl_thrown fl_35))) := hD
    refine lv_aload_n hx hb d_Fl_comeTo_65 rfl (lv_at hl 0 rfl) ?_
    refine va_get (D := (dC, dI)) (ci := 4) (v := .ref (a 27)) (C := R_Br) (T := F_Br) (N := 9) hx hb hts inb_Br hown hK hP 0 rfl rfl 8 (by decide) (hts _ tw173) (fun _ h9 => h9) rfl d_Fl_comeTo_66 ?_
    refine lv_iload_n hx hb d_Fl_comeTo_69 rfl (lv_at hl 1 rfl) ?_
    refine lv_dup2_11 hx hb d_Fl_comeTo_70 rfl rfl ?_
    obtain ⟨hin, h⟩ := o_in h
    refine va_iald hx hb hK hP 3 0 rfl rfl hin d_Fl_comeTo_71 ?_
    refine lv_aload_n hx hb d_Fl_comeTo_72 rfl (lv_at hl 0 rfl) ?_
    refine va_get (D := (dC, dI)) (ci := 4) (v := .ref (a 27)) (C := R_Br) (T := F_Br) (N := 9) hx hb hts inb_Br hown hK hP 0 rfl rfl 8 (by decide) (hts _ tw173) (fun _ h9 => h9) rfl d_Fl_comeTo_73 ?_
    refine lv_iload_n hx hb d_Fl_comeTo_76 rfl (lv_at hl 2 rfl) ?_
    obtain ⟨hin, h⟩ := o_in h
    refine va_iald hx hb hK hP 3 0 rfl rfl hin d_Fl_comeTo_77 ?_
    refine lv_ior hx hb d_Fl_comeTo_78 ?_
    obtain ⟨hin, h⟩ := o_in h
    refine va_iast hx hb hK hP hD hS 3 0 rfl rfl hin d_Fl_comeTo_79 (fun H locs hP hD hS => ?_)
    have hP : va_P (dC, dI) classes (cF0 cI cJ cZ a ((Fl_open fl_35), (Fl_met fl_35), (Fl_normal fl_35), (Fl_returning fl_35), (vp_updL (Fl_breaks fl_35) x1_35.toNatClampNeg (((Fl_breaks fl_35) x1_35.toNatClampNeg) ||| ((Fl_breaks fl_35) x2_35.toNatClampNeg))), (vp_updL (Fl_continues fl_35) x1_35.toNatClampNeg (((Fl_continues fl_35) x1_35.toNatClampNeg) ||| ((Fl_continues fl_35) x2_35.toNatClampNeg))), (upd (Fl_thrown fl_35) x1_35.toNatClampNeg (((Fl_thrown fl_35) x1_35.toNatClampNeg) ||| ((Fl_thrown fl_35) x2_35.toNatClampNeg))))) H := hP
    have hD : va_D A (cF0 cI cJ cZ a ((Fl_open fl_35), (Fl_met fl_35), (Fl_normal fl_35), (Fl_returning fl_35), (vp_updL (Fl_breaks fl_35) x1_35.toNatClampNeg (((Fl_breaks fl_35) x1_35.toNatClampNeg) ||| ((Fl_breaks fl_35) x2_35.toNatClampNeg))), (vp_updL (Fl_continues fl_35) x1_35.toNatClampNeg (((Fl_continues fl_35) x1_35.toNatClampNeg) ||| ((Fl_continues fl_35) x2_35.toNatClampNeg))), (upd (Fl_thrown fl_35) x1_35.toNatClampNeg (((Fl_thrown fl_35) x1_35.toNatClampNeg) ||| ((Fl_thrown fl_35) x2_35.toNatClampNeg))))) := hD
    cases h
    exact kr_v hx hb hr hlocks hP hD hS d_Fl_comeTo_80
  refine lv_aload_n hx hb d_Fl_comeTo_0 rfl (lv_at hl 0 rfl) ?_
  refine lv_dup hx hb d_Fl_comeTo_1 rfl ?_
  refine va_get (D := (dC, dI)) (ci := 4) (v := .long (Fl_open fl)) (C := R_Br) (T := F_Br) (N := 9) hx hb hts inb_Br hown hK hP 0 rfl rfl 2 (by decide) (hts _ tw167) (fun _ h9 => h9) rfl d_Fl_comeTo_2 ?_
  refine lv_lconst (v := 1) hx hb d_Fl_comeTo_5 (by decide) ?_
  refine lv_iload_n hx hb d_Fl_comeTo_6 rfl (lv_at hl 2 rfl) ?_
  refine lv_lshl hx hb d_Fl_comeTo_7 rfl ?_
  refine lv_lor hx hb d_Fl_comeTo_8 ?_
  refine va_put (D := (dC, dI)) (ci := 4) (v := .long ((Fl_open fl) ||| ((1 : Int64) <<< (x2.toInt64 &&& 63)))) (ty := .long) (C := R_Br) (T := F_Br) (N := 9) hx hb hts inb_Br ft_Br ft_Br_ok n_Br hown hK hP hD hS 0 rfl rfl 2 (by decide) (hts _ tw167) (fun _ h9 => h9) rfl (by decide +kernel) rfl rfl (Nat.le_of_ble_eq_true rfl) d_Fl_comeTo_9 (fun H locs hP hD hS => ?_)
  have hP : va_P (dC, dI) classes (cF0 cI cJ cZ a (((Fl_open fl) ||| ((1 : Int64) <<< (x2.toInt64 &&& 63))), (Fl_met fl), (Fl_normal fl), (Fl_returning fl), (Fl_breaks fl), (Fl_continues fl), (Fl_thrown fl))) H := hP
  have hD : va_D A (cF0 cI cJ cZ a (((Fl_open fl) ||| ((1 : Int64) <<< (x2.toInt64 &&& 63))), (Fl_met fl), (Fl_normal fl), (Fl_returning fl), (Fl_breaks fl), (Fl_continues fl), (Fl_thrown fl))) := hD
  refine lv_aload_n hx hb d_Fl_comeTo_12 rfl (lv_at hl 0 rfl) ?_
  refine va_get (D := (dC, dI)) (ci := 4) (v := .long (Fl_returning fl)) (C := R_Br) (T := F_Br) (N := 9) hx hb hts inb_Br hown hK hP 0 rfl rfl 5 (by decide) (hts _ tw170) (fun _ h9 => h9) rfl d_Fl_comeTo_13 ?_
  refine lv_iload_n hx hb d_Fl_comeTo_16 rfl (lv_at hl 2 rfl) ?_
  obtain ⟨y17, hy, h⟩ := o_bd h
  refine kdSN (nn := 4) (rest := []) (w' := (cF0 cI cJ cZ a (((Fl_open fl) ||| ((1 : Int64) <<< (x2.toInt64 &&& 63))), (Fl_met fl), (Fl_normal fl), (Fl_returning fl), (Fl_breaks fl), (Fl_continues fl), (Fl_thrown fl)))) (wr := (cF0 cI cJ cZ a (((Fl_open fl) ||| ((1 : Int64) <<< (x2.toInt64 &&& 63))), (Fl_met fl), (Fl_normal fl), (Fl_returning fl), (Fl_breaks fl), (Fl_continues fl), (Fl_thrown fl)))) (st1 := [.int y17]) ⟨hx, hb, hml, hown, hts⟩ (c_Rf_isIn l dC dI cI cJ cZ a (Fl_returning fl) x2 y17 hy) ⟨va_cnB 2 hts (gd_0 tw34) rfl rfl rfl (hNw _ nw507) (hts _ tw1) hd_Rf_isIn.2 ⟨Nat.le_of_ble_eq_true rfl, Nat.le_of_ble_eq_true rfl⟩, hts _ tw33, trivial⟩ hNw hK hP hD hS hA [] [0, 1, 2, 3] rfl rfl rfl rfl rfl (by decide +kernel) (by decide +kernel) rfl hl.1 rfl (Nat.le_of_ble_eq_true rfl) rfl d_Fl_comeTo_17 ⟨Nat.zero_le _, Nat.zero_le _⟩ (fun H locs hP hD hS => ?_)
  refine lv_if_eq (tgt := 35) hx hb d_Fl_comeTo_20 (by decide) (fun hc => ?_) (fun hc => ?_)
  · have h := o_t hc h
    exact B35 x1 x2 (((Fl_open fl) ||| ((1 : Int64) <<< (x2.toInt64 &&& 63))), (Fl_met fl), (Fl_normal fl), (Fl_returning fl), (Fl_breaks fl), (Fl_continues fl), (Fl_thrown fl)) _ _ _ h hP hD hS (lv_sub hl [0, 1, 2] rfl)
  · have h := o_f hc h
    refine lv_aload_n hx hb d_Fl_comeTo_23 rfl (lv_at hl 0 rfl) ?_
    refine lv_dup hx hb d_Fl_comeTo_24 rfl ?_
    refine va_get (D := (dC, dI)) (ci := 4) (v := .long (Fl_returning fl)) (C := R_Br) (T := F_Br) (N := 9) hx hb hts inb_Br hown hK hP 0 rfl rfl 5 (by decide) (hts _ tw170) (fun _ h9 => h9) rfl d_Fl_comeTo_25 ?_
    refine lv_lconst (v := 1) hx hb d_Fl_comeTo_28 (by decide) ?_
    refine lv_iload_n hx hb d_Fl_comeTo_29 rfl (lv_at hl 1 rfl) ?_
    refine lv_lshl hx hb d_Fl_comeTo_30 rfl ?_
    refine lv_lor hx hb d_Fl_comeTo_31 ?_
    refine va_put (D := (dC, dI)) (ci := 4) (v := .long ((Fl_returning fl) ||| ((1 : Int64) <<< (x1.toInt64 &&& 63)))) (ty := .long) (C := R_Br) (T := F_Br) (N := 9) hx hb hts inb_Br ft_Br ft_Br_ok n_Br hown hK hP hD hS 0 rfl rfl 5 (by decide) (hts _ tw170) (fun _ h9 => h9) rfl (by decide +kernel) rfl rfl (Nat.le_of_ble_eq_true rfl) d_Fl_comeTo_32 (fun H locs hP hD hS => ?_)
    have hP : va_P (dC, dI) classes (cF0 cI cJ cZ a (((Fl_open fl) ||| ((1 : Int64) <<< (x2.toInt64 &&& 63))), (Fl_met fl), (Fl_normal fl), ((Fl_returning fl) ||| ((1 : Int64) <<< (x1.toInt64 &&& 63))), (Fl_breaks fl), (Fl_continues fl), (Fl_thrown fl))) H := hP
    have hD : va_D A (cF0 cI cJ cZ a (((Fl_open fl) ||| ((1 : Int64) <<< (x2.toInt64 &&& 63))), (Fl_met fl), (Fl_normal fl), ((Fl_returning fl) ||| ((1 : Int64) <<< (x1.toInt64 &&& 63))), (Fl_breaks fl), (Fl_continues fl), (Fl_thrown fl))) := hD
    exact B35 x1 x2 (((Fl_open fl) ||| ((1 : Int64) <<< (x2.toInt64 &&& 63))), (Fl_met fl), (Fl_normal fl), ((Fl_returning fl) ||| ((1 : Int64) <<< (x1.toInt64 &&& 63))), (Fl_breaks fl), (Fl_continues fl), (Fl_thrown fl)) _ _ _ h hP hD hS (lv_sub hl [0, 1, 2] rfl)
set_option maxHeartbeats 4000000 in
set_option maxRecDepth 100000 in
theorem c_Br_opensCatch (l : Launch) (dC : Nat → ClassId) (dI : Nat → Nat → Nat) (cI cJ cZ : ClassId) (a : Nat → Nat) (x1 : Int32) (x2 : Int32) (x3 : Int32) (fl : FlS) (kn : KnS) (res : Int32) (h : f_Br_opensCatch x1 x2 x3 kn = some res) :
    Kt l (dC, dI) classes [(cI, .int), (cJ, .long), (cZ, .boolean)] y_Br_opensCatch (wz y_Br_opensCatch b_Br_opensCatch 5 (some .boolean)) { frames := 1, cells := 0, slots := 0, locals := 22 } [.ref (a 24), .int x1, .int x2, .int x3] (cF0 cI cJ cZ a fl ++ cKn cI cJ cZ a kn) (some (.int res)) (cF0 cI cJ cZ a fl ++ cKn cI cJ cZ a kn) := by
  refine Kt_of (cc := b_Br_opensCatch) (maxL := 5) (ret := (some .boolean)) (by decide) (Nat.le_of_ble_eq_true rfl) ?_
  intro p e s m args below meth c A ls hx hb hr hml hlocks hown hts hNw hK hP hD hA hS hl
  have hl : lv_has ls 5 [(0, .ref (a 24)), (1, .int x1), (2, .int x2), (3, .int x3)] := hl
  have hP : va_P (dC, dI) classes (cF0 cI cJ cZ a fl ++ cKn cI cJ cZ a kn) s.heap := hP
  refine lv_aload_n hx hb d_Br_opensCatch_0 rfl (lv_at hl 0 rfl) ?_
  refine va_get (D := (dC, dI)) (ci := 4) (v := .ref (a 1)) (C := R_Br) (T := F_Br) (N := 9) hx hb hts inb_Br hown hK hP 0 rfl rfl 1 (by decide) (hts _ tw165) (fun x9 h9 => u_same (hts _ tw166) x9 h9) rfl d_Br_opensCatch_1 ?_
  refine va_get (D := (dC, dI)) (ci := 0) (v := .ref (a 2)) (C := R_Kn) (T := F_Kn) (N := 3) hx hb hts inb_Kn hown hK hP 4 rfl rfl 1 (by decide) (hts _ tw39) (fun _ h9 => h9) rfl d_Br_opensCatch_4 ?_
  refine lv_iload_n hx hb d_Br_opensCatch_7 rfl (lv_at hl 1 rfl) ?_
  obtain ⟨hin, h⟩ := o_in h
  refine va_iald hx hb hK hP 5 0 rfl rfl hin d_Br_opensCatch_8 ?_
  refine lv_aload_n hx hb d_Br_opensCatch_9 rfl (lv_at hl 0 rfl) ?_
  refine va_get (D := (dC, dI)) (ci := 4) (v := .ref (a 1)) (C := R_Br) (T := F_Br) (N := 9) hx hb hts inb_Br hown hK hP 0 rfl rfl 1 (by decide) (hts _ tw165) (fun x9 h9 => u_same (hts _ tw166) x9 h9) rfl d_Br_opensCatch_10 ?_
  refine va_get (D := (dC, dI)) (ci := 0) (v := .ref (a 3)) (C := R_Kn) (T := F_Kn) (N := 3) hx hb hts inb_Kn hown hK hP 4 rfl rfl 2 (by decide) (hts _ tw42) (fun _ h9 => h9) rfl d_Br_opensCatch_13 ?_
  refine lv_iload_n hx hb d_Br_opensCatch_16 rfl (lv_at hl 1 rfl) ?_
  obtain ⟨hin, h⟩ := o_in h
  refine va_iald hx hb hK hP 6 0 rfl rfl hin d_Br_opensCatch_17 ?_
  refine lv_ior hx hb d_Br_opensCatch_18 ?_
  refine lv_istore (lv' := [(4, .int (((Kn_below kn) x1.toNatClampNeg) ||| ((Kn_over kn) x1.toNatClampNeg))), (0, .ref (a 24)), (1, .int x1), (2, .int x2), (3, .int x3)]) hx hb d_Br_opensCatch_19 hl (by decide) rfl (fun ls hl => ?_)
  refine lv_iload_n hx hb d_Br_opensCatch_21 rfl (lv_at hl 4 rfl) ?_
  refine lv_i2l hx hb d_Br_opensCatch_22 rfl ?_
  refine lv_iload_n hx hb d_Br_opensCatch_23 rfl (lv_at hl 2 rfl) ?_
  obtain ⟨y24, hy, h⟩ := o_bd h
  refine kdSN (nn := 7) (rest := []) (w' := (cF0 cI cJ cZ a fl ++ cKn cI cJ cZ a kn)) (wr := (cF0 cI cJ cZ a fl ++ cKn cI cJ cZ a kn)) (st1 := [.int y24]) ⟨hx, hb, hml, hown, hts⟩ (c_Rf_isIn l dC dI cI cJ cZ a x3.toInt64 x1 y24 hy) ⟨va_cnB 2 hts (gd_0 tw34) rfl rfl rfl (hNw _ nw518) (hts _ tw1) hd_Rf_isIn.2 ⟨Nat.le_of_ble_eq_true rfl, Nat.le_of_ble_eq_true rfl⟩, hts _ tw33, trivial⟩ hNw hK hP hD hS hA [] [0, 1, 2, 3, 4, 5, 6] rfl rfl rfl rfl rfl (by decide +kernel) (by decide +kernel) rfl hl.1 rfl (Nat.le_of_ble_eq_true rfl) rfl d_Br_opensCatch_24 ⟨Nat.zero_le _, Nat.zero_le _⟩ (fun H locs hP hD hS => ?_)
  refine lv_if_ne (tgt := 52) hx hb d_Br_opensCatch_27 (by decide) (fun hc => ?_) (fun hc => ?_)
  · have h := o_f hc h
    refine lv_iconst (v := 0) hx hb d_Br_opensCatch_52 (by decide) ?_
    cases h
    exact kr_z hx hb hr (by decide) hlocks hP hD hS d_Br_opensCatch_53
  · have h := o_t hc h
    refine lv_aload_n hx hb d_Br_opensCatch_30 rfl (lv_at hl 1 rfl) ?_
    refine va_get (D := (dC, dI)) (ci := 4) (v := .ref (a 1)) (C := R_Br) (T := F_Br) (N := 9) hx hb hts inb_Br hown hK hP 0 rfl rfl 1 (by decide) (hts _ tw165) (fun x9 h9 => u_same (hts _ tw166) x9 h9) rfl d_Br_opensCatch_31 ?_
    refine lv_iload_n hx hb d_Br_opensCatch_34 rfl (lv_at hl 2 rfl) ?_
    obtain ⟨y35, hy, h⟩ := o_bd h
    refine kdV (nn := 7) (rest := []) (w' := (cF0 cI cJ cZ a fl ++ cKn cI cJ cZ a kn)) (wr := (cF0 cI cJ cZ a fl)) (st1 := [.int y35]) ⟨hx, hb, hml, hown, hts⟩ (c_Kn_needsNoThrower l dC dI cI cJ cZ a x1 kn y35 hy) (cwV 1 hts (gd_V tw519 tw520 tw521 tw2 tw522) rfl rfl rfl hd_Kn_needsNoThrower ⟨Nat.le_of_ble_eq_true rfl, Nat.le_of_ble_eq_true rfl⟩) hNw hK hP hD hS hA (ci := 0) rfl rfl rfl [4, 5, 6] [0, 1, 2, 3] rfl rfl rfl rfl rfl (by decide +kernel) (by decide +kernel) rfl hl.1 rfl (Nat.le_of_ble_eq_true rfl) rfl d_Br_opensCatch_35 ⟨Nat.zero_le _, Nat.zero_le _⟩ (fun H locs hP hD hS => ?_)
    refine lv_if_ne (tgt := 48) hx hb d_Br_opensCatch_38 (by decide) (fun hc => ?_) (fun hc => ?_)
    · have h := o_f hc h
      refine lv_iconst (v := 1) hx hb d_Br_opensCatch_48 (by decide) ?_
      refine lv_goto (tgt := 53) hx hb d_Br_opensCatch_49 (by decide) ?_
      cases h
      exact kr_z hx hb hr (by decide) hlocks hP hD hS d_Br_opensCatch_53
    · have h := o_t hc h
      refine lv_iload_n hx hb d_Br_opensCatch_41 rfl (lv_at hl 3 rfl) ?_
      refine lv_iload hx hb d_Br_opensCatch_42 (lv_at hl 0 rfl) ?_
      refine lv_iand hx hb d_Br_opensCatch_44 ?_
      refine lv_if_eq (tgt := 52) hx hb d_Br_opensCatch_45 (by decide) (fun hc => ?_) (fun hc => ?_)
      · have h := o_t hc h
        refine lv_iconst (v := 0) hx hb d_Br_opensCatch_52 (by decide) ?_
        cases h
        exact kr_z hx hb hr (by decide) hlocks hP hD hS d_Br_opensCatch_53
      · have h := o_f hc h
        refine lv_iconst (v := 1) hx hb d_Br_opensCatch_48 (by decide) ?_
        refine lv_goto (tgt := 53) hx hb d_Br_opensCatch_49 (by decide) ?_
        cases h
        exact kr_z hx hb hr (by decide) hlocks hP hD hS d_Br_opensCatch_53
set_option maxHeartbeats 4000000 in
set_option maxRecDepth 100000 in
theorem c_Fl_somePartGoesOn_0 (l : Launch) (dC : Nat → ClassId) (dI : Nat → Nat → Nat) (cI cJ cZ : ClassId) (a : Nat → Nat) (x1 : Int32) (fl : FlS) (tr : TrS) (res : Int32) (h : f_Fl_somePartGoesOn x1 fl tr = some res) :
    Kt l (dC, dI) classes [(cI, .int), (cJ, .long), (cZ, .boolean)] y_Fl_somePartGoesOn (wz y_Fl_somePartGoesOn b_Fl_somePartGoesOn 2 (some .boolean)) { frames := 0, cells := 0, slots := 0, locals := 0 } [.ref (a 24), .int x1] (cF0 cI cJ cZ a fl ++ cTr cI cJ cZ a tr) (some (.int res)) (cF0 cI cJ cZ a fl ++ cTr cI cJ cZ a tr) := by
  refine Kt_of (cc := b_Fl_somePartGoesOn) (maxL := 2) (ret := (some .boolean)) (by decide) (Nat.le_of_ble_eq_true rfl) ?_
  intro p e s m args below meth c A ls hx hb hr hml hlocks hown hts hNw hK hP hD hA hS hl
  have hl : lv_has ls 2 [(0, .ref (a 24)), (1, .int x1)] := hl
  have hP : va_P (dC, dI) classes (cF0 cI cJ cZ a fl ++ cTr cI cJ cZ a tr) s.heap := hP
  refine lv_aload_n hx hb d_Fl_somePartGoesOn_0 rfl (lv_at hl 0 rfl) ?_
  refine va_get (D := (dC, dI)) (ci := 4) (v := .ref (a 4)) (C := R_Br) (T := F_Br) (N := 9) hx hb hts inb_Br hown hK hP 0 rfl rfl 0 (by decide) (hts _ tw159) (fun _ h9 => h9) rfl d_Fl_somePartGoesOn_1 ?_
  refine va_get (D := (dC, dI)) (ci := 1) (v := .ref (a 11)) (C := R_Tr) (T := F_Tr) (N := 14) hx hb hts inb_Tr hown hK hP 4 rfl rfl 10 (by decide) (hts _ tw87) (fun _ h9 => h9) rfl d_Fl_somePartGoesOn_4 ?_
  refine lv_iload_n hx hb d_Fl_somePartGoesOn_7 rfl (lv_at hl 1 rfl) ?_
  obtain ⟨hin, h⟩ := o_in h
  refine va_lald hx hb hK hP 11 1 rfl rfl hin d_Fl_somePartGoesOn_8 ?_
  refine lv_aload_n hx hb d_Fl_somePartGoesOn_9 rfl (lv_at hl 0 rfl) ?_
  refine va_get (D := (dC, dI)) (ci := 4) (v := .long (Fl_open fl)) (C := R_Br) (T := F_Br) (N := 9) hx hb hts inb_Br hown hK hP 0 rfl rfl 2 (by decide) (hts _ tw167) (fun _ h9 => h9) rfl d_Fl_somePartGoesOn_10 ?_
  refine lv_land hx hb d_Fl_somePartGoesOn_13 ?_
  refine lv_aload_n hx hb d_Fl_somePartGoesOn_14 rfl (lv_at hl 0 rfl) ?_
  refine va_get (D := (dC, dI)) (ci := 4) (v := .long (Fl_normal fl)) (C := R_Br) (T := F_Br) (N := 9) hx hb hts inb_Br hown hK hP 0 rfl rfl 4 (by decide) (hts _ tw169) (fun _ h9 => h9) rfl d_Fl_somePartGoesOn_15 ?_
  refine lv_land hx hb d_Fl_somePartGoesOn_18 ?_
  refine lv_lconst (v := 0) hx hb d_Fl_somePartGoesOn_19 (by decide) ?_
  refine W.lcmp hx hb d_Fl_somePartGoesOn_20 ?_
  refine lv_if_eq (tgt := 28) hx hb d_Fl_somePartGoesOn_21 (by decide) (fun hc => ?_) (fun hc => ?_)
  · have h := o_t hc h
    refine lv_iconst (v := 0) hx hb d_Fl_somePartGoesOn_28 (by decide) ?_
    cases h
    exact kr_z hx hb hr (by decide) hlocks hP hD hS d_Fl_somePartGoesOn_29
  · have h := o_f hc h
    refine lv_iconst (v := 1) hx hb d_Fl_somePartGoesOn_24 (by decide) ?_
    refine lv_goto (tgt := 29) hx hb d_Fl_somePartGoesOn_25 (by decide) ?_
    cases h
    exact kr_z hx hb hr (by decide) hlocks hP hD hS d_Fl_somePartGoesOn_29
set_option maxHeartbeats 4000000 in
set_option maxRecDepth 100000 in
theorem c_Br_opensEnding (l : Launch) (dC : Nat → ClassId) (dI : Nat → Nat → Nat) (cI cJ cZ : ClassId) (a : Nat → Nat) (x1 : Int32) (fl : FlS) (res : Int32) (h : f_Br_opensEnding x1 = some res) :
    Kt l (dC, dI) classes [(cI, .int), (cJ, .long), (cZ, .boolean)] y_Br_opensEnding (wz y_Br_opensEnding b_Br_opensEnding 2 (some .boolean)) { frames := 0, cells := 0, slots := 0, locals := 0 } [.ref (a 24), .int x1] (cF0 cI cJ cZ a fl) (some (.int res)) (cF0 cI cJ cZ a fl) := by
  refine Kt_of (cc := b_Br_opensEnding) (maxL := 2) (ret := (some .boolean)) (by decide) (Nat.le_of_ble_eq_true rfl) ?_
  intro p e s m args below meth c A ls hx hb hr hml hlocks hown hts hNw hK hP hD hA hS hl
  have hl : lv_has ls 2 [(0, .ref (a 24)), (1, .int x1)] := hl
  have hP : va_P (dC, dI) classes (cF0 cI cJ cZ a fl) s.heap := hP
  refine lv_iconst (v := 1) hx hb d_Br_opensEnding_0 (by decide) ?_
  cases h
  exact kr_z hx hb hr (by decide) hlocks hP hD hS d_Br_opensEnding_1
set_option maxHeartbeats 4000000 in
set_option maxRecDepth 100000 in
theorem c_Fl_endsNormally_0 (l : Launch) (dC : Nat → ClassId) (dI : Nat → Nat → Nat) (cI cJ cZ : ClassId) (a : Nat → Nat) (x1 : Int32) (fl : FlS) (res : Int32) (h : f_Fl_endsNormally x1 fl = some res) :
    Kt l (dC, dI) classes [(cI, .int), (cJ, .long), (cZ, .boolean)] y_Fl_endsNormally (wz y_Fl_endsNormally b_Fl_endsNormally 2 (some .boolean)) { frames := 1, cells := 0, slots := 0, locals := 22 } [.ref (a 24), .int x1] (cF0 cI cJ cZ a fl) (some (.int res)) (cF0 cI cJ cZ a fl) := by
  refine Kt_of (cc := b_Fl_endsNormally) (maxL := 2) (ret := (some .boolean)) (by decide) (Nat.le_of_ble_eq_true rfl) ?_
  intro p e s m args below meth c A ls hx hb hr hml hlocks hown hts hNw hK hP hD hA hS hl
  have hl : lv_has ls 2 [(0, .ref (a 24)), (1, .int x1)] := hl
  have hP : va_P (dC, dI) classes (cF0 cI cJ cZ a fl) s.heap := hP
  refine lv_aload_n hx hb d_Fl_endsNormally_0 rfl (lv_at hl 0 rfl) ?_
  refine va_get (D := (dC, dI)) (ci := 4) (v := .long (Fl_normal fl)) (C := R_Br) (T := F_Br) (N := 9) hx hb hts inb_Br hown hK hP 0 rfl rfl 4 (by decide) (hts _ tw169) (fun _ h9 => h9) rfl d_Fl_endsNormally_1 ?_
  refine lv_iload_n hx hb d_Fl_endsNormally_4 rfl (lv_at hl 1 rfl) ?_
  obtain ⟨y5, hy, h⟩ := o_bd h
  refine kdSN (nn := 4) (rest := []) (w' := (cF0 cI cJ cZ a fl)) (wr := (cF0 cI cJ cZ a fl)) (st1 := [.int y5]) ⟨hx, hb, hml, hown, hts⟩ (c_Rf_isIn l dC dI cI cJ cZ a (Fl_normal fl) x1 y5 hy) ⟨va_cnB 2 hts (gd_0 tw34) rfl rfl rfl (hNw _ nw507) (hts _ tw1) hd_Rf_isIn.2 ⟨Nat.le_of_ble_eq_true rfl, Nat.le_of_ble_eq_true rfl⟩, hts _ tw33, trivial⟩ hNw hK hP hD hS hA [] [0, 1, 2, 3] rfl rfl rfl rfl rfl (by decide +kernel) (by decide +kernel) rfl hl.1 rfl (Nat.le_of_ble_eq_true rfl) rfl d_Fl_endsNormally_5 ⟨Nat.zero_le _, Nat.zero_le _⟩ (fun H locs hP hD hS => ?_)
  obtain ⟨hbo, h⟩ := o_bo h
  cases h
  exact kr_z hx hb hr hbo hlocks hP hD hS d_Fl_endsNormally_8
set_option maxHeartbeats 4000000 in
set_option maxRecDepth 100000 in
theorem c_Fl_settleTry_0 (l : Launch) (dC : Nat → ClassId) (dI : Nat → Nat → Nat) (cI cJ cZ : ClassId) (a : Nat → Nat) (N : Nat) (x1 : Int32) (fl : FlS) (tr : TrS) (kn : KnS) (res : FlS) (h : f_Fl_settleTry false N x1 fl tr kn = some res) :
    Kt l (dC, dI) classes [(cI, .int), (cJ, .long), (cZ, .boolean)] y_Fl_settleTry (wz y_Fl_settleTry b_Fl_settleTry 7 none) { frames := 2, cells := 0, slots := 0, locals := 46 } [.ref (a 24), .int x1] (cF0 cI cJ cZ a fl ++ cTr cI cJ cZ a tr ++ cKn cI cJ cZ a kn) none (cF0 cI cJ cZ a res ++ cTr cI cJ cZ a tr ++ cKn cI cJ cZ a kn) := by
  refine Kt_of (cc := b_Fl_settleTry) (maxL := 7) (ret := none) (by decide) (Nat.le_of_ble_eq_true rfl) ?_
  intro p e s m args below meth c A ls hx hb hr hml hlocks hown hts hNw hK hP hD hA hS hl
  have hl : lv_has ls 7 [(0, .ref (a 24)), (1, .int x1)] := hl
  have hP : va_P (dC, dI) classes (cF0 cI cJ cZ a fl ++ cTr cI cJ cZ a tr ++ cKn cI cJ cZ a kn) s.heap := hP
  have B185 : ∀ (x1_185 : Int32) (x4_185 : Int32) (fl_185 : FlS) (H : Heap) (locs : List Loc) (ls : Array Slot), f_Fl_settleTry_b185 false N x1_185 x4_185 fl_185 tr kn = some res → va_P (dC, dI) classes (cF0 cI cJ cZ a fl_185 ++ cTr cI cJ cZ a tr ++ cKn cI cJ cZ a kn) H → va_D A (cF0 cI cJ cZ a fl_185 ++ cTr cI cJ cZ a tr ++ cKn cI cJ cZ a kn) → va_S A s.heap H locs → lv_has ls 7 [(0, .ref (a 24)), (1, .int x1_185), (4, .int x4_185)] → W p l e { frames := 2, cells := 0, slots := 0, locals := 46 } s m args below meth c H locs 0 0 (KZ below args s (dC, dI) classes none (cF0 cI cJ cZ a res ++ cTr cI cJ cZ a tr ++ cKn cI cJ cZ a kn) A) (F0 m 185 ls []) := by
    intro x1_185 x4_185 fl_185 H locs ls h hP hD hS hl
    refine lv_aload_n hx hb d_Fl_settleTry_185 rfl (lv_at hl 0 rfl) ?_
    refine lv_iload_n hx hb d_Fl_settleTry_186 rfl (lv_at hl 1 rfl) ?_
    refine lv_iload hx hb d_Fl_settleTry_187 (lv_at hl 2 rfl) ?_
    obtain ⟨y189, hy, h⟩ := o_bd h
    refine kdU (nn := 18) (rest := []) (w' := (cF0 cI cJ cZ a y189 ++ cTr cI cJ cZ a tr ++ cKn cI cJ cZ a kn)) (wr := (cTr cI cJ cZ a tr ++ cKn cI cJ cZ a kn)) (st1 := []) ⟨hx, hb, hml, hown, hts⟩ (c_Fl_comeTo_0 l dC dI cI cJ cZ a x1_185 x4_185 fl_185 y189 hy) (va_cwU 2 hts (gd_U tw503 tw1072 xs3 tw505 tw6 tw506) rfl rfl rfl rfl hdU_comeTo ⟨Nat.le_of_ble_eq_true rfl, Nat.le_of_ble_eq_true rfl⟩) hNw hK hP hD hS hA (ci := 4) rfl rfl rfl [0, 1, 2, 3] [4, 5, 6, 7, 8, 9, 10, 11, 12, 13, 14, 15, 16, 17] rfl rfl rfl rfl rfl (by decide +kernel) (by decide +kernel) rfl hl.1 rfl (Nat.le_of_ble_eq_true rfl) rfl d_Fl_settleTry_189 ⟨Nat.zero_le _, Nat.zero_le _⟩ (fun H locs hP hD hS => ?_)
    cases h
    exact kr_v hx hb hr hlocks hP hD hS d_Fl_settleTry_192
  have B146 : ∀ (x1_146 : Int32) (fl_146 : FlS) (H : Heap) (locs : List Loc) (ls : Array Slot), f_Fl_settleTry_b146 false N x1_146 fl_146 tr kn = some res → va_P (dC, dI) classes (cF0 cI cJ cZ a fl_146 ++ cTr cI cJ cZ a tr ++ cKn cI cJ cZ a kn) H → va_D A (cF0 cI cJ cZ a fl_146 ++ cTr cI cJ cZ a tr ++ cKn cI cJ cZ a kn) → va_S A s.heap H locs → lv_has ls 7 [(0, .ref (a 24)), (1, .int x1_146)] → W p l e { frames := 2, cells := 0, slots := 0, locals := 46 } s m args below meth c H locs 0 0 (KZ below args s (dC, dI) classes none (cF0 cI cJ cZ a res ++ cTr cI cJ cZ a tr ++ cKn cI cJ cZ a kn) A) (F0 m 146 ls []) := by
    intro x1_146 fl_146 H locs ls h hP hD hS hl
    refine lv_aload_n hx hb d_Fl_settleTry_146 rfl (lv_at hl 0 rfl) ?_
    refine va_get (D := (dC, dI)) (ci := 4) (v := .ref (a 4)) (C := R_Br) (T := F_Br) (N := 9) hx hb hts inb_Br hown hK hP 0 rfl rfl 0 (by decide) (hts _ tw159) (fun _ h9 => h9) rfl d_Fl_settleTry_147 ?_
    refine va_get (D := (dC, dI)) (ci := 1) (v := .ref (a 10)) (C := R_Tr) (T := F_Tr) (N := 14) hx hb hts inb_Tr hown hK hP 4 rfl rfl 9 (by decide) (hts _ tw85) (fun _ h9 => h9) rfl d_Fl_settleTry_150 ?_
    refine lv_iload_n hx hb d_Fl_settleTry_153 rfl (lv_at hl 1 rfl) ?_
    obtain ⟨hin, h⟩ := o_in h
    refine va_iald hx hb hK hP 10 0 rfl rfl hin d_Fl_settleTry_154 ?_
    refine lv_istore (lv' := [(4, .int ((Tr_tail tr) x1_146.toNatClampNeg)), (0, .ref (a 24)), (1, .int x1_146)]) hx hb d_Fl_settleTry_155 hl (by decide) rfl (fun ls hl => ?_)
    refine lv_iload hx hb d_Fl_settleTry_157 (lv_at hl 0 rfl) ?_
    refine lv_iconst (v := -1) hx hb d_Fl_settleTry_159 (by decide) ?_
    refine lv_icmp_eq (tgt := 192) hx hb d_Fl_settleTry_160 (by decide) (fun hc => ?_) (fun hc => ?_)
    · have h := o_t hc h
      cases h
      exact kr_v hx hb hr hlocks hP hD hS d_Fl_settleTry_192
    · have h := o_f hc h
      refine lv_aload_n hx hb d_Fl_settleTry_163 rfl (lv_at hl 1 rfl) ?_
      refine lv_iload_n hx hb d_Fl_settleTry_164 rfl (lv_at hl 2 rfl) ?_
      obtain ⟨y165, hy, h⟩ := o_bd h
      refine kdU (nn := 18) (rest := []) (w' := (cF0 cI cJ cZ a fl_146 ++ cTr cI cJ cZ a tr ++ cKn cI cJ cZ a kn)) (wr := (cTr cI cJ cZ a tr ++ cKn cI cJ cZ a kn)) (st1 := [.int y165]) ⟨hx, hb, hml, hown, hts⟩ (c_Br_opensEnding l dC dI cI cJ cZ a x1_146 fl_146 y165 hy) (va_cwA 1 hts (gd_U tw530 tw532 tw533 tw534 tw7 tw535) rfl rfl rfl (hNw _ nw531) hdU_opensEnding ⟨Nat.le_of_ble_eq_true rfl, Nat.le_of_ble_eq_true rfl⟩) hNw hK hP hD hS hA (ci := 4) rfl rfl rfl [0, 1, 2, 3] [4, 5, 6, 7, 8, 9, 10, 11, 12, 13, 14, 15, 16, 17] rfl rfl rfl rfl rfl (by decide +kernel) (by decide +kernel) rfl hl.1 rfl (Nat.le_of_ble_eq_true rfl) rfl d_Fl_settleTry_165 ⟨Nat.zero_le _, Nat.zero_le _⟩ (fun H locs hP hD hS => ?_)
      refine lv_if_eq (tgt := 192) hx hb d_Fl_settleTry_168 (by decide) (fun hc => ?_) (fun hc => ?_)
      · have h := o_t hc h
        cases h
        exact kr_v hx hb hr hlocks hP hD hS d_Fl_settleTry_192
      · have h := o_f hc h
        refine lv_aload_n hx hb d_Fl_settleTry_171 rfl (lv_at hl 1 rfl) ?_
        refine lv_iload hx hb d_Fl_settleTry_172 (lv_at hl 0 rfl) ?_
        obtain ⟨y174, hy, h⟩ := o_bd h
        refine kdU (nn := 18) (rest := []) (w' := (cF0 cI cJ cZ a fl_146 ++ cTr cI cJ cZ a tr ++ cKn cI cJ cZ a kn)) (wr := (cTr cI cJ cZ a tr ++ cKn cI cJ cZ a kn)) (st1 := [.int y174]) ⟨hx, hb, hml, hown, hts⟩ (c_Fl_endsNormally_0 l dC dI cI cJ cZ a ((Tr_tail tr) x1_146.toNatClampNeg) fl_146 y174 hy) (va_cwU 1 hts (gd_U tw545 tw547 tw548 tw546 tw6 tw550) rfl rfl rfl rfl hdU_endsNormally ⟨Nat.le_of_ble_eq_true rfl, Nat.le_of_ble_eq_true rfl⟩) hNw hK hP hD hS hA (ci := 4) rfl rfl rfl [0, 1, 2, 3] [4, 5, 6, 7, 8, 9, 10, 11, 12, 13, 14, 15, 16, 17] rfl rfl rfl rfl rfl (by decide +kernel) (by decide +kernel) rfl hl.1 rfl (Nat.le_of_ble_eq_true rfl) rfl d_Fl_settleTry_174 ⟨Nat.zero_le _, Nat.zero_le _⟩ (fun H locs hP hD hS => ?_)
        refine lv_if_ne (tgt := 185) hx hb d_Fl_settleTry_177 (by decide) (fun hc => ?_) (fun hc => ?_)
        · have h := o_f hc h
          exact B185 x1_146 ((Tr_tail tr) x1_146.toNatClampNeg) fl_146 _ _ _ h hP hD hS (lv_sub hl [1, 2, 0] rfl)
        · have h := o_t hc h
          refine lv_aload_n hx hb d_Fl_settleTry_180 rfl (lv_at hl 1 rfl) ?_
          refine lv_iload_n hx hb d_Fl_settleTry_181 rfl (lv_at hl 2 rfl) ?_
          obtain ⟨y182, hy, h⟩ := o_bd h
          refine kdU (nn := 18) (rest := []) (w' := (cF0 cI cJ cZ a y182 ++ cTr cI cJ cZ a tr ++ cKn cI cJ cZ a kn)) (wr := (cTr cI cJ cZ a tr ++ cKn cI cJ cZ a kn)) (st1 := []) ⟨hx, hb, hml, hown, hts⟩ (c_Fl_wipe_0 l dC dI cI cJ cZ a x1_146 fl_146 y182 hy) (va_cwU 1 hts (gd_U tw484 tw1070 xs1 tw486 tw6 tw487) rfl rfl rfl rfl hdU_wipe ⟨Nat.le_of_ble_eq_true rfl, Nat.le_of_ble_eq_true rfl⟩) hNw hK hP hD hS hA (ci := 4) rfl rfl rfl [0, 1, 2, 3] [4, 5, 6, 7, 8, 9, 10, 11, 12, 13, 14, 15, 16, 17] rfl rfl rfl rfl rfl (by decide +kernel) (by decide +kernel) rfl hl.1 rfl (Nat.le_of_ble_eq_true rfl) rfl d_Fl_settleTry_182 ⟨Nat.zero_le _, Nat.zero_le _⟩ (fun H locs hP hD hS => ?_)
          exact B185 x1_146 ((Tr_tail tr) x1_146.toNatClampNeg) y182 _ _ _ h hP hD hS (lv_sub hl [1, 2, 0] rfl)
  have L28 : ∀ (x1_28 : Int32) (x2_28 : Int32) (n28 : Nat) (s28 : Int32 × Int32 × FlS) (H : Heap) (locs : List Loc) (ls : Array Slot), lp (f_Fl_settleTry_L28 false N x1_28 x2_28 tr kn) n28 s28 = some res → va_P (dC, dI) classes (cF0 cI cJ cZ a s28.2.2 ++ cTr cI cJ cZ a tr ++ cKn cI cJ cZ a kn) H → va_D A (cF0 cI cJ cZ a s28.2.2 ++ cTr cI cJ cZ a tr ++ cKn cI cJ cZ a kn) → va_S A s.heap H locs → lv_has ls 7 [(0, .ref (a 24)), (1, .int x1_28), (2, .int x2_28), (3, .int s28.1), (4, .int s28.2.1)] → W p l e { frames := 2, cells := 0, slots := 0, locals := 46 } s m args below meth c H locs 0 0 (KZ below args s (dC, dI) classes none (cF0 cI cJ cZ a res ++ cTr cI cJ cZ a tr ++ cKn cI cJ cZ a kn) A) (F0 m 28 ls []) := by
    intro x1_28 x2_28 n28
    induction n28 with
    | zero => intro _ _ _ _ h; exact (lp_0 h).elim
    | succ n28 ih28 =>
      intro s28 H locs ls h hP hD hS hl
      have h := lp_s h
      have B88 : ∀ (x3_88 : Int32) (x4_88 : Int32) (x6_88 : Int32) (fl_88 : FlS) (H : Heap) (locs : List Loc) (ls : Array Slot), f_Fl_settleTry_b88 false N (lp (f_Fl_settleTry_L28 false N x1_28 x2_28 tr kn) n28) x1_28 x2_28 x3_88 x4_88 x6_88 fl_88 tr kn = some res → va_P (dC, dI) classes (cF0 cI cJ cZ a fl_88 ++ cTr cI cJ cZ a tr ++ cKn cI cJ cZ a kn) H → va_D A (cF0 cI cJ cZ a fl_88 ++ cTr cI cJ cZ a tr ++ cKn cI cJ cZ a kn) → va_S A s.heap H locs → lv_has ls 7 [(0, .ref (a 24)), (1, .int x1_28), (2, .int x2_28), (3, .int x3_88), (4, .int x4_88), (6, .int x6_88)] → W p l e { frames := 2, cells := 0, slots := 0, locals := 46 } s m args below meth c H locs 0 0 (KZ below args s (dC, dI) classes none (cF0 cI cJ cZ a res ++ cTr cI cJ cZ a tr ++ cKn cI cJ cZ a kn) A) (F0 m 88 ls []) := by
        intro x3_88 x4_88 x6_88 fl_88 H locs ls h hP hD hS hl
        refine lv_iload_n hx hb d_Fl_settleTry_88 rfl (lv_at hl 3 rfl) ?_
        refine lv_aload_n hx hb d_Fl_settleTry_89 rfl (lv_at hl 0 rfl) ?_
        refine va_get (D := (dC, dI)) (ci := 4) (v := .ref (a 1)) (C := R_Br) (T := F_Br) (N := 9) hx hb hts inb_Br hown hK hP 0 rfl rfl 1 (by decide) (hts _ tw162) (fun _ h9 => h9) rfl d_Fl_settleTry_90 ?_
        refine va_get (D := (dC, dI)) (ci := 0) (v := .ref (a 2)) (C := R_Kn) (T := F_Kn) (N := 3) hx hb hts inb_Kn hown hK hP 15 rfl rfl 1 (by decide) (hts _ tw40) (fun _ h9 => h9) rfl d_Fl_settleTry_93 ?_
        refine lv_iload hx hb d_Fl_settleTry_96 (lv_at hl 5 rfl) ?_
        obtain ⟨hin, h⟩ := o_in h
        refine va_iald hx hb hK hP 16 0 rfl rfl hin d_Fl_settleTry_98 ?_
        refine lv_ior hx hb d_Fl_settleTry_99 ?_
        refine lv_istore_n (lv' := [(3, .int (x3_88 ||| ((Kn_below kn) x6_88.toNatClampNeg))), (0, .ref (a 24)), (1, .int x1_28), (2, .int x2_28), (4, .int x4_88), (6, .int x6_88)]) hx hb d_Fl_settleTry_100 rfl hl (by decide) rfl (fun ls hl => ?_)
        refine lv_iinc (v := (x4_88 + 1)) (lv' := [(4, .int (x4_88 + 1)), (3, .int (x3_88 ||| ((Kn_below kn) x6_88.toNatClampNeg))), (0, .ref (a 24)), (1, .int x1_28), (2, .int x2_28), (6, .int x6_88)]) hx hb d_Fl_settleTry_101 hl (k := 4) rfl rfl (by decide) rfl (fun ls hl => ?_)
        refine lv_goto (tgt := 28) hx hb d_Fl_settleTry_104 (by decide) ?_
        exact ih28 ((x3_88 ||| ((Kn_below kn) x6_88.toNatClampNeg)), (x4_88 + 1), fl_88) _ _ _ h hP hD hS (lv_sub hl [2, 3, 4, 1, 0] rfl)
      refine lv_iload hx hb d_Fl_settleTry_28 (lv_at hl 4 rfl) ?_
      refine lv_aload_n hx hb d_Fl_settleTry_30 rfl (lv_at hl 0 rfl) ?_
      refine va_get (D := (dC, dI)) (ci := 4) (v := .ref (a 4)) (C := R_Br) (T := F_Br) (N := 9) hx hb hts inb_Br hown hK hP 0 rfl rfl 0 (by decide) (hts _ tw159) (fun _ h9 => h9) rfl d_Fl_settleTry_31 ?_
      refine lv_iload_n hx hb d_Fl_settleTry_34 rfl (lv_at hl 1 rfl) ?_
      obtain ⟨y35, hy, h⟩ := o_bd h
      refine kdV (nn := 18) (rest := [.int s28.2.1]) (w' := (cF0 cI cJ cZ a s28.2.2 ++ cTr cI cJ cZ a tr ++ cKn cI cJ cZ a kn)) (wr := (cF0 cI cJ cZ a s28.2.2 ++ cKn cI cJ cZ a kn)) (st1 := [.int y35, .int s28.2.1]) ⟨hx, hb, hml, hown, hts⟩ (c_Tr_catchCount l dC dI cI cJ cZ a x1_28 tr y35 hy) (cwV 1 hts (gd_V tw508 tw509 tw510 tw3 tw511) rfl rfl rfl hd_Tr_catchCount ⟨Nat.le_of_ble_eq_true rfl, Nat.le_of_ble_eq_true rfl⟩) hNw hK hP hD hS hA (ci := 1) rfl rfl rfl [4, 5, 6, 7, 8, 9, 10, 11, 12, 13, 14] [0, 1, 2, 3, 15, 16, 17] rfl rfl rfl rfl rfl (by decide +kernel) (by decide +kernel) rfl hl.1 rfl (Nat.le_of_ble_eq_true rfl) rfl d_Fl_settleTry_35 ⟨Nat.zero_le _, Nat.zero_le _⟩ (fun H locs hP hD hS => ?_)
      refine lv_icmp_gt (tgt := 107) hx hb d_Fl_settleTry_38 (by decide) (fun hc => ?_) (fun hc => ?_)
      · have h := o_t hc h
        refine lv_aload_n hx hb d_Fl_settleTry_107 rfl (lv_at hl 0 rfl) ?_
        refine va_get (D := (dC, dI)) (ci := 4) (v := .ref (a 27)) (C := R_Br) (T := F_Br) (N := 9) hx hb hts inb_Br hown hK hP 0 rfl rfl 8 (by decide) (hts _ tw173) (fun _ h9 => h9) rfl d_Fl_settleTry_108 ?_
        refine lv_iload_n hx hb d_Fl_settleTry_111 rfl (lv_at hl 1 rfl) ?_
        refine lv_dup2_11 hx hb d_Fl_settleTry_112 rfl rfl ?_
        obtain ⟨hin, h⟩ := o_in h
        refine va_iald hx hb hK hP 3 0 rfl rfl hin d_Fl_settleTry_113 ?_
        refine lv_aload_n hx hb d_Fl_settleTry_114 rfl (lv_at hl 0 rfl) ?_
        refine va_get (D := (dC, dI)) (ci := 4) (v := .ref (a 27)) (C := R_Br) (T := F_Br) (N := 9) hx hb hts inb_Br hown hK hP 0 rfl rfl 8 (by decide) (hts _ tw173) (fun _ h9 => h9) rfl d_Fl_settleTry_115 ?_
        refine lv_iload_n hx hb d_Fl_settleTry_118 rfl (lv_at hl 2 rfl) ?_
        obtain ⟨hin, h⟩ := o_in h
        refine va_iald hx hb hK hP 3 0 rfl rfl hin d_Fl_settleTry_119 ?_
        refine lv_iload_n hx hb d_Fl_settleTry_120 rfl (lv_at hl 3 rfl) ?_
        refine lv_iconst (v := -1) hx hb d_Fl_settleTry_121 (by decide) ?_
        refine lv_ixor hx hb d_Fl_settleTry_122 ?_
        refine lv_iand hx hb d_Fl_settleTry_123 ?_
        refine lv_ior hx hb d_Fl_settleTry_124 ?_
        obtain ⟨hin, h⟩ := o_in h
        refine va_iast hx hb hK hP hD hS 3 0 rfl rfl hin d_Fl_settleTry_125 (fun H locs hP hD hS => ?_)
        have hP : va_P (dC, dI) classes (cF0 cI cJ cZ a ((Fl_open s28.2.2), (Fl_met s28.2.2), (Fl_normal s28.2.2), (Fl_returning s28.2.2), (Fl_breaks s28.2.2), (Fl_continues s28.2.2), (upd (Fl_thrown s28.2.2) x1_28.toNatClampNeg (((Fl_thrown s28.2.2) x1_28.toNatClampNeg) ||| (((Fl_thrown s28.2.2) x2_28.toNatClampNeg) &&& (s28.1 ^^^ (-1 : Int32)))))) ++ cTr cI cJ cZ a tr ++ cKn cI cJ cZ a kn) H := hP
        have hD : va_D A (cF0 cI cJ cZ a ((Fl_open s28.2.2), (Fl_met s28.2.2), (Fl_normal s28.2.2), (Fl_returning s28.2.2), (Fl_breaks s28.2.2), (Fl_continues s28.2.2), (upd (Fl_thrown s28.2.2) x1_28.toNatClampNeg (((Fl_thrown s28.2.2) x1_28.toNatClampNeg) ||| (((Fl_thrown s28.2.2) x2_28.toNatClampNeg) &&& (s28.1 ^^^ (-1 : Int32)))))) ++ cTr cI cJ cZ a tr ++ cKn cI cJ cZ a kn) := hD
        refine lv_aload_n hx hb d_Fl_settleTry_126 rfl (lv_at hl 0 rfl) ?_
        refine lv_iload_n hx hb d_Fl_settleTry_127 rfl (lv_at hl 1 rfl) ?_
        obtain ⟨y128, hy, h⟩ := o_bd h
        refine kdU (nn := 18) (rest := []) (w' := (cF0 cI cJ cZ a ((Fl_open s28.2.2), (Fl_met s28.2.2), (Fl_normal s28.2.2), (Fl_returning s28.2.2), (Fl_breaks s28.2.2), (Fl_continues s28.2.2), (upd (Fl_thrown s28.2.2) x1_28.toNatClampNeg (((Fl_thrown s28.2.2) x1_28.toNatClampNeg) ||| (((Fl_thrown s28.2.2) x2_28.toNatClampNeg) &&& (s28.1 ^^^ (-1 : Int32)))))) ++ cTr cI cJ cZ a tr ++ cKn cI cJ cZ a kn)) (wr := (cKn cI cJ cZ a kn)) (st1 := [.int y128]) ⟨hx, hb, hml, hown, hts⟩ (c_Fl_somePartGoesOn_0 l dC dI cI cJ cZ a x1_28 ((Fl_open s28.2.2), (Fl_met s28.2.2), (Fl_normal s28.2.2), (Fl_returning s28.2.2), (Fl_breaks s28.2.2), (Fl_continues s28.2.2), (upd (Fl_thrown s28.2.2) x1_28.toNatClampNeg (((Fl_thrown s28.2.2) x1_28.toNatClampNeg) ||| (((Fl_thrown s28.2.2) x2_28.toNatClampNeg) &&& (s28.1 ^^^ (-1 : Int32)))))) tr y128 hy) (va_cwU 1 hts (gd_U tw526 tw1073 xs4 tw528 tw6 tw529) rfl rfl rfl rfl hdU_somePartGoesOn ⟨Nat.le_of_ble_eq_true rfl, Nat.le_of_ble_eq_true rfl⟩) hNw hK hP hD hS hA (ci := 4) rfl rfl rfl [0, 1, 2, 3, 4, 5, 6, 7, 8, 9, 10, 11, 12, 13, 14] [15, 16, 17] rfl rfl rfl rfl rfl (by decide +kernel) (by decide +kernel) rfl hl.1 rfl (Nat.le_of_ble_eq_true rfl) rfl d_Fl_settleTry_128 ⟨Nat.zero_le _, Nat.zero_le _⟩ (fun H locs hP hD hS => ?_)
        refine lv_if_eq (tgt := 146) hx hb d_Fl_settleTry_131 (by decide) (fun hc => ?_) (fun hc => ?_)
        · have h := o_t hc h
          exact B146 x1_28 ((Fl_open s28.2.2), (Fl_met s28.2.2), (Fl_normal s28.2.2), (Fl_returning s28.2.2), (Fl_breaks s28.2.2), (Fl_continues s28.2.2), (upd (Fl_thrown s28.2.2) x1_28.toNatClampNeg (((Fl_thrown s28.2.2) x1_28.toNatClampNeg) ||| (((Fl_thrown s28.2.2) x2_28.toNatClampNeg) &&& (s28.1 ^^^ (-1 : Int32)))))) _ _ _ h hP hD hS (lv_sub hl [0, 1] rfl)
        · have h := o_f hc h
          refine lv_aload_n hx hb d_Fl_settleTry_134 rfl (lv_at hl 0 rfl) ?_
          refine lv_dup hx hb d_Fl_settleTry_135 rfl ?_
          refine va_get (D := (dC, dI)) (ci := 4) (v := .long (Fl_normal s28.2.2)) (C := R_Br) (T := F_Br) (N := 9) hx hb hts inb_Br hown hK hP 0 rfl rfl 4 (by decide) (hts _ tw169) (fun _ h9 => h9) rfl d_Fl_settleTry_136 ?_
          refine lv_lconst (v := 1) hx hb d_Fl_settleTry_139 (by decide) ?_
          refine lv_iload_n hx hb d_Fl_settleTry_140 rfl (lv_at hl 1 rfl) ?_
          refine lv_lshl hx hb d_Fl_settleTry_141 rfl ?_
          refine lv_lor hx hb d_Fl_settleTry_142 ?_
          refine va_put (D := (dC, dI)) (ci := 4) (v := .long ((Fl_normal s28.2.2) ||| ((1 : Int64) <<< (x1_28.toInt64 &&& 63)))) (ty := .long) (C := R_Br) (T := F_Br) (N := 9) hx hb hts inb_Br ft_Br ft_Br_ok n_Br hown hK hP hD hS 0 rfl rfl 4 (by decide) (hts _ tw169) (fun _ h9 => h9) rfl (by decide +kernel) rfl rfl (Nat.le_of_ble_eq_true rfl) d_Fl_settleTry_143 (fun H locs hP hD hS => ?_)
          have hP : va_P (dC, dI) classes (cF0 cI cJ cZ a ((Fl_open s28.2.2), (Fl_met s28.2.2), ((Fl_normal s28.2.2) ||| ((1 : Int64) <<< (x1_28.toInt64 &&& 63))), (Fl_returning s28.2.2), (Fl_breaks s28.2.2), (Fl_continues s28.2.2), (upd (Fl_thrown s28.2.2) x1_28.toNatClampNeg (((Fl_thrown s28.2.2) x1_28.toNatClampNeg) ||| (((Fl_thrown s28.2.2) x2_28.toNatClampNeg) &&& (s28.1 ^^^ (-1 : Int32)))))) ++ cTr cI cJ cZ a tr ++ cKn cI cJ cZ a kn) H := hP
          have hD : va_D A (cF0 cI cJ cZ a ((Fl_open s28.2.2), (Fl_met s28.2.2), ((Fl_normal s28.2.2) ||| ((1 : Int64) <<< (x1_28.toInt64 &&& 63))), (Fl_returning s28.2.2), (Fl_breaks s28.2.2), (Fl_continues s28.2.2), (upd (Fl_thrown s28.2.2) x1_28.toNatClampNeg (((Fl_thrown s28.2.2) x1_28.toNatClampNeg) ||| (((Fl_thrown s28.2.2) x2_28.toNatClampNeg) &&& (s28.1 ^^^ (-1 : Int32)))))) ++ cTr cI cJ cZ a tr ++ cKn cI cJ cZ a kn) := hD
          exact B146 x1_28 ((Fl_open s28.2.2), (Fl_met s28.2.2), ((Fl_normal s28.2.2) ||| ((1 : Int64) <<< (x1_28.toInt64 &&& 63))), (Fl_returning s28.2.2), (Fl_breaks s28.2.2), (Fl_continues s28.2.2), (upd (Fl_thrown s28.2.2) x1_28.toNatClampNeg (((Fl_thrown s28.2.2) x1_28.toNatClampNeg) ||| (((Fl_thrown s28.2.2) x2_28.toNatClampNeg) &&& (s28.1 ^^^ (-1 : Int32)))))) _ _ _ h hP hD hS (lv_sub hl [0, 1] rfl)
      · have h := o_f hc h
        refine lv_aload_n hx hb d_Fl_settleTry_41 rfl (lv_at hl 0 rfl) ?_
        refine va_get (D := (dC, dI)) (ci := 4) (v := .ref (a 4)) (C := R_Br) (T := F_Br) (N := 9) hx hb hts inb_Br hown hK hP 0 rfl rfl 0 (by decide) (hts _ tw159) (fun _ h9 => h9) rfl d_Fl_settleTry_42 ?_
        refine lv_iload_n hx hb d_Fl_settleTry_45 rfl (lv_at hl 1 rfl) ?_
        refine lv_iload hx hb d_Fl_settleTry_46 (lv_at hl 4 rfl) ?_
        obtain ⟨y48, hy, h⟩ := o_bd h
        refine kdV (nn := 18) (rest := []) (w' := (cF0 cI cJ cZ a s28.2.2 ++ cTr cI cJ cZ a tr ++ cKn cI cJ cZ a kn)) (wr := (cF0 cI cJ cZ a s28.2.2 ++ cKn cI cJ cZ a kn)) (st1 := [.int y48]) ⟨hx, hb, hml, hown, hts⟩ (c_Tr_kid l dC dI cI cJ cZ a x1_28 s28.2.1 tr y48 hy) (cwV 2 hts (gd_V tw502 tw427 tw428 tw3 tw429) rfl rfl rfl hd_Tr_kid ⟨Nat.le_of_ble_eq_true rfl, Nat.le_of_ble_eq_true rfl⟩) hNw hK hP hD hS hA (ci := 1) rfl rfl rfl [4, 5, 6, 7, 8, 9, 10, 11, 12, 13, 14] [0, 1, 2, 3, 15, 16, 17] rfl rfl rfl rfl rfl (by decide +kernel) (by decide +kernel) rfl hl.1 rfl (Nat.le_of_ble_eq_true rfl) rfl d_Fl_settleTry_48 ⟨Nat.zero_le _, Nat.zero_le _⟩ (fun H locs hP hD hS => ?_)
        refine lv_istore (lv' := [(5, .int y48), (0, .ref (a 24)), (1, .int x1_28), (2, .int x2_28), (3, .int s28.1), (4, .int s28.2.1)]) hx hb d_Fl_settleTry_51 hl (by decide) rfl (fun ls hl => ?_)
        refine lv_aload_n hx hb d_Fl_settleTry_53 rfl (lv_at hl 1 rfl) ?_
        refine va_get (D := (dC, dI)) (ci := 4) (v := .ref (a 4)) (C := R_Br) (T := F_Br) (N := 9) hx hb hts inb_Br hown hK hP 0 rfl rfl 0 (by decide) (hts _ tw159) (fun _ h9 => h9) rfl d_Fl_settleTry_54 ?_
        refine va_get (D := (dC, dI)) (ci := 1) (v := .ref (a 7)) (C := R_Tr) (T := F_Tr) (N := 14) hx hb hts inb_Tr hown hK hP 4 rfl rfl 6 (by decide) (hts _ tw73) (fun _ h9 => h9) rfl d_Fl_settleTry_57 ?_
        refine lv_iload hx hb d_Fl_settleTry_60 (lv_at hl 0 rfl) ?_
        obtain ⟨hin, h⟩ := o_in h
        refine va_iald hx hb hK hP 7 0 rfl rfl hin d_Fl_settleTry_62 ?_
        refine lv_istore (lv' := [(6, .int ((Tr_mark tr) y48.toNatClampNeg)), (5, .int y48), (0, .ref (a 24)), (1, .int x1_28), (2, .int x2_28), (3, .int s28.1), (4, .int s28.2.1)]) hx hb d_Fl_settleTry_63 hl (by decide) rfl (fun ls hl => ?_)
        refine lv_aload_n hx hb d_Fl_settleTry_65 rfl (lv_at hl 2 rfl) ?_
        refine lv_iload hx hb d_Fl_settleTry_66 (lv_at hl 0 rfl) ?_
        refine lv_aload_n hx hb d_Fl_settleTry_68 rfl (lv_at hl 2 rfl) ?_
        refine va_get (D := (dC, dI)) (ci := 4) (v := .ref (a 27)) (C := R_Br) (T := F_Br) (N := 9) hx hb hts inb_Br hown hK hP 0 rfl rfl 8 (by decide) (hts _ tw173) (fun _ h9 => h9) rfl d_Fl_settleTry_69 ?_
        refine lv_iload_n hx hb d_Fl_settleTry_72 rfl (lv_at hl 4 rfl) ?_
        obtain ⟨hin, h⟩ := o_in h
        refine va_iald hx hb hK hP 3 0 rfl rfl hin d_Fl_settleTry_73 ?_
        refine lv_iload_n hx hb d_Fl_settleTry_74 rfl (lv_at hl 5 rfl) ?_
        obtain ⟨y75, hy, h⟩ := o_bd h
        refine kdU (nn := 18) (rest := []) (w' := (cF0 cI cJ cZ a s28.2.2 ++ cTr cI cJ cZ a tr ++ cKn cI cJ cZ a kn)) (wr := (cTr cI cJ cZ a tr)) (st1 := [.int y75]) ⟨hx, hb, hml, hown, hts⟩ (c_Br_opensCatch l dC dI cI cJ cZ a ((Tr_mark tr) y48.toNatClampNeg) ((Fl_thrown s28.2.2) x2_28.toNatClampNeg) s28.1 s28.2.2 kn y75 hy) (va_cwA 3 hts (gd_U tw512 tw514 tw515 tw516 tw7 tw517) rfl rfl rfl (hNw _ nw513) hdU_opensCatch ⟨Nat.le_of_ble_eq_true rfl, Nat.le_of_ble_eq_true rfl⟩) hNw hK hP hD hS hA (ci := 4) rfl rfl rfl [0, 1, 2, 3, 15, 16, 17] [4, 5, 6, 7, 8, 9, 10, 11, 12, 13, 14] rfl rfl rfl rfl rfl (by decide +kernel) (by decide +kernel) rfl hl.1 rfl (Nat.le_of_ble_eq_true rfl) rfl d_Fl_settleTry_75 ⟨Nat.zero_le _, Nat.zero_le _⟩ (fun H locs hP hD hS => ?_)
        refine lv_if_eq (tgt := 88) hx hb d_Fl_settleTry_78 (by decide) (fun hc => ?_) (fun hc => ?_)
        · have h := o_t hc h
          exact B88 s28.1 s28.2.1 ((Tr_mark tr) y48.toNatClampNeg) s28.2.2 _ _ _ h hP hD hS (lv_sub hl [2, 3, 4, 5, 6, 0] rfl)
        · have h := o_f hc h
          refine lv_aload_n hx hb d_Fl_settleTry_81 rfl (lv_at hl 2 rfl) ?_
          refine lv_iload_n hx hb d_Fl_settleTry_82 rfl (lv_at hl 3 rfl) ?_
          refine lv_iload hx hb d_Fl_settleTry_83 (lv_at hl 1 rfl) ?_
          obtain ⟨y85, hy, h⟩ := o_bd h
          refine kdU (nn := 18) (rest := []) (w' := (cF0 cI cJ cZ a y85 ++ cTr cI cJ cZ a tr ++ cKn cI cJ cZ a kn)) (wr := (cTr cI cJ cZ a tr ++ cKn cI cJ cZ a kn)) (st1 := []) ⟨hx, hb, hml, hown, hts⟩ (c_Fl_comeTo_0 l dC dI cI cJ cZ a x1_28 y48 s28.2.2 y85 hy) (va_cwU 2 hts (gd_U tw503 tw1072 xs3 tw505 tw6 tw506) rfl rfl rfl rfl hdU_comeTo ⟨Nat.le_of_ble_eq_true rfl, Nat.le_of_ble_eq_true rfl⟩) hNw hK hP hD hS hA (ci := 4) rfl rfl rfl [0, 1, 2, 3] [4, 5, 6, 7, 8, 9, 10, 11, 12, 13, 14, 15, 16, 17] rfl rfl rfl rfl rfl (by decide +kernel) (by decide +kernel) rfl hl.1 rfl (Nat.le_of_ble_eq_true rfl) rfl d_Fl_settleTry_85 ⟨Nat.zero_le _, Nat.zero_le _⟩ (fun H locs hP hD hS => ?_)
          exact B88 s28.1 s28.2.1 ((Tr_mark tr) y48.toNatClampNeg) y85 _ _ _ h hP hD hS (lv_sub hl [2, 3, 4, 5, 6, 0] rfl)
  refine lv_aload_n hx hb d_Fl_settleTry_0 rfl (lv_at hl 0 rfl) ?_
  refine va_get (D := (dC, dI)) (ci := 4) (v := .ref (a 4)) (C := R_Br) (T := F_Br) (N := 9) hx hb hts inb_Br hown hK hP 0 rfl rfl 0 (by decide) (hts _ tw159) (fun _ h9 => h9) rfl d_Fl_settleTry_1 ?_
  refine lv_iload_n hx hb d_Fl_settleTry_4 rfl (lv_at hl 1 rfl) ?_
  refine lv_iconst (v := 0) hx hb d_Fl_settleTry_5 (by decide) ?_
  obtain ⟨y6, hy, h⟩ := o_bd h
  refine kdV (nn := 18) (rest := []) (w' := (cF0 cI cJ cZ a fl ++ cTr cI cJ cZ a tr ++ cKn cI cJ cZ a kn)) (wr := (cF0 cI cJ cZ a fl ++ cKn cI cJ cZ a kn)) (st1 := [.int y6]) ⟨hx, hb, hml, hown, hts⟩ (c_Tr_kid l dC dI cI cJ cZ a x1 (0 : Int32) tr y6 hy) (cwV 2 hts (gd_V tw502 tw427 tw428 tw3 tw429) rfl rfl rfl hd_Tr_kid ⟨Nat.le_of_ble_eq_true rfl, Nat.le_of_ble_eq_true rfl⟩) hNw hK hP hD hS hA (ci := 1) rfl rfl rfl [4, 5, 6, 7, 8, 9, 10, 11, 12, 13, 14] [0, 1, 2, 3, 15, 16, 17] rfl rfl rfl rfl rfl (by decide +kernel) (by decide +kernel) rfl hl.1 rfl (Nat.le_of_ble_eq_true rfl) rfl d_Fl_settleTry_6 ⟨Nat.zero_le _, Nat.zero_le _⟩ (fun H locs hP hD hS => ?_)
  refine lv_istore_n (lv' := [(2, .int y6), (0, .ref (a 24)), (1, .int x1)]) hx hb d_Fl_settleTry_9 rfl hl (by decide) rfl (fun ls hl => ?_)
  refine lv_aload_n hx hb d_Fl_settleTry_10 rfl (lv_at hl 1 rfl) ?_
  refine lv_iload_n hx hb d_Fl_settleTry_11 rfl (lv_at hl 2 rfl) ?_
  refine lv_iload_n hx hb d_Fl_settleTry_12 rfl (lv_at hl 0 rfl) ?_
  obtain ⟨y13, hy, h⟩ := o_bd h
  refine kdU (nn := 18) (rest := []) (w' := (cF0 cI cJ cZ a y13 ++ cTr cI cJ cZ a tr ++ cKn cI cJ cZ a kn)) (wr := (cTr cI cJ cZ a tr ++ cKn cI cJ cZ a kn)) (st1 := []) ⟨hx, hb, hml, hown, hts⟩ (c_Fl_comeTo_0 l dC dI cI cJ cZ a x1 y6 fl y13 hy) (va_cwU 2 hts (gd_U tw503 tw1072 xs3 tw505 tw6 tw506) rfl rfl rfl rfl hdU_comeTo ⟨Nat.le_of_ble_eq_true rfl, Nat.le_of_ble_eq_true rfl⟩) hNw hK hP hD hS hA (ci := 4) rfl rfl rfl [0, 1, 2, 3] [4, 5, 6, 7, 8, 9, 10, 11, 12, 13, 14, 15, 16, 17] rfl rfl rfl rfl rfl (by decide +kernel) (by decide +kernel) rfl hl.1 rfl (Nat.le_of_ble_eq_true rfl) rfl d_Fl_settleTry_13 ⟨Nat.zero_le _, Nat.zero_le _⟩ (fun H locs hP hD hS => ?_)
  refine lv_aload_n hx hb d_Fl_settleTry_16 rfl (lv_at hl 1 rfl) ?_
  refine va_get (D := (dC, dI)) (ci := 4) (v := .ref (a 27)) (C := R_Br) (T := F_Br) (N := 9) hx hb hts inb_Br hown hK hP 0 rfl rfl 8 (by decide) (hts _ tw173) (fun _ h9 => h9) rfl d_Fl_settleTry_17 ?_
  refine lv_iload_n hx hb d_Fl_settleTry_20 rfl (lv_at hl 2 rfl) ?_
  refine lv_iconst (v := 0) hx hb d_Fl_settleTry_21 (by decide) ?_
  obtain ⟨hin, h⟩ := o_in h
  refine va_iast hx hb hK hP hD hS 3 0 rfl rfl hin d_Fl_settleTry_22 (fun H locs hP hD hS => ?_)
  have hP : va_P (dC, dI) classes (cF0 cI cJ cZ a ((Fl_open y13), (Fl_met y13), (Fl_normal y13), (Fl_returning y13), (Fl_breaks y13), (Fl_continues y13), (upd (Fl_thrown y13) x1.toNatClampNeg (0 : Int32))) ++ cTr cI cJ cZ a tr ++ cKn cI cJ cZ a kn) H := hP
  have hD : va_D A (cF0 cI cJ cZ a ((Fl_open y13), (Fl_met y13), (Fl_normal y13), (Fl_returning y13), (Fl_breaks y13), (Fl_continues y13), (upd (Fl_thrown y13) x1.toNatClampNeg (0 : Int32))) ++ cTr cI cJ cZ a tr ++ cKn cI cJ cZ a kn) := hD
  refine lv_iconst (v := 0) hx hb d_Fl_settleTry_23 (by decide) ?_
  refine lv_istore_n (lv' := [(3, .int (0 : Int32)), (2, .int y6), (0, .ref (a 24)), (1, .int x1)]) hx hb d_Fl_settleTry_24 rfl hl (by decide) rfl (fun ls hl => ?_)
  refine lv_iconst (v := 1) hx hb d_Fl_settleTry_25 (by decide) ?_
  refine lv_istore (lv' := [(4, .int (1 : Int32)), (3, .int (0 : Int32)), (2, .int y6), (0, .ref (a 24)), (1, .int x1)]) hx hb d_Fl_settleTry_26 hl (by decide) rfl (fun ls hl => ?_)
  exact L28 x1 y6 N ((0 : Int32), (1 : Int32), ((Fl_open y13), (Fl_met y13), (Fl_normal y13), (Fl_returning y13), (Fl_breaks y13), (Fl_continues y13), (upd (Fl_thrown y13) x1.toNatClampNeg (0 : Int32)))) _ _ _ h hP hD hS (lv_sub hl [3, 4, 2, 1, 0] rfl)
set_option maxHeartbeats 4000000 in
set_option maxRecDepth 100000 in
theorem c_Br_testOfIf (l : Launch) (dC : Nat → ClassId) (dI : Nat → Nat → Nat) (cI cJ cZ : ClassId) (a : Nat → Nat) (x1 : Int32) (fl : FlS) (res : Int32) (h : f_Br_testOfIf x1 = some res) :
    Kt l (dC, dI) classes [(cI, .int), (cJ, .long), (cZ, .boolean)] y_Br_testOfIf (wz y_Br_testOfIf b_Br_testOfIf 2 (some .int)) { frames := 0, cells := 0, slots := 0, locals := 0 } [.ref (a 24), .int x1] (cF0 cI cJ cZ a fl) (some (.int res)) (cF0 cI cJ cZ a fl) := by
  refine Kt_of (cc := b_Br_testOfIf) (maxL := 2) (ret := (some .int)) (by decide) (Nat.le_of_ble_eq_true rfl) ?_
  intro p e s m args below meth c A ls hx hb hr hml hlocks hown hts hNw hK hP hD hA hS hl
  have hl : lv_has ls 2 [(0, .ref (a 24)), (1, .int x1)] := hl
  have hP : va_P (dC, dI) classes (cF0 cI cJ cZ a fl) s.heap := hP
  refine lv_iconst (v := 2) hx hb d_Br_testOfIf_0 (by decide) ?_
  cases h
  exact kr_i hx hb hr hlocks hP hD hS d_Br_testOfIf_1
set_option maxHeartbeats 4000000 in
set_option maxRecDepth 100000 in
theorem c_Fl_opensPart_0 (l : Launch) (dC : Nat → ClassId) (dI : Nat → Nat → Nat) (cI cJ cZ : ClassId) (a : Nat → Nat) (x1 : Int32) (x2 : Int32) (x3 : Int32) (x4 : Int32) (fl : FlS) (tr : TrS) (res : Int32) (h : f_Fl_opensPart false x1 x2 x3 x4 tr = some res) :
    Kt l (dC, dI) classes [(cI, .int), (cJ, .long), (cZ, .boolean)] y_Fl_opensPart (wz y_Fl_opensPart b_Fl_opensPart 5 (some .boolean)) { frames := 1, cells := 0, slots := 0, locals := 21 } [.ref (a 24), .int x1, .int x2, .int x3, .int x4] (cF0 cI cJ cZ a fl ++ cTr cI cJ cZ a tr) (some (.int res)) (cF0 cI cJ cZ a fl ++ cTr cI cJ cZ a tr) := by
  refine Kt_of (cc := b_Fl_opensPart) (maxL := 5) (ret := (some .boolean)) (by decide) (Nat.le_of_ble_eq_true rfl) ?_
  intro p e s m args below meth c A ls hx hb hr hml hlocks hown hts hNw hK hP hD hA hS hl
  have hl : lv_has ls 5 [(0, .ref (a 24)), (1, .int x1), (2, .int x2), (3, .int x3), (4, .int x4)] := hl
  have hP : va_P (dC, dI) classes (cF0 cI cJ cZ a fl ++ cTr cI cJ cZ a tr) s.heap := hP
  have B91 : ∀ (z0_91 : Int32) (z1_91 : Int32) (H : Heap) (locs : List Loc) (ls : Array Slot), f_Fl_opensPart_b91 false z0_91 z1_91 tr = some res → va_P (dC, dI) classes (cF0 cI cJ cZ a fl ++ cTr cI cJ cZ a tr) H → va_D A (cF0 cI cJ cZ a fl ++ cTr cI cJ cZ a tr) → va_S A s.heap H locs → lv_has ls 5 [] → W p l e { frames := 1, cells := 0, slots := 0, locals := 21 } s m args below meth c H locs 0 0 (KZ below args s (dC, dI) classes (some (.int res)) (cF0 cI cJ cZ a fl ++ cTr cI cJ cZ a tr) A) (F0 m 91 ls [.int z0_91, .int z1_91]) := by
    intro z0_91 z1_91 H locs ls h hP hD hS hl
    refine lv_icmp_ne (tgt := 98) hx hb d_Fl_opensPart_91 (by decide) (fun hc => ?_) (fun hc => ?_)
    · have h := o_f hc h
      refine lv_iconst (v := 0) hx hb d_Fl_opensPart_98 (by decide) ?_
      cases h
      exact kr_z hx hb hr (by decide) hlocks hP hD hS d_Fl_opensPart_99
    · have h := o_t hc h
      refine lv_iconst (v := 1) hx hb d_Fl_opensPart_94 (by decide) ?_
      refine lv_goto (tgt := 99) hx hb d_Fl_opensPart_95 (by decide) ?_
      cases h
      exact kr_z hx hb hr (by decide) hlocks hP hD hS d_Fl_opensPart_99
  have B100 : ∀ (x1_100 : Int32) (H : Heap) (locs : List Loc) (ls : Array Slot), f_Fl_opensPart_b100 false x1_100 tr = some res → va_P (dC, dI) classes (cF0 cI cJ cZ a fl ++ cTr cI cJ cZ a tr) H → va_D A (cF0 cI cJ cZ a fl ++ cTr cI cJ cZ a tr) → va_S A s.heap H locs → lv_has ls 5 [(0, .ref (a 24)), (1, .int x1_100)] → W p l e { frames := 1, cells := 0, slots := 0, locals := 21 } s m args below meth c H locs 0 0 (KZ below args s (dC, dI) classes (some (.int res)) (cF0 cI cJ cZ a fl ++ cTr cI cJ cZ a tr) A) (F0 m 100 ls []) := by
    intro x1_100 H locs ls h hP hD hS hl
    refine lv_aload_n hx hb d_Fl_opensPart_100 rfl (lv_at hl 0 rfl) ?_
    refine va_get (D := (dC, dI)) (ci := 4) (v := .ref (a 4)) (C := R_Br) (T := F_Br) (N := 9) hx hb hts inb_Br hown hK hP 0 rfl rfl 0 (by decide) (hts _ tw159) (fun _ h9 => h9) rfl d_Fl_opensPart_101 ?_
    refine lv_iload_n hx hb d_Fl_opensPart_104 rfl (lv_at hl 1 rfl) ?_
    obtain ⟨y105, hy, h⟩ := o_bd h
    refine kdV (nn := 15) (rest := []) (w' := (cF0 cI cJ cZ a fl ++ cTr cI cJ cZ a tr)) (wr := (cF0 cI cJ cZ a fl)) (st1 := [.int y105]) ⟨hx, hb, hml, hown, hts⟩ (c_Tr_testOf l dC dI cI cJ cZ a x1_100 tr y105 hy) (cwV 1 hts (gd_V tw568 tw569 tw570 tw3 tw571) rfl rfl rfl hd_Tr_testOf ⟨Nat.le_of_ble_eq_true rfl, Nat.le_of_ble_eq_true rfl⟩) hNw hK hP hD hS hA (ci := 1) rfl rfl rfl [4, 5, 6, 7, 8, 9, 10, 11, 12, 13, 14] [0, 1, 2, 3] rfl rfl rfl rfl rfl (by decide +kernel) (by decide +kernel) rfl hl.1 rfl (Nat.le_of_ble_eq_true rfl) rfl d_Fl_opensPart_105 ⟨Nat.zero_le _, Nat.zero_le _⟩ (fun H locs hP hD hS => ?_)
    refine lv_if_eq (tgt := 115) hx hb d_Fl_opensPart_108 (by decide) (fun hc => ?_) (fun hc => ?_)
    · have h := o_t hc h
      refine lv_iconst (v := 0) hx hb d_Fl_opensPart_115 (by decide) ?_
      cases h
      exact kr_z hx hb hr (by decide) hlocks hP hD hS d_Fl_opensPart_116
    · have h := o_f hc h
      refine lv_iconst (v := 1) hx hb d_Fl_opensPart_111 (by decide) ?_
      refine lv_goto (tgt := 116) hx hb d_Fl_opensPart_112 (by decide) ?_
      cases h
      exact kr_z hx hb hr (by decide) hlocks hP hD hS d_Fl_opensPart_116
  refine lv_aload_n hx hb d_Fl_opensPart_0 rfl (lv_at hl 0 rfl) ?_
  refine va_get (D := (dC, dI)) (ci := 4) (v := .ref (a 4)) (C := R_Br) (T := F_Br) (N := 9) hx hb hts inb_Br hown hK hP 0 rfl rfl 0 (by decide) (hts _ tw159) (fun _ h9 => h9) rfl d_Fl_opensPart_1 ?_
  refine va_get (D := (dC, dI)) (ci := 1) (v := .ref (a 5)) (C := R_Tr) (T := F_Tr) (N := 14) hx hb hts inb_Tr hown hK hP 4 rfl rfl 4 (by decide) (hts _ tw65) (fun _ h9 => h9) rfl d_Fl_opensPart_4 ?_
  refine lv_iload_n hx hb d_Fl_opensPart_7 rfl (lv_at hl 1 rfl) ?_
  obtain ⟨hin, h⟩ := o_in h
  refine va_iald hx hb hK hP 5 0 rfl rfl hin d_Fl_opensPart_8 ?_
  refine sw_by (x := ((Tr_sort tr) x1.toNatClampNeg)) (k := 4) (fun hc => ?_) (fun hn0 => ?_)
  · have h := o_t hc h
    refine sw_in (x := ((Tr_sort tr) x1.toNatClampNeg)) (k := 4) hc (lv_tableIn (tgt := 68) hx hb d_Fl_opensPart_9 (by decide) (by decide) (by rfl) (by decide) ?_)
    refine lv_aload_n hx hb d_Fl_opensPart_68 rfl (lv_at hl 0 rfl) ?_
    refine lv_iload_n hx hb d_Fl_opensPart_69 rfl (lv_at hl 1 rfl) ?_
    obtain ⟨y70, hy, h⟩ := o_bd h
    refine kdU (nn := 15) (rest := []) (w' := (cF0 cI cJ cZ a fl ++ cTr cI cJ cZ a tr)) (wr := (cTr cI cJ cZ a tr)) (st1 := [.int y70]) ⟨hx, hb, hml, hown, hts⟩ (c_Br_testOfIf l dC dI cI cJ cZ a x1 fl y70 hy) (va_cwA 1 hts (gd_U tw559 tw561 tw562 tw563 tw7 tw564) rfl rfl rfl (hNw _ nw560) hdU_testOfIf ⟨Nat.le_of_ble_eq_true rfl, Nat.le_of_ble_eq_true rfl⟩) hNw hK hP hD hS hA (ci := 4) rfl rfl rfl [0, 1, 2, 3] [4, 5, 6, 7, 8, 9, 10, 11, 12, 13, 14] rfl rfl rfl rfl rfl (by decide +kernel) (by decide +kernel) rfl hl.1 rfl (Nat.le_of_ble_eq_true rfl) rfl d_Fl_opensPart_70 ⟨Nat.zero_le _, Nat.zero_le _⟩ (fun H locs hP hD hS => ?_)
    refine lv_iconst (v := 2) hx hb d_Fl_opensPart_73 (by decide) ?_
    refine lv_icmp_eq (tgt := 94) hx hb d_Fl_opensPart_74 (by decide) (fun hc => ?_) (fun hc => ?_)
    · have h := o_t hc h
      refine lv_iconst (v := 1) hx hb d_Fl_opensPart_94 (by decide) ?_
      refine lv_goto (tgt := 99) hx hb d_Fl_opensPart_95 (by decide) ?_
      cases h
      exact kr_z hx hb hr (by decide) hlocks hP hD hS d_Fl_opensPart_99
    · have h := o_f hc h
      refine lv_aload_n hx hb d_Fl_opensPart_77 rfl (lv_at hl 0 rfl) ?_
      refine lv_iload_n hx hb d_Fl_opensPart_78 rfl (lv_at hl 1 rfl) ?_
      obtain ⟨y79, hy, h⟩ := o_bd h
      refine kdU (nn := 15) (rest := []) (w' := (cF0 cI cJ cZ a fl ++ cTr cI cJ cZ a tr)) (wr := (cTr cI cJ cZ a tr)) (st1 := [.int y79]) ⟨hx, hb, hml, hown, hts⟩ (c_Br_testOfIf l dC dI cI cJ cZ a x1 fl y79 hy) (va_cwA 1 hts (gd_U tw559 tw561 tw562 tw563 tw7 tw564) rfl rfl rfl (hNw _ nw560) hdU_testOfIf ⟨Nat.le_of_ble_eq_true rfl, Nat.le_of_ble_eq_true rfl⟩) hNw hK hP hD hS hA (ci := 4) rfl rfl rfl [0, 1, 2, 3] [4, 5, 6, 7, 8, 9, 10, 11, 12, 13, 14] rfl rfl rfl rfl rfl (by decide +kernel) (by decide +kernel) rfl hl.1 rfl (Nat.le_of_ble_eq_true rfl) rfl d_Fl_opensPart_79 ⟨Nat.zero_le _, Nat.zero_le _⟩ (fun H locs hP hD hS => ?_)
      refine lv_iload_n hx hb d_Fl_opensPart_82 rfl (lv_at hl 3 rfl) ?_
      refine lv_if_ne (tgt := 90) hx hb d_Fl_opensPart_83 (by decide) (fun hc => ?_) (fun hc => ?_)
      · have h := o_f hc h
        refine lv_iconst (v := 0) hx hb d_Fl_opensPart_90 (by decide) ?_
        exact B91 (0 : Int32) y79 _ _ _ h hP hD hS (lv_sub hl [] rfl)
      · have h := o_t hc h
        refine lv_iconst (v := 1) hx hb d_Fl_opensPart_86 (by decide) ?_
        refine lv_goto (tgt := 91) hx hb d_Fl_opensPart_87 (by decide) ?_
        exact B91 (1 : Int32) y79 _ _ _ h hP hD hS (lv_sub hl [] rfl)
  · have h := o_f hn0 h
    refine sw_by (x := ((Tr_sort tr) x1.toNatClampNeg)) (k := 5) (fun hc => ?_) (fun hn1 => ?_)
    · have h := o_t hc h
      refine sw_in (x := ((Tr_sort tr) x1.toNatClampNeg)) (k := 5) hc (lv_tableIn (tgt := 100) hx hb d_Fl_opensPart_9 (by decide) (by decide) (by rfl) (by decide) ?_)
      exact B100 x1 _ _ _ h hP hD hS (lv_sub hl [0, 1] rfl)
    · have h := o_f hn1 h
      refine sw_by (x := ((Tr_sort tr) x1.toNatClampNeg)) (k := 6) (fun hc => ?_) (fun hn2 => ?_)
      · have h := o_t hc h
        refine sw_in (x := ((Tr_sort tr) x1.toNatClampNeg)) (k := 6) hc (lv_tableIn (tgt := 143) hx hb d_Fl_opensPart_9 (by decide) (by decide) (by rfl) (by decide) ?_)
        refine lv_iconst (v := 1) hx hb d_Fl_opensPart_143 (by decide) ?_
        cases h
        exact kr_z hx hb hr (by decide) hlocks hP hD hS d_Fl_opensPart_144
      · have h := o_f hn2 h
        refine sw_by (x := ((Tr_sort tr) x1.toNatClampNeg)) (k := 7) (fun hc => ?_) (fun hn3 => ?_)
        · have h := o_t hc h
          refine sw_in (x := ((Tr_sort tr) x1.toNatClampNeg)) (k := 7) hc (lv_tableIn (tgt := 100) hx hb d_Fl_opensPart_9 (by decide) (by decide) (by rfl) (by decide) ?_)
          exact B100 x1 _ _ _ h hP hD hS (lv_sub hl [0, 1] rfl)
        · have h := o_f hn3 h
          refine sw_by (x := ((Tr_sort tr) x1.toNatClampNeg)) (k := 8) (fun hc => ?_) (fun hn4 => ?_)
          · have h := o_t hc h
            refine sw_in (x := ((Tr_sort tr) x1.toNatClampNeg)) (k := 8) hc (lv_tableIn (tgt := 143) hx hb d_Fl_opensPart_9 (by decide) (by decide) (by rfl) (by decide) ?_)
            refine lv_iconst (v := 1) hx hb d_Fl_opensPart_143 (by decide) ?_
            cases h
            exact kr_z hx hb hr (by decide) hlocks hP hD hS d_Fl_opensPart_144
          · have h := o_f hn4 h
            refine sw_by (x := ((Tr_sort tr) x1.toNatClampNeg)) (k := 9) (fun hc => ?_) (fun hn5 => ?_)
            · have h := o_t hc h
              refine sw_in (x := ((Tr_sort tr) x1.toNatClampNeg)) (k := 9) hc (lv_tableIn (tgt := 143) hx hb d_Fl_opensPart_9 (by decide) (by decide) (by rfl) (by decide) ?_)
              refine lv_iconst (v := 1) hx hb d_Fl_opensPart_143 (by decide) ?_
              cases h
              exact kr_z hx hb hr (by decide) hlocks hP hD hS d_Fl_opensPart_144
            · have h := o_f hn5 h
              refine sw_by (x := ((Tr_sort tr) x1.toNatClampNeg)) (k := 10) (fun hc => ?_) (fun hn6 => ?_)
              · have h := o_t hc h
                refine sw_in (x := ((Tr_sort tr) x1.toNatClampNeg)) (k := 10) hc (lv_tableIn (tgt := 143) hx hb d_Fl_opensPart_9 (by decide) (by decide) (by rfl) (by decide) ?_)
                refine lv_iconst (v := 1) hx hb d_Fl_opensPart_143 (by decide) ?_
                cases h
                exact kr_z hx hb hr (by decide) hlocks hP hD hS d_Fl_opensPart_144
              · have h := o_f hn6 h
                refine sw_by (x := ((Tr_sort tr) x1.toNatClampNeg)) (k := 11) (fun hc => ?_) (fun hn7 => ?_)
                · have h := o_t hc h
                  refine sw_in (x := ((Tr_sort tr) x1.toNatClampNeg)) (k := 11) hc (lv_tableIn (tgt := 143) hx hb d_Fl_opensPart_9 (by decide) (by decide) (by rfl) (by decide) ?_)
                  refine lv_iconst (v := 1) hx hb d_Fl_opensPart_143 (by decide) ?_
                  cases h
                  exact kr_z hx hb hr (by decide) hlocks hP hD hS d_Fl_opensPart_144
                · have h := o_f hn7 h
                  refine sw_by (x := ((Tr_sort tr) x1.toNatClampNeg)) (k := 12) (fun hc => ?_) (fun hn8 => ?_)
                  · have h := o_t hc h
                    refine sw_in (x := ((Tr_sort tr) x1.toNatClampNeg)) (k := 12) hc (lv_tableIn (tgt := 143) hx hb d_Fl_opensPart_9 (by decide) (by decide) (by rfl) (by decide) ?_)
                    refine lv_iconst (v := 1) hx hb d_Fl_opensPart_143 (by decide) ?_
                    cases h
                    exact kr_z hx hb hr (by decide) hlocks hP hD hS d_Fl_opensPart_144
                  · have h := o_f hn8 h
                    refine sw_by (x := ((Tr_sort tr) x1.toNatClampNeg)) (k := 13) (fun hc => ?_) (fun hn9 => ?_)
                    · have h := o_t hc h
                      refine sw_in (x := ((Tr_sort tr) x1.toNatClampNeg)) (k := 13) hc (lv_tableIn (tgt := 117) hx hb d_Fl_opensPart_9 (by decide) (by decide) (by rfl) (by decide) ?_)
                      refine lv_iload hx hb d_Fl_opensPart_117 (lv_at hl 4 rfl) ?_
                      obtain ⟨hbo, h⟩ := o_bo h
                      cases h
                      exact kr_z hx hb hr hbo hlocks hP hD hS d_Fl_opensPart_119
                    · have h := o_f hn9 h
                      refine sw_by (x := ((Tr_sort tr) x1.toNatClampNeg)) (k := 14) (fun hc => ?_) (fun hn10 => ?_)
                      · have h := o_t hc h
                        refine sw_in (x := ((Tr_sort tr) x1.toNatClampNeg)) (k := 14) hc (lv_tableIn (tgt := 120) hx hb d_Fl_opensPart_9 (by decide) (by decide) (by rfl) (by decide) ?_)
                        refine lv_iload hx hb d_Fl_opensPart_120 (lv_at hl 4 rfl) ?_
                        refine lv_if_ne (tgt := 137) hx hb d_Fl_opensPart_122 (by decide) (fun hc => ?_) (fun hc => ?_)
                        · have h := o_f hc h
                          refine lv_iconst (v := 1) hx hb d_Fl_opensPart_137 (by decide) ?_
                          refine lv_goto (tgt := 142) hx hb d_Fl_opensPart_138 (by decide) ?_
                          cases h
                          exact kr_z hx hb hr (by decide) hlocks hP hD hS d_Fl_opensPart_142
                        · have h := o_t hc h
                          refine lv_aload_n hx hb d_Fl_opensPart_125 rfl (lv_at hl 0 rfl) ?_
                          refine va_get (D := (dC, dI)) (ci := 4) (v := .ref (a 4)) (C := R_Br) (T := F_Br) (N := 9) hx hb hts inb_Br hown hK hP 0 rfl rfl 0 (by decide) (hts _ tw159) (fun _ h9 => h9) rfl d_Fl_opensPart_126 ?_
                          refine va_get (D := (dC, dI)) (ci := 1) (v := .ref (a 7)) (C := R_Tr) (T := F_Tr) (N := 14) hx hb hts inb_Tr hown hK hP 4 rfl rfl 6 (by decide) (hts _ tw73) (fun _ h9 => h9) rfl d_Fl_opensPart_129 ?_
                          refine lv_iload_n hx hb d_Fl_opensPart_132 rfl (lv_at hl 2 rfl) ?_
                          obtain ⟨hin, h⟩ := o_in h
                          refine va_iald hx hb hK hP 7 0 rfl rfl hin d_Fl_opensPart_133 ?_
                          refine lv_if_eq (tgt := 141) hx hb d_Fl_opensPart_134 (by decide) (fun hc => ?_) (fun hc => ?_)
                          · have h := o_t hc h
                            refine lv_iconst (v := 0) hx hb d_Fl_opensPart_141 (by decide) ?_
                            cases h
                            exact kr_z hx hb hr (by decide) hlocks hP hD hS d_Fl_opensPart_142
                          · have h := o_f hc h
                            refine lv_iconst (v := 1) hx hb d_Fl_opensPart_137 (by decide) ?_
                            refine lv_goto (tgt := 142) hx hb d_Fl_opensPart_138 (by decide) ?_
                            cases h
                            exact kr_z hx hb hr (by decide) hlocks hP hD hS d_Fl_opensPart_142
                      · have h := o_f hn10 h
                        refine lv_tableOut (tgt := 143) hx hb d_Fl_opensPart_9 (by have g0 := sw_ne hn0 (show (4 : Int32).toInt = 4 by decide); have g1 := sw_ne hn1 (show (5 : Int32).toInt = 5 by decide); have g2 := sw_ne hn2 (show (6 : Int32).toInt = 6 by decide); have g3 := sw_ne hn3 (show (7 : Int32).toInt = 7 by decide); have g4 := sw_ne hn4 (show (8 : Int32).toInt = 8 by decide); have g5 := sw_ne hn5 (show (9 : Int32).toInt = 9 by decide); have g6 := sw_ne hn6 (show (10 : Int32).toInt = 10 by decide); have g7 := sw_ne hn7 (show (11 : Int32).toInt = 11 by decide); have g8 := sw_ne hn8 (show (12 : Int32).toInt = 12 by decide); have g9 := sw_ne hn9 (show (13 : Int32).toInt = 13 by decide); have g10 := sw_ne hn10 (show (14 : Int32).toInt = 14 by decide); omega) (by decide) ?_
                        refine lv_iconst (v := 1) hx hb d_Fl_opensPart_143 (by decide) ?_
                        cases h
                        exact kr_z hx hb hr (by decide) hlocks hP hD hS d_Fl_opensPart_144
set_option maxHeartbeats 4000000 in
set_option maxRecDepth 100000 in
theorem c_Fl_goesPast_0 (l : Launch) (dC : Nat → ClassId) (dI : Nat → Nat → Nat) (cI cJ cZ : ClassId) (a : Nat → Nat) (x1 : Int32) (x2 : Int32) (fl : FlS) (tr : TrS) (res : Int32) (h : f_Fl_goesPast false x1 x2 fl tr = some res) :
    Kt l (dC, dI) classes [(cI, .int), (cJ, .long), (cZ, .boolean)] y_Fl_goesPast (wz y_Fl_goesPast b_Fl_goesPast 3 (some .boolean)) { frames := 2, cells := 0, slots := 0, locals := 43 } [.ref (a 24), .int x1, .int x2] (cF0 cI cJ cZ a fl ++ cTr cI cJ cZ a tr) (some (.int res)) (cF0 cI cJ cZ a fl ++ cTr cI cJ cZ a tr) := by
  refine Kt_of (cc := b_Fl_goesPast) (maxL := 3) (ret := (some .boolean)) (by decide) (Nat.le_of_ble_eq_true rfl) ?_
  intro p e s m args below meth c A ls hx hb hr hml hlocks hown hts hNw hK hP hD hA hS hl
  have hl : lv_has ls 3 [(0, .ref (a 24)), (1, .int x1), (2, .int x2)] := hl
  have hP : va_P (dC, dI) classes (cF0 cI cJ cZ a fl ++ cTr cI cJ cZ a tr) s.heap := hP
  have B94 : ∀ (x1_94 : Int32) (H : Heap) (locs : List Loc) (ls : Array Slot), f_Fl_goesPast_b94 false x1_94 fl tr = some res → va_P (dC, dI) classes (cF0 cI cJ cZ a fl ++ cTr cI cJ cZ a tr) H → va_D A (cF0 cI cJ cZ a fl ++ cTr cI cJ cZ a tr) → va_S A s.heap H locs → lv_has ls 3 [(0, .ref (a 24)), (1, .int x1_94)] → W p l e { frames := 2, cells := 0, slots := 0, locals := 43 } s m args below meth c H locs 0 0 (KZ below args s (dC, dI) classes (some (.int res)) (cF0 cI cJ cZ a fl ++ cTr cI cJ cZ a tr) A) (F0 m 94 ls []) := by
    intro x1_94 H locs ls h hP hD hS hl
    refine lv_aload_n hx hb d_Fl_goesPast_94 rfl (lv_at hl 0 rfl) ?_
    refine lv_iload_n hx hb d_Fl_goesPast_95 rfl (lv_at hl 1 rfl) ?_
    obtain ⟨y96, hy, h⟩ := o_bd h
    refine kdU (nn := 15) (rest := []) (w' := (cF0 cI cJ cZ a fl ++ cTr cI cJ cZ a tr)) (wr := ([] : va_W)) (st1 := [.int y96]) ⟨hx, hb, hml, hown, hts⟩ (c_Fl_somePartGoesOn_0 l dC dI cI cJ cZ a x1_94 fl tr y96 hy) (va_cwU 1 hts (gd_U tw526 tw1073 xs4 tw528 tw6 tw529) rfl rfl rfl rfl hdU_somePartGoesOn ⟨Nat.le_of_ble_eq_true rfl, Nat.le_of_ble_eq_true rfl⟩) hNw hK hP hD hS hA (ci := 4) rfl rfl rfl [0, 1, 2, 3, 4, 5, 6, 7, 8, 9, 10, 11, 12, 13, 14] [] rfl rfl rfl rfl rfl (by decide +kernel) (by decide +kernel) rfl hl.1 rfl (Nat.le_of_ble_eq_true rfl) rfl d_Fl_goesPast_96 ⟨Nat.zero_le _, Nat.zero_le _⟩ (fun H locs hP hD hS => ?_)
    refine lv_if_eq (tgt := 106) hx hb d_Fl_goesPast_99 (by decide) (fun hc => ?_) (fun hc => ?_)
    · have h := o_t hc h
      refine lv_iconst (v := 0) hx hb d_Fl_goesPast_106 (by decide) ?_
      cases h
      exact kr_z hx hb hr (by decide) hlocks hP hD hS d_Fl_goesPast_107
    · have h := o_f hc h
      refine lv_iconst (v := 1) hx hb d_Fl_goesPast_102 (by decide) ?_
      refine lv_goto (tgt := 107) hx hb d_Fl_goesPast_103 (by decide) ?_
      cases h
      exact kr_z hx hb hr (by decide) hlocks hP hD hS d_Fl_goesPast_107
  have B108 : ∀ (x1_108 : Int32) (H : Heap) (locs : List Loc) (ls : Array Slot), f_Fl_goesPast_b108 false x1_108 fl tr = some res → va_P (dC, dI) classes (cF0 cI cJ cZ a fl ++ cTr cI cJ cZ a tr) H → va_D A (cF0 cI cJ cZ a fl ++ cTr cI cJ cZ a tr) → va_S A s.heap H locs → lv_has ls 3 [(0, .ref (a 24)), (1, .int x1_108)] → W p l e { frames := 2, cells := 0, slots := 0, locals := 43 } s m args below meth c H locs 0 0 (KZ below args s (dC, dI) classes (some (.int res)) (cF0 cI cJ cZ a fl ++ cTr cI cJ cZ a tr) A) (F0 m 108 ls []) := by
    intro x1_108 H locs ls h hP hD hS hl
    refine lv_aload_n hx hb d_Fl_goesPast_108 rfl (lv_at hl 0 rfl) ?_
    refine va_get (D := (dC, dI)) (ci := 4) (v := .ref (a 4)) (C := R_Br) (T := F_Br) (N := 9) hx hb hts inb_Br hown hK hP 0 rfl rfl 0 (by decide) (hts _ tw159) (fun _ h9 => h9) rfl d_Fl_goesPast_109 ?_
    refine lv_iload_n hx hb d_Fl_goesPast_112 rfl (lv_at hl 1 rfl) ?_
    obtain ⟨y113, hy, h⟩ := o_bd h
    refine kdV (nn := 15) (rest := []) (w' := (cF0 cI cJ cZ a fl ++ cTr cI cJ cZ a tr)) (wr := (cF0 cI cJ cZ a fl)) (st1 := [.int y113]) ⟨hx, hb, hml, hown, hts⟩ (c_Tr_testOf l dC dI cI cJ cZ a x1_108 tr y113 hy) (cwV 1 hts (gd_V tw568 tw569 tw570 tw3 tw571) rfl rfl rfl hd_Tr_testOf ⟨Nat.le_of_ble_eq_true rfl, Nat.le_of_ble_eq_true rfl⟩) hNw hK hP hD hS hA (ci := 1) rfl rfl rfl [4, 5, 6, 7, 8, 9, 10, 11, 12, 13, 14] [0, 1, 2, 3] rfl rfl rfl rfl rfl (by decide +kernel) (by decide +kernel) rfl hl.1 rfl (Nat.le_of_ble_eq_true rfl) rfl d_Fl_goesPast_113 ⟨Nat.zero_le _, Nat.zero_le _⟩ (fun H locs hP hD hS => ?_)
    refine lv_iconst (v := 1) hx hb d_Fl_goesPast_116 (by decide) ?_
    refine lv_icmp_eq (tgt := 124) hx hb d_Fl_goesPast_117 (by decide) (fun hc => ?_) (fun hc => ?_)
    · have h := o_t hc h
      refine lv_iconst (v := 0) hx hb d_Fl_goesPast_124 (by decide) ?_
      cases h
      exact kr_z hx hb hr (by decide) hlocks hP hD hS d_Fl_goesPast_125
    · have h := o_f hc h
      refine lv_iconst (v := 1) hx hb d_Fl_goesPast_120 (by decide) ?_
      refine lv_goto (tgt := 125) hx hb d_Fl_goesPast_121 (by decide) ?_
      cases h
      exact kr_z hx hb hr (by decide) hlocks hP hD hS d_Fl_goesPast_125
  have B227 : ∀ (x1_227 : Int32) (H : Heap) (locs : List Loc) (ls : Array Slot), f_Fl_goesPast_b227 false x1_227 fl tr = some res → va_P (dC, dI) classes (cF0 cI cJ cZ a fl ++ cTr cI cJ cZ a tr) H → va_D A (cF0 cI cJ cZ a fl ++ cTr cI cJ cZ a tr) → va_S A s.heap H locs → lv_has ls 3 [(0, .ref (a 24)), (1, .int x1_227)] → W p l e { frames := 2, cells := 0, slots := 0, locals := 43 } s m args below meth c H locs 0 0 (KZ below args s (dC, dI) classes (some (.int res)) (cF0 cI cJ cZ a fl ++ cTr cI cJ cZ a tr) A) (F0 m 227 ls []) := by
    intro x1_227 H locs ls h hP hD hS hl
    refine lv_aload_n hx hb d_Fl_goesPast_227 rfl (lv_at hl 0 rfl) ?_
    refine lv_iload_n hx hb d_Fl_goesPast_228 rfl (lv_at hl 1 rfl) ?_
    obtain ⟨y229, hy, h⟩ := o_bd h
    refine kdU (nn := 15) (rest := []) (w' := (cF0 cI cJ cZ a fl ++ cTr cI cJ cZ a tr)) (wr := ([] : va_W)) (st1 := [.int y229]) ⟨hx, hb, hml, hown, hts⟩ (c_Fl_somePartGoesOn_0 l dC dI cI cJ cZ a x1_227 fl tr y229 hy) (va_cwU 1 hts (gd_U tw526 tw1073 xs4 tw528 tw6 tw529) rfl rfl rfl rfl hdU_somePartGoesOn ⟨Nat.le_of_ble_eq_true rfl, Nat.le_of_ble_eq_true rfl⟩) hNw hK hP hD hS hA (ci := 4) rfl rfl rfl [0, 1, 2, 3, 4, 5, 6, 7, 8, 9, 10, 11, 12, 13, 14] [] rfl rfl rfl rfl rfl (by decide +kernel) (by decide +kernel) rfl hl.1 rfl (Nat.le_of_ble_eq_true rfl) rfl d_Fl_goesPast_229 ⟨Nat.zero_le _, Nat.zero_le _⟩ (fun H locs hP hD hS => ?_)
    obtain ⟨hbo, h⟩ := o_bo h
    cases h
    exact kr_z hx hb hr hbo hlocks hP hD hS d_Fl_goesPast_232
  refine lv_aload_n hx hb d_Fl_goesPast_0 rfl (lv_at hl 0 rfl) ?_
  refine va_get (D := (dC, dI)) (ci := 4) (v := .ref (a 4)) (C := R_Br) (T := F_Br) (N := 9) hx hb hts inb_Br hown hK hP 0 rfl rfl 0 (by decide) (hts _ tw159) (fun _ h9 => h9) rfl d_Fl_goesPast_1 ?_
  refine va_get (D := (dC, dI)) (ci := 1) (v := .ref (a 5)) (C := R_Tr) (T := F_Tr) (N := 14) hx hb hts inb_Tr hown hK hP 4 rfl rfl 4 (by decide) (hts _ tw65) (fun _ h9 => h9) rfl d_Fl_goesPast_4 ?_
  refine lv_iload_n hx hb d_Fl_goesPast_7 rfl (lv_at hl 1 rfl) ?_
  obtain ⟨hin, h⟩ := o_in h
  refine va_iald hx hb hK hP 5 0 rfl rfl hin d_Fl_goesPast_8 ?_
  refine sw_by (x := ((Tr_sort tr) x1.toNatClampNeg)) (k := 4) (fun hc => ?_) (fun hn0 => ?_)
  · have h := o_t hc h
    refine sw_in (x := ((Tr_sort tr) x1.toNatClampNeg)) (k := 4) hc (lv_tableIn (tgt := 72) hx hb d_Fl_goesPast_9 (by decide) (by decide) (by rfl) (by decide) ?_)
    refine lv_aload_n hx hb d_Fl_goesPast_72 rfl (lv_at hl 0 rfl) ?_
    refine va_get (D := (dC, dI)) (ci := 4) (v := .ref (a 4)) (C := R_Br) (T := F_Br) (N := 9) hx hb hts inb_Br hown hK hP 0 rfl rfl 0 (by decide) (hts _ tw159) (fun _ h9 => h9) rfl d_Fl_goesPast_73 ?_
    refine va_get (D := (dC, dI)) (ci := 1) (v := .ref (a 9)) (C := R_Tr) (T := F_Tr) (N := 14) hx hb hts inb_Tr hown hK hP 4 rfl rfl 8 (by decide) (hts _ tw82) (fun _ h9 => h9) rfl d_Fl_goesPast_76 ?_
    refine lv_iload_n hx hb d_Fl_goesPast_79 rfl (lv_at hl 1 rfl) ?_
    obtain ⟨hin, h⟩ := o_in h
    refine va_iald hx hb hK hP 9 0 rfl rfl hin d_Fl_goesPast_80 ?_
    refine lv_iconst (v := 1) hx hb d_Fl_goesPast_81 (by decide) ?_
    refine lv_icmp_ne (tgt := 94) hx hb d_Fl_goesPast_82 (by decide) (fun hc => ?_) (fun hc => ?_)
    · have h := o_f hc h
      exact B94 x1 _ _ _ h hP hD hS (lv_sub hl [0, 1] rfl)
    · have h := o_t hc h
      refine lv_aload_n hx hb d_Fl_goesPast_85 rfl (lv_at hl 0 rfl) ?_
      refine lv_iload_n hx hb d_Fl_goesPast_86 rfl (lv_at hl 1 rfl) ?_
      obtain ⟨y87, hy, h⟩ := o_bd h
      refine kdU (nn := 15) (rest := []) (w' := (cF0 cI cJ cZ a fl ++ cTr cI cJ cZ a tr)) (wr := (cTr cI cJ cZ a tr)) (st1 := [.int y87]) ⟨hx, hb, hml, hown, hts⟩ (c_Br_testOfIf l dC dI cI cJ cZ a x1 fl y87 hy) (va_cwA 1 hts (gd_U tw559 tw561 tw562 tw563 tw7 tw564) rfl rfl rfl (hNw _ nw560) hdU_testOfIf ⟨Nat.le_of_ble_eq_true rfl, Nat.le_of_ble_eq_true rfl⟩) hNw hK hP hD hS hA (ci := 4) rfl rfl rfl [0, 1, 2, 3] [4, 5, 6, 7, 8, 9, 10, 11, 12, 13, 14] rfl rfl rfl rfl rfl (by decide +kernel) (by decide +kernel) rfl hl.1 rfl (Nat.le_of_ble_eq_true rfl) rfl d_Fl_goesPast_87 ⟨Nat.zero_le _, Nat.zero_le _⟩ (fun H locs hP hD hS => ?_)
      refine lv_iconst (v := 1) hx hb d_Fl_goesPast_90 (by decide) ?_
      refine lv_icmp_ne (tgt := 102) hx hb d_Fl_goesPast_91 (by decide) (fun hc => ?_) (fun hc => ?_)
      · have h := o_f hc h
        refine lv_iconst (v := 1) hx hb d_Fl_goesPast_102 (by decide) ?_
        refine lv_goto (tgt := 107) hx hb d_Fl_goesPast_103 (by decide) ?_
        cases h
        exact kr_z hx hb hr (by decide) hlocks hP hD hS d_Fl_goesPast_107
      · have h := o_t hc h
        exact B94 x1 _ _ _ h hP hD hS (lv_sub hl [0, 1] rfl)
  · have h := o_f hn0 h
    refine sw_by (x := ((Tr_sort tr) x1.toNatClampNeg)) (k := 5) (fun hc => ?_) (fun hn1 => ?_)
    · have h := o_t hc h
      refine sw_in (x := ((Tr_sort tr) x1.toNatClampNeg)) (k := 5) hc (lv_tableIn (tgt := 108) hx hb d_Fl_goesPast_9 (by decide) (by decide) (by rfl) (by decide) ?_)
      exact B108 x1 _ _ _ h hP hD hS (lv_sub hl [0, 1] rfl)
    · have h := o_f hn1 h
      refine sw_by (x := ((Tr_sort tr) x1.toNatClampNeg)) (k := 6) (fun hc => ?_) (fun hn2 => ?_)
      · have h := o_t hc h
        refine sw_in (x := ((Tr_sort tr) x1.toNatClampNeg)) (k := 6) hc (lv_tableIn (tgt := 126) hx hb d_Fl_goesPast_9 (by decide) (by decide) (by rfl) (by decide) ?_)
        refine lv_aload_n hx hb d_Fl_goesPast_126 rfl (lv_at hl 0 rfl) ?_
        refine va_get (D := (dC, dI)) (ci := 4) (v := .ref (a 4)) (C := R_Br) (T := F_Br) (N := 9) hx hb hts inb_Br hown hK hP 0 rfl rfl 0 (by decide) (hts _ tw159) (fun _ h9 => h9) rfl d_Fl_goesPast_127 ?_
        refine lv_iload_n hx hb d_Fl_goesPast_130 rfl (lv_at hl 1 rfl) ?_
        obtain ⟨y131, hy, h⟩ := o_bd h
        refine kdV (nn := 15) (rest := []) (w' := (cF0 cI cJ cZ a fl ++ cTr cI cJ cZ a tr)) (wr := (cF0 cI cJ cZ a fl)) (st1 := [.int y131]) ⟨hx, hb, hml, hown, hts⟩ (c_Tr_testOf l dC dI cI cJ cZ a x1 tr y131 hy) (cwV 1 hts (gd_V tw568 tw569 tw570 tw3 tw571) rfl rfl rfl hd_Tr_testOf ⟨Nat.le_of_ble_eq_true rfl, Nat.le_of_ble_eq_true rfl⟩) hNw hK hP hD hS hA (ci := 1) rfl rfl rfl [4, 5, 6, 7, 8, 9, 10, 11, 12, 13, 14] [0, 1, 2, 3] rfl rfl rfl rfl rfl (by decide +kernel) (by decide +kernel) rfl hl.1 rfl (Nat.le_of_ble_eq_true rfl) rfl d_Fl_goesPast_131 ⟨Nat.zero_le _, Nat.zero_le _⟩ (fun H locs hP hD hS => ?_)
        refine lv_iconst (v := 1) hx hb d_Fl_goesPast_134 (by decide) ?_
        refine lv_icmp_eq (tgt := 163) hx hb d_Fl_goesPast_135 (by decide) (fun hc => ?_) (fun hc => ?_)
        · have h := o_t hc h
          refine lv_iconst (v := 0) hx hb d_Fl_goesPast_163 (by decide) ?_
          cases h
          exact kr_z hx hb hr (by decide) hlocks hP hD hS d_Fl_goesPast_164
        · have h := o_f hc h
          refine lv_aload_n hx hb d_Fl_goesPast_138 rfl (lv_at hl 0 rfl) ?_
          refine lv_iload_n hx hb d_Fl_goesPast_139 rfl (lv_at hl 1 rfl) ?_
          obtain ⟨y140, hy, h⟩ := o_bd h
          refine kdU (nn := 15) (rest := []) (w' := (cF0 cI cJ cZ a fl ++ cTr cI cJ cZ a tr)) (wr := ([] : va_W)) (st1 := [.int y140]) ⟨hx, hb, hml, hown, hts⟩ (c_Fl_somePartGoesOn_0 l dC dI cI cJ cZ a x1 fl tr y140 hy) (va_cwU 1 hts (gd_U tw526 tw1073 xs4 tw528 tw6 tw529) rfl rfl rfl rfl hdU_somePartGoesOn ⟨Nat.le_of_ble_eq_true rfl, Nat.le_of_ble_eq_true rfl⟩) hNw hK hP hD hS hA (ci := 4) rfl rfl rfl [0, 1, 2, 3, 4, 5, 6, 7, 8, 9, 10, 11, 12, 13, 14] [] rfl rfl rfl rfl rfl (by decide +kernel) (by decide +kernel) rfl hl.1 rfl (Nat.le_of_ble_eq_true rfl) rfl d_Fl_goesPast_140 ⟨Nat.zero_le _, Nat.zero_le _⟩ (fun H locs hP hD hS => ?_)
          refine lv_if_ne (tgt := 159) hx hb d_Fl_goesPast_143 (by decide) (fun hc => ?_) (fun hc => ?_)
          · have h := o_f hc h
            refine lv_iconst (v := 1) hx hb d_Fl_goesPast_159 (by decide) ?_
            refine lv_goto (tgt := 164) hx hb d_Fl_goesPast_160 (by decide) ?_
            cases h
            exact kr_z hx hb hr (by decide) hlocks hP hD hS d_Fl_goesPast_164
          · have h := o_t hc h
            refine lv_aload_n hx hb d_Fl_goesPast_146 rfl (lv_at hl 0 rfl) ?_
            refine va_get (D := (dC, dI)) (ci := 4) (v := .ref (a 26)) (C := R_Br) (T := F_Br) (N := 9) hx hb hts inb_Br hown hK hP 0 rfl rfl 7 (by decide) (hts _ tw172) (fun _ h9 => h9) rfl d_Fl_goesPast_147 ?_
            refine lv_iload_n hx hb d_Fl_goesPast_150 rfl (lv_at hl 1 rfl) ?_
            obtain ⟨hin, h⟩ := o_in h
            refine va_lald hx hb hK hP 2 1 rfl rfl hin d_Fl_goesPast_151 ?_
            refine lv_iload_n hx hb d_Fl_goesPast_152 rfl (lv_at hl 1 rfl) ?_
            obtain ⟨y153, hy, h⟩ := o_bd h
            refine kdSN (nn := 15) (rest := []) (w' := (cF0 cI cJ cZ a fl ++ cTr cI cJ cZ a tr)) (wr := (cF0 cI cJ cZ a fl ++ cTr cI cJ cZ a tr)) (st1 := [.int y153]) ⟨hx, hb, hml, hown, hts⟩ (c_Rf_isIn l dC dI cI cJ cZ a ((Fl_continues fl) x1.toNatClampNeg) x1 y153 hy) ⟨va_cnB 2 hts (gd_0 tw34) rfl rfl rfl (hNw _ nw507) (hts _ tw1) hd_Rf_isIn.2 ⟨Nat.le_of_ble_eq_true rfl, Nat.le_of_ble_eq_true rfl⟩, hts _ tw33, trivial⟩ hNw hK hP hD hS hA [] [0, 1, 2, 3, 4, 5, 6, 7, 8, 9, 10, 11, 12, 13, 14] rfl rfl rfl rfl rfl (by decide +kernel) (by decide +kernel) rfl hl.1 rfl (Nat.le_of_ble_eq_true rfl) rfl d_Fl_goesPast_153 ⟨Nat.zero_le _, Nat.zero_le _⟩ (fun H locs hP hD hS => ?_)
            refine lv_if_eq (tgt := 163) hx hb d_Fl_goesPast_156 (by decide) (fun hc => ?_) (fun hc => ?_)
            · have h := o_t hc h
              refine lv_iconst (v := 0) hx hb d_Fl_goesPast_163 (by decide) ?_
              cases h
              exact kr_z hx hb hr (by decide) hlocks hP hD hS d_Fl_goesPast_164
            · have h := o_f hc h
              refine lv_iconst (v := 1) hx hb d_Fl_goesPast_159 (by decide) ?_
              refine lv_goto (tgt := 164) hx hb d_Fl_goesPast_160 (by decide) ?_
              cases h
              exact kr_z hx hb hr (by decide) hlocks hP hD hS d_Fl_goesPast_164
      · have h := o_f hn2 h
        refine sw_by (x := ((Tr_sort tr) x1.toNatClampNeg)) (k := 7) (fun hc => ?_) (fun hn3 => ?_)
        · have h := o_t hc h
          refine sw_in (x := ((Tr_sort tr) x1.toNatClampNeg)) (k := 7) hc (lv_tableIn (tgt := 108) hx hb d_Fl_goesPast_9 (by decide) (by decide) (by rfl) (by decide) ?_)
          exact B108 x1 _ _ _ h hP hD hS (lv_sub hl [0, 1] rfl)
        · have h := o_f hn3 h
          refine sw_by (x := ((Tr_sort tr) x1.toNatClampNeg)) (k := 8) (fun hc => ?_) (fun hn4 => ?_)
          · have h := o_t hc h
            refine sw_in (x := ((Tr_sort tr) x1.toNatClampNeg)) (k := 8) hc (lv_tableIn (tgt := 165) hx hb d_Fl_goesPast_9 (by decide) (by decide) (by rfl) (by decide) ?_)
            refine lv_iconst (v := 1) hx hb d_Fl_goesPast_165 (by decide) ?_
            cases h
            exact kr_z hx hb hr (by decide) hlocks hP hD hS d_Fl_goesPast_166
          · have h := o_f hn4 h
            refine sw_by (x := ((Tr_sort tr) x1.toNatClampNeg)) (k := 9) (fun hc => ?_) (fun hn5 => ?_)
            · have h := o_t hc h
              refine sw_in (x := ((Tr_sort tr) x1.toNatClampNeg)) (k := 9) hc (lv_tableIn (tgt := 227) hx hb d_Fl_goesPast_9 (by decide) (by decide) (by rfl) (by decide) ?_)
              exact B227 x1 _ _ _ h hP hD hS (lv_sub hl [0, 1] rfl)
            · have h := o_f hn5 h
              refine sw_by (x := ((Tr_sort tr) x1.toNatClampNeg)) (k := 10) (fun hc => ?_) (fun hn6 => ?_)
              · have h := o_t hc h
                refine sw_in (x := ((Tr_sort tr) x1.toNatClampNeg)) (k := 10) hc (lv_tableIn (tgt := 227) hx hb d_Fl_goesPast_9 (by decide) (by decide) (by rfl) (by decide) ?_)
                exact B227 x1 _ _ _ h hP hD hS (lv_sub hl [0, 1] rfl)
              · have h := o_f hn6 h
                refine sw_by (x := ((Tr_sort tr) x1.toNatClampNeg)) (k := 11) (fun hc => ?_) (fun hn7 => ?_)
                · have h := o_t hc h
                  refine sw_in (x := ((Tr_sort tr) x1.toNatClampNeg)) (k := 11) hc (lv_tableIn (tgt := 227) hx hb d_Fl_goesPast_9 (by decide) (by decide) (by rfl) (by decide) ?_)
                  exact B227 x1 _ _ _ h hP hD hS (lv_sub hl [0, 1] rfl)
                · have h := o_f hn7 h
                  refine sw_by (x := ((Tr_sort tr) x1.toNatClampNeg)) (k := 12) (fun hc => ?_) (fun hn8 => ?_)
                  · have h := o_t hc h
                    refine sw_in (x := ((Tr_sort tr) x1.toNatClampNeg)) (k := 12) hc (lv_tableIn (tgt := 227) hx hb d_Fl_goesPast_9 (by decide) (by decide) (by rfl) (by decide) ?_)
                    exact B227 x1 _ _ _ h hP hD hS (lv_sub hl [0, 1] rfl)
                  · have h := o_f hn8 h
                    refine sw_by (x := ((Tr_sort tr) x1.toNatClampNeg)) (k := 13) (fun hc => ?_) (fun hn9 => ?_)
                    · have h := o_t hc h
                      refine sw_in (x := ((Tr_sort tr) x1.toNatClampNeg)) (k := 13) hc (lv_tableIn (tgt := 167) hx hb d_Fl_goesPast_9 (by decide) (by decide) (by rfl) (by decide) ?_)
                      refine lv_iload_n hx hb d_Fl_goesPast_167 rfl (lv_at hl 2 rfl) ?_
                      obtain ⟨hbo, h⟩ := o_bo h
                      cases h
                      exact kr_z hx hb hr hbo hlocks hP hD hS d_Fl_goesPast_168
                    · have h := o_f hn9 h
                      refine sw_by (x := ((Tr_sort tr) x1.toNatClampNeg)) (k := 14) (fun hc => ?_) (fun hn10 => ?_)
                      · have h := o_t hc h
                        refine sw_in (x := ((Tr_sort tr) x1.toNatClampNeg)) (k := 14) hc (lv_tableIn (tgt := 169) hx hb d_Fl_goesPast_9 (by decide) (by decide) (by rfl) (by decide) ?_)
                        refine lv_aload_n hx hb d_Fl_goesPast_169 rfl (lv_at hl 0 rfl) ?_
                        refine va_get (D := (dC, dI)) (ci := 4) (v := .ref (a 4)) (C := R_Br) (T := F_Br) (N := 9) hx hb hts inb_Br hown hK hP 0 rfl rfl 0 (by decide) (hts _ tw159) (fun _ h9 => h9) rfl d_Fl_goesPast_170 ?_
                        refine lv_iload_n hx hb d_Fl_goesPast_173 rfl (lv_at hl 1 rfl) ?_
                        obtain ⟨y174, hy, h⟩ := o_bd h
                        refine kdV (nn := 15) (rest := []) (w' := (cF0 cI cJ cZ a fl ++ cTr cI cJ cZ a tr)) (wr := (cF0 cI cJ cZ a fl)) (st1 := [.int y174]) ⟨hx, hb, hml, hown, hts⟩ (c_Tr_hasDefault l dC dI cI cJ cZ a x1 tr y174 hy) (cwV 1 hts (gd_V tw576 tw577 tw578 tw3 tw579) rfl rfl rfl hd_Tr_hasDefault ⟨Nat.le_of_ble_eq_true rfl, Nat.le_of_ble_eq_true rfl⟩) hNw hK hP hD hS hA (ci := 1) rfl rfl rfl [4, 5, 6, 7, 8, 9, 10, 11, 12, 13, 14] [0, 1, 2, 3] rfl rfl rfl rfl rfl (by decide +kernel) (by decide +kernel) rfl hl.1 rfl (Nat.le_of_ble_eq_true rfl) rfl d_Fl_goesPast_174 ⟨Nat.zero_le _, Nat.zero_le _⟩ (fun H locs hP hD hS => ?_)
                        refine lv_if_eq (tgt := 196) hx hb d_Fl_goesPast_177 (by decide) (fun hc => ?_) (fun hc => ?_)
                        · have h := o_t hc h
                          refine lv_iconst (v := 1) hx hb d_Fl_goesPast_196 (by decide) ?_
                          refine lv_goto (tgt := 201) hx hb d_Fl_goesPast_197 (by decide) ?_
                          cases h
                          exact kr_z hx hb hr (by decide) hlocks hP hD hS d_Fl_goesPast_201
                        · have h := o_f hc h
                          refine lv_aload_n hx hb d_Fl_goesPast_180 rfl (lv_at hl 0 rfl) ?_
                          refine va_get (D := (dC, dI)) (ci := 4) (v := .ref (a 4)) (C := R_Br) (T := F_Br) (N := 9) hx hb hts inb_Br hown hK hP 0 rfl rfl 0 (by decide) (hts _ tw159) (fun _ h9 => h9) rfl d_Fl_goesPast_181 ?_
                          refine va_get (D := (dC, dI)) (ci := 1) (v := .ref (a 10)) (C := R_Tr) (T := F_Tr) (N := 14) hx hb hts inb_Tr hown hK hP 4 rfl rfl 9 (by decide) (hts _ tw85) (fun _ h9 => h9) rfl d_Fl_goesPast_184 ?_
                          refine lv_iload_n hx hb d_Fl_goesPast_187 rfl (lv_at hl 1 rfl) ?_
                          obtain ⟨hin, h⟩ := o_in h
                          refine va_iald hx hb hK hP 10 0 rfl rfl hin d_Fl_goesPast_188 ?_
                          refine lv_if_ne (tgt := 196) hx hb d_Fl_goesPast_189 (by decide) (fun hc => ?_) (fun hc => ?_)
                          · have h := o_f hc h
                            refine lv_iconst (v := 1) hx hb d_Fl_goesPast_196 (by decide) ?_
                            refine lv_goto (tgt := 201) hx hb d_Fl_goesPast_197 (by decide) ?_
                            cases h
                            exact kr_z hx hb hr (by decide) hlocks hP hD hS d_Fl_goesPast_201
                          · have h := o_t hc h
                            refine lv_iload_n hx hb d_Fl_goesPast_192 rfl (lv_at hl 2 rfl) ?_
                            refine lv_if_eq (tgt := 200) hx hb d_Fl_goesPast_193 (by decide) (fun hc => ?_) (fun hc => ?_)
                            · have h := o_t hc h
                              refine lv_iconst (v := 0) hx hb d_Fl_goesPast_200 (by decide) ?_
                              cases h
                              exact kr_z hx hb hr (by decide) hlocks hP hD hS d_Fl_goesPast_201
                            · have h := o_f hc h
                              refine lv_iconst (v := 1) hx hb d_Fl_goesPast_196 (by decide) ?_
                              refine lv_goto (tgt := 201) hx hb d_Fl_goesPast_197 (by decide) ?_
                              cases h
                              exact kr_z hx hb hr (by decide) hlocks hP hD hS d_Fl_goesPast_201
                      · have h := o_f hn10 h
                        refine sw_by (x := ((Tr_sort tr) x1.toNatClampNeg)) (k := 15) (fun hc => ?_) (fun hn11 => ?_)
                        · have h := o_t hc h
                          refine sw_in (x := ((Tr_sort tr) x1.toNatClampNeg)) (k := 15) hc (lv_tableIn (tgt := 202) hx hb d_Fl_goesPast_9 (by decide) (by decide) (by rfl) (by decide) ?_)
                          refine lv_aload_n hx hb d_Fl_goesPast_202 rfl (lv_at hl 0 rfl) ?_
                          refine va_get (D := (dC, dI)) (ci := 4) (v := .ref (a 4)) (C := R_Br) (T := F_Br) (N := 9) hx hb hts inb_Br hown hK hP 0 rfl rfl 0 (by decide) (hts _ tw159) (fun _ h9 => h9) rfl d_Fl_goesPast_203 ?_
                          refine lv_iload_n hx hb d_Fl_goesPast_206 rfl (lv_at hl 1 rfl) ?_
                          obtain ⟨y207, hy, h⟩ := o_bd h
                          refine kdV (nn := 15) (rest := []) (w' := (cF0 cI cJ cZ a fl ++ cTr cI cJ cZ a tr)) (wr := (cF0 cI cJ cZ a fl)) (st1 := [.int y207]) ⟨hx, hb, hml, hown, hts⟩ (c_Tr_hasDefault l dC dI cI cJ cZ a x1 tr y207 hy) (cwV 1 hts (gd_V tw576 tw577 tw578 tw3 tw579) rfl rfl rfl hd_Tr_hasDefault ⟨Nat.le_of_ble_eq_true rfl, Nat.le_of_ble_eq_true rfl⟩) hNw hK hP hD hS hA (ci := 1) rfl rfl rfl [4, 5, 6, 7, 8, 9, 10, 11, 12, 13, 14] [0, 1, 2, 3] rfl rfl rfl rfl rfl (by decide +kernel) (by decide +kernel) rfl hl.1 rfl (Nat.le_of_ble_eq_true rfl) rfl d_Fl_goesPast_207 ⟨Nat.zero_le _, Nat.zero_le _⟩ (fun H locs hP hD hS => ?_)
                          refine lv_if_eq (tgt := 221) hx hb d_Fl_goesPast_210 (by decide) (fun hc => ?_) (fun hc => ?_)
                          · have h := o_t hc h
                            refine lv_iconst (v := 1) hx hb d_Fl_goesPast_221 (by decide) ?_
                            refine lv_goto (tgt := 226) hx hb d_Fl_goesPast_222 (by decide) ?_
                            cases h
                            exact kr_z hx hb hr (by decide) hlocks hP hD hS d_Fl_goesPast_226
                          · have h := o_f hc h
                            refine lv_aload_n hx hb d_Fl_goesPast_213 rfl (lv_at hl 0 rfl) ?_
                            refine lv_iload_n hx hb d_Fl_goesPast_214 rfl (lv_at hl 1 rfl) ?_
                            obtain ⟨y215, hy, h⟩ := o_bd h
                            refine kdU (nn := 15) (rest := []) (w' := (cF0 cI cJ cZ a fl ++ cTr cI cJ cZ a tr)) (wr := ([] : va_W)) (st1 := [.int y215]) ⟨hx, hb, hml, hown, hts⟩ (c_Fl_somePartGoesOn_0 l dC dI cI cJ cZ a x1 fl tr y215 hy) (va_cwU 1 hts (gd_U tw526 tw1073 xs4 tw528 tw6 tw529) rfl rfl rfl rfl hdU_somePartGoesOn ⟨Nat.le_of_ble_eq_true rfl, Nat.le_of_ble_eq_true rfl⟩) hNw hK hP hD hS hA (ci := 4) rfl rfl rfl [0, 1, 2, 3, 4, 5, 6, 7, 8, 9, 10, 11, 12, 13, 14] [] rfl rfl rfl rfl rfl (by decide +kernel) (by decide +kernel) rfl hl.1 rfl (Nat.le_of_ble_eq_true rfl) rfl d_Fl_goesPast_215 ⟨Nat.zero_le _, Nat.zero_le _⟩ (fun H locs hP hD hS => ?_)
                            refine lv_if_eq (tgt := 225) hx hb d_Fl_goesPast_218 (by decide) (fun hc => ?_) (fun hc => ?_)
                            · have h := o_t hc h
                              refine lv_iconst (v := 0) hx hb d_Fl_goesPast_225 (by decide) ?_
                              cases h
                              exact kr_z hx hb hr (by decide) hlocks hP hD hS d_Fl_goesPast_226
                            · have h := o_f hc h
                              refine lv_iconst (v := 1) hx hb d_Fl_goesPast_221 (by decide) ?_
                              refine lv_goto (tgt := 226) hx hb d_Fl_goesPast_222 (by decide) ?_
                              cases h
                              exact kr_z hx hb hr (by decide) hlocks hP hD hS d_Fl_goesPast_226
                        · have h := o_f hn11 h
                          refine lv_tableOut (tgt := 227) hx hb d_Fl_goesPast_9 (by have g0 := sw_ne hn0 (show (4 : Int32).toInt = 4 by decide); have g1 := sw_ne hn1 (show (5 : Int32).toInt = 5 by decide); have g2 := sw_ne hn2 (show (6 : Int32).toInt = 6 by decide); have g3 := sw_ne hn3 (show (7 : Int32).toInt = 7 by decide); have g4 := sw_ne hn4 (show (8 : Int32).toInt = 8 by decide); have g5 := sw_ne hn5 (show (9 : Int32).toInt = 9 by decide); have g6 := sw_ne hn6 (show (10 : Int32).toInt = 10 by decide); have g7 := sw_ne hn7 (show (11 : Int32).toInt = 11 by decide); have g8 := sw_ne hn8 (show (12 : Int32).toInt = 12 by decide); have g9 := sw_ne hn9 (show (13 : Int32).toInt = 13 by decide); have g10 := sw_ne hn10 (show (14 : Int32).toInt = 14 by decide); have g11 := sw_ne hn11 (show (15 : Int32).toInt = 15 by decide); omega) (by decide) ?_
                          exact B227 x1 _ _ _ h hP hD hS (lv_sub hl [0, 1] rfl)
set_option maxHeartbeats 4000000 in
set_option maxRecDepth 100000 in
theorem c_Fl_settleWhole_0 (l : Launch) (dC : Nat → ClassId) (dI : Nat → Nat → Nat) (cI cJ cZ : ClassId) (a : Nat → Nat) (N : Nat) (x1 : Int32) (fl : FlS) (tr : TrS) (res : FlS) (h : f_Fl_settleWhole false N x1 fl tr = some res) :
    Kt l (dC, dI) classes [(cI, .int), (cJ, .long), (cZ, .boolean)] y_Fl_settleWhole (wz y_Fl_settleWhole b_Fl_settleWhole 6 none) { frames := 3, cells := 0, slots := 0, locals := 65 } [.ref (a 24), .int x1] (cF0 cI cJ cZ a fl ++ cTr cI cJ cZ a tr) none (cF0 cI cJ cZ a res ++ cTr cI cJ cZ a tr) := by
  refine Kt_of (cc := b_Fl_settleWhole) (maxL := 6) (ret := none) (by decide) (Nat.le_of_ble_eq_true rfl) ?_
  intro p e s m args below meth c A ls hx hb hr hml hlocks hown hts hNw hK hP hD hA hS hl
  have hl : lv_has ls 6 [(0, .ref (a 24)), (1, .int x1)] := hl
  have hP : va_P (dC, dI) classes (cF0 cI cJ cZ a fl ++ cTr cI cJ cZ a tr) s.heap := hP
  have B111 : ∀ (x1_111 : Int32) (fl_111 : FlS) (H : Heap) (locs : List Loc) (ls : Array Slot), f_Fl_settleWhole_b111 false N x1_111 fl_111 tr = some res → va_P (dC, dI) classes (cF0 cI cJ cZ a fl_111 ++ cTr cI cJ cZ a tr) H → va_D A (cF0 cI cJ cZ a fl_111 ++ cTr cI cJ cZ a tr) → va_S A s.heap H locs → lv_has ls 6 [(0, .ref (a 24)), (1, .int x1_111)] → W p l e { frames := 3, cells := 0, slots := 0, locals := 65 } s m args below meth c H locs 0 0 (KZ below args s (dC, dI) classes none (cF0 cI cJ cZ a res ++ cTr cI cJ cZ a tr) A) (F0 m 111 ls []) := by
    intro x1_111 fl_111 H locs ls h hP hD hS hl
    refine lv_aload_n hx hb d_Fl_settleWhole_111 rfl (lv_at hl 0 rfl) ?_
    refine va_get (D := (dC, dI)) (ci := 4) (v := .ref (a 25)) (C := R_Br) (T := F_Br) (N := 9) hx hb hts inb_Br hown hK hP 0 rfl rfl 6 (by decide) (hts _ tw171) (fun _ h9 => h9) rfl d_Fl_settleWhole_112 ?_
    refine lv_iload_n hx hb d_Fl_settleWhole_115 rfl (lv_at hl 1 rfl) ?_
    refine lv_dup2_11 hx hb d_Fl_settleWhole_116 rfl rfl ?_
    obtain ⟨hin, h⟩ := o_in h
    refine va_lald hx hb hK hP 1 1 rfl rfl hin d_Fl_settleWhole_117 ?_
    refine lv_lconst (v := 1) hx hb d_Fl_settleWhole_118 (by decide) ?_
    refine lv_iload_n hx hb d_Fl_settleWhole_119 rfl (lv_at hl 1 rfl) ?_
    refine lv_lshl hx hb d_Fl_settleWhole_120 rfl ?_
    refine lv_ldc2 hx hb hown (hts _ tw488) d_Fl_settleWhole_121 ?_
    refine lv_lxor hx hb d_Fl_settleWhole_124 ?_
    refine lv_land hx hb d_Fl_settleWhole_125 ?_
    obtain ⟨hin, h⟩ := o_in h
    refine va_last hx hb hK hP hD hS 1 1 rfl rfl hin d_Fl_settleWhole_126 (fun H locs hP hD hS => ?_)
    have hP : va_P (dC, dI) classes (cF0 cI cJ cZ a ((Fl_open fl_111), (Fl_met fl_111), (Fl_normal fl_111), (Fl_returning fl_111), (vp_updL (Fl_breaks fl_111) x1_111.toNatClampNeg (((Fl_breaks fl_111) x1_111.toNatClampNeg) &&& (((1 : Int64) <<< (x1_111.toInt64 &&& 63)) ^^^ (-1 : Int64)))), (Fl_continues fl_111), (Fl_thrown fl_111)) ++ cTr cI cJ cZ a tr) H := hP
    have hD : va_D A (cF0 cI cJ cZ a ((Fl_open fl_111), (Fl_met fl_111), (Fl_normal fl_111), (Fl_returning fl_111), (vp_updL (Fl_breaks fl_111) x1_111.toNatClampNeg (((Fl_breaks fl_111) x1_111.toNatClampNeg) &&& (((1 : Int64) <<< (x1_111.toInt64 &&& 63)) ^^^ (-1 : Int64)))), (Fl_continues fl_111), (Fl_thrown fl_111)) ++ cTr cI cJ cZ a tr) := hD
    refine lv_aload_n hx hb d_Fl_settleWhole_127 rfl (lv_at hl 0 rfl) ?_
    refine va_get (D := (dC, dI)) (ci := 4) (v := .ref (a 26)) (C := R_Br) (T := F_Br) (N := 9) hx hb hts inb_Br hown hK hP 0 rfl rfl 7 (by decide) (hts _ tw172) (fun _ h9 => h9) rfl d_Fl_settleWhole_128 ?_
    refine lv_iload_n hx hb d_Fl_settleWhole_131 rfl (lv_at hl 1 rfl) ?_
    refine lv_dup2_11 hx hb d_Fl_settleWhole_132 rfl rfl ?_
    obtain ⟨hin, h⟩ := o_in h
    refine va_lald hx hb hK hP 2 1 rfl rfl hin d_Fl_settleWhole_133 ?_
    refine lv_lconst (v := 1) hx hb d_Fl_settleWhole_134 (by decide) ?_
    refine lv_iload_n hx hb d_Fl_settleWhole_135 rfl (lv_at hl 1 rfl) ?_
    refine lv_lshl hx hb d_Fl_settleWhole_136 rfl ?_
    refine lv_ldc2 hx hb hown (hts _ tw488) d_Fl_settleWhole_137 ?_
    refine lv_lxor hx hb d_Fl_settleWhole_140 ?_
    refine lv_land hx hb d_Fl_settleWhole_141 ?_
    obtain ⟨hin, h⟩ := o_in h
    refine va_last hx hb hK hP hD hS 2 1 rfl rfl hin d_Fl_settleWhole_142 (fun H locs hP hD hS => ?_)
    have hP : va_P (dC, dI) classes (cF0 cI cJ cZ a ((Fl_open fl_111), (Fl_met fl_111), (Fl_normal fl_111), (Fl_returning fl_111), (vp_updL (Fl_breaks fl_111) x1_111.toNatClampNeg (((Fl_breaks fl_111) x1_111.toNatClampNeg) &&& (((1 : Int64) <<< (x1_111.toInt64 &&& 63)) ^^^ (-1 : Int64)))), (vp_updL (Fl_continues fl_111) x1_111.toNatClampNeg (((Fl_continues fl_111) x1_111.toNatClampNeg) &&& (((1 : Int64) <<< (x1_111.toInt64 &&& 63)) ^^^ (-1 : Int64)))), (Fl_thrown fl_111)) ++ cTr cI cJ cZ a tr) H := hP
    have hD : va_D A (cF0 cI cJ cZ a ((Fl_open fl_111), (Fl_met fl_111), (Fl_normal fl_111), (Fl_returning fl_111), (vp_updL (Fl_breaks fl_111) x1_111.toNatClampNeg (((Fl_breaks fl_111) x1_111.toNatClampNeg) &&& (((1 : Int64) <<< (x1_111.toInt64 &&& 63)) ^^^ (-1 : Int64)))), (vp_updL (Fl_continues fl_111) x1_111.toNatClampNeg (((Fl_continues fl_111) x1_111.toNatClampNeg) &&& (((1 : Int64) <<< (x1_111.toInt64 &&& 63)) ^^^ (-1 : Int64)))), (Fl_thrown fl_111)) ++ cTr cI cJ cZ a tr) := hD
    cases h
    exact kr_v hx hb hr hlocks hP hD hS d_Fl_settleWhole_143
  have B99 : ∀ (x1_99 : Int32) (fl_99 : FlS) (H : Heap) (locs : List Loc) (ls : Array Slot), f_Fl_settleWhole_b99 false N x1_99 fl_99 tr = some res → va_P (dC, dI) classes (cF0 cI cJ cZ a fl_99 ++ cTr cI cJ cZ a tr) H → va_D A (cF0 cI cJ cZ a fl_99 ++ cTr cI cJ cZ a tr) → va_S A s.heap H locs → lv_has ls 6 [(0, .ref (a 24)), (1, .int x1_99)] → W p l e { frames := 3, cells := 0, slots := 0, locals := 65 } s m args below meth c H locs 0 0 (KZ below args s (dC, dI) classes none (cF0 cI cJ cZ a res ++ cTr cI cJ cZ a tr) A) (F0 m 99 ls []) := by
    intro x1_99 fl_99 H locs ls h hP hD hS hl
    refine lv_aload_n hx hb d_Fl_settleWhole_99 rfl (lv_at hl 0 rfl) ?_
    refine lv_dup hx hb d_Fl_settleWhole_100 rfl ?_
    refine va_get (D := (dC, dI)) (ci := 4) (v := .long (Fl_normal fl_99)) (C := R_Br) (T := F_Br) (N := 9) hx hb hts inb_Br hown hK hP 0 rfl rfl 4 (by decide) (hts _ tw169) (fun _ h9 => h9) rfl d_Fl_settleWhole_101 ?_
    refine lv_lconst (v := 1) hx hb d_Fl_settleWhole_104 (by decide) ?_
    refine lv_iload_n hx hb d_Fl_settleWhole_105 rfl (lv_at hl 1 rfl) ?_
    refine lv_lshl hx hb d_Fl_settleWhole_106 rfl ?_
    refine lv_lor hx hb d_Fl_settleWhole_107 ?_
    refine va_put (D := (dC, dI)) (ci := 4) (v := .long ((Fl_normal fl_99) ||| ((1 : Int64) <<< (x1_99.toInt64 &&& 63)))) (ty := .long) (C := R_Br) (T := F_Br) (N := 9) hx hb hts inb_Br ft_Br ft_Br_ok n_Br hown hK hP hD hS 0 rfl rfl 4 (by decide) (hts _ tw169) (fun _ h9 => h9) rfl (by decide +kernel) rfl rfl (Nat.le_of_ble_eq_true rfl) d_Fl_settleWhole_108 (fun H locs hP hD hS => ?_)
    have hP : va_P (dC, dI) classes (cF0 cI cJ cZ a ((Fl_open fl_99), (Fl_met fl_99), ((Fl_normal fl_99) ||| ((1 : Int64) <<< (x1_99.toInt64 &&& 63))), (Fl_returning fl_99), (Fl_breaks fl_99), (Fl_continues fl_99), (Fl_thrown fl_99)) ++ cTr cI cJ cZ a tr) H := hP
    have hD : va_D A (cF0 cI cJ cZ a ((Fl_open fl_99), (Fl_met fl_99), ((Fl_normal fl_99) ||| ((1 : Int64) <<< (x1_99.toInt64 &&& 63))), (Fl_returning fl_99), (Fl_breaks fl_99), (Fl_continues fl_99), (Fl_thrown fl_99)) ++ cTr cI cJ cZ a tr) := hD
    exact B111 x1_99 ((Fl_open fl_99), (Fl_met fl_99), ((Fl_normal fl_99) ||| ((1 : Int64) <<< (x1_99.toInt64 &&& 63))), (Fl_returning fl_99), (Fl_breaks fl_99), (Fl_continues fl_99), (Fl_thrown fl_99)) _ _ _ h hP hD hS (lv_sub hl [0, 1] rfl)
  have L4 : ∀ (x1_4 : Int32) (n4 : Nat) (s4 : Int32 × Int32 × FlS) (H : Heap) (locs : List Loc) (ls : Array Slot), lp (f_Fl_settleWhole_L4 false N x1_4 tr) n4 s4 = some res → va_P (dC, dI) classes (cF0 cI cJ cZ a s4.2.2 ++ cTr cI cJ cZ a tr) H → va_D A (cF0 cI cJ cZ a s4.2.2 ++ cTr cI cJ cZ a tr) → va_S A s.heap H locs → lv_has ls 6 [(0, .ref (a 24)), (1, .int x1_4), (2, .int s4.1), (3, .int s4.2.1)] → W p l e { frames := 3, cells := 0, slots := 0, locals := 65 } s m args below meth c H locs 0 0 (KZ below args s (dC, dI) classes none (cF0 cI cJ cZ a res ++ cTr cI cJ cZ a tr) A) (F0 m 4 ls []) := by
    intro x1_4 n4
    induction n4 with
    | zero => intro _ _ _ _ h; exact (lp_0 h).elim
    | succ n4 ih4 =>
      intro s4 H locs ls h hP hD hS hl
      have h := lp_s h
      have B70 : ∀ (z0_70 : Int32) (x3_70 : Int32) (fl_70 : FlS) (H : Heap) (locs : List Loc) (ls : Array Slot), f_Fl_settleWhole_b70 false N (lp (f_Fl_settleWhole_L4 false N x1_4 tr) n4) z0_70 x1_4 x3_70 fl_70 tr = some res → va_P (dC, dI) classes (cF0 cI cJ cZ a fl_70 ++ cTr cI cJ cZ a tr) H → va_D A (cF0 cI cJ cZ a fl_70 ++ cTr cI cJ cZ a tr) → va_S A s.heap H locs → lv_has ls 6 [(0, .ref (a 24)), (1, .int x1_4), (3, .int x3_70)] → W p l e { frames := 3, cells := 0, slots := 0, locals := 65 } s m args below meth c H locs 0 0 (KZ below args s (dC, dI) classes none (cF0 cI cJ cZ a res ++ cTr cI cJ cZ a tr) A) (F0 m 70 ls [.int z0_70]) := by
        intro z0_70 x3_70 fl_70 H locs ls h hP hD hS hl
        refine lv_istore_n (lv' := [(2, .int z0_70), (0, .ref (a 24)), (1, .int x1_4), (3, .int x3_70)]) hx hb d_Fl_settleWhole_70 rfl hl (by decide) rfl (fun ls hl => ?_)
        refine lv_iinc (v := (x3_70 + 1)) (lv' := [(3, .int (x3_70 + 1)), (2, .int z0_70), (0, .ref (a 24)), (1, .int x1_4)]) hx hb d_Fl_settleWhole_71 hl (k := 3) rfl rfl (by decide) rfl (fun ls hl => ?_)
        refine lv_goto (tgt := 4) hx hb d_Fl_settleWhole_74 (by decide) ?_
        exact ih4 (z0_70, (x3_70 + 1), fl_70) _ _ _ h hP hD hS (lv_sub hl [2, 3, 1, 0] rfl)
      have B69 : ∀ (x3_69 : Int32) (fl_69 : FlS) (H : Heap) (locs : List Loc) (ls : Array Slot), f_Fl_settleWhole_b69 false N (lp (f_Fl_settleWhole_L4 false N x1_4 tr) n4) x1_4 x3_69 fl_69 tr = some res → va_P (dC, dI) classes (cF0 cI cJ cZ a fl_69 ++ cTr cI cJ cZ a tr) H → va_D A (cF0 cI cJ cZ a fl_69 ++ cTr cI cJ cZ a tr) → va_S A s.heap H locs → lv_has ls 6 [(0, .ref (a 24)), (1, .int x1_4), (3, .int x3_69)] → W p l e { frames := 3, cells := 0, slots := 0, locals := 65 } s m args below meth c H locs 0 0 (KZ below args s (dC, dI) classes none (cF0 cI cJ cZ a res ++ cTr cI cJ cZ a tr) A) (F0 m 69 ls []) := by
        intro x3_69 fl_69 H locs ls h hP hD hS hl
        refine lv_iconst (v := 0) hx hb d_Fl_settleWhole_69 (by decide) ?_
        exact B70 (0 : Int32) x3_69 fl_69 _ _ _ h hP hD hS (lv_sub hl [0, 1, 2] rfl)
      have B51 : ∀ (x3_51 : Int32) (x4_51 : Int32) (x5_51 : Int32) (fl_51 : FlS) (H : Heap) (locs : List Loc) (ls : Array Slot), f_Fl_settleWhole_b51 false N (lp (f_Fl_settleWhole_L4 false N x1_4 tr) n4) x1_4 x3_51 x4_51 x5_51 fl_51 tr = some res → va_P (dC, dI) classes (cF0 cI cJ cZ a fl_51 ++ cTr cI cJ cZ a tr) H → va_D A (cF0 cI cJ cZ a fl_51 ++ cTr cI cJ cZ a tr) → va_S A s.heap H locs → lv_has ls 6 [(0, .ref (a 24)), (1, .int x1_4), (3, .int x3_51), (4, .int x4_51), (5, .int x5_51)] → W p l e { frames := 3, cells := 0, slots := 0, locals := 65 } s m args below meth c H locs 0 0 (KZ below args s (dC, dI) classes none (cF0 cI cJ cZ a res ++ cTr cI cJ cZ a tr) A) (F0 m 51 ls []) := by
        intro x3_51 x4_51 x5_51 fl_51 H locs ls h hP hD hS hl
        refine lv_iload hx hb d_Fl_settleWhole_51 (lv_at hl 4 rfl) ?_
        refine lv_if_eq (tgt := 69) hx hb d_Fl_settleWhole_53 (by decide) (fun hc => ?_) (fun hc => ?_)
        · have h := o_t hc h
          exact B69 x3_51 fl_51 _ _ _ h hP hD hS (lv_sub hl [0, 1, 2] rfl)
        · have h := o_f hc h
          refine lv_aload_n hx hb d_Fl_settleWhole_56 rfl (lv_at hl 0 rfl) ?_
          refine lv_iload hx hb d_Fl_settleWhole_57 (lv_at hl 3 rfl) ?_
          obtain ⟨y59, hy, h⟩ := o_bd h
          refine kdU (nn := 15) (rest := []) (w' := (cF0 cI cJ cZ a fl_51 ++ cTr cI cJ cZ a tr)) (wr := (cTr cI cJ cZ a tr)) (st1 := [.int y59]) ⟨hx, hb, hml, hown, hts⟩ (c_Fl_endsNormally_0 l dC dI cI cJ cZ a x4_51 fl_51 y59 hy) (va_cwU 1 hts (gd_U tw545 tw547 tw548 tw546 tw6 tw550) rfl rfl rfl rfl hdU_endsNormally ⟨Nat.le_of_ble_eq_true rfl, Nat.le_of_ble_eq_true rfl⟩) hNw hK hP hD hS hA (ci := 4) rfl rfl rfl [0, 1, 2, 3] [4, 5, 6, 7, 8, 9, 10, 11, 12, 13, 14] rfl rfl rfl rfl rfl (by decide +kernel) (by decide +kernel) rfl hl.1 rfl (Nat.le_of_ble_eq_true rfl) rfl d_Fl_settleWhole_59 ⟨Nat.zero_le _, Nat.zero_le _⟩ (fun H locs hP hD hS => ?_)
          refine lv_if_eq (tgt := 69) hx hb d_Fl_settleWhole_62 (by decide) (fun hc => ?_) (fun hc => ?_)
          · have h := o_t hc h
            exact B69 x3_51 fl_51 _ _ _ h hP hD hS (lv_sub hl [0, 1, 2] rfl)
          · have h := o_f hc h
            refine lv_iconst (v := 1) hx hb d_Fl_settleWhole_65 (by decide) ?_
            refine lv_goto (tgt := 70) hx hb d_Fl_settleWhole_66 (by decide) ?_
            exact B70 (1 : Int32) x3_51 fl_51 _ _ _ h hP hD hS (lv_sub hl [0, 1, 2] rfl)
      refine lv_iload_n hx hb d_Fl_settleWhole_4 rfl (lv_at hl 3 rfl) ?_
      refine lv_aload_n hx hb d_Fl_settleWhole_5 rfl (lv_at hl 0 rfl) ?_
      refine va_get (D := (dC, dI)) (ci := 4) (v := .ref (a 4)) (C := R_Br) (T := F_Br) (N := 9) hx hb hts inb_Br hown hK hP 0 rfl rfl 0 (by decide) (hts _ tw159) (fun _ h9 => h9) rfl d_Fl_settleWhole_6 ?_
      refine va_get (D := (dC, dI)) (ci := 1) (v := .ref (a 9)) (C := R_Tr) (T := F_Tr) (N := 14) hx hb hts inb_Tr hown hK hP 4 rfl rfl 8 (by decide) (hts _ tw82) (fun _ h9 => h9) rfl d_Fl_settleWhole_9 ?_
      refine lv_iload_n hx hb d_Fl_settleWhole_12 rfl (lv_at hl 1 rfl) ?_
      obtain ⟨hin, h⟩ := o_in h
      refine va_iald hx hb hK hP 9 0 rfl rfl hin d_Fl_settleWhole_13 ?_
      refine lv_icmp_ge (tgt := 77) hx hb d_Fl_settleWhole_14 (by decide) (fun hc => ?_) (fun hc => ?_)
      · have h := o_t hc h
        refine lv_aload_n hx hb d_Fl_settleWhole_77 rfl (lv_at hl 0 rfl) ?_
        refine lv_iload_n hx hb d_Fl_settleWhole_78 rfl (lv_at hl 1 rfl) ?_
        refine lv_iload_n hx hb d_Fl_settleWhole_79 rfl (lv_at hl 2 rfl) ?_
        obtain ⟨y80, hy, h⟩ := o_bd h
        refine kdU (nn := 15) (rest := []) (w' := (cF0 cI cJ cZ a s4.2.2 ++ cTr cI cJ cZ a tr)) (wr := ([] : va_W)) (st1 := [.int y80]) ⟨hx, hb, hml, hown, hts⟩ (c_Fl_goesPast_0 l dC dI cI cJ cZ a x1_4 s4.1 s4.2.2 tr y80 hy) (va_cwU 2 hts (gd_U tw572 tw1076 xs7 tw574 tw6 tw575) rfl rfl rfl rfl hdU_goesPast ⟨Nat.le_of_ble_eq_true rfl, Nat.le_of_ble_eq_true rfl⟩) hNw hK hP hD hS hA (ci := 4) rfl rfl rfl [0, 1, 2, 3, 4, 5, 6, 7, 8, 9, 10, 11, 12, 13, 14] [] rfl rfl rfl rfl rfl (by decide +kernel) (by decide +kernel) rfl hl.1 rfl (Nat.le_of_ble_eq_true rfl) rfl d_Fl_settleWhole_80 ⟨Nat.zero_le _, Nat.zero_le _⟩ (fun H locs hP hD hS => ?_)
        refine lv_if_ne (tgt := 99) hx hb d_Fl_settleWhole_83 (by decide) (fun hc => ?_) (fun hc => ?_)
        · have h := o_f hc h
          exact B99 x1_4 s4.2.2 _ _ _ h hP hD hS (lv_sub hl [0, 1] rfl)
        · have h := o_t hc h
          refine lv_aload_n hx hb d_Fl_settleWhole_86 rfl (lv_at hl 0 rfl) ?_
          refine va_get (D := (dC, dI)) (ci := 4) (v := .ref (a 25)) (C := R_Br) (T := F_Br) (N := 9) hx hb hts inb_Br hown hK hP 0 rfl rfl 6 (by decide) (hts _ tw171) (fun _ h9 => h9) rfl d_Fl_settleWhole_87 ?_
          refine lv_iload_n hx hb d_Fl_settleWhole_90 rfl (lv_at hl 1 rfl) ?_
          obtain ⟨hin, h⟩ := o_in h
          refine va_lald hx hb hK hP 1 1 rfl rfl hin d_Fl_settleWhole_91 ?_
          refine lv_iload_n hx hb d_Fl_settleWhole_92 rfl (lv_at hl 1 rfl) ?_
          obtain ⟨y93, hy, h⟩ := o_bd h
          refine kdSN (nn := 15) (rest := []) (w' := (cF0 cI cJ cZ a s4.2.2 ++ cTr cI cJ cZ a tr)) (wr := (cF0 cI cJ cZ a s4.2.2 ++ cTr cI cJ cZ a tr)) (st1 := [.int y93]) ⟨hx, hb, hml, hown, hts⟩ (c_Rf_isIn l dC dI cI cJ cZ a ((Fl_breaks s4.2.2) x1_4.toNatClampNeg) x1_4 y93 hy) ⟨va_cnB 2 hts (gd_0 tw34) rfl rfl rfl (hNw _ nw507) (hts _ tw1) hd_Rf_isIn.2 ⟨Nat.le_of_ble_eq_true rfl, Nat.le_of_ble_eq_true rfl⟩, hts _ tw33, trivial⟩ hNw hK hP hD hS hA [] [0, 1, 2, 3, 4, 5, 6, 7, 8, 9, 10, 11, 12, 13, 14] rfl rfl rfl rfl rfl (by decide +kernel) (by decide +kernel) rfl hl.1 rfl (Nat.le_of_ble_eq_true rfl) rfl d_Fl_settleWhole_93 ⟨Nat.zero_le _, Nat.zero_le _⟩ (fun H locs hP hD hS => ?_)
          refine lv_if_eq (tgt := 111) hx hb d_Fl_settleWhole_96 (by decide) (fun hc => ?_) (fun hc => ?_)
          · have h := o_t hc h
            exact B111 x1_4 s4.2.2 _ _ _ h hP hD hS (lv_sub hl [0, 1] rfl)
          · have h := o_f hc h
            exact B99 x1_4 s4.2.2 _ _ _ h hP hD hS (lv_sub hl [0, 1] rfl)
      · have h := o_f hc h
        refine lv_aload_n hx hb d_Fl_settleWhole_17 rfl (lv_at hl 0 rfl) ?_
        refine va_get (D := (dC, dI)) (ci := 4) (v := .ref (a 4)) (C := R_Br) (T := F_Br) (N := 9) hx hb hts inb_Br hown hK hP 0 rfl rfl 0 (by decide) (hts _ tw159) (fun _ h9 => h9) rfl d_Fl_settleWhole_18 ?_
        refine lv_iload_n hx hb d_Fl_settleWhole_21 rfl (lv_at hl 1 rfl) ?_
        refine lv_iload_n hx hb d_Fl_settleWhole_22 rfl (lv_at hl 3 rfl) ?_
        obtain ⟨y23, hy, h⟩ := o_bd h
        refine kdV (nn := 15) (rest := []) (w' := (cF0 cI cJ cZ a s4.2.2 ++ cTr cI cJ cZ a tr)) (wr := (cF0 cI cJ cZ a s4.2.2)) (st1 := [.int y23]) ⟨hx, hb, hml, hown, hts⟩ (c_Tr_kid l dC dI cI cJ cZ a x1_4 s4.2.1 tr y23 hy) (cwV 2 hts (gd_V tw502 tw427 tw428 tw3 tw429) rfl rfl rfl hd_Tr_kid ⟨Nat.le_of_ble_eq_true rfl, Nat.le_of_ble_eq_true rfl⟩) hNw hK hP hD hS hA (ci := 1) rfl rfl rfl [4, 5, 6, 7, 8, 9, 10, 11, 12, 13, 14] [0, 1, 2, 3] rfl rfl rfl rfl rfl (by decide +kernel) (by decide +kernel) rfl hl.1 rfl (Nat.le_of_ble_eq_true rfl) rfl d_Fl_settleWhole_23 ⟨Nat.zero_le _, Nat.zero_le _⟩ (fun H locs hP hD hS => ?_)
        refine lv_istore (lv' := [(4, .int y23), (0, .ref (a 24)), (1, .int x1_4), (2, .int s4.1), (3, .int s4.2.1)]) hx hb d_Fl_settleWhole_26 hl (by decide) rfl (fun ls hl => ?_)
        refine lv_aload_n hx hb d_Fl_settleWhole_28 rfl (lv_at hl 1 rfl) ?_
        refine lv_iload_n hx hb d_Fl_settleWhole_29 rfl (lv_at hl 2 rfl) ?_
        refine lv_iload hx hb d_Fl_settleWhole_30 (lv_at hl 0 rfl) ?_
        refine lv_iload_n hx hb d_Fl_settleWhole_32 rfl (lv_at hl 4 rfl) ?_
        refine lv_iload_n hx hb d_Fl_settleWhole_33 rfl (lv_at hl 3 rfl) ?_
        obtain ⟨y34, hy, h⟩ := o_bd h
        refine kdU (nn := 15) (rest := []) (w' := (cF0 cI cJ cZ a s4.2.2 ++ cTr cI cJ cZ a tr)) (wr := ([] : va_W)) (st1 := [.int y34]) ⟨hx, hb, hml, hown, hts⟩ (c_Fl_opensPart_0 l dC dI cI cJ cZ a x1_4 y23 s4.2.1 s4.1 s4.2.2 tr y34 hy) (va_cwU 4 hts (gd_U tw555 tw1075 xs6 tw557 tw6 tw558) rfl rfl rfl rfl hdU_opensPart ⟨Nat.le_of_ble_eq_true rfl, Nat.le_of_ble_eq_true rfl⟩) hNw hK hP hD hS hA (ci := 4) rfl rfl rfl [0, 1, 2, 3, 4, 5, 6, 7, 8, 9, 10, 11, 12, 13, 14] [] rfl rfl rfl rfl rfl (by decide +kernel) (by decide +kernel) rfl hl.1 rfl (Nat.le_of_ble_eq_true rfl) rfl d_Fl_settleWhole_34 ⟨Nat.zero_le _, Nat.zero_le _⟩ (fun H locs hP hD hS => ?_)
        refine lv_istore (lv' := [(5, .int y34), (4, .int y23), (0, .ref (a 24)), (1, .int x1_4), (2, .int s4.1), (3, .int s4.2.1)]) hx hb d_Fl_settleWhole_37 hl (by decide) rfl (fun ls hl => ?_)
        refine lv_iload hx hb d_Fl_settleWhole_39 (lv_at hl 0 rfl) ?_
        refine lv_if_eq (tgt := 51) hx hb d_Fl_settleWhole_41 (by decide) (fun hc => ?_) (fun hc => ?_)
        · have h := o_t hc h
          exact B51 s4.2.1 y23 y34 s4.2.2 _ _ _ h hP hD hS (lv_sub hl [2, 3, 5, 1, 0] rfl)
        · have h := o_f hc h
          refine lv_aload_n hx hb d_Fl_settleWhole_44 rfl (lv_at hl 2 rfl) ?_
          refine lv_iload_n hx hb d_Fl_settleWhole_45 rfl (lv_at hl 3 rfl) ?_
          refine lv_iload hx hb d_Fl_settleWhole_46 (lv_at hl 1 rfl) ?_
          obtain ⟨y48, hy, h⟩ := o_bd h
          refine kdU (nn := 15) (rest := []) (w' := (cF0 cI cJ cZ a y48 ++ cTr cI cJ cZ a tr)) (wr := (cTr cI cJ cZ a tr)) (st1 := []) ⟨hx, hb, hml, hown, hts⟩ (c_Fl_comeTo_0 l dC dI cI cJ cZ a x1_4 y23 s4.2.2 y48 hy) (va_cwU 2 hts (gd_U tw503 tw1072 xs3 tw505 tw6 tw506) rfl rfl rfl rfl hdU_comeTo ⟨Nat.le_of_ble_eq_true rfl, Nat.le_of_ble_eq_true rfl⟩) hNw hK hP hD hS hA (ci := 4) rfl rfl rfl [0, 1, 2, 3] [4, 5, 6, 7, 8, 9, 10, 11, 12, 13, 14] rfl rfl rfl rfl rfl (by decide +kernel) (by decide +kernel) rfl hl.1 rfl (Nat.le_of_ble_eq_true rfl) rfl d_Fl_settleWhole_48 ⟨Nat.zero_le _, Nat.zero_le _⟩ (fun H locs hP hD hS => ?_)
          exact B51 s4.2.1 y23 y34 y48 _ _ _ h hP hD hS (lv_sub hl [2, 3, 5, 1, 0] rfl)
  refine lv_iconst (v := 1) hx hb d_Fl_settleWhole_0 (by decide) ?_
  refine lv_istore_n (lv' := [(2, .int (1 : Int32)), (0, .ref (a 24)), (1, .int x1)]) hx hb d_Fl_settleWhole_1 rfl hl (by decide) rfl (fun ls hl => ?_)
  refine lv_iconst (v := 0) hx hb d_Fl_settleWhole_2 (by decide) ?_
  refine lv_istore_n (lv' := [(3, .int (0 : Int32)), (2, .int (1 : Int32)), (0, .ref (a 24)), (1, .int x1)]) hx hb d_Fl_settleWhole_3 rfl hl (by decide) rfl (fun ls hl => ?_)
  exact L4 x1 N ((1 : Int32), (0 : Int32), fl) _ _ _ h hP hD hS (lv_sub hl [2, 3, 1, 0] rfl)
set_option maxHeartbeats 4000000 in
set_option maxRecDepth 100000 in
theorem c_Fl_settle_0 (l : Launch) (dC : Nat → ClassId) (dI : Nat → Nat → Nat) (cI cJ cZ : ClassId) (a : Nat → Nat) (N : Nat) (x1 : Int32) (x2 : Int32) (fl : FlS) (tr : TrS) (kn : KnS) (res : FlS) (h : f_Fl_settle false N x1 x2 fl tr kn = some res) :
    Kt l (dC, dI) classes [(cI, .int), (cJ, .long), (cZ, .boolean)] y_Fl_settle (wz y_Fl_settle b_Fl_settle 3 none) { frames := 4, cells := 0, slots := 0, locals := 90 } [.ref (a 24), .int x1, .int x2] (cF0 cI cJ cZ a fl ++ cTr cI cJ cZ a tr ++ cKn cI cJ cZ a kn) none (cF0 cI cJ cZ a res ++ cTr cI cJ cZ a tr ++ cKn cI cJ cZ a kn) := by
  refine Kt_of (cc := b_Fl_settle) (maxL := 3) (ret := none) (by decide) (Nat.le_of_ble_eq_true rfl) ?_
  intro p e s m args below meth c A ls hx hb hr hml hlocks hown hts hNw hK hP hD hA hS hl
  have hl : lv_has ls 3 [(0, .ref (a 24)), (1, .int x1), (2, .int x2)] := hl
  have hP : va_P (dC, dI) classes (cF0 cI cJ cZ a fl ++ cTr cI cJ cZ a tr ++ cKn cI cJ cZ a kn) s.heap := hP
  have B158 : ∀ (z0_158 : Int32) (z1_158 : Int32) (fl_158 : FlS) (H : Heap) (locs : List Loc) (ls : Array Slot), f_Fl_settle_b158 false N z0_158 z1_158 fl_158 tr kn = some res → va_P (dC, dI) classes (cF0 cI cJ cZ a fl_158 ++ cTr cI cJ cZ a tr ++ cKn cI cJ cZ a kn) H → va_D A (cF0 cI cJ cZ a fl_158 ++ cTr cI cJ cZ a tr ++ cKn cI cJ cZ a kn) → va_S A s.heap H locs → lv_has ls 3 [] → W p l e { frames := 4, cells := 0, slots := 0, locals := 90 } s m args below meth c H locs 0 0 (KZ below args s (dC, dI) classes none (cF0 cI cJ cZ a res ++ cTr cI cJ cZ a tr ++ cKn cI cJ cZ a kn) A) (F0 m 158 ls [.int z0_158, .int z1_158, .ref (a 27)]) := by
    intro z0_158 z1_158 fl_158 H locs ls h hP hD hS hl
    obtain ⟨hin, h⟩ := o_in h
    refine va_iast hx hb hK hP hD hS 3 0 rfl rfl hin d_Fl_settle_158 (fun H locs hP hD hS => ?_)
    have hP : va_P (dC, dI) classes (cF0 cI cJ cZ a ((Fl_open fl_158), (Fl_met fl_158), (Fl_normal fl_158), (Fl_returning fl_158), (Fl_breaks fl_158), (Fl_continues fl_158), (upd (Fl_thrown fl_158) z1_158.toNatClampNeg z0_158)) ++ cTr cI cJ cZ a tr ++ cKn cI cJ cZ a kn) H := hP
    have hD : va_D A (cF0 cI cJ cZ a ((Fl_open fl_158), (Fl_met fl_158), (Fl_normal fl_158), (Fl_returning fl_158), (Fl_breaks fl_158), (Fl_continues fl_158), (upd (Fl_thrown fl_158) z1_158.toNatClampNeg z0_158)) ++ cTr cI cJ cZ a tr ++ cKn cI cJ cZ a kn) := hD
    refine lv_goto (tgt := 254) hx hb d_Fl_settle_159 (by decide) ?_
    cases h
    exact kr_v hx hb hr hlocks hP hD hS d_Fl_settle_254
  have B249 : ∀ (x1_249 : Int32) (fl_249 : FlS) (H : Heap) (locs : List Loc) (ls : Array Slot), f_Fl_settle_b249 false N x1_249 fl_249 tr kn = some res → va_P (dC, dI) classes (cF0 cI cJ cZ a fl_249 ++ cTr cI cJ cZ a tr ++ cKn cI cJ cZ a kn) H → va_D A (cF0 cI cJ cZ a fl_249 ++ cTr cI cJ cZ a tr ++ cKn cI cJ cZ a kn) → va_S A s.heap H locs → lv_has ls 3 [(0, .ref (a 24)), (1, .int x1_249)] → W p l e { frames := 4, cells := 0, slots := 0, locals := 90 } s m args below meth c H locs 0 0 (KZ below args s (dC, dI) classes none (cF0 cI cJ cZ a res ++ cTr cI cJ cZ a tr ++ cKn cI cJ cZ a kn) A) (F0 m 249 ls []) := by
    intro x1_249 fl_249 H locs ls h hP hD hS hl
    refine lv_aload_n hx hb d_Fl_settle_249 rfl (lv_at hl 0 rfl) ?_
    refine lv_iload_n hx hb d_Fl_settle_250 rfl (lv_at hl 1 rfl) ?_
    obtain ⟨y251, hy, h⟩ := o_bd h
    refine kdU (nn := 18) (rest := []) (w' := (cF0 cI cJ cZ a y251 ++ cTr cI cJ cZ a tr ++ cKn cI cJ cZ a kn)) (wr := (cKn cI cJ cZ a kn)) (st1 := []) ⟨hx, hb, hml, hown, hts⟩ (c_Fl_settleWhole_0 l dC dI cI cJ cZ a N x1_249 fl_249 tr y251 hy) (va_cwU 1 hts (gd_U tw551 tw1074 xs5 tw553 tw6 tw554) rfl rfl rfl rfl hdU_settleWhole ⟨Nat.le_of_ble_eq_true rfl, Nat.le_of_ble_eq_true rfl⟩) hNw hK hP hD hS hA (ci := 4) rfl rfl rfl [0, 1, 2, 3, 4, 5, 6, 7, 8, 9, 10, 11, 12, 13, 14] [15, 16, 17] rfl rfl rfl rfl rfl (by decide +kernel) (by decide +kernel) rfl hl.1 rfl (Nat.le_of_ble_eq_true rfl) rfl d_Fl_settle_251 ⟨Nat.zero_le _, Nat.zero_le _⟩ (fun H locs hP hD hS => ?_)
    cases h
    exact kr_v hx hb hr hlocks hP hD hS d_Fl_settle_254
  have B216 : ∀ (z0_216 : Int64) (z1_216 : Int32) (fl_216 : FlS) (H : Heap) (locs : List Loc) (ls : Array Slot), f_Fl_settle_b216 false N z0_216 z1_216 fl_216 tr kn = some res → va_P (dC, dI) classes (cF0 cI cJ cZ a fl_216 ++ cTr cI cJ cZ a tr ++ cKn cI cJ cZ a kn) H → va_D A (cF0 cI cJ cZ a fl_216 ++ cTr cI cJ cZ a tr ++ cKn cI cJ cZ a kn) → va_S A s.heap H locs → lv_has ls 3 [] → W p l e { frames := 4, cells := 0, slots := 0, locals := 90 } s m args below meth c H locs 0 0 (KZ below args s (dC, dI) classes none (cF0 cI cJ cZ a res ++ cTr cI cJ cZ a tr ++ cKn cI cJ cZ a kn) A) (F0 m 216 ls [.long z0_216, .int z1_216, .ref (a 25)]) := by
    intro z0_216 z1_216 fl_216 H locs ls h hP hD hS hl
    obtain ⟨hin, h⟩ := o_in h
    refine va_last hx hb hK hP hD hS 1 1 rfl rfl hin d_Fl_settle_216 (fun H locs hP hD hS => ?_)
    have hP : va_P (dC, dI) classes (cF0 cI cJ cZ a ((Fl_open fl_216), (Fl_met fl_216), (Fl_normal fl_216), (Fl_returning fl_216), (vp_updL (Fl_breaks fl_216) z1_216.toNatClampNeg z0_216), (Fl_continues fl_216), (Fl_thrown fl_216)) ++ cTr cI cJ cZ a tr ++ cKn cI cJ cZ a kn) H := hP
    have hD : va_D A (cF0 cI cJ cZ a ((Fl_open fl_216), (Fl_met fl_216), (Fl_normal fl_216), (Fl_returning fl_216), (vp_updL (Fl_breaks fl_216) z1_216.toNatClampNeg z0_216), (Fl_continues fl_216), (Fl_thrown fl_216)) ++ cTr cI cJ cZ a tr ++ cKn cI cJ cZ a kn) := hD
    refine lv_goto (tgt := 254) hx hb d_Fl_settle_217 (by decide) ?_
    cases h
    exact kr_v hx hb hr hlocks hP hD hS d_Fl_settle_254
  have B237 : ∀ (z0_237 : Int64) (z1_237 : Int32) (fl_237 : FlS) (H : Heap) (locs : List Loc) (ls : Array Slot), f_Fl_settle_b237 false N z0_237 z1_237 fl_237 tr kn = some res → va_P (dC, dI) classes (cF0 cI cJ cZ a fl_237 ++ cTr cI cJ cZ a tr ++ cKn cI cJ cZ a kn) H → va_D A (cF0 cI cJ cZ a fl_237 ++ cTr cI cJ cZ a tr ++ cKn cI cJ cZ a kn) → va_S A s.heap H locs → lv_has ls 3 [] → W p l e { frames := 4, cells := 0, slots := 0, locals := 90 } s m args below meth c H locs 0 0 (KZ below args s (dC, dI) classes none (cF0 cI cJ cZ a res ++ cTr cI cJ cZ a tr ++ cKn cI cJ cZ a kn) A) (F0 m 237 ls [.long z0_237, .int z1_237, .ref (a 26)]) := by
    intro z0_237 z1_237 fl_237 H locs ls h hP hD hS hl
    obtain ⟨hin, h⟩ := o_in h
    refine va_last hx hb hK hP hD hS 2 1 rfl rfl hin d_Fl_settle_237 (fun H locs hP hD hS => ?_)
    have hP : va_P (dC, dI) classes (cF0 cI cJ cZ a ((Fl_open fl_237), (Fl_met fl_237), (Fl_normal fl_237), (Fl_returning fl_237), (Fl_breaks fl_237), (vp_updL (Fl_continues fl_237) z1_237.toNatClampNeg z0_237), (Fl_thrown fl_237)) ++ cTr cI cJ cZ a tr ++ cKn cI cJ cZ a kn) H := hP
    have hD : va_D A (cF0 cI cJ cZ a ((Fl_open fl_237), (Fl_met fl_237), (Fl_normal fl_237), (Fl_returning fl_237), (Fl_breaks fl_237), (vp_updL (Fl_continues fl_237) z1_237.toNatClampNeg z0_237), (Fl_thrown fl_237)) ++ cTr cI cJ cZ a tr ++ cKn cI cJ cZ a kn) := hD
    refine lv_goto (tgt := 254) hx hb d_Fl_settle_238 (by decide) ?_
    cases h
    exact kr_v hx hb hr hlocks hP hD hS d_Fl_settle_254
  refine lv_aload_n hx hb d_Fl_settle_0 rfl (lv_at hl 0 rfl) ?_
  refine lv_iload_n hx hb d_Fl_settle_1 rfl (lv_at hl 1 rfl) ?_
  obtain ⟨y2, hy, h⟩ := o_bd h
  refine kdU (nn := 18) (rest := []) (w' := (cF0 cI cJ cZ a y2 ++ cTr cI cJ cZ a tr ++ cKn cI cJ cZ a kn)) (wr := (cTr cI cJ cZ a tr ++ cKn cI cJ cZ a kn)) (st1 := []) ⟨hx, hb, hml, hown, hts⟩ (c_Fl_wipe_0 l dC dI cI cJ cZ a x1 fl y2 hy) (va_cwU 1 hts (gd_U tw484 tw1070 xs1 tw486 tw6 tw487) rfl rfl rfl rfl hdU_wipe ⟨Nat.le_of_ble_eq_true rfl, Nat.le_of_ble_eq_true rfl⟩) hNw hK hP hD hS hA (ci := 4) rfl rfl rfl [0, 1, 2, 3] [4, 5, 6, 7, 8, 9, 10, 11, 12, 13, 14, 15, 16, 17] rfl rfl rfl rfl rfl (by decide +kernel) (by decide +kernel) rfl hl.1 rfl (Nat.le_of_ble_eq_true rfl) rfl d_Fl_settle_2 ⟨Nat.zero_le _, Nat.zero_le _⟩ (fun H locs hP hD hS => ?_)
  refine lv_aload_n hx hb d_Fl_settle_5 rfl (lv_at hl 0 rfl) ?_
  refine va_get (D := (dC, dI)) (ci := 4) (v := .ref (a 4)) (C := R_Br) (T := F_Br) (N := 9) hx hb hts inb_Br hown hK hP 0 rfl rfl 0 (by decide) (hts _ tw159) (fun _ h9 => h9) rfl d_Fl_settle_6 ?_
  refine va_get (D := (dC, dI)) (ci := 1) (v := .ref (a 5)) (C := R_Tr) (T := F_Tr) (N := 14) hx hb hts inb_Tr hown hK hP 4 rfl rfl 4 (by decide) (hts _ tw65) (fun _ h9 => h9) rfl d_Fl_settle_9 ?_
  refine lv_iload_n hx hb d_Fl_settle_12 rfl (lv_at hl 1 rfl) ?_
  obtain ⟨hin, h⟩ := o_in h
  refine va_iald hx hb hK hP 5 0 rfl rfl hin d_Fl_settle_13 ?_
  refine sw_by (x := ((Tr_sort tr) x1.toNatClampNeg)) (k := 0) (fun hc => ?_) (fun hn0 => ?_)
  · have h := o_t hc h
    refine sw_in (x := ((Tr_sort tr) x1.toNatClampNeg)) (k := 0) hc (lv_tableIn (tgt := 96) hx hb d_Fl_settle_14 (by decide) (by decide) (by rfl) (by decide) ?_)
    refine lv_aload_n hx hb d_Fl_settle_96 rfl (lv_at hl 0 rfl) ?_
    refine lv_dup hx hb d_Fl_settle_97 rfl ?_
    refine va_get (D := (dC, dI)) (ci := 4) (v := .long (Fl_normal y2)) (C := R_Br) (T := F_Br) (N := 9) hx hb hts inb_Br hown hK hP 0 rfl rfl 4 (by decide) (hts _ tw169) (fun _ h9 => h9) rfl d_Fl_settle_98 ?_
    refine lv_lconst (v := 1) hx hb d_Fl_settle_101 (by decide) ?_
    refine lv_iload_n hx hb d_Fl_settle_102 rfl (lv_at hl 1 rfl) ?_
    refine lv_lshl hx hb d_Fl_settle_103 rfl ?_
    refine lv_lor hx hb d_Fl_settle_104 ?_
    refine va_put (D := (dC, dI)) (ci := 4) (v := .long ((Fl_normal y2) ||| ((1 : Int64) <<< (x1.toInt64 &&& 63)))) (ty := .long) (C := R_Br) (T := F_Br) (N := 9) hx hb hts inb_Br ft_Br ft_Br_ok n_Br hown hK hP hD hS 0 rfl rfl 4 (by decide) (hts _ tw169) (fun _ h9 => h9) rfl (by decide +kernel) rfl rfl (Nat.le_of_ble_eq_true rfl) d_Fl_settle_105 (fun H locs hP hD hS => ?_)
    have hP : va_P (dC, dI) classes (cF0 cI cJ cZ a ((Fl_open y2), (Fl_met y2), ((Fl_normal y2) ||| ((1 : Int64) <<< (x1.toInt64 &&& 63))), (Fl_returning y2), (Fl_breaks y2), (Fl_continues y2), (Fl_thrown y2)) ++ cTr cI cJ cZ a tr ++ cKn cI cJ cZ a kn) H := hP
    have hD : va_D A (cF0 cI cJ cZ a ((Fl_open y2), (Fl_met y2), ((Fl_normal y2) ||| ((1 : Int64) <<< (x1.toInt64 &&& 63))), (Fl_returning y2), (Fl_breaks y2), (Fl_continues y2), (Fl_thrown y2)) ++ cTr cI cJ cZ a tr ++ cKn cI cJ cZ a kn) := hD
    refine lv_goto (tgt := 254) hx hb d_Fl_settle_108 (by decide) ?_
    cases h
    exact kr_v hx hb hr hlocks hP hD hS d_Fl_settle_254
  · have h := o_f hn0 h
    refine sw_by (x := ((Tr_sort tr) x1.toNatClampNeg)) (k := 1) (fun hc => ?_) (fun hn1 => ?_)
    · have h := o_t hc h
      refine sw_in (x := ((Tr_sort tr) x1.toNatClampNeg)) (k := 1) hc (lv_tableIn (tgt := 111) hx hb d_Fl_settle_14 (by decide) (by decide) (by rfl) (by decide) ?_)
      refine lv_aload_n hx hb d_Fl_settle_111 rfl (lv_at hl 0 rfl) ?_
      refine lv_dup hx hb d_Fl_settle_112 rfl ?_
      refine va_get (D := (dC, dI)) (ci := 4) (v := .long (Fl_normal y2)) (C := R_Br) (T := F_Br) (N := 9) hx hb hts inb_Br hown hK hP 0 rfl rfl 4 (by decide) (hts _ tw169) (fun _ h9 => h9) rfl d_Fl_settle_113 ?_
      refine lv_lconst (v := 1) hx hb d_Fl_settle_116 (by decide) ?_
      refine lv_iload_n hx hb d_Fl_settle_117 rfl (lv_at hl 1 rfl) ?_
      refine lv_lshl hx hb d_Fl_settle_118 rfl ?_
      refine lv_lor hx hb d_Fl_settle_119 ?_
      refine va_put (D := (dC, dI)) (ci := 4) (v := .long ((Fl_normal y2) ||| ((1 : Int64) <<< (x1.toInt64 &&& 63)))) (ty := .long) (C := R_Br) (T := F_Br) (N := 9) hx hb hts inb_Br ft_Br ft_Br_ok n_Br hown hK hP hD hS 0 rfl rfl 4 (by decide) (hts _ tw169) (fun _ h9 => h9) rfl (by decide +kernel) rfl rfl (Nat.le_of_ble_eq_true rfl) d_Fl_settle_120 (fun H locs hP hD hS => ?_)
      have hP : va_P (dC, dI) classes (cF0 cI cJ cZ a ((Fl_open y2), (Fl_met y2), ((Fl_normal y2) ||| ((1 : Int64) <<< (x1.toInt64 &&& 63))), (Fl_returning y2), (Fl_breaks y2), (Fl_continues y2), (Fl_thrown y2)) ++ cTr cI cJ cZ a tr ++ cKn cI cJ cZ a kn) H := hP
      have hD : va_D A (cF0 cI cJ cZ a ((Fl_open y2), (Fl_met y2), ((Fl_normal y2) ||| ((1 : Int64) <<< (x1.toInt64 &&& 63))), (Fl_returning y2), (Fl_breaks y2), (Fl_continues y2), (Fl_thrown y2)) ++ cTr cI cJ cZ a tr ++ cKn cI cJ cZ a kn) := hD
      refine lv_aload_n hx hb d_Fl_settle_123 rfl (lv_at hl 0 rfl) ?_
      refine va_get (D := (dC, dI)) (ci := 4) (v := .ref (a 27)) (C := R_Br) (T := F_Br) (N := 9) hx hb hts inb_Br hown hK hP 0 rfl rfl 8 (by decide) (hts _ tw173) (fun _ h9 => h9) rfl d_Fl_settle_124 ?_
      refine lv_iload_n hx hb d_Fl_settle_127 rfl (lv_at hl 1 rfl) ?_
      refine lv_aload_n hx hb d_Fl_settle_128 rfl (lv_at hl 0 rfl) ?_
      refine va_get (D := (dC, dI)) (ci := 4) (v := .ref (a 4)) (C := R_Br) (T := F_Br) (N := 9) hx hb hts inb_Br hown hK hP 0 rfl rfl 0 (by decide) (hts _ tw159) (fun _ h9 => h9) rfl d_Fl_settle_129 ?_
      refine va_get (D := (dC, dI)) (ci := 1) (v := .ref (a 6)) (C := R_Tr) (T := F_Tr) (N := 14) hx hb hts inb_Tr hown hK hP 4 rfl rfl 5 (by decide) (hts _ tw70) (fun _ h9 => h9) rfl d_Fl_settle_132 ?_
      refine lv_iload_n hx hb d_Fl_settle_135 rfl (lv_at hl 1 rfl) ?_
      obtain ⟨hin, h⟩ := o_in h
      refine va_iald hx hb hK hP 6 0 rfl rfl hin d_Fl_settle_136 ?_
      refine lv_iconst (v := -1) hx hb d_Fl_settle_137 (by decide) ?_
      refine lv_icmp_ne (tgt := 145) hx hb d_Fl_settle_138 (by decide) (fun hc => ?_) (fun hc => ?_)
      · have h := o_f hc h
        refine lv_aload_n hx hb d_Fl_settle_145 rfl (lv_at hl 0 rfl) ?_
        refine lv_aload_n hx hb d_Fl_settle_146 rfl (lv_at hl 0 rfl) ?_
        refine va_get (D := (dC, dI)) (ci := 4) (v := .ref (a 4)) (C := R_Br) (T := F_Br) (N := 9) hx hb hts inb_Br hown hK hP 0 rfl rfl 0 (by decide) (hts _ tw159) (fun _ h9 => h9) rfl d_Fl_settle_147 ?_
        refine va_get (D := (dC, dI)) (ci := 1) (v := .ref (a 6)) (C := R_Tr) (T := F_Tr) (N := 14) hx hb hts inb_Tr hown hK hP 4 rfl rfl 5 (by decide) (hts _ tw70) (fun _ h9 => h9) rfl d_Fl_settle_150 ?_
        refine lv_iload_n hx hb d_Fl_settle_153 rfl (lv_at hl 1 rfl) ?_
        obtain ⟨hin, h⟩ := o_in h
        refine va_iald hx hb hK hP 6 0 rfl rfl hin d_Fl_settle_154 ?_
        obtain ⟨y155, hy, h⟩ := o_bd h
        refine kdU (nn := 18) (rest := [.int x1, .ref (a 27)]) (w' := (cF0 cI cJ cZ a ((Fl_open y2), (Fl_met y2), ((Fl_normal y2) ||| ((1 : Int64) <<< (x1.toInt64 &&& 63))), (Fl_returning y2), (Fl_breaks y2), (Fl_continues y2), (Fl_thrown y2)) ++ cTr cI cJ cZ a tr ++ cKn cI cJ cZ a kn)) (wr := (cTr cI cJ cZ a tr ++ cKn cI cJ cZ a kn)) (st1 := [.int y155, .int x1, .ref (a 27)]) ⟨hx, hb, hml, hown, hts⟩ (c_Br_thrownAs l dC dI cI cJ cZ a ((Tr_value tr) x1.toNatClampNeg) ((Fl_open y2), (Fl_met y2), ((Fl_normal y2) ||| ((1 : Int64) <<< (x1.toInt64 &&& 63))), (Fl_returning y2), (Fl_breaks y2), (Fl_continues y2), (Fl_thrown y2)) y155 hy) (va_cwA 1 hts (gd_U tw489 tw491 tw492 tw493 tw7 tw494) rfl rfl rfl (hNw _ nw490) hdU_thrownAs ⟨Nat.le_of_ble_eq_true rfl, Nat.le_of_ble_eq_true rfl⟩) hNw hK hP hD hS hA (ci := 4) rfl rfl rfl [0, 1, 2, 3] [4, 5, 6, 7, 8, 9, 10, 11, 12, 13, 14, 15, 16, 17] rfl rfl rfl rfl rfl (by decide +kernel) (by decide +kernel) rfl hl.1 rfl (Nat.le_of_ble_eq_true rfl) rfl d_Fl_settle_155 ⟨Nat.zero_le _, Nat.zero_le _⟩ (fun H locs hP hD hS => ?_)
        exact B158 y155 x1 ((Fl_open y2), (Fl_met y2), ((Fl_normal y2) ||| ((1 : Int64) <<< (x1.toInt64 &&& 63))), (Fl_returning y2), (Fl_breaks y2), (Fl_continues y2), (Fl_thrown y2)) _ _ _ h hP hD hS (lv_sub hl [] rfl)
      · have h := o_t hc h
        refine lv_iconst (v := 0) hx hb d_Fl_settle_141 (by decide) ?_
        refine lv_goto (tgt := 158) hx hb d_Fl_settle_142 (by decide) ?_
        exact B158 (0 : Int32) x1 ((Fl_open y2), (Fl_met y2), ((Fl_normal y2) ||| ((1 : Int64) <<< (x1.toInt64 &&& 63))), (Fl_returning y2), (Fl_breaks y2), (Fl_continues y2), (Fl_thrown y2)) _ _ _ h hP hD hS (lv_sub hl [] rfl)
    · have h := o_f hn1 h
      refine sw_by (x := ((Tr_sort tr) x1.toNatClampNeg)) (k := 2) (fun hc => ?_) (fun hn2 => ?_)
      · have h := o_t hc h
        refine sw_in (x := ((Tr_sort tr) x1.toNatClampNeg)) (k := 2) hc (lv_tableIn (tgt := 162) hx hb d_Fl_settle_14 (by decide) (by decide) (by rfl) (by decide) ?_)
        refine lv_aload_n hx hb d_Fl_settle_162 rfl (lv_at hl 0 rfl) ?_
        refine va_get (D := (dC, dI)) (ci := 4) (v := .ref (a 27)) (C := R_Br) (T := F_Br) (N := 9) hx hb hts inb_Br hown hK hP 0 rfl rfl 8 (by decide) (hts _ tw173) (fun _ h9 => h9) rfl d_Fl_settle_163 ?_
        refine lv_iload_n hx hb d_Fl_settle_166 rfl (lv_at hl 1 rfl) ?_
        refine lv_aload_n hx hb d_Fl_settle_167 rfl (lv_at hl 0 rfl) ?_
        refine lv_aload_n hx hb d_Fl_settle_168 rfl (lv_at hl 0 rfl) ?_
        refine va_get (D := (dC, dI)) (ci := 4) (v := .ref (a 4)) (C := R_Br) (T := F_Br) (N := 9) hx hb hts inb_Br hown hK hP 0 rfl rfl 0 (by decide) (hts _ tw159) (fun _ h9 => h9) rfl d_Fl_settle_169 ?_
        refine va_get (D := (dC, dI)) (ci := 1) (v := .ref (a 6)) (C := R_Tr) (T := F_Tr) (N := 14) hx hb hts inb_Tr hown hK hP 4 rfl rfl 5 (by decide) (hts _ tw70) (fun _ h9 => h9) rfl d_Fl_settle_172 ?_
        refine lv_iload_n hx hb d_Fl_settle_175 rfl (lv_at hl 1 rfl) ?_
        obtain ⟨hin, h⟩ := o_in h
        refine va_iald hx hb hK hP 6 0 rfl rfl hin d_Fl_settle_176 ?_
        obtain ⟨y177, hy, h⟩ := o_bd h
        refine kdU (nn := 18) (rest := [.int x1, .ref (a 27)]) (w' := (cF0 cI cJ cZ a y2 ++ cTr cI cJ cZ a tr ++ cKn cI cJ cZ a kn)) (wr := (cTr cI cJ cZ a tr ++ cKn cI cJ cZ a kn)) (st1 := [.int y177, .int x1, .ref (a 27)]) ⟨hx, hb, hml, hown, hts⟩ (c_Br_thrownAs l dC dI cI cJ cZ a ((Tr_value tr) x1.toNatClampNeg) y2 y177 hy) (va_cwA 1 hts (gd_U tw489 tw491 tw492 tw493 tw7 tw494) rfl rfl rfl (hNw _ nw490) hdU_thrownAs ⟨Nat.le_of_ble_eq_true rfl, Nat.le_of_ble_eq_true rfl⟩) hNw hK hP hD hS hA (ci := 4) rfl rfl rfl [0, 1, 2, 3] [4, 5, 6, 7, 8, 9, 10, 11, 12, 13, 14, 15, 16, 17] rfl rfl rfl rfl rfl (by decide +kernel) (by decide +kernel) rfl hl.1 rfl (Nat.le_of_ble_eq_true rfl) rfl d_Fl_settle_177 ⟨Nat.zero_le _, Nat.zero_le _⟩ (fun H locs hP hD hS => ?_)
        obtain ⟨hin, h⟩ := o_in h
        refine va_iast hx hb hK hP hD hS 3 0 rfl rfl hin d_Fl_settle_180 (fun H locs hP hD hS => ?_)
        have hP : va_P (dC, dI) classes (cF0 cI cJ cZ a ((Fl_open y2), (Fl_met y2), (Fl_normal y2), (Fl_returning y2), (Fl_breaks y2), (Fl_continues y2), (upd (Fl_thrown y2) x1.toNatClampNeg y177)) ++ cTr cI cJ cZ a tr ++ cKn cI cJ cZ a kn) H := hP
        have hD : va_D A (cF0 cI cJ cZ a ((Fl_open y2), (Fl_met y2), (Fl_normal y2), (Fl_returning y2), (Fl_breaks y2), (Fl_continues y2), (upd (Fl_thrown y2) x1.toNatClampNeg y177)) ++ cTr cI cJ cZ a tr ++ cKn cI cJ cZ a kn) := hD
        refine lv_goto (tgt := 254) hx hb d_Fl_settle_181 (by decide) ?_
        cases h
        exact kr_v hx hb hr hlocks hP hD hS d_Fl_settle_254
      · have h := o_f hn2 h
        refine sw_by (x := ((Tr_sort tr) x1.toNatClampNeg)) (k := 3) (fun hc => ?_) (fun hn3 => ?_)
        · have h := o_t hc h
          refine sw_in (x := ((Tr_sort tr) x1.toNatClampNeg)) (k := 3) hc (lv_tableIn (tgt := 184) hx hb d_Fl_settle_14 (by decide) (by decide) (by rfl) (by decide) ?_)
          refine lv_aload_n hx hb d_Fl_settle_184 rfl (lv_at hl 0 rfl) ?_
          refine lv_dup hx hb d_Fl_settle_185 rfl ?_
          refine va_get (D := (dC, dI)) (ci := 4) (v := .long (Fl_returning y2)) (C := R_Br) (T := F_Br) (N := 9) hx hb hts inb_Br hown hK hP 0 rfl rfl 5 (by decide) (hts _ tw170) (fun _ h9 => h9) rfl d_Fl_settle_186 ?_
          refine lv_lconst (v := 1) hx hb d_Fl_settle_189 (by decide) ?_
          refine lv_iload_n hx hb d_Fl_settle_190 rfl (lv_at hl 1 rfl) ?_
          refine lv_lshl hx hb d_Fl_settle_191 rfl ?_
          refine lv_lor hx hb d_Fl_settle_192 ?_
          refine va_put (D := (dC, dI)) (ci := 4) (v := .long ((Fl_returning y2) ||| ((1 : Int64) <<< (x1.toInt64 &&& 63)))) (ty := .long) (C := R_Br) (T := F_Br) (N := 9) hx hb hts inb_Br ft_Br ft_Br_ok n_Br hown hK hP hD hS 0 rfl rfl 5 (by decide) (hts _ tw170) (fun _ h9 => h9) rfl (by decide +kernel) rfl rfl (Nat.le_of_ble_eq_true rfl) d_Fl_settle_193 (fun H locs hP hD hS => ?_)
          have hP : va_P (dC, dI) classes (cF0 cI cJ cZ a ((Fl_open y2), (Fl_met y2), (Fl_normal y2), ((Fl_returning y2) ||| ((1 : Int64) <<< (x1.toInt64 &&& 63))), (Fl_breaks y2), (Fl_continues y2), (Fl_thrown y2)) ++ cTr cI cJ cZ a tr ++ cKn cI cJ cZ a kn) H := hP
          have hD : va_D A (cF0 cI cJ cZ a ((Fl_open y2), (Fl_met y2), (Fl_normal y2), ((Fl_returning y2) ||| ((1 : Int64) <<< (x1.toInt64 &&& 63))), (Fl_breaks y2), (Fl_continues y2), (Fl_thrown y2)) ++ cTr cI cJ cZ a tr ++ cKn cI cJ cZ a kn) := hD
          refine lv_goto (tgt := 254) hx hb d_Fl_settle_196 (by decide) ?_
          cases h
          exact kr_v hx hb hr hlocks hP hD hS d_Fl_settle_254
        · have h := o_f hn3 h
          refine sw_by (x := ((Tr_sort tr) x1.toNatClampNeg)) (k := 4) (fun hc => ?_) (fun hn4 => ?_)
          · have h := o_t hc h
            refine sw_in (x := ((Tr_sort tr) x1.toNatClampNeg)) (k := 4) hc (lv_tableIn (tgt := 249) hx hb d_Fl_settle_14 (by decide) (by decide) (by rfl) (by decide) ?_)
            exact B249 x1 y2 _ _ _ h hP hD hS (lv_sub hl [0, 1] rfl)
          · have h := o_f hn4 h
            refine sw_by (x := ((Tr_sort tr) x1.toNatClampNeg)) (k := 5) (fun hc => ?_) (fun hn5 => ?_)
            · have h := o_t hc h
              refine sw_in (x := ((Tr_sort tr) x1.toNatClampNeg)) (k := 5) hc (lv_tableIn (tgt := 249) hx hb d_Fl_settle_14 (by decide) (by decide) (by rfl) (by decide) ?_)
              exact B249 x1 y2 _ _ _ h hP hD hS (lv_sub hl [0, 1] rfl)
            · have h := o_f hn5 h
              refine sw_by (x := ((Tr_sort tr) x1.toNatClampNeg)) (k := 6) (fun hc => ?_) (fun hn6 => ?_)
              · have h := o_t hc h
                refine sw_in (x := ((Tr_sort tr) x1.toNatClampNeg)) (k := 6) hc (lv_tableIn (tgt := 249) hx hb d_Fl_settle_14 (by decide) (by decide) (by rfl) (by decide) ?_)
                exact B249 x1 y2 _ _ _ h hP hD hS (lv_sub hl [0, 1] rfl)
              · have h := o_f hn6 h
                refine sw_by (x := ((Tr_sort tr) x1.toNatClampNeg)) (k := 7) (fun hc => ?_) (fun hn7 => ?_)
                · have h := o_t hc h
                  refine sw_in (x := ((Tr_sort tr) x1.toNatClampNeg)) (k := 7) hc (lv_tableIn (tgt := 249) hx hb d_Fl_settle_14 (by decide) (by decide) (by rfl) (by decide) ?_)
                  exact B249 x1 y2 _ _ _ h hP hD hS (lv_sub hl [0, 1] rfl)
                · have h := o_f hn7 h
                  refine sw_by (x := ((Tr_sort tr) x1.toNatClampNeg)) (k := 8) (fun hc => ?_) (fun hn8 => ?_)
                  · have h := o_t hc h
                    refine sw_in (x := ((Tr_sort tr) x1.toNatClampNeg)) (k := 8) hc (lv_tableIn (tgt := 249) hx hb d_Fl_settle_14 (by decide) (by decide) (by rfl) (by decide) ?_)
                    exact B249 x1 y2 _ _ _ h hP hD hS (lv_sub hl [0, 1] rfl)
                  · have h := o_f hn8 h
                    refine sw_by (x := ((Tr_sort tr) x1.toNatClampNeg)) (k := 9) (fun hc => ?_) (fun hn9 => ?_)
                    · have h := o_t hc h
                      refine sw_in (x := ((Tr_sort tr) x1.toNatClampNeg)) (k := 9) hc (lv_tableIn (tgt := 249) hx hb d_Fl_settle_14 (by decide) (by decide) (by rfl) (by decide) ?_)
                      exact B249 x1 y2 _ _ _ h hP hD hS (lv_sub hl [0, 1] rfl)
                    · have h := o_f hn9 h
                      refine sw_by (x := ((Tr_sort tr) x1.toNatClampNeg)) (k := 10) (fun hc => ?_) (fun hn10 => ?_)
                      · have h := o_t hc h
                        refine sw_in (x := ((Tr_sort tr) x1.toNatClampNeg)) (k := 10) hc (lv_tableIn (tgt := 199) hx hb d_Fl_settle_14 (by decide) (by decide) (by rfl) (by decide) ?_)
                        refine lv_aload_n hx hb d_Fl_settle_199 rfl (lv_at hl 0 rfl) ?_
                        refine va_get (D := (dC, dI)) (ci := 4) (v := .ref (a 25)) (C := R_Br) (T := F_Br) (N := 9) hx hb hts inb_Br hown hK hP 0 rfl rfl 6 (by decide) (hts _ tw171) (fun _ h9 => h9) rfl d_Fl_settle_200 ?_
                        refine lv_iload_n hx hb d_Fl_settle_203 rfl (lv_at hl 1 rfl) ?_
                        refine lv_iload_n hx hb d_Fl_settle_204 rfl (lv_at hl 2 rfl) ?_
                        refine lv_iconst (v := -1) hx hb d_Fl_settle_205 (by decide) ?_
                        refine lv_icmp_ne (tgt := 213) hx hb d_Fl_settle_206 (by decide) (fun hc => ?_) (fun hc => ?_)
                        · have h := o_f hc h
                          refine lv_lconst (v := 1) hx hb d_Fl_settle_213 (by decide) ?_
                          refine lv_iload_n hx hb d_Fl_settle_214 rfl (lv_at hl 2 rfl) ?_
                          refine lv_lshl hx hb d_Fl_settle_215 rfl ?_
                          exact B216 ((1 : Int64) <<< (x2.toInt64 &&& 63)) x1 y2 _ _ _ h hP hD hS (lv_sub hl [] rfl)
                        · have h := o_t hc h
                          refine lv_lconst (v := 0) hx hb d_Fl_settle_209 (by decide) ?_
                          refine lv_goto (tgt := 216) hx hb d_Fl_settle_210 (by decide) ?_
                          exact B216 (0 : Int64) x1 y2 _ _ _ h hP hD hS (lv_sub hl [] rfl)
                      · have h := o_f hn10 h
                        refine sw_by (x := ((Tr_sort tr) x1.toNatClampNeg)) (k := 11) (fun hc => ?_) (fun hn11 => ?_)
                        · have h := o_t hc h
                          refine sw_in (x := ((Tr_sort tr) x1.toNatClampNeg)) (k := 11) hc (lv_tableIn (tgt := 220) hx hb d_Fl_settle_14 (by decide) (by decide) (by rfl) (by decide) ?_)
                          refine lv_aload_n hx hb d_Fl_settle_220 rfl (lv_at hl 0 rfl) ?_
                          refine va_get (D := (dC, dI)) (ci := 4) (v := .ref (a 26)) (C := R_Br) (T := F_Br) (N := 9) hx hb hts inb_Br hown hK hP 0 rfl rfl 7 (by decide) (hts _ tw172) (fun _ h9 => h9) rfl d_Fl_settle_221 ?_
                          refine lv_iload_n hx hb d_Fl_settle_224 rfl (lv_at hl 1 rfl) ?_
                          refine lv_iload_n hx hb d_Fl_settle_225 rfl (lv_at hl 2 rfl) ?_
                          refine lv_iconst (v := -1) hx hb d_Fl_settle_226 (by decide) ?_
                          refine lv_icmp_ne (tgt := 234) hx hb d_Fl_settle_227 (by decide) (fun hc => ?_) (fun hc => ?_)
                          · have h := o_f hc h
                            refine lv_lconst (v := 1) hx hb d_Fl_settle_234 (by decide) ?_
                            refine lv_iload_n hx hb d_Fl_settle_235 rfl (lv_at hl 2 rfl) ?_
                            refine lv_lshl hx hb d_Fl_settle_236 rfl ?_
                            exact B237 ((1 : Int64) <<< (x2.toInt64 &&& 63)) x1 y2 _ _ _ h hP hD hS (lv_sub hl [] rfl)
                          · have h := o_t hc h
                            refine lv_lconst (v := 0) hx hb d_Fl_settle_230 (by decide) ?_
                            refine lv_goto (tgt := 237) hx hb d_Fl_settle_231 (by decide) ?_
                            exact B237 (0 : Int64) x1 y2 _ _ _ h hP hD hS (lv_sub hl [] rfl)
                        · have h := o_f hn11 h
                          refine sw_by (x := ((Tr_sort tr) x1.toNatClampNeg)) (k := 12) (fun hc => ?_) (fun hn12 => ?_)
                          · have h := o_t hc h
                            refine sw_in (x := ((Tr_sort tr) x1.toNatClampNeg)) (k := 12) hc (lv_tableIn (tgt := 249) hx hb d_Fl_settle_14 (by decide) (by decide) (by rfl) (by decide) ?_)
                            exact B249 x1 y2 _ _ _ h hP hD hS (lv_sub hl [0, 1] rfl)
                          · have h := o_f hn12 h
                            refine sw_by (x := ((Tr_sort tr) x1.toNatClampNeg)) (k := 13) (fun hc => ?_) (fun hn13 => ?_)
                            · have h := o_t hc h
                              refine sw_in (x := ((Tr_sort tr) x1.toNatClampNeg)) (k := 13) hc (lv_tableIn (tgt := 249) hx hb d_Fl_settle_14 (by decide) (by decide) (by rfl) (by decide) ?_)
                              exact B249 x1 y2 _ _ _ h hP hD hS (lv_sub hl [0, 1] rfl)
                            · have h := o_f hn13 h
                              refine sw_by (x := ((Tr_sort tr) x1.toNatClampNeg)) (k := 14) (fun hc => ?_) (fun hn14 => ?_)
                              · have h := o_t hc h
                                refine sw_in (x := ((Tr_sort tr) x1.toNatClampNeg)) (k := 14) hc (lv_tableIn (tgt := 249) hx hb d_Fl_settle_14 (by decide) (by decide) (by rfl) (by decide) ?_)
                                exact B249 x1 y2 _ _ _ h hP hD hS (lv_sub hl [0, 1] rfl)
                              · have h := o_f hn14 h
                                refine sw_by (x := ((Tr_sort tr) x1.toNatClampNeg)) (k := 15) (fun hc => ?_) (fun hn15 => ?_)
                                · have h := o_t hc h
                                  refine sw_in (x := ((Tr_sort tr) x1.toNatClampNeg)) (k := 15) hc (lv_tableIn (tgt := 249) hx hb d_Fl_settle_14 (by decide) (by decide) (by rfl) (by decide) ?_)
                                  exact B249 x1 y2 _ _ _ h hP hD hS (lv_sub hl [0, 1] rfl)
                                · have h := o_f hn15 h
                                  refine sw_by (x := ((Tr_sort tr) x1.toNatClampNeg)) (k := 16) (fun hc => ?_) (fun hn16 => ?_)
                                  · have h := o_t hc h
                                    refine sw_in (x := ((Tr_sort tr) x1.toNatClampNeg)) (k := 16) hc (lv_tableIn (tgt := 241) hx hb d_Fl_settle_14 (by decide) (by decide) (by rfl) (by decide) ?_)
                                    refine lv_aload_n hx hb d_Fl_settle_241 rfl (lv_at hl 0 rfl) ?_
                                    refine lv_iload_n hx hb d_Fl_settle_242 rfl (lv_at hl 1 rfl) ?_
                                    obtain ⟨y243, hy, h⟩ := o_bd h
                                    refine kdU (nn := 18) (rest := []) (w' := (cF0 cI cJ cZ a y243 ++ cTr cI cJ cZ a tr ++ cKn cI cJ cZ a kn)) (wr := ([] : va_W)) (st1 := []) ⟨hx, hb, hml, hown, hts⟩ (c_Fl_settleTry_0 l dC dI cI cJ cZ a N x1 y2 tr kn y243 hy) (va_cwU 1 hts (gd_U tw498 tw1071 xs2 tw500 tw6 tw501) rfl rfl rfl rfl hdU_settleTry ⟨Nat.le_of_ble_eq_true rfl, Nat.le_of_ble_eq_true rfl⟩) hNw hK hP hD hS hA (ci := 4) rfl rfl rfl [0, 1, 2, 3, 4, 5, 6, 7, 8, 9, 10, 11, 12, 13, 14, 15, 16, 17] [] rfl rfl rfl rfl rfl (by decide +kernel) (by decide +kernel) rfl hl.1 rfl (Nat.le_of_ble_eq_true rfl) rfl d_Fl_settle_243 ⟨Nat.zero_le _, Nat.zero_le _⟩ (fun H locs hP hD hS => ?_)
                                    refine lv_goto (tgt := 254) hx hb d_Fl_settle_246 (by decide) ?_
                                    cases h
                                    exact kr_v hx hb hr hlocks hP hD hS d_Fl_settle_254
                                  · have h := o_f hn16 h
                                    refine lv_tableOut (tgt := 249) hx hb d_Fl_settle_14 (by have g0 := sw_ne hn0 (show (0 : Int32).toInt = 0 by decide); have g1 := sw_ne hn1 (show (1 : Int32).toInt = 1 by decide); have g2 := sw_ne hn2 (show (2 : Int32).toInt = 2 by decide); have g3 := sw_ne hn3 (show (3 : Int32).toInt = 3 by decide); have g4 := sw_ne hn4 (show (4 : Int32).toInt = 4 by decide); have g5 := sw_ne hn5 (show (5 : Int32).toInt = 5 by decide); have g6 := sw_ne hn6 (show (6 : Int32).toInt = 6 by decide); have g7 := sw_ne hn7 (show (7 : Int32).toInt = 7 by decide); have g8 := sw_ne hn8 (show (8 : Int32).toInt = 8 by decide); have g9 := sw_ne hn9 (show (9 : Int32).toInt = 9 by decide); have g10 := sw_ne hn10 (show (10 : Int32).toInt = 10 by decide); have g11 := sw_ne hn11 (show (11 : Int32).toInt = 11 by decide); have g12 := sw_ne hn12 (show (12 : Int32).toInt = 12 by decide); have g13 := sw_ne hn13 (show (13 : Int32).toInt = 13 by decide); have g14 := sw_ne hn14 (show (14 : Int32).toInt = 14 by decide); have g15 := sw_ne hn15 (show (15 : Int32).toInt = 15 by decide); have g16 := sw_ne hn16 (show (16 : Int32).toInt = 16 by decide); omega) (by decide) ?_
                                    exact B249 x1 y2 _ _ _ h hP hD hS (lv_sub hl [0, 1] rfl)
set_option maxHeartbeats 4000000 in
set_option maxRecDepth 100000 in
theorem c_Fl_flow_0 (l : Launch) (dC : Nat → ClassId) (dI : Nat → Nat → Nat) (cI cJ cZ : ClassId) (a : Nat → Nat) (N : Nat) (x2 : Int32) (fl : FlS) (tr : TrS) (kn : KnS) (od : ArS) (tg : ArS) (res : FlS) (h : f_Fl_flow false N x2 fl tr kn od tg = some res) :
    Kt l (dC, dI) classes [(cI, .int), (cJ, .long), (cZ, .boolean)] y_Fl_flow (wz y_Fl_flow b_Fl_flow 6 none) { frames := 5, cells := 0, slots := 0, locals := 112 } [.ref (a 24), .ref (a 18), .int x2, .ref (a 20)] (cF0 cI cJ cZ a fl ++ cTr cI cJ cZ a tr ++ cKn cI cJ cZ a kn ++ cOrd cI cJ cZ a od ++ cTgt cI cJ cZ a tg) none (cF0 cI cJ cZ a res ++ cTr cI cJ cZ a tr ++ cKn cI cJ cZ a kn ++ cOrd cI cJ cZ a od ++ cTgt cI cJ cZ a tg) := by
  refine Kt_of (cc := b_Fl_flow) (maxL := 6) (ret := none) (by decide) (Nat.le_of_ble_eq_true rfl) ?_
  intro p e s m args below meth c A ls hx hb hr hml hlocks hown hts hNw hK hP hD hA hS hl
  have hl : lv_has ls 6 [(0, .ref (a 24)), (1, .ref (a 18)), (2, .int x2), (3, .ref (a 20))] := hl
  have hP : va_P (dC, dI) classes (cF0 cI cJ cZ a fl ++ cTr cI cJ cZ a tr ++ cKn cI cJ cZ a kn ++ cOrd cI cJ cZ a od ++ cTgt cI cJ cZ a tg) s.heap := hP
  have L37 : ∀ (x2_37 : Int32) (n37 : Nat) (s37 : Int32 × FlS) (H : Heap) (locs : List Loc) (ls : Array Slot), lp (f_Fl_flow_L37 false N x2_37 tr kn od tg) n37 s37 = some res → va_P (dC, dI) classes (cF0 cI cJ cZ a s37.2 ++ cTr cI cJ cZ a tr ++ cKn cI cJ cZ a kn ++ cOrd cI cJ cZ a od ++ cTgt cI cJ cZ a tg) H → va_D A (cF0 cI cJ cZ a s37.2 ++ cTr cI cJ cZ a tr ++ cKn cI cJ cZ a kn ++ cOrd cI cJ cZ a od ++ cTgt cI cJ cZ a tg) → va_S A s.heap H locs → lv_has ls 6 [(0, .ref (a 24)), (1, .ref (a 18)), (2, .int x2_37), (4, .int s37.1)] → W p l e { frames := 5, cells := 0, slots := 0, locals := 112 } s m args below meth c H locs 0 0 (KZ below args s (dC, dI) classes none (cF0 cI cJ cZ a res ++ cTr cI cJ cZ a tr ++ cKn cI cJ cZ a kn ++ cOrd cI cJ cZ a od ++ cTgt cI cJ cZ a tg) A) (F0 m 37 ls []) := by
    intro x2_37 n37
    induction n37 with
    | zero => intro _ _ _ _ h; exact (lp_0 h).elim
    | succ n37 ih37 =>
      intro s37 H locs ls h hP hD hS hl
      have h := lp_s h
      have B86 : ∀ (x4_86 : Int32) (x5_86 : Int32) (fl_86 : FlS) (H : Heap) (locs : List Loc) (ls : Array Slot), f_Fl_flow_b86 false N (lp (f_Fl_flow_L37 false N x2_37 tr kn od tg) n37) x2_37 x4_86 x5_86 fl_86 tr kn od tg = some res → va_P (dC, dI) classes (cF0 cI cJ cZ a fl_86 ++ cTr cI cJ cZ a tr ++ cKn cI cJ cZ a kn ++ cOrd cI cJ cZ a od ++ cTgt cI cJ cZ a tg) H → va_D A (cF0 cI cJ cZ a fl_86 ++ cTr cI cJ cZ a tr ++ cKn cI cJ cZ a kn ++ cOrd cI cJ cZ a od ++ cTgt cI cJ cZ a tg) → va_S A s.heap H locs → lv_has ls 6 [(0, .ref (a 24)), (1, .ref (a 18)), (2, .int x2_37), (4, .int x4_86), (5, .int x5_86)] → W p l e { frames := 5, cells := 0, slots := 0, locals := 112 } s m args below meth c H locs 0 0 (KZ below args s (dC, dI) classes none (cF0 cI cJ cZ a res ++ cTr cI cJ cZ a tr ++ cKn cI cJ cZ a kn ++ cOrd cI cJ cZ a od ++ cTgt cI cJ cZ a tg) A) (F0 m 86 ls []) := by
        intro x4_86 x5_86 fl_86 H locs ls h hP hD hS hl
        refine lv_aload_n hx hb d_Fl_flow_86 rfl (lv_at hl 0 rfl) ?_
        refine lv_dup hx hb d_Fl_flow_87 rfl ?_
        refine va_get (D := (dC, dI)) (ci := 4) (v := .long (Fl_met fl_86)) (C := R_Br) (T := F_Br) (N := 9) hx hb hts inb_Br hown hK hP 0 rfl rfl 3 (by decide) (hts _ tw168) (fun _ h9 => h9) rfl d_Fl_flow_88 ?_
        refine lv_lconst (v := 1) hx hb d_Fl_flow_91 (by decide) ?_
        refine lv_iload hx hb d_Fl_flow_92 (lv_at hl 4 rfl) ?_
        refine lv_lshl hx hb d_Fl_flow_94 rfl ?_
        refine lv_lor hx hb d_Fl_flow_95 ?_
        refine va_put (D := (dC, dI)) (ci := 4) (v := .long ((Fl_met fl_86) ||| ((1 : Int64) <<< (x5_86.toInt64 &&& 63)))) (ty := .long) (C := R_Br) (T := F_Br) (N := 9) hx hb hts inb_Br ft_Br ft_Br_ok n_Br hown hK hP hD hS 0 rfl rfl 3 (by decide) (hts _ tw168) (fun _ h9 => h9) rfl (by decide +kernel) rfl rfl (Nat.le_of_ble_eq_true rfl) d_Fl_flow_96 (fun H locs hP hD hS => ?_)
        have hP : va_P (dC, dI) classes (cF0 cI cJ cZ a ((Fl_open fl_86), ((Fl_met fl_86) ||| ((1 : Int64) <<< (x5_86.toInt64 &&& 63))), (Fl_normal fl_86), (Fl_returning fl_86), (Fl_breaks fl_86), (Fl_continues fl_86), (Fl_thrown fl_86)) ++ cTr cI cJ cZ a tr ++ cKn cI cJ cZ a kn ++ cOrd cI cJ cZ a od ++ cTgt cI cJ cZ a tg) H := hP
        have hD : va_D A (cF0 cI cJ cZ a ((Fl_open fl_86), ((Fl_met fl_86) ||| ((1 : Int64) <<< (x5_86.toInt64 &&& 63))), (Fl_normal fl_86), (Fl_returning fl_86), (Fl_breaks fl_86), (Fl_continues fl_86), (Fl_thrown fl_86)) ++ cTr cI cJ cZ a tr ++ cKn cI cJ cZ a kn ++ cOrd cI cJ cZ a od ++ cTgt cI cJ cZ a tg) := hD
        refine lv_iinc (v := (x4_86 + 1)) (lv' := [(4, .int (x4_86 + 1)), (0, .ref (a 24)), (1, .ref (a 18)), (2, .int x2_37), (5, .int x5_86)]) hx hb d_Fl_flow_99 hl (k := 3) rfl rfl (by decide) rfl (fun ls hl => ?_)
        refine lv_goto (tgt := 37) hx hb d_Fl_flow_102 (by decide) ?_
        exact ih37 ((x4_86 + 1), ((Fl_open fl_86), ((Fl_met fl_86) ||| ((1 : Int64) <<< (x5_86.toInt64 &&& 63))), (Fl_normal fl_86), (Fl_returning fl_86), (Fl_breaks fl_86), (Fl_continues fl_86), (Fl_thrown fl_86))) _ _ _ h hP hD hS (lv_sub hl [1, 2, 3, 0] rfl)
      refine lv_iload hx hb d_Fl_flow_37 (lv_at hl 3 rfl) ?_
      refine lv_iload_n hx hb d_Fl_flow_39 rfl (lv_at hl 2 rfl) ?_
      refine lv_icmp_ge (tgt := 105) hx hb d_Fl_flow_40 (by decide) (fun hc => ?_) (fun hc => ?_)
      · have h := o_t hc h
        cases h
        exact kr_v hx hb hr hlocks hP hD hS d_Fl_flow_105
      · have h := o_f hc h
        refine lv_aload_n hx hb d_Fl_flow_43 rfl (lv_at hl 1 rfl) ?_
        refine lv_iload hx hb d_Fl_flow_44 (lv_at hl 3 rfl) ?_
        obtain ⟨hin, h⟩ := o_in h
        refine va_iald hx hb hK hP 18 0 rfl rfl hin d_Fl_flow_46 ?_
        refine lv_istore (lv' := [(5, .int (od s37.1.toNatClampNeg)), (0, .ref (a 24)), (1, .ref (a 18)), (2, .int x2_37), (4, .int s37.1)]) hx hb d_Fl_flow_47 hl (by decide) rfl (fun ls hl => ?_)
        refine lv_iload hx hb d_Fl_flow_49 (lv_at hl 4 rfl) ?_
        refine lv_if_eq (tgt := 86) hx hb d_Fl_flow_51 (by decide) (fun hc => ?_) (fun hc => ?_)
        · have h := o_t hc h
          exact B86 s37.1 (od s37.1.toNatClampNeg) s37.2 _ _ _ h hP hD hS (lv_sub hl [1, 2, 3, 4, 0] rfl)
        · have h := o_f hc h
          refine lv_aload_n hx hb d_Fl_flow_54 rfl (lv_at hl 1 rfl) ?_
          refine va_get (D := (dC, dI)) (ci := 4) (v := .long (Fl_met s37.2)) (C := R_Br) (T := F_Br) (N := 9) hx hb hts inb_Br hown hK hP 0 rfl rfl 3 (by decide) (hts _ tw168) (fun _ h9 => h9) rfl d_Fl_flow_55 ?_
          refine lv_aload_n hx hb d_Fl_flow_58 rfl (lv_at hl 1 rfl) ?_
          refine va_get (D := (dC, dI)) (ci := 4) (v := .ref (a 4)) (C := R_Br) (T := F_Br) (N := 9) hx hb hts inb_Br hown hK hP 0 rfl rfl 0 (by decide) (hts _ tw159) (fun _ h9 => h9) rfl d_Fl_flow_59 ?_
          refine va_get (D := (dC, dI)) (ci := 1) (v := .ref (a 8)) (C := R_Tr) (T := F_Tr) (N := 14) hx hb hts inb_Tr hown hK hP 4 rfl rfl 7 (by decide) (hts _ tw77) (fun _ h9 => h9) rfl d_Fl_flow_62 ?_
          refine lv_iload hx hb d_Fl_flow_65 (lv_at hl 0 rfl) ?_
          obtain ⟨hin, h⟩ := o_in h
          refine va_iald hx hb hK hP 8 0 rfl rfl hin d_Fl_flow_67 ?_
          obtain ⟨y68, hy, h⟩ := o_bd h
          refine kdSN (nn := 20) (rest := []) (w' := (cF0 cI cJ cZ a s37.2 ++ cTr cI cJ cZ a tr ++ cKn cI cJ cZ a kn ++ cOrd cI cJ cZ a od ++ cTgt cI cJ cZ a tg)) (wr := (cF0 cI cJ cZ a s37.2 ++ cTr cI cJ cZ a tr ++ cKn cI cJ cZ a kn ++ cOrd cI cJ cZ a od ++ cTgt cI cJ cZ a tg)) (st1 := [.int y68]) ⟨hx, hb, hml, hown, hts⟩ (c_Rf_isIn l dC dI cI cJ cZ a (Fl_met s37.2) ((Tr_parent tr) (od s37.1.toNatClampNeg).toNatClampNeg) y68 hy) ⟨va_cnB 2 hts (gd_0 tw34) rfl rfl rfl (hNw _ nw507) (hts _ tw1) hd_Rf_isIn.2 ⟨Nat.le_of_ble_eq_true rfl, Nat.le_of_ble_eq_true rfl⟩, hts _ tw33, trivial⟩ hNw hK hP hD hS hA [] [0, 1, 2, 3, 4, 5, 6, 7, 8, 9, 10, 11, 12, 13, 14, 15, 16, 17, 18, 19] rfl rfl rfl rfl rfl (by decide +kernel) (by decide +kernel) rfl hl.1 rfl (Nat.le_of_ble_eq_true rfl) rfl d_Fl_flow_68 ⟨Nat.zero_le _, Nat.zero_le _⟩ (fun H locs hP hD hS => ?_)
          refine lv_if_eq (tgt := 99) hx hb d_Fl_flow_71 (by decide) (fun hc => ?_) (fun hc => ?_)
          · have h := o_t hc h
            refine lv_iinc (v := (s37.1 + 1)) (lv' := [(4, .int (s37.1 + 1)), (5, .int (od s37.1.toNatClampNeg)), (0, .ref (a 24)), (1, .ref (a 18)), (2, .int x2_37)]) hx hb d_Fl_flow_99 hl (k := 4) rfl rfl (by decide) rfl (fun ls hl => ?_)
            refine lv_goto (tgt := 37) hx hb d_Fl_flow_102 (by decide) ?_
            exact ih37 ((s37.1 + 1), s37.2) _ _ _ h hP hD hS (lv_sub hl [2, 3, 4, 0] rfl)
          · have h := o_f hc h
            refine lv_aload_n hx hb d_Fl_flow_74 rfl (lv_at hl 1 rfl) ?_
            refine va_get (D := (dC, dI)) (ci := 4) (v := .long (Fl_open s37.2)) (C := R_Br) (T := F_Br) (N := 9) hx hb hts inb_Br hown hK hP 0 rfl rfl 2 (by decide) (hts _ tw167) (fun _ h9 => h9) rfl d_Fl_flow_75 ?_
            refine lv_iload hx hb d_Fl_flow_78 (lv_at hl 0 rfl) ?_
            obtain ⟨y80, hy, h⟩ := o_bd h
            refine kdSN (nn := 20) (rest := []) (w' := (cF0 cI cJ cZ a s37.2 ++ cTr cI cJ cZ a tr ++ cKn cI cJ cZ a kn ++ cOrd cI cJ cZ a od ++ cTgt cI cJ cZ a tg)) (wr := (cF0 cI cJ cZ a s37.2 ++ cTr cI cJ cZ a tr ++ cKn cI cJ cZ a kn ++ cOrd cI cJ cZ a od ++ cTgt cI cJ cZ a tg)) (st1 := [.int y80]) ⟨hx, hb, hml, hown, hts⟩ (c_Rf_isIn l dC dI cI cJ cZ a (Fl_open s37.2) (od s37.1.toNatClampNeg) y80 hy) ⟨va_cnB 2 hts (gd_0 tw34) rfl rfl rfl (hNw _ nw507) (hts _ tw1) hd_Rf_isIn.2 ⟨Nat.le_of_ble_eq_true rfl, Nat.le_of_ble_eq_true rfl⟩, hts _ tw33, trivial⟩ hNw hK hP hD hS hA [] [0, 1, 2, 3, 4, 5, 6, 7, 8, 9, 10, 11, 12, 13, 14, 15, 16, 17, 18, 19] rfl rfl rfl rfl rfl (by decide +kernel) (by decide +kernel) rfl hl.1 rfl (Nat.le_of_ble_eq_true rfl) rfl d_Fl_flow_80 ⟨Nat.zero_le _, Nat.zero_le _⟩ (fun H locs hP hD hS => ?_)
            refine lv_if_eq (tgt := 99) hx hb d_Fl_flow_83 (by decide) (fun hc => ?_) (fun hc => ?_)
            · have h := o_t hc h
              refine lv_iinc (v := (s37.1 + 1)) (lv' := [(4, .int (s37.1 + 1)), (5, .int (od s37.1.toNatClampNeg)), (0, .ref (a 24)), (1, .ref (a 18)), (2, .int x2_37)]) hx hb d_Fl_flow_99 hl (k := 4) rfl rfl (by decide) rfl (fun ls hl => ?_)
              refine lv_goto (tgt := 37) hx hb d_Fl_flow_102 (by decide) ?_
              exact ih37 ((s37.1 + 1), s37.2) _ _ _ h hP hD hS (lv_sub hl [2, 3, 4, 0] rfl)
            · have h := o_f hc h
              exact B86 s37.1 (od s37.1.toNatClampNeg) s37.2 _ _ _ h hP hD hS (lv_sub hl [1, 2, 3, 4, 0] rfl)
  have L9 : ∀ (x2_9 : Int32) (n9 : Nat) (s9 : Int32 × FlS) (H : Heap) (locs : List Loc) (ls : Array Slot), lp (f_Fl_flow_L9 false N x2_9 tr kn od tg) n9 s9 = some res → va_P (dC, dI) classes (cF0 cI cJ cZ a s9.2 ++ cTr cI cJ cZ a tr ++ cKn cI cJ cZ a kn ++ cOrd cI cJ cZ a od ++ cTgt cI cJ cZ a tg) H → va_D A (cF0 cI cJ cZ a s9.2 ++ cTr cI cJ cZ a tr ++ cKn cI cJ cZ a kn ++ cOrd cI cJ cZ a od ++ cTgt cI cJ cZ a tg) → va_S A s.heap H locs → lv_has ls 6 [(0, .ref (a 24)), (1, .ref (a 18)), (2, .int x2_9), (3, .ref (a 20)), (4, .int s9.1)] → W p l e { frames := 5, cells := 0, slots := 0, locals := 112 } s m args below meth c H locs 0 0 (KZ below args s (dC, dI) classes none (cF0 cI cJ cZ a res ++ cTr cI cJ cZ a tr ++ cKn cI cJ cZ a kn ++ cOrd cI cJ cZ a od ++ cTgt cI cJ cZ a tg) A) (F0 m 9 ls []) := by
    intro x2_9 n9
    induction n9 with
    | zero => intro _ _ _ _ h; exact (lp_0 h).elim
    | succ n9 ih9 =>
      intro s9 H locs ls h hP hD hS hl
      have h := lp_s h
      refine lv_iload hx hb d_Fl_flow_9 (lv_at hl 4 rfl) ?_
      refine lv_if_lt (tgt := 34) hx hb d_Fl_flow_11 (by decide) (fun hc => ?_) (fun hc => ?_)
      · have h := o_t hc h
        refine lv_iconst (v := 0) hx hb d_Fl_flow_34 (by decide) ?_
        refine lv_istore (lv' := [(4, .int (0 : Int32)), (0, .ref (a 24)), (1, .ref (a 18)), (2, .int x2_9), (3, .ref (a 20))]) hx hb d_Fl_flow_35 hl (by decide) rfl (fun ls hl => ?_)
        exact L37 x2_9 N ((0 : Int32), s9.2) _ _ _ h hP hD hS (lv_sub hl [1, 2, 3, 0] rfl)
      · have h := o_f hc h
        refine lv_aload_n hx hb d_Fl_flow_14 rfl (lv_at hl 0 rfl) ?_
        refine lv_aload_n hx hb d_Fl_flow_15 rfl (lv_at hl 1 rfl) ?_
        refine lv_iload hx hb d_Fl_flow_16 (lv_at hl 4 rfl) ?_
        obtain ⟨hin, h⟩ := o_in h
        refine va_iald hx hb hK hP 18 0 rfl rfl hin d_Fl_flow_18 ?_
        refine lv_aload_n hx hb d_Fl_flow_19 rfl (lv_at hl 3 rfl) ?_
        refine lv_aload_n hx hb d_Fl_flow_20 rfl (lv_at hl 1 rfl) ?_
        refine lv_iload hx hb d_Fl_flow_21 (lv_at hl 4 rfl) ?_
        obtain ⟨hin, h⟩ := o_in h
        refine va_iald hx hb hK hP 18 0 rfl rfl hin d_Fl_flow_23 ?_
        obtain ⟨hin, h⟩ := o_in h
        refine va_iald hx hb hK hP 19 0 rfl rfl hin d_Fl_flow_24 ?_
        obtain ⟨y25, hy, h⟩ := o_bd h
        refine kdU (nn := 20) (rest := []) (w' := (cF0 cI cJ cZ a y25 ++ cTr cI cJ cZ a tr ++ cKn cI cJ cZ a kn ++ cOrd cI cJ cZ a od ++ cTgt cI cJ cZ a tg)) (wr := (cOrd cI cJ cZ a od ++ cTgt cI cJ cZ a tg)) (st1 := []) ⟨hx, hb, hml, hown, hts⟩ (c_Fl_settle_0 l dC dI cI cJ cZ a N (od s9.1.toNatClampNeg) (tg (od s9.1.toNatClampNeg).toNatClampNeg) s9.2 tr kn y25 hy) (va_cwU 2 hts (gd_U tw480 tw1069 xs0 tw482 tw6 tw483) rfl rfl rfl rfl hdU_settle ⟨Nat.le_of_ble_eq_true rfl, Nat.le_of_ble_eq_true rfl⟩) hNw hK hP hD hS hA (ci := 4) rfl rfl rfl [0, 1, 2, 3, 4, 5, 6, 7, 8, 9, 10, 11, 12, 13, 14, 15, 16, 17] [18, 19] rfl rfl rfl rfl rfl (by decide +kernel) (by decide +kernel) rfl hl.1 rfl (Nat.le_of_ble_eq_true rfl) rfl d_Fl_flow_25 ⟨Nat.zero_le _, Nat.zero_le _⟩ (fun H locs hP hD hS => ?_)
        refine lv_iinc (v := (s9.1 + (-1))) (lv' := [(4, .int (s9.1 + (-1))), (0, .ref (a 24)), (1, .ref (a 18)), (2, .int x2_9), (3, .ref (a 20))]) hx hb d_Fl_flow_28 hl (k := 4) rfl rfl (by decide) rfl (fun ls hl => ?_)
        refine lv_goto (tgt := 9) hx hb d_Fl_flow_31 (by decide) ?_
        exact ih9 ((s9.1 + (-1)), y25) _ _ _ h hP hD hS (lv_sub hl [1, 2, 3, 4, 0] rfl)
  refine lv_aload_n hx hb d_Fl_flow_0 rfl (lv_at hl 0 rfl) ?_
  obtain ⟨y1, hy, h⟩ := o_bd h
  refine kdU (nn := 20) (rest := []) (w' := (cF0 cI cJ cZ a y1 ++ cTr cI cJ cZ a tr ++ cKn cI cJ cZ a kn ++ cOrd cI cJ cZ a od ++ cTgt cI cJ cZ a tg)) (wr := (cTr cI cJ cZ a tr ++ cKn cI cJ cZ a kn ++ cOrd cI cJ cZ a od ++ cTgt cI cJ cZ a tg)) (st1 := []) ⟨hx, hb, hml, hown, hts⟩ (c_Fl_forget_0 l dC dI cI cJ cZ a fl y1 hy) (va_cwU 0 hts (gd_U tw479 tw216 tw217 tw215 tw6 tw219) rfl rfl rfl rfl hdU_forget ⟨Nat.le_of_ble_eq_true rfl, Nat.le_of_ble_eq_true rfl⟩) hNw hK hP hD hS hA (ci := 4) rfl rfl rfl [0, 1, 2, 3] [4, 5, 6, 7, 8, 9, 10, 11, 12, 13, 14, 15, 16, 17, 18, 19] rfl rfl rfl rfl rfl (by decide +kernel) (by decide +kernel) rfl hl.1 rfl (Nat.le_of_ble_eq_true rfl) rfl d_Fl_flow_1 ⟨Nat.zero_le _, Nat.zero_le _⟩ (fun H locs hP hD hS => ?_)
  refine lv_iload_n hx hb d_Fl_flow_4 rfl (lv_at hl 2 rfl) ?_
  refine lv_iconst (v := 1) hx hb d_Fl_flow_5 (by decide) ?_
  refine lv_isub hx hb d_Fl_flow_6 ?_
  refine lv_istore (lv' := [(4, .int (x2 - (1 : Int32))), (0, .ref (a 24)), (1, .ref (a 18)), (2, .int x2), (3, .ref (a 20))]) hx hb d_Fl_flow_7 hl (by decide) rfl (fun ls hl => ?_)
  exact L9 x2 N ((x2 - (1 : Int32)), y1) _ _ _ h hP hD hS (lv_sub hl [1, 2, 3, 4, 0] rfl)
set_option maxHeartbeats 4000000 in
set_option maxRecDepth 100000 in
theorem c_Fl_meets_0 (l : Launch) (dC : Nat → ClassId) (dI : Nat → Nat → Nat) (cI cJ cZ : ClassId) (a : Nat → Nat) (x1 : Int32) (fl : FlS) (res : Int32) (h : f_Fl_meets x1 fl = some res) :
    Kt l (dC, dI) classes [(cI, .int), (cJ, .long), (cZ, .boolean)] y_Fl_meets (wz y_Fl_meets b_Fl_meets 2 (some .boolean)) { frames := 1, cells := 0, slots := 0, locals := 22 } [.ref (a 24), .int x1] (cF0 cI cJ cZ a fl) (some (.int res)) (cF0 cI cJ cZ a fl) := by
  refine Kt_of (cc := b_Fl_meets) (maxL := 2) (ret := (some .boolean)) (by decide) (Nat.le_of_ble_eq_true rfl) ?_
  intro p e s m args below meth c A ls hx hb hr hml hlocks hown hts hNw hK hP hD hA hS hl
  have hl : lv_has ls 2 [(0, .ref (a 24)), (1, .int x1)] := hl
  have hP : va_P (dC, dI) classes (cF0 cI cJ cZ a fl) s.heap := hP
  refine lv_aload_n hx hb d_Fl_meets_0 rfl (lv_at hl 0 rfl) ?_
  refine va_get (D := (dC, dI)) (ci := 4) (v := .long (Fl_met fl)) (C := R_Br) (T := F_Br) (N := 9) hx hb hts inb_Br hown hK hP 0 rfl rfl 3 (by decide) (hts _ tw168) (fun _ h9 => h9) rfl d_Fl_meets_1 ?_
  refine lv_iload_n hx hb d_Fl_meets_4 rfl (lv_at hl 1 rfl) ?_
  obtain ⟨y5, hy, h⟩ := o_bd h
  refine kdSN (nn := 4) (rest := []) (w' := (cF0 cI cJ cZ a fl)) (wr := (cF0 cI cJ cZ a fl)) (st1 := [.int y5]) ⟨hx, hb, hml, hown, hts⟩ (c_Rf_isIn l dC dI cI cJ cZ a (Fl_met fl) x1 y5 hy) ⟨va_cnB 2 hts (gd_0 tw34) rfl rfl rfl (hNw _ nw507) (hts _ tw1) hd_Rf_isIn.2 ⟨Nat.le_of_ble_eq_true rfl, Nat.le_of_ble_eq_true rfl⟩, hts _ tw33, trivial⟩ hNw hK hP hD hS hA [] [0, 1, 2, 3] rfl rfl rfl rfl rfl (by decide +kernel) (by decide +kernel) rfl hl.1 rfl (Nat.le_of_ble_eq_true rfl) rfl d_Fl_meets_5 ⟨Nat.zero_le _, Nat.zero_le _⟩ (fun H locs hP hD hS => ?_)
  obtain ⟨hbo, h⟩ := o_bo h
  cases h
  exact kr_z hx hb hr hbo hlocks hP hD hS d_Fl_meets_8
set_option maxHeartbeats 4000000 in
set_option maxRecDepth 100000 in
theorem c_Fl_endsBy_0 (l : Launch) (dC : Nat → ClassId) (dI : Nat → Nat → Nat) (cI cJ cZ : ClassId) (a : Nat → Nat) (x1 : Int32) (x2 : Int32) (x3 : Int32) (fl : FlS) (res : Int32) (h : f_Fl_endsBy x1 x2 x3 fl = some res) :
    Kt l (dC, dI) classes [(cI, .int), (cJ, .long), (cZ, .boolean)] y_Fl_endsBy (wz y_Fl_endsBy b_Fl_endsBy 4 (some .boolean)) { frames := 1, cells := 0, slots := 0, locals := 22 } [.ref (a 24), .int x1, .int x2, .int x3] (cF0 cI cJ cZ a fl) (some (.int res)) (cF0 cI cJ cZ a fl) := by
  refine Kt_of (cc := b_Fl_endsBy) (maxL := 4) (ret := (some .boolean)) (by decide) (Nat.le_of_ble_eq_true rfl) ?_
  intro p e s m args below meth c A ls hx hb hr hml hlocks hown hts hNw hK hP hD hA hS hl
  have hl : lv_has ls 4 [(0, .ref (a 24)), (1, .int x1), (2, .int x2), (3, .int x3)] := hl
  have hP : va_P (dC, dI) classes (cF0 cI cJ cZ a fl) s.heap := hP
  refine lv_iload_n hx hb d_Fl_endsBy_0 rfl (lv_at hl 2 rfl) ?_
  refine sw_by (x := x2) (k := 0) (fun hc => ?_) (fun hn0 => ?_)
  · have h := o_t hc h
    refine sw_in (x := x2) (k := 0) hc (lv_tableIn (tgt := 32) hx hb d_Fl_endsBy_1 (by decide) (by decide) (by rfl) (by decide) ?_)
    refine lv_aload_n hx hb d_Fl_endsBy_32 rfl (lv_at hl 0 rfl) ?_
    refine va_get (D := (dC, dI)) (ci := 4) (v := .long (Fl_normal fl)) (C := R_Br) (T := F_Br) (N := 9) hx hb hts inb_Br hown hK hP 0 rfl rfl 4 (by decide) (hts _ tw169) (fun _ h9 => h9) rfl d_Fl_endsBy_33 ?_
    refine lv_iload_n hx hb d_Fl_endsBy_36 rfl (lv_at hl 1 rfl) ?_
    obtain ⟨y37, hy, h⟩ := o_bd h
    refine kdSN (nn := 4) (rest := []) (w' := (cF0 cI cJ cZ a fl)) (wr := (cF0 cI cJ cZ a fl)) (st1 := [.int y37]) ⟨hx, hb, hml, hown, hts⟩ (c_Rf_isIn l dC dI cI cJ cZ a (Fl_normal fl) x1 y37 hy) ⟨va_cnB 2 hts (gd_0 tw34) rfl rfl rfl (hNw _ nw507) (hts _ tw1) hd_Rf_isIn.2 ⟨Nat.le_of_ble_eq_true rfl, Nat.le_of_ble_eq_true rfl⟩, hts _ tw33, trivial⟩ hNw hK hP hD hS hA [] [0, 1, 2, 3] rfl rfl rfl rfl rfl (by decide +kernel) (by decide +kernel) rfl hl.1 rfl (Nat.le_of_ble_eq_true rfl) rfl d_Fl_endsBy_37 ⟨Nat.zero_le _, Nat.zero_le _⟩ (fun H locs hP hD hS => ?_)
    obtain ⟨hbo, h⟩ := o_bo h
    cases h
    exact kr_z hx hb hr hbo hlocks hP hD hS d_Fl_endsBy_40
  · have h := o_f hn0 h
    refine sw_by (x := x2) (k := 1) (fun hc => ?_) (fun hn1 => ?_)
    · have h := o_t hc h
      refine sw_in (x := x2) (k := 1) hc (lv_tableIn (tgt := 41) hx hb d_Fl_endsBy_1 (by decide) (by decide) (by rfl) (by decide) ?_)
      refine lv_aload_n hx hb d_Fl_endsBy_41 rfl (lv_at hl 0 rfl) ?_
      refine va_get (D := (dC, dI)) (ci := 4) (v := .long (Fl_returning fl)) (C := R_Br) (T := F_Br) (N := 9) hx hb hts inb_Br hown hK hP 0 rfl rfl 5 (by decide) (hts _ tw170) (fun _ h9 => h9) rfl d_Fl_endsBy_42 ?_
      refine lv_iload_n hx hb d_Fl_endsBy_45 rfl (lv_at hl 1 rfl) ?_
      obtain ⟨y46, hy, h⟩ := o_bd h
      refine kdSN (nn := 4) (rest := []) (w' := (cF0 cI cJ cZ a fl)) (wr := (cF0 cI cJ cZ a fl)) (st1 := [.int y46]) ⟨hx, hb, hml, hown, hts⟩ (c_Rf_isIn l dC dI cI cJ cZ a (Fl_returning fl) x1 y46 hy) ⟨va_cnB 2 hts (gd_0 tw34) rfl rfl rfl (hNw _ nw507) (hts _ tw1) hd_Rf_isIn.2 ⟨Nat.le_of_ble_eq_true rfl, Nat.le_of_ble_eq_true rfl⟩, hts _ tw33, trivial⟩ hNw hK hP hD hS hA [] [0, 1, 2, 3] rfl rfl rfl rfl rfl (by decide +kernel) (by decide +kernel) rfl hl.1 rfl (Nat.le_of_ble_eq_true rfl) rfl d_Fl_endsBy_46 ⟨Nat.zero_le _, Nat.zero_le _⟩ (fun H locs hP hD hS => ?_)
      obtain ⟨hbo, h⟩ := o_bo h
      cases h
      exact kr_z hx hb hr hbo hlocks hP hD hS d_Fl_endsBy_49
    · have h := o_f hn1 h
      refine sw_by (x := x2) (k := 2) (fun hc => ?_) (fun hn2 => ?_)
      · have h := o_t hc h
        refine sw_in (x := x2) (k := 2) hc (lv_tableIn (tgt := 50) hx hb d_Fl_endsBy_1 (by decide) (by decide) (by rfl) (by decide) ?_)
        refine lv_aload_n hx hb d_Fl_endsBy_50 rfl (lv_at hl 0 rfl) ?_
        refine va_get (D := (dC, dI)) (ci := 4) (v := .ref (a 25)) (C := R_Br) (T := F_Br) (N := 9) hx hb hts inb_Br hown hK hP 0 rfl rfl 6 (by decide) (hts _ tw171) (fun _ h9 => h9) rfl d_Fl_endsBy_51 ?_
        refine lv_iload_n hx hb d_Fl_endsBy_54 rfl (lv_at hl 1 rfl) ?_
        obtain ⟨hin, h⟩ := o_in h
        refine va_lald hx hb hK hP 1 1 rfl rfl hin d_Fl_endsBy_55 ?_
        refine lv_iload_n hx hb d_Fl_endsBy_56 rfl (lv_at hl 3 rfl) ?_
        obtain ⟨y57, hy, h⟩ := o_bd h
        refine kdSN (nn := 4) (rest := []) (w' := (cF0 cI cJ cZ a fl)) (wr := (cF0 cI cJ cZ a fl)) (st1 := [.int y57]) ⟨hx, hb, hml, hown, hts⟩ (c_Rf_isIn l dC dI cI cJ cZ a ((Fl_breaks fl) x1.toNatClampNeg) x3 y57 hy) ⟨va_cnB 2 hts (gd_0 tw34) rfl rfl rfl (hNw _ nw507) (hts _ tw1) hd_Rf_isIn.2 ⟨Nat.le_of_ble_eq_true rfl, Nat.le_of_ble_eq_true rfl⟩, hts _ tw33, trivial⟩ hNw hK hP hD hS hA [] [0, 1, 2, 3] rfl rfl rfl rfl rfl (by decide +kernel) (by decide +kernel) rfl hl.1 rfl (Nat.le_of_ble_eq_true rfl) rfl d_Fl_endsBy_57 ⟨Nat.zero_le _, Nat.zero_le _⟩ (fun H locs hP hD hS => ?_)
        obtain ⟨hbo, h⟩ := o_bo h
        cases h
        exact kr_z hx hb hr hbo hlocks hP hD hS d_Fl_endsBy_60
      · have h := o_f hn2 h
        refine sw_by (x := x2) (k := 3) (fun hc => ?_) (fun hn3 => ?_)
        · have h := o_t hc h
          refine sw_in (x := x2) (k := 3) hc (lv_tableIn (tgt := 61) hx hb d_Fl_endsBy_1 (by decide) (by decide) (by rfl) (by decide) ?_)
          refine lv_aload_n hx hb d_Fl_endsBy_61 rfl (lv_at hl 0 rfl) ?_
          refine va_get (D := (dC, dI)) (ci := 4) (v := .ref (a 26)) (C := R_Br) (T := F_Br) (N := 9) hx hb hts inb_Br hown hK hP 0 rfl rfl 7 (by decide) (hts _ tw172) (fun _ h9 => h9) rfl d_Fl_endsBy_62 ?_
          refine lv_iload_n hx hb d_Fl_endsBy_65 rfl (lv_at hl 1 rfl) ?_
          obtain ⟨hin, h⟩ := o_in h
          refine va_lald hx hb hK hP 2 1 rfl rfl hin d_Fl_endsBy_66 ?_
          refine lv_iload_n hx hb d_Fl_endsBy_67 rfl (lv_at hl 3 rfl) ?_
          obtain ⟨y68, hy, h⟩ := o_bd h
          refine kdSN (nn := 4) (rest := []) (w' := (cF0 cI cJ cZ a fl)) (wr := (cF0 cI cJ cZ a fl)) (st1 := [.int y68]) ⟨hx, hb, hml, hown, hts⟩ (c_Rf_isIn l dC dI cI cJ cZ a ((Fl_continues fl) x1.toNatClampNeg) x3 y68 hy) ⟨va_cnB 2 hts (gd_0 tw34) rfl rfl rfl (hNw _ nw507) (hts _ tw1) hd_Rf_isIn.2 ⟨Nat.le_of_ble_eq_true rfl, Nat.le_of_ble_eq_true rfl⟩, hts _ tw33, trivial⟩ hNw hK hP hD hS hA [] [0, 1, 2, 3] rfl rfl rfl rfl rfl (by decide +kernel) (by decide +kernel) rfl hl.1 rfl (Nat.le_of_ble_eq_true rfl) rfl d_Fl_endsBy_68 ⟨Nat.zero_le _, Nat.zero_le _⟩ (fun H locs hP hD hS => ?_)
          obtain ⟨hbo, h⟩ := o_bo h
          cases h
          exact kr_z hx hb hr hbo hlocks hP hD hS d_Fl_endsBy_71
        · have h := o_f hn3 h
          refine lv_tableOut (tgt := 72) hx hb d_Fl_endsBy_1 (by have g0 := sw_ne hn0 (show (0 : Int32).toInt = 0 by decide); have g1 := sw_ne hn1 (show (1 : Int32).toInt = 1 by decide); have g2 := sw_ne hn2 (show (2 : Int32).toInt = 2 by decide); have g3 := sw_ne hn3 (show (3 : Int32).toInt = 3 by decide); omega) (by decide) ?_
          refine lv_aload_n hx hb d_Fl_endsBy_72 rfl (lv_at hl 0 rfl) ?_
          refine va_get (D := (dC, dI)) (ci := 4) (v := .ref (a 27)) (C := R_Br) (T := F_Br) (N := 9) hx hb hts inb_Br hown hK hP 0 rfl rfl 8 (by decide) (hts _ tw173) (fun _ h9 => h9) rfl d_Fl_endsBy_73 ?_
          refine lv_iload_n hx hb d_Fl_endsBy_76 rfl (lv_at hl 1 rfl) ?_
          obtain ⟨hin, h⟩ := o_in h
          refine va_iald hx hb hK hP 3 0 rfl rfl hin d_Fl_endsBy_77 ?_
          refine lv_i2l hx hb d_Fl_endsBy_78 rfl ?_
          refine lv_iload_n hx hb d_Fl_endsBy_79 rfl (lv_at hl 3 rfl) ?_
          obtain ⟨y80, hy, h⟩ := o_bd h
          refine kdSN (nn := 4) (rest := []) (w' := (cF0 cI cJ cZ a fl)) (wr := (cF0 cI cJ cZ a fl)) (st1 := [.int y80]) ⟨hx, hb, hml, hown, hts⟩ (c_Rf_isIn l dC dI cI cJ cZ a (((Fl_thrown fl) x1.toNatClampNeg).toInt64) x3 y80 hy) ⟨va_cnB 2 hts (gd_0 tw34) rfl rfl rfl (hNw _ nw507) (hts _ tw1) hd_Rf_isIn.2 ⟨Nat.le_of_ble_eq_true rfl, Nat.le_of_ble_eq_true rfl⟩, hts _ tw33, trivial⟩ hNw hK hP hD hS hA [] [0, 1, 2, 3] rfl rfl rfl rfl rfl (by decide +kernel) (by decide +kernel) rfl hl.1 rfl (Nat.le_of_ble_eq_true rfl) rfl d_Fl_endsBy_80 ⟨Nat.zero_le _, Nat.zero_le _⟩ (fun H locs hP hD hS => ?_)
          obtain ⟨hbo, h⟩ := o_bo h
          cases h
          exact kr_z hx hb hr hbo hlocks hP hD hS d_Fl_endsBy_83
set_option maxHeartbeats 4000000 in
set_option maxRecDepth 100000 in
theorem c_Fl_endsSomehow_0 (l : Launch) (dC : Nat → ClassId) (dI : Nat → Nat → Nat) (cI cJ cZ : ClassId) (a : Nat → Nat) (x1 : Int32) (fl : FlS) (res : Int32) (h : f_Fl_endsSomehow x1 fl = some res) :
    Kt l (dC, dI) classes [(cI, .int), (cJ, .long), (cZ, .boolean)] y_Fl_endsSomehow (wz y_Fl_endsSomehow b_Fl_endsSomehow 2 (some .boolean)) { frames := 1, cells := 0, slots := 0, locals := 22 } [.ref (a 24), .int x1] (cF0 cI cJ cZ a fl) (some (.int res)) (cF0 cI cJ cZ a fl) := by
  refine Kt_of (cc := b_Fl_endsSomehow) (maxL := 2) (ret := (some .boolean)) (by decide) (Nat.le_of_ble_eq_true rfl) ?_
  intro p e s m args below meth c A ls hx hb hr hml hlocks hown hts hNw hK hP hD hA hS hl
  have hl : lv_has ls 2 [(0, .ref (a 24)), (1, .int x1)] := hl
  have hP : va_P (dC, dI) classes (cF0 cI cJ cZ a fl) s.heap := hP
  refine lv_aload_n hx hb d_Fl_endsSomehow_0 rfl (lv_at hl 0 rfl) ?_
  refine va_get (D := (dC, dI)) (ci := 4) (v := .long (Fl_normal fl)) (C := R_Br) (T := F_Br) (N := 9) hx hb hts inb_Br hown hK hP 0 rfl rfl 4 (by decide) (hts _ tw169) (fun _ h9 => h9) rfl d_Fl_endsSomehow_1 ?_
  refine lv_aload_n hx hb d_Fl_endsSomehow_4 rfl (lv_at hl 0 rfl) ?_
  refine va_get (D := (dC, dI)) (ci := 4) (v := .long (Fl_returning fl)) (C := R_Br) (T := F_Br) (N := 9) hx hb hts inb_Br hown hK hP 0 rfl rfl 5 (by decide) (hts _ tw170) (fun _ h9 => h9) rfl d_Fl_endsSomehow_5 ?_
  refine lv_lor hx hb d_Fl_endsSomehow_8 ?_
  refine lv_iload_n hx hb d_Fl_endsSomehow_9 rfl (lv_at hl 1 rfl) ?_
  obtain ⟨y10, hy, h⟩ := o_bd h
  refine kdSN (nn := 4) (rest := []) (w' := (cF0 cI cJ cZ a fl)) (wr := (cF0 cI cJ cZ a fl)) (st1 := [.int y10]) ⟨hx, hb, hml, hown, hts⟩ (c_Rf_isIn l dC dI cI cJ cZ a ((Fl_normal fl) ||| (Fl_returning fl)) x1 y10 hy) ⟨va_cnB 2 hts (gd_0 tw34) rfl rfl rfl (hNw _ nw507) (hts _ tw1) hd_Rf_isIn.2 ⟨Nat.le_of_ble_eq_true rfl, Nat.le_of_ble_eq_true rfl⟩, hts _ tw33, trivial⟩ hNw hK hP hD hS hA [] [0, 1, 2, 3] rfl rfl rfl rfl rfl (by decide +kernel) (by decide +kernel) rfl hl.1 rfl (Nat.le_of_ble_eq_true rfl) rfl d_Fl_endsSomehow_10 ⟨Nat.zero_le _, Nat.zero_le _⟩ (fun H locs hP hD hS => ?_)
  refine lv_if_ne (tgt := 42) hx hb d_Fl_endsSomehow_13 (by decide) (fun hc => ?_) (fun hc => ?_)
  · have h := o_f hc h
    refine lv_iconst (v := 1) hx hb d_Fl_endsSomehow_42 (by decide) ?_
    refine lv_goto (tgt := 47) hx hb d_Fl_endsSomehow_43 (by decide) ?_
    cases h
    exact kr_z hx hb hr (by decide) hlocks hP hD hS d_Fl_endsSomehow_47
  · have h := o_t hc h
    refine lv_aload_n hx hb d_Fl_endsSomehow_16 rfl (lv_at hl 0 rfl) ?_
    refine va_get (D := (dC, dI)) (ci := 4) (v := .ref (a 25)) (C := R_Br) (T := F_Br) (N := 9) hx hb hts inb_Br hown hK hP 0 rfl rfl 6 (by decide) (hts _ tw171) (fun _ h9 => h9) rfl d_Fl_endsSomehow_17 ?_
    refine lv_iload_n hx hb d_Fl_endsSomehow_20 rfl (lv_at hl 1 rfl) ?_
    obtain ⟨hin, h⟩ := o_in h
    refine va_lald hx hb hK hP 1 1 rfl rfl hin d_Fl_endsSomehow_21 ?_
    refine lv_aload_n hx hb d_Fl_endsSomehow_22 rfl (lv_at hl 0 rfl) ?_
    refine va_get (D := (dC, dI)) (ci := 4) (v := .ref (a 26)) (C := R_Br) (T := F_Br) (N := 9) hx hb hts inb_Br hown hK hP 0 rfl rfl 7 (by decide) (hts _ tw172) (fun _ h9 => h9) rfl d_Fl_endsSomehow_23 ?_
    refine lv_iload_n hx hb d_Fl_endsSomehow_26 rfl (lv_at hl 1 rfl) ?_
    obtain ⟨hin, h⟩ := o_in h
    refine va_lald hx hb hK hP 2 1 rfl rfl hin d_Fl_endsSomehow_27 ?_
    refine lv_lor hx hb d_Fl_endsSomehow_28 ?_
    refine lv_aload_n hx hb d_Fl_endsSomehow_29 rfl (lv_at hl 0 rfl) ?_
    refine va_get (D := (dC, dI)) (ci := 4) (v := .ref (a 27)) (C := R_Br) (T := F_Br) (N := 9) hx hb hts inb_Br hown hK hP 0 rfl rfl 8 (by decide) (hts _ tw173) (fun _ h9 => h9) rfl d_Fl_endsSomehow_30 ?_
    refine lv_iload_n hx hb d_Fl_endsSomehow_33 rfl (lv_at hl 1 rfl) ?_
    obtain ⟨hin, h⟩ := o_in h
    refine va_iald hx hb hK hP 3 0 rfl rfl hin d_Fl_endsSomehow_34 ?_
    refine lv_i2l hx hb d_Fl_endsSomehow_35 rfl ?_
    refine lv_lor hx hb d_Fl_endsSomehow_36 ?_
    refine lv_lconst (v := 0) hx hb d_Fl_endsSomehow_37 (by decide) ?_
    refine W.lcmp hx hb d_Fl_endsSomehow_38 ?_
    refine lv_if_eq (tgt := 46) hx hb d_Fl_endsSomehow_39 (by decide) (fun hc => ?_) (fun hc => ?_)
    · have h := o_t hc h
      refine lv_iconst (v := 0) hx hb d_Fl_endsSomehow_46 (by decide) ?_
      cases h
      exact kr_z hx hb hr (by decide) hlocks hP hD hS d_Fl_endsSomehow_47
    · have h := o_f hc h
      refine lv_iconst (v := 1) hx hb d_Fl_endsSomehow_42 (by decide) ?_
      refine lv_goto (tgt := 47) hx hb d_Fl_endsSomehow_43 (by decide) ?_
      cases h
      exact kr_z hx hb hr (by decide) hlocks hP hD hS d_Fl_endsSomehow_47
