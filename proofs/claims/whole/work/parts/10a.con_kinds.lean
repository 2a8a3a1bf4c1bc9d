set_option maxHeartbeats 4000000 in
set_option maxRecDepth 100000 in
theorem c_Kn_addBelow (l : Launch) (dC : Nat → ClassId) (dI : Nat → Nat → Nat) (cI cJ cZ : ClassId) (a : Nat → Nat) (N : Nat) (x1 : Int32) (kn : KnS) (res : Int32 × KnS) (h : f_Kn_addBelow N x1 kn = some res) :
    Kt l (dC, dI) classes [(cI, .int), (cJ, .long), (cZ, .boolean)] y_Kn_addBelow (wz y_Kn_addBelow b_Kn_addBelow 4 (some .int)) { frames := 1, cells := 0, slots := 0, locals := 22 } [.ref (a 1), .int x1] (cKn cI cJ cZ a kn) (some (.int res.1)) (cKn cI cJ cZ a res.2) := by
  refine Kt_of (cc := b_Kn_addBelow) (maxL := 4) (ret := (some .int)) (by decide) (Nat.le_of_ble_eq_true rfl) ?_
  intro p e s m args below meth c A ls hx hb hr hml hlocks hown hts hNw hK hP hD hA hS hl
  have hl : lv_has ls 4 [(0, .ref (a 1)), (1, .int x1)] := hl
  have hP : va_P (dC, dI) classes (cKn cI cJ cZ a kn) s.heap := hP
  have L40 : ∀ (x2_40 : Int32) (n40 : Nat) (s40 : Int32 × KnS) (H : Heap) (locs : List Loc) (ls : Array Slot), lp (f_Kn_addBelow_L40 N x2_40) n40 s40 = some res → va_P (dC, dI) classes (cKn cI cJ cZ a s40.2) H → va_D A (cKn cI cJ cZ a s40.2) → va_S A s.heap H locs → lv_has ls 4 [(0, .ref (a 1)), (2, .int x2_40), (3, .int s40.1)] → W p l e { frames := 1, cells := 0, slots := 0, locals := 22 } s m args below meth c H locs 0 0 (KZ below args s (dC, dI) classes (some (.int res.1)) (cKn cI cJ cZ a res.2) A) (F0 m 40 ls []) := by
    intro x2_40 n40
    induction n40 with
    | zero => intro _ _ _ _ h; exact (lp_0 h).elim
    | succ n40 ih40 =>
      intro s40 H locs ls h hP hD hS hl
      have h := lp_s h
      refine lv_iload_n hx hb d_Kn_addBelow_40 rfl (lv_at hl 2 rfl) ?_
      refine lv_iload_n hx hb d_Kn_addBelow_41 rfl (lv_at hl 1 rfl) ?_
      refine lv_icmp_gt (tgt := 77) hx hb d_Kn_addBelow_42 (by decide) (fun hc => ?_) (fun hc => ?_)
      · have h := o_t hc h
        refine lv_iload_n hx hb d_Kn_addBelow_77 rfl (lv_at hl 1 rfl) ?_
        cases h
        exact kr_i hx hb hr hlocks hP hD hS d_Kn_addBelow_78
      · have h := o_f hc h
        refine lv_aload_n hx hb d_Kn_addBelow_45 rfl (lv_at hl 0 rfl) ?_
        refine va_get (D := (dC, dI)) (ci := 0) (v := .ref (a 3)) (C := R_Kn) (T := F_Kn) (N := 3) hx hb hts inb_Kn hown hK hP 0 rfl rfl 2 (by decide) (hts _ tw41) (fun _ h9 => h9) rfl d_Kn_addBelow_46 ?_
        refine lv_iload_n hx hb d_Kn_addBelow_49 rfl (lv_at hl 1 rfl) ?_
        obtain ⟨hin, h⟩ := o_in h
        refine va_iald hx hb hK hP 2 0 rfl rfl hin d_Kn_addBelow_50 ?_
        refine lv_i2l hx hb d_Kn_addBelow_51 rfl ?_
        refine lv_iload_n hx hb d_Kn_addBelow_52 rfl (lv_at hl 2 rfl) ?_
        obtain ⟨y53, hy, h⟩ := o_bd h
        refine kdSN (nn := 3) (rest := []) (w' := (cKn cI cJ cZ a s40.2)) (wr := (cKn cI cJ cZ a s40.2)) (st1 := [.int y53]) ⟨hx, hb, hml, hown, hts⟩ (c_Rf_isIn l dC dI cI cJ cZ a (((Kn_over s40.2) x2_40.toNatClampNeg).toInt64) s40.1 y53 hy) ⟨va_cnB 2 hts (gd_0 tw34) rfl rfl rfl (hNw _ nw32) (hts _ tw1) hd_Rf_isIn.2 ⟨Nat.le_of_ble_eq_true rfl, Nat.le_of_ble_eq_true rfl⟩, hts _ tw33, trivial⟩ hNw hK hP hD hS hA [] [0, 1, 2] rfl rfl rfl rfl rfl (by decide +kernel) (by decide +kernel) rfl hl.1 rfl (Nat.le_of_ble_eq_true rfl) rfl d_Kn_addBelow_53 ⟨Nat.zero_le _, Nat.zero_le _⟩ (fun H locs hP hD hS => ?_)
        refine lv_if_eq (tgt := 71) hx hb d_Kn_addBelow_56 (by decide) (fun hc => ?_) (fun hc => ?_)
        · have h := o_t hc h
          refine lv_iinc (v := (s40.1 + 1)) (lv' := [(3, .int (s40.1 + 1)), (0, .ref (a 1)), (2, .int x2_40)]) hx hb d_Kn_addBelow_71 hl (k := 2) rfl rfl (by decide) rfl (fun ls hl => ?_)
          refine lv_goto (tgt := 40) hx hb d_Kn_addBelow_74 (by decide) ?_
          exact ih40 ((s40.1 + 1), s40.2) _ _ _ h hP hD hS (lv_sub hl [1, 2, 0] rfl)
        · have h := o_f hc h
          refine lv_aload_n hx hb d_Kn_addBelow_59 rfl (lv_at hl 0 rfl) ?_
          refine va_get (D := (dC, dI)) (ci := 0) (v := .ref (a 2)) (C := R_Kn) (T := F_Kn) (N := 3) hx hb hts inb_Kn hown hK hP 0 rfl rfl 1 (by decide) (hts _ tw37) (fun _ h9 => h9) rfl d_Kn_addBelow_60 ?_
          refine lv_iload_n hx hb d_Kn_addBelow_63 rfl (lv_at hl 2 rfl) ?_
          refine lv_dup2_11 hx hb d_Kn_addBelow_64 rfl rfl ?_
          obtain ⟨hin, h⟩ := o_in h
          refine va_iald hx hb hK hP 1 0 rfl rfl hin d_Kn_addBelow_65 ?_
          refine lv_iconst (v := 1) hx hb d_Kn_addBelow_66 (by decide) ?_
          refine lv_iload_n hx hb d_Kn_addBelow_67 rfl (lv_at hl 1 rfl) ?_
          refine lv_ishl hx hb d_Kn_addBelow_68 ?_
          refine lv_ior hx hb d_Kn_addBelow_69 ?_
          obtain ⟨hin, h⟩ := o_in h
          refine va_iast hx hb hK hP hD hS 1 0 rfl rfl hin d_Kn_addBelow_70 (fun H locs hP hD hS => ?_)
          have hP : va_P (dC, dI) classes (cKn cI cJ cZ a ((Kn_count s40.2), (upd (Kn_below s40.2) s40.1.toNatClampNeg (((Kn_below s40.2) s40.1.toNatClampNeg) ||| ((1 : Int32) <<< (x2_40 &&& 31)))), (Kn_over s40.2))) H := hP
          have hD : va_D A (cKn cI cJ cZ a ((Kn_count s40.2), (upd (Kn_below s40.2) s40.1.toNatClampNeg (((Kn_below s40.2) s40.1.toNatClampNeg) ||| ((1 : Int32) <<< (x2_40 &&& 31)))), (Kn_over s40.2))) := hD
          refine lv_iinc (v := (s40.1 + 1)) (lv' := [(3, .int (s40.1 + 1)), (0, .ref (a 1)), (2, .int x2_40)]) hx hb d_Kn_addBelow_71 hl (k := 2) rfl rfl (by decide) rfl (fun ls hl => ?_)
          refine lv_goto (tgt := 40) hx hb d_Kn_addBelow_74 (by decide) ?_
          exact ih40 ((s40.1 + 1), ((Kn_count s40.2), (upd (Kn_below s40.2) s40.1.toNatClampNeg (((Kn_below s40.2) s40.1.toNatClampNeg) ||| ((1 : Int32) <<< (x2_40 &&& 31)))), (Kn_over s40.2))) _ _ _ h hP hD hS (lv_sub hl [1, 2, 0] rfl)
  refine lv_aload_n hx hb d_Kn_addBelow_0 rfl (lv_at hl 0 rfl) ?_
  refine va_get (D := (dC, dI)) (ci := 0) (v := .int (Kn_count kn)) (C := R_Kn) (T := F_Kn) (N := 3) hx hb hts inb_Kn hown hK hP 0 rfl rfl 0 (by decide) (hts _ tw35) (fun _ h9 => h9) rfl d_Kn_addBelow_1 ?_
  refine lv_istore_n (lv' := [(2, .int (Kn_count kn)), (0, .ref (a 1)), (1, .int x1)]) hx hb d_Kn_addBelow_4 rfl hl (by decide) rfl (fun ls hl => ?_)
  refine lv_aload_n hx hb d_Kn_addBelow_5 rfl (lv_at hl 1 rfl) ?_
  refine lv_dup hx hb d_Kn_addBelow_6 rfl ?_
  refine va_get (D := (dC, dI)) (ci := 0) (v := .int (Kn_count kn)) (C := R_Kn) (T := F_Kn) (N := 3) hx hb hts inb_Kn hown hK hP 0 rfl rfl 0 (by decide) (hts _ tw35) (fun _ h9 => h9) rfl d_Kn_addBelow_7 ?_
  refine lv_iconst (v := 1) hx hb d_Kn_addBelow_10 (by decide) ?_
  refine lv_iadd hx hb d_Kn_addBelow_11 ?_
  refine va_put (D := (dC, dI)) (ci := 0) (v := .int ((Kn_count kn) + (1 : Int32))) (ty := .int) (C := R_Kn) (T := F_Kn) (N := 3) hx hb hts inb_Kn ft_Kn ft_Kn_ok n_Kn hown hK hP hD hS 0 rfl rfl 0 (by decide) (hts _ tw35) (fun _ h9 => h9) rfl (by decide +kernel) rfl rfl (Nat.le_of_ble_eq_true rfl) d_Kn_addBelow_12 (fun H locs hP hD hS => ?_)
  have hP : va_P (dC, dI) classes (cKn cI cJ cZ a (((Kn_count kn) + (1 : Int32)), (Kn_below kn), (Kn_over kn))) H := hP
  have hD : va_D A (cKn cI cJ cZ a (((Kn_count kn) + (1 : Int32)), (Kn_below kn), (Kn_over kn))) := hD
  refine lv_aload_n hx hb d_Kn_addBelow_15 rfl (lv_at hl 1 rfl) ?_
  refine va_get (D := (dC, dI)) (ci := 0) (v := .ref (a 2)) (C := R_Kn) (T := F_Kn) (N := 3) hx hb hts inb_Kn hown hK hP 0 rfl rfl 1 (by decide) (hts _ tw37) (fun _ h9 => h9) rfl d_Kn_addBelow_16 ?_
  refine lv_iload_n hx hb d_Kn_addBelow_19 rfl (lv_at hl 0 rfl) ?_
  refine lv_iconst (v := 0) hx hb d_Kn_addBelow_20 (by decide) ?_
  obtain ⟨hin, h⟩ := o_in h
  refine va_iast hx hb hK hP hD hS 1 0 rfl rfl hin d_Kn_addBelow_21 (fun H locs hP hD hS => ?_)
  have hP : va_P (dC, dI) classes (cKn cI cJ cZ a (((Kn_count kn) + (1 : Int32)), (upd (Kn_below kn) (Kn_count kn).toNatClampNeg (0 : Int32)), (Kn_over kn))) H := hP
  have hD : va_D A (cKn cI cJ cZ a (((Kn_count kn) + (1 : Int32)), (upd (Kn_below kn) (Kn_count kn).toNatClampNeg (0 : Int32)), (Kn_over kn))) := hD
  refine lv_aload_n hx hb d_Kn_addBelow_22 rfl (lv_at hl 1 rfl) ?_
  refine va_get (D := (dC, dI)) (ci := 0) (v := .ref (a 3)) (C := R_Kn) (T := F_Kn) (N := 3) hx hb hts inb_Kn hown hK hP 0 rfl rfl 2 (by decide) (hts _ tw41) (fun _ h9 => h9) rfl d_Kn_addBelow_23 ?_
  refine lv_iload_n hx hb d_Kn_addBelow_26 rfl (lv_at hl 0 rfl) ?_
  refine lv_aload_n hx hb d_Kn_addBelow_27 rfl (lv_at hl 1 rfl) ?_
  refine va_get (D := (dC, dI)) (ci := 0) (v := .ref (a 3)) (C := R_Kn) (T := F_Kn) (N := 3) hx hb hts inb_Kn hown hK hP 0 rfl rfl 2 (by decide) (hts _ tw41) (fun _ h9 => h9) rfl d_Kn_addBelow_28 ?_
  refine lv_iload_n hx hb d_Kn_addBelow_31 rfl (lv_at hl 2 rfl) ?_
  obtain ⟨hin, h⟩ := o_in h
  refine va_iald hx hb hK hP 2 0 rfl rfl hin d_Kn_addBelow_32 ?_
  refine lv_iconst (v := 1) hx hb d_Kn_addBelow_33 (by decide) ?_
  refine lv_iload_n hx hb d_Kn_addBelow_34 rfl (lv_at hl 0 rfl) ?_
  refine lv_ishl hx hb d_Kn_addBelow_35 ?_
  refine lv_ior hx hb d_Kn_addBelow_36 ?_
  obtain ⟨hin, h⟩ := o_in h
  refine va_iast hx hb hK hP hD hS 2 0 rfl rfl hin d_Kn_addBelow_37 (fun H locs hP hD hS => ?_)
  have hP : va_P (dC, dI) classes (cKn cI cJ cZ a (((Kn_count kn) + (1 : Int32)), (upd (Kn_below kn) (Kn_count kn).toNatClampNeg (0 : Int32)), (upd (Kn_over kn) (Kn_count kn).toNatClampNeg (((Kn_over kn) x1.toNatClampNeg) ||| ((1 : Int32) <<< ((Kn_count kn) &&& 31)))))) H := hP
  have hD : va_D A (cKn cI cJ cZ a (((Kn_count kn) + (1 : Int32)), (upd (Kn_below kn) (Kn_count kn).toNatClampNeg (0 : Int32)), (upd (Kn_over kn) (Kn_count kn).toNatClampNeg (((Kn_over kn) x1.toNatClampNeg) ||| ((1 : Int32) <<< ((Kn_count kn) &&& 31)))))) := hD
  refine lv_iconst (v := 0) hx hb d_Kn_addBelow_38 (by decide) ?_
  refine lv_istore_n (lv' := [(3, .int (0 : Int32)), (2, .int (Kn_count kn)), (0, .ref (a 1)), (1, .int x1)]) hx hb d_Kn_addBelow_39 rfl hl (by decide) rfl (fun ls hl => ?_)
  exact L40 (Kn_count kn) N ((0 : Int32), (((Kn_count kn) + (1 : Int32)), (upd (Kn_below kn) (Kn_count kn).toNatClampNeg (0 : Int32)), (upd (Kn_over kn) (Kn_count kn).toNatClampNeg (((Kn_over kn) x1.toNatClampNeg) ||| ((1 : Int32) <<< ((Kn_count kn) &&& 31)))))) _ _ _ h hP hD hS (lv_sub hl [2, 1, 0] rfl)
set_option maxHeartbeats 4000000 in
set_option maxRecDepth 100000 in
theorem c_Kn_startAgain (l : Launch) (dC : Nat → ClassId) (dI : Nat → Nat → Nat) (cI cJ cZ : ClassId) (a : Nat → Nat) (N : Nat) (kn : KnS) (res : KnS) (h : f_Kn_startAgain N kn = some res) :
    Kt l (dC, dI) classes [(cI, .int), (cJ, .long), (cZ, .boolean)] y_Kn_startAgain (wz y_Kn_startAgain b_Kn_startAgain 1 none) { frames := 2, cells := 0, slots := 0, locals := 45 } [.ref (a 1)] (cKn cI cJ cZ a kn) none (cKn cI cJ cZ a res) := by
  refine Kt_of (cc := b_Kn_startAgain) (maxL := 1) (ret := none) (by decide) (Nat.le_of_ble_eq_true rfl) ?_
  intro p e s m args below meth c A ls hx hb hr hml hlocks hown hts hNw hK hP hD hA hS hl
  have hl : lv_has ls 1 [(0, .ref (a 1))] := hl
  have hP : va_P (dC, dI) classes (cKn cI cJ cZ a kn) s.heap := hP
  refine lv_aload_n hx hb d_Kn_startAgain_0 rfl (lv_at hl 0 rfl) ?_
  refine va_get (D := (dC, dI)) (ci := 0) (v := .ref (a 2)) (C := R_Kn) (T := F_Kn) (N := 3) hx hb hts inb_Kn hown hK hP 0 rfl rfl 1 (by decide) (hts _ tw37) (fun _ h9 => h9) rfl d_Kn_startAgain_1 ?_
  refine lv_iconst (v := 0) hx hb d_Kn_startAgain_4 (by decide) ?_
  refine lv_iconst (v := 1) hx hb d_Kn_startAgain_5 (by decide) ?_
  obtain ⟨hin, h⟩ := o_in h
  refine va_iast hx hb hK hP hD hS 1 0 rfl rfl hin d_Kn_startAgain_6 (fun H locs hP hD hS => ?_)
  have hP : va_P (dC, dI) classes (cKn cI cJ cZ a ((Kn_count kn), (upd (Kn_below kn) (0 : Int32).toNatClampNeg (1 : Int32)), (Kn_over kn))) H := hP
  have hD : va_D A (cKn cI cJ cZ a ((Kn_count kn), (upd (Kn_below kn) (0 : Int32).toNatClampNeg (1 : Int32)), (Kn_over kn))) := hD
  refine lv_aload_n hx hb d_Kn_startAgain_7 rfl (lv_at hl 0 rfl) ?_
  refine va_get (D := (dC, dI)) (ci := 0) (v := .ref (a 3)) (C := R_Kn) (T := F_Kn) (N := 3) hx hb hts inb_Kn hown hK hP 0 rfl rfl 2 (by decide) (hts _ tw41) (fun _ h9 => h9) rfl d_Kn_startAgain_8 ?_
  refine lv_iconst (v := 0) hx hb d_Kn_startAgain_11 (by decide) ?_
  refine lv_iconst (v := 1) hx hb d_Kn_startAgain_12 (by decide) ?_
  obtain ⟨hin, h⟩ := o_in h
  refine va_iast hx hb hK hP hD hS 2 0 rfl rfl hin d_Kn_startAgain_13 (fun H locs hP hD hS => ?_)
  have hP : va_P (dC, dI) classes (cKn cI cJ cZ a ((Kn_count kn), (upd (Kn_below kn) (0 : Int32).toNatClampNeg (1 : Int32)), (upd (Kn_over kn) (0 : Int32).toNatClampNeg (1 : Int32)))) H := hP
  have hD : va_D A (cKn cI cJ cZ a ((Kn_count kn), (upd (Kn_below kn) (0 : Int32).toNatClampNeg (1 : Int32)), (upd (Kn_over kn) (0 : Int32).toNatClampNeg (1 : Int32)))) := hD
  refine lv_aload_n hx hb d_Kn_startAgain_14 rfl (lv_at hl 0 rfl) ?_
  refine lv_iconst (v := 1) hx hb d_Kn_startAgain_15 (by decide) ?_
  refine va_put (D := (dC, dI)) (ci := 0) (v := .int (1 : Int32)) (ty := .int) (C := R_Kn) (T := F_Kn) (N := 3) hx hb hts inb_Kn ft_Kn ft_Kn_ok n_Kn hown hK hP hD hS 0 rfl rfl 0 (by decide) (hts _ tw35) (fun _ h9 => h9) rfl (by decide +kernel) rfl rfl (Nat.le_of_ble_eq_true rfl) d_Kn_startAgain_16 (fun H locs hP hD hS => ?_)
  have hP : va_P (dC, dI) classes (cKn cI cJ cZ a ((1 : Int32), (upd (Kn_below kn) (0 : Int32).toNatClampNeg (1 : Int32)), (upd (Kn_over kn) (0 : Int32).toNatClampNeg (1 : Int32)))) H := hP
  have hD : va_D A (cKn cI cJ cZ a ((1 : Int32), (upd (Kn_below kn) (0 : Int32).toNatClampNeg (1 : Int32)), (upd (Kn_over kn) (0 : Int32).toNatClampNeg (1 : Int32)))) := hD
  refine lv_aload_n hx hb d_Kn_startAgain_19 rfl (lv_at hl 0 rfl) ?_
  refine lv_iconst (v := 0) hx hb d_Kn_startAgain_20 (by decide) ?_
  obtain ⟨y21, hy, h⟩ := o_bd h
  refine kdV (nn := 3) (rest := []) (w' := (cKn cI cJ cZ a y21.2)) (wr := ([] : va_W)) (st1 := [.int y21.1]) ⟨hx, hb, hml, hown, hts⟩ (c_Kn_addBelow l dC dI cI cJ cZ a N (0 : Int32) ((1 : Int32), (upd (Kn_below kn) (0 : Int32).toNatClampNeg (1 : Int32)), (upd (Kn_over kn) (0 : Int32).toNatClampNeg (1 : Int32))) y21 hy) (cwV 1 hts (gd_V tw28 tw29 tw30 tw2 tw31) rfl rfl rfl hd_Kn_addBelow ⟨Nat.le_of_ble_eq_true rfl, Nat.le_of_ble_eq_true rfl⟩) hNw hK hP hD hS hA (ci := 0) rfl rfl rfl [0, 1, 2] [] rfl rfl rfl rfl rfl (by decide +kernel) (by decide +kernel) rfl hl.1 rfl (Nat.le_of_ble_eq_true rfl) rfl d_Kn_startAgain_21 ⟨Nat.zero_le _, Nat.zero_le _⟩ (fun H locs hP hD hS => ?_)
  refine lv_pop hx hb d_Kn_startAgain_24 rfl ?_
  refine lv_aload_n hx hb d_Kn_startAgain_25 rfl (lv_at hl 0 rfl) ?_
  refine lv_iconst (v := 1) hx hb d_Kn_startAgain_26 (by decide) ?_
  obtain ⟨y27, hy, h⟩ := o_bd h
  refine kdV (nn := 3) (rest := []) (w' := (cKn cI cJ cZ a y27.2)) (wr := ([] : va_W)) (st1 := [.int y27.1]) ⟨hx, hb, hml, hown, hts⟩ (c_Kn_addBelow l dC dI cI cJ cZ a N (1 : Int32) y21.2 y27 hy) (cwV 1 hts (gd_V tw28 tw29 tw30 tw2 tw31) rfl rfl rfl hd_Kn_addBelow ⟨Nat.le_of_ble_eq_true rfl, Nat.le_of_ble_eq_true rfl⟩) hNw hK hP hD hS hA (ci := 0) rfl rfl rfl [0, 1, 2] [] rfl rfl rfl rfl rfl (by decide +kernel) (by decide +kernel) rfl hl.1 rfl (Nat.le_of_ble_eq_true rfl) rfl d_Kn_startAgain_27 ⟨Nat.zero_le _, Nat.zero_le _⟩ (fun H locs hP hD hS => ?_)
  refine lv_pop hx hb d_Kn_startAgain_30 rfl ?_
  refine lv_aload_n hx hb d_Kn_startAgain_31 rfl (lv_at hl 0 rfl) ?_
  refine lv_iconst (v := 0) hx hb d_Kn_startAgain_32 (by decide) ?_
  obtain ⟨y33, hy, h⟩ := o_bd h
  refine kdV (nn := 3) (rest := []) (w' := (cKn cI cJ cZ a y33.2)) (wr := ([] : va_W)) (st1 := [.int y33.1]) ⟨hx, hb, hml, hown, hts⟩ (c_Kn_addBelow l dC dI cI cJ cZ a N (0 : Int32) y27.2 y33 hy) (cwV 1 hts (gd_V tw28 tw29 tw30 tw2 tw31) rfl rfl rfl hd_Kn_addBelow ⟨Nat.le_of_ble_eq_true rfl, Nat.le_of_ble_eq_true rfl⟩) hNw hK hP hD hS hA (ci := 0) rfl rfl rfl [0, 1, 2] [] rfl rfl rfl rfl rfl (by decide +kernel) (by decide +kernel) rfl hl.1 rfl (Nat.le_of_ble_eq_true rfl) rfl d_Kn_startAgain_33 ⟨Nat.zero_le _, Nat.zero_le _⟩ (fun H locs hP hD hS => ?_)
  refine lv_pop hx hb d_Kn_startAgain_36 rfl ?_
  cases h
  exact kr_v hx hb hr hlocks hP hD hS d_Kn_startAgain_37
set_option maxHeartbeats 4000000 in
set_option maxRecDepth 100000 in
theorem c_Kn_has (l : Launch) (dC : Nat → ClassId) (dI : Nat → Nat → Nat) (cI cJ cZ : ClassId) (a : Nat → Nat) (x1 : Int32) (kn : KnS) (res : Int32) (h : f_Kn_has x1 kn = some res) :
    Kt l (dC, dI) classes [(cI, .int), (cJ, .long), (cZ, .boolean)] y_Kn_has (wz y_Kn_has b_Kn_has 2 (some .boolean)) { frames := 0, cells := 0, slots := 0, locals := 0 } [.ref (a 1), .int x1] (cKn cI cJ cZ a kn) (some (.int res)) (cKn cI cJ cZ a kn) := by
  refine Kt_of (cc := b_Kn_has) (maxL := 2) (ret := (some .boolean)) (by decide) (Nat.le_of_ble_eq_true rfl) ?_
  intro p e s m args below meth c A ls hx hb hr hml hlocks hown hts hNw hK hP hD hA hS hl
  have hl : lv_has ls 2 [(0, .ref (a 1)), (1, .int x1)] := hl
  have hP : va_P (dC, dI) classes (cKn cI cJ cZ a kn) s.heap := hP
  refine lv_iload_n hx hb d_Kn_has_0 rfl (lv_at hl 1 rfl) ?_
  refine lv_if_lt (tgt := 16) hx hb d_Kn_has_1 (by decide) (fun hc => ?_) (fun hc => ?_)
  · have h := o_t hc h
    refine lv_iconst (v := 0) hx hb d_Kn_has_16 (by decide) ?_
    cases h
    exact kr_z hx hb hr (by decide) hlocks hP hD hS d_Kn_has_17
  · have h := o_f hc h
    refine lv_iload_n hx hb d_Kn_has_4 rfl (lv_at hl 1 rfl) ?_
    refine lv_aload_n hx hb d_Kn_has_5 rfl (lv_at hl 0 rfl) ?_
    refine va_get (D := (dC, dI)) (ci := 0) (v := .int (Kn_count kn)) (C := R_Kn) (T := F_Kn) (N := 3) hx hb hts inb_Kn hown hK hP 0 rfl rfl 0 (by decide) (hts _ tw35) (fun _ h9 => h9) rfl d_Kn_has_6 ?_
    refine lv_icmp_ge (tgt := 16) hx hb d_Kn_has_9 (by decide) (fun hc => ?_) (fun hc => ?_)
    · have h := o_t hc h
      refine lv_iconst (v := 0) hx hb d_Kn_has_16 (by decide) ?_
      cases h
      exact kr_z hx hb hr (by decide) hlocks hP hD hS d_Kn_has_17
    · have h := o_f hc h
      refine lv_iconst (v := 1) hx hb d_Kn_has_12 (by decide) ?_
      refine lv_goto (tgt := 17) hx hb d_Kn_has_13 (by decide) ?_
      cases h
      exact kr_z hx hb hr (by decide) hlocks hP hD hS d_Kn_has_17
set_option maxHeartbeats 4000000 in
set_option maxRecDepth 100000 in
theorem c_Kn_needsNoThrower (l : Launch) (dC : Nat → ClassId) (dI : Nat → Nat → Nat) (cI cJ cZ : ClassId) (a : Nat → Nat) (x1 : Int32) (kn : KnS) (res : Int32) (h : f_Kn_needsNoThrower x1 kn = some res) :
    Kt l (dC, dI) classes [(cI, .int), (cJ, .long), (cZ, .boolean)] y_Kn_needsNoThrower (wz y_Kn_needsNoThrower b_Kn_needsNoThrower 2 (some .boolean)) { frames := 0, cells := 0, slots := 0, locals := 0 } [.ref (a 1), .int x1] (cKn cI cJ cZ a kn) (some (.int res)) (cKn cI cJ cZ a kn) := by
  refine Kt_of (cc := b_Kn_needsNoThrower) (maxL := 2) (ret := (some .boolean)) (by decide) (Nat.le_of_ble_eq_true rfl) ?_
  intro p e s m args below meth c A ls hx hb hr hml hlocks hown hts hNw hK hP hD hA hS hl
  have hl : lv_has ls 2 [(0, .ref (a 1)), (1, .int x1)] := hl
  have hP : va_P (dC, dI) classes (cKn cI cJ cZ a kn) s.heap := hP
  refine lv_iload_n hx hb d_Kn_needsNoThrower_0 rfl (lv_at hl 1 rfl) ?_
  refine lv_iconst (v := 1) hx hb d_Kn_needsNoThrower_1 (by decide) ?_
  refine lv_icmp_le (tgt := 17) hx hb d_Kn_needsNoThrower_2 (by decide) (fun hc => ?_) (fun hc => ?_)
  · have h := o_t hc h
    refine lv_iconst (v := 1) hx hb d_Kn_needsNoThrower_17 (by decide) ?_
    refine lv_goto (tgt := 22) hx hb d_Kn_needsNoThrower_18 (by decide) ?_
    cases h
    exact kr_z hx hb hr (by decide) hlocks hP hD hS d_Kn_needsNoThrower_22
  · have h := o_f hc h
    refine lv_aload_n hx hb d_Kn_needsNoThrower_5 rfl (lv_at hl 0 rfl) ?_
    refine va_get (D := (dC, dI)) (ci := 0) (v := .ref (a 3)) (C := R_Kn) (T := F_Kn) (N := 3) hx hb hts inb_Kn hown hK hP 0 rfl rfl 2 (by decide) (hts _ tw41) (fun _ h9 => h9) rfl d_Kn_needsNoThrower_6 ?_
    refine lv_iload_n hx hb d_Kn_needsNoThrower_9 rfl (lv_at hl 1 rfl) ?_
    obtain ⟨hin, h⟩ := o_in h
    refine va_iald hx hb hK hP 2 0 rfl rfl hin d_Kn_needsNoThrower_10 ?_
    refine lv_bipush (v := 12) hx hb d_Kn_needsNoThrower_11 (by decide) ?_
    refine lv_iand hx hb d_Kn_needsNoThrower_13 ?_
    refine lv_if_eq (tgt := 21) hx hb d_Kn_needsNoThrower_14 (by decide) (fun hc => ?_) (fun hc => ?_)
    · have h := o_t hc h
      refine lv_iconst (v := 0) hx hb d_Kn_needsNoThrower_21 (by decide) ?_
      cases h
      exact kr_z hx hb hr (by decide) hlocks hP hD hS d_Kn_needsNoThrower_22
    · have h := o_f hc h
      refine lv_iconst (v := 1) hx hb d_Kn_needsNoThrower_17 (by decide) ?_
      refine lv_goto (tgt := 22) hx hb d_Kn_needsNoThrower_18 (by decide) ?_
      cases h
      exact kr_z hx hb hr (by decide) hlocks hP hD hS d_Kn_needsNoThrower_22
