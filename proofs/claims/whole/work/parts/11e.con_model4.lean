set_option maxHeartbeats 4000000 in
set_option maxRecDepth 100000 in
theorem c_Md_through (l : Launch) (dC : Nat → ClassId) (dI : Nat → Nat → Nat) (cI cJ cZ : ClassId) (a : Nat → Nat) (N : Nat) (x1 : Int32) (x2 : Int32) (mb : MbS) (mg : MgS) (mx : MxS) (mf : MfS) (res : MxS) (h : f_Md_through N x1 x2 mb mx = some res) :
    Kt l (dC, dI) classes [(cI, .int), (cJ, .long), (cZ, .boolean)] y_Md_through (wz y_Md_through b_Md_through 5 none) { frames := 1, cells := 0, slots := 0, locals := 22 } [.ref (a 0), .int x1, .int x2] (cMd cI cJ cZ a mb mg mx mf) none (cMd cI cJ cZ a mb mg res mf) := by
  refine Kt_of (cc := b_Md_through) (maxL := 5) (ret := none) (by decide) (Nat.le_of_ble_eq_true rfl) ?_
  intro p e s m args below meth c A ls hx hb hr hml hlocks hown hts hNw hK hP hD hA hS hl
  have hl : lv_has ls 5 [(0, .ref (a 0)), (1, .int x1), (2, .int x2)] := hl
  have hP : va_P (dC, dI) classes (cMd cI cJ cZ a mb mg mx mf) s.heap := hP
  have L46 : ∀ (x1_46 : Int32) (x3_46 : Int32) (n46 : Nat) (s46 : Int32 × MxS) (H : Heap) (locs : List Loc) (ls : Array Slot), lp (f_Md_through_L46 N x1_46 x3_46 mb) n46 s46 = some res → va_P (dC, dI) classes (cMd cI cJ cZ a mb mg s46.2 mf) H → va_D A (cMd cI cJ cZ a mb mg s46.2 mf) → va_S A s.heap H locs → lv_has ls 5 [(0, .ref (a 0)), (1, .int x1_46), (3, .int x3_46), (4, .int s46.1)] → W p l e { frames := 1, cells := 0, slots := 0, locals := 22 } s m args below meth c H locs 0 0 (KZ below args s (dC, dI) classes none (cMd cI cJ cZ a mb mg res mf) A) (F0 m 46 ls []) := by
    intro x1_46 x3_46 n46
    induction n46 with
    | zero => intro _ _ _ _ h; exact (lp_0 h).elim
    | succ n46 ih46 =>
      intro s46 H locs ls h hP hD hS hl
      have h := lp_s h
      refine lv_iload hx hb d_Md_through_46 (lv_at hl 3 rfl) ?_
      refine lv_sipush (v := 134) hx hb d_Md_through_48 (by decide) ?_
      refine lv_icmp_ge (tgt := 77) hx hb d_Md_through_51 (by decide) (fun hc => ?_) (fun hc => ?_)
      · have h := o_t hc h
        cases h
        exact kr_v hx hb hr hlocks hP hD hS d_Md_through_77
      · have h := o_f hc h
        refine lv_aload_n hx hb d_Md_through_54 rfl (lv_at hl 0 rfl) ?_
        refine lv_iload_n hx hb d_Md_through_55 rfl (lv_at hl 2 rfl) ?_
        refine lv_iload hx hb d_Md_through_56 (lv_at hl 3 rfl) ?_
        obtain ⟨y58, hy, h⟩ := o_bd h
        refine kdV (nn := 24) (rest := []) (w' := (cMd cI cJ cZ a mb mg s46.2 mf)) (wr := ([] : va_W)) (st1 := [.int y58]) ⟨hx, hb, hml, hown, hts⟩ (c_Md_isEnded l dC dI cI cJ cZ a x3_46 s46.1 mb mg s46.2 mf y58 hy) (cwV 2 hts (gd_V tw981 tw983 ps51 tw9 tw984) rfl rfl rfl hd_Md_isEnded ⟨Nat.le_of_ble_eq_true rfl, Nat.le_of_ble_eq_true rfl⟩) hNw hK hP hD hS hA (ci := 7) rfl rfl rfl [0, 1, 2, 3, 4, 5, 6, 7, 8, 9, 10, 11, 12, 13, 14, 15, 16, 17, 18, 19, 20, 21, 22, 23] [] rfl rfl rfl rfl rfl (by decide +kernel) (by decide +kernel) rfl hl.1 rfl (Nat.le_of_ble_eq_true rfl) rfl d_Md_through_58 ⟨Nat.zero_le _, Nat.zero_le _⟩ (fun H locs hP hD hS => ?_)
        refine lv_if_eq (tgt := 71) hx hb d_Md_through_61 (by decide) (fun hc => ?_) (fun hc => ?_)
        · have h := o_t hc h
          refine lv_iinc (v := (s46.1 + 1)) (lv' := [(4, .int (s46.1 + 1)), (0, .ref (a 0)), (1, .int x1_46), (3, .int x3_46)]) hx hb d_Md_through_71 hl (k := 3) rfl rfl (by decide) rfl (fun ls hl => ?_)
          refine lv_goto (tgt := 46) hx hb d_Md_through_74 (by decide) ?_
          exact ih46 ((s46.1 + 1), s46.2) _ _ _ h hP hD hS (lv_sub hl [1, 2, 3, 0] rfl)
        · have h := o_f hc h
          refine lv_aload_n hx hb d_Md_through_64 rfl (lv_at hl 0 rfl) ?_
          refine lv_iload_n hx hb d_Md_through_65 rfl (lv_at hl 1 rfl) ?_
          refine lv_iload hx hb d_Md_through_66 (lv_at hl 3 rfl) ?_
          obtain ⟨y68, hy, h⟩ := o_bd h
          refine kdV (nn := 24) (rest := []) (w' := (cMd cI cJ cZ a mb mg y68 mf)) (wr := ([] : va_W)) (st1 := []) ⟨hx, hb, hml, hown, hts⟩ (c_Md_endBy l dC dI cI cJ cZ a x1_46 s46.1 mb mg s46.2 mf y68 hy) (cwV 2 hts (gd_V tw965 tw967 ps47 tw9 tw968) rfl rfl rfl hd_Md_endBy ⟨Nat.le_of_ble_eq_true rfl, Nat.le_of_ble_eq_true rfl⟩) hNw hK hP hD hS hA (ci := 7) rfl rfl rfl [0, 1, 2, 3, 4, 5, 6, 7, 8, 9, 10, 11, 12, 13, 14, 15, 16, 17, 18, 19, 20, 21, 22, 23] [] rfl rfl rfl rfl rfl (by decide +kernel) (by decide +kernel) rfl hl.1 rfl (Nat.le_of_ble_eq_true rfl) rfl d_Md_through_68 ⟨Nat.zero_le _, Nat.zero_le _⟩ (fun H locs hP hD hS => ?_)
          refine lv_iinc (v := (s46.1 + 1)) (lv' := [(4, .int (s46.1 + 1)), (0, .ref (a 0)), (1, .int x1_46), (3, .int x3_46)]) hx hb d_Md_through_71 hl (k := 3) rfl rfl (by decide) rfl (fun ls hl => ?_)
          refine lv_goto (tgt := 46) hx hb d_Md_through_74 (by decide) ?_
          exact ih46 ((s46.1 + 1), y68) _ _ _ h hP hD hS (lv_sub hl [1, 2, 3, 0] rfl)
  refine lv_aload_n hx hb d_Md_through_0 rfl (lv_at hl 0 rfl) ?_
  refine va_get (D := (dC, dI)) (ci := 7) (v := .ref (a 10)) (C := R_Md) (T := F_Md) (N := 35) hx hb hts inb_Md hown hK hP 0 rfl rfl 11 (by decide) (hts _ tw698) (fun _ h9 => h9) rfl d_Md_through_1 ?_
  refine lv_iload_n hx hb d_Md_through_4 rfl (lv_at hl 1 rfl) ?_
  obtain ⟨hin, h⟩ := o_in h
  refine va_zald hx hb hK hP 10 2 rfl rfl hin d_Md_through_5 ?_
  refine lv_if_ne (tgt := 16) hx hb d_Md_through_6 (by decide) (fun hc => ?_) (fun hc => ?_)
  · have h := o_f hc h
    refine lv_aload_n hx hb d_Md_through_16 rfl (lv_at hl 0 rfl) ?_
    refine va_get (D := (dC, dI)) (ci := 7) (v := .ref (a 7)) (C := R_Md) (T := F_Md) (N := 35) hx hb hts inb_Md hown hK hP 0 rfl rfl 8 (by decide) (hts _ tw695) (fun _ h9 => h9) rfl d_Md_through_17 ?_
    refine lv_iload_n hx hb d_Md_through_20 rfl (lv_at hl 1 rfl) ?_
    obtain ⟨hin, h⟩ := o_in h
    refine va_iald hx hb hK hP 7 0 rfl rfl hin d_Md_through_21 ?_
    refine lv_istore_n (lv' := [(3, .int ((Mb_last mb) x1.toNatClampNeg)), (0, .ref (a 0)), (1, .int x1), (2, .int x2)]) hx hb d_Md_through_22 rfl hl (by decide) rfl (fun ls hl => ?_)
    refine lv_aload_n hx hb d_Md_through_23 rfl (lv_at hl 1 rfl) ?_
    refine lv_iload_n hx hb d_Md_through_24 rfl (lv_at hl 0 rfl) ?_
    obtain ⟨y25, hy, h⟩ := o_bd h
    refine kdV (nn := 24) (rest := []) (w' := (cMd cI cJ cZ a mb mg y25 mf)) (wr := ([] : va_W)) (st1 := []) ⟨hx, hb, hml, hown, hts⟩ (c_Md_come l dC dI cI cJ cZ a ((Mb_last mb) x1.toNatClampNeg) mb mg mx mf y25 hy) (cwV 1 hts (gd_V tw977 tw979 ps50 tw9 tw980) rfl rfl rfl hd_Md_come ⟨Nat.le_of_ble_eq_true rfl, Nat.le_of_ble_eq_true rfl⟩) hNw hK hP hD hS hA (ci := 7) rfl rfl rfl [0, 1, 2, 3, 4, 5, 6, 7, 8, 9, 10, 11, 12, 13, 14, 15, 16, 17, 18, 19, 20, 21, 22, 23] [] rfl rfl rfl rfl rfl (by decide +kernel) (by decide +kernel) rfl hl.1 rfl (Nat.le_of_ble_eq_true rfl) rfl d_Md_through_25 ⟨Nat.zero_le _, Nat.zero_le _⟩ (fun H locs hP hD hS => ?_)
    refine lv_aload_n hx hb d_Md_through_28 rfl (lv_at hl 1 rfl) ?_
    refine lv_iload_n hx hb d_Md_through_29 rfl (lv_at hl 0 rfl) ?_
    refine lv_iconst (v := 0) hx hb d_Md_through_30 (by decide) ?_
    obtain ⟨y31, hy, h⟩ := o_bd h
    refine kdV (nn := 24) (rest := []) (w' := (cMd cI cJ cZ a mb mg y25 mf)) (wr := ([] : va_W)) (st1 := [.int y31]) ⟨hx, hb, hml, hown, hts⟩ (c_Md_isEnded l dC dI cI cJ cZ a ((Mb_last mb) x1.toNatClampNeg) (0 : Int32) mb mg y25 mf y31 hy) (cwV 2 hts (gd_V tw981 tw983 ps51 tw9 tw984) rfl rfl rfl hd_Md_isEnded ⟨Nat.le_of_ble_eq_true rfl, Nat.le_of_ble_eq_true rfl⟩) hNw hK hP hD hS hA (ci := 7) rfl rfl rfl [0, 1, 2, 3, 4, 5, 6, 7, 8, 9, 10, 11, 12, 13, 14, 15, 16, 17, 18, 19, 20, 21, 22, 23] [] rfl rfl rfl rfl rfl (by decide +kernel) (by decide +kernel) rfl hl.1 rfl (Nat.le_of_ble_eq_true rfl) rfl d_Md_through_31 ⟨Nat.zero_le _, Nat.zero_le _⟩ (fun H locs hP hD hS => ?_)
    refine lv_if_eq (tgt := 43) hx hb d_Md_through_34 (by decide) (fun hc => ?_) (fun hc => ?_)
    · have h := o_t hc h
      refine lv_iconst (v := 1) hx hb d_Md_through_43 (by decide) ?_
      refine lv_istore (lv' := [(4, .int (1 : Int32)), (3, .int ((Mb_last mb) x1.toNatClampNeg)), (0, .ref (a 0)), (1, .int x1), (2, .int x2)]) hx hb d_Md_through_44 hl (by decide) rfl (fun ls hl => ?_)
      exact L46 x1 ((Mb_last mb) x1.toNatClampNeg) N ((1 : Int32), y25) _ _ _ h hP hD hS (lv_sub hl [2, 3, 1, 0] rfl)
    · have h := o_f hc h
      refine lv_aload_n hx hb d_Md_through_37 rfl (lv_at hl 1 rfl) ?_
      refine lv_iload_n hx hb d_Md_through_38 rfl (lv_at hl 2 rfl) ?_
      refine lv_iload_n hx hb d_Md_through_39 rfl (lv_at hl 3 rfl) ?_
      obtain ⟨y40, hy, h⟩ := o_bd h
      refine kdV (nn := 24) (rest := []) (w' := (cMd cI cJ cZ a mb mg y40 mf)) (wr := ([] : va_W)) (st1 := []) ⟨hx, hb, hml, hown, hts⟩ (c_Md_endBy l dC dI cI cJ cZ a x1 x2 mb mg y25 mf y40 hy) (cwV 2 hts (gd_V tw965 tw967 ps47 tw9 tw968) rfl rfl rfl hd_Md_endBy ⟨Nat.le_of_ble_eq_true rfl, Nat.le_of_ble_eq_true rfl⟩) hNw hK hP hD hS hA (ci := 7) rfl rfl rfl [0, 1, 2, 3, 4, 5, 6, 7, 8, 9, 10, 11, 12, 13, 14, 15, 16, 17, 18, 19, 20, 21, 22, 23] [] rfl rfl rfl rfl rfl (by decide +kernel) (by decide +kernel) rfl hl.1 rfl (Nat.le_of_ble_eq_true rfl) rfl d_Md_through_40 ⟨Nat.zero_le _, Nat.zero_le _⟩ (fun H locs hP hD hS => ?_)
      refine lv_iconst (v := 1) hx hb d_Md_through_43 (by decide) ?_
      refine lv_istore (lv' := [(4, .int (1 : Int32)), (3, .int ((Mb_last mb) x1.toNatClampNeg)), (0, .ref (a 0)), (1, .int x1), (2, .int x2)]) hx hb d_Md_through_44 hl (by decide) rfl (fun ls hl => ?_)
      exact L46 x1 ((Mb_last mb) x1.toNatClampNeg) N ((1 : Int32), y40) _ _ _ h hP hD hS (lv_sub hl [2, 3, 1, 0] rfl)
  · have h := o_t hc h
    refine lv_aload_n hx hb d_Md_through_9 rfl (lv_at hl 0 rfl) ?_
    refine lv_iload_n hx hb d_Md_through_10 rfl (lv_at hl 1 rfl) ?_
    refine lv_iload_n hx hb d_Md_through_11 rfl (lv_at hl 2 rfl) ?_
    obtain ⟨y12, hy, h⟩ := o_bd h
    refine kdV (nn := 24) (rest := []) (w' := (cMd cI cJ cZ a mb mg y12 mf)) (wr := ([] : va_W)) (st1 := []) ⟨hx, hb, hml, hown, hts⟩ (c_Md_endBy l dC dI cI cJ cZ a x1 x2 mb mg mx mf y12 hy) (cwV 2 hts (gd_V tw965 tw967 ps47 tw9 tw968) rfl rfl rfl hd_Md_endBy ⟨Nat.le_of_ble_eq_true rfl, Nat.le_of_ble_eq_true rfl⟩) hNw hK hP hD hS hA (ci := 7) rfl rfl rfl [0, 1, 2, 3, 4, 5, 6, 7, 8, 9, 10, 11, 12, 13, 14, 15, 16, 17, 18, 19, 20, 21, 22, 23] [] rfl rfl rfl rfl rfl (by decide +kernel) (by decide +kernel) rfl hl.1 rfl (Nat.le_of_ble_eq_true rfl) rfl d_Md_through_12 ⟨Nat.zero_le _, Nat.zero_le _⟩ (fun H locs hP hD hS => ?_)
    cases h
    exact kr_v hx hb hr hlocks hP hD hS d_Md_through_15
set_option maxHeartbeats 4000000 in
set_option maxRecDepth 100000 in
theorem c_Md_tries (l : Launch) (dC : Nat → ClassId) (dI : Nat → Nat → Nat) (cI cJ cZ : ClassId) (a : Nat → Nat) (N : Nat) (x1 : Int32) (mb : MbS) (mg : MgS) (mx : MxS) (mf : MfS) (res : MxS) (h : f_Md_tries N x1 mb mx = some res) :
    Kt l (dC, dI) classes [(cI, .int), (cJ, .long), (cZ, .boolean)] y_Md_tries (wz y_Md_tries b_Md_tries 7 none) { frames := 2, cells := 0, slots := 0, locals := 46 } [.ref (a 0), .int x1] (cMd cI cJ cZ a mb mg mx mf) none (cMd cI cJ cZ a mb mg res mf) := by
  refine Kt_of (cc := b_Md_tries) (maxL := 7) (ret := none) (by decide) (Nat.le_of_ble_eq_true rfl) ?_
  intro p e s m args below meth c A ls hx hb hr hml hlocks hown hts hNw hK hP hD hA hS hl
  have hl : lv_has ls 7 [(0, .ref (a 0)), (1, .int x1)] := hl
  have hP : va_P (dC, dI) classes (cMd cI cJ cZ a mb mg mx mf) s.heap := hP
  have L35 : ∀ (x1_35 : Int32) (x2_35 : Int32) (x3_35 : Int32) (n35 : Nat) (s35 : Int32 × MxS) (H : Heap) (locs : List Loc) (ls : Array Slot), lp (f_Md_tries_L35 N x1_35 x2_35 x3_35 mb) n35 s35 = some res → va_P (dC, dI) classes (cMd cI cJ cZ a mb mg s35.2 mf) H → va_D A (cMd cI cJ cZ a mb mg s35.2 mf) → va_S A s.heap H locs → lv_has ls 7 [(0, .ref (a 0)), (1, .int x1_35), (2, .int x2_35), (3, .int x3_35), (4, .int s35.1)] → W p l e { frames := 2, cells := 0, slots := 0, locals := 46 } s m args below meth c H locs 0 0 (KZ below args s (dC, dI) classes none (cMd cI cJ cZ a mb mg res mf) A) (F0 m 35 ls []) := by
    intro x1_35 x2_35 x3_35 n35
    induction n35 with
    | zero => intro _ _ _ _ h; exact (lp_0 h).elim
    | succ n35 ih35 =>
      intro s35 H locs ls h hP hD hS hl
      have h := lp_s h
      have L135 : ∀ (x4_135 : Int32) (n135 : Nat) (s135 : Int32 × MxS) (H : Heap) (locs : List Loc) (ls : Array Slot), lp (f_Md_tries_L135 N (lp (f_Md_tries_L35 N x1_35 x2_35 x3_35 mb) n35) x1_35 x2_35 x3_35 x4_135 mb) n135 s135 = some res → va_P (dC, dI) classes (cMd cI cJ cZ a mb mg s135.2 mf) H → va_D A (cMd cI cJ cZ a mb mg s135.2 mf) → va_S A s.heap H locs → lv_has ls 7 [(0, .ref (a 0)), (1, .int x1_35), (2, .int x2_35), (3, .int x3_35), (4, .int x4_135), (6, .int s135.1)] → W p l e { frames := 2, cells := 0, slots := 0, locals := 46 } s m args below meth c H locs 0 0 (KZ below args s (dC, dI) classes none (cMd cI cJ cZ a mb mg res mf) A) (F0 m 135 ls []) := by
        intro x4_135 n135
        induction n135 with
        | zero => intro _ _ _ _ h; exact (lp_0 h).elim
        | succ n135 ih135 =>
          intro s135 H locs ls h hP hD hS hl
          have h := lp_s h
          have B159 : ∀ (x6_159 : Int32) (mx_159 : MxS) (H : Heap) (locs : List Loc) (ls : Array Slot), f_Md_tries_b159 N (lp (f_Md_tries_L35 N x1_35 x2_35 x3_35 mb) n35) (lp (f_Md_tries_L135 N (lp (f_Md_tries_L35 N x1_35 x2_35 x3_35 mb) n35) x1_35 x2_35 x3_35 x4_135 mb) n135) x1_35 x2_35 x3_35 x4_135 x6_159 mb mx_159 = some res → va_P (dC, dI) classes (cMd cI cJ cZ a mb mg mx_159 mf) H → va_D A (cMd cI cJ cZ a mb mg mx_159 mf) → va_S A s.heap H locs → lv_has ls 7 [(0, .ref (a 0)), (1, .int x1_35), (2, .int x2_35), (3, .int x3_35), (4, .int x4_135), (6, .int x6_159)] → W p l e { frames := 2, cells := 0, slots := 0, locals := 46 } s m args below meth c H locs 0 0 (KZ below args s (dC, dI) classes none (cMd cI cJ cZ a mb mg res mf) A) (F0 m 159 ls []) := by
            intro x6_159 mx_159 H locs ls h hP hD hS hl
            refine lv_aload_n hx hb d_Md_tries_159 rfl (lv_at hl 0 rfl) ?_
            refine va_get (D := (dC, dI)) (ci := 7) (v := .ref (a 8)) (C := R_Md) (T := F_Md) (N := 35) hx hb hts inb_Md hown hK hP 0 rfl rfl 9 (by decide) (hts _ tw696) (fun _ h9 => h9) rfl d_Md_tries_160 ?_
            refine lv_iload hx hb d_Md_tries_163 (lv_at hl 5 rfl) ?_
            obtain ⟨hin, h⟩ := o_in h
            refine va_iald hx hb hK hP 8 0 rfl rfl hin d_Md_tries_165 ?_
            refine lv_istore (lv' := [(6, .int ((Mb_next mb) x6_159.toNatClampNeg)), (0, .ref (a 0)), (1, .int x1_35), (2, .int x2_35), (3, .int x3_35), (4, .int x4_135)]) hx hb d_Md_tries_166 hl (by decide) rfl (fun ls hl => ?_)
            refine lv_goto (tgt := 135) hx hb d_Md_tries_168 (by decide) ?_
            exact ih135 (((Mb_next mb) x6_159.toNatClampNeg), mx_159) _ _ _ h hP hD hS (lv_sub hl [1, 2, 3, 4, 5, 0] rfl)
          refine lv_iload hx hb d_Md_tries_135 (lv_at hl 5 rfl) ?_
          refine lv_iload_n hx hb d_Md_tries_137 rfl (lv_at hl 3 rfl) ?_
          refine lv_icmp_eq (tgt := 171) hx hb d_Md_tries_138 (by decide) (fun hc => ?_) (fun hc => ?_)
          · have h := o_t hc h
            refine lv_iinc (v := (x4_135 + 1)) (lv' := [(4, .int (x4_135 + 1)), (0, .ref (a 0)), (1, .int x1_35), (2, .int x2_35), (3, .int x3_35), (6, .int s135.1)]) hx hb d_Md_tries_171 hl (k := 4) rfl rfl (by decide) rfl (fun ls hl => ?_)
            refine lv_goto (tgt := 35) hx hb d_Md_tries_174 (by decide) ?_
            exact ih35 ((x4_135 + 1), s135.2) _ _ _ h hP hD hS (lv_sub hl [1, 2, 3, 4, 0] rfl)
          · have h := o_f hc h
            refine lv_aload_n hx hb d_Md_tries_141 rfl (lv_at hl 0 rfl) ?_
            refine lv_iload hx hb d_Md_tries_142 (lv_at hl 5 rfl) ?_
            refine lv_iload hx hb d_Md_tries_144 (lv_at hl 4 rfl) ?_
            obtain ⟨y146, hy, h⟩ := o_bd h
            refine kdV (nn := 24) (rest := []) (w' := (cMd cI cJ cZ a mb mg s135.2 mf)) (wr := ([] : va_W)) (st1 := [.int y146]) ⟨hx, hb, hml, hown, hts⟩ (c_Md_isEnded l dC dI cI cJ cZ a s135.1 x4_135 mb mg s135.2 mf y146 hy) (cwV 2 hts (gd_V tw981 tw983 ps51 tw9 tw984) rfl rfl rfl hd_Md_isEnded ⟨Nat.le_of_ble_eq_true rfl, Nat.le_of_ble_eq_true rfl⟩) hNw hK hP hD hS hA (ci := 7) rfl rfl rfl [0, 1, 2, 3, 4, 5, 6, 7, 8, 9, 10, 11, 12, 13, 14, 15, 16, 17, 18, 19, 20, 21, 22, 23] [] rfl rfl rfl rfl rfl (by decide +kernel) (by decide +kernel) rfl hl.1 rfl (Nat.le_of_ble_eq_true rfl) rfl d_Md_tries_146 ⟨Nat.zero_le _, Nat.zero_le _⟩ (fun H locs hP hD hS => ?_)
            refine lv_if_eq (tgt := 159) hx hb d_Md_tries_149 (by decide) (fun hc => ?_) (fun hc => ?_)
            · have h := o_t hc h
              exact B159 s135.1 s135.2 _ _ _ h hP hD hS (lv_sub hl [0, 1, 2, 3, 4, 5] rfl)
            · have h := o_f hc h
              refine lv_aload_n hx hb d_Md_tries_152 rfl (lv_at hl 0 rfl) ?_
              refine lv_iload_n hx hb d_Md_tries_153 rfl (lv_at hl 1 rfl) ?_
              refine lv_iload hx hb d_Md_tries_154 (lv_at hl 4 rfl) ?_
              obtain ⟨y156, hy, h⟩ := o_bd h
              refine kdV (nn := 24) (rest := []) (w' := (cMd cI cJ cZ a mb mg y156 mf)) (wr := ([] : va_W)) (st1 := []) ⟨hx, hb, hml, hown, hts⟩ (c_Md_through l dC dI cI cJ cZ a N x1_35 x4_135 mb mg s135.2 mf y156 hy) (cwV 2 hts (gd_V tw1005 tw1007 ps57 tw9 tw1008) rfl rfl rfl hd_Md_through ⟨Nat.le_of_ble_eq_true rfl, Nat.le_of_ble_eq_true rfl⟩) hNw hK hP hD hS hA (ci := 7) rfl rfl rfl [0, 1, 2, 3, 4, 5, 6, 7, 8, 9, 10, 11, 12, 13, 14, 15, 16, 17, 18, 19, 20, 21, 22, 23] [] rfl rfl rfl rfl rfl (by decide +kernel) (by decide +kernel) rfl hl.1 rfl (Nat.le_of_ble_eq_true rfl) rfl d_Md_tries_156 ⟨Nat.zero_le _, Nat.zero_le _⟩ (fun H locs hP hD hS => ?_)
              exact B159 s135.1 y156 _ _ _ h hP hD hS (lv_sub hl [0, 1, 2, 3, 4, 5] rfl)
      have B127 : ∀ (x4_127 : Int32) (mx_127 : MxS) (H : Heap) (locs : List Loc) (ls : Array Slot), f_Md_tries_b127 N (lp (f_Md_tries_L35 N x1_35 x2_35 x3_35 mb) n35) x1_35 x2_35 x3_35 x4_127 mb mx_127 = some res → va_P (dC, dI) classes (cMd cI cJ cZ a mb mg mx_127 mf) H → va_D A (cMd cI cJ cZ a mb mg mx_127 mf) → va_S A s.heap H locs → lv_has ls 7 [(0, .ref (a 0)), (1, .int x1_35), (2, .int x2_35), (3, .int x3_35), (4, .int x4_127)] → W p l e { frames := 2, cells := 0, slots := 0, locals := 46 } s m args below meth c H locs 0 0 (KZ below args s (dC, dI) classes none (cMd cI cJ cZ a mb mg res mf) A) (F0 m 127 ls []) := by
        intro x4_127 mx_127 H locs ls h hP hD hS hl
        refine lv_aload_n hx hb d_Md_tries_127 rfl (lv_at hl 0 rfl) ?_
        refine va_get (D := (dC, dI)) (ci := 7) (v := .ref (a 8)) (C := R_Md) (T := F_Md) (N := 35) hx hb hts inb_Md hown hK hP 0 rfl rfl 9 (by decide) (hts _ tw696) (fun _ h9 => h9) rfl d_Md_tries_128 ?_
        refine lv_iload_n hx hb d_Md_tries_131 rfl (lv_at hl 2 rfl) ?_
        obtain ⟨hin, h⟩ := o_in h
        refine va_iald hx hb hK hP 8 0 rfl rfl hin d_Md_tries_132 ?_
        refine lv_istore (lv' := [(6, .int ((Mb_next mb) x2_35.toNatClampNeg)), (0, .ref (a 0)), (1, .int x1_35), (2, .int x2_35), (3, .int x3_35), (4, .int x4_127)]) hx hb d_Md_tries_133 hl (by decide) rfl (fun ls hl => ?_)
        exact L135 x4_127 N (((Mb_next mb) x2_35.toNatClampNeg), mx_127) _ _ _ h hP hD hS (lv_sub hl [1, 2, 3, 4, 5, 0] rfl)
      have B105 : ∀ (x4_105 : Int32) (x5_105 : Int32) (mx_105 : MxS) (H : Heap) (locs : List Loc) (ls : Array Slot), f_Md_tries_b105 N (lp (f_Md_tries_L35 N x1_35 x2_35 x3_35 mb) n35) x1_35 x2_35 x3_35 x4_105 x5_105 mb mx_105 = some res → va_P (dC, dI) classes (cMd cI cJ cZ a mb mg mx_105 mf) H → va_D A (cMd cI cJ cZ a mb mg mx_105 mf) → va_S A s.heap H locs → lv_has ls 7 [(0, .ref (a 0)), (1, .int x1_35), (2, .int x2_35), (3, .int x3_35), (4, .int x4_105), (5, .int x5_105)] → W p l e { frames := 2, cells := 0, slots := 0, locals := 46 } s m args below meth c H locs 0 0 (KZ below args s (dC, dI) classes none (cMd cI cJ cZ a mb mg res mf) A) (F0 m 105 ls []) := by
        intro x4_105 x5_105 mx_105 H locs ls h hP hD hS hl
        refine lv_iload hx hb d_Md_tries_105 (lv_at hl 5 rfl) ?_
        refine lv_iload_n hx hb d_Md_tries_107 rfl (lv_at hl 3 rfl) ?_
        refine lv_icmp_eq (tgt := 120) hx hb d_Md_tries_108 (by decide) (fun hc => ?_) (fun hc => ?_)
        · have h := o_t hc h
          refine lv_aload_n hx hb d_Md_tries_120 rfl (lv_at hl 0 rfl) ?_
          refine lv_iload_n hx hb d_Md_tries_121 rfl (lv_at hl 1 rfl) ?_
          refine lv_iload hx hb d_Md_tries_122 (lv_at hl 4 rfl) ?_
          obtain ⟨y124, hy, h⟩ := o_bd h
          refine kdV (nn := 24) (rest := []) (w' := (cMd cI cJ cZ a mb mg y124 mf)) (wr := ([] : va_W)) (st1 := []) ⟨hx, hb, hml, hown, hts⟩ (c_Md_through l dC dI cI cJ cZ a N x1_35 x4_105 mb mg mx_105 mf y124 hy) (cwV 2 hts (gd_V tw1005 tw1007 ps57 tw9 tw1008) rfl rfl rfl hd_Md_through ⟨Nat.le_of_ble_eq_true rfl, Nat.le_of_ble_eq_true rfl⟩) hNw hK hP hD hS hA (ci := 7) rfl rfl rfl [0, 1, 2, 3, 4, 5, 6, 7, 8, 9, 10, 11, 12, 13, 14, 15, 16, 17, 18, 19, 20, 21, 22, 23] [] rfl rfl rfl rfl rfl (by decide +kernel) (by decide +kernel) rfl hl.1 rfl (Nat.le_of_ble_eq_true rfl) rfl d_Md_tries_124 ⟨Nat.zero_le _, Nat.zero_le _⟩ (fun H locs hP hD hS => ?_)
          exact B127 x4_105 y124 _ _ _ h hP hD hS (lv_sub hl [0, 1, 2, 3, 4] rfl)
        · have h := o_f hc h
          refine lv_aload_n hx hb d_Md_tries_111 rfl (lv_at hl 0 rfl) ?_
          refine lv_iload hx hb d_Md_tries_112 (lv_at hl 5 rfl) ?_
          obtain ⟨y114, hy, h⟩ := o_bd h
          refine kdV (nn := 24) (rest := []) (w' := (cMd cI cJ cZ a mb mg y114 mf)) (wr := ([] : va_W)) (st1 := []) ⟨hx, hb, hml, hown, hts⟩ (c_Md_come l dC dI cI cJ cZ a x5_105 mb mg mx_105 mf y114 hy) (cwV 1 hts (gd_V tw977 tw979 ps50 tw9 tw980) rfl rfl rfl hd_Md_come ⟨Nat.le_of_ble_eq_true rfl, Nat.le_of_ble_eq_true rfl⟩) hNw hK hP hD hS hA (ci := 7) rfl rfl rfl [0, 1, 2, 3, 4, 5, 6, 7, 8, 9, 10, 11, 12, 13, 14, 15, 16, 17, 18, 19, 20, 21, 22, 23] [] rfl rfl rfl rfl rfl (by decide +kernel) (by decide +kernel) rfl hl.1 rfl (Nat.le_of_ble_eq_true rfl) rfl d_Md_tries_114 ⟨Nat.zero_le _, Nat.zero_le _⟩ (fun H locs hP hD hS => ?_)
          refine lv_goto (tgt := 127) hx hb d_Md_tries_117 (by decide) ?_
          exact B127 x4_105 y114 _ _ _ h hP hD hS (lv_sub hl [0, 1, 2, 3, 4] rfl)
      have L61 : ∀ (x4_61 : Int32) (n61 : Nat) (s61 : Int32 × MxS) (H : Heap) (locs : List Loc) (ls : Array Slot), lp (f_Md_tries_L61 N (lp (f_Md_tries_L35 N x1_35 x2_35 x3_35 mb) n35) x1_35 x2_35 x3_35 x4_61 mb) n61 s61 = some res → va_P (dC, dI) classes (cMd cI cJ cZ a mb mg s61.2 mf) H → va_D A (cMd cI cJ cZ a mb mg s61.2 mf) → va_S A s.heap H locs → lv_has ls 7 [(0, .ref (a 0)), (1, .int x1_35), (2, .int x2_35), (3, .int x3_35), (4, .int x4_61), (5, .int s61.1)] → W p l e { frames := 2, cells := 0, slots := 0, locals := 46 } s m args below meth c H locs 0 0 (KZ below args s (dC, dI) classes none (cMd cI cJ cZ a mb mg res mf) A) (F0 m 61 ls []) := by
        intro x4_61 n61
        induction n61 with
        | zero => intro _ _ _ _ h; exact (lp_0 h).elim
        | succ n61 ih61 =>
          intro s61 H locs ls h hP hD hS hl
          have h := lp_s h
          have B93 : ∀ (x5_93 : Int32) (mx_93 : MxS) (H : Heap) (locs : List Loc) (ls : Array Slot), f_Md_tries_b93 N (lp (f_Md_tries_L35 N x1_35 x2_35 x3_35 mb) n35) (lp (f_Md_tries_L61 N (lp (f_Md_tries_L35 N x1_35 x2_35 x3_35 mb) n35) x1_35 x2_35 x3_35 x4_61 mb) n61) x1_35 x2_35 x3_35 x4_61 x5_93 mb mx_93 = some res → va_P (dC, dI) classes (cMd cI cJ cZ a mb mg mx_93 mf) H → va_D A (cMd cI cJ cZ a mb mg mx_93 mf) → va_S A s.heap H locs → lv_has ls 7 [(0, .ref (a 0)), (1, .int x1_35), (2, .int x2_35), (3, .int x3_35), (4, .int x4_61), (5, .int x5_93)] → W p l e { frames := 2, cells := 0, slots := 0, locals := 46 } s m args below meth c H locs 0 0 (KZ below args s (dC, dI) classes none (cMd cI cJ cZ a mb mg res mf) A) (F0 m 93 ls []) := by
            intro x5_93 mx_93 H locs ls h hP hD hS hl
            refine lv_aload_n hx hb d_Md_tries_93 rfl (lv_at hl 0 rfl) ?_
            refine va_get (D := (dC, dI)) (ci := 7) (v := .ref (a 8)) (C := R_Md) (T := F_Md) (N := 35) hx hb hts inb_Md hown hK hP 0 rfl rfl 9 (by decide) (hts _ tw696) (fun _ h9 => h9) rfl d_Md_tries_94 ?_
            refine lv_iload hx hb d_Md_tries_97 (lv_at hl 5 rfl) ?_
            obtain ⟨hin, h⟩ := o_in h
            refine va_iald hx hb hK hP 8 0 rfl rfl hin d_Md_tries_99 ?_
            refine lv_istore (lv' := [(5, .int ((Mb_next mb) x5_93.toNatClampNeg)), (0, .ref (a 0)), (1, .int x1_35), (2, .int x2_35), (3, .int x3_35), (4, .int x4_61)]) hx hb d_Md_tries_100 hl (by decide) rfl (fun ls hl => ?_)
            refine lv_goto (tgt := 61) hx hb d_Md_tries_102 (by decide) ?_
            exact ih61 (((Mb_next mb) x5_93.toNatClampNeg), mx_93) _ _ _ h hP hD hS (lv_sub hl [1, 2, 3, 4, 5, 0] rfl)
          refine lv_iload hx hb d_Md_tries_61 (lv_at hl 5 rfl) ?_
          refine lv_iload_n hx hb d_Md_tries_63 rfl (lv_at hl 3 rfl) ?_
          refine lv_icmp_eq (tgt := 105) hx hb d_Md_tries_64 (by decide) (fun hc => ?_) (fun hc => ?_)
          · have h := o_t hc h
            exact B105 x4_61 s61.1 s61.2 _ _ _ h hP hD hS (lv_sub hl [0, 1, 2, 3, 4, 5] rfl)
          · have h := o_f hc h
            refine lv_iload hx hb d_Md_tries_67 (lv_at hl 4 rfl) ?_
            refine lv_bipush (v := 122) hx hb d_Md_tries_69 (by decide) ?_
            refine lv_icmp_lt (tgt := 93) hx hb d_Md_tries_71 (by decide) (fun hc => ?_) (fun hc => ?_)
            · have h := o_t hc h
              exact B93 s61.1 s61.2 _ _ _ h hP hD hS (lv_sub hl [0, 1, 2, 3, 4, 5] rfl)
            · have h := o_f hc h
              refine lv_aload_n hx hb d_Md_tries_74 rfl (lv_at hl 0 rfl) ?_
              refine lv_iload hx hb d_Md_tries_75 (lv_at hl 4 rfl) ?_
              refine lv_bipush (v := 122) hx hb d_Md_tries_77 (by decide) ?_
              refine lv_isub hx hb d_Md_tries_79 ?_
              refine lv_aload_n hx hb d_Md_tries_80 rfl (lv_at hl 0 rfl) ?_
              refine va_get (D := (dC, dI)) (ci := 7) (v := .ref (a 5)) (C := R_Md) (T := F_Md) (N := 35) hx hb hts inb_Md hown hK hP 0 rfl rfl 6 (by decide) (hts _ tw693) (fun _ h9 => h9) rfl d_Md_tries_81 ?_
              refine lv_iload hx hb d_Md_tries_84 (lv_at hl 5 rfl) ?_
              obtain ⟨hin, h⟩ := o_in h
              refine va_iald hx hb hK hP 5 0 rfl rfl hin d_Md_tries_86 ?_
              obtain ⟨y87, hy, h⟩ := o_bd h
              refine kdV (nn := 24) (rest := []) (w' := (cMd cI cJ cZ a mb mg s61.2 mf)) (wr := ([] : va_W)) (st1 := [.int y87]) ⟨hx, hb, hml, hown, hts⟩ (c_Md_isBelow l dC dI cI cJ cZ a N (x4_61 - (122 : Int32)) ((Mb_mark mb) s61.1.toNatClampNeg) mb mg s61.2 mf y87 hy) (cwV 2 hts (gd_V tw925 tw927 ps37 tw9 tw928) rfl rfl rfl hd_Md_isBelow ⟨Nat.le_of_ble_eq_true rfl, Nat.le_of_ble_eq_true rfl⟩) hNw hK hP hD hS hA (ci := 7) rfl rfl rfl [0, 1, 2, 3, 4, 5, 6, 7, 8, 9, 10, 11, 12, 13, 14, 15, 16, 17, 18, 19, 20, 21, 22, 23] [] rfl rfl rfl rfl rfl (by decide +kernel) (by decide +kernel) rfl hl.1 rfl (Nat.le_of_ble_eq_true rfl) rfl d_Md_tries_87 ⟨Nat.zero_le _, Nat.zero_le _⟩ (fun H locs hP hD hS => ?_)
              refine lv_if_ne (tgt := 105) hx hb d_Md_tries_90 (by decide) (fun hc => ?_) (fun hc => ?_)
              · have h := o_f hc h
                exact B105 x4_61 s61.1 s61.2 _ _ _ h hP hD hS (lv_sub hl [0, 1, 2, 3, 4, 5] rfl)
              · have h := o_t hc h
                exact B93 s61.1 s61.2 _ _ _ h hP hD hS (lv_sub hl [0, 1, 2, 3, 4, 5] rfl)
      refine lv_iload hx hb d_Md_tries_35 (lv_at hl 4 rfl) ?_
      refine lv_sipush (v := 134) hx hb d_Md_tries_37 (by decide) ?_
      refine lv_icmp_ge (tgt := 177) hx hb d_Md_tries_40 (by decide) (fun hc => ?_) (fun hc => ?_)
      · have h := o_t hc h
        cases h
        exact kr_v hx hb hr hlocks hP hD hS d_Md_tries_177
      · have h := o_f hc h
        refine lv_aload_n hx hb d_Md_tries_43 rfl (lv_at hl 0 rfl) ?_
        refine va_get (D := (dC, dI)) (ci := 7) (v := .ref (a 8)) (C := R_Md) (T := F_Md) (N := 35) hx hb hts inb_Md hown hK hP 0 rfl rfl 9 (by decide) (hts _ tw696) (fun _ h9 => h9) rfl d_Md_tries_44 ?_
        refine lv_iload_n hx hb d_Md_tries_47 rfl (lv_at hl 2 rfl) ?_
        obtain ⟨hin, h⟩ := o_in h
        refine va_iald hx hb hK hP 8 0 rfl rfl hin d_Md_tries_48 ?_
        refine lv_istore (lv' := [(5, .int ((Mb_next mb) x2_35.toNatClampNeg)), (0, .ref (a 0)), (1, .int x1_35), (2, .int x2_35), (3, .int x3_35), (4, .int s35.1)]) hx hb d_Md_tries_49 hl (by decide) rfl (fun ls hl => ?_)
        refine lv_aload_n hx hb d_Md_tries_51 rfl (lv_at hl 1 rfl) ?_
        refine lv_iload_n hx hb d_Md_tries_52 rfl (lv_at hl 3 rfl) ?_
        refine lv_iload hx hb d_Md_tries_53 (lv_at hl 5 rfl) ?_
        obtain ⟨y55, hy, h⟩ := o_bd h
        refine kdV (nn := 24) (rest := []) (w' := (cMd cI cJ cZ a mb mg s35.2 mf)) (wr := ([] : va_W)) (st1 := [.int y55]) ⟨hx, hb, hml, hown, hts⟩ (c_Md_isEnded l dC dI cI cJ cZ a x2_35 s35.1 mb mg s35.2 mf y55 hy) (cwV 2 hts (gd_V tw981 tw983 ps51 tw9 tw984) rfl rfl rfl hd_Md_isEnded ⟨Nat.le_of_ble_eq_true rfl, Nat.le_of_ble_eq_true rfl⟩) hNw hK hP hD hS hA (ci := 7) rfl rfl rfl [0, 1, 2, 3, 4, 5, 6, 7, 8, 9, 10, 11, 12, 13, 14, 15, 16, 17, 18, 19, 20, 21, 22, 23] [] rfl rfl rfl rfl rfl (by decide +kernel) (by decide +kernel) rfl hl.1 rfl (Nat.le_of_ble_eq_true rfl) rfl d_Md_tries_55 ⟨Nat.zero_le _, Nat.zero_le _⟩ (fun H locs hP hD hS => ?_)
        refine lv_if_eq (tgt := 127) hx hb d_Md_tries_58 (by decide) (fun hc => ?_) (fun hc => ?_)
        · have h := o_t hc h
          exact B127 s35.1 s35.2 _ _ _ h hP hD hS (lv_sub hl [1, 2, 3, 4, 5] rfl)
        · have h := o_f hc h
          exact L61 s35.1 N (((Mb_next mb) x2_35.toNatClampNeg), s35.2) _ _ _ h hP hD hS (lv_sub hl [1, 2, 3, 4, 5, 0] rfl)
  have B26 : ∀ (z0_26 : Int32) (x1_26 : Int32) (x2_26 : Int32) (mx_26 : MxS) (H : Heap) (locs : List Loc) (ls : Array Slot), f_Md_tries_b26 N z0_26 x1_26 x2_26 mb mx_26 = some res → va_P (dC, dI) classes (cMd cI cJ cZ a mb mg mx_26 mf) H → va_D A (cMd cI cJ cZ a mb mg mx_26 mf) → va_S A s.heap H locs → lv_has ls 7 [(0, .ref (a 0)), (1, .int x1_26), (2, .int x2_26)] → W p l e { frames := 2, cells := 0, slots := 0, locals := 46 } s m args below meth c H locs 0 0 (KZ below args s (dC, dI) classes none (cMd cI cJ cZ a mb mg res mf) A) (F0 m 26 ls [.int z0_26]) := by
    intro z0_26 x1_26 x2_26 mx_26 H locs ls h hP hD hS hl
    refine lv_istore_n (lv' := [(3, .int z0_26), (0, .ref (a 0)), (1, .int x1_26), (2, .int x2_26)]) hx hb d_Md_tries_26 rfl hl (by decide) rfl (fun ls hl => ?_)
    refine lv_aload_n hx hb d_Md_tries_27 rfl (lv_at hl 1 rfl) ?_
    refine lv_iload_n hx hb d_Md_tries_28 rfl (lv_at hl 3 rfl) ?_
    obtain ⟨y29, hy, h⟩ := o_bd h
    refine kdV (nn := 24) (rest := []) (w' := (cMd cI cJ cZ a mb mg y29 mf)) (wr := ([] : va_W)) (st1 := []) ⟨hx, hb, hml, hown, hts⟩ (c_Md_come l dC dI cI cJ cZ a x2_26 mb mg mx_26 mf y29 hy) (cwV 1 hts (gd_V tw977 tw979 ps50 tw9 tw980) rfl rfl rfl hd_Md_come ⟨Nat.le_of_ble_eq_true rfl, Nat.le_of_ble_eq_true rfl⟩) hNw hK hP hD hS hA (ci := 7) rfl rfl rfl [0, 1, 2, 3, 4, 5, 6, 7, 8, 9, 10, 11, 12, 13, 14, 15, 16, 17, 18, 19, 20, 21, 22, 23] [] rfl rfl rfl rfl rfl (by decide +kernel) (by decide +kernel) rfl hl.1 rfl (Nat.le_of_ble_eq_true rfl) rfl d_Md_tries_29 ⟨Nat.zero_le _, Nat.zero_le _⟩ (fun H locs hP hD hS => ?_)
    refine lv_iconst (v := 0) hx hb d_Md_tries_32 (by decide) ?_
    refine lv_istore (lv' := [(4, .int (0 : Int32)), (3, .int z0_26), (0, .ref (a 0)), (1, .int x1_26), (2, .int x2_26)]) hx hb d_Md_tries_33 hl (by decide) rfl (fun ls hl => ?_)
    exact L35 x1_26 x2_26 z0_26 N ((0 : Int32), y29) _ _ _ h hP hD hS (lv_sub hl [2, 3, 4, 1, 0] rfl)
  refine lv_aload_n hx hb d_Md_tries_0 rfl (lv_at hl 0 rfl) ?_
  refine va_get (D := (dC, dI)) (ci := 7) (v := .ref (a 6)) (C := R_Md) (T := F_Md) (N := 35) hx hb hts inb_Md hown hK hP 0 rfl rfl 7 (by decide) (hts _ tw694) (fun _ h9 => h9) rfl d_Md_tries_1 ?_
  refine lv_iload_n hx hb d_Md_tries_4 rfl (lv_at hl 1 rfl) ?_
  obtain ⟨hin, h⟩ := o_in h
  refine va_iald hx hb hK hP 6 0 rfl rfl hin d_Md_tries_5 ?_
  refine lv_istore_n (lv' := [(2, .int ((Mb_first mb) x1.toNatClampNeg)), (0, .ref (a 0)), (1, .int x1)]) hx hb d_Md_tries_6 rfl hl (by decide) rfl (fun ls hl => ?_)
  refine lv_aload_n hx hb d_Md_tries_7 rfl (lv_at hl 1 rfl) ?_
  refine va_get (D := (dC, dI)) (ci := 7) (v := .ref (a 10)) (C := R_Md) (T := F_Md) (N := 35) hx hb hts inb_Md hown hK hP 0 rfl rfl 11 (by decide) (hts _ tw698) (fun _ h9 => h9) rfl d_Md_tries_8 ?_
  refine lv_iload_n hx hb d_Md_tries_11 rfl (lv_at hl 2 rfl) ?_
  obtain ⟨hin, h⟩ := o_in h
  refine va_zald hx hb hK hP 10 2 rfl rfl hin d_Md_tries_12 ?_
  refine lv_if_eq (tgt := 25) hx hb d_Md_tries_13 (by decide) (fun hc => ?_) (fun hc => ?_)
  · have h := o_t hc h
    refine lv_iconst (v := -1) hx hb d_Md_tries_25 (by decide) ?_
    exact B26 (-1 : Int32) x1 ((Mb_first mb) x1.toNatClampNeg) mx _ _ _ h hP hD hS (lv_sub hl [1, 2, 0] rfl)
  · have h := o_f hc h
    refine lv_aload_n hx hb d_Md_tries_16 rfl (lv_at hl 1 rfl) ?_
    refine va_get (D := (dC, dI)) (ci := 7) (v := .ref (a 7)) (C := R_Md) (T := F_Md) (N := 35) hx hb hts inb_Md hown hK hP 0 rfl rfl 8 (by decide) (hts _ tw695) (fun _ h9 => h9) rfl d_Md_tries_17 ?_
    refine lv_iload_n hx hb d_Md_tries_20 rfl (lv_at hl 2 rfl) ?_
    obtain ⟨hin, h⟩ := o_in h
    refine va_iald hx hb hK hP 7 0 rfl rfl hin d_Md_tries_21 ?_
    refine lv_goto (tgt := 26) hx hb d_Md_tries_22 (by decide) ?_
    exact B26 ((Mb_last mb) x1.toNatClampNeg) x1 ((Mb_first mb) x1.toNatClampNeg) mx _ _ _ h hP hD hS (lv_sub hl [1, 2, 0] rfl)
set_option maxHeartbeats 4000000 in
set_option maxRecDepth 100000 in
theorem c_Md_raises (l : Launch) (dC : Nat → ClassId) (dI : Nat → Nat → Nat) (cI cJ cZ : ClassId) (a : Nat → Nat) (N : Nat) (x1 : Int32) (mb : MbS) (mg : MgS) (mx : MxS) (mf : MfS) (res : MxS) (h : f_Md_raises N x1 mb mg mx = some res) :
    Kt l (dC, dI) classes [(cI, .int), (cJ, .long), (cZ, .boolean)] y_Md_raises (wz y_Md_raises b_Md_raises 3 none) { frames := 1, cells := 0, slots := 0, locals := 23 } [.ref (a 0), .int x1] (cMd cI cJ cZ a mb mg mx mf) none (cMd cI cJ cZ a mb mg res mf) := by
  refine Kt_of (cc := b_Md_raises) (maxL := 3) (ret := none) (by decide) (Nat.le_of_ble_eq_true rfl) ?_
  intro p e s m args below meth c A ls hx hb hr hml hlocks hown hts hNw hK hP hD hA hS hl
  have hl : lv_has ls 3 [(0, .ref (a 0)), (1, .int x1)] := hl
  have hP : va_P (dC, dI) classes (cMd cI cJ cZ a mb mg mx mf) s.heap := hP
  have L2 : ∀ (x1_2 : Int32) (n2 : Nat) (s2 : Int32 × MxS) (H : Heap) (locs : List Loc) (ls : Array Slot), lp (f_Md_raises_L2 N x1_2 mb mg) n2 s2 = some res → va_P (dC, dI) classes (cMd cI cJ cZ a mb mg s2.2 mf) H → va_D A (cMd cI cJ cZ a mb mg s2.2 mf) → va_S A s.heap H locs → lv_has ls 3 [(0, .ref (a 0)), (1, .int x1_2), (2, .int s2.1)] → W p l e { frames := 1, cells := 0, slots := 0, locals := 23 } s m args below meth c H locs 0 0 (KZ below args s (dC, dI) classes none (cMd cI cJ cZ a mb mg res mf) A) (F0 m 2 ls []) := by
    intro x1_2 n2
    induction n2 with
    | zero => intro _ _ _ _ h; exact (lp_0 h).elim
    | succ n2 ih2 =>
      intro s2 H locs ls h hP hD hS hl
      have h := lp_s h
      refine lv_iload_n hx hb d_Md_raises_2 rfl (lv_at hl 2 rfl) ?_
      refine lv_aload_n hx hb d_Md_raises_3 rfl (lv_at hl 0 rfl) ?_
      refine va_get (D := (dC, dI)) (ci := 7) (v := .int (Mg_knownKinds mg)) (C := R_Md) (T := F_Md) (N := 35) hx hb hts inb_Md hown hK hP 0 rfl rfl 20 (by decide) (hts _ tw707) (fun _ h9 => h9) rfl d_Md_raises_4 ?_
      refine lv_icmp_ge (tgt := 49) hx hb d_Md_raises_7 (by decide) (fun hc => ?_) (fun hc => ?_)
      · have h := o_t hc h
        cases h
        exact kr_v hx hb hr hlocks hP hD hS d_Md_raises_49
      · have h := o_f hc h
        refine lv_aload_n hx hb d_Md_raises_10 rfl (lv_at hl 0 rfl) ?_
        refine va_get (D := (dC, dI)) (ci := 7) (v := .ref (a 3)) (C := R_Md) (T := F_Md) (N := 35) hx hb hts inb_Md hown hK hP 0 rfl rfl 4 (by decide) (hts _ tw691) (fun _ h9 => h9) rfl d_Md_raises_11 ?_
        refine lv_iload_n hx hb d_Md_raises_14 rfl (lv_at hl 1 rfl) ?_
        obtain ⟨hin, h⟩ := o_in h
        refine va_iald hx hb hK hP 3 0 rfl rfl hin d_Md_raises_15 ?_
        refine lv_iconst (v := -1) hx hb d_Md_raises_16 (by decide) ?_
        refine lv_icmp_eq (tgt := 49) hx hb d_Md_raises_17 (by decide) (fun hc => ?_) (fun hc => ?_)
        · have h := o_t hc h
          cases h
          exact kr_v hx hb hr hlocks hP hD hS d_Md_raises_49
        · have h := o_f hc h
          refine lv_aload_n hx hb d_Md_raises_20 rfl (lv_at hl 0 rfl) ?_
          refine lv_iload_n hx hb d_Md_raises_21 rfl (lv_at hl 2 rfl) ?_
          refine lv_aload_n hx hb d_Md_raises_22 rfl (lv_at hl 0 rfl) ?_
          refine va_get (D := (dC, dI)) (ci := 7) (v := .ref (a 3)) (C := R_Md) (T := F_Md) (N := 35) hx hb hts inb_Md hown hK hP 0 rfl rfl 4 (by decide) (hts _ tw691) (fun _ h9 => h9) rfl d_Md_raises_23 ?_
          refine lv_iload_n hx hb d_Md_raises_26 rfl (lv_at hl 1 rfl) ?_
          obtain ⟨hin, h⟩ := o_in h
          refine va_iald hx hb hK hP 3 0 rfl rfl hin d_Md_raises_27 ?_
          obtain ⟨y28, hy, h⟩ := o_bd h
          refine kdV (nn := 24) (rest := []) (w' := (cMd cI cJ cZ a mb mg s2.2 mf)) (wr := ([] : va_W)) (st1 := [.int y28]) ⟨hx, hb, hml, hown, hts⟩ (c_Md_isBelow l dC dI cI cJ cZ a N s2.1 ((Mb_given mb) x1_2.toNatClampNeg) mb mg s2.2 mf y28 hy) (cwV 2 hts (gd_V tw925 tw927 ps37 tw9 tw928) rfl rfl rfl hd_Md_isBelow ⟨Nat.le_of_ble_eq_true rfl, Nat.le_of_ble_eq_true rfl⟩) hNw hK hP hD hS hA (ci := 7) rfl rfl rfl [0, 1, 2, 3, 4, 5, 6, 7, 8, 9, 10, 11, 12, 13, 14, 15, 16, 17, 18, 19, 20, 21, 22, 23] [] rfl rfl rfl rfl rfl (by decide +kernel) (by decide +kernel) rfl hl.1 rfl (Nat.le_of_ble_eq_true rfl) rfl d_Md_raises_28 ⟨Nat.zero_le _, Nat.zero_le _⟩ (fun H locs hP hD hS => ?_)
          refine lv_if_eq (tgt := 43) hx hb d_Md_raises_31 (by decide) (fun hc => ?_) (fun hc => ?_)
          · have h := o_t hc h
            refine lv_iinc (v := (s2.1 + 1)) (lv' := [(2, .int (s2.1 + 1)), (0, .ref (a 0)), (1, .int x1_2)]) hx hb d_Md_raises_43 hl (k := 2) rfl rfl (by decide) rfl (fun ls hl => ?_)
            refine lv_goto (tgt := 2) hx hb d_Md_raises_46 (by decide) ?_
            exact ih2 ((s2.1 + 1), s2.2) _ _ _ h hP hD hS (lv_sub hl [1, 2, 0] rfl)
          · have h := o_f hc h
            refine lv_aload_n hx hb d_Md_raises_34 rfl (lv_at hl 0 rfl) ?_
            refine lv_iload_n hx hb d_Md_raises_35 rfl (lv_at hl 1 rfl) ?_
            refine lv_bipush (v := 122) hx hb d_Md_raises_36 (by decide) ?_
            refine lv_iload_n hx hb d_Md_raises_38 rfl (lv_at hl 2 rfl) ?_
            refine lv_iadd hx hb d_Md_raises_39 ?_
            obtain ⟨y40, hy, h⟩ := o_bd h
            refine kdV (nn := 24) (rest := []) (w' := (cMd cI cJ cZ a mb mg y40 mf)) (wr := ([] : va_W)) (st1 := []) ⟨hx, hb, hml, hown, hts⟩ (c_Md_endBy l dC dI cI cJ cZ a x1_2 ((122 : Int32) + s2.1) mb mg s2.2 mf y40 hy) (cwV 2 hts (gd_V tw965 tw967 ps47 tw9 tw968) rfl rfl rfl hd_Md_endBy ⟨Nat.le_of_ble_eq_true rfl, Nat.le_of_ble_eq_true rfl⟩) hNw hK hP hD hS hA (ci := 7) rfl rfl rfl [0, 1, 2, 3, 4, 5, 6, 7, 8, 9, 10, 11, 12, 13, 14, 15, 16, 17, 18, 19, 20, 21, 22, 23] [] rfl rfl rfl rfl rfl (by decide +kernel) (by decide +kernel) rfl hl.1 rfl (Nat.le_of_ble_eq_true rfl) rfl d_Md_raises_40 ⟨Nat.zero_le _, Nat.zero_le _⟩ (fun H locs hP hD hS => ?_)
            refine lv_iinc (v := (s2.1 + 1)) (lv' := [(2, .int (s2.1 + 1)), (0, .ref (a 0)), (1, .int x1_2)]) hx hb d_Md_raises_43 hl (k := 2) rfl rfl (by decide) rfl (fun ls hl => ?_)
            refine lv_goto (tgt := 2) hx hb d_Md_raises_46 (by decide) ?_
            exact ih2 ((s2.1 + 1), y40) _ _ _ h hP hD hS (lv_sub hl [1, 2, 0] rfl)
  refine lv_iconst (v := 0) hx hb d_Md_raises_0 (by decide) ?_
  refine lv_istore_n (lv' := [(2, .int (0 : Int32)), (0, .ref (a 0)), (1, .int x1)]) hx hb d_Md_raises_1 rfl hl (by decide) rfl (fun ls hl => ?_)
  exact L2 x1 N ((0 : Int32), mx) _ _ _ h hP hD hS (lv_sub hl [1, 2, 0] rfl)
set_option maxHeartbeats 4000000 in
set_option maxRecDepth 100000 in
theorem c_Md_branches (l : Launch) (dC : Nat → ClassId) (dI : Nat → Nat → Nat) (cI cJ cZ : ClassId) (a : Nat → Nat) (N : Nat) (x1 : Int32) (x2 : Int32) (mb : MbS) (mg : MgS) (mx : MxS) (mf : MfS) (res : MxS) (h : f_Md_branches N x1 x2 mb mx = some res) :
    Kt l (dC, dI) classes [(cI, .int), (cJ, .long), (cZ, .boolean)] y_Md_branches (wz y_Md_branches b_Md_branches 6 none) { frames := 3, cells := 0, slots := 0, locals := 66 } [.ref (a 0), .int x1, .int x2] (cMd cI cJ cZ a mb mg mx mf) none (cMd cI cJ cZ a mb mg res mf) := by
  refine Kt_of (cc := b_Md_branches) (maxL := 6) (ret := none) (by decide) (Nat.le_of_ble_eq_true rfl) ?_
  intro p e s m args below meth c A ls hx hb hr hml hlocks hown hts hNw hK hP hD hA hS hl
  have hl : lv_has ls 6 [(0, .ref (a 0)), (1, .int x1), (2, .int x2)] := hl
  have hP : va_P (dC, dI) classes (cMd cI cJ cZ a mb mg mx mf) s.heap := hP
  have L61 : ∀ (x1_61 : Int32) (n61 : Nat) (s61 : Int32 × MxS) (H : Heap) (locs : List Loc) (ls : Array Slot), lp (f_Md_branches_L61 N x1_61 mb) n61 s61 = some res → va_P (dC, dI) classes (cMd cI cJ cZ a mb mg s61.2 mf) H → va_D A (cMd cI cJ cZ a mb mg s61.2 mf) → va_S A s.heap H locs → lv_has ls 6 [(0, .ref (a 0)), (1, .int x1_61), (5, .int s61.1)] → W p l e { frames := 3, cells := 0, slots := 0, locals := 66 } s m args below meth c H locs 0 0 (KZ below args s (dC, dI) classes none (cMd cI cJ cZ a mb mg res mf) A) (F0 m 61 ls []) := by
    intro x1_61 n61
    induction n61 with
    | zero => intro _ _ _ _ h; exact (lp_0 h).elim
    | succ n61 ih61 =>
      intro s61 H locs ls h hP hD hS hl
      have h := lp_s h
      have B83 : ∀ (x5_83 : Int32) (mx_83 : MxS) (H : Heap) (locs : List Loc) (ls : Array Slot), f_Md_branches_b83 N (lp (f_Md_branches_L61 N x1_61 mb) n61) x1_61 x5_83 mb mx_83 = some res → va_P (dC, dI) classes (cMd cI cJ cZ a mb mg mx_83 mf) H → va_D A (cMd cI cJ cZ a mb mg mx_83 mf) → va_S A s.heap H locs → lv_has ls 6 [(0, .ref (a 0)), (1, .int x1_61), (5, .int x5_83)] → W p l e { frames := 3, cells := 0, slots := 0, locals := 66 } s m args below meth c H locs 0 0 (KZ below args s (dC, dI) classes none (cMd cI cJ cZ a mb mg res mf) A) (F0 m 83 ls []) := by
        intro x5_83 mx_83 H locs ls h hP hD hS hl
        refine lv_aload_n hx hb d_Md_branches_83 rfl (lv_at hl 0 rfl) ?_
        refine lv_iload_n hx hb d_Md_branches_84 rfl (lv_at hl 1 rfl) ?_
        refine lv_iload hx hb d_Md_branches_85 (lv_at hl 2 rfl) ?_
        obtain ⟨y87, hy, h⟩ := o_bd h
        refine kdV (nn := 24) (rest := []) (w' := (cMd cI cJ cZ a mb mg y87 mf)) (wr := ([] : va_W)) (st1 := []) ⟨hx, hb, hml, hown, hts⟩ (c_Md_pass l dC dI cI cJ cZ a N x1_61 x5_83 mb mg mx_83 mf y87 hy) (cwV 2 hts (gd_V tw985 tw987 ps52 tw9 tw988) rfl rfl rfl hd_Md_pass ⟨Nat.le_of_ble_eq_true rfl, Nat.le_of_ble_eq_true rfl⟩) hNw hK hP hD hS hA (ci := 7) rfl rfl rfl [0, 1, 2, 3, 4, 5, 6, 7, 8, 9, 10, 11, 12, 13, 14, 15, 16, 17, 18, 19, 20, 21, 22, 23] [] rfl rfl rfl rfl rfl (by decide +kernel) (by decide +kernel) rfl hl.1 rfl (Nat.le_of_ble_eq_true rfl) rfl d_Md_branches_87 ⟨Nat.zero_le _, Nat.zero_le _⟩ (fun H locs hP hD hS => ?_)
        refine lv_aload_n hx hb d_Md_branches_90 rfl (lv_at hl 0 rfl) ?_
        refine va_get (D := (dC, dI)) (ci := 7) (v := .ref (a 8)) (C := R_Md) (T := F_Md) (N := 35) hx hb hts inb_Md hown hK hP 0 rfl rfl 9 (by decide) (hts _ tw696) (fun _ h9 => h9) rfl d_Md_branches_91 ?_
        refine lv_iload hx hb d_Md_branches_94 (lv_at hl 2 rfl) ?_
        obtain ⟨hin, h⟩ := o_in h
        refine va_iald hx hb hK hP 8 0 rfl rfl hin d_Md_branches_96 ?_
        refine lv_istore (lv' := [(5, .int ((Mb_next mb) x5_83.toNatClampNeg)), (0, .ref (a 0)), (1, .int x1_61)]) hx hb d_Md_branches_97 hl (by decide) rfl (fun ls hl => ?_)
        refine lv_goto (tgt := 61) hx hb d_Md_branches_99 (by decide) ?_
        exact ih61 (((Mb_next mb) x5_83.toNatClampNeg), y87) _ _ _ h hP hD hS (lv_sub hl [1, 2, 0] rfl)
      refine lv_iload hx hb d_Md_branches_61 (lv_at hl 2 rfl) ?_
      refine lv_iconst (v := -1) hx hb d_Md_branches_63 (by decide) ?_
      refine lv_icmp_eq (tgt := 102) hx hb d_Md_branches_64 (by decide) (fun hc => ?_) (fun hc => ?_)
      · have h := o_t hc h
        cases h
        exact kr_v hx hb hr hlocks hP hD hS d_Md_branches_102
      · have h := o_f hc h
        refine lv_aload_n hx hb d_Md_branches_67 rfl (lv_at hl 0 rfl) ?_
        refine lv_iload hx hb d_Md_branches_68 (lv_at hl 2 rfl) ?_
        refine lv_iconst (v := 0) hx hb d_Md_branches_70 (by decide) ?_
        obtain ⟨y71, hy, h⟩ := o_bd h
        refine kdV (nn := 24) (rest := []) (w' := (cMd cI cJ cZ a mb mg s61.2 mf)) (wr := ([] : va_W)) (st1 := [.int y71]) ⟨hx, hb, hml, hown, hts⟩ (c_Md_isEnded l dC dI cI cJ cZ a s61.1 (0 : Int32) mb mg s61.2 mf y71 hy) (cwV 2 hts (gd_V tw981 tw983 ps51 tw9 tw984) rfl rfl rfl hd_Md_isEnded ⟨Nat.le_of_ble_eq_true rfl, Nat.le_of_ble_eq_true rfl⟩) hNw hK hP hD hS hA (ci := 7) rfl rfl rfl [0, 1, 2, 3, 4, 5, 6, 7, 8, 9, 10, 11, 12, 13, 14, 15, 16, 17, 18, 19, 20, 21, 22, 23] [] rfl rfl rfl rfl rfl (by decide +kernel) (by decide +kernel) rfl hl.1 rfl (Nat.le_of_ble_eq_true rfl) rfl d_Md_branches_71 ⟨Nat.zero_le _, Nat.zero_le _⟩ (fun H locs hP hD hS => ?_)
        refine lv_if_eq (tgt := 83) hx hb d_Md_branches_74 (by decide) (fun hc => ?_) (fun hc => ?_)
        · have h := o_t hc h
          exact B83 s61.1 s61.2 _ _ _ h hP hD hS (lv_sub hl [0, 1, 2] rfl)
        · have h := o_f hc h
          refine lv_aload_n hx hb d_Md_branches_77 rfl (lv_at hl 0 rfl) ?_
          refine lv_iload_n hx hb d_Md_branches_78 rfl (lv_at hl 1 rfl) ?_
          refine lv_iconst (v := 0) hx hb d_Md_branches_79 (by decide) ?_
          obtain ⟨y80, hy, h⟩ := o_bd h
          refine kdV (nn := 24) (rest := []) (w' := (cMd cI cJ cZ a mb mg y80 mf)) (wr := ([] : va_W)) (st1 := []) ⟨hx, hb, hml, hown, hts⟩ (c_Md_endBy l dC dI cI cJ cZ a x1_61 (0 : Int32) mb mg s61.2 mf y80 hy) (cwV 2 hts (gd_V tw965 tw967 ps47 tw9 tw968) rfl rfl rfl hd_Md_endBy ⟨Nat.le_of_ble_eq_true rfl, Nat.le_of_ble_eq_true rfl⟩) hNw hK hP hD hS hA (ci := 7) rfl rfl rfl [0, 1, 2, 3, 4, 5, 6, 7, 8, 9, 10, 11, 12, 13, 14, 15, 16, 17, 18, 19, 20, 21, 22, 23] [] rfl rfl rfl rfl rfl (by decide +kernel) (by decide +kernel) rfl hl.1 rfl (Nat.le_of_ble_eq_true rfl) rfl d_Md_branches_80 ⟨Nat.zero_le _, Nat.zero_le _⟩ (fun H locs hP hD hS => ?_)
          exact B83 s61.1 y80 _ _ _ h hP hD hS (lv_sub hl [0, 1, 2] rfl)
  have B41 : ∀ (x1_41 : Int32) (x2_41 : Int32) (x3_41 : Int32) (x4_41 : Int32) (mx_41 : MxS) (H : Heap) (locs : List Loc) (ls : Array Slot), f_Md_branches_b41 N x1_41 x2_41 x3_41 x4_41 mb mx_41 = some res → va_P (dC, dI) classes (cMd cI cJ cZ a mb mg mx_41 mf) H → va_D A (cMd cI cJ cZ a mb mg mx_41 mf) → va_S A s.heap H locs → lv_has ls 6 [(0, .ref (a 0)), (1, .int x1_41), (2, .int x2_41), (3, .int x3_41), (4, .int x4_41)] → W p l e { frames := 3, cells := 0, slots := 0, locals := 66 } s m args below meth c H locs 0 0 (KZ below args s (dC, dI) classes none (cMd cI cJ cZ a mb mg res mf) A) (F0 m 41 ls []) := by
    intro x1_41 x2_41 x3_41 x4_41 mx_41 H locs ls h hP hD hS hl
    refine lv_iload_n hx hb d_Md_branches_41 rfl (lv_at hl 2 rfl) ?_
    refine lv_iconst (v := 1) hx hb d_Md_branches_42 (by decide) ?_
    refine lv_icmp_eq (tgt := 58) hx hb d_Md_branches_43 (by decide) (fun hc => ?_) (fun hc => ?_)
    · have h := o_t hc h
      refine lv_iload_n hx hb d_Md_branches_58 rfl (lv_at hl 3 rfl) ?_
      refine lv_istore (lv' := [(5, .int x3_41), (0, .ref (a 0)), (1, .int x1_41), (2, .int x2_41), (3, .int x3_41), (4, .int x4_41)]) hx hb d_Md_branches_59 hl (by decide) rfl (fun ls hl => ?_)
      exact L61 x1_41 N (x3_41, mx_41) _ _ _ h hP hD hS (lv_sub hl [1, 2, 0] rfl)
    · have h := o_f hc h
      refine lv_iload hx hb d_Md_branches_46 (lv_at hl 4 rfl) ?_
      refine lv_iconst (v := -1) hx hb d_Md_branches_48 (by decide) ?_
      refine lv_icmp_ne (tgt := 58) hx hb d_Md_branches_49 (by decide) (fun hc => ?_) (fun hc => ?_)
      · have h := o_f hc h
        refine lv_iload_n hx hb d_Md_branches_58 rfl (lv_at hl 3 rfl) ?_
        refine lv_istore (lv' := [(5, .int x3_41), (0, .ref (a 0)), (1, .int x1_41), (2, .int x2_41), (3, .int x3_41), (4, .int x4_41)]) hx hb d_Md_branches_59 hl (by decide) rfl (fun ls hl => ?_)
        exact L61 x1_41 N (x3_41, mx_41) _ _ _ h hP hD hS (lv_sub hl [1, 2, 0] rfl)
      · have h := o_t hc h
        refine lv_aload_n hx hb d_Md_branches_52 rfl (lv_at hl 0 rfl) ?_
        refine lv_iload_n hx hb d_Md_branches_53 rfl (lv_at hl 1 rfl) ?_
        refine lv_iconst (v := 0) hx hb d_Md_branches_54 (by decide) ?_
        obtain ⟨y55, hy, h⟩ := o_bd h
        refine kdV (nn := 24) (rest := []) (w' := (cMd cI cJ cZ a mb mg y55 mf)) (wr := ([] : va_W)) (st1 := []) ⟨hx, hb, hml, hown, hts⟩ (c_Md_endBy l dC dI cI cJ cZ a x1_41 (0 : Int32) mb mg mx_41 mf y55 hy) (cwV 2 hts (gd_V tw965 tw967 ps47 tw9 tw968) rfl rfl rfl hd_Md_endBy ⟨Nat.le_of_ble_eq_true rfl, Nat.le_of_ble_eq_true rfl⟩) hNw hK hP hD hS hA (ci := 7) rfl rfl rfl [0, 1, 2, 3, 4, 5, 6, 7, 8, 9, 10, 11, 12, 13, 14, 15, 16, 17, 18, 19, 20, 21, 22, 23] [] rfl rfl rfl rfl rfl (by decide +kernel) (by decide +kernel) rfl hl.1 rfl (Nat.le_of_ble_eq_true rfl) rfl d_Md_branches_55 ⟨Nat.zero_le _, Nat.zero_le _⟩ (fun H locs hP hD hS => ?_)
        refine lv_iload_n hx hb d_Md_branches_58 rfl (lv_at hl 3 rfl) ?_
        refine lv_istore (lv' := [(5, .int x3_41), (0, .ref (a 0)), (1, .int x1_41), (2, .int x2_41), (3, .int x3_41), (4, .int x4_41)]) hx hb d_Md_branches_59 hl (by decide) rfl (fun ls hl => ?_)
        exact L61 x1_41 N (x3_41, y55) _ _ _ h hP hD hS (lv_sub hl [1, 2, 0] rfl)
  have B24 : ∀ (x1_24 : Int32) (x2_24 : Int32) (x3_24 : Int32) (x4_24 : Int32) (mx_24 : MxS) (H : Heap) (locs : List Loc) (ls : Array Slot), f_Md_branches_b24 N x1_24 x2_24 x3_24 x4_24 mb mx_24 = some res → va_P (dC, dI) classes (cMd cI cJ cZ a mb mg mx_24 mf) H → va_D A (cMd cI cJ cZ a mb mg mx_24 mf) → va_S A s.heap H locs → lv_has ls 6 [(0, .ref (a 0)), (1, .int x1_24), (2, .int x2_24), (3, .int x3_24), (4, .int x4_24)] → W p l e { frames := 3, cells := 0, slots := 0, locals := 66 } s m args below meth c H locs 0 0 (KZ below args s (dC, dI) classes none (cMd cI cJ cZ a mb mg res mf) A) (F0 m 24 ls []) := by
    intro x1_24 x2_24 x3_24 x4_24 mx_24 H locs ls h hP hD hS hl
    refine lv_iload_n hx hb d_Md_branches_24 rfl (lv_at hl 2 rfl) ?_
    refine lv_iconst (v := 1) hx hb d_Md_branches_25 (by decide) ?_
    refine lv_icmp_eq (tgt := 41) hx hb d_Md_branches_26 (by decide) (fun hc => ?_) (fun hc => ?_)
    · have h := o_t hc h
      exact B41 x1_24 x2_24 x3_24 x4_24 mx_24 _ _ _ h hP hD hS (lv_sub hl [0, 1, 2, 3, 4] rfl)
    · have h := o_f hc h
      refine lv_iload hx hb d_Md_branches_29 (lv_at hl 4 rfl) ?_
      refine lv_iconst (v := -1) hx hb d_Md_branches_31 (by decide) ?_
      refine lv_icmp_eq (tgt := 41) hx hb d_Md_branches_32 (by decide) (fun hc => ?_) (fun hc => ?_)
      · have h := o_t hc h
        exact B41 x1_24 x2_24 x3_24 x4_24 mx_24 _ _ _ h hP hD hS (lv_sub hl [0, 1, 2, 3, 4] rfl)
      · have h := o_f hc h
        refine lv_aload_n hx hb d_Md_branches_35 rfl (lv_at hl 0 rfl) ?_
        refine lv_iload hx hb d_Md_branches_36 (lv_at hl 4 rfl) ?_
        obtain ⟨y38, hy, h⟩ := o_bd h
        refine kdV (nn := 24) (rest := []) (w' := (cMd cI cJ cZ a mb mg y38 mf)) (wr := ([] : va_W)) (st1 := []) ⟨hx, hb, hml, hown, hts⟩ (c_Md_come l dC dI cI cJ cZ a x4_24 mb mg mx_24 mf y38 hy) (cwV 1 hts (gd_V tw977 tw979 ps50 tw9 tw980) rfl rfl rfl hd_Md_come ⟨Nat.le_of_ble_eq_true rfl, Nat.le_of_ble_eq_true rfl⟩) hNw hK hP hD hS hA (ci := 7) rfl rfl rfl [0, 1, 2, 3, 4, 5, 6, 7, 8, 9, 10, 11, 12, 13, 14, 15, 16, 17, 18, 19, 20, 21, 22, 23] [] rfl rfl rfl rfl rfl (by decide +kernel) (by decide +kernel) rfl hl.1 rfl (Nat.le_of_ble_eq_true rfl) rfl d_Md_branches_38 ⟨Nat.zero_le _, Nat.zero_le _⟩ (fun H locs hP hD hS => ?_)
        exact B41 x1_24 x2_24 x3_24 x4_24 y38 _ _ _ h hP hD hS (lv_sub hl [0, 1, 2, 3, 4] rfl)
  refine lv_aload_n hx hb d_Md_branches_0 rfl (lv_at hl 0 rfl) ?_
  refine va_get (D := (dC, dI)) (ci := 7) (v := .ref (a 6)) (C := R_Md) (T := F_Md) (N := 35) hx hb hts inb_Md hown hK hP 0 rfl rfl 7 (by decide) (hts _ tw694) (fun _ h9 => h9) rfl d_Md_branches_1 ?_
  refine lv_iload_n hx hb d_Md_branches_4 rfl (lv_at hl 1 rfl) ?_
  obtain ⟨hin, h⟩ := o_in h
  refine va_iald hx hb hK hP 6 0 rfl rfl hin d_Md_branches_5 ?_
  refine lv_istore_n (lv' := [(3, .int ((Mb_first mb) x1.toNatClampNeg)), (0, .ref (a 0)), (1, .int x1), (2, .int x2)]) hx hb d_Md_branches_6 rfl hl (by decide) rfl (fun ls hl => ?_)
  refine lv_aload_n hx hb d_Md_branches_7 rfl (lv_at hl 1 rfl) ?_
  refine va_get (D := (dC, dI)) (ci := 7) (v := .ref (a 8)) (C := R_Md) (T := F_Md) (N := 35) hx hb hts inb_Md hown hK hP 0 rfl rfl 9 (by decide) (hts _ tw696) (fun _ h9 => h9) rfl d_Md_branches_8 ?_
  refine lv_iload_n hx hb d_Md_branches_11 rfl (lv_at hl 0 rfl) ?_
  obtain ⟨hin, h⟩ := o_in h
  refine va_iald hx hb hK hP 8 0 rfl rfl hin d_Md_branches_12 ?_
  refine lv_istore (lv' := [(4, .int ((Mb_next mb) ((Mb_first mb) x1.toNatClampNeg).toNatClampNeg)), (3, .int ((Mb_first mb) x1.toNatClampNeg)), (0, .ref (a 0)), (1, .int x1), (2, .int x2)]) hx hb d_Md_branches_13 hl (by decide) rfl (fun ls hl => ?_)
  refine lv_iload_n hx hb d_Md_branches_15 rfl (lv_at hl 4 rfl) ?_
  refine lv_if_eq (tgt := 24) hx hb d_Md_branches_16 (by decide) (fun hc => ?_) (fun hc => ?_)
  · have h := o_t hc h
    exact B24 x1 x2 ((Mb_first mb) x1.toNatClampNeg) ((Mb_next mb) ((Mb_first mb) x1.toNatClampNeg).toNatClampNeg) mx _ _ _ h hP hD hS (lv_sub hl [2, 3, 4, 1, 0] rfl)
  · have h := o_f hc h
    refine lv_aload_n hx hb d_Md_branches_19 rfl (lv_at hl 2 rfl) ?_
    refine lv_iload_n hx hb d_Md_branches_20 rfl (lv_at hl 1 rfl) ?_
    obtain ⟨y21, hy, h⟩ := o_bd h
    refine kdV (nn := 24) (rest := []) (w' := (cMd cI cJ cZ a mb mg y21 mf)) (wr := ([] : va_W)) (st1 := []) ⟨hx, hb, hml, hown, hts⟩ (c_Md_come l dC dI cI cJ cZ a ((Mb_first mb) x1.toNatClampNeg) mb mg mx mf y21 hy) (cwV 1 hts (gd_V tw977 tw979 ps50 tw9 tw980) rfl rfl rfl hd_Md_come ⟨Nat.le_of_ble_eq_true rfl, Nat.le_of_ble_eq_true rfl⟩) hNw hK hP hD hS hA (ci := 7) rfl rfl rfl [0, 1, 2, 3, 4, 5, 6, 7, 8, 9, 10, 11, 12, 13, 14, 15, 16, 17, 18, 19, 20, 21, 22, 23] [] rfl rfl rfl rfl rfl (by decide +kernel) (by decide +kernel) rfl hl.1 rfl (Nat.le_of_ble_eq_true rfl) rfl d_Md_branches_21 ⟨Nat.zero_le _, Nat.zero_le _⟩ (fun H locs hP hD hS => ?_)
    exact B24 x1 x2 ((Mb_first mb) x1.toNatClampNeg) ((Mb_next mb) ((Mb_first mb) x1.toNatClampNeg).toNatClampNeg) y21 _ _ _ h hP hD hS (lv_sub hl [2, 3, 4, 1, 0] rfl)
set_option maxHeartbeats 4000000 in
set_option maxRecDepth 100000 in
theorem c_Md_walk (l : Launch) (dC : Nat → ClassId) (dI : Nat → Nat → Nat) (cI cJ cZ : ClassId) (a : Nat → Nat) (N : Nat) (x1 : Int32) (mb : MbS) (mg : MgS) (mx : MxS) (mf : MfS) (res : MxS) (h : f_Md_walk N x1 mb mg mx = some res) :
    Kt l (dC, dI) classes [(cI, .int), (cJ, .long), (cZ, .boolean)] y_Md_walk (wz y_Md_walk b_Md_walk 3 none) { frames := 5, cells := 0, slots := 0, locals := 111 } [.ref (a 0), .int x1] (cMd cI cJ cZ a mb mg mx mf) none (cMd cI cJ cZ a mb mg res mf) := by
  refine Kt_of (cc := b_Md_walk) (maxL := 3) (ret := none) (by decide) (Nat.le_of_ble_eq_true rfl) ?_
  intro p e s m args below meth c A ls hx hb hr hml hlocks hown hts hNw hK hP hD hA hS hl
  have hl : lv_has ls 3 [(0, .ref (a 0)), (1, .int x1)] := hl
  have hP : va_P (dC, dI) classes (cMd cI cJ cZ a mb mg mx mf) s.heap := hP
  have B183 : ∀ (x1_183 : Int32) (x2_183 : Int32) (mx_183 : MxS) (H : Heap) (locs : List Loc) (ls : Array Slot), f_Md_walk_b183 N x1_183 x2_183 mb mg mx_183 = some res → va_P (dC, dI) classes (cMd cI cJ cZ a mb mg mx_183 mf) H → va_D A (cMd cI cJ cZ a mb mg mx_183 mf) → va_S A s.heap H locs → lv_has ls 3 [(0, .ref (a 0)), (1, .int x1_183), (2, .int x2_183)] → W p l e { frames := 5, cells := 0, slots := 0, locals := 111 } s m args below meth c H locs 0 0 (KZ below args s (dC, dI) classes none (cMd cI cJ cZ a mb mg res mf) A) (F0 m 183 ls []) := by
    intro x1_183 x2_183 mx_183 H locs ls h hP hD hS hl
    refine lv_aload_n hx hb d_Md_walk_183 rfl (lv_at hl 0 rfl) ?_
    refine lv_iload_n hx hb d_Md_walk_184 rfl (lv_at hl 1 rfl) ?_
    refine lv_iload_n hx hb d_Md_walk_185 rfl (lv_at hl 2 rfl) ?_
    obtain ⟨y186, hy, h⟩ := o_bd h
    refine kdV (nn := 24) (rest := []) (w' := (cMd cI cJ cZ a mb mg y186 mf)) (wr := ([] : va_W)) (st1 := []) ⟨hx, hb, hml, hown, hts⟩ (c_Md_turns l dC dI cI cJ cZ a N x1_183 x2_183 mb mg mx_183 mf y186 hy) (cwV 2 hts (gd_V tw989 tw991 ps53 tw9 tw992) rfl rfl rfl hd_Md_turns ⟨Nat.le_of_ble_eq_true rfl, Nat.le_of_ble_eq_true rfl⟩) hNw hK hP hD hS hA (ci := 7) rfl rfl rfl [0, 1, 2, 3, 4, 5, 6, 7, 8, 9, 10, 11, 12, 13, 14, 15, 16, 17, 18, 19, 20, 21, 22, 23] [] rfl rfl rfl rfl rfl (by decide +kernel) (by decide +kernel) rfl hl.1 rfl (Nat.le_of_ble_eq_true rfl) rfl d_Md_walk_186 ⟨Nat.zero_le _, Nat.zero_le _⟩ (fun H locs hP hD hS => ?_)
    refine lv_goto (tgt := 287) hx hb d_Md_walk_189 (by decide) ?_
    cases h
    exact kr_v hx hb hr hlocks hP hD hS d_Md_walk_287
  have B204 : ∀ (z0_204 : Int32) (z1_204 : Int32) (mx_204 : MxS) (H : Heap) (locs : List Loc) (ls : Array Slot), f_Md_walk_b204 N z0_204 z1_204 mb mg mx_204 = some res → va_P (dC, dI) classes (cMd cI cJ cZ a mb mg mx_204 mf) H → va_D A (cMd cI cJ cZ a mb mg mx_204 mf) → va_S A s.heap H locs → lv_has ls 3 [] → W p l e { frames := 5, cells := 0, slots := 0, locals := 111 } s m args below meth c H locs 0 0 (KZ below args s (dC, dI) classes none (cMd cI cJ cZ a mb mg res mf) A) (F0 m 204 ls [.int z0_204, .int z1_204, .ref (a 0)]) := by
    intro z0_204 z1_204 mx_204 H locs ls h hP hD hS hl
    obtain ⟨y204, hy, h⟩ := o_bd h
    refine kdV (nn := 24) (rest := []) (w' := (cMd cI cJ cZ a mb mg y204 mf)) (wr := ([] : va_W)) (st1 := []) ⟨hx, hb, hml, hown, hts⟩ (c_Md_turns l dC dI cI cJ cZ a N z1_204 z0_204 mb mg mx_204 mf y204 hy) (cwV 2 hts (gd_V tw989 tw991 ps53 tw9 tw992) rfl rfl rfl hd_Md_turns ⟨Nat.le_of_ble_eq_true rfl, Nat.le_of_ble_eq_true rfl⟩) hNw hK hP hD hS hA (ci := 7) rfl rfl rfl [0, 1, 2, 3, 4, 5, 6, 7, 8, 9, 10, 11, 12, 13, 14, 15, 16, 17, 18, 19, 20, 21, 22, 23] [] rfl rfl rfl rfl rfl (by decide +kernel) (by decide +kernel) rfl hl.1 rfl (Nat.le_of_ble_eq_true rfl) rfl d_Md_walk_204 ⟨Nat.zero_le _, Nat.zero_le _⟩ (fun H locs hP hD hS => ?_)
    refine lv_goto (tgt := 287) hx hb d_Md_walk_207 (by decide) ?_
    cases h
    exact kr_v hx hb hr hlocks hP hD hS d_Md_walk_287
  have B219 : ∀ (x1_219 : Int32) (mx_219 : MxS) (H : Heap) (locs : List Loc) (ls : Array Slot), f_Md_walk_b219 N x1_219 mb mg mx_219 = some res → va_P (dC, dI) classes (cMd cI cJ cZ a mb mg mx_219 mf) H → va_D A (cMd cI cJ cZ a mb mg mx_219 mf) → va_S A s.heap H locs → lv_has ls 3 [(0, .ref (a 0)), (1, .int x1_219)] → W p l e { frames := 5, cells := 0, slots := 0, locals := 111 } s m args below meth c H locs 0 0 (KZ below args s (dC, dI) classes none (cMd cI cJ cZ a mb mg res mf) A) (F0 m 219 ls []) := by
    intro x1_219 mx_219 H locs ls h hP hD hS hl
    refine lv_aload_n hx hb d_Md_walk_219 rfl (lv_at hl 0 rfl) ?_
    refine lv_aload_n hx hb d_Md_walk_220 rfl (lv_at hl 0 rfl) ?_
    refine va_get (D := (dC, dI)) (ci := 7) (v := .ref (a 6)) (C := R_Md) (T := F_Md) (N := 35) hx hb hts inb_Md hown hK hP 0 rfl rfl 7 (by decide) (hts _ tw694) (fun _ h9 => h9) rfl d_Md_walk_221 ?_
    refine lv_iload_n hx hb d_Md_walk_224 rfl (lv_at hl 1 rfl) ?_
    obtain ⟨hin, h⟩ := o_in h
    refine va_iald hx hb hK hP 6 0 rfl rfl hin d_Md_walk_225 ?_
    obtain ⟨y226, hy, h⟩ := o_bd h
    refine kdV (nn := 24) (rest := []) (w' := (cMd cI cJ cZ a mb mg y226 mf)) (wr := ([] : va_W)) (st1 := []) ⟨hx, hb, hml, hown, hts⟩ (c_Md_come l dC dI cI cJ cZ a ((Mb_first mb) x1_219.toNatClampNeg) mb mg mx_219 mf y226 hy) (cwV 1 hts (gd_V tw977 tw979 ps50 tw9 tw980) rfl rfl rfl hd_Md_come ⟨Nat.le_of_ble_eq_true rfl, Nat.le_of_ble_eq_true rfl⟩) hNw hK hP hD hS hA (ci := 7) rfl rfl rfl [0, 1, 2, 3, 4, 5, 6, 7, 8, 9, 10, 11, 12, 13, 14, 15, 16, 17, 18, 19, 20, 21, 22, 23] [] rfl rfl rfl rfl rfl (by decide +kernel) (by decide +kernel) rfl hl.1 rfl (Nat.le_of_ble_eq_true rfl) rfl d_Md_walk_226 ⟨Nat.zero_le _, Nat.zero_le _⟩ (fun H locs hP hD hS => ?_)
    refine lv_aload_n hx hb d_Md_walk_229 rfl (lv_at hl 0 rfl) ?_
    refine lv_iload_n hx hb d_Md_walk_230 rfl (lv_at hl 1 rfl) ?_
    obtain ⟨y231, hy, h⟩ := o_bd h
    refine kdV (nn := 24) (rest := []) (w' := (cMd cI cJ cZ a mb mg y231 mf)) (wr := ([] : va_W)) (st1 := []) ⟨hx, hb, hml, hown, hts⟩ (c_Md_steps l dC dI cI cJ cZ a N x1_219 mb mg y226 mf y231 hy) (cwV 1 hts (gd_V tw993 tw995 ps54 tw9 tw996) rfl rfl rfl hd_Md_steps ⟨Nat.le_of_ble_eq_true rfl, Nat.le_of_ble_eq_true rfl⟩) hNw hK hP hD hS hA (ci := 7) rfl rfl rfl [0, 1, 2, 3, 4, 5, 6, 7, 8, 9, 10, 11, 12, 13, 14, 15, 16, 17, 18, 19, 20, 21, 22, 23] [] rfl rfl rfl rfl rfl (by decide +kernel) (by decide +kernel) rfl hl.1 rfl (Nat.le_of_ble_eq_true rfl) rfl d_Md_walk_231 ⟨Nat.zero_le _, Nat.zero_le _⟩ (fun H locs hP hD hS => ?_)
    refine lv_goto (tgt := 287) hx hb d_Md_walk_234 (by decide) ?_
    cases h
    exact kr_v hx hb hr hlocks hP hD hS d_Md_walk_287
  have B161 : ∀ (z0_161 : Int32) (z1_161 : Int32) (x1_161 : Int32) (mx_161 : MxS) (H : Heap) (locs : List Loc) (ls : Array Slot), f_Md_walk_b161 N z0_161 z1_161 x1_161 mb mg mx_161 = some res → va_P (dC, dI) classes (cMd cI cJ cZ a mb mg mx_161 mf) H → va_D A (cMd cI cJ cZ a mb mg mx_161 mf) → va_S A s.heap H locs → lv_has ls 3 [(0, .ref (a 0)), (1, .int x1_161)] → W p l e { frames := 5, cells := 0, slots := 0, locals := 111 } s m args below meth c H locs 0 0 (KZ below args s (dC, dI) classes none (cMd cI cJ cZ a mb mg res mf) A) (F0 m 161 ls [.int z0_161, .int z1_161, .ref (a 0)]) := by
    intro z0_161 z1_161 x1_161 mx_161 H locs ls h hP hD hS hl
    refine lv_aload_n hx hb d_Md_walk_161 rfl (lv_at hl 0 rfl) ?_
    refine va_get (D := (dC, dI)) (ci := 7) (v := .ref (a 15)) (C := R_Md) (T := F_Md) (N := 35) hx hb hts inb_Md hown hK hP 0 rfl rfl 23 (by decide) (hts _ tw710) (fun _ h9 => h9) rfl d_Md_walk_162 ?_
    refine lv_iload_n hx hb d_Md_walk_165 rfl (lv_at hl 1 rfl) ?_
    obtain ⟨hin, h⟩ := o_in h
    refine va_iald hx hb hK hP 15 0 rfl rfl hin d_Md_walk_166 ?_
    refine lv_iadd hx hb d_Md_walk_167 ?_
    obtain ⟨y168, hy, h⟩ := o_bd h
    refine kdV (nn := 24) (rest := []) (w' := (cMd cI cJ cZ a mb mg y168 mf)) (wr := ([] : va_W)) (st1 := []) ⟨hx, hb, hml, hown, hts⟩ (c_Md_endBy l dC dI cI cJ cZ a z1_161 (z0_161 + ((Mg_targets mg) x1_161.toNatClampNeg)) mb mg mx_161 mf y168 hy) (cwV 2 hts (gd_V tw965 tw967 ps47 tw9 tw968) rfl rfl rfl hd_Md_endBy ⟨Nat.le_of_ble_eq_true rfl, Nat.le_of_ble_eq_true rfl⟩) hNw hK hP hD hS hA (ci := 7) rfl rfl rfl [0, 1, 2, 3, 4, 5, 6, 7, 8, 9, 10, 11, 12, 13, 14, 15, 16, 17, 18, 19, 20, 21, 22, 23] [] rfl rfl rfl rfl rfl (by decide +kernel) (by decide +kernel) rfl hl.1 rfl (Nat.le_of_ble_eq_true rfl) rfl d_Md_walk_168 ⟨Nat.zero_le _, Nat.zero_le _⟩ (fun H locs hP hD hS => ?_)
    refine lv_goto (tgt := 287) hx hb d_Md_walk_171 (by decide) ?_
    cases h
    exact kr_v hx hb hr hlocks hP hD hS d_Md_walk_287
  have B132 : ∀ (x1_132 : Int32) (mx_132 : MxS) (H : Heap) (locs : List Loc) (ls : Array Slot), f_Md_walk_b132 N x1_132 mb mg mx_132 = some res → va_P (dC, dI) classes (cMd cI cJ cZ a mb mg mx_132 mf) H → va_D A (cMd cI cJ cZ a mb mg mx_132 mf) → va_S A s.heap H locs → lv_has ls 3 [(0, .ref (a 0)), (1, .int x1_132)] → W p l e { frames := 5, cells := 0, slots := 0, locals := 111 } s m args below meth c H locs 0 0 (KZ below args s (dC, dI) classes none (cMd cI cJ cZ a mb mg res mf) A) (F0 m 132 ls []) := by
    intro x1_132 mx_132 H locs ls h hP hD hS hl
    refine lv_aload_n hx hb d_Md_walk_132 rfl (lv_at hl 0 rfl) ?_
    refine va_get (D := (dC, dI)) (ci := 7) (v := .ref (a 15)) (C := R_Md) (T := F_Md) (N := 35) hx hb hts inb_Md hown hK hP 0 rfl rfl 23 (by decide) (hts _ tw710) (fun _ h9 => h9) rfl d_Md_walk_133 ?_
    refine lv_iload_n hx hb d_Md_walk_136 rfl (lv_at hl 1 rfl) ?_
    obtain ⟨hin, h⟩ := o_in h
    refine va_iald hx hb hK hP 15 0 rfl rfl hin d_Md_walk_137 ?_
    refine lv_iconst (v := -1) hx hb d_Md_walk_138 (by decide) ?_
    refine lv_icmp_eq (tgt := 287) hx hb d_Md_walk_139 (by decide) (fun hc => ?_) (fun hc => ?_)
    · have h := o_t hc h
      cases h
      exact kr_v hx hb hr hlocks hP hD hS d_Md_walk_287
    · have h := o_f hc h
      refine lv_aload_n hx hb d_Md_walk_142 rfl (lv_at hl 0 rfl) ?_
      refine lv_iload_n hx hb d_Md_walk_143 rfl (lv_at hl 1 rfl) ?_
      refine lv_aload_n hx hb d_Md_walk_144 rfl (lv_at hl 0 rfl) ?_
      refine va_get (D := (dC, dI)) (ci := 7) (v := .ref (a 2)) (C := R_Md) (T := F_Md) (N := 35) hx hb hts inb_Md hown hK hP 0 rfl rfl 3 (by decide) (hts _ tw690) (fun _ h9 => h9) rfl d_Md_walk_145 ?_
      refine lv_iload_n hx hb d_Md_walk_148 rfl (lv_at hl 1 rfl) ?_
      obtain ⟨hin, h⟩ := o_in h
      refine va_iald hx hb hK hP 2 0 rfl rfl hin d_Md_walk_149 ?_
      refine lv_bipush (v := 10) hx hb d_Md_walk_150 (by decide) ?_
      refine lv_icmp_ne (tgt := 159) hx hb d_Md_walk_152 (by decide) (fun hc => ?_) (fun hc => ?_)
      · have h := o_f hc h
        refine lv_bipush (v := 62) hx hb d_Md_walk_159 (by decide) ?_
        exact B161 (62 : Int32) x1_132 x1_132 mx_132 _ _ _ h hP hD hS (lv_sub hl [0, 1] rfl)
      · have h := o_t hc h
        refine lv_iconst (v := 2) hx hb d_Md_walk_155 (by decide) ?_
        refine lv_goto (tgt := 161) hx hb d_Md_walk_156 (by decide) ?_
        exact B161 (2 : Int32) x1_132 x1_132 mx_132 _ _ _ h hP hD hS (lv_sub hl [0, 1] rfl)
  have B274 : ∀ (x1_274 : Int32) (mx_274 : MxS) (H : Heap) (locs : List Loc) (ls : Array Slot), f_Md_walk_b274 N x1_274 mb mg mx_274 = some res → va_P (dC, dI) classes (cMd cI cJ cZ a mb mg mx_274 mf) H → va_D A (cMd cI cJ cZ a mb mg mx_274 mf) → va_S A s.heap H locs → lv_has ls 3 [(0, .ref (a 0)), (1, .int x1_274)] → W p l e { frames := 5, cells := 0, slots := 0, locals := 111 } s m args below meth c H locs 0 0 (KZ below args s (dC, dI) classes none (cMd cI cJ cZ a mb mg res mf) A) (F0 m 274 ls []) := by
    intro x1_274 mx_274 H locs ls h hP hD hS hl
    refine lv_aload_n hx hb d_Md_walk_274 rfl (lv_at hl 0 rfl) ?_
    refine lv_iload_n hx hb d_Md_walk_275 rfl (lv_at hl 1 rfl) ?_
    obtain ⟨y276, hy, h⟩ := o_bd h
    refine kdV (nn := 24) (rest := []) (w' := (cMd cI cJ cZ a mb mg y276 mf)) (wr := ([] : va_W)) (st1 := []) ⟨hx, hb, hml, hown, hts⟩ (c_Md_switches l dC dI cI cJ cZ a N x1_274 mb mg mx_274 mf y276 hy) (cwV 1 hts (gd_V tw997 tw999 ps55 tw9 tw1000) rfl rfl rfl hd_Md_switches ⟨Nat.le_of_ble_eq_true rfl, Nat.le_of_ble_eq_true rfl⟩) hNw hK hP hD hS hA (ci := 7) rfl rfl rfl [0, 1, 2, 3, 4, 5, 6, 7, 8, 9, 10, 11, 12, 13, 14, 15, 16, 17, 18, 19, 20, 21, 22, 23] [] rfl rfl rfl rfl rfl (by decide +kernel) (by decide +kernel) rfl hl.1 rfl (Nat.le_of_ble_eq_true rfl) rfl d_Md_walk_276 ⟨Nat.zero_le _, Nat.zero_le _⟩ (fun H locs hP hD hS => ?_)
    refine lv_goto (tgt := 287) hx hb d_Md_walk_279 (by decide) ?_
    cases h
    exact kr_v hx hb hr hlocks hP hD hS d_Md_walk_287
  refine lv_aload_n hx hb d_Md_walk_0 rfl (lv_at hl 0 rfl) ?_
  refine va_get (D := (dC, dI)) (ci := 7) (v := .ref (a 3)) (C := R_Md) (T := F_Md) (N := 35) hx hb hts inb_Md hown hK hP 0 rfl rfl 4 (by decide) (hts _ tw691) (fun _ h9 => h9) rfl d_Md_walk_1 ?_
  refine lv_iload_n hx hb d_Md_walk_4 rfl (lv_at hl 1 rfl) ?_
  obtain ⟨hin, h⟩ := o_in h
  refine va_iald hx hb hK hP 3 0 rfl rfl hin d_Md_walk_5 ?_
  refine lv_istore_n (lv' := [(2, .int ((Mb_given mb) x1.toNatClampNeg)), (0, .ref (a 0)), (1, .int x1)]) hx hb d_Md_walk_6 rfl hl (by decide) rfl (fun ls hl => ?_)
  refine lv_aload_n hx hb d_Md_walk_7 rfl (lv_at hl 1 rfl) ?_
  refine va_get (D := (dC, dI)) (ci := 7) (v := .ref (a 2)) (C := R_Md) (T := F_Md) (N := 35) hx hb hts inb_Md hown hK hP 0 rfl rfl 3 (by decide) (hts _ tw690) (fun _ h9 => h9) rfl d_Md_walk_8 ?_
  refine lv_iload_n hx hb d_Md_walk_11 rfl (lv_at hl 2 rfl) ?_
  obtain ⟨hin, h⟩ := o_in h
  refine va_iald hx hb hK hP 2 0 rfl rfl hin d_Md_walk_12 ?_
  refine sw_by (x := ((Mb_sort mb) x1.toNatClampNeg)) (k := 0) (fun hc => ?_) (fun hn0 => ?_)
  · have h := o_t hc h
    refine sw_in (x := ((Mb_sort mb) x1.toNatClampNeg)) (k := 0) hc (lv_tableIn (tgt := 92) hx hb d_Md_walk_13 (by decide) (by decide) (by rfl) (by decide) ?_)
    refine lv_aload_n hx hb d_Md_walk_92 rfl (lv_at hl 1 rfl) ?_
    refine lv_iload_n hx hb d_Md_walk_93 rfl (lv_at hl 2 rfl) ?_
    refine lv_iconst (v := 0) hx hb d_Md_walk_94 (by decide) ?_
    obtain ⟨y95, hy, h⟩ := o_bd h
    refine kdV (nn := 24) (rest := []) (w' := (cMd cI cJ cZ a mb mg y95 mf)) (wr := ([] : va_W)) (st1 := []) ⟨hx, hb, hml, hown, hts⟩ (c_Md_endBy l dC dI cI cJ cZ a x1 (0 : Int32) mb mg mx mf y95 hy) (cwV 2 hts (gd_V tw965 tw967 ps47 tw9 tw968) rfl rfl rfl hd_Md_endBy ⟨Nat.le_of_ble_eq_true rfl, Nat.le_of_ble_eq_true rfl⟩) hNw hK hP hD hS hA (ci := 7) rfl rfl rfl [0, 1, 2, 3, 4, 5, 6, 7, 8, 9, 10, 11, 12, 13, 14, 15, 16, 17, 18, 19, 20, 21, 22, 23] [] rfl rfl rfl rfl rfl (by decide +kernel) (by decide +kernel) rfl hl.1 rfl (Nat.le_of_ble_eq_true rfl) rfl d_Md_walk_95 ⟨Nat.zero_le _, Nat.zero_le _⟩ (fun H locs hP hD hS => ?_)
    refine lv_goto (tgt := 287) hx hb d_Md_walk_98 (by decide) ?_
    cases h
    exact kr_v hx hb hr hlocks hP hD hS d_Md_walk_287
  · have h := o_f hn0 h
    refine sw_by (x := ((Mb_sort mb) x1.toNatClampNeg)) (k := 1) (fun hc => ?_) (fun hn1 => ?_)
    · have h := o_t hc h
      refine sw_in (x := ((Mb_sort mb) x1.toNatClampNeg)) (k := 1) hc (lv_tableIn (tgt := 101) hx hb d_Md_walk_13 (by decide) (by decide) (by rfl) (by decide) ?_)
      refine lv_aload_n hx hb d_Md_walk_101 rfl (lv_at hl 1 rfl) ?_
      refine lv_iload_n hx hb d_Md_walk_102 rfl (lv_at hl 2 rfl) ?_
      refine lv_iconst (v := 0) hx hb d_Md_walk_103 (by decide) ?_
      obtain ⟨y104, hy, h⟩ := o_bd h
      refine kdV (nn := 24) (rest := []) (w' := (cMd cI cJ cZ a mb mg y104 mf)) (wr := ([] : va_W)) (st1 := []) ⟨hx, hb, hml, hown, hts⟩ (c_Md_endBy l dC dI cI cJ cZ a x1 (0 : Int32) mb mg mx mf y104 hy) (cwV 2 hts (gd_V tw965 tw967 ps47 tw9 tw968) rfl rfl rfl hd_Md_endBy ⟨Nat.le_of_ble_eq_true rfl, Nat.le_of_ble_eq_true rfl⟩) hNw hK hP hD hS hA (ci := 7) rfl rfl rfl [0, 1, 2, 3, 4, 5, 6, 7, 8, 9, 10, 11, 12, 13, 14, 15, 16, 17, 18, 19, 20, 21, 22, 23] [] rfl rfl rfl rfl rfl (by decide +kernel) (by decide +kernel) rfl hl.1 rfl (Nat.le_of_ble_eq_true rfl) rfl d_Md_walk_104 ⟨Nat.zero_le _, Nat.zero_le _⟩ (fun H locs hP hD hS => ?_)
      refine lv_aload_n hx hb d_Md_walk_107 rfl (lv_at hl 1 rfl) ?_
      refine lv_iload_n hx hb d_Md_walk_108 rfl (lv_at hl 2 rfl) ?_
      obtain ⟨y109, hy, h⟩ := o_bd h
      refine kdV (nn := 24) (rest := []) (w' := (cMd cI cJ cZ a mb mg y109 mf)) (wr := ([] : va_W)) (st1 := []) ⟨hx, hb, hml, hown, hts⟩ (c_Md_raises l dC dI cI cJ cZ a N x1 mb mg y104 mf y109 hy) (cwV 1 hts (gd_V tw969 tw971 ps48 tw9 tw972) rfl rfl rfl hd_Md_raises ⟨Nat.le_of_ble_eq_true rfl, Nat.le_of_ble_eq_true rfl⟩) hNw hK hP hD hS hA (ci := 7) rfl rfl rfl [0, 1, 2, 3, 4, 5, 6, 7, 8, 9, 10, 11, 12, 13, 14, 15, 16, 17, 18, 19, 20, 21, 22, 23] [] rfl rfl rfl rfl rfl (by decide +kernel) (by decide +kernel) rfl hl.1 rfl (Nat.le_of_ble_eq_true rfl) rfl d_Md_walk_109 ⟨Nat.zero_le _, Nat.zero_le _⟩ (fun H locs hP hD hS => ?_)
      refine lv_goto (tgt := 287) hx hb d_Md_walk_112 (by decide) ?_
      cases h
      exact kr_v hx hb hr hlocks hP hD hS d_Md_walk_287
    · have h := o_f hn1 h
      refine sw_by (x := ((Mb_sort mb) x1.toNatClampNeg)) (k := 2) (fun hc => ?_) (fun hn2 => ?_)
      · have h := o_t hc h
        refine sw_in (x := ((Mb_sort mb) x1.toNatClampNeg)) (k := 2) hc (lv_tableIn (tgt := 115) hx hb d_Md_walk_13 (by decide) (by decide) (by rfl) (by decide) ?_)
        refine lv_aload_n hx hb d_Md_walk_115 rfl (lv_at hl 1 rfl) ?_
        refine lv_iload_n hx hb d_Md_walk_116 rfl (lv_at hl 2 rfl) ?_
        obtain ⟨y117, hy, h⟩ := o_bd h
        refine kdV (nn := 24) (rest := []) (w' := (cMd cI cJ cZ a mb mg y117 mf)) (wr := ([] : va_W)) (st1 := []) ⟨hx, hb, hml, hown, hts⟩ (c_Md_raises l dC dI cI cJ cZ a N x1 mb mg mx mf y117 hy) (cwV 1 hts (gd_V tw969 tw971 ps48 tw9 tw972) rfl rfl rfl hd_Md_raises ⟨Nat.le_of_ble_eq_true rfl, Nat.le_of_ble_eq_true rfl⟩) hNw hK hP hD hS hA (ci := 7) rfl rfl rfl [0, 1, 2, 3, 4, 5, 6, 7, 8, 9, 10, 11, 12, 13, 14, 15, 16, 17, 18, 19, 20, 21, 22, 23] [] rfl rfl rfl rfl rfl (by decide +kernel) (by decide +kernel) rfl hl.1 rfl (Nat.le_of_ble_eq_true rfl) rfl d_Md_walk_117 ⟨Nat.zero_le _, Nat.zero_le _⟩ (fun H locs hP hD hS => ?_)
        refine lv_goto (tgt := 287) hx hb d_Md_walk_120 (by decide) ?_
        cases h
        exact kr_v hx hb hr hlocks hP hD hS d_Md_walk_287
      · have h := o_f hn2 h
        refine sw_by (x := ((Mb_sort mb) x1.toNatClampNeg)) (k := 3) (fun hc => ?_) (fun hn3 => ?_)
        · have h := o_t hc h
          refine sw_in (x := ((Mb_sort mb) x1.toNatClampNeg)) (k := 3) hc (lv_tableIn (tgt := 123) hx hb d_Md_walk_13 (by decide) (by decide) (by rfl) (by decide) ?_)
          refine lv_aload_n hx hb d_Md_walk_123 rfl (lv_at hl 1 rfl) ?_
          refine lv_iload_n hx hb d_Md_walk_124 rfl (lv_at hl 2 rfl) ?_
          refine lv_iconst (v := 1) hx hb d_Md_walk_125 (by decide) ?_
          obtain ⟨y126, hy, h⟩ := o_bd h
          refine kdV (nn := 24) (rest := []) (w' := (cMd cI cJ cZ a mb mg y126 mf)) (wr := ([] : va_W)) (st1 := []) ⟨hx, hb, hml, hown, hts⟩ (c_Md_endBy l dC dI cI cJ cZ a x1 (1 : Int32) mb mg mx mf y126 hy) (cwV 2 hts (gd_V tw965 tw967 ps47 tw9 tw968) rfl rfl rfl hd_Md_endBy ⟨Nat.le_of_ble_eq_true rfl, Nat.le_of_ble_eq_true rfl⟩) hNw hK hP hD hS hA (ci := 7) rfl rfl rfl [0, 1, 2, 3, 4, 5, 6, 7, 8, 9, 10, 11, 12, 13, 14, 15, 16, 17, 18, 19, 20, 21, 22, 23] [] rfl rfl rfl rfl rfl (by decide +kernel) (by decide +kernel) rfl hl.1 rfl (Nat.le_of_ble_eq_true rfl) rfl d_Md_walk_126 ⟨Nat.zero_le _, Nat.zero_le _⟩ (fun H locs hP hD hS => ?_)
          refine lv_goto (tgt := 287) hx hb d_Md_walk_129 (by decide) ?_
          cases h
          exact kr_v hx hb hr hlocks hP hD hS d_Md_walk_287
        · have h := o_f hn3 h
          refine sw_by (x := ((Mb_sort mb) x1.toNatClampNeg)) (k := 4) (fun hc => ?_) (fun hn4 => ?_)
          · have h := o_t hc h
            refine sw_in (x := ((Mb_sort mb) x1.toNatClampNeg)) (k := 4) hc (lv_tableIn (tgt := 174) hx hb d_Md_walk_13 (by decide) (by decide) (by rfl) (by decide) ?_)
            refine lv_aload_n hx hb d_Md_walk_174 rfl (lv_at hl 1 rfl) ?_
            refine lv_iload_n hx hb d_Md_walk_175 rfl (lv_at hl 2 rfl) ?_
            refine lv_iload_n hx hb d_Md_walk_176 rfl (lv_at hl 0 rfl) ?_
            obtain ⟨y177, hy, h⟩ := o_bd h
            refine kdV (nn := 24) (rest := []) (w' := (cMd cI cJ cZ a mb mg y177 mf)) (wr := ([] : va_W)) (st1 := []) ⟨hx, hb, hml, hown, hts⟩ (c_Md_branches l dC dI cI cJ cZ a N x1 ((Mb_given mb) x1.toNatClampNeg) mb mg mx mf y177 hy) (cwV 2 hts (gd_V tw973 tw975 ps49 tw9 tw976) rfl rfl rfl hd_Md_branches ⟨Nat.le_of_ble_eq_true rfl, Nat.le_of_ble_eq_true rfl⟩) hNw hK hP hD hS hA (ci := 7) rfl rfl rfl [0, 1, 2, 3, 4, 5, 6, 7, 8, 9, 10, 11, 12, 13, 14, 15, 16, 17, 18, 19, 20, 21, 22, 23] [] rfl rfl rfl rfl rfl (by decide +kernel) (by decide +kernel) rfl hl.1 rfl (Nat.le_of_ble_eq_true rfl) rfl d_Md_walk_177 ⟨Nat.zero_le _, Nat.zero_le _⟩ (fun H locs hP hD hS => ?_)
            refine lv_goto (tgt := 287) hx hb d_Md_walk_180 (by decide) ?_
            cases h
            exact kr_v hx hb hr hlocks hP hD hS d_Md_walk_287
          · have h := o_f hn4 h
            refine sw_by (x := ((Mb_sort mb) x1.toNatClampNeg)) (k := 5) (fun hc => ?_) (fun hn5 => ?_)
            · have h := o_t hc h
              refine sw_in (x := ((Mb_sort mb) x1.toNatClampNeg)) (k := 5) hc (lv_tableIn (tgt := 183) hx hb d_Md_walk_13 (by decide) (by decide) (by rfl) (by decide) ?_)
              exact B183 x1 ((Mb_given mb) x1.toNatClampNeg) mx _ _ _ h hP hD hS (lv_sub hl [1, 2, 0] rfl)
            · have h := o_f hn5 h
              refine sw_by (x := ((Mb_sort mb) x1.toNatClampNeg)) (k := 6) (fun hc => ?_) (fun hn6 => ?_)
              · have h := o_t hc h
                refine sw_in (x := ((Mb_sort mb) x1.toNatClampNeg)) (k := 6) hc (lv_tableIn (tgt := 183) hx hb d_Md_walk_13 (by decide) (by decide) (by rfl) (by decide) ?_)
                exact B183 x1 ((Mb_given mb) x1.toNatClampNeg) mx _ _ _ h hP hD hS (lv_sub hl [1, 2, 0] rfl)
              · have h := o_f hn6 h
                refine sw_by (x := ((Mb_sort mb) x1.toNatClampNeg)) (k := 7) (fun hc => ?_) (fun hn7 => ?_)
                · have h := o_t hc h
                  refine sw_in (x := ((Mb_sort mb) x1.toNatClampNeg)) (k := 7) hc (lv_tableIn (tgt := 192) hx hb d_Md_walk_13 (by decide) (by decide) (by rfl) (by decide) ?_)
                  refine lv_aload_n hx hb d_Md_walk_192 rfl (lv_at hl 1 rfl) ?_
                  refine lv_iload_n hx hb d_Md_walk_193 rfl (lv_at hl 2 rfl) ?_
                  refine lv_iload_n hx hb d_Md_walk_194 rfl (lv_at hl 0 rfl) ?_
                  refine lv_iconst (v := 3) hx hb d_Md_walk_195 (by decide) ?_
                  refine lv_icmp_ne (tgt := 203) hx hb d_Md_walk_196 (by decide) (fun hc => ?_) (fun hc => ?_)
                  · have h := o_f hc h
                    refine lv_iload_n hx hb d_Md_walk_203 rfl (lv_at hl 0 rfl) ?_
                    exact B204 ((Mb_given mb) x1.toNatClampNeg) x1 mx _ _ _ h hP hD hS (lv_sub hl [] rfl)
                  · have h := o_t hc h
                    refine lv_iconst (v := 1) hx hb d_Md_walk_199 (by decide) ?_
                    refine lv_goto (tgt := 204) hx hb d_Md_walk_200 (by decide) ?_
                    exact B204 (1 : Int32) x1 mx _ _ _ h hP hD hS (lv_sub hl [] rfl)
                · have h := o_f hn7 h
                  refine sw_by (x := ((Mb_sort mb) x1.toNatClampNeg)) (k := 8) (fun hc => ?_) (fun hn8 => ?_)
                  · have h := o_t hc h
                    refine sw_in (x := ((Mb_sort mb) x1.toNatClampNeg)) (k := 8) hc (lv_tableIn (tgt := 210) hx hb d_Md_walk_13 (by decide) (by decide) (by rfl) (by decide) ?_)
                    refine lv_aload_n hx hb d_Md_walk_210 rfl (lv_at hl 1 rfl) ?_
                    refine lv_iload_n hx hb d_Md_walk_211 rfl (lv_at hl 2 rfl) ?_
                    refine lv_iconst (v := 2) hx hb d_Md_walk_212 (by decide) ?_
                    obtain ⟨y213, hy, h⟩ := o_bd h
                    refine kdV (nn := 24) (rest := []) (w' := (cMd cI cJ cZ a mb mg y213 mf)) (wr := ([] : va_W)) (st1 := []) ⟨hx, hb, hml, hown, hts⟩ (c_Md_turns l dC dI cI cJ cZ a N x1 (2 : Int32) mb mg mx mf y213 hy) (cwV 2 hts (gd_V tw989 tw991 ps53 tw9 tw992) rfl rfl rfl hd_Md_turns ⟨Nat.le_of_ble_eq_true rfl, Nat.le_of_ble_eq_true rfl⟩) hNw hK hP hD hS hA (ci := 7) rfl rfl rfl [0, 1, 2, 3, 4, 5, 6, 7, 8, 9, 10, 11, 12, 13, 14, 15, 16, 17, 18, 19, 20, 21, 22, 23] [] rfl rfl rfl rfl rfl (by decide +kernel) (by decide +kernel) rfl hl.1 rfl (Nat.le_of_ble_eq_true rfl) rfl d_Md_walk_213 ⟨Nat.zero_le _, Nat.zero_le _⟩ (fun H locs hP hD hS => ?_)
                    refine lv_goto (tgt := 287) hx hb d_Md_walk_216 (by decide) ?_
                    cases h
                    exact kr_v hx hb hr hlocks hP hD hS d_Md_walk_287
                  · have h := o_f hn8 h
                    refine sw_by (x := ((Mb_sort mb) x1.toNatClampNeg)) (k := 9) (fun hc => ?_) (fun hn9 => ?_)
                    · have h := o_t hc h
                      refine sw_in (x := ((Mb_sort mb) x1.toNatClampNeg)) (k := 9) hc (lv_tableIn (tgt := 219) hx hb d_Md_walk_13 (by decide) (by decide) (by rfl) (by decide) ?_)
                      exact B219 x1 mx _ _ _ h hP hD hS (lv_sub hl [1, 2] rfl)
                    · have h := o_f hn9 h
                      refine sw_by (x := ((Mb_sort mb) x1.toNatClampNeg)) (k := 10) (fun hc => ?_) (fun hn10 => ?_)
                      · have h := o_t hc h
                        refine sw_in (x := ((Mb_sort mb) x1.toNatClampNeg)) (k := 10) hc (lv_tableIn (tgt := 132) hx hb d_Md_walk_13 (by decide) (by decide) (by rfl) (by decide) ?_)
                        exact B132 x1 mx _ _ _ h hP hD hS (lv_sub hl [1, 2] rfl)
                      · have h := o_f hn10 h
                        refine sw_by (x := ((Mb_sort mb) x1.toNatClampNeg)) (k := 11) (fun hc => ?_) (fun hn11 => ?_)
                        · have h := o_t hc h
                          refine sw_in (x := ((Mb_sort mb) x1.toNatClampNeg)) (k := 11) hc (lv_tableIn (tgt := 132) hx hb d_Md_walk_13 (by decide) (by decide) (by rfl) (by decide) ?_)
                          exact B132 x1 mx _ _ _ h hP hD hS (lv_sub hl [1, 2] rfl)
                        · have h := o_f hn11 h
                          refine sw_by (x := ((Mb_sort mb) x1.toNatClampNeg)) (k := 12) (fun hc => ?_) (fun hn12 => ?_)
                          · have h := o_t hc h
                            refine sw_in (x := ((Mb_sort mb) x1.toNatClampNeg)) (k := 12) hc (lv_tableIn (tgt := 219) hx hb d_Md_walk_13 (by decide) (by decide) (by rfl) (by decide) ?_)
                            exact B219 x1 mx _ _ _ h hP hD hS (lv_sub hl [1, 2] rfl)
                          · have h := o_f hn12 h
                            refine sw_by (x := ((Mb_sort mb) x1.toNatClampNeg)) (k := 13) (fun hc => ?_) (fun hn13 => ?_)
                            · have h := o_t hc h
                              refine sw_in (x := ((Mb_sort mb) x1.toNatClampNeg)) (k := 13) hc (lv_tableIn (tgt := 237) hx hb d_Md_walk_13 (by decide) (by decide) (by rfl) (by decide) ?_)
                              refine lv_aload_n hx hb d_Md_walk_237 rfl (lv_at hl 1 rfl) ?_
                              refine va_get (D := (dC, dI)) (ci := 7) (v := .ref (a 6)) (C := R_Md) (T := F_Md) (N := 35) hx hb hts inb_Md hown hK hP 0 rfl rfl 7 (by decide) (hts _ tw694) (fun _ h9 => h9) rfl d_Md_walk_238 ?_
                              refine lv_iload_n hx hb d_Md_walk_241 rfl (lv_at hl 2 rfl) ?_
                              obtain ⟨hin, h⟩ := o_in h
                              refine va_iald hx hb hK hP 6 0 rfl rfl hin d_Md_walk_242 ?_
                              refine lv_iconst (v := -1) hx hb d_Md_walk_243 (by decide) ?_
                              refine lv_icmp_ne (tgt := 256) hx hb d_Md_walk_244 (by decide) (fun hc => ?_) (fun hc => ?_)
                              · have h := o_f hc h
                                refine lv_aload_n hx hb d_Md_walk_256 rfl (lv_at hl 1 rfl) ?_
                                refine lv_aload_n hx hb d_Md_walk_257 rfl (lv_at hl 1 rfl) ?_
                                refine va_get (D := (dC, dI)) (ci := 7) (v := .ref (a 6)) (C := R_Md) (T := F_Md) (N := 35) hx hb hts inb_Md hown hK hP 0 rfl rfl 7 (by decide) (hts _ tw694) (fun _ h9 => h9) rfl d_Md_walk_258 ?_
                                refine lv_iload_n hx hb d_Md_walk_261 rfl (lv_at hl 2 rfl) ?_
                                obtain ⟨hin, h⟩ := o_in h
                                refine va_iald hx hb hK hP 6 0 rfl rfl hin d_Md_walk_262 ?_
                                obtain ⟨y263, hy, h⟩ := o_bd h
                                refine kdV (nn := 24) (rest := []) (w' := (cMd cI cJ cZ a mb mg y263 mf)) (wr := ([] : va_W)) (st1 := []) ⟨hx, hb, hml, hown, hts⟩ (c_Md_come l dC dI cI cJ cZ a ((Mb_first mb) x1.toNatClampNeg) mb mg mx mf y263 hy) (cwV 1 hts (gd_V tw977 tw979 ps50 tw9 tw980) rfl rfl rfl hd_Md_come ⟨Nat.le_of_ble_eq_true rfl, Nat.le_of_ble_eq_true rfl⟩) hNw hK hP hD hS hA (ci := 7) rfl rfl rfl [0, 1, 2, 3, 4, 5, 6, 7, 8, 9, 10, 11, 12, 13, 14, 15, 16, 17, 18, 19, 20, 21, 22, 23] [] rfl rfl rfl rfl rfl (by decide +kernel) (by decide +kernel) rfl hl.1 rfl (Nat.le_of_ble_eq_true rfl) rfl d_Md_walk_263 ⟨Nat.zero_le _, Nat.zero_le _⟩ (fun H locs hP hD hS => ?_)
                                refine lv_aload_n hx hb d_Md_walk_266 rfl (lv_at hl 1 rfl) ?_
                                refine lv_iload_n hx hb d_Md_walk_267 rfl (lv_at hl 2 rfl) ?_
                                obtain ⟨y268, hy, h⟩ := o_bd h
                                refine kdV (nn := 24) (rest := []) (w' := (cMd cI cJ cZ a mb mg y268 mf)) (wr := ([] : va_W)) (st1 := []) ⟨hx, hb, hml, hown, hts⟩ (c_Md_steps l dC dI cI cJ cZ a N x1 mb mg y263 mf y268 hy) (cwV 1 hts (gd_V tw993 tw995 ps54 tw9 tw996) rfl rfl rfl hd_Md_steps ⟨Nat.le_of_ble_eq_true rfl, Nat.le_of_ble_eq_true rfl⟩) hNw hK hP hD hS hA (ci := 7) rfl rfl rfl [0, 1, 2, 3, 4, 5, 6, 7, 8, 9, 10, 11, 12, 13, 14, 15, 16, 17, 18, 19, 20, 21, 22, 23] [] rfl rfl rfl rfl rfl (by decide +kernel) (by decide +kernel) rfl hl.1 rfl (Nat.le_of_ble_eq_true rfl) rfl d_Md_walk_268 ⟨Nat.zero_le _, Nat.zero_le _⟩ (fun H locs hP hD hS => ?_)
                                refine lv_goto (tgt := 287) hx hb d_Md_walk_271 (by decide) ?_
                                cases h
                                exact kr_v hx hb hr hlocks hP hD hS d_Md_walk_287
                              · have h := o_t hc h
                                refine lv_aload_n hx hb d_Md_walk_247 rfl (lv_at hl 1 rfl) ?_
                                refine lv_iload_n hx hb d_Md_walk_248 rfl (lv_at hl 2 rfl) ?_
                                refine lv_iconst (v := 0) hx hb d_Md_walk_249 (by decide) ?_
                                obtain ⟨y250, hy, h⟩ := o_bd h
                                refine kdV (nn := 24) (rest := []) (w' := (cMd cI cJ cZ a mb mg y250 mf)) (wr := ([] : va_W)) (st1 := []) ⟨hx, hb, hml, hown, hts⟩ (c_Md_endBy l dC dI cI cJ cZ a x1 (0 : Int32) mb mg mx mf y250 hy) (cwV 2 hts (gd_V tw965 tw967 ps47 tw9 tw968) rfl rfl rfl hd_Md_endBy ⟨Nat.le_of_ble_eq_true rfl, Nat.le_of_ble_eq_true rfl⟩) hNw hK hP hD hS hA (ci := 7) rfl rfl rfl [0, 1, 2, 3, 4, 5, 6, 7, 8, 9, 10, 11, 12, 13, 14, 15, 16, 17, 18, 19, 20, 21, 22, 23] [] rfl rfl rfl rfl rfl (by decide +kernel) (by decide +kernel) rfl hl.1 rfl (Nat.le_of_ble_eq_true rfl) rfl d_Md_walk_250 ⟨Nat.zero_le _, Nat.zero_le _⟩ (fun H locs hP hD hS => ?_)
                                refine lv_goto (tgt := 287) hx hb d_Md_walk_253 (by decide) ?_
                                cases h
                                exact kr_v hx hb hr hlocks hP hD hS d_Md_walk_287
                            · have h := o_f hn13 h
                              refine sw_by (x := ((Mb_sort mb) x1.toNatClampNeg)) (k := 14) (fun hc => ?_) (fun hn14 => ?_)
                              · have h := o_t hc h
                                refine sw_in (x := ((Mb_sort mb) x1.toNatClampNeg)) (k := 14) hc (lv_tableIn (tgt := 274) hx hb d_Md_walk_13 (by decide) (by decide) (by rfl) (by decide) ?_)
                                exact B274 x1 mx _ _ _ h hP hD hS (lv_sub hl [1, 2] rfl)
                              · have h := o_f hn14 h
                                refine sw_by (x := ((Mb_sort mb) x1.toNatClampNeg)) (k := 15) (fun hc => ?_) (fun hn15 => ?_)
                                · have h := o_t hc h
                                  refine sw_in (x := ((Mb_sort mb) x1.toNatClampNeg)) (k := 15) hc (lv_tableIn (tgt := 274) hx hb d_Md_walk_13 (by decide) (by decide) (by rfl) (by decide) ?_)
                                  exact B274 x1 mx _ _ _ h hP hD hS (lv_sub hl [1, 2] rfl)
                                · have h := o_f hn15 h
                                  refine lv_tableOut (tgt := 282) hx hb d_Md_walk_13 (by have g0 := sw_ne hn0 (show (0 : Int32).toInt = 0 by decide); have g1 := sw_ne hn1 (show (1 : Int32).toInt = 1 by decide); have g2 := sw_ne hn2 (show (2 : Int32).toInt = 2 by decide); have g3 := sw_ne hn3 (show (3 : Int32).toInt = 3 by decide); have g4 := sw_ne hn4 (show (4 : Int32).toInt = 4 by decide); have g5 := sw_ne hn5 (show (5 : Int32).toInt = 5 by decide); have g6 := sw_ne hn6 (show (6 : Int32).toInt = 6 by decide); have g7 := sw_ne hn7 (show (7 : Int32).toInt = 7 by decide); have g8 := sw_ne hn8 (show (8 : Int32).toInt = 8 by decide); have g9 := sw_ne hn9 (show (9 : Int32).toInt = 9 by decide); have g10 := sw_ne hn10 (show (10 : Int32).toInt = 10 by decide); have g11 := sw_ne hn11 (show (11 : Int32).toInt = 11 by decide); have g12 := sw_ne hn12 (show (12 : Int32).toInt = 12 by decide); have g13 := sw_ne hn13 (show (13 : Int32).toInt = 13 by decide); have g14 := sw_ne hn14 (show (14 : Int32).toInt = 14 by decide); have g15 := sw_ne hn15 (show (15 : Int32).toInt = 15 by decide); omega) (by decide) ?_
                                  refine lv_aload_n hx hb d_Md_walk_282 rfl (lv_at hl 1 rfl) ?_
                                  refine lv_iload_n hx hb d_Md_walk_283 rfl (lv_at hl 2 rfl) ?_
                                  obtain ⟨y284, hy, h⟩ := o_bd h
                                  refine kdV (nn := 24) (rest := []) (w' := (cMd cI cJ cZ a mb mg y284 mf)) (wr := ([] : va_W)) (st1 := []) ⟨hx, hb, hml, hown, hts⟩ (c_Md_tries l dC dI cI cJ cZ a N x1 mb mg mx mf y284 hy) (cwV 1 hts (gd_V tw1001 tw1003 ps56 tw9 tw1004) rfl rfl rfl hd_Md_tries ⟨Nat.le_of_ble_eq_true rfl, Nat.le_of_ble_eq_true rfl⟩) hNw hK hP hD hS hA (ci := 7) rfl rfl rfl [0, 1, 2, 3, 4, 5, 6, 7, 8, 9, 10, 11, 12, 13, 14, 15, 16, 17, 18, 19, 20, 21, 22, 23] [] rfl rfl rfl rfl rfl (by decide +kernel) (by decide +kernel) rfl hl.1 rfl (Nat.le_of_ble_eq_true rfl) rfl d_Md_walk_284 ⟨Nat.zero_le _, Nat.zero_le _⟩ (fun H locs hP hD hS => ?_)
                                  cases h
                                  exact kr_v hx hb hr hlocks hP hD hS d_Md_walk_287
set_option maxHeartbeats 4000000 in
set_option maxRecDepth 100000 in
theorem c_Md_walks (l : Launch) (dC : Nat → ClassId) (dI : Nat → Nat → Nat) (cI cJ cZ : ClassId) (a : Nat → Nat) (N : Nat) (mb : MbS) (mg : MgS) (mx : MxS) (mf : MfS) (res : MxS) (h : f_Md_walks N mb mg mx = some res) :
    Kt l (dC, dI) classes [(cI, .int), (cJ, .long), (cZ, .boolean)] y_Md_walks (wz y_Md_walks b_Md_walks 2 none) { frames := 6, cells := 0, slots := 0, locals := 133 } [.ref (a 0)] (cMd cI cJ cZ a mb mg mx mf) none (cMd cI cJ cZ a mb mg res mf) := by
  refine Kt_of (cc := b_Md_walks) (maxL := 2) (ret := none) (by decide) (Nat.le_of_ble_eq_true rfl) ?_
  intro p e s m args below meth c A ls hx hb hr hml hlocks hown hts hNw hK hP hD hA hS hl
  have hl : lv_has ls 2 [(0, .ref (a 0))] := hl
  have hP : va_P (dC, dI) classes (cMd cI cJ cZ a mb mg mx mf) s.heap := hP
  have L15 : ∀ (n15 : Nat) (s15 : MxS) (H : Heap) (locs : List Loc) (ls : Array Slot), lp (f_Md_walks_L15 N mb mg) n15 s15 = some res → va_P (dC, dI) classes (cMd cI cJ cZ a mb mg s15 mf) H → va_D A (cMd cI cJ cZ a mb mg s15 mf) → va_S A s.heap H locs → lv_has ls 2 [(0, .ref (a 0))] → W p l e { frames := 6, cells := 0, slots := 0, locals := 133 } s m args below meth c H locs 0 0 (KZ below args s (dC, dI) classes none (cMd cI cJ cZ a mb mg res mf) A) (F0 m 15 ls []) := by
    intro n15
    induction n15 with
    | zero => intro _ _ _ _ h; exact (lp_0 h).elim
    | succ n15 ih15 =>
      intro s15 H locs ls h hP hD hS hl
      have h := lp_s h
      have L29 : ∀ (n29 : Nat) (s29 : Int32 × MxS) (H : Heap) (locs : List Loc) (ls : Array Slot), lp (f_Md_walks_L29 N (lp (f_Md_walks_L15 N mb mg) n15) mb mg) n29 s29 = some res → va_P (dC, dI) classes (cMd cI cJ cZ a mb mg s29.2 mf) H → va_D A (cMd cI cJ cZ a mb mg s29.2 mf) → va_S A s.heap H locs → lv_has ls 2 [(0, .ref (a 0)), (1, .int s29.1)] → W p l e { frames := 6, cells := 0, slots := 0, locals := 133 } s m args below meth c H locs 0 0 (KZ below args s (dC, dI) classes none (cMd cI cJ cZ a mb mg res mf) A) (F0 m 29 ls []) := by
        intro n29
        induction n29 with
        | zero => intro _ _ _ _ h; exact (lp_0 h).elim
        | succ n29 ih29 =>
          intro s29 H locs ls h hP hD hS hl
          have h := lp_s h
          refine lv_iload_n hx hb d_Md_walks_29 rfl (lv_at hl 1 rfl) ?_
          refine lv_aload_n hx hb d_Md_walks_30 rfl (lv_at hl 0 rfl) ?_
          refine va_get (D := (dC, dI)) (ci := 7) (v := .int (Mg_rooted mg)) (C := R_Md) (T := F_Md) (N := 35) hx hb hts inb_Md hown hK hP 0 rfl rfl 19 (by decide) (hts _ tw706) (fun _ h9 => h9) rfl d_Md_walks_31 ?_
          refine lv_icmp_ge (tgt := 67) hx hb d_Md_walks_34 (by decide) (fun hc => ?_) (fun hc => ?_)
          · have h := o_t hc h
            refine lv_goto (tgt := 15) hx hb d_Md_walks_67 (by decide) ?_
            exact ih15 s29.2 _ _ _ h hP hD hS (lv_sub hl [0] rfl)
          · have h := o_f hc h
            refine lv_aload_n hx hb d_Md_walks_37 rfl (lv_at hl 0 rfl) ?_
            refine va_get (D := (dC, dI)) (ci := 7) (v := .ref (a 19)) (C := R_Md) (T := F_Md) (N := 35) hx hb hts inb_Md hown hK hP 0 rfl rfl 27 (by decide) (hts _ tw714) (fun _ h9 => h9) rfl d_Md_walks_38 ?_
            refine lv_aload_n hx hb d_Md_walks_41 rfl (lv_at hl 0 rfl) ?_
            refine va_get (D := (dC, dI)) (ci := 7) (v := .ref (a 13)) (C := R_Md) (T := F_Md) (N := 35) hx hb hts inb_Md hown hK hP 0 rfl rfl 21 (by decide) (hts _ tw708) (fun _ h9 => h9) rfl d_Md_walks_42 ?_
            refine lv_iload_n hx hb d_Md_walks_45 rfl (lv_at hl 1 rfl) ?_
            obtain ⟨hin, h⟩ := o_in h
            refine va_iald hx hb hK hP 13 0 rfl rfl hin d_Md_walks_46 ?_
            obtain ⟨hin, h⟩ := o_in h
            refine va_zald hx hb hK hP 19 2 rfl rfl hin d_Md_walks_47 ?_
            refine lv_if_eq (tgt := 61) hx hb d_Md_walks_48 (by decide) (fun hc => ?_) (fun hc => ?_)
            · have h := o_t hc h
              refine lv_iinc (v := (s29.1 + 1)) (lv' := [(1, .int (s29.1 + 1)), (0, .ref (a 0))]) hx hb d_Md_walks_61 hl (k := 1) rfl rfl (by decide) rfl (fun ls hl => ?_)
              refine lv_goto (tgt := 29) hx hb d_Md_walks_64 (by decide) ?_
              exact ih29 ((s29.1 + 1), s29.2) _ _ _ h hP hD hS (lv_sub hl [1, 0] rfl)
            · have h := o_f hc h
              refine lv_aload_n hx hb d_Md_walks_51 rfl (lv_at hl 0 rfl) ?_
              refine lv_aload_n hx hb d_Md_walks_52 rfl (lv_at hl 0 rfl) ?_
              refine va_get (D := (dC, dI)) (ci := 7) (v := .ref (a 13)) (C := R_Md) (T := F_Md) (N := 35) hx hb hts inb_Md hown hK hP 0 rfl rfl 21 (by decide) (hts _ tw708) (fun _ h9 => h9) rfl d_Md_walks_53 ?_
              refine lv_iload_n hx hb d_Md_walks_56 rfl (lv_at hl 1 rfl) ?_
              obtain ⟨hin, h⟩ := o_in h
              refine va_iald hx hb hK hP 13 0 rfl rfl hin d_Md_walks_57 ?_
              obtain ⟨y58, hy, h⟩ := o_bd h
              refine kdV (nn := 24) (rest := []) (w' := (cMd cI cJ cZ a mb mg y58 mf)) (wr := ([] : va_W)) (st1 := []) ⟨hx, hb, hml, hown, hts⟩ (c_Md_walk l dC dI cI cJ cZ a N ((Mg_order mg) s29.1.toNatClampNeg) mb mg s29.2 mf y58 hy) (cwV 1 hts (gd_V tw961 tw963 ps46 tw9 tw964) rfl rfl rfl hd_Md_walk ⟨Nat.le_of_ble_eq_true rfl, Nat.le_of_ble_eq_true rfl⟩) hNw hK hP hD hS hA (ci := 7) rfl rfl rfl [0, 1, 2, 3, 4, 5, 6, 7, 8, 9, 10, 11, 12, 13, 14, 15, 16, 17, 18, 19, 20, 21, 22, 23] [] rfl rfl rfl rfl rfl (by decide +kernel) (by decide +kernel) rfl hl.1 rfl (Nat.le_of_ble_eq_true rfl) rfl d_Md_walks_58 ⟨Nat.zero_le _, Nat.zero_le _⟩ (fun H locs hP hD hS => ?_)
              refine lv_iinc (v := (s29.1 + 1)) (lv' := [(1, .int (s29.1 + 1)), (0, .ref (a 0))]) hx hb d_Md_walks_61 hl (k := 1) rfl rfl (by decide) rfl (fun ls hl => ?_)
              refine lv_goto (tgt := 29) hx hb d_Md_walks_64 (by decide) ?_
              exact ih29 ((s29.1 + 1), y58) _ _ _ h hP hD hS (lv_sub hl [1, 0] rfl)
      refine lv_aload_n hx hb d_Md_walks_15 rfl (lv_at hl 0 rfl) ?_
      refine va_get (D := (dC, dI)) (ci := 7) (v := .int (Mx_isNew s15)) (C := R_Md) (T := F_Md) (N := 35) hx hb hts inb_Md hown hK hP 0 rfl rfl 29 (by decide) (hts _ tw716) (fun _ h9 => h9) rfl d_Md_walks_16 ?_
      refine lv_if_eq (tgt := 70) hx hb d_Md_walks_19 (by decide) (fun hc => ?_) (fun hc => ?_)
      · have h := o_t hc h
        cases h
        exact kr_v hx hb hr hlocks hP hD hS d_Md_walks_70
      · have h := o_f hc h
        refine lv_aload_n hx hb d_Md_walks_22 rfl (lv_at hl 0 rfl) ?_
        refine lv_iconst (v := 0) hx hb d_Md_walks_23 (by decide) ?_
        refine va_put (D := (dC, dI)) (ci := 7) (v := .int (0 : Int32)) (ty := .boolean) (C := R_Md) (T := F_Md) (N := 35) hx hb hts inb_Md ft_Md ft_Md_ok n_Md hown hK hP hD hS 0 rfl rfl 29 (by decide) (hts _ tw716) (fun _ h9 => h9) rfl (by decide +kernel) rfl rfl (Nat.le_of_ble_eq_true rfl) d_Md_walks_24 (fun H locs hP hD hS => ?_)
        have hP : va_P (dC, dI) classes (cMd cI cJ cZ a mb mg ((Mx_isReached s15), (Mx_isComplete s15), (Mx_throwable s15), (Mx_isCome s15), (Mx_ended s15), (0 : Int32)) mf) H := hP
        have hD : va_D A (cMd cI cJ cZ a mb mg ((Mx_isReached s15), (Mx_isComplete s15), (Mx_throwable s15), (Mx_isCome s15), (Mx_ended s15), (0 : Int32)) mf) := hD
        refine lv_iconst (v := 0) hx hb d_Md_walks_27 (by decide) ?_
        refine lv_istore_n (lv' := [(1, .int (0 : Int32)), (0, .ref (a 0))]) hx hb d_Md_walks_28 rfl hl (by decide) rfl (fun ls hl => ?_)
        exact L29 N ((0 : Int32), ((Mx_isReached s15), (Mx_isComplete s15), (Mx_throwable s15), (Mx_isCome s15), (Mx_ended s15), (0 : Int32))) _ _ _ h hP hD hS (lv_sub hl [1, 0] rfl)
  refine lv_aload_n hx hb d_Md_walks_0 rfl (lv_at hl 0 rfl) ?_
  refine lv_iconst (v := 1) hx hb d_Md_walks_1 (by decide) ?_
  refine va_put (D := (dC, dI)) (ci := 7) (v := .int (1 : Int32)) (ty := .boolean) (C := R_Md) (T := F_Md) (N := 35) hx hb hts inb_Md ft_Md ft_Md_ok n_Md hown hK hP hD hS 0 rfl rfl 29 (by decide) (hts _ tw716) (fun _ h9 => h9) rfl (by decide +kernel) rfl rfl (Nat.le_of_ble_eq_true rfl) d_Md_walks_2 (fun H locs hP hD hS => ?_)
  have hP : va_P (dC, dI) classes (cMd cI cJ cZ a mb mg ((Mx_isReached mx), (Mx_isComplete mx), (Mx_throwable mx), (Mx_isCome mx), (Mx_ended mx), (1 : Int32)) mf) H := hP
  have hD : va_D A (cMd cI cJ cZ a mb mg ((Mx_isReached mx), (Mx_isComplete mx), (Mx_throwable mx), (Mx_isCome mx), (Mx_ended mx), (1 : Int32)) mf) := hD
  refine lv_aload_n hx hb d_Md_walks_5 rfl (lv_at hl 0 rfl) ?_
  refine va_get (D := (dC, dI)) (ci := 7) (v := .ref (a 19)) (C := R_Md) (T := F_Md) (N := 35) hx hb hts inb_Md hown hK hP 0 rfl rfl 27 (by decide) (hts _ tw714) (fun _ h9 => h9) rfl d_Md_walks_6 ?_
  refine lv_aload_n hx hb d_Md_walks_9 rfl (lv_at hl 0 rfl) ?_
  refine va_get (D := (dC, dI)) (ci := 7) (v := .int (Mg_root mg)) (C := R_Md) (T := F_Md) (N := 35) hx hb hts inb_Md hown hK hP 0 rfl rfl 18 (by decide) (hts _ tw705) (fun _ h9 => h9) rfl d_Md_walks_10 ?_
  refine lv_iconst (v := 1) hx hb d_Md_walks_13 (by decide) ?_
  obtain ⟨hin, h⟩ := o_in h
  refine va_zast hx hb hK hP hD hS 19 2 rfl rfl hin d_Md_walks_14 (fun H locs hP hD hS => ?_)
  have hP : va_P (dC, dI) classes (cMd cI cJ cZ a mb mg ((Mx_isReached mx), (Mx_isComplete mx), (Mx_throwable mx), (upd (Mx_isCome mx) (Mg_root mg).toNatClampNeg (vp_nar .boolean (1 : Int32))), (Mx_ended mx), (1 : Int32)) mf) H := hP
  have hD : va_D A (cMd cI cJ cZ a mb mg ((Mx_isReached mx), (Mx_isComplete mx), (Mx_throwable mx), (upd (Mx_isCome mx) (Mg_root mg).toNatClampNeg (vp_nar .boolean (1 : Int32))), (Mx_ended mx), (1 : Int32)) mf) := hD
  exact L15 N ((Mx_isReached mx), (Mx_isComplete mx), (Mx_throwable mx), (upd (Mx_isCome mx) (Mg_root mg).toNatClampNeg (vp_nar .boolean (1 : Int32))), (Mx_ended mx), (1 : Int32)) _ _ _ h hP hD hS (lv_sub hl [0] rfl)
set_option maxHeartbeats 4000000 in
set_option maxRecDepth 100000 in
theorem c_Md_tell (l : Launch) (dC : Nat → ClassId) (dI : Nat → Nat → Nat) (cI cJ cZ : ClassId) (a : Nat → Nat) (x1 : Int32) (x2 : Int32) (x3 : Int32) (mb : MbS) (mg : MgS) (mx : MxS) (mf : MfS) (res : MfS) (h : f_Md_tell x1 x2 x3 mf = some res) :
    Kt l (dC, dI) classes [(cI, .int), (cJ, .long), (cZ, .boolean)] y_Md_tell (wz y_Md_tell b_Md_tell 4 none) { frames := 0, cells := 0, slots := 0, locals := 0 } [.ref (a 0), .int x1, .int x2, .int x3] (cMd cI cJ cZ a mb mg mx mf) none (cMd cI cJ cZ a mb mg mx res) := by
  refine Kt_of (cc := b_Md_tell) (maxL := 4) (ret := none) (by decide) (Nat.le_of_ble_eq_true rfl) ?_
  intro p e s m args below meth c A ls hx hb hr hml hlocks hown hts hNw hK hP hD hA hS hl
  have hl : lv_has ls 4 [(0, .ref (a 0)), (1, .int x1), (2, .int x2), (3, .int x3)] := hl
  have hP : va_P (dC, dI) classes (cMd cI cJ cZ a mb mg mx mf) s.heap := hP
  refine lv_iload_n hx hb d_Md_tell_0 rfl (lv_at hl 3 rfl) ?_
  refine lv_if_eq (tgt := 34) hx hb d_Md_tell_1 (by decide) (fun hc => ?_) (fun hc => ?_)
  · have h := o_t hc h
    cases h
    exact kr_v hx hb hr hlocks hP hD hS d_Md_tell_34
  · have h := o_f hc h
    refine lv_aload_n hx hb d_Md_tell_4 rfl (lv_at hl 0 rfl) ?_
    refine va_get (D := (dC, dI)) (ci := 7) (v := .ref (a 21)) (C := R_Md) (T := F_Md) (N := 35) hx hb hts inb_Md hown hK hP 0 rfl rfl 31 (by decide) (hts _ tw718) (fun _ h9 => h9) rfl d_Md_tell_5 ?_
    refine lv_aload_n hx hb d_Md_tell_8 rfl (lv_at hl 0 rfl) ?_
    refine va_get (D := (dC, dI)) (ci := 7) (v := .int (Mf_faults mf)) (C := R_Md) (T := F_Md) (N := 35) hx hb hts inb_Md hown hK hP 0 rfl rfl 30 (by decide) (hts _ tw717) (fun _ h9 => h9) rfl d_Md_tell_9 ?_
    refine lv_iload_n hx hb d_Md_tell_12 rfl (lv_at hl 1 rfl) ?_
    obtain ⟨hin, h⟩ := o_in h
    refine va_iast hx hb hK hP hD hS 21 0 rfl rfl hin d_Md_tell_13 (fun H locs hP hD hS => ?_)
    have hP : va_P (dC, dI) classes (cMd cI cJ cZ a mb mg mx ((Mf_faults mf), (upd (Mf_faultKind mf) (Mf_faults mf).toNatClampNeg x1), (Mf_faultNode mf), (Mf_noted mf), (Mf_notes mf))) H := hP
    have hD : va_D A (cMd cI cJ cZ a mb mg mx ((Mf_faults mf), (upd (Mf_faultKind mf) (Mf_faults mf).toNatClampNeg x1), (Mf_faultNode mf), (Mf_noted mf), (Mf_notes mf))) := hD
    refine lv_aload_n hx hb d_Md_tell_14 rfl (lv_at hl 0 rfl) ?_
    refine va_get (D := (dC, dI)) (ci := 7) (v := .ref (a 22)) (C := R_Md) (T := F_Md) (N := 35) hx hb hts inb_Md hown hK hP 0 rfl rfl 32 (by decide) (hts _ tw719) (fun _ h9 => h9) rfl d_Md_tell_15 ?_
    refine lv_aload_n hx hb d_Md_tell_18 rfl (lv_at hl 0 rfl) ?_
    refine va_get (D := (dC, dI)) (ci := 7) (v := .int (Mf_faults mf)) (C := R_Md) (T := F_Md) (N := 35) hx hb hts inb_Md hown hK hP 0 rfl rfl 30 (by decide) (hts _ tw717) (fun _ h9 => h9) rfl d_Md_tell_19 ?_
    refine lv_iload_n hx hb d_Md_tell_22 rfl (lv_at hl 2 rfl) ?_
    obtain ⟨hin, h⟩ := o_in h
    refine va_iast hx hb hK hP hD hS 22 0 rfl rfl hin d_Md_tell_23 (fun H locs hP hD hS => ?_)
    have hP : va_P (dC, dI) classes (cMd cI cJ cZ a mb mg mx ((Mf_faults mf), (upd (Mf_faultKind mf) (Mf_faults mf).toNatClampNeg x1), (upd (Mf_faultNode mf) (Mf_faults mf).toNatClampNeg x2), (Mf_noted mf), (Mf_notes mf))) H := hP
    have hD : va_D A (cMd cI cJ cZ a mb mg mx ((Mf_faults mf), (upd (Mf_faultKind mf) (Mf_faults mf).toNatClampNeg x1), (upd (Mf_faultNode mf) (Mf_faults mf).toNatClampNeg x2), (Mf_noted mf), (Mf_notes mf))) := hD
    refine lv_aload_n hx hb d_Md_tell_24 rfl (lv_at hl 0 rfl) ?_
    refine lv_dup hx hb d_Md_tell_25 rfl ?_
    refine va_get (D := (dC, dI)) (ci := 7) (v := .int (Mf_faults mf)) (C := R_Md) (T := F_Md) (N := 35) hx hb hts inb_Md hown hK hP 0 rfl rfl 30 (by decide) (hts _ tw717) (fun _ h9 => h9) rfl d_Md_tell_26 ?_
    refine lv_iconst (v := 1) hx hb d_Md_tell_29 (by decide) ?_
    refine lv_iadd hx hb d_Md_tell_30 ?_
    refine va_put (D := (dC, dI)) (ci := 7) (v := .int ((Mf_faults mf) + (1 : Int32))) (ty := .int) (C := R_Md) (T := F_Md) (N := 35) hx hb hts inb_Md ft_Md ft_Md_ok n_Md hown hK hP hD hS 0 rfl rfl 30 (by decide) (hts _ tw717) (fun _ h9 => h9) rfl (by decide +kernel) rfl rfl (Nat.le_of_ble_eq_true rfl) d_Md_tell_31 (fun H locs hP hD hS => ?_)
    have hP : va_P (dC, dI) classes (cMd cI cJ cZ a mb mg mx (((Mf_faults mf) + (1 : Int32)), (upd (Mf_faultKind mf) (Mf_faults mf).toNatClampNeg x1), (upd (Mf_faultNode mf) (Mf_faults mf).toNatClampNeg x2), (Mf_noted mf), (Mf_notes mf))) H := hP
    have hD : va_D A (cMd cI cJ cZ a mb mg mx (((Mf_faults mf) + (1 : Int32)), (upd (Mf_faultKind mf) (Mf_faults mf).toNatClampNeg x1), (upd (Mf_faultNode mf) (Mf_faults mf).toNatClampNeg x2), (Mf_noted mf), (Mf_notes mf))) := hD
    cases h
    exact kr_v hx hb hr hlocks hP hD hS d_Md_tell_34
set_option maxHeartbeats 4000000 in
set_option maxRecDepth 100000 in
theorem c_Md_isShadowed (l : Launch) (dC : Nat → ClassId) (dI : Nat → Nat → Nat) (cI cJ cZ : ClassId) (a : Nat → Nat) (N : Nat) (x1 : Int32) (mb : MbS) (mg : MgS) (mx : MxS) (mf : MfS) (res : Int32) (h : f_Md_isShadowed N x1 mb = some res) :
    Kt l (dC, dI) classes [(cI, .int), (cJ, .long), (cZ, .boolean)] y_Md_isShadowed (wz y_Md_isShadowed b_Md_isShadowed 4 (some .boolean)) { frames := 1, cells := 0, slots := 0, locals := 23 } [.ref (a 0), .int x1] (cMd cI cJ cZ a mb mg mx mf) (some (.int res)) (cMd cI cJ cZ a mb mg mx mf) := by
  refine Kt_of (cc := b_Md_isShadowed) (maxL := 4) (ret := (some .boolean)) (by decide) (Nat.le_of_ble_eq_true rfl) ?_
  intro p e s m args below meth c A ls hx hb hr hml hlocks hown hts hNw hK hP hD hA hS hl
  have hl : lv_has ls 4 [(0, .ref (a 0)), (1, .int x1)] := hl
  have hP : va_P (dC, dI) classes (cMd cI cJ cZ a mb mg mx mf) s.heap := hP
  have L19 : ∀ (x1_19 : Int32) (n19 : Nat) (s19 : Int32 × Int32) (H : Heap) (locs : List Loc) (ls : Array Slot), lp (f_Md_isShadowed_L19 N x1_19 mb) n19 s19 = some res → va_P (dC, dI) classes (cMd cI cJ cZ a mb mg mx mf) H → va_D A (cMd cI cJ cZ a mb mg mx mf) → va_S A s.heap H locs → lv_has ls 4 [(0, .ref (a 0)), (1, .int x1_19), (2, .int s19.1), (3, .int s19.2)] → W p l e { frames := 1, cells := 0, slots := 0, locals := 23 } s m args below meth c H locs 0 0 (KZ below args s (dC, dI) classes (some (.int res)) (cMd cI cJ cZ a mb mg mx mf) A) (F0 m 19 ls []) := by
    intro x1_19 n19
    induction n19 with
    | zero => intro _ _ _ _ h; exact (lp_0 h).elim
    | succ n19 ih19 =>
      intro s19 H locs ls h hP hD hS hl
      have h := lp_s h
      have B52 : ∀ (z0_52 : Int32) (x3_52 : Int32) (H : Heap) (locs : List Loc) (ls : Array Slot), f_Md_isShadowed_b52 N (lp (f_Md_isShadowed_L19 N x1_19 mb) n19) z0_52 x1_19 x3_52 mb = some res → va_P (dC, dI) classes (cMd cI cJ cZ a mb mg mx mf) H → va_D A (cMd cI cJ cZ a mb mg mx mf) → va_S A s.heap H locs → lv_has ls 4 [(0, .ref (a 0)), (1, .int x1_19), (3, .int x3_52)] → W p l e { frames := 1, cells := 0, slots := 0, locals := 23 } s m args below meth c H locs 0 0 (KZ below args s (dC, dI) classes (some (.int res)) (cMd cI cJ cZ a mb mg mx mf) A) (F0 m 52 ls [.int z0_52]) := by
        intro z0_52 x3_52 H locs ls h hP hD hS hl
        refine lv_istore_n (lv' := [(2, .int z0_52), (0, .ref (a 0)), (1, .int x1_19), (3, .int x3_52)]) hx hb d_Md_isShadowed_52 rfl hl (by decide) rfl (fun ls hl => ?_)
        refine lv_aload_n hx hb d_Md_isShadowed_53 rfl (lv_at hl 1 rfl) ?_
        refine va_get (D := (dC, dI)) (ci := 7) (v := .ref (a 8)) (C := R_Md) (T := F_Md) (N := 35) hx hb hts inb_Md hown hK hP 0 rfl rfl 9 (by decide) (hts _ tw696) (fun _ h9 => h9) rfl d_Md_isShadowed_54 ?_
        refine lv_iload_n hx hb d_Md_isShadowed_57 rfl (lv_at hl 3 rfl) ?_
        obtain ⟨hin, h⟩ := o_in h
        refine va_iald hx hb hK hP 8 0 rfl rfl hin d_Md_isShadowed_58 ?_
        refine lv_istore_n (lv' := [(3, .int ((Mb_next mb) x3_52.toNatClampNeg)), (2, .int z0_52), (0, .ref (a 0)), (1, .int x1_19)]) hx hb d_Md_isShadowed_59 rfl hl (by decide) rfl (fun ls hl => ?_)
        refine lv_goto (tgt := 19) hx hb d_Md_isShadowed_60 (by decide) ?_
        exact ih19 (z0_52, ((Mb_next mb) x3_52.toNatClampNeg)) _ _ _ h hP hD hS (lv_sub hl [2, 3, 1, 0] rfl)
      have B47 : ∀ (x3_47 : Int32) (H : Heap) (locs : List Loc) (ls : Array Slot), f_Md_isShadowed_b47 N (lp (f_Md_isShadowed_L19 N x1_19 mb) n19) x1_19 x3_47 mb = some res → va_P (dC, dI) classes (cMd cI cJ cZ a mb mg mx mf) H → va_D A (cMd cI cJ cZ a mb mg mx mf) → va_S A s.heap H locs → lv_has ls 4 [(0, .ref (a 0)), (1, .int x1_19), (3, .int x3_47)] → W p l e { frames := 1, cells := 0, slots := 0, locals := 23 } s m args below meth c H locs 0 0 (KZ below args s (dC, dI) classes (some (.int res)) (cMd cI cJ cZ a mb mg mx mf) A) (F0 m 47 ls []) := by
        intro x3_47 H locs ls h hP hD hS hl
        refine lv_iconst (v := 1) hx hb d_Md_isShadowed_47 (by decide) ?_
        refine lv_goto (tgt := 52) hx hb d_Md_isShadowed_48 (by decide) ?_
        exact B52 (1 : Int32) x3_47 _ _ _ h hP hD hS (lv_sub hl [0, 1, 2] rfl)
      refine lv_iload_n hx hb d_Md_isShadowed_19 rfl (lv_at hl 3 rfl) ?_
      refine lv_iload_n hx hb d_Md_isShadowed_20 rfl (lv_at hl 1 rfl) ?_
      refine lv_icmp_eq (tgt := 63) hx hb d_Md_isShadowed_21 (by decide) (fun hc => ?_) (fun hc => ?_)
      · have h := o_t hc h
        refine lv_iload_n hx hb d_Md_isShadowed_63 rfl (lv_at hl 2 rfl) ?_
        obtain ⟨hbo, h⟩ := o_bo h
        cases h
        exact kr_z hx hb hr hbo hlocks hP hD hS d_Md_isShadowed_64
      · have h := o_f hc h
        refine lv_iload_n hx hb d_Md_isShadowed_24 rfl (lv_at hl 2 rfl) ?_
        refine lv_if_ne (tgt := 47) hx hb d_Md_isShadowed_25 (by decide) (fun hc => ?_) (fun hc => ?_)
        · have h := o_f hc h
          exact B47 s19.2 _ _ _ h hP hD hS (lv_sub hl [0, 1, 3] rfl)
        · have h := o_t hc h
          refine lv_aload_n hx hb d_Md_isShadowed_28 rfl (lv_at hl 0 rfl) ?_
          refine lv_aload_n hx hb d_Md_isShadowed_29 rfl (lv_at hl 0 rfl) ?_
          refine va_get (D := (dC, dI)) (ci := 7) (v := .ref (a 5)) (C := R_Md) (T := F_Md) (N := 35) hx hb hts inb_Md hown hK hP 0 rfl rfl 6 (by decide) (hts _ tw693) (fun _ h9 => h9) rfl d_Md_isShadowed_30 ?_
          refine lv_iload_n hx hb d_Md_isShadowed_33 rfl (lv_at hl 1 rfl) ?_
          obtain ⟨hin, h⟩ := o_in h
          refine va_iald hx hb hK hP 5 0 rfl rfl hin d_Md_isShadowed_34 ?_
          refine lv_aload_n hx hb d_Md_isShadowed_35 rfl (lv_at hl 0 rfl) ?_
          refine va_get (D := (dC, dI)) (ci := 7) (v := .ref (a 5)) (C := R_Md) (T := F_Md) (N := 35) hx hb hts inb_Md hown hK hP 0 rfl rfl 6 (by decide) (hts _ tw693) (fun _ h9 => h9) rfl d_Md_isShadowed_36 ?_
          refine lv_iload_n hx hb d_Md_isShadowed_39 rfl (lv_at hl 3 rfl) ?_
          obtain ⟨hin, h⟩ := o_in h
          refine va_iald hx hb hK hP 5 0 rfl rfl hin d_Md_isShadowed_40 ?_
          obtain ⟨y41, hy, h⟩ := o_bd h
          refine kdV (nn := 24) (rest := []) (w' := (cMd cI cJ cZ a mb mg mx mf)) (wr := ([] : va_W)) (st1 := [.int y41]) ⟨hx, hb, hml, hown, hts⟩ (c_Md_isBelow l dC dI cI cJ cZ a N ((Mb_mark mb) x1_19.toNatClampNeg) ((Mb_mark mb) s19.2.toNatClampNeg) mb mg mx mf y41 hy) (cwV 2 hts (gd_V tw925 tw927 ps37 tw9 tw928) rfl rfl rfl hd_Md_isBelow ⟨Nat.le_of_ble_eq_true rfl, Nat.le_of_ble_eq_true rfl⟩) hNw hK hP hD hS hA (ci := 7) rfl rfl rfl [0, 1, 2, 3, 4, 5, 6, 7, 8, 9, 10, 11, 12, 13, 14, 15, 16, 17, 18, 19, 20, 21, 22, 23] [] rfl rfl rfl rfl rfl (by decide +kernel) (by decide +kernel) rfl hl.1 rfl (Nat.le_of_ble_eq_true rfl) rfl d_Md_isShadowed_41 ⟨Nat.zero_le _, Nat.zero_le _⟩ (fun H locs hP hD hS => ?_)
          refine lv_if_eq (tgt := 51) hx hb d_Md_isShadowed_44 (by decide) (fun hc => ?_) (fun hc => ?_)
          · have h := o_t hc h
            refine lv_iconst (v := 0) hx hb d_Md_isShadowed_51 (by decide) ?_
            exact B52 (0 : Int32) s19.2 _ _ _ h hP hD hS (lv_sub hl [0, 1, 3] rfl)
          · have h := o_f hc h
            exact B47 s19.2 _ _ _ h hP hD hS (lv_sub hl [0, 1, 3] rfl)
  refine lv_iconst (v := 0) hx hb d_Md_isShadowed_0 (by decide) ?_
  refine lv_istore_n (lv' := [(2, .int (0 : Int32)), (0, .ref (a 0)), (1, .int x1)]) hx hb d_Md_isShadowed_1 rfl hl (by decide) rfl (fun ls hl => ?_)
  refine lv_aload_n hx hb d_Md_isShadowed_2 rfl (lv_at hl 1 rfl) ?_
  refine va_get (D := (dC, dI)) (ci := 7) (v := .ref (a 8)) (C := R_Md) (T := F_Md) (N := 35) hx hb hts inb_Md hown hK hP 0 rfl rfl 9 (by decide) (hts _ tw696) (fun _ h9 => h9) rfl d_Md_isShadowed_3 ?_
  refine lv_aload_n hx hb d_Md_isShadowed_6 rfl (lv_at hl 1 rfl) ?_
  refine va_get (D := (dC, dI)) (ci := 7) (v := .ref (a 6)) (C := R_Md) (T := F_Md) (N := 35) hx hb hts inb_Md hown hK hP 0 rfl rfl 7 (by decide) (hts _ tw694) (fun _ h9 => h9) rfl d_Md_isShadowed_7 ?_
  refine lv_aload_n hx hb d_Md_isShadowed_10 rfl (lv_at hl 1 rfl) ?_
  refine va_get (D := (dC, dI)) (ci := 7) (v := .ref (a 4)) (C := R_Md) (T := F_Md) (N := 35) hx hb hts inb_Md hown hK hP 0 rfl rfl 5 (by decide) (hts _ tw692) (fun _ h9 => h9) rfl d_Md_isShadowed_11 ?_
  refine lv_iload_n hx hb d_Md_isShadowed_14 rfl (lv_at hl 2 rfl) ?_
  obtain ⟨hin, h⟩ := o_in h
  refine va_iald hx hb hK hP 4 0 rfl rfl hin d_Md_isShadowed_15 ?_
  obtain ⟨hin, h⟩ := o_in h
  refine va_iald hx hb hK hP 6 0 rfl rfl hin d_Md_isShadowed_16 ?_
  obtain ⟨hin, h⟩ := o_in h
  refine va_iald hx hb hK hP 8 0 rfl rfl hin d_Md_isShadowed_17 ?_
  refine lv_istore_n (lv' := [(3, .int ((Mb_next mb) ((Mb_first mb) ((Mb_partOf mb) x1.toNatClampNeg).toNatClampNeg).toNatClampNeg)), (2, .int (0 : Int32)), (0, .ref (a 0)), (1, .int x1)]) hx hb d_Md_isShadowed_18 rfl hl (by decide) rfl (fun ls hl => ?_)
  exact L19 x1 N ((0 : Int32), ((Mb_next mb) ((Mb_first mb) ((Mb_partOf mb) x1.toNatClampNeg).toNatClampNeg).toNatClampNeg)) _ _ _ h hP hD hS (lv_sub hl [2, 3, 1, 0] rfl)
set_option maxHeartbeats 4000000 in
set_option maxRecDepth 100000 in
theorem c_Md_isNested (l : Launch) (dC : Nat → ClassId) (dI : Nat → Nat → Nat) (cI cJ cZ : ClassId) (a : Nat → Nat) (N : Nat) (x1 : Int32) (mb : MbS) (mg : MgS) (mx : MxS) (mf : MfS) (res : Int32) (h : f_Md_isNested N x1 mb mg = some res) :
    Kt l (dC, dI) classes [(cI, .int), (cJ, .long), (cZ, .boolean)] y_Md_isNested (wz y_Md_isNested b_Md_isNested 4 (some .boolean)) { frames := 1, cells := 0, slots := 0, locals := 21 } [.ref (a 0), .int x1] (cMd cI cJ cZ a mb mg mx mf) (some (.int res)) (cMd cI cJ cZ a mb mg mx mf) := by
  refine Kt_of (cc := b_Md_isNested) (maxL := 4) (ret := (some .boolean)) (by decide) (Nat.le_of_ble_eq_true rfl) ?_
  intro p e s m args below meth c A ls hx hb hr hml hlocks hown hts hNw hK hP hD hA hS hl
  have hl : lv_has ls 4 [(0, .ref (a 0)), (1, .int x1)] := hl
  have hP : va_P (dC, dI) classes (cMd cI cJ cZ a mb mg mx mf) s.heap := hP
  have L8 : ∀ (x1_8 : Int32) (n8 : Nat) (s8 : Int32 × Int32) (H : Heap) (locs : List Loc) (ls : Array Slot), lp (f_Md_isNested_L8 N x1_8 mb mg) n8 s8 = some res → va_P (dC, dI) classes (cMd cI cJ cZ a mb mg mx mf) H → va_D A (cMd cI cJ cZ a mb mg mx mf) → va_S A s.heap H locs → lv_has ls 4 [(0, .ref (a 0)), (1, .int x1_8), (2, .int s8.1), (3, .int s8.2)] → W p l e { frames := 1, cells := 0, slots := 0, locals := 21 } s m args below meth c H locs 0 0 (KZ below args s (dC, dI) classes (some (.int res)) (cMd cI cJ cZ a mb mg mx mf) A) (F0 m 8 ls []) := by
    intro x1_8 n8
    induction n8 with
    | zero => intro _ _ _ _ h; exact (lp_0 h).elim
    | succ n8 ih8 =>
      intro s8 H locs ls h hP hD hS hl
      have h := lp_s h
      have B48 : ∀ (z0_48 : Int32) (x3_48 : Int32) (H : Heap) (locs : List Loc) (ls : Array Slot), f_Md_isNested_b48 N (lp (f_Md_isNested_L8 N x1_8 mb mg) n8) z0_48 x1_8 x3_48 mb mg = some res → va_P (dC, dI) classes (cMd cI cJ cZ a mb mg mx mf) H → va_D A (cMd cI cJ cZ a mb mg mx mf) → va_S A s.heap H locs → lv_has ls 4 [(0, .ref (a 0)), (1, .int x1_8), (3, .int x3_48)] → W p l e { frames := 1, cells := 0, slots := 0, locals := 21 } s m args below meth c H locs 0 0 (KZ below args s (dC, dI) classes (some (.int res)) (cMd cI cJ cZ a mb mg mx mf) A) (F0 m 48 ls [.int z0_48]) := by
        intro z0_48 x3_48 H locs ls h hP hD hS hl
        refine lv_istore_n (lv' := [(2, .int z0_48), (0, .ref (a 0)), (1, .int x1_8), (3, .int x3_48)]) hx hb d_Md_isNested_48 rfl hl (by decide) rfl (fun ls hl => ?_)
        refine lv_aload_n hx hb d_Md_isNested_49 rfl (lv_at hl 1 rfl) ?_
        refine lv_iload_n hx hb d_Md_isNested_50 rfl (lv_at hl 3 rfl) ?_
        obtain ⟨y51, hy, h⟩ := o_bd h
        refine kdV (nn := 24) (rest := []) (w' := (cMd cI cJ cZ a mb mg mx mf)) (wr := ([] : va_W)) (st1 := [.int y51]) ⟨hx, hb, hml, hown, hts⟩ (c_Md_up l dC dI cI cJ cZ a x3_48 mb mg mx mf y51 hy) (cwV 1 hts (gd_V tw893 tw895 ps29 tw9 tw896) rfl rfl rfl hd_Md_up ⟨Nat.le_of_ble_eq_true rfl, Nat.le_of_ble_eq_true rfl⟩) hNw hK hP hD hS hA (ci := 7) rfl rfl rfl [0, 1, 2, 3, 4, 5, 6, 7, 8, 9, 10, 11, 12, 13, 14, 15, 16, 17, 18, 19, 20, 21, 22, 23] [] rfl rfl rfl rfl rfl (by decide +kernel) (by decide +kernel) rfl hl.1 rfl (Nat.le_of_ble_eq_true rfl) rfl d_Md_isNested_51 ⟨Nat.zero_le _, Nat.zero_le _⟩ (fun H locs hP hD hS => ?_)
        refine lv_istore_n (lv' := [(3, .int y51), (2, .int z0_48), (0, .ref (a 0)), (1, .int x1_8)]) hx hb d_Md_isNested_54 rfl hl (by decide) rfl (fun ls hl => ?_)
        refine lv_goto (tgt := 8) hx hb d_Md_isNested_55 (by decide) ?_
        exact ih8 (z0_48, y51) _ _ _ h hP hD hS (lv_sub hl [2, 3, 1, 0] rfl)
      have B43 : ∀ (x3_43 : Int32) (H : Heap) (locs : List Loc) (ls : Array Slot), f_Md_isNested_b43 N (lp (f_Md_isNested_L8 N x1_8 mb mg) n8) x1_8 x3_43 mb mg = some res → va_P (dC, dI) classes (cMd cI cJ cZ a mb mg mx mf) H → va_D A (cMd cI cJ cZ a mb mg mx mf) → va_S A s.heap H locs → lv_has ls 4 [(0, .ref (a 0)), (1, .int x1_8), (3, .int x3_43)] → W p l e { frames := 1, cells := 0, slots := 0, locals := 21 } s m args below meth c H locs 0 0 (KZ below args s (dC, dI) classes (some (.int res)) (cMd cI cJ cZ a mb mg mx mf) A) (F0 m 43 ls []) := by
        intro x3_43 H locs ls h hP hD hS hl
        refine lv_iconst (v := 1) hx hb d_Md_isNested_43 (by decide) ?_
        refine lv_goto (tgt := 48) hx hb d_Md_isNested_44 (by decide) ?_
        exact B48 (1 : Int32) x3_43 _ _ _ h hP hD hS (lv_sub hl [0, 1, 2] rfl)
      have B47 : ∀ (x3_47 : Int32) (H : Heap) (locs : List Loc) (ls : Array Slot), f_Md_isNested_b47 N (lp (f_Md_isNested_L8 N x1_8 mb mg) n8) x1_8 x3_47 mb mg = some res → va_P (dC, dI) classes (cMd cI cJ cZ a mb mg mx mf) H → va_D A (cMd cI cJ cZ a mb mg mx mf) → va_S A s.heap H locs → lv_has ls 4 [(0, .ref (a 0)), (1, .int x1_8), (3, .int x3_47)] → W p l e { frames := 1, cells := 0, slots := 0, locals := 21 } s m args below meth c H locs 0 0 (KZ below args s (dC, dI) classes (some (.int res)) (cMd cI cJ cZ a mb mg mx mf) A) (F0 m 47 ls []) := by
        intro x3_47 H locs ls h hP hD hS hl
        refine lv_iconst (v := 0) hx hb d_Md_isNested_47 (by decide) ?_
        exact B48 (0 : Int32) x3_47 _ _ _ h hP hD hS (lv_sub hl [0, 1, 2] rfl)
      refine lv_iload_n hx hb d_Md_isNested_8 rfl (lv_at hl 3 rfl) ?_
      refine lv_iconst (v := -1) hx hb d_Md_isNested_9 (by decide) ?_
      refine lv_icmp_eq (tgt := 58) hx hb d_Md_isNested_10 (by decide) (fun hc => ?_) (fun hc => ?_)
      · have h := o_t hc h
        refine lv_iload_n hx hb d_Md_isNested_58 rfl (lv_at hl 2 rfl) ?_
        obtain ⟨hbo, h⟩ := o_bo h
        cases h
        exact kr_z hx hb hr hbo hlocks hP hD hS d_Md_isNested_59
      · have h := o_f hc h
        refine lv_iload_n hx hb d_Md_isNested_13 rfl (lv_at hl 2 rfl) ?_
        refine lv_if_ne (tgt := 43) hx hb d_Md_isNested_14 (by decide) (fun hc => ?_) (fun hc => ?_)
        · have h := o_f hc h
          exact B43 s8.2 _ _ _ h hP hD hS (lv_sub hl [0, 1, 3] rfl)
        · have h := o_t hc h
          refine lv_aload_n hx hb d_Md_isNested_17 rfl (lv_at hl 0 rfl) ?_
          refine va_get (D := (dC, dI)) (ci := 7) (v := .ref (a 2)) (C := R_Md) (T := F_Md) (N := 35) hx hb hts inb_Md hown hK hP 0 rfl rfl 3 (by decide) (hts _ tw690) (fun _ h9 => h9) rfl d_Md_isNested_18 ?_
          refine lv_iload_n hx hb d_Md_isNested_21 rfl (lv_at hl 3 rfl) ?_
          obtain ⟨hin, h⟩ := o_in h
          refine va_iald hx hb hK hP 2 0 rfl rfl hin d_Md_isNested_22 ?_
          refine lv_bipush (v := 12) hx hb d_Md_isNested_23 (by decide) ?_
          refine lv_icmp_ne (tgt := 47) hx hb d_Md_isNested_25 (by decide) (fun hc => ?_) (fun hc => ?_)
          · have h := o_f hc h
            exact B47 s8.2 _ _ _ h hP hD hS (lv_sub hl [0, 1, 3] rfl)
          · have h := o_t hc h
            refine lv_aload_n hx hb d_Md_isNested_28 rfl (lv_at hl 0 rfl) ?_
            refine va_get (D := (dC, dI)) (ci := 7) (v := .ref (a 3)) (C := R_Md) (T := F_Md) (N := 35) hx hb hts inb_Md hown hK hP 0 rfl rfl 4 (by decide) (hts _ tw691) (fun _ h9 => h9) rfl d_Md_isNested_29 ?_
            refine lv_iload_n hx hb d_Md_isNested_32 rfl (lv_at hl 3 rfl) ?_
            obtain ⟨hin, h⟩ := o_in h
            refine va_iald hx hb hK hP 3 0 rfl rfl hin d_Md_isNested_33 ?_
            refine lv_aload_n hx hb d_Md_isNested_34 rfl (lv_at hl 0 rfl) ?_
            refine va_get (D := (dC, dI)) (ci := 7) (v := .ref (a 3)) (C := R_Md) (T := F_Md) (N := 35) hx hb hts inb_Md hown hK hP 0 rfl rfl 4 (by decide) (hts _ tw691) (fun _ h9 => h9) rfl d_Md_isNested_35 ?_
            refine lv_iload_n hx hb d_Md_isNested_38 rfl (lv_at hl 1 rfl) ?_
            obtain ⟨hin, h⟩ := o_in h
            refine va_iald hx hb hK hP 3 0 rfl rfl hin d_Md_isNested_39 ?_
            refine lv_icmp_ne (tgt := 47) hx hb d_Md_isNested_40 (by decide) (fun hc => ?_) (fun hc => ?_)
            · have h := o_f hc h
              exact B47 s8.2 _ _ _ h hP hD hS (lv_sub hl [0, 1, 3] rfl)
            · have h := o_t hc h
              exact B43 s8.2 _ _ _ h hP hD hS (lv_sub hl [0, 1, 3] rfl)
  refine lv_iconst (v := 0) hx hb d_Md_isNested_0 (by decide) ?_
  refine lv_istore_n (lv' := [(2, .int (0 : Int32)), (0, .ref (a 0)), (1, .int x1)]) hx hb d_Md_isNested_1 rfl hl (by decide) rfl (fun ls hl => ?_)
  refine lv_aload_n hx hb d_Md_isNested_2 rfl (lv_at hl 1 rfl) ?_
  refine lv_iload_n hx hb d_Md_isNested_3 rfl (lv_at hl 2 rfl) ?_
  obtain ⟨y4, hy, h⟩ := o_bd h
  refine kdV (nn := 24) (rest := []) (w' := (cMd cI cJ cZ a mb mg mx mf)) (wr := ([] : va_W)) (st1 := [.int y4]) ⟨hx, hb, hml, hown, hts⟩ (c_Md_up l dC dI cI cJ cZ a x1 mb mg mx mf y4 hy) (cwV 1 hts (gd_V tw893 tw895 ps29 tw9 tw896) rfl rfl rfl hd_Md_up ⟨Nat.le_of_ble_eq_true rfl, Nat.le_of_ble_eq_true rfl⟩) hNw hK hP hD hS hA (ci := 7) rfl rfl rfl [0, 1, 2, 3, 4, 5, 6, 7, 8, 9, 10, 11, 12, 13, 14, 15, 16, 17, 18, 19, 20, 21, 22, 23] [] rfl rfl rfl rfl rfl (by decide +kernel) (by decide +kernel) rfl hl.1 rfl (Nat.le_of_ble_eq_true rfl) rfl d_Md_isNested_4 ⟨Nat.zero_le _, Nat.zero_le _⟩ (fun H locs hP hD hS => ?_)
  refine lv_istore_n (lv' := [(3, .int y4), (2, .int (0 : Int32)), (0, .ref (a 0)), (1, .int x1)]) hx hb d_Md_isNested_7 rfl hl (by decide) rfl (fun ls hl => ?_)
  exact L8 x1 N ((0 : Int32), y4) _ _ _ h hP hD hS (lv_sub hl [2, 3, 1, 0] rfl)
set_option maxHeartbeats 4000000 in
set_option maxRecDepth 100000 in
theorem c_Md_judge (l : Launch) (dC : Nat → ClassId) (dI : Nat → Nat → Nat) (cI cJ cZ : ClassId) (a : Nat → Nat) (N : Nat) (x1 : Int32) (mb : MbS) (mg : MgS) (mx : MxS) (mf : MfS) (res : MfS) (h : f_Md_judge N x1 mb mg mx mf = some res) :
    Kt l (dC, dI) classes [(cI, .int), (cJ, .long), (cZ, .boolean)] y_Md_judge (wz y_Md_judge b_Md_judge 5 none) { frames := 2, cells := 0, slots := 0, locals := 46 } [.ref (a 0), .int x1] (cMd cI cJ cZ a mb mg mx mf) none (cMd cI cJ cZ a mb mg mx res) := by
  refine Kt_of (cc := b_Md_judge) (maxL := 5) (ret := none) (by decide) (Nat.le_of_ble_eq_true rfl) ?_
  intro p e s m args below meth c A ls hx hb hr hml hlocks hown hts hNw hK hP hD hA hS hl
  have hl : lv_has ls 5 [(0, .ref (a 0)), (1, .int x1)] := hl
  have hP : va_P (dC, dI) classes (cMd cI cJ cZ a mb mg mx mf) s.heap := hP
  have B240 : ∀ (z0_240 : Int32) (z1_240 : Int32) (z2_240 : Int32) (x1_240 : Int32) (x2_240 : Int32) (mf_240 : MfS) (H : Heap) (locs : List Loc) (ls : Array Slot), f_Md_judge_b240 N z0_240 z1_240 z2_240 x1_240 x2_240 mb mg mx mf_240 = some res → va_P (dC, dI) classes (cMd cI cJ cZ a mb mg mx mf_240) H → va_D A (cMd cI cJ cZ a mb mg mx mf_240) → va_S A s.heap H locs → lv_has ls 5 [(0, .ref (a 0)), (1, .int x1_240), (2, .int x2_240)] → W p l e { frames := 2, cells := 0, slots := 0, locals := 46 } s m args below meth c H locs 0 0 (KZ below args s (dC, dI) classes none (cMd cI cJ cZ a mb mg mx res) A) (F0 m 240 ls [.int z0_240, .int z1_240, .int z2_240, .ref (a 0)]) := by
    intro z0_240 z1_240 z2_240 x1_240 x2_240 mf_240 H locs ls h hP hD hS hl
    obtain ⟨y240, hy, h⟩ := o_bd h
    refine kdV (nn := 24) (rest := []) (w' := (cMd cI cJ cZ a mb mg mx y240)) (wr := ([] : va_W)) (st1 := []) ⟨hx, hb, hml, hown, hts⟩ (c_Md_tell l dC dI cI cJ cZ a z2_240 z1_240 z0_240 mb mg mx mf_240 y240 hy) (cwV 3 hts (gd_V tw1017 tw1019 ps60 tw9 tw1020) rfl rfl rfl hd_Md_tell ⟨Nat.le_of_ble_eq_true rfl, Nat.le_of_ble_eq_true rfl⟩) hNw hK hP hD hS hA (ci := 7) rfl rfl rfl [0, 1, 2, 3, 4, 5, 6, 7, 8, 9, 10, 11, 12, 13, 14, 15, 16, 17, 18, 19, 20, 21, 22, 23] [] rfl rfl rfl rfl rfl (by decide +kernel) (by decide +kernel) rfl hl.1 rfl (Nat.le_of_ble_eq_true rfl) rfl d_Md_judge_240 ⟨Nat.zero_le _, Nat.zero_le _⟩ (fun H locs hP hD hS => ?_)
    refine lv_aload_n hx hb d_Md_judge_243 rfl (lv_at hl 0 rfl) ?_
    refine va_get (D := (dC, dI)) (ci := 7) (v := .ref (a 16)) (C := R_Md) (T := F_Md) (N := 35) hx hb hts inb_Md hown hK hP 0 rfl rfl 24 (by decide) (hts _ tw711) (fun _ h9 => h9) rfl d_Md_judge_244 ?_
    refine lv_iload_n hx hb d_Md_judge_247 rfl (lv_at hl 1 rfl) ?_
    obtain ⟨hin, h⟩ := o_in h
    refine va_zald hx hb hK hP 16 2 rfl rfl hin d_Md_judge_248 ?_
    refine lv_if_eq (tgt := 295) hx hb d_Md_judge_249 (by decide) (fun hc => ?_) (fun hc => ?_)
    · have h := o_t hc h
      cases h
      exact kr_v hx hb hr hlocks hP hD hS d_Md_judge_295
    · have h := o_f hc h
      refine lv_aload_n hx hb d_Md_judge_252 rfl (lv_at hl 0 rfl) ?_
      refine va_get (D := (dC, dI)) (ci := 7) (v := .ref (a 19)) (C := R_Md) (T := F_Md) (N := 35) hx hb hts inb_Md hown hK hP 0 rfl rfl 27 (by decide) (hts _ tw714) (fun _ h9 => h9) rfl d_Md_judge_253 ?_
      refine lv_iload_n hx hb d_Md_judge_256 rfl (lv_at hl 1 rfl) ?_
      obtain ⟨hin, h⟩ := o_in h
      refine va_zald hx hb hK hP 19 2 rfl rfl hin d_Md_judge_257 ?_
      refine lv_if_ne (tgt := 295) hx hb d_Md_judge_258 (by decide) (fun hc => ?_) (fun hc => ?_)
      · have h := o_f hc h
        cases h
        exact kr_v hx hb hr hlocks hP hD hS d_Md_judge_295
      · have h := o_t hc h
        refine lv_iload_n hx hb d_Md_judge_261 rfl (lv_at hl 2 rfl) ?_
        refine lv_iconst (v := -1) hx hb d_Md_judge_262 (by decide) ?_
        refine lv_icmp_eq (tgt := 295) hx hb d_Md_judge_263 (by decide) (fun hc => ?_) (fun hc => ?_)
        · have h := o_t hc h
          cases h
          exact kr_v hx hb hr hlocks hP hD hS d_Md_judge_295
        · have h := o_f hc h
          refine lv_aload_n hx hb d_Md_judge_266 rfl (lv_at hl 0 rfl) ?_
          refine va_get (D := (dC, dI)) (ci := 7) (v := .ref (a 19)) (C := R_Md) (T := F_Md) (N := 35) hx hb hts inb_Md hown hK hP 0 rfl rfl 27 (by decide) (hts _ tw714) (fun _ h9 => h9) rfl d_Md_judge_267 ?_
          refine lv_iload_n hx hb d_Md_judge_270 rfl (lv_at hl 2 rfl) ?_
          obtain ⟨hin, h⟩ := o_in h
          refine va_zald hx hb hK hP 19 2 rfl rfl hin d_Md_judge_271 ?_
          refine lv_if_eq (tgt := 295) hx hb d_Md_judge_272 (by decide) (fun hc => ?_) (fun hc => ?_)
          · have h := o_t hc h
            cases h
            exact kr_v hx hb hr hlocks hP hD hS d_Md_judge_295
          · have h := o_f hc h
            refine lv_aload_n hx hb d_Md_judge_275 rfl (lv_at hl 0 rfl) ?_
            refine va_get (D := (dC, dI)) (ci := 7) (v := .ref (a 23)) (C := R_Md) (T := F_Md) (N := 35) hx hb hts inb_Md hown hK hP 0 rfl rfl 34 (by decide) (hts _ tw721) (fun _ h9 => h9) rfl d_Md_judge_276 ?_
            refine lv_aload_n hx hb d_Md_judge_279 rfl (lv_at hl 0 rfl) ?_
            refine va_get (D := (dC, dI)) (ci := 7) (v := .int (Mf_noted y240)) (C := R_Md) (T := F_Md) (N := 35) hx hb hts inb_Md hown hK hP 0 rfl rfl 33 (by decide) (hts _ tw720) (fun _ h9 => h9) rfl d_Md_judge_280 ?_
            refine lv_iload_n hx hb d_Md_judge_283 rfl (lv_at hl 1 rfl) ?_
            obtain ⟨hin, h⟩ := o_in h
            refine va_iast hx hb hK hP hD hS 23 0 rfl rfl hin d_Md_judge_284 (fun H locs hP hD hS => ?_)
            have hP : va_P (dC, dI) classes (cMd cI cJ cZ a mb mg mx ((Mf_faults y240), (Mf_faultKind y240), (Mf_faultNode y240), (Mf_noted y240), (upd (Mf_notes y240) (Mf_noted y240).toNatClampNeg x1_240))) H := hP
            have hD : va_D A (cMd cI cJ cZ a mb mg mx ((Mf_faults y240), (Mf_faultKind y240), (Mf_faultNode y240), (Mf_noted y240), (upd (Mf_notes y240) (Mf_noted y240).toNatClampNeg x1_240))) := hD
            refine lv_aload_n hx hb d_Md_judge_285 rfl (lv_at hl 0 rfl) ?_
            refine lv_dup hx hb d_Md_judge_286 rfl ?_
            refine va_get (D := (dC, dI)) (ci := 7) (v := .int (Mf_noted y240)) (C := R_Md) (T := F_Md) (N := 35) hx hb hts inb_Md hown hK hP 0 rfl rfl 33 (by decide) (hts _ tw720) (fun _ h9 => h9) rfl d_Md_judge_287 ?_
            refine lv_iconst (v := 1) hx hb d_Md_judge_290 (by decide) ?_
            refine lv_iadd hx hb d_Md_judge_291 ?_
            refine va_put (D := (dC, dI)) (ci := 7) (v := .int ((Mf_noted y240) + (1 : Int32))) (ty := .int) (C := R_Md) (T := F_Md) (N := 35) hx hb hts inb_Md ft_Md ft_Md_ok n_Md hown hK hP hD hS 0 rfl rfl 33 (by decide) (hts _ tw720) (fun _ h9 => h9) rfl (by decide +kernel) rfl rfl (Nat.le_of_ble_eq_true rfl) d_Md_judge_292 (fun H locs hP hD hS => ?_)
            have hP : va_P (dC, dI) classes (cMd cI cJ cZ a mb mg mx ((Mf_faults y240), (Mf_faultKind y240), (Mf_faultNode y240), ((Mf_noted y240) + (1 : Int32)), (upd (Mf_notes y240) (Mf_noted y240).toNatClampNeg x1_240))) H := hP
            have hD : va_D A (cMd cI cJ cZ a mb mg mx ((Mf_faults y240), (Mf_faultKind y240), (Mf_faultNode y240), ((Mf_noted y240) + (1 : Int32)), (upd (Mf_notes y240) (Mf_noted y240).toNatClampNeg x1_240))) := hD
            cases h
            exact kr_v hx hb hr hlocks hP hD hS d_Md_judge_295
  have B239 : ∀ (z0_239 : Int32) (z1_239 : Int32) (x1_239 : Int32) (x2_239 : Int32) (mf_239 : MfS) (H : Heap) (locs : List Loc) (ls : Array Slot), f_Md_judge_b239 N z0_239 z1_239 x1_239 x2_239 mb mg mx mf_239 = some res → va_P (dC, dI) classes (cMd cI cJ cZ a mb mg mx mf_239) H → va_D A (cMd cI cJ cZ a mb mg mx mf_239) → va_S A s.heap H locs → lv_has ls 5 [(0, .ref (a 0)), (1, .int x1_239), (2, .int x2_239)] → W p l e { frames := 2, cells := 0, slots := 0, locals := 46 } s m args below meth c H locs 0 0 (KZ below args s (dC, dI) classes none (cMd cI cJ cZ a mb mg mx res) A) (F0 m 239 ls [.int z0_239, .int z1_239, .ref (a 0)]) := by
    intro z0_239 z1_239 x1_239 x2_239 mf_239 H locs ls h hP hD hS hl
    refine lv_iconst (v := 0) hx hb d_Md_judge_239 (by decide) ?_
    exact B240 (0 : Int32) z0_239 z1_239 x1_239 x2_239 mf_239 _ _ _ h hP hD hS (lv_sub hl [0, 1, 2] rfl)
  have B210 : ∀ (z0_210 : Int32) (z1_210 : Int32) (z2_210 : Int32) (x1_210 : Int32) (x2_210 : Int32) (mf_210 : MfS) (H : Heap) (locs : List Loc) (ls : Array Slot), f_Md_judge_b210 N z0_210 z1_210 z2_210 x1_210 x2_210 mb mg mx mf_210 = some res → va_P (dC, dI) classes (cMd cI cJ cZ a mb mg mx mf_210) H → va_D A (cMd cI cJ cZ a mb mg mx mf_210) → va_S A s.heap H locs → lv_has ls 5 [(0, .ref (a 0)), (1, .int x1_210), (2, .int x2_210)] → W p l e { frames := 2, cells := 0, slots := 0, locals := 46 } s m args below meth c H locs 0 0 (KZ below args s (dC, dI) classes none (cMd cI cJ cZ a mb mg mx res) A) (F0 m 210 ls [.int z0_210, .int z1_210, .int z2_210, .ref (a 0)]) := by
    intro z0_210 z1_210 z2_210 x1_210 x2_210 mf_210 H locs ls h hP hD hS hl
    obtain ⟨y210, hy, h⟩ := o_bd h
    refine kdV (nn := 24) (rest := []) (w' := (cMd cI cJ cZ a mb mg mx y210)) (wr := ([] : va_W)) (st1 := []) ⟨hx, hb, hml, hown, hts⟩ (c_Md_tell l dC dI cI cJ cZ a z2_210 z1_210 z0_210 mb mg mx mf_210 y210 hy) (cwV 3 hts (gd_V tw1017 tw1019 ps60 tw9 tw1020) rfl rfl rfl hd_Md_tell ⟨Nat.le_of_ble_eq_true rfl, Nat.le_of_ble_eq_true rfl⟩) hNw hK hP hD hS hA (ci := 7) rfl rfl rfl [0, 1, 2, 3, 4, 5, 6, 7, 8, 9, 10, 11, 12, 13, 14, 15, 16, 17, 18, 19, 20, 21, 22, 23] [] rfl rfl rfl rfl rfl (by decide +kernel) (by decide +kernel) rfl hl.1 rfl (Nat.le_of_ble_eq_true rfl) rfl d_Md_judge_210 ⟨Nat.zero_le _, Nat.zero_le _⟩ (fun H locs hP hD hS => ?_)
    refine lv_aload_n hx hb d_Md_judge_213 rfl (lv_at hl 0 rfl) ?_
    refine lv_iconst (v := 5) hx hb d_Md_judge_214 (by decide) ?_
    refine lv_iload_n hx hb d_Md_judge_215 rfl (lv_at hl 1 rfl) ?_
    refine lv_aload_n hx hb d_Md_judge_216 rfl (lv_at hl 0 rfl) ?_
    refine va_get (D := (dC, dI)) (ci := 7) (v := .ref (a 2)) (C := R_Md) (T := F_Md) (N := 35) hx hb hts inb_Md hown hK hP 0 rfl rfl 3 (by decide) (hts _ tw690) (fun _ h9 => h9) rfl d_Md_judge_217 ?_
    refine lv_iload_n hx hb d_Md_judge_220 rfl (lv_at hl 1 rfl) ?_
    obtain ⟨hin, h⟩ := o_in h
    refine va_iald hx hb hK hP 2 0 rfl rfl hin d_Md_judge_221 ?_
    refine lv_bipush (v := 12) hx hb d_Md_judge_222 (by decide) ?_
    refine lv_icmp_ne (tgt := 239) hx hb d_Md_judge_224 (by decide) (fun hc => ?_) (fun hc => ?_)
    · have h := o_f hc h
      exact B239 x1_210 (5 : Int32) x1_210 x2_210 y210 _ _ _ h hP hD hS (lv_sub hl [0, 1, 2] rfl)
    · have h := o_t hc h
      refine lv_aload_n hx hb d_Md_judge_227 rfl (lv_at hl 0 rfl) ?_
      refine lv_iload_n hx hb d_Md_judge_228 rfl (lv_at hl 1 rfl) ?_
      obtain ⟨y229, hy, h⟩ := o_bd h
      refine kdV (nn := 24) (rest := [.int x1_210, .int (5 : Int32), .ref (a 0)]) (w' := (cMd cI cJ cZ a mb mg mx y210)) (wr := ([] : va_W)) (st1 := [.int y229, .int x1_210, .int (5 : Int32), .ref (a 0)]) ⟨hx, hb, hml, hown, hts⟩ (c_Md_isNested l dC dI cI cJ cZ a N x1_210 mb mg mx y210 y229 hy) (cwV 1 hts (gd_V tw1021 tw1023 ps61 tw9 tw1024) rfl rfl rfl hd_Md_isNested ⟨Nat.le_of_ble_eq_true rfl, Nat.le_of_ble_eq_true rfl⟩) hNw hK hP hD hS hA (ci := 7) rfl rfl rfl [0, 1, 2, 3, 4, 5, 6, 7, 8, 9, 10, 11, 12, 13, 14, 15, 16, 17, 18, 19, 20, 21, 22, 23] [] rfl rfl rfl rfl rfl (by decide +kernel) (by decide +kernel) rfl hl.1 rfl (Nat.le_of_ble_eq_true rfl) rfl d_Md_judge_229 ⟨Nat.zero_le _, Nat.zero_le _⟩ (fun H locs hP hD hS => ?_)
      refine lv_if_eq (tgt := 239) hx hb d_Md_judge_232 (by decide) (fun hc => ?_) (fun hc => ?_)
      · have h := o_t hc h
        exact B239 x1_210 (5 : Int32) x1_210 x2_210 y210 _ _ _ h hP hD hS (lv_sub hl [0, 1, 2] rfl)
      · have h := o_f hc h
        refine lv_iconst (v := 1) hx hb d_Md_judge_235 (by decide) ?_
        refine lv_goto (tgt := 240) hx hb d_Md_judge_236 (by decide) ?_
        exact B240 (1 : Int32) x1_210 (5 : Int32) x1_210 x2_210 y210 _ _ _ h hP hD hS (lv_sub hl [0, 1, 2] rfl)
  have B209 : ∀ (z0_209 : Int32) (z1_209 : Int32) (x1_209 : Int32) (x2_209 : Int32) (mf_209 : MfS) (H : Heap) (locs : List Loc) (ls : Array Slot), f_Md_judge_b209 N z0_209 z1_209 x1_209 x2_209 mb mg mx mf_209 = some res → va_P (dC, dI) classes (cMd cI cJ cZ a mb mg mx mf_209) H → va_D A (cMd cI cJ cZ a mb mg mx mf_209) → va_S A s.heap H locs → lv_has ls 5 [(0, .ref (a 0)), (1, .int x1_209), (2, .int x2_209)] → W p l e { frames := 2, cells := 0, slots := 0, locals := 46 } s m args below meth c H locs 0 0 (KZ below args s (dC, dI) classes none (cMd cI cJ cZ a mb mg mx res) A) (F0 m 209 ls [.int z0_209, .int z1_209, .ref (a 0)]) := by
    intro z0_209 z1_209 x1_209 x2_209 mf_209 H locs ls h hP hD hS hl
    refine lv_iconst (v := 0) hx hb d_Md_judge_209 (by decide) ?_
    exact B210 (0 : Int32) z0_209 z1_209 x1_209 x2_209 mf_209 _ _ _ h hP hD hS (lv_sub hl [0, 1, 2] rfl)
  have B195 : ∀ (z0_195 : Int32) (z1_195 : Int32) (x1_195 : Int32) (x2_195 : Int32) (mf_195 : MfS) (H : Heap) (locs : List Loc) (ls : Array Slot), f_Md_judge_b195 N z0_195 z1_195 x1_195 x2_195 mb mg mx mf_195 = some res → va_P (dC, dI) classes (cMd cI cJ cZ a mb mg mx mf_195) H → va_D A (cMd cI cJ cZ a mb mg mx mf_195) → va_S A s.heap H locs → lv_has ls 5 [(0, .ref (a 0)), (1, .int x1_195), (2, .int x2_195)] → W p l e { frames := 2, cells := 0, slots := 0, locals := 46 } s m args below meth c H locs 0 0 (KZ below args s (dC, dI) classes none (cMd cI cJ cZ a mb mg mx res) A) (F0 m 195 ls [.int z0_195, .int z1_195, .ref (a 0)]) := by
    intro z0_195 z1_195 x1_195 x2_195 mf_195 H locs ls h hP hD hS hl
    refine lv_aload_n hx hb d_Md_judge_195 rfl (lv_at hl 0 rfl) ?_
    refine va_get (D := (dC, dI)) (ci := 7) (v := .ref (a 15)) (C := R_Md) (T := F_Md) (N := 35) hx hb hts inb_Md hown hK hP 0 rfl rfl 23 (by decide) (hts _ tw710) (fun _ h9 => h9) rfl d_Md_judge_196 ?_
    refine lv_iload_n hx hb d_Md_judge_199 rfl (lv_at hl 1 rfl) ?_
    obtain ⟨hin, h⟩ := o_in h
    refine va_iald hx hb hK hP 15 0 rfl rfl hin d_Md_judge_200 ?_
    refine lv_iconst (v := -1) hx hb d_Md_judge_201 (by decide) ?_
    refine lv_icmp_ne (tgt := 209) hx hb d_Md_judge_202 (by decide) (fun hc => ?_) (fun hc => ?_)
    · have h := o_f hc h
      exact B209 z0_195 z1_195 x1_195 x2_195 mf_195 _ _ _ h hP hD hS (lv_sub hl [0, 1, 2] rfl)
    · have h := o_t hc h
      refine lv_iconst (v := 1) hx hb d_Md_judge_205 (by decide) ?_
      refine lv_goto (tgt := 210) hx hb d_Md_judge_206 (by decide) ?_
      exact B210 (1 : Int32) z0_195 z1_195 x1_195 x2_195 mf_195 _ _ _ h hP hD hS (lv_sub hl [0, 1, 2] rfl)
  have B170 : ∀ (x1_170 : Int32) (x2_170 : Int32) (mf_170 : MfS) (H : Heap) (locs : List Loc) (ls : Array Slot), f_Md_judge_b170 N x1_170 x2_170 mb mg mx mf_170 = some res → va_P (dC, dI) classes (cMd cI cJ cZ a mb mg mx mf_170) H → va_D A (cMd cI cJ cZ a mb mg mx mf_170) → va_S A s.heap H locs → lv_has ls 5 [(0, .ref (a 0)), (1, .int x1_170), (2, .int x2_170)] → W p l e { frames := 2, cells := 0, slots := 0, locals := 46 } s m args below meth c H locs 0 0 (KZ below args s (dC, dI) classes none (cMd cI cJ cZ a mb mg mx res) A) (F0 m 170 ls []) := by
    intro x1_170 x2_170 mf_170 H locs ls h hP hD hS hl
    refine lv_aload_n hx hb d_Md_judge_170 rfl (lv_at hl 0 rfl) ?_
    refine lv_iconst (v := 2) hx hb d_Md_judge_171 (by decide) ?_
    refine lv_iload_n hx hb d_Md_judge_172 rfl (lv_at hl 1 rfl) ?_
    refine lv_aload_n hx hb d_Md_judge_173 rfl (lv_at hl 0 rfl) ?_
    refine va_get (D := (dC, dI)) (ci := 7) (v := .ref (a 2)) (C := R_Md) (T := F_Md) (N := 35) hx hb hts inb_Md hown hK hP 0 rfl rfl 3 (by decide) (hts _ tw690) (fun _ h9 => h9) rfl d_Md_judge_174 ?_
    refine lv_iload_n hx hb d_Md_judge_177 rfl (lv_at hl 1 rfl) ?_
    obtain ⟨hin, h⟩ := o_in h
    refine va_iald hx hb hK hP 2 0 rfl rfl hin d_Md_judge_178 ?_
    refine lv_bipush (v := 10) hx hb d_Md_judge_179 (by decide) ?_
    refine lv_icmp_eq (tgt := 195) hx hb d_Md_judge_181 (by decide) (fun hc => ?_) (fun hc => ?_)
    · have h := o_t hc h
      exact B195 x1_170 (2 : Int32) x1_170 x2_170 mf_170 _ _ _ h hP hD hS (lv_sub hl [0, 1, 2] rfl)
    · have h := o_f hc h
      refine lv_aload_n hx hb d_Md_judge_184 rfl (lv_at hl 0 rfl) ?_
      refine va_get (D := (dC, dI)) (ci := 7) (v := .ref (a 2)) (C := R_Md) (T := F_Md) (N := 35) hx hb hts inb_Md hown hK hP 0 rfl rfl 3 (by decide) (hts _ tw690) (fun _ h9 => h9) rfl d_Md_judge_185 ?_
      refine lv_iload_n hx hb d_Md_judge_188 rfl (lv_at hl 1 rfl) ?_
      obtain ⟨hin, h⟩ := o_in h
      refine va_iald hx hb hK hP 2 0 rfl rfl hin d_Md_judge_189 ?_
      refine lv_bipush (v := 11) hx hb d_Md_judge_190 (by decide) ?_
      refine lv_icmp_ne (tgt := 209) hx hb d_Md_judge_192 (by decide) (fun hc => ?_) (fun hc => ?_)
      · have h := o_f hc h
        exact B209 x1_170 (2 : Int32) x1_170 x2_170 mf_170 _ _ _ h hP hD hS (lv_sub hl [0, 1, 2] rfl)
      · have h := o_t hc h
        exact B195 x1_170 (2 : Int32) x1_170 x2_170 mf_170 _ _ _ h hP hD hS (lv_sub hl [0, 1, 2] rfl)
  have B57 : ∀ (z0_57 : Int32) (z1_57 : Int32) (z2_57 : Int32) (x1_57 : Int32) (x2_57 : Int32) (mf_57 : MfS) (H : Heap) (locs : List Loc) (ls : Array Slot), f_Md_judge_b57 N z0_57 z1_57 z2_57 x1_57 x2_57 mb mg mx mf_57 = some res → va_P (dC, dI) classes (cMd cI cJ cZ a mb mg mx mf_57) H → va_D A (cMd cI cJ cZ a mb mg mx mf_57) → va_S A s.heap H locs → lv_has ls 5 [(0, .ref (a 0)), (1, .int x1_57), (2, .int x2_57)] → W p l e { frames := 2, cells := 0, slots := 0, locals := 46 } s m args below meth c H locs 0 0 (KZ below args s (dC, dI) classes none (cMd cI cJ cZ a mb mg mx res) A) (F0 m 57 ls [.int z0_57, .int z1_57, .int z2_57, .ref (a 0)]) := by
    intro z0_57 z1_57 z2_57 x1_57 x2_57 mf_57 H locs ls h hP hD hS hl
    obtain ⟨y57, hy, h⟩ := o_bd h
    refine kdV (nn := 24) (rest := []) (w' := (cMd cI cJ cZ a mb mg mx y57)) (wr := ([] : va_W)) (st1 := []) ⟨hx, hb, hml, hown, hts⟩ (c_Md_tell l dC dI cI cJ cZ a z2_57 z1_57 z0_57 mb mg mx mf_57 y57 hy) (cwV 3 hts (gd_V tw1017 tw1019 ps60 tw9 tw1020) rfl rfl rfl hd_Md_tell ⟨Nat.le_of_ble_eq_true rfl, Nat.le_of_ble_eq_true rfl⟩) hNw hK hP hD hS hA (ci := 7) rfl rfl rfl [0, 1, 2, 3, 4, 5, 6, 7, 8, 9, 10, 11, 12, 13, 14, 15, 16, 17, 18, 19, 20, 21, 22, 23] [] rfl rfl rfl rfl rfl (by decide +kernel) (by decide +kernel) rfl hl.1 rfl (Nat.le_of_ble_eq_true rfl) rfl d_Md_judge_57 ⟨Nat.zero_le _, Nat.zero_le _⟩ (fun H locs hP hD hS => ?_)
    refine lv_goto (tgt := 170) hx hb d_Md_judge_60 (by decide) ?_
    exact B170 x1_57 x2_57 y57 _ _ _ h hP hD hS (lv_sub hl [0, 1, 2] rfl)
  have B56 : ∀ (z0_56 : Int32) (z1_56 : Int32) (x1_56 : Int32) (x2_56 : Int32) (mf_56 : MfS) (H : Heap) (locs : List Loc) (ls : Array Slot), f_Md_judge_b56 N z0_56 z1_56 x1_56 x2_56 mb mg mx mf_56 = some res → va_P (dC, dI) classes (cMd cI cJ cZ a mb mg mx mf_56) H → va_D A (cMd cI cJ cZ a mb mg mx mf_56) → va_S A s.heap H locs → lv_has ls 5 [(0, .ref (a 0)), (1, .int x1_56), (2, .int x2_56)] → W p l e { frames := 2, cells := 0, slots := 0, locals := 46 } s m args below meth c H locs 0 0 (KZ below args s (dC, dI) classes none (cMd cI cJ cZ a mb mg mx res) A) (F0 m 56 ls [.int z0_56, .int z1_56, .ref (a 0)]) := by
    intro z0_56 z1_56 x1_56 x2_56 mf_56 H locs ls h hP hD hS hl
    refine lv_iconst (v := 0) hx hb d_Md_judge_56 (by decide) ?_
    exact B57 (0 : Int32) z0_56 z1_56 x1_56 x2_56 mf_56 _ _ _ h hP hD hS (lv_sub hl [0, 1, 2] rfl)
  have B167 : ∀ (z0_167 : Int32) (z1_167 : Int32) (z2_167 : Int32) (x1_167 : Int32) (x2_167 : Int32) (mf_167 : MfS) (H : Heap) (locs : List Loc) (ls : Array Slot), f_Md_judge_b167 N z0_167 z1_167 z2_167 x1_167 x2_167 mb mg mx mf_167 = some res → va_P (dC, dI) classes (cMd cI cJ cZ a mb mg mx mf_167) H → va_D A (cMd cI cJ cZ a mb mg mx mf_167) → va_S A s.heap H locs → lv_has ls 5 [(0, .ref (a 0)), (1, .int x1_167), (2, .int x2_167)] → W p l e { frames := 2, cells := 0, slots := 0, locals := 46 } s m args below meth c H locs 0 0 (KZ below args s (dC, dI) classes none (cMd cI cJ cZ a mb mg mx res) A) (F0 m 167 ls [.int z0_167, .int z1_167, .int z2_167, .ref (a 0)]) := by
    intro z0_167 z1_167 z2_167 x1_167 x2_167 mf_167 H locs ls h hP hD hS hl
    obtain ⟨y167, hy, h⟩ := o_bd h
    refine kdV (nn := 24) (rest := []) (w' := (cMd cI cJ cZ a mb mg mx y167)) (wr := ([] : va_W)) (st1 := []) ⟨hx, hb, hml, hown, hts⟩ (c_Md_tell l dC dI cI cJ cZ a z2_167 z1_167 z0_167 mb mg mx mf_167 y167 hy) (cwV 3 hts (gd_V tw1017 tw1019 ps60 tw9 tw1020) rfl rfl rfl hd_Md_tell ⟨Nat.le_of_ble_eq_true rfl, Nat.le_of_ble_eq_true rfl⟩) hNw hK hP hD hS hA (ci := 7) rfl rfl rfl [0, 1, 2, 3, 4, 5, 6, 7, 8, 9, 10, 11, 12, 13, 14, 15, 16, 17, 18, 19, 20, 21, 22, 23] [] rfl rfl rfl rfl rfl (by decide +kernel) (by decide +kernel) rfl hl.1 rfl (Nat.le_of_ble_eq_true rfl) rfl d_Md_judge_167 ⟨Nat.zero_le _, Nat.zero_le _⟩ (fun H locs hP hD hS => ?_)
    exact B170 x1_167 x2_167 y167 _ _ _ h hP hD hS (lv_sub hl [0, 1, 2] rfl)
  have B166 : ∀ (z0_166 : Int32) (z1_166 : Int32) (x1_166 : Int32) (x2_166 : Int32) (mf_166 : MfS) (H : Heap) (locs : List Loc) (ls : Array Slot), f_Md_judge_b166 N z0_166 z1_166 x1_166 x2_166 mb mg mx mf_166 = some res → va_P (dC, dI) classes (cMd cI cJ cZ a mb mg mx mf_166) H → va_D A (cMd cI cJ cZ a mb mg mx mf_166) → va_S A s.heap H locs → lv_has ls 5 [(0, .ref (a 0)), (1, .int x1_166), (2, .int x2_166)] → W p l e { frames := 2, cells := 0, slots := 0, locals := 46 } s m args below meth c H locs 0 0 (KZ below args s (dC, dI) classes none (cMd cI cJ cZ a mb mg mx res) A) (F0 m 166 ls [.int z0_166, .int z1_166, .ref (a 0)]) := by
    intro z0_166 z1_166 x1_166 x2_166 mf_166 H locs ls h hP hD hS hl
    refine lv_iconst (v := 0) hx hb d_Md_judge_166 (by decide) ?_
    exact B167 (0 : Int32) z0_166 z1_166 x1_166 x2_166 mf_166 _ _ _ h hP hD hS (lv_sub hl [0, 1, 2] rfl)
  have B129 : ∀ (z0_129 : Int32) (x1_129 : Int32) (x2_129 : Int32) (mf_129 : MfS) (H : Heap) (locs : List Loc) (ls : Array Slot), f_Md_judge_b129 N z0_129 x1_129 x2_129 mb mg mx mf_129 = some res → va_P (dC, dI) classes (cMd cI cJ cZ a mb mg mx mf_129) H → va_D A (cMd cI cJ cZ a mb mg mx mf_129) → va_S A s.heap H locs → lv_has ls 5 [(0, .ref (a 0)), (1, .int x1_129), (2, .int x2_129)] → W p l e { frames := 2, cells := 0, slots := 0, locals := 46 } s m args below meth c H locs 0 0 (KZ below args s (dC, dI) classes none (cMd cI cJ cZ a mb mg mx res) A) (F0 m 129 ls [.int z0_129]) := by
    intro z0_129 x1_129 x2_129 mf_129 H locs ls h hP hD hS hl
    refine lv_istore (lv' := [(4, .int z0_129), (0, .ref (a 0)), (1, .int x1_129), (2, .int x2_129)]) hx hb d_Md_judge_129 hl (by decide) rfl (fun ls hl => ?_)
    refine lv_aload_n hx hb d_Md_judge_131 rfl (lv_at hl 1 rfl) ?_
    refine lv_iconst (v := 1) hx hb d_Md_judge_132 (by decide) ?_
    refine lv_iload_n hx hb d_Md_judge_133 rfl (lv_at hl 2 rfl) ?_
    refine lv_iload_n hx hb d_Md_judge_134 rfl (lv_at hl 3 rfl) ?_
    refine lv_iconst (v := -1) hx hb d_Md_judge_135 (by decide) ?_
    refine lv_icmp_eq (tgt := 166) hx hb d_Md_judge_136 (by decide) (fun hc => ?_) (fun hc => ?_)
    · have h := o_t hc h
      exact B166 x1_129 (1 : Int32) x1_129 x2_129 mf_129 _ _ _ h hP hD hS (lv_sub hl [1, 2, 3] rfl)
    · have h := o_f hc h
      refine lv_aload_n hx hb d_Md_judge_139 rfl (lv_at hl 1 rfl) ?_
      refine va_get (D := (dC, dI)) (ci := 7) (v := .ref (a 16)) (C := R_Md) (T := F_Md) (N := 35) hx hb hts inb_Md hown hK hP 0 rfl rfl 24 (by decide) (hts _ tw711) (fun _ h9 => h9) rfl d_Md_judge_140 ?_
      refine lv_iload_n hx hb d_Md_judge_143 rfl (lv_at hl 2 rfl) ?_
      obtain ⟨hin, h⟩ := o_in h
      refine va_zald hx hb hK hP 16 2 rfl rfl hin d_Md_judge_144 ?_
      refine lv_if_ne (tgt := 166) hx hb d_Md_judge_145 (by decide) (fun hc => ?_) (fun hc => ?_)
      · have h := o_f hc h
        exact B166 x1_129 (1 : Int32) x1_129 x2_129 mf_129 _ _ _ h hP hD hS (lv_sub hl [1, 2, 3] rfl)
      · have h := o_t hc h
        refine lv_aload_n hx hb d_Md_judge_148 rfl (lv_at hl 1 rfl) ?_
        refine va_get (D := (dC, dI)) (ci := 7) (v := .ref (a 16)) (C := R_Md) (T := F_Md) (N := 35) hx hb hts inb_Md hown hK hP 0 rfl rfl 24 (by decide) (hts _ tw711) (fun _ h9 => h9) rfl d_Md_judge_149 ?_
        refine lv_iload_n hx hb d_Md_judge_152 rfl (lv_at hl 3 rfl) ?_
        obtain ⟨hin, h⟩ := o_in h
        refine va_zald hx hb hK hP 16 2 rfl rfl hin d_Md_judge_153 ?_
        refine lv_if_eq (tgt := 166) hx hb d_Md_judge_154 (by decide) (fun hc => ?_) (fun hc => ?_)
        · have h := o_t hc h
          exact B166 x1_129 (1 : Int32) x1_129 x2_129 mf_129 _ _ _ h hP hD hS (lv_sub hl [1, 2, 3] rfl)
        · have h := o_f hc h
          refine lv_iload hx hb d_Md_judge_157 (lv_at hl 0 rfl) ?_
          refine lv_if_eq (tgt := 166) hx hb d_Md_judge_159 (by decide) (fun hc => ?_) (fun hc => ?_)
          · have h := o_t hc h
            exact B166 x1_129 (1 : Int32) x1_129 x2_129 mf_129 _ _ _ h hP hD hS (lv_sub hl [1, 2, 3] rfl)
          · have h := o_f hc h
            refine lv_iconst (v := 1) hx hb d_Md_judge_162 (by decide) ?_
            refine lv_goto (tgt := 167) hx hb d_Md_judge_163 (by decide) ?_
            exact B167 (1 : Int32) x1_129 (1 : Int32) x1_129 x2_129 mf_129 _ _ _ h hP hD hS (lv_sub hl [1, 2, 3] rfl)
  have B124 : ∀ (x1_124 : Int32) (x2_124 : Int32) (mf_124 : MfS) (H : Heap) (locs : List Loc) (ls : Array Slot), f_Md_judge_b124 N x1_124 x2_124 mb mg mx mf_124 = some res → va_P (dC, dI) classes (cMd cI cJ cZ a mb mg mx mf_124) H → va_D A (cMd cI cJ cZ a mb mg mx mf_124) → va_S A s.heap H locs → lv_has ls 5 [(0, .ref (a 0)), (1, .int x1_124), (2, .int x2_124)] → W p l e { frames := 2, cells := 0, slots := 0, locals := 46 } s m args below meth c H locs 0 0 (KZ below args s (dC, dI) classes none (cMd cI cJ cZ a mb mg mx res) A) (F0 m 124 ls []) := by
    intro x1_124 x2_124 mf_124 H locs ls h hP hD hS hl
    refine lv_iconst (v := 1) hx hb d_Md_judge_124 (by decide) ?_
    refine lv_goto (tgt := 129) hx hb d_Md_judge_125 (by decide) ?_
    exact B129 (1 : Int32) x1_124 x2_124 mf_124 _ _ _ h hP hD hS (lv_sub hl [0, 1, 2] rfl)
  have B95 : ∀ (z0_95 : Int32) (x1_95 : Int32) (x2_95 : Int32) (mf_95 : MfS) (H : Heap) (locs : List Loc) (ls : Array Slot), f_Md_judge_b95 N z0_95 x1_95 x2_95 mb mg mx mf_95 = some res → va_P (dC, dI) classes (cMd cI cJ cZ a mb mg mx mf_95) H → va_D A (cMd cI cJ cZ a mb mg mx mf_95) → va_S A s.heap H locs → lv_has ls 5 [(0, .ref (a 0)), (1, .int x1_95), (2, .int x2_95)] → W p l e { frames := 2, cells := 0, slots := 0, locals := 46 } s m args below meth c H locs 0 0 (KZ below args s (dC, dI) classes none (cMd cI cJ cZ a mb mg mx res) A) (F0 m 95 ls [.int z0_95]) := by
    intro z0_95 x1_95 x2_95 mf_95 H locs ls h hP hD hS hl
    refine lv_istore_n (lv' := [(3, .int z0_95), (0, .ref (a 0)), (1, .int x1_95), (2, .int x2_95)]) hx hb d_Md_judge_95 rfl hl (by decide) rfl (fun ls hl => ?_)
    refine lv_iload_n hx hb d_Md_judge_96 rfl (lv_at hl 0 rfl) ?_
    refine lv_if_eq (tgt := 124) hx hb d_Md_judge_97 (by decide) (fun hc => ?_) (fun hc => ?_)
    · have h := o_t hc h
      exact B124 x1_95 x2_95 mf_95 _ _ _ h hP hD hS (lv_sub hl [1, 2, 3] rfl)
    · have h := o_f hc h
      refine lv_aload_n hx hb d_Md_judge_100 rfl (lv_at hl 1 rfl) ?_
      refine va_get (D := (dC, dI)) (ci := 7) (v := .ref (a 9)) (C := R_Md) (T := F_Md) (N := 35) hx hb hts inb_Md hown hK hP 0 rfl rfl 10 (by decide) (hts _ tw697) (fun _ h9 => h9) rfl d_Md_judge_101 ?_
      refine lv_iload_n hx hb d_Md_judge_104 rfl (lv_at hl 2 rfl) ?_
      obtain ⟨hin, h⟩ := o_in h
      refine va_iald hx hb hK hP 9 0 rfl rfl hin d_Md_judge_105 ?_
      refine lv_iconst (v := -1) hx hb d_Md_judge_106 (by decide) ?_
      refine lv_icmp_eq (tgt := 124) hx hb d_Md_judge_107 (by decide) (fun hc => ?_) (fun hc => ?_)
      · have h := o_t hc h
        exact B124 x1_95 x2_95 mf_95 _ _ _ h hP hD hS (lv_sub hl [1, 2, 3] rfl)
      · have h := o_f hc h
        refine lv_aload_n hx hb d_Md_judge_110 rfl (lv_at hl 1 rfl) ?_
        refine va_get (D := (dC, dI)) (ci := 7) (v := .ref (a 16)) (C := R_Md) (T := F_Md) (N := 35) hx hb hts inb_Md hown hK hP 0 rfl rfl 24 (by decide) (hts _ tw711) (fun _ h9 => h9) rfl d_Md_judge_111 ?_
        refine lv_aload_n hx hb d_Md_judge_114 rfl (lv_at hl 1 rfl) ?_
        refine va_get (D := (dC, dI)) (ci := 7) (v := .ref (a 9)) (C := R_Md) (T := F_Md) (N := 35) hx hb hts inb_Md hown hK hP 0 rfl rfl 10 (by decide) (hts _ tw697) (fun _ h9 => h9) rfl d_Md_judge_115 ?_
        refine lv_iload_n hx hb d_Md_judge_118 rfl (lv_at hl 2 rfl) ?_
        obtain ⟨hin, h⟩ := o_in h
        refine va_iald hx hb hK hP 9 0 rfl rfl hin d_Md_judge_119 ?_
        obtain ⟨hin, h⟩ := o_in h
        refine va_zald hx hb hK hP 16 2 rfl rfl hin d_Md_judge_120 ?_
        refine lv_if_eq (tgt := 128) hx hb d_Md_judge_121 (by decide) (fun hc => ?_) (fun hc => ?_)
        · have h := o_t hc h
          refine lv_iconst (v := 0) hx hb d_Md_judge_128 (by decide) ?_
          exact B129 (0 : Int32) x1_95 x2_95 mf_95 _ _ _ h hP hD hS (lv_sub hl [1, 2, 3] rfl)
        · have h := o_f hc h
          exact B124 x1_95 x2_95 mf_95 _ _ _ h hP hD hS (lv_sub hl [1, 2, 3] rfl)
  have B90 : ∀ (x1_90 : Int32) (x2_90 : Int32) (mf_90 : MfS) (H : Heap) (locs : List Loc) (ls : Array Slot), f_Md_judge_b90 N x1_90 x2_90 mb mg mx mf_90 = some res → va_P (dC, dI) classes (cMd cI cJ cZ a mb mg mx mf_90) H → va_D A (cMd cI cJ cZ a mb mg mx mf_90) → va_S A s.heap H locs → lv_has ls 5 [(0, .ref (a 0)), (1, .int x1_90), (2, .int x2_90)] → W p l e { frames := 2, cells := 0, slots := 0, locals := 46 } s m args below meth c H locs 0 0 (KZ below args s (dC, dI) classes none (cMd cI cJ cZ a mb mg mx res) A) (F0 m 90 ls []) := by
    intro x1_90 x2_90 mf_90 H locs ls h hP hD hS hl
    refine lv_iconst (v := 1) hx hb d_Md_judge_90 (by decide) ?_
    refine lv_goto (tgt := 95) hx hb d_Md_judge_91 (by decide) ?_
    exact B95 (1 : Int32) x1_90 x2_90 mf_90 _ _ _ h hP hD hS (lv_sub hl [0, 1, 2] rfl)
  have B94 : ∀ (x1_94 : Int32) (x2_94 : Int32) (mf_94 : MfS) (H : Heap) (locs : List Loc) (ls : Array Slot), f_Md_judge_b94 N x1_94 x2_94 mb mg mx mf_94 = some res → va_P (dC, dI) classes (cMd cI cJ cZ a mb mg mx mf_94) H → va_D A (cMd cI cJ cZ a mb mg mx mf_94) → va_S A s.heap H locs → lv_has ls 5 [(0, .ref (a 0)), (1, .int x1_94), (2, .int x2_94)] → W p l e { frames := 2, cells := 0, slots := 0, locals := 46 } s m args below meth c H locs 0 0 (KZ below args s (dC, dI) classes none (cMd cI cJ cZ a mb mg mx res) A) (F0 m 94 ls []) := by
    intro x1_94 x2_94 mf_94 H locs ls h hP hD hS hl
    refine lv_iconst (v := 0) hx hb d_Md_judge_94 (by decide) ?_
    exact B95 (0 : Int32) x1_94 x2_94 mf_94 _ _ _ h hP hD hS (lv_sub hl [0, 1, 2] rfl)
  refine lv_aload_n hx hb d_Md_judge_0 rfl (lv_at hl 0 rfl) ?_
  refine lv_iload_n hx hb d_Md_judge_1 rfl (lv_at hl 1 rfl) ?_
  obtain ⟨y2, hy, h⟩ := o_bd h
  refine kdV (nn := 24) (rest := []) (w' := (cMd cI cJ cZ a mb mg mx mf)) (wr := ([] : va_W)) (st1 := [.int y2]) ⟨hx, hb, hml, hown, hts⟩ (c_Md_up l dC dI cI cJ cZ a x1 mb mg mx mf y2 hy) (cwV 1 hts (gd_V tw893 tw895 ps29 tw9 tw896) rfl rfl rfl hd_Md_up ⟨Nat.le_of_ble_eq_true rfl, Nat.le_of_ble_eq_true rfl⟩) hNw hK hP hD hS hA (ci := 7) rfl rfl rfl [0, 1, 2, 3, 4, 5, 6, 7, 8, 9, 10, 11, 12, 13, 14, 15, 16, 17, 18, 19, 20, 21, 22, 23] [] rfl rfl rfl rfl rfl (by decide +kernel) (by decide +kernel) rfl hl.1 rfl (Nat.le_of_ble_eq_true rfl) rfl d_Md_judge_2 ⟨Nat.zero_le _, Nat.zero_le _⟩ (fun H locs hP hD hS => ?_)
  refine lv_istore_n (lv' := [(2, .int y2), (0, .ref (a 0)), (1, .int x1)]) hx hb d_Md_judge_5 rfl hl (by decide) rfl (fun ls hl => ?_)
  refine lv_aload_n hx hb d_Md_judge_6 rfl (lv_at hl 1 rfl) ?_
  refine lv_iload_n hx hb d_Md_judge_7 rfl (lv_at hl 2 rfl) ?_
  obtain ⟨y8, hy, h⟩ := o_bd h
  refine kdV (nn := 24) (rest := []) (w' := (cMd cI cJ cZ a mb mg mx mf)) (wr := ([] : va_W)) (st1 := [.int y8]) ⟨hx, hb, hml, hown, hts⟩ (c_Md_isCatch l dC dI cI cJ cZ a x1 mb mg mx mf y8 hy) (cwV 1 hts (gd_V tw913 tw915 ps34 tw9 tw916) rfl rfl rfl hd_Md_isCatch ⟨Nat.le_of_ble_eq_true rfl, Nat.le_of_ble_eq_true rfl⟩) hNw hK hP hD hS hA (ci := 7) rfl rfl rfl [0, 1, 2, 3, 4, 5, 6, 7, 8, 9, 10, 11, 12, 13, 14, 15, 16, 17, 18, 19, 20, 21, 22, 23] [] rfl rfl rfl rfl rfl (by decide +kernel) (by decide +kernel) rfl hl.1 rfl (Nat.le_of_ble_eq_true rfl) rfl d_Md_judge_8 ⟨Nat.zero_le _, Nat.zero_le _⟩ (fun H locs hP hD hS => ?_)
  refine lv_if_eq (tgt := 63) hx hb d_Md_judge_11 (by decide) (fun hc => ?_) (fun hc => ?_)
  · have h := o_t hc h
    refine lv_iload_n hx hb d_Md_judge_63 rfl (lv_at hl 0 rfl) ?_
    refine lv_iconst (v := -1) hx hb d_Md_judge_64 (by decide) ?_
    refine lv_icmp_eq (tgt := 94) hx hb d_Md_judge_65 (by decide) (fun hc => ?_) (fun hc => ?_)
    · have h := o_t hc h
      exact B94 x1 y2 mf _ _ _ h hP hD hS (lv_sub hl [1, 2, 0] rfl)
    · have h := o_f hc h
      refine lv_aload_n hx hb d_Md_judge_68 rfl (lv_at hl 1 rfl) ?_
      refine va_get (D := (dC, dI)) (ci := 7) (v := .ref (a 2)) (C := R_Md) (T := F_Md) (N := 35) hx hb hts inb_Md hown hK hP 0 rfl rfl 3 (by decide) (hts _ tw690) (fun _ h9 => h9) rfl d_Md_judge_69 ?_
      refine lv_iload_n hx hb d_Md_judge_72 rfl (lv_at hl 0 rfl) ?_
      obtain ⟨hin, h⟩ := o_in h
      refine va_iald hx hb hK hP 2 0 rfl rfl hin d_Md_judge_73 ?_
      refine lv_bipush (v := 13) hx hb d_Md_judge_74 (by decide) ?_
      refine lv_icmp_eq (tgt := 90) hx hb d_Md_judge_76 (by decide) (fun hc => ?_) (fun hc => ?_)
      · have h := o_t hc h
        exact B90 x1 y2 mf _ _ _ h hP hD hS (lv_sub hl [1, 2, 0] rfl)
      · have h := o_f hc h
        refine lv_aload_n hx hb d_Md_judge_79 rfl (lv_at hl 1 rfl) ?_
        refine va_get (D := (dC, dI)) (ci := 7) (v := .ref (a 2)) (C := R_Md) (T := F_Md) (N := 35) hx hb hts inb_Md hown hK hP 0 rfl rfl 3 (by decide) (hts _ tw690) (fun _ h9 => h9) rfl d_Md_judge_80 ?_
        refine lv_iload_n hx hb d_Md_judge_83 rfl (lv_at hl 0 rfl) ?_
        obtain ⟨hin, h⟩ := o_in h
        refine va_iald hx hb hK hP 2 0 rfl rfl hin d_Md_judge_84 ?_
        refine lv_bipush (v := 14) hx hb d_Md_judge_85 (by decide) ?_
        refine lv_icmp_ne (tgt := 94) hx hb d_Md_judge_87 (by decide) (fun hc => ?_) (fun hc => ?_)
        · have h := o_f hc h
          exact B94 x1 y2 mf _ _ _ h hP hD hS (lv_sub hl [1, 2, 0] rfl)
        · have h := o_t hc h
          exact B90 x1 y2 mf _ _ _ h hP hD hS (lv_sub hl [1, 2, 0] rfl)
  · have h := o_f hc h
    refine lv_aload_n hx hb d_Md_judge_14 rfl (lv_at hl 1 rfl) ?_
    refine lv_iload_n hx hb d_Md_judge_15 rfl (lv_at hl 2 rfl) ?_
    obtain ⟨y16, hy, h⟩ := o_bd h
    refine kdV (nn := 24) (rest := []) (w' := (cMd cI cJ cZ a mb mg mx mf)) (wr := ([] : va_W)) (st1 := [.int y16]) ⟨hx, hb, hml, hown, hts⟩ (c_Md_isShadowed l dC dI cI cJ cZ a N x1 mb mg mx mf y16 hy) (cwV 1 hts (gd_V tw1013 tw1015 ps59 tw9 tw1016) rfl rfl rfl hd_Md_isShadowed ⟨Nat.le_of_ble_eq_true rfl, Nat.le_of_ble_eq_true rfl⟩) hNw hK hP hD hS hA (ci := 7) rfl rfl rfl [0, 1, 2, 3, 4, 5, 6, 7, 8, 9, 10, 11, 12, 13, 14, 15, 16, 17, 18, 19, 20, 21, 22, 23] [] rfl rfl rfl rfl rfl (by decide +kernel) (by decide +kernel) rfl hl.1 rfl (Nat.le_of_ble_eq_true rfl) rfl d_Md_judge_16 ⟨Nat.zero_le _, Nat.zero_le _⟩ (fun H locs hP hD hS => ?_)
    refine lv_istore_n (lv' := [(3, .int y16), (2, .int y2), (0, .ref (a 0)), (1, .int x1)]) hx hb d_Md_judge_19 rfl hl (by decide) rfl (fun ls hl => ?_)
    refine lv_aload_n hx hb d_Md_judge_20 rfl (lv_at hl 2 rfl) ?_
    refine lv_iconst (v := 3) hx hb d_Md_judge_21 (by decide) ?_
    refine lv_iload_n hx hb d_Md_judge_22 rfl (lv_at hl 3 rfl) ?_
    refine lv_iload_n hx hb d_Md_judge_23 rfl (lv_at hl 0 rfl) ?_
    obtain ⟨y24, hy, h⟩ := o_bd h
    refine kdV (nn := 24) (rest := []) (w' := (cMd cI cJ cZ a mb mg mx y24)) (wr := ([] : va_W)) (st1 := []) ⟨hx, hb, hml, hown, hts⟩ (c_Md_tell l dC dI cI cJ cZ a (3 : Int32) x1 y16 mb mg mx mf y24 hy) (cwV 3 hts (gd_V tw1017 tw1019 ps60 tw9 tw1020) rfl rfl rfl hd_Md_tell ⟨Nat.le_of_ble_eq_true rfl, Nat.le_of_ble_eq_true rfl⟩) hNw hK hP hD hS hA (ci := 7) rfl rfl rfl [0, 1, 2, 3, 4, 5, 6, 7, 8, 9, 10, 11, 12, 13, 14, 15, 16, 17, 18, 19, 20, 21, 22, 23] [] rfl rfl rfl rfl rfl (by decide +kernel) (by decide +kernel) rfl hl.1 rfl (Nat.le_of_ble_eq_true rfl) rfl d_Md_judge_24 ⟨Nat.zero_le _, Nat.zero_le _⟩ (fun H locs hP hD hS => ?_)
    refine lv_aload_n hx hb d_Md_judge_27 rfl (lv_at hl 2 rfl) ?_
    refine lv_iconst (v := 4) hx hb d_Md_judge_28 (by decide) ?_
    refine lv_iload_n hx hb d_Md_judge_29 rfl (lv_at hl 3 rfl) ?_
    refine lv_iload_n hx hb d_Md_judge_30 rfl (lv_at hl 0 rfl) ?_
    refine lv_if_ne (tgt := 56) hx hb d_Md_judge_31 (by decide) (fun hc => ?_) (fun hc => ?_)
    · have h := o_f hc h
      exact B56 x1 (4 : Int32) x1 y2 y24 _ _ _ h hP hD hS (lv_sub hl [2, 3, 1] rfl)
    · have h := o_t hc h
      refine lv_aload_n hx hb d_Md_judge_34 rfl (lv_at hl 2 rfl) ?_
      refine va_get (D := (dC, dI)) (ci := 7) (v := .ref (a 16)) (C := R_Md) (T := F_Md) (N := 35) hx hb hts inb_Md hown hK hP 0 rfl rfl 24 (by decide) (hts _ tw711) (fun _ h9 => h9) rfl d_Md_judge_35 ?_
      refine lv_iload_n hx hb d_Md_judge_38 rfl (lv_at hl 3 rfl) ?_
      obtain ⟨hin, h⟩ := o_in h
      refine va_zald hx hb hK hP 16 2 rfl rfl hin d_Md_judge_39 ?_
      refine lv_if_ne (tgt := 56) hx hb d_Md_judge_40 (by decide) (fun hc => ?_) (fun hc => ?_)
      · have h := o_f hc h
        exact B56 x1 (4 : Int32) x1 y2 y24 _ _ _ h hP hD hS (lv_sub hl [2, 3, 1] rfl)
      · have h := o_t hc h
        refine lv_aload_n hx hb d_Md_judge_43 rfl (lv_at hl 2 rfl) ?_
        refine va_get (D := (dC, dI)) (ci := 7) (v := .ref (a 16)) (C := R_Md) (T := F_Md) (N := 35) hx hb hts inb_Md hown hK hP 0 rfl rfl 24 (by decide) (hts _ tw711) (fun _ h9 => h9) rfl d_Md_judge_44 ?_
        refine lv_iload_n hx hb d_Md_judge_47 rfl (lv_at hl 1 rfl) ?_
        obtain ⟨hin, h⟩ := o_in h
        refine va_zald hx hb hK hP 16 2 rfl rfl hin d_Md_judge_48 ?_
        refine lv_if_eq (tgt := 56) hx hb d_Md_judge_49 (by decide) (fun hc => ?_) (fun hc => ?_)
        · have h := o_t hc h
          exact B56 x1 (4 : Int32) x1 y2 y24 _ _ _ h hP hD hS (lv_sub hl [2, 3, 1] rfl)
        · have h := o_f hc h
          refine lv_iconst (v := 1) hx hb d_Md_judge_52 (by decide) ?_
          refine lv_goto (tgt := 57) hx hb d_Md_judge_53 (by decide) ?_
          exact B57 (1 : Int32) x1 (4 : Int32) x1 y2 y24 _ _ _ h hP hD hS (lv_sub hl [2, 3, 1] rfl)
set_option maxHeartbeats 4000000 in
set_option maxRecDepth 100000 in
theorem c_Md_look (l : Launch) (dC : Nat → ClassId) (dI : Nat → Nat → Nat) (cI cJ cZ : ClassId) (a : Nat → Nat) (N : Nat) (x1 : Int32) (mb : MbS) (mg : MgS) (mx : MxS) (mf : MfS) (res : MgS × MxS × MfS) (h : f_Md_look N x1 mb mg mx mf = some res) :
    Kt l (dC, dI) classes [(cI, .int), (cJ, .long), (cZ, .boolean)] y_Md_look (wz y_Md_look b_Md_look 5 none) { frames := 7, cells := 0, slots := 0, locals := 154 } [.ref (a 0), .int x1] (cMd cI cJ cZ a mb mg mx mf) none (cMd cI cJ cZ a mb res.1 res.2.1 res.2.2) := by
  refine Kt_of (cc := b_Md_look) (maxL := 5) (ret := none) (by decide) (Nat.le_of_ble_eq_true rfl) ?_
  intro p e s m args below meth c A ls hx hb hr hml hlocks hown hts hNw hK hP hD hA hS hl
  have hl : lv_has ls 5 [(0, .ref (a 0)), (1, .int x1)] := hl
  have hP : va_P (dC, dI) classes (cMd cI cJ cZ a mb mg mx mf) s.heap := hP
  have L178 : ∀ (n178 : Nat) (s178 : Int32 × MgS × MxS × MfS) (H : Heap) (locs : List Loc) (ls : Array Slot), lp (f_Md_look_L178 N mb) n178 s178 = some res → va_P (dC, dI) classes (cMd cI cJ cZ a mb s178.2.1 s178.2.2.1 s178.2.2.2) H → va_D A (cMd cI cJ cZ a mb s178.2.1 s178.2.2.1 s178.2.2.2) → va_S A s.heap H locs → lv_has ls 5 [(0, .ref (a 0)), (2, .int s178.1)] → W p l e { frames := 7, cells := 0, slots := 0, locals := 154 } s m args below meth c H locs 0 0 (KZ below args s (dC, dI) classes none (cMd cI cJ cZ a mb res.1 res.2.1 res.2.2) A) (F0 m 178 ls []) := by
    intro n178
    induction n178 with
    | zero => intro _ _ _ _ h; exact (lp_0 h).elim
    | succ n178 ih178 =>
      intro s178 H locs ls h hP hD hS hl
      have h := lp_s h
      refine lv_iload_n hx hb d_Md_look_178 rfl (lv_at hl 1 rfl) ?_
      refine lv_aload_n hx hb d_Md_look_179 rfl (lv_at hl 0 rfl) ?_
      refine va_get (D := (dC, dI)) (ci := 7) (v := .int (Mg_rooted s178.2.1)) (C := R_Md) (T := F_Md) (N := 35) hx hb hts inb_Md hown hK hP 0 rfl rfl 19 (by decide) (hts _ tw706) (fun _ h9 => h9) rfl d_Md_look_180 ?_
      refine lv_icmp_ge (tgt := 202) hx hb d_Md_look_183 (by decide) (fun hc => ?_) (fun hc => ?_)
      · have h := o_t hc h
        cases h
        exact kr_v hx hb hr hlocks hP hD hS d_Md_look_202
      · have h := o_f hc h
        refine lv_aload_n hx hb d_Md_look_186 rfl (lv_at hl 0 rfl) ?_
        refine lv_aload_n hx hb d_Md_look_187 rfl (lv_at hl 0 rfl) ?_
        refine va_get (D := (dC, dI)) (ci := 7) (v := .ref (a 13)) (C := R_Md) (T := F_Md) (N := 35) hx hb hts inb_Md hown hK hP 0 rfl rfl 21 (by decide) (hts _ tw708) (fun _ h9 => h9) rfl d_Md_look_188 ?_
        refine lv_iload_n hx hb d_Md_look_191 rfl (lv_at hl 1 rfl) ?_
        obtain ⟨hin, h⟩ := o_in h
        refine va_iald hx hb hK hP 13 0 rfl rfl hin d_Md_look_192 ?_
        obtain ⟨y193, hy, h⟩ := o_bd h
        refine kdV (nn := 24) (rest := []) (w' := (cMd cI cJ cZ a mb s178.2.1 s178.2.2.1 y193)) (wr := ([] : va_W)) (st1 := []) ⟨hx, hb, hml, hown, hts⟩ (c_Md_judge l dC dI cI cJ cZ a N ((Mg_order s178.2.1) s178.1.toNatClampNeg) mb s178.2.1 s178.2.2.1 s178.2.2.2 y193 hy) (cwV 1 hts (gd_V tw1009 tw1011 ps58 tw9 tw1012) rfl rfl rfl hd_Md_judge ⟨Nat.le_of_ble_eq_true rfl, Nat.le_of_ble_eq_true rfl⟩) hNw hK hP hD hS hA (ci := 7) rfl rfl rfl [0, 1, 2, 3, 4, 5, 6, 7, 8, 9, 10, 11, 12, 13, 14, 15, 16, 17, 18, 19, 20, 21, 22, 23] [] rfl rfl rfl rfl rfl (by decide +kernel) (by decide +kernel) rfl hl.1 rfl (Nat.le_of_ble_eq_true rfl) rfl d_Md_look_193 ⟨Nat.zero_le _, Nat.zero_le _⟩ (fun H locs hP hD hS => ?_)
        refine lv_iinc (v := (s178.1 + 1)) (lv' := [(2, .int (s178.1 + 1)), (0, .ref (a 0))]) hx hb d_Md_look_196 hl (k := 1) rfl rfl (by decide) rfl (fun ls hl => ?_)
        refine lv_goto (tgt := 178) hx hb d_Md_look_199 (by decide) ?_
        exact ih178 ((s178.1 + 1), s178.2.1, s178.2.2.1, y193) _ _ _ h hP hD hS (lv_sub hl [1, 0] rfl)
  have L19 : ∀ (n19 : Nat) (s19 : Int32 × MgS × MxS × MfS) (H : Heap) (locs : List Loc) (ls : Array Slot), lp (f_Md_look_L19 N mb) n19 s19 = some res → va_P (dC, dI) classes (cMd cI cJ cZ a mb s19.2.1 s19.2.2.1 s19.2.2.2) H → va_D A (cMd cI cJ cZ a mb s19.2.1 s19.2.2.1 s19.2.2.2) → va_S A s.heap H locs → lv_has ls 5 [(0, .ref (a 0)), (2, .int s19.1)] → W p l e { frames := 7, cells := 0, slots := 0, locals := 154 } s m args below meth c H locs 0 0 (KZ below args s (dC, dI) classes none (cMd cI cJ cZ a mb res.1 res.2.1 res.2.2) A) (F0 m 19 ls []) := by
    intro n19
    induction n19 with
    | zero => intro _ _ _ _ h; exact (lp_0 h).elim
    | succ n19 ih19 =>
      intro s19 H locs ls h hP hD hS hl
      have h := lp_s h
      have B151 : ∀ (z0_151 : Int32) (z1_151 : Int32) (x2_151 : Int32) (mg_151 : MgS) (mx_151 : MxS) (mf_151 : MfS) (H : Heap) (locs : List Loc) (ls : Array Slot), f_Md_look_b151 N (lp (f_Md_look_L19 N mb) n19) z0_151 z1_151 x2_151 mb mg_151 mx_151 mf_151 = some res → va_P (dC, dI) classes (cMd cI cJ cZ a mb mg_151 mx_151 mf_151) H → va_D A (cMd cI cJ cZ a mb mg_151 mx_151 mf_151) → va_S A s.heap H locs → lv_has ls 5 [(0, .ref (a 0)), (2, .int x2_151)] → W p l e { frames := 7, cells := 0, slots := 0, locals := 154 } s m args below meth c H locs 0 0 (KZ below args s (dC, dI) classes none (cMd cI cJ cZ a mb res.1 res.2.1 res.2.2) A) (F0 m 151 ls [.int z0_151, .int z1_151, .ref (a 15)]) := by
        intro z0_151 z1_151 x2_151 mg_151 mx_151 mf_151 H locs ls h hP hD hS hl
        obtain ⟨hin, h⟩ := o_in h
        refine va_iast hx hb hK hP hD hS 15 0 rfl rfl hin d_Md_look_151 (fun H locs hP hD hS => ?_)
        have hP : va_P (dC, dI) classes (cMd cI cJ cZ a mb ((Mg_root mg_151), (Mg_rooted mg_151), (Mg_knownKinds mg_151), (Mg_order mg_151), (Mg_inRoot mg_151), (upd (Mg_targets mg_151) z1_151.toNatClampNeg z0_151)) mx_151 mf_151) H := hP
        have hD : va_D A (cMd cI cJ cZ a mb ((Mg_root mg_151), (Mg_rooted mg_151), (Mg_knownKinds mg_151), (Mg_order mg_151), (Mg_inRoot mg_151), (upd (Mg_targets mg_151) z1_151.toNatClampNeg z0_151)) mx_151 mf_151) := hD
        refine lv_iinc (v := (x2_151 + 1)) (lv' := [(2, .int (x2_151 + 1)), (0, .ref (a 0))]) hx hb d_Md_look_152 hl (k := 1) rfl rfl (by decide) rfl (fun ls hl => ?_)
        refine lv_goto (tgt := 19) hx hb d_Md_look_155 (by decide) ?_
        exact ih19 ((x2_151 + 1), ((Mg_root mg_151), (Mg_rooted mg_151), (Mg_knownKinds mg_151), (Mg_order mg_151), (Mg_inRoot mg_151), (upd (Mg_targets mg_151) z1_151.toNatClampNeg z0_151)), mx_151, mf_151) _ _ _ h hP hD hS (lv_sub hl [1, 0] rfl)
      have B142 : ∀ (z0_142 : Int32) (x2_142 : Int32) (x3_142 : Int32) (mg_142 : MgS) (mx_142 : MxS) (mf_142 : MfS) (H : Heap) (locs : List Loc) (ls : Array Slot), f_Md_look_b142 N (lp (f_Md_look_L19 N mb) n19) z0_142 x2_142 x3_142 mb mg_142 mx_142 mf_142 = some res → va_P (dC, dI) classes (cMd cI cJ cZ a mb mg_142 mx_142 mf_142) H → va_D A (cMd cI cJ cZ a mb mg_142 mx_142 mf_142) → va_S A s.heap H locs → lv_has ls 5 [(0, .ref (a 0)), (2, .int x2_142), (3, .int x3_142)] → W p l e { frames := 7, cells := 0, slots := 0, locals := 154 } s m args below meth c H locs 0 0 (KZ below args s (dC, dI) classes none (cMd cI cJ cZ a mb res.1 res.2.1 res.2.2) A) (F0 m 142 ls [.int z0_142, .ref (a 15)]) := by
        intro z0_142 x2_142 x3_142 mg_142 mx_142 mf_142 H locs ls h hP hD hS hl
        refine lv_aload_n hx hb d_Md_look_142 rfl (lv_at hl 0 rfl) ?_
        refine lv_iload_n hx hb d_Md_look_143 rfl (lv_at hl 2 rfl) ?_
        obtain ⟨y144, hy, h⟩ := o_bd h
        refine kdV (nn := 24) (rest := [.int z0_142, .ref (a 15)]) (w' := (cMd cI cJ cZ a mb mg_142 mx_142 mf_142)) (wr := ([] : va_W)) (st1 := [.int y144, .int z0_142, .ref (a 15)]) ⟨hx, hb, hml, hown, hts⟩ (c_Md_targetOf l dC dI cI cJ cZ a N x3_142 mb mg_142 mx_142 mf_142 y144 hy) (cwV 1 hts (gd_V tw897 tw899 ps30 tw9 tw900) rfl rfl rfl hd_Md_targetOf ⟨Nat.le_of_ble_eq_true rfl, Nat.le_of_ble_eq_true rfl⟩) hNw hK hP hD hS hA (ci := 7) rfl rfl rfl [0, 1, 2, 3, 4, 5, 6, 7, 8, 9, 10, 11, 12, 13, 14, 15, 16, 17, 18, 19, 20, 21, 22, 23] [] rfl rfl rfl rfl rfl (by decide +kernel) (by decide +kernel) rfl hl.1 rfl (Nat.le_of_ble_eq_true rfl) rfl d_Md_look_144 ⟨Nat.zero_le _, Nat.zero_le _⟩ (fun H locs hP hD hS => ?_)
        refine lv_goto (tgt := 151) hx hb d_Md_look_147 (by decide) ?_
        exact B151 y144 z0_142 x2_142 mg_142 mx_142 mf_142 _ _ _ h hP hD hS (lv_sub hl [0, 1] rfl)
      have L87 : ∀ (x2_87 : Int32) (x3_87 : Int32) (n87 : Nat) (s87 : Int32 × MgS × MxS × MfS) (H : Heap) (locs : List Loc) (ls : Array Slot), lp (f_Md_look_L87 N (lp (f_Md_look_L19 N mb) n19) x2_87 x3_87 mb) n87 s87 = some res → va_P (dC, dI) classes (cMd cI cJ cZ a mb s87.2.1 s87.2.2.1 s87.2.2.2) H → va_D A (cMd cI cJ cZ a mb s87.2.1 s87.2.2.1 s87.2.2.2) → va_S A s.heap H locs → lv_has ls 5 [(0, .ref (a 0)), (2, .int x2_87), (3, .int x3_87), (4, .int s87.1)] → W p l e { frames := 7, cells := 0, slots := 0, locals := 154 } s m args below meth c H locs 0 0 (KZ below args s (dC, dI) classes none (cMd cI cJ cZ a mb res.1 res.2.1 res.2.2) A) (F0 m 87 ls []) := by
        intro x2_87 x3_87 n87
        induction n87 with
        | zero => intro _ _ _ _ h; exact (lp_0 h).elim
        | succ n87 ih87 =>
          intro s87 H locs ls h hP hD hS hl
          have h := lp_s h
          refine lv_iload hx hb d_Md_look_87 (lv_at hl 3 rfl) ?_
          refine lv_sipush (v := 134) hx hb d_Md_look_89 (by decide) ?_
          refine lv_icmp_ge (tgt := 115) hx hb d_Md_look_92 (by decide) (fun hc => ?_) (fun hc => ?_)
          · have h := o_t hc h
            refine lv_aload_n hx hb d_Md_look_115 rfl (lv_at hl 0 rfl) ?_
            refine va_get (D := (dC, dI)) (ci := 7) (v := .ref (a 15)) (C := R_Md) (T := F_Md) (N := 35) hx hb hts inb_Md hown hK hP 0 rfl rfl 23 (by decide) (hts _ tw710) (fun _ h9 => h9) rfl d_Md_look_116 ?_
            refine lv_iload_n hx hb d_Md_look_119 rfl (lv_at hl 2 rfl) ?_
            refine lv_aload_n hx hb d_Md_look_120 rfl (lv_at hl 0 rfl) ?_
            refine va_get (D := (dC, dI)) (ci := 7) (v := .ref (a 2)) (C := R_Md) (T := F_Md) (N := 35) hx hb hts inb_Md hown hK hP 0 rfl rfl 3 (by decide) (hts _ tw690) (fun _ h9 => h9) rfl d_Md_look_121 ?_
            refine lv_iload_n hx hb d_Md_look_124 rfl (lv_at hl 2 rfl) ?_
            obtain ⟨hin, h⟩ := o_in h
            refine va_iald hx hb hK hP 2 0 rfl rfl hin d_Md_look_125 ?_
            refine lv_bipush (v := 10) hx hb d_Md_look_126 (by decide) ?_
            refine lv_icmp_eq (tgt := 142) hx hb d_Md_look_128 (by decide) (fun hc => ?_) (fun hc => ?_)
            · have h := o_t hc h
              exact B142 x3_87 x2_87 x3_87 s87.2.1 s87.2.2.1 s87.2.2.2 _ _ _ h hP hD hS (lv_sub hl [0, 1, 2] rfl)
            · have h := o_f hc h
              refine lv_aload_n hx hb d_Md_look_131 rfl (lv_at hl 0 rfl) ?_
              refine va_get (D := (dC, dI)) (ci := 7) (v := .ref (a 2)) (C := R_Md) (T := F_Md) (N := 35) hx hb hts inb_Md hown hK hP 0 rfl rfl 3 (by decide) (hts _ tw690) (fun _ h9 => h9) rfl d_Md_look_132 ?_
              refine lv_iload_n hx hb d_Md_look_135 rfl (lv_at hl 2 rfl) ?_
              obtain ⟨hin, h⟩ := o_in h
              refine va_iald hx hb hK hP 2 0 rfl rfl hin d_Md_look_136 ?_
              refine lv_bipush (v := 11) hx hb d_Md_look_137 (by decide) ?_
              refine lv_icmp_ne (tgt := 150) hx hb d_Md_look_139 (by decide) (fun hc => ?_) (fun hc => ?_)
              · have h := o_f hc h
                refine lv_iconst (v := -1) hx hb d_Md_look_150 (by decide) ?_
                exact B151 (-1 : Int32) x3_87 x2_87 s87.2.1 s87.2.2.1 s87.2.2.2 _ _ _ h hP hD hS (lv_sub hl [0, 1] rfl)
              · have h := o_t hc h
                exact B142 x3_87 x2_87 x3_87 s87.2.1 s87.2.2.1 s87.2.2.2 _ _ _ h hP hD hS (lv_sub hl [0, 1, 2] rfl)
          · have h := o_f hc h
            refine lv_aload_n hx hb d_Md_look_95 rfl (lv_at hl 0 rfl) ?_
            refine va_get (D := (dC, dI)) (ci := 7) (v := .ref (a 20)) (C := R_Md) (T := F_Md) (N := 35) hx hb hts inb_Md hown hK hP 0 rfl rfl 28 (by decide) (hts _ tw715) (fun _ h9 => h9) rfl d_Md_look_96 ?_
            refine lv_sipush (v := 134) hx hb d_Md_look_99 (by decide) ?_
            refine lv_iload_n hx hb d_Md_look_102 rfl (lv_at hl 2 rfl) ?_
            refine lv_imul hx hb d_Md_look_103 ?_
            refine lv_iload hx hb d_Md_look_104 (lv_at hl 3 rfl) ?_
            refine lv_iadd hx hb d_Md_look_106 ?_
            refine lv_iconst (v := 0) hx hb d_Md_look_107 (by decide) ?_
            obtain ⟨hin, h⟩ := o_in h
            refine va_zast hx hb hK hP hD hS 20 2 rfl rfl hin d_Md_look_108 (fun H locs hP hD hS => ?_)
            have hP : va_P (dC, dI) classes (cMd cI cJ cZ a mb s87.2.1 ((Mx_isReached s87.2.2.1), (Mx_isComplete s87.2.2.1), (Mx_throwable s87.2.2.1), (Mx_isCome s87.2.2.1), (upd (Mx_ended s87.2.2.1) (((134 : Int32) * x3_87) + s87.1).toNatClampNeg (vp_nar .boolean (0 : Int32))), (Mx_isNew s87.2.2.1)) s87.2.2.2) H := hP
            have hD : va_D A (cMd cI cJ cZ a mb s87.2.1 ((Mx_isReached s87.2.2.1), (Mx_isComplete s87.2.2.1), (Mx_throwable s87.2.2.1), (Mx_isCome s87.2.2.1), (upd (Mx_ended s87.2.2.1) (((134 : Int32) * x3_87) + s87.1).toNatClampNeg (vp_nar .boolean (0 : Int32))), (Mx_isNew s87.2.2.1)) s87.2.2.2) := hD
            refine lv_iinc (v := (s87.1 + 1)) (lv' := [(4, .int (s87.1 + 1)), (0, .ref (a 0)), (2, .int x2_87), (3, .int x3_87)]) hx hb d_Md_look_109 hl (k := 3) rfl rfl (by decide) rfl (fun ls hl => ?_)
            refine lv_goto (tgt := 87) hx hb d_Md_look_112 (by decide) ?_
            exact ih87 ((s87.1 + 1), s87.2.1, ((Mx_isReached s87.2.2.1), (Mx_isComplete s87.2.2.1), (Mx_throwable s87.2.2.1), (Mx_isCome s87.2.2.1), (upd (Mx_ended s87.2.2.1) (((134 : Int32) * x3_87) + s87.1).toNatClampNeg (vp_nar .boolean (0 : Int32))), (Mx_isNew s87.2.2.1)), s87.2.2.2) _ _ _ h hP hD hS (lv_sub hl [1, 2, 3, 0] rfl)
      have L58 : ∀ (x2_58 : Int32) (x3_58 : Int32) (n58 : Nat) (s58 : Int32 × MgS × MxS × MfS) (H : Heap) (locs : List Loc) (ls : Array Slot), lp (f_Md_look_L58 N (lp (f_Md_look_L19 N mb) n19) x2_58 x3_58 mb) n58 s58 = some res → va_P (dC, dI) classes (cMd cI cJ cZ a mb s58.2.1 s58.2.2.1 s58.2.2.2) H → va_D A (cMd cI cJ cZ a mb s58.2.1 s58.2.2.1 s58.2.2.2) → va_S A s.heap H locs → lv_has ls 5 [(0, .ref (a 0)), (2, .int x2_58), (3, .int x3_58), (4, .int s58.1)] → W p l e { frames := 7, cells := 0, slots := 0, locals := 154 } s m args below meth c H locs 0 0 (KZ below args s (dC, dI) classes none (cMd cI cJ cZ a mb res.1 res.2.1 res.2.2) A) (F0 m 58 ls []) := by
        intro x2_58 x3_58 n58
        induction n58 with
        | zero => intro _ _ _ _ h; exact (lp_0 h).elim
        | succ n58 ih58 =>
          intro s58 H locs ls h hP hD hS hl
          have h := lp_s h
          refine lv_iload hx hb d_Md_look_58 (lv_at hl 3 rfl) ?_
          refine lv_bipush (v := 12) hx hb d_Md_look_60 (by decide) ?_
          refine lv_icmp_ge (tgt := 84) hx hb d_Md_look_62 (by decide) (fun hc => ?_) (fun hc => ?_)
          · have h := o_t hc h
            refine lv_iconst (v := 0) hx hb d_Md_look_84 (by decide) ?_
            refine lv_istore (lv' := [(4, .int (0 : Int32)), (0, .ref (a 0)), (2, .int x2_58), (3, .int x3_58)]) hx hb d_Md_look_85 hl (by decide) rfl (fun ls hl => ?_)
            exact L87 x2_58 x3_58 N ((0 : Int32), s58.2.1, s58.2.2.1, s58.2.2.2) _ _ _ h hP hD hS (lv_sub hl [1, 2, 3, 0] rfl)
          · have h := o_f hc h
            refine lv_aload_n hx hb d_Md_look_65 rfl (lv_at hl 0 rfl) ?_
            refine va_get (D := (dC, dI)) (ci := 7) (v := .ref (a 18)) (C := R_Md) (T := F_Md) (N := 35) hx hb hts inb_Md hown hK hP 0 rfl rfl 26 (by decide) (hts _ tw713) (fun _ h9 => h9) rfl d_Md_look_66 ?_
            refine lv_bipush (v := 12) hx hb d_Md_look_69 (by decide) ?_
            refine lv_iload_n hx hb d_Md_look_71 rfl (lv_at hl 2 rfl) ?_
            refine lv_imul hx hb d_Md_look_72 ?_
            refine lv_iload hx hb d_Md_look_73 (lv_at hl 3 rfl) ?_
            refine lv_iadd hx hb d_Md_look_75 ?_
            refine lv_iconst (v := 0) hx hb d_Md_look_76 (by decide) ?_
            obtain ⟨hin, h⟩ := o_in h
            refine va_zast hx hb hK hP hD hS 18 2 rfl rfl hin d_Md_look_77 (fun H locs hP hD hS => ?_)
            have hP : va_P (dC, dI) classes (cMd cI cJ cZ a mb s58.2.1 ((Mx_isReached s58.2.2.1), (Mx_isComplete s58.2.2.1), (upd (Mx_throwable s58.2.2.1) (((12 : Int32) * x3_58) + s58.1).toNatClampNeg (vp_nar .boolean (0 : Int32))), (Mx_isCome s58.2.2.1), (Mx_ended s58.2.2.1), (Mx_isNew s58.2.2.1)) s58.2.2.2) H := hP
            have hD : va_D A (cMd cI cJ cZ a mb s58.2.1 ((Mx_isReached s58.2.2.1), (Mx_isComplete s58.2.2.1), (upd (Mx_throwable s58.2.2.1) (((12 : Int32) * x3_58) + s58.1).toNatClampNeg (vp_nar .boolean (0 : Int32))), (Mx_isCome s58.2.2.1), (Mx_ended s58.2.2.1), (Mx_isNew s58.2.2.1)) s58.2.2.2) := hD
            refine lv_iinc (v := (s58.1 + 1)) (lv' := [(4, .int (s58.1 + 1)), (0, .ref (a 0)), (2, .int x2_58), (3, .int x3_58)]) hx hb d_Md_look_78 hl (k := 3) rfl rfl (by decide) rfl (fun ls hl => ?_)
            refine lv_goto (tgt := 58) hx hb d_Md_look_81 (by decide) ?_
            exact ih58 ((s58.1 + 1), s58.2.1, ((Mx_isReached s58.2.2.1), (Mx_isComplete s58.2.2.1), (upd (Mx_throwable s58.2.2.1) (((12 : Int32) * x3_58) + s58.1).toNatClampNeg (vp_nar .boolean (0 : Int32))), (Mx_isCome s58.2.2.1), (Mx_ended s58.2.2.1), (Mx_isNew s58.2.2.1)), s58.2.2.2) _ _ _ h hP hD hS (lv_sub hl [1, 2, 3, 0] rfl)
      refine lv_iload_n hx hb d_Md_look_19 rfl (lv_at hl 1 rfl) ?_
      refine lv_aload_n hx hb d_Md_look_20 rfl (lv_at hl 0 rfl) ?_
      refine va_get (D := (dC, dI)) (ci := 7) (v := .int (Mg_rooted s19.2.1)) (C := R_Md) (T := F_Md) (N := 35) hx hb hts inb_Md hown hK hP 0 rfl rfl 19 (by decide) (hts _ tw706) (fun _ h9 => h9) rfl d_Md_look_21 ?_
      refine lv_icmp_ge (tgt := 158) hx hb d_Md_look_24 (by decide) (fun hc => ?_) (fun hc => ?_)
      · have h := o_t hc h
        refine lv_aload_n hx hb d_Md_look_158 rfl (lv_at hl 0 rfl) ?_
        obtain ⟨y159, hy, h⟩ := o_bd h
        refine kdV (nn := 24) (rest := []) (w' := (cMd cI cJ cZ a mb s19.2.1 y159 s19.2.2.2)) (wr := ([] : va_W)) (st1 := []) ⟨hx, hb, hml, hown, hts⟩ (c_Md_rules l dC dI cI cJ cZ a N mb s19.2.1 s19.2.2.1 s19.2.2.2 y159 hy) (cwV 0 hts (gd_V tw905 tw907 ps32 tw9 tw908) rfl rfl rfl hd_Md_rules ⟨Nat.le_of_ble_eq_true rfl, Nat.le_of_ble_eq_true rfl⟩) hNw hK hP hD hS hA (ci := 7) rfl rfl rfl [0, 1, 2, 3, 4, 5, 6, 7, 8, 9, 10, 11, 12, 13, 14, 15, 16, 17, 18, 19, 20, 21, 22, 23] [] rfl rfl rfl rfl rfl (by decide +kernel) (by decide +kernel) rfl hl.1 rfl (Nat.le_of_ble_eq_true rfl) rfl d_Md_look_159 ⟨Nat.zero_le _, Nat.zero_le _⟩ (fun H locs hP hD hS => ?_)
        refine lv_aload_n hx hb d_Md_look_162 rfl (lv_at hl 0 rfl) ?_
        obtain ⟨y163, hy, h⟩ := o_bd h
        refine kdV (nn := 24) (rest := []) (w' := (cMd cI cJ cZ a mb s19.2.1 y163 s19.2.2.2)) (wr := ([] : va_W)) (st1 := []) ⟨hx, hb, hml, hown, hts⟩ (c_Md_walks l dC dI cI cJ cZ a N mb s19.2.1 y159 s19.2.2.2 y163 hy) (cwV 0 hts (gd_V tw957 tw959 ps45 tw9 tw960) rfl rfl rfl hd_Md_walks ⟨Nat.le_of_ble_eq_true rfl, Nat.le_of_ble_eq_true rfl⟩) hNw hK hP hD hS hA (ci := 7) rfl rfl rfl [0, 1, 2, 3, 4, 5, 6, 7, 8, 9, 10, 11, 12, 13, 14, 15, 16, 17, 18, 19, 20, 21, 22, 23] [] rfl rfl rfl rfl rfl (by decide +kernel) (by decide +kernel) rfl hl.1 rfl (Nat.le_of_ble_eq_true rfl) rfl d_Md_look_163 ⟨Nat.zero_le _, Nat.zero_le _⟩ (fun H locs hP hD hS => ?_)
        refine lv_aload_n hx hb d_Md_look_166 rfl (lv_at hl 0 rfl) ?_
        refine lv_iconst (v := 0) hx hb d_Md_look_167 (by decide) ?_
        refine va_put (D := (dC, dI)) (ci := 7) (v := .int (0 : Int32)) (ty := .int) (C := R_Md) (T := F_Md) (N := 35) hx hb hts inb_Md ft_Md ft_Md_ok n_Md hown hK hP hD hS 0 rfl rfl 30 (by decide) (hts _ tw717) (fun _ h9 => h9) rfl (by decide +kernel) rfl rfl (Nat.le_of_ble_eq_true rfl) d_Md_look_168 (fun H locs hP hD hS => ?_)
        have hP : va_P (dC, dI) classes (cMd cI cJ cZ a mb s19.2.1 y163 ((0 : Int32), (Mf_faultKind s19.2.2.2), (Mf_faultNode s19.2.2.2), (Mf_noted s19.2.2.2), (Mf_notes s19.2.2.2))) H := hP
        have hD : va_D A (cMd cI cJ cZ a mb s19.2.1 y163 ((0 : Int32), (Mf_faultKind s19.2.2.2), (Mf_faultNode s19.2.2.2), (Mf_noted s19.2.2.2), (Mf_notes s19.2.2.2))) := hD
        refine lv_aload_n hx hb d_Md_look_171 rfl (lv_at hl 0 rfl) ?_
        refine lv_iconst (v := 0) hx hb d_Md_look_172 (by decide) ?_
        refine va_put (D := (dC, dI)) (ci := 7) (v := .int (0 : Int32)) (ty := .int) (C := R_Md) (T := F_Md) (N := 35) hx hb hts inb_Md ft_Md ft_Md_ok n_Md hown hK hP hD hS 0 rfl rfl 33 (by decide) (hts _ tw720) (fun _ h9 => h9) rfl (by decide +kernel) rfl rfl (Nat.le_of_ble_eq_true rfl) d_Md_look_173 (fun H locs hP hD hS => ?_)
        have hP : va_P (dC, dI) classes (cMd cI cJ cZ a mb s19.2.1 y163 ((0 : Int32), (Mf_faultKind s19.2.2.2), (Mf_faultNode s19.2.2.2), (0 : Int32), (Mf_notes s19.2.2.2))) H := hP
        have hD : va_D A (cMd cI cJ cZ a mb s19.2.1 y163 ((0 : Int32), (Mf_faultKind s19.2.2.2), (Mf_faultNode s19.2.2.2), (0 : Int32), (Mf_notes s19.2.2.2))) := hD
        refine lv_iconst (v := 0) hx hb d_Md_look_176 (by decide) ?_
        refine lv_istore_n (lv' := [(2, .int (0 : Int32)), (0, .ref (a 0))]) hx hb d_Md_look_177 rfl hl (by decide) rfl (fun ls hl => ?_)
        exact L178 N ((0 : Int32), s19.2.1, y163, ((0 : Int32), (Mf_faultKind s19.2.2.2), (Mf_faultNode s19.2.2.2), (0 : Int32), (Mf_notes s19.2.2.2))) _ _ _ h hP hD hS (lv_sub hl [1, 0] rfl)
      · have h := o_f hc h
        refine lv_aload_n hx hb d_Md_look_27 rfl (lv_at hl 0 rfl) ?_
        refine va_get (D := (dC, dI)) (ci := 7) (v := .ref (a 13)) (C := R_Md) (T := F_Md) (N := 35) hx hb hts inb_Md hown hK hP 0 rfl rfl 21 (by decide) (hts _ tw708) (fun _ h9 => h9) rfl d_Md_look_28 ?_
        refine lv_iload_n hx hb d_Md_look_31 rfl (lv_at hl 1 rfl) ?_
        obtain ⟨hin, h⟩ := o_in h
        refine va_iald hx hb hK hP 13 0 rfl rfl hin d_Md_look_32 ?_
        refine lv_istore_n (lv' := [(3, .int ((Mg_order s19.2.1) s19.1.toNatClampNeg)), (0, .ref (a 0)), (2, .int s19.1)]) hx hb d_Md_look_33 rfl hl (by decide) rfl (fun ls hl => ?_)
        refine lv_aload_n hx hb d_Md_look_34 rfl (lv_at hl 1 rfl) ?_
        refine va_get (D := (dC, dI)) (ci := 7) (v := .ref (a 16)) (C := R_Md) (T := F_Md) (N := 35) hx hb hts inb_Md hown hK hP 0 rfl rfl 24 (by decide) (hts _ tw711) (fun _ h9 => h9) rfl d_Md_look_35 ?_
        refine lv_iload_n hx hb d_Md_look_38 rfl (lv_at hl 0 rfl) ?_
        refine lv_iconst (v := 0) hx hb d_Md_look_39 (by decide) ?_
        obtain ⟨hin, h⟩ := o_in h
        refine va_zast hx hb hK hP hD hS 16 2 rfl rfl hin d_Md_look_40 (fun H locs hP hD hS => ?_)
        have hP : va_P (dC, dI) classes (cMd cI cJ cZ a mb s19.2.1 ((upd (Mx_isReached s19.2.2.1) ((Mg_order s19.2.1) s19.1.toNatClampNeg).toNatClampNeg (vp_nar .boolean (0 : Int32))), (Mx_isComplete s19.2.2.1), (Mx_throwable s19.2.2.1), (Mx_isCome s19.2.2.1), (Mx_ended s19.2.2.1), (Mx_isNew s19.2.2.1)) s19.2.2.2) H := hP
        have hD : va_D A (cMd cI cJ cZ a mb s19.2.1 ((upd (Mx_isReached s19.2.2.1) ((Mg_order s19.2.1) s19.1.toNatClampNeg).toNatClampNeg (vp_nar .boolean (0 : Int32))), (Mx_isComplete s19.2.2.1), (Mx_throwable s19.2.2.1), (Mx_isCome s19.2.2.1), (Mx_ended s19.2.2.1), (Mx_isNew s19.2.2.1)) s19.2.2.2) := hD
        refine lv_aload_n hx hb d_Md_look_41 rfl (lv_at hl 1 rfl) ?_
        refine va_get (D := (dC, dI)) (ci := 7) (v := .ref (a 17)) (C := R_Md) (T := F_Md) (N := 35) hx hb hts inb_Md hown hK hP 0 rfl rfl 25 (by decide) (hts _ tw712) (fun _ h9 => h9) rfl d_Md_look_42 ?_
        refine lv_iload_n hx hb d_Md_look_45 rfl (lv_at hl 0 rfl) ?_
        refine lv_iconst (v := 0) hx hb d_Md_look_46 (by decide) ?_
        obtain ⟨hin, h⟩ := o_in h
        refine va_zast hx hb hK hP hD hS 17 2 rfl rfl hin d_Md_look_47 (fun H locs hP hD hS => ?_)
        have hP : va_P (dC, dI) classes (cMd cI cJ cZ a mb s19.2.1 ((upd (Mx_isReached s19.2.2.1) ((Mg_order s19.2.1) s19.1.toNatClampNeg).toNatClampNeg (vp_nar .boolean (0 : Int32))), (upd (Mx_isComplete s19.2.2.1) ((Mg_order s19.2.1) s19.1.toNatClampNeg).toNatClampNeg (vp_nar .boolean (0 : Int32))), (Mx_throwable s19.2.2.1), (Mx_isCome s19.2.2.1), (Mx_ended s19.2.2.1), (Mx_isNew s19.2.2.1)) s19.2.2.2) H := hP
        have hD : va_D A (cMd cI cJ cZ a mb s19.2.1 ((upd (Mx_isReached s19.2.2.1) ((Mg_order s19.2.1) s19.1.toNatClampNeg).toNatClampNeg (vp_nar .boolean (0 : Int32))), (upd (Mx_isComplete s19.2.2.1) ((Mg_order s19.2.1) s19.1.toNatClampNeg).toNatClampNeg (vp_nar .boolean (0 : Int32))), (Mx_throwable s19.2.2.1), (Mx_isCome s19.2.2.1), (Mx_ended s19.2.2.1), (Mx_isNew s19.2.2.1)) s19.2.2.2) := hD
        refine lv_aload_n hx hb d_Md_look_48 rfl (lv_at hl 1 rfl) ?_
        refine va_get (D := (dC, dI)) (ci := 7) (v := .ref (a 19)) (C := R_Md) (T := F_Md) (N := 35) hx hb hts inb_Md hown hK hP 0 rfl rfl 27 (by decide) (hts _ tw714) (fun _ h9 => h9) rfl d_Md_look_49 ?_
        refine lv_iload_n hx hb d_Md_look_52 rfl (lv_at hl 0 rfl) ?_
        refine lv_iconst (v := 0) hx hb d_Md_look_53 (by decide) ?_
        obtain ⟨hin, h⟩ := o_in h
        refine va_zast hx hb hK hP hD hS 19 2 rfl rfl hin d_Md_look_54 (fun H locs hP hD hS => ?_)
        have hP : va_P (dC, dI) classes (cMd cI cJ cZ a mb s19.2.1 ((upd (Mx_isReached s19.2.2.1) ((Mg_order s19.2.1) s19.1.toNatClampNeg).toNatClampNeg (vp_nar .boolean (0 : Int32))), (upd (Mx_isComplete s19.2.2.1) ((Mg_order s19.2.1) s19.1.toNatClampNeg).toNatClampNeg (vp_nar .boolean (0 : Int32))), (Mx_throwable s19.2.2.1), (upd (Mx_isCome s19.2.2.1) ((Mg_order s19.2.1) s19.1.toNatClampNeg).toNatClampNeg (vp_nar .boolean (0 : Int32))), (Mx_ended s19.2.2.1), (Mx_isNew s19.2.2.1)) s19.2.2.2) H := hP
        have hD : va_D A (cMd cI cJ cZ a mb s19.2.1 ((upd (Mx_isReached s19.2.2.1) ((Mg_order s19.2.1) s19.1.toNatClampNeg).toNatClampNeg (vp_nar .boolean (0 : Int32))), (upd (Mx_isComplete s19.2.2.1) ((Mg_order s19.2.1) s19.1.toNatClampNeg).toNatClampNeg (vp_nar .boolean (0 : Int32))), (Mx_throwable s19.2.2.1), (upd (Mx_isCome s19.2.2.1) ((Mg_order s19.2.1) s19.1.toNatClampNeg).toNatClampNeg (vp_nar .boolean (0 : Int32))), (Mx_ended s19.2.2.1), (Mx_isNew s19.2.2.1)) s19.2.2.2) := hD
        refine lv_iconst (v := 0) hx hb d_Md_look_55 (by decide) ?_
        refine lv_istore (lv' := [(4, .int (0 : Int32)), (3, .int ((Mg_order s19.2.1) s19.1.toNatClampNeg)), (0, .ref (a 0)), (2, .int s19.1)]) hx hb d_Md_look_56 hl (by decide) rfl (fun ls hl => ?_)
        exact L58 s19.1 ((Mg_order s19.2.1) s19.1.toNatClampNeg) N ((0 : Int32), s19.2.1, ((upd (Mx_isReached s19.2.2.1) ((Mg_order s19.2.1) s19.1.toNatClampNeg).toNatClampNeg (vp_nar .boolean (0 : Int32))), (upd (Mx_isComplete s19.2.2.1) ((Mg_order s19.2.1) s19.1.toNatClampNeg).toNatClampNeg (vp_nar .boolean (0 : Int32))), (Mx_throwable s19.2.2.1), (upd (Mx_isCome s19.2.2.1) ((Mg_order s19.2.1) s19.1.toNatClampNeg).toNatClampNeg (vp_nar .boolean (0 : Int32))), (Mx_ended s19.2.2.1), (Mx_isNew s19.2.2.1)), s19.2.2.2) _ _ _ h hP hD hS (lv_sub hl [2, 3, 1, 0] rfl)
  refine lv_aload_n hx hb d_Md_look_0 rfl (lv_at hl 0 rfl) ?_
  refine lv_iload_n hx hb d_Md_look_1 rfl (lv_at hl 1 rfl) ?_
  refine va_put (D := (dC, dI)) (ci := 7) (v := .int x1) (ty := .int) (C := R_Md) (T := F_Md) (N := 35) hx hb hts inb_Md ft_Md ft_Md_ok n_Md hown hK hP hD hS 0 rfl rfl 18 (by decide) (hts _ tw705) (fun _ h9 => h9) rfl (by decide +kernel) rfl rfl (Nat.le_of_ble_eq_true rfl) d_Md_look_2 (fun H locs hP hD hS => ?_)
  have hP : va_P (dC, dI) classes (cMd cI cJ cZ a mb (x1, (Mg_rooted mg), (Mg_knownKinds mg), (Mg_order mg), (Mg_inRoot mg), (Mg_targets mg)) mx mf) H := hP
  have hD : va_D A (cMd cI cJ cZ a mb (x1, (Mg_rooted mg), (Mg_knownKinds mg), (Mg_order mg), (Mg_inRoot mg), (Mg_targets mg)) mx mf) := hD
  refine lv_aload_n hx hb d_Md_look_5 rfl (lv_at hl 0 rfl) ?_
  refine lv_aload_n hx hb d_Md_look_6 rfl (lv_at hl 0 rfl) ?_
  refine va_get (D := (dC, dI)) (ci := 7) (v := .int (Mb_kinds mb)) (C := R_Md) (T := F_Md) (N := 35) hx hb hts inb_Md hown hK hP 0 rfl rfl 0 (by decide) (hts _ tw687) (fun _ h9 => h9) rfl d_Md_look_7 ?_
  refine va_put (D := (dC, dI)) (ci := 7) (v := .int (Mb_kinds mb)) (ty := .int) (C := R_Md) (T := F_Md) (N := 35) hx hb hts inb_Md ft_Md ft_Md_ok n_Md hown hK hP hD hS 0 rfl rfl 20 (by decide) (hts _ tw707) (fun _ h9 => h9) rfl (by decide +kernel) rfl rfl (Nat.le_of_ble_eq_true rfl) d_Md_look_10 (fun H locs hP hD hS => ?_)
  have hP : va_P (dC, dI) classes (cMd cI cJ cZ a mb (x1, (Mg_rooted mg), (Mb_kinds mb), (Mg_order mg), (Mg_inRoot mg), (Mg_targets mg)) mx mf) H := hP
  have hD : va_D A (cMd cI cJ cZ a mb (x1, (Mg_rooted mg), (Mb_kinds mb), (Mg_order mg), (Mg_inRoot mg), (Mg_targets mg)) mx mf) := hD
  refine lv_aload_n hx hb d_Md_look_13 rfl (lv_at hl 0 rfl) ?_
  obtain ⟨y14, hy, h⟩ := o_bd h
  refine kdV (nn := 24) (rest := []) (w' := (cMd cI cJ cZ a mb y14 mx mf)) (wr := ([] : va_W)) (st1 := []) ⟨hx, hb, hml, hown, hts⟩ (c_Md_line l dC dI cI cJ cZ a N mb (x1, (Mg_rooted mg), (Mb_kinds mb), (Mg_order mg), (Mg_inRoot mg), (Mg_targets mg)) mx mf y14 hy) (cwV 0 hts (gd_V tw889 tw891 ps28 tw9 tw892) rfl rfl rfl hd_Md_line ⟨Nat.le_of_ble_eq_true rfl, Nat.le_of_ble_eq_true rfl⟩) hNw hK hP hD hS hA (ci := 7) rfl rfl rfl [0, 1, 2, 3, 4, 5, 6, 7, 8, 9, 10, 11, 12, 13, 14, 15, 16, 17, 18, 19, 20, 21, 22, 23] [] rfl rfl rfl rfl rfl (by decide +kernel) (by decide +kernel) rfl hl.1 rfl (Nat.le_of_ble_eq_true rfl) rfl d_Md_look_14 ⟨Nat.zero_le _, Nat.zero_le _⟩ (fun H locs hP hD hS => ?_)
  refine lv_iconst (v := 0) hx hb d_Md_look_17 (by decide) ?_
  refine lv_istore_n (lv' := [(2, .int (0 : Int32)), (0, .ref (a 0)), (1, .int x1)]) hx hb d_Md_look_18 rfl hl (by decide) rfl (fun ls hl => ?_)
  exact L19 N ((0 : Int32), y14, mx, mf) _ _ _ h hP hD hS (lv_sub hl [1, 0] rfl)
set_option maxHeartbeats 4000000 in
set_option maxRecDepth 100000 in
theorem c_Md_check (l : Launch) (dC : Nat → ClassId) (dI : Nat → Nat → Nat) (cI cJ cZ : ClassId) (a : Nat → Nat) (N : Nat) (x1 : Int32) (mb : MbS) (mg : MgS) (mx : MxS) (mf : MfS) (res : Int32 × MgS × MxS × MfS) (h : f_Md_check N x1 mb mg mx mf = some res) :
    Kt l (dC, dI) classes [(cI, .int), (cJ, .long), (cZ, .boolean)] y_Md_check (wz y_Md_check b_Md_check 2 (some .int)) { frames := 8, cells := 0, slots := 0, locals := 178 } [.ref (a 0), .int x1] (cMd cI cJ cZ a mb mg mx mf) (some (.int res.1)) (cMd cI cJ cZ a mb res.2.1 res.2.2.1 res.2.2.2) := by
  refine Kt_of (cc := b_Md_check) (maxL := 2) (ret := (some .int)) (by decide) (Nat.le_of_ble_eq_true rfl) ?_
  intro p e s m args below meth c A ls hx hb hr hml hlocks hown hts hNw hK hP hD hA hS hl
  have hl : lv_has ls 2 [(0, .ref (a 0)), (1, .int x1)] := hl
  have hP : va_P (dC, dI) classes (cMd cI cJ cZ a mb mg mx mf) s.heap := hP
  refine lv_aload_n hx hb d_Md_check_0 rfl (lv_at hl 0 rfl) ?_
  refine lv_iload_n hx hb d_Md_check_1 rfl (lv_at hl 1 rfl) ?_
  obtain ⟨y2, hy, h⟩ := o_bd h
  refine kdV (nn := 24) (rest := []) (w' := (cMd cI cJ cZ a mb mg mx mf)) (wr := ([] : va_W)) (st1 := [.int y2]) ⟨hx, hb, hml, hown, hts⟩ (c_Md_isNode l dC dI cI cJ cZ a x1 mb mg mx mf y2 hy) (cwV 1 hts (gd_V tw821 tw823 ps21 tw9 tw824) rfl rfl rfl hd_Md_isNode ⟨Nat.le_of_ble_eq_true rfl, Nat.le_of_ble_eq_true rfl⟩) hNw hK hP hD hS hA (ci := 7) rfl rfl rfl [0, 1, 2, 3, 4, 5, 6, 7, 8, 9, 10, 11, 12, 13, 14, 15, 16, 17, 18, 19, 20, 21, 22, 23] [] rfl rfl rfl rfl rfl (by decide +kernel) (by decide +kernel) rfl hl.1 rfl (Nat.le_of_ble_eq_true rfl) rfl d_Md_check_2 ⟨Nat.zero_le _, Nat.zero_le _⟩ (fun H locs hP hD hS => ?_)
  refine lv_if_ne (tgt := 11) hx hb d_Md_check_5 (by decide) (fun hc => ?_) (fun hc => ?_)
  · have h := o_f hc h
    refine lv_aload_n hx hb d_Md_check_11 rfl (lv_at hl 0 rfl) ?_
    refine lv_iload_n hx hb d_Md_check_12 rfl (lv_at hl 1 rfl) ?_
    obtain ⟨y13, hy, h⟩ := o_bd h
    refine kdV (nn := 24) (rest := []) (w' := (cMd cI cJ cZ a mb y13.1 y13.2.1 y13.2.2)) (wr := ([] : va_W)) (st1 := []) ⟨hx, hb, hml, hown, hts⟩ (c_Md_look l dC dI cI cJ cZ a N x1 mb mg mx mf y13 hy) (cwV 1 hts (gd_V tw885 tw887 ps27 tw9 tw888) rfl rfl rfl hd_Md_look ⟨Nat.le_of_ble_eq_true rfl, Nat.le_of_ble_eq_true rfl⟩) hNw hK hP hD hS hA (ci := 7) rfl rfl rfl [0, 1, 2, 3, 4, 5, 6, 7, 8, 9, 10, 11, 12, 13, 14, 15, 16, 17, 18, 19, 20, 21, 22, 23] [] rfl rfl rfl rfl rfl (by decide +kernel) (by decide +kernel) rfl hl.1 rfl (Nat.le_of_ble_eq_true rfl) rfl d_Md_check_13 ⟨Nat.zero_le _, Nat.zero_le _⟩ (fun H locs hP hD hS => ?_)
    refine lv_aload_n hx hb d_Md_check_16 rfl (lv_at hl 0 rfl) ?_
    refine va_get (D := (dC, dI)) (ci := 7) (v := .int (Mf_faults y13.2.2)) (C := R_Md) (T := F_Md) (N := 35) hx hb hts inb_Md hown hK hP 0 rfl rfl 30 (by decide) (hts _ tw717) (fun _ h9 => h9) rfl d_Md_check_17 ?_
    cases h
    exact kr_i hx hb hr hlocks hP hD hS d_Md_check_20
  · have h := o_t hc h
    refine lv_bipush (v := -2) hx hb d_Md_check_8 (by decide) ?_
    cases h
    exact kr_i hx hb hr hlocks hP hD hS d_Md_check_10
