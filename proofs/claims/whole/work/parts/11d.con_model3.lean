set_option maxHeartbeats 4000000 in
set_option maxRecDepth 100000 in
theorem c_Md_isWhole (l : Launch) (dC : Nat → ClassId) (dI : Nat → Nat → Nat) (cI cJ cZ : ClassId) (a : Nat → Nat) (N : Nat) (x1 : Int32) (mb : MbS) (mg : MgS) (mx : MxS) (mf : MfS) (res : Int32) (h : f_Md_isWhole N x1 mb = some res) :
    Kt l (dC, dI) classes [(cI, .int), (cJ, .long), (cZ, .boolean)] y_Md_isWhole (wz y_Md_isWhole b_Md_isWhole 4 (some .boolean)) { frames := 0, cells := 0, slots := 0, locals := 0 } [.ref (a 0), .int x1] (cMd cI cJ cZ a mb mg mx mf) (some (.int res)) (cMd cI cJ cZ a mb mg mx mf) := by
  refine Kt_of (cc := b_Md_isWhole) (maxL := 4) (ret := (some .boolean)) (by decide) (Nat.le_of_ble_eq_true rfl) ?_
  intro p e s m args below meth c A ls hx hb hr hml hlocks hown hts hNw hK hP hD hA hS hl
  have hl : lv_has ls 4 [(0, .ref (a 0)), (1, .int x1)] := hl
  have hP : va_P (dC, dI) classes (cMd cI cJ cZ a mb mg mx mf) s.heap := hP
  have L23 : ∀ (n23 : Nat) (s23 : Int32 × Int32) (H : Heap) (locs : List Loc) (ls : Array Slot), lp (f_Md_isWhole_L23 N mb) n23 s23 = some res → va_P (dC, dI) classes (cMd cI cJ cZ a mb mg mx mf) H → va_D A (cMd cI cJ cZ a mb mg mx mf) → va_S A s.heap H locs → lv_has ls 4 [(0, .ref (a 0)), (2, .int s23.1), (3, .int s23.2)] → W p l e { frames := 0, cells := 0, slots := 0, locals := 0 } s m args below meth c H locs 0 0 (KZ below args s (dC, dI) classes (some (.int res)) (cMd cI cJ cZ a mb mg mx mf) A) (F0 m 23 ls []) := by
    intro n23
    induction n23 with
    | zero => intro _ _ _ _ h; exact (lp_0 h).elim
    | succ n23 ih23 =>
      intro s23 H locs ls h hP hD hS hl
      have h := lp_s h
      have B47 : ∀ (z0_47 : Int32) (x3_47 : Int32) (H : Heap) (locs : List Loc) (ls : Array Slot), f_Md_isWhole_b47 N (lp (f_Md_isWhole_L23 N mb) n23) z0_47 x3_47 mb = some res → va_P (dC, dI) classes (cMd cI cJ cZ a mb mg mx mf) H → va_D A (cMd cI cJ cZ a mb mg mx mf) → va_S A s.heap H locs → lv_has ls 4 [(0, .ref (a 0)), (3, .int x3_47)] → W p l e { frames := 0, cells := 0, slots := 0, locals := 0 } s m args below meth c H locs 0 0 (KZ below args s (dC, dI) classes (some (.int res)) (cMd cI cJ cZ a mb mg mx mf) A) (F0 m 47 ls [.int z0_47]) := by
        intro z0_47 x3_47 H locs ls h hP hD hS hl
        refine lv_istore_n (lv' := [(2, .int z0_47), (0, .ref (a 0)), (3, .int x3_47)]) hx hb d_Md_isWhole_47 rfl hl (by decide) rfl (fun ls hl => ?_)
        refine lv_aload_n hx hb d_Md_isWhole_48 rfl (lv_at hl 1 rfl) ?_
        refine va_get (D := (dC, dI)) (ci := 7) (v := .ref (a 8)) (C := R_Md) (T := F_Md) (N := 35) hx hb hts inb_Md hown hK hP 0 rfl rfl 9 (by decide) (hts _ tw696) (fun _ h9 => h9) rfl d_Md_isWhole_49 ?_
        refine lv_iload_n hx hb d_Md_isWhole_52 rfl (lv_at hl 2 rfl) ?_
        obtain ⟨hin, h⟩ := o_in h
        refine va_iald hx hb hK hP 8 0 rfl rfl hin d_Md_isWhole_53 ?_
        refine lv_istore_n (lv' := [(3, .int ((Mb_next mb) x3_47.toNatClampNeg)), (2, .int z0_47), (0, .ref (a 0))]) hx hb d_Md_isWhole_54 rfl hl (by decide) rfl (fun ls hl => ?_)
        refine lv_goto (tgt := 23) hx hb d_Md_isWhole_55 (by decide) ?_
        exact ih23 (z0_47, ((Mb_next mb) x3_47.toNatClampNeg)) _ _ _ h hP hD hS (lv_sub hl [2, 1, 0] rfl)
      have B42 : ∀ (x3_42 : Int32) (H : Heap) (locs : List Loc) (ls : Array Slot), f_Md_isWhole_b42 N (lp (f_Md_isWhole_L23 N mb) n23) x3_42 mb = some res → va_P (dC, dI) classes (cMd cI cJ cZ a mb mg mx mf) H → va_D A (cMd cI cJ cZ a mb mg mx mf) → va_S A s.heap H locs → lv_has ls 4 [(0, .ref (a 0)), (3, .int x3_42)] → W p l e { frames := 0, cells := 0, slots := 0, locals := 0 } s m args below meth c H locs 0 0 (KZ below args s (dC, dI) classes (some (.int res)) (cMd cI cJ cZ a mb mg mx mf) A) (F0 m 42 ls []) := by
        intro x3_42 H locs ls h hP hD hS hl
        refine lv_iconst (v := 1) hx hb d_Md_isWhole_42 (by decide) ?_
        refine lv_goto (tgt := 47) hx hb d_Md_isWhole_43 (by decide) ?_
        exact B47 (1 : Int32) x3_42 _ _ _ h hP hD hS (lv_sub hl [0, 1] rfl)
      refine lv_iload_n hx hb d_Md_isWhole_23 rfl (lv_at hl 2 rfl) ?_
      refine lv_iconst (v := -1) hx hb d_Md_isWhole_24 (by decide) ?_
      refine lv_icmp_eq (tgt := 58) hx hb d_Md_isWhole_25 (by decide) (fun hc => ?_) (fun hc => ?_)
      · have h := o_t hc h
        refine lv_iload_n hx hb d_Md_isWhole_58 rfl (lv_at hl 1 rfl) ?_
        obtain ⟨hbo, h⟩ := o_bo h
        cases h
        exact kr_z hx hb hr hbo hlocks hP hD hS d_Md_isWhole_59
      · have h := o_f hc h
        refine lv_iload_n hx hb d_Md_isWhole_28 rfl (lv_at hl 1 rfl) ?_
        refine lv_if_ne (tgt := 42) hx hb d_Md_isWhole_29 (by decide) (fun hc => ?_) (fun hc => ?_)
        · have h := o_f hc h
          exact B42 s23.2 _ _ _ h hP hD hS (lv_sub hl [0, 2] rfl)
        · have h := o_t hc h
          refine lv_aload_n hx hb d_Md_isWhole_32 rfl (lv_at hl 0 rfl) ?_
          refine va_get (D := (dC, dI)) (ci := 7) (v := .ref (a 5)) (C := R_Md) (T := F_Md) (N := 35) hx hb hts inb_Md hown hK hP 0 rfl rfl 6 (by decide) (hts _ tw693) (fun _ h9 => h9) rfl d_Md_isWhole_33 ?_
          refine lv_iload_n hx hb d_Md_isWhole_36 rfl (lv_at hl 2 rfl) ?_
          obtain ⟨hin, h⟩ := o_in h
          refine va_iald hx hb hK hP 5 0 rfl rfl hin d_Md_isWhole_37 ?_
          refine lv_iconst (v := 2) hx hb d_Md_isWhole_38 (by decide) ?_
          refine lv_icmp_ne (tgt := 46) hx hb d_Md_isWhole_39 (by decide) (fun hc => ?_) (fun hc => ?_)
          · have h := o_f hc h
            refine lv_iconst (v := 0) hx hb d_Md_isWhole_46 (by decide) ?_
            exact B47 (0 : Int32) s23.2 _ _ _ h hP hD hS (lv_sub hl [0, 2] rfl)
          · have h := o_t hc h
            exact B42 s23.2 _ _ _ h hP hD hS (lv_sub hl [0, 2] rfl)
  have B15 : ∀ (z0_15 : Int32) (x1_15 : Int32) (H : Heap) (locs : List Loc) (ls : Array Slot), f_Md_isWhole_b15 N z0_15 x1_15 mb = some res → va_P (dC, dI) classes (cMd cI cJ cZ a mb mg mx mf) H → va_D A (cMd cI cJ cZ a mb mg mx mf) → va_S A s.heap H locs → lv_has ls 4 [(0, .ref (a 0)), (1, .int x1_15)] → W p l e { frames := 0, cells := 0, slots := 0, locals := 0 } s m args below meth c H locs 0 0 (KZ below args s (dC, dI) classes (some (.int res)) (cMd cI cJ cZ a mb mg mx mf) A) (F0 m 15 ls [.int z0_15]) := by
    intro z0_15 x1_15 H locs ls h hP hD hS hl
    refine lv_istore_n (lv' := [(2, .int z0_15), (0, .ref (a 0)), (1, .int x1_15)]) hx hb d_Md_isWhole_15 rfl hl (by decide) rfl (fun ls hl => ?_)
    refine lv_aload_n hx hb d_Md_isWhole_16 rfl (lv_at hl 1 rfl) ?_
    refine va_get (D := (dC, dI)) (ci := 7) (v := .ref (a 6)) (C := R_Md) (T := F_Md) (N := 35) hx hb hts inb_Md hown hK hP 0 rfl rfl 7 (by decide) (hts _ tw694) (fun _ h9 => h9) rfl d_Md_isWhole_17 ?_
    refine lv_iload_n hx hb d_Md_isWhole_20 rfl (lv_at hl 2 rfl) ?_
    obtain ⟨hin, h⟩ := o_in h
    refine va_iald hx hb hK hP 6 0 rfl rfl hin d_Md_isWhole_21 ?_
    refine lv_istore_n (lv' := [(3, .int ((Mb_first mb) x1_15.toNatClampNeg)), (2, .int z0_15), (0, .ref (a 0)), (1, .int x1_15)]) hx hb d_Md_isWhole_22 rfl hl (by decide) rfl (fun ls hl => ?_)
    exact L23 N (z0_15, ((Mb_first mb) x1_15.toNatClampNeg)) _ _ _ h hP hD hS (lv_sub hl [2, 1, 0] rfl)
  refine lv_aload_n hx hb d_Md_isWhole_0 rfl (lv_at hl 0 rfl) ?_
  refine va_get (D := (dC, dI)) (ci := 7) (v := .ref (a 11)) (C := R_Md) (T := F_Md) (N := 35) hx hb hts inb_Md hown hK hP 0 rfl rfl 12 (by decide) (hts _ tw699) (fun _ h9 => h9) rfl d_Md_isWhole_1 ?_
  refine lv_iload_n hx hb d_Md_isWhole_4 rfl (lv_at hl 1 rfl) ?_
  obtain ⟨hin, h⟩ := o_in h
  refine va_iald hx hb hK hP 11 0 rfl rfl hin d_Md_isWhole_5 ?_
  refine lv_iconst (v := 2) hx hb d_Md_isWhole_6 (by decide) ?_
  refine lv_icmp_ne (tgt := 14) hx hb d_Md_isWhole_7 (by decide) (fun hc => ?_) (fun hc => ?_)
  · have h := o_f hc h
    refine lv_iconst (v := 0) hx hb d_Md_isWhole_14 (by decide) ?_
    exact B15 (0 : Int32) x1 _ _ _ h hP hD hS (lv_sub hl [0, 1] rfl)
  · have h := o_t hc h
    refine lv_iconst (v := 1) hx hb d_Md_isWhole_10 (by decide) ?_
    refine lv_goto (tgt := 15) hx hb d_Md_isWhole_11 (by decide) ?_
    exact B15 (1 : Int32) x1 _ _ _ h hP hD hS (lv_sub hl [0, 1] rfl)
set_option maxHeartbeats 4000000 in
set_option maxRecDepth 100000 in
theorem c_Md_triesComplete (l : Launch) (dC : Nat → ClassId) (dI : Nat → Nat → Nat) (cI cJ cZ : ClassId) (a : Nat → Nat) (N : Nat) (x1 : Int32) (mb : MbS) (mg : MgS) (mx : MxS) (mf : MfS) (res : Int32) (h : f_Md_triesComplete N x1 mb mx = some res) :
    Kt l (dC, dI) classes [(cI, .int), (cJ, .long), (cZ, .boolean)] y_Md_triesComplete (wz y_Md_triesComplete b_Md_triesComplete 5 (some .boolean)) { frames := 0, cells := 0, slots := 0, locals := 0 } [.ref (a 0), .int x1] (cMd cI cJ cZ a mb mg mx mf) (some (.int res)) (cMd cI cJ cZ a mb mg mx mf) := by
  refine Kt_of (cc := b_Md_triesComplete) (maxL := 5) (ret := (some .boolean)) (by decide) (Nat.le_of_ble_eq_true rfl) ?_
  intro p e s m args below meth c A ls hx hb hr hml hlocks hown hts hNw hK hP hD hA hS hl
  have hl : lv_has ls 5 [(0, .ref (a 0)), (1, .int x1)] := hl
  have hP : va_P (dC, dI) classes (cMd cI cJ cZ a mb mg mx mf) s.heap := hP
  have L30 : ∀ (x2_30 : Int32) (n30 : Nat) (s30 : Int32 × Int32) (H : Heap) (locs : List Loc) (ls : Array Slot), lp (f_Md_triesComplete_L30 N x2_30 mb mx) n30 s30 = some res → va_P (dC, dI) classes (cMd cI cJ cZ a mb mg mx mf) H → va_D A (cMd cI cJ cZ a mb mg mx mf) → va_S A s.heap H locs → lv_has ls 5 [(0, .ref (a 0)), (2, .int x2_30), (3, .int s30.1), (4, .int s30.2)] → W p l e { frames := 0, cells := 0, slots := 0, locals := 0 } s m args below meth c H locs 0 0 (KZ below args s (dC, dI) classes (some (.int res)) (cMd cI cJ cZ a mb mg mx mf) A) (F0 m 30 ls []) := by
    intro x2_30 n30
    induction n30 with
    | zero => intro _ _ _ _ h; exact (lp_0 h).elim
    | succ n30 ih30 =>
      intro s30 H locs ls h hP hD hS hl
      have h := lp_s h
      have B55 : ∀ (z0_55 : Int32) (x4_55 : Int32) (H : Heap) (locs : List Loc) (ls : Array Slot), f_Md_triesComplete_b55 N (lp (f_Md_triesComplete_L30 N x2_30 mb mx) n30) z0_55 x2_30 x4_55 mb mx = some res → va_P (dC, dI) classes (cMd cI cJ cZ a mb mg mx mf) H → va_D A (cMd cI cJ cZ a mb mg mx mf) → va_S A s.heap H locs → lv_has ls 5 [(0, .ref (a 0)), (2, .int x2_30), (4, .int x4_55)] → W p l e { frames := 0, cells := 0, slots := 0, locals := 0 } s m args below meth c H locs 0 0 (KZ below args s (dC, dI) classes (some (.int res)) (cMd cI cJ cZ a mb mg mx mf) A) (F0 m 55 ls [.int z0_55]) := by
        intro z0_55 x4_55 H locs ls h hP hD hS hl
        refine lv_istore_n (lv' := [(3, .int z0_55), (0, .ref (a 0)), (2, .int x2_30), (4, .int x4_55)]) hx hb d_Md_triesComplete_55 rfl hl (by decide) rfl (fun ls hl => ?_)
        refine lv_aload_n hx hb d_Md_triesComplete_56 rfl (lv_at hl 1 rfl) ?_
        refine va_get (D := (dC, dI)) (ci := 7) (v := .ref (a 8)) (C := R_Md) (T := F_Md) (N := 35) hx hb hts inb_Md hown hK hP 0 rfl rfl 9 (by decide) (hts _ tw696) (fun _ h9 => h9) rfl d_Md_triesComplete_57 ?_
        refine lv_iload hx hb d_Md_triesComplete_60 (lv_at hl 3 rfl) ?_
        obtain ⟨hin, h⟩ := o_in h
        refine va_iald hx hb hK hP 8 0 rfl rfl hin d_Md_triesComplete_62 ?_
        refine lv_istore (lv' := [(4, .int ((Mb_next mb) x4_55.toNatClampNeg)), (3, .int z0_55), (0, .ref (a 0)), (2, .int x2_30)]) hx hb d_Md_triesComplete_63 hl (by decide) rfl (fun ls hl => ?_)
        refine lv_goto (tgt := 30) hx hb d_Md_triesComplete_65 (by decide) ?_
        exact ih30 (z0_55, ((Mb_next mb) x4_55.toNatClampNeg)) _ _ _ h hP hD hS (lv_sub hl [2, 3, 1, 0] rfl)
      have B50 : ∀ (x4_50 : Int32) (H : Heap) (locs : List Loc) (ls : Array Slot), f_Md_triesComplete_b50 N (lp (f_Md_triesComplete_L30 N x2_30 mb mx) n30) x2_30 x4_50 mb mx = some res → va_P (dC, dI) classes (cMd cI cJ cZ a mb mg mx mf) H → va_D A (cMd cI cJ cZ a mb mg mx mf) → va_S A s.heap H locs → lv_has ls 5 [(0, .ref (a 0)), (2, .int x2_30), (4, .int x4_50)] → W p l e { frames := 0, cells := 0, slots := 0, locals := 0 } s m args below meth c H locs 0 0 (KZ below args s (dC, dI) classes (some (.int res)) (cMd cI cJ cZ a mb mg mx mf) A) (F0 m 50 ls []) := by
        intro x4_50 H locs ls h hP hD hS hl
        refine lv_iconst (v := 1) hx hb d_Md_triesComplete_50 (by decide) ?_
        refine lv_goto (tgt := 55) hx hb d_Md_triesComplete_51 (by decide) ?_
        exact B55 (1 : Int32) x4_50 _ _ _ h hP hD hS (lv_sub hl [0, 1, 2] rfl)
      refine lv_iload hx hb d_Md_triesComplete_30 (lv_at hl 3 rfl) ?_
      refine lv_iload_n hx hb d_Md_triesComplete_32 rfl (lv_at hl 1 rfl) ?_
      refine lv_icmp_eq (tgt := 68) hx hb d_Md_triesComplete_33 (by decide) (fun hc => ?_) (fun hc => ?_)
      · have h := o_t hc h
        refine lv_iload_n hx hb d_Md_triesComplete_68 rfl (lv_at hl 2 rfl) ?_
        refine lv_if_eq (tgt := 90) hx hb d_Md_triesComplete_69 (by decide) (fun hc => ?_) (fun hc => ?_)
        · have h := o_t hc h
          refine lv_iconst (v := 0) hx hb d_Md_triesComplete_90 (by decide) ?_
          cases h
          exact kr_z hx hb hr (by decide) hlocks hP hD hS d_Md_triesComplete_91
        · have h := o_f hc h
          refine lv_iload_n hx hb d_Md_triesComplete_72 rfl (lv_at hl 1 rfl) ?_
          refine lv_iconst (v := -1) hx hb d_Md_triesComplete_73 (by decide) ?_
          refine lv_icmp_eq (tgt := 86) hx hb d_Md_triesComplete_74 (by decide) (fun hc => ?_) (fun hc => ?_)
          · have h := o_t hc h
            refine lv_iconst (v := 1) hx hb d_Md_triesComplete_86 (by decide) ?_
            refine lv_goto (tgt := 91) hx hb d_Md_triesComplete_87 (by decide) ?_
            cases h
            exact kr_z hx hb hr (by decide) hlocks hP hD hS d_Md_triesComplete_91
          · have h := o_f hc h
            refine lv_aload_n hx hb d_Md_triesComplete_77 rfl (lv_at hl 0 rfl) ?_
            refine va_get (D := (dC, dI)) (ci := 7) (v := .ref (a 17)) (C := R_Md) (T := F_Md) (N := 35) hx hb hts inb_Md hown hK hP 0 rfl rfl 25 (by decide) (hts _ tw712) (fun _ h9 => h9) rfl d_Md_triesComplete_78 ?_
            refine lv_iload_n hx hb d_Md_triesComplete_81 rfl (lv_at hl 1 rfl) ?_
            obtain ⟨hin, h⟩ := o_in h
            refine va_zald hx hb hK hP 17 2 rfl rfl hin d_Md_triesComplete_82 ?_
            refine lv_if_eq (tgt := 90) hx hb d_Md_triesComplete_83 (by decide) (fun hc => ?_) (fun hc => ?_)
            · have h := o_t hc h
              refine lv_iconst (v := 0) hx hb d_Md_triesComplete_90 (by decide) ?_
              cases h
              exact kr_z hx hb hr (by decide) hlocks hP hD hS d_Md_triesComplete_91
            · have h := o_f hc h
              refine lv_iconst (v := 1) hx hb d_Md_triesComplete_86 (by decide) ?_
              refine lv_goto (tgt := 91) hx hb d_Md_triesComplete_87 (by decide) ?_
              cases h
              exact kr_z hx hb hr (by decide) hlocks hP hD hS d_Md_triesComplete_91
      · have h := o_f hc h
        refine lv_iload_n hx hb d_Md_triesComplete_36 rfl (lv_at hl 2 rfl) ?_
        refine lv_if_ne (tgt := 50) hx hb d_Md_triesComplete_37 (by decide) (fun hc => ?_) (fun hc => ?_)
        · have h := o_f hc h
          exact B50 s30.2 _ _ _ h hP hD hS (lv_sub hl [0, 1, 3] rfl)
        · have h := o_t hc h
          refine lv_aload_n hx hb d_Md_triesComplete_40 rfl (lv_at hl 0 rfl) ?_
          refine va_get (D := (dC, dI)) (ci := 7) (v := .ref (a 17)) (C := R_Md) (T := F_Md) (N := 35) hx hb hts inb_Md hown hK hP 0 rfl rfl 25 (by decide) (hts _ tw712) (fun _ h9 => h9) rfl d_Md_triesComplete_41 ?_
          refine lv_iload hx hb d_Md_triesComplete_44 (lv_at hl 3 rfl) ?_
          obtain ⟨hin, h⟩ := o_in h
          refine va_zald hx hb hK hP 17 2 rfl rfl hin d_Md_triesComplete_46 ?_
          refine lv_if_eq (tgt := 54) hx hb d_Md_triesComplete_47 (by decide) (fun hc => ?_) (fun hc => ?_)
          · have h := o_t hc h
            refine lv_iconst (v := 0) hx hb d_Md_triesComplete_54 (by decide) ?_
            exact B55 (0 : Int32) s30.2 _ _ _ h hP hD hS (lv_sub hl [0, 1, 3] rfl)
          · have h := o_f hc h
            exact B50 s30.2 _ _ _ h hP hD hS (lv_sub hl [0, 1, 3] rfl)
  have B19 : ∀ (z0_19 : Int32) (x1_19 : Int32) (H : Heap) (locs : List Loc) (ls : Array Slot), f_Md_triesComplete_b19 N z0_19 x1_19 mb mx = some res → va_P (dC, dI) classes (cMd cI cJ cZ a mb mg mx mf) H → va_D A (cMd cI cJ cZ a mb mg mx mf) → va_S A s.heap H locs → lv_has ls 5 [(0, .ref (a 0)), (1, .int x1_19)] → W p l e { frames := 0, cells := 0, slots := 0, locals := 0 } s m args below meth c H locs 0 0 (KZ below args s (dC, dI) classes (some (.int res)) (cMd cI cJ cZ a mb mg mx mf) A) (F0 m 19 ls [.int z0_19]) := by
    intro z0_19 x1_19 H locs ls h hP hD hS hl
    refine lv_istore_n (lv' := [(2, .int z0_19), (0, .ref (a 0)), (1, .int x1_19)]) hx hb d_Md_triesComplete_19 rfl hl (by decide) rfl (fun ls hl => ?_)
    refine lv_iconst (v := 0) hx hb d_Md_triesComplete_20 (by decide) ?_
    refine lv_istore_n (lv' := [(3, .int (0 : Int32)), (2, .int z0_19), (0, .ref (a 0)), (1, .int x1_19)]) hx hb d_Md_triesComplete_21 rfl hl (by decide) rfl (fun ls hl => ?_)
    refine lv_aload_n hx hb d_Md_triesComplete_22 rfl (lv_at hl 2 rfl) ?_
    refine va_get (D := (dC, dI)) (ci := 7) (v := .ref (a 6)) (C := R_Md) (T := F_Md) (N := 35) hx hb hts inb_Md hown hK hP 0 rfl rfl 7 (by decide) (hts _ tw694) (fun _ h9 => h9) rfl d_Md_triesComplete_23 ?_
    refine lv_iload_n hx hb d_Md_triesComplete_26 rfl (lv_at hl 3 rfl) ?_
    obtain ⟨hin, h⟩ := o_in h
    refine va_iald hx hb hK hP 6 0 rfl rfl hin d_Md_triesComplete_27 ?_
    refine lv_istore (lv' := [(4, .int ((Mb_first mb) x1_19.toNatClampNeg)), (3, .int (0 : Int32)), (2, .int z0_19), (0, .ref (a 0)), (1, .int x1_19)]) hx hb d_Md_triesComplete_28 hl (by decide) rfl (fun ls hl => ?_)
    exact L30 z0_19 N ((0 : Int32), ((Mb_first mb) x1_19.toNatClampNeg)) _ _ _ h hP hD hS (lv_sub hl [3, 2, 1, 0] rfl)
  refine lv_aload_n hx hb d_Md_triesComplete_0 rfl (lv_at hl 0 rfl) ?_
  refine va_get (D := (dC, dI)) (ci := 7) (v := .ref (a 10)) (C := R_Md) (T := F_Md) (N := 35) hx hb hts inb_Md hown hK hP 0 rfl rfl 11 (by decide) (hts _ tw698) (fun _ h9 => h9) rfl d_Md_triesComplete_1 ?_
  refine lv_iload_n hx hb d_Md_triesComplete_4 rfl (lv_at hl 1 rfl) ?_
  obtain ⟨hin, h⟩ := o_in h
  refine va_zald hx hb hK hP 10 2 rfl rfl hin d_Md_triesComplete_5 ?_
  refine lv_if_eq (tgt := 18) hx hb d_Md_triesComplete_6 (by decide) (fun hc => ?_) (fun hc => ?_)
  · have h := o_t hc h
    refine lv_iconst (v := -1) hx hb d_Md_triesComplete_18 (by decide) ?_
    exact B19 (-1 : Int32) x1 _ _ _ h hP hD hS (lv_sub hl [0, 1] rfl)
  · have h := o_f hc h
    refine lv_aload_n hx hb d_Md_triesComplete_9 rfl (lv_at hl 0 rfl) ?_
    refine va_get (D := (dC, dI)) (ci := 7) (v := .ref (a 7)) (C := R_Md) (T := F_Md) (N := 35) hx hb hts inb_Md hown hK hP 0 rfl rfl 8 (by decide) (hts _ tw695) (fun _ h9 => h9) rfl d_Md_triesComplete_10 ?_
    refine lv_iload_n hx hb d_Md_triesComplete_13 rfl (lv_at hl 1 rfl) ?_
    obtain ⟨hin, h⟩ := o_in h
    refine va_iald hx hb hK hP 7 0 rfl rfl hin d_Md_triesComplete_14 ?_
    refine lv_goto (tgt := 19) hx hb d_Md_triesComplete_15 (by decide) ?_
    exact B19 ((Mb_last mb) x1.toNatClampNeg) x1 _ _ _ h hP hD hS (lv_sub hl [0, 1] rfl)
set_option maxHeartbeats 4000000 in
set_option maxRecDepth 100000 in
theorem c_Md_mustComplete (l : Launch) (dC : Nat → ClassId) (dI : Nat → Nat → Nat) (cI cJ cZ : ClassId) (a : Nat → Nat) (N : Nat) (x1 : Int32) (mb : MbS) (mg : MgS) (mx : MxS) (mf : MfS) (res : Int32) (h : f_Md_mustComplete N x1 mb mg mx = some res) :
    Kt l (dC, dI) classes [(cI, .int), (cJ, .long), (cZ, .boolean)] y_Md_mustComplete (wz y_Md_mustComplete b_Md_mustComplete 3 (some .boolean)) { frames := 3, cells := 0, slots := 0, locals := 70 } [.ref (a 0), .int x1] (cMd cI cJ cZ a mb mg mx mf) (some (.int res)) (cMd cI cJ cZ a mb mg mx mf) := by
  refine Kt_of (cc := b_Md_mustComplete) (maxL := 3) (ret := (some .boolean)) (by decide) (Nat.le_of_ble_eq_true rfl) ?_
  intro p e s m args below meth c A ls hx hb hr hml hlocks hown hts hNw hK hP hD hA hS hl
  have hl : lv_has ls 3 [(0, .ref (a 0)), (1, .int x1)] := hl
  have hP : va_P (dC, dI) classes (cMd cI cJ cZ a mb mg mx mf) s.heap := hP
  have B139 : ∀ (x1_139 : Int32) (x2_139 : Int32) (H : Heap) (locs : List Loc) (ls : Array Slot), f_Md_mustComplete_b139 N x1_139 x2_139 mb mg mx = some res → va_P (dC, dI) classes (cMd cI cJ cZ a mb mg mx mf) H → va_D A (cMd cI cJ cZ a mb mg mx mf) → va_S A s.heap H locs → lv_has ls 3 [(0, .ref (a 0)), (1, .int x1_139), (2, .int x2_139)] → W p l e { frames := 3, cells := 0, slots := 0, locals := 70 } s m args below meth c H locs 0 0 (KZ below args s (dC, dI) classes (some (.int res)) (cMd cI cJ cZ a mb mg mx mf) A) (F0 m 139 ls []) := by
    intro x1_139 x2_139 H locs ls h hP hD hS hl
    refine lv_iload_n hx hb d_Md_mustComplete_139 rfl (lv_at hl 2 rfl) ?_
    refine lv_if_eq (tgt := 158) hx hb d_Md_mustComplete_140 (by decide) (fun hc => ?_) (fun hc => ?_)
    · have h := o_t hc h
      refine lv_iconst (v := 1) hx hb d_Md_mustComplete_158 (by decide) ?_
      refine lv_goto (tgt := 163) hx hb d_Md_mustComplete_159 (by decide) ?_
      cases h
      exact kr_z hx hb hr (by decide) hlocks hP hD hS d_Md_mustComplete_163
    · have h := o_f hc h
      refine lv_iload_n hx hb d_Md_mustComplete_143 rfl (lv_at hl 2 rfl) ?_
      refine lv_iconst (v := 2) hx hb d_Md_mustComplete_144 (by decide) ?_
      refine lv_icmp_eq (tgt := 158) hx hb d_Md_mustComplete_145 (by decide) (fun hc => ?_) (fun hc => ?_)
      · have h := o_t hc h
        refine lv_iconst (v := 1) hx hb d_Md_mustComplete_158 (by decide) ?_
        refine lv_goto (tgt := 163) hx hb d_Md_mustComplete_159 (by decide) ?_
        cases h
        exact kr_z hx hb hr (by decide) hlocks hP hD hS d_Md_mustComplete_163
      · have h := o_f hc h
        refine lv_aload_n hx hb d_Md_mustComplete_148 rfl (lv_at hl 0 rfl) ?_
        refine lv_iload_n hx hb d_Md_mustComplete_149 rfl (lv_at hl 1 rfl) ?_
        refine lv_bipush (v := 10) hx hb d_Md_mustComplete_150 (by decide) ?_
        obtain ⟨y152, hy, h⟩ := o_bd h
        refine kdV (nn := 24) (rest := []) (w' := (cMd cI cJ cZ a mb mg mx mf)) (wr := ([] : va_W)) (st1 := [.int y152]) ⟨hx, hb, hml, hown, hts⟩ (c_Md_isExit l dC dI cI cJ cZ a N x1_139 (10 : Int32) mb mg mx mf y152 hy) (cwV 2 hts (gd_V tw937 tw939 ps40 tw9 tw940) rfl rfl rfl hd_Md_isExit ⟨Nat.le_of_ble_eq_true rfl, Nat.le_of_ble_eq_true rfl⟩) hNw hK hP hD hS hA (ci := 7) rfl rfl rfl [0, 1, 2, 3, 4, 5, 6, 7, 8, 9, 10, 11, 12, 13, 14, 15, 16, 17, 18, 19, 20, 21, 22, 23] [] rfl rfl rfl rfl rfl (by decide +kernel) (by decide +kernel) rfl hl.1 rfl (Nat.le_of_ble_eq_true rfl) rfl d_Md_mustComplete_152 ⟨Nat.zero_le _, Nat.zero_le _⟩ (fun H locs hP hD hS => ?_)
        refine lv_if_eq (tgt := 162) hx hb d_Md_mustComplete_155 (by decide) (fun hc => ?_) (fun hc => ?_)
        · have h := o_t hc h
          refine lv_iconst (v := 0) hx hb d_Md_mustComplete_162 (by decide) ?_
          cases h
          exact kr_z hx hb hr (by decide) hlocks hP hD hS d_Md_mustComplete_163
        · have h := o_f hc h
          refine lv_iconst (v := 1) hx hb d_Md_mustComplete_158 (by decide) ?_
          refine lv_goto (tgt := 163) hx hb d_Md_mustComplete_159 (by decide) ?_
          cases h
          exact kr_z hx hb hr (by decide) hlocks hP hD hS d_Md_mustComplete_163
  have B193 : ∀ (x1_193 : Int32) (H : Heap) (locs : List Loc) (ls : Array Slot), f_Md_mustComplete_b193 N x1_193 mb mg mx = some res → va_P (dC, dI) classes (cMd cI cJ cZ a mb mg mx mf) H → va_D A (cMd cI cJ cZ a mb mg mx mf) → va_S A s.heap H locs → lv_has ls 3 [(0, .ref (a 0)), (1, .int x1_193)] → W p l e { frames := 3, cells := 0, slots := 0, locals := 70 } s m args below meth c H locs 0 0 (KZ below args s (dC, dI) classes (some (.int res)) (cMd cI cJ cZ a mb mg mx mf) A) (F0 m 193 ls []) := by
    intro x1_193 H locs ls h hP hD hS hl
    refine lv_aload_n hx hb d_Md_mustComplete_193 rfl (lv_at hl 0 rfl) ?_
    refine lv_iload_n hx hb d_Md_mustComplete_194 rfl (lv_at hl 1 rfl) ?_
    refine lv_bipush (v := 10) hx hb d_Md_mustComplete_195 (by decide) ?_
    obtain ⟨y197, hy, h⟩ := o_bd h
    refine kdV (nn := 24) (rest := []) (w' := (cMd cI cJ cZ a mb mg mx mf)) (wr := ([] : va_W)) (st1 := [.int y197]) ⟨hx, hb, hml, hown, hts⟩ (c_Md_isExit l dC dI cI cJ cZ a N x1_193 (10 : Int32) mb mg mx mf y197 hy) (cwV 2 hts (gd_V tw937 tw939 ps40 tw9 tw940) rfl rfl rfl hd_Md_isExit ⟨Nat.le_of_ble_eq_true rfl, Nat.le_of_ble_eq_true rfl⟩) hNw hK hP hD hS hA (ci := 7) rfl rfl rfl [0, 1, 2, 3, 4, 5, 6, 7, 8, 9, 10, 11, 12, 13, 14, 15, 16, 17, 18, 19, 20, 21, 22, 23] [] rfl rfl rfl rfl rfl (by decide +kernel) (by decide +kernel) rfl hl.1 rfl (Nat.le_of_ble_eq_true rfl) rfl d_Md_mustComplete_197 ⟨Nat.zero_le _, Nat.zero_le _⟩ (fun H locs hP hD hS => ?_)
    refine lv_if_eq (tgt := 207) hx hb d_Md_mustComplete_200 (by decide) (fun hc => ?_) (fun hc => ?_)
    · have h := o_t hc h
      refine lv_iconst (v := 0) hx hb d_Md_mustComplete_207 (by decide) ?_
      cases h
      exact kr_z hx hb hr (by decide) hlocks hP hD hS d_Md_mustComplete_208
    · have h := o_f hc h
      refine lv_iconst (v := 1) hx hb d_Md_mustComplete_203 (by decide) ?_
      refine lv_goto (tgt := 208) hx hb d_Md_mustComplete_204 (by decide) ?_
      cases h
      exact kr_z hx hb hr (by decide) hlocks hP hD hS d_Md_mustComplete_208
  refine lv_aload_n hx hb d_Md_mustComplete_0 rfl (lv_at hl 0 rfl) ?_
  refine va_get (D := (dC, dI)) (ci := 7) (v := .ref (a 16)) (C := R_Md) (T := F_Md) (N := 35) hx hb hts inb_Md hown hK hP 0 rfl rfl 24 (by decide) (hts _ tw711) (fun _ h9 => h9) rfl d_Md_mustComplete_1 ?_
  refine lv_iload_n hx hb d_Md_mustComplete_4 rfl (lv_at hl 1 rfl) ?_
  obtain ⟨hin, h⟩ := o_in h
  refine va_zald hx hb hK hP 16 2 rfl rfl hin d_Md_mustComplete_5 ?_
  refine lv_if_ne (tgt := 11) hx hb d_Md_mustComplete_6 (by decide) (fun hc => ?_) (fun hc => ?_)
  · have h := o_f hc h
    refine lv_aload_n hx hb d_Md_mustComplete_11 rfl (lv_at hl 0 rfl) ?_
    refine va_get (D := (dC, dI)) (ci := 7) (v := .ref (a 3)) (C := R_Md) (T := F_Md) (N := 35) hx hb hts inb_Md hown hK hP 0 rfl rfl 4 (by decide) (hts _ tw691) (fun _ h9 => h9) rfl d_Md_mustComplete_12 ?_
    refine lv_iload_n hx hb d_Md_mustComplete_15 rfl (lv_at hl 1 rfl) ?_
    obtain ⟨hin, h⟩ := o_in h
    refine va_iald hx hb hK hP 3 0 rfl rfl hin d_Md_mustComplete_16 ?_
    refine lv_istore_n (lv' := [(2, .int ((Mb_given mb) x1.toNatClampNeg)), (0, .ref (a 0)), (1, .int x1)]) hx hb d_Md_mustComplete_17 rfl hl (by decide) rfl (fun ls hl => ?_)
    refine lv_aload_n hx hb d_Md_mustComplete_18 rfl (lv_at hl 1 rfl) ?_
    refine va_get (D := (dC, dI)) (ci := 7) (v := .ref (a 2)) (C := R_Md) (T := F_Md) (N := 35) hx hb hts inb_Md hown hK hP 0 rfl rfl 3 (by decide) (hts _ tw690) (fun _ h9 => h9) rfl d_Md_mustComplete_19 ?_
    refine lv_iload_n hx hb d_Md_mustComplete_22 rfl (lv_at hl 2 rfl) ?_
    obtain ⟨hin, h⟩ := o_in h
    refine va_iald hx hb hK hP 2 0 rfl rfl hin d_Md_mustComplete_23 ?_
    refine sw_by (x := ((Mb_sort mb) x1.toNatClampNeg)) (k := 0) (fun hc => ?_) (fun hn0 => ?_)
    · have h := o_t hc h
      refine sw_in (x := ((Mb_sort mb) x1.toNatClampNeg)) (k := 0) hc (lv_tableIn (tgt := 108) hx hb d_Md_mustComplete_24 (by decide) (by decide) (by rfl) (by decide) ?_)
      refine lv_iconst (v := 1) hx hb d_Md_mustComplete_108 (by decide) ?_
      cases h
      exact kr_z hx hb hr (by decide) hlocks hP hD hS d_Md_mustComplete_109
    · have h := o_f hn0 h
      refine sw_by (x := ((Mb_sort mb) x1.toNatClampNeg)) (k := 1) (fun hc => ?_) (fun hn1 => ?_)
      · have h := o_t hc h
        refine sw_in (x := ((Mb_sort mb) x1.toNatClampNeg)) (k := 1) hc (lv_tableIn (tgt := 108) hx hb d_Md_mustComplete_24 (by decide) (by decide) (by rfl) (by decide) ?_)
        refine lv_iconst (v := 1) hx hb d_Md_mustComplete_108 (by decide) ?_
        cases h
        exact kr_z hx hb hr (by decide) hlocks hP hD hS d_Md_mustComplete_109
      · have h := o_f hn1 h
        refine sw_by (x := ((Mb_sort mb) x1.toNatClampNeg)) (k := 2) (fun hc => ?_) (fun hn2 => ?_)
        · have h := o_t hc h
          refine sw_in (x := ((Mb_sort mb) x1.toNatClampNeg)) (k := 2) hc (lv_tableIn (tgt := 376) hx hb d_Md_mustComplete_24 (by decide) (by decide) (by rfl) (by decide) ?_)
          refine lv_iconst (v := 0) hx hb d_Md_mustComplete_376 (by decide) ?_
          cases h
          exact kr_z hx hb hr (by decide) hlocks hP hD hS d_Md_mustComplete_377
        · have h := o_f hn2 h
          refine sw_by (x := ((Mb_sort mb) x1.toNatClampNeg)) (k := 3) (fun hc => ?_) (fun hn3 => ?_)
          · have h := o_t hc h
            refine sw_in (x := ((Mb_sort mb) x1.toNatClampNeg)) (k := 3) hc (lv_tableIn (tgt := 376) hx hb d_Md_mustComplete_24 (by decide) (by decide) (by rfl) (by decide) ?_)
            refine lv_iconst (v := 0) hx hb d_Md_mustComplete_376 (by decide) ?_
            cases h
            exact kr_z hx hb hr (by decide) hlocks hP hD hS d_Md_mustComplete_377
          · have h := o_f hn3 h
            refine sw_by (x := ((Mb_sort mb) x1.toNatClampNeg)) (k := 4) (fun hc => ?_) (fun hn4 => ?_)
            · have h := o_t hc h
              refine sw_in (x := ((Mb_sort mb) x1.toNatClampNeg)) (k := 4) hc (lv_tableIn (tgt := 110) hx hb d_Md_mustComplete_24 (by decide) (by decide) (by rfl) (by decide) ?_)
              refine lv_aload_n hx hb d_Md_mustComplete_110 rfl (lv_at hl 1 rfl) ?_
              refine va_get (D := (dC, dI)) (ci := 7) (v := .ref (a 8)) (C := R_Md) (T := F_Md) (N := 35) hx hb hts inb_Md hown hK hP 0 rfl rfl 9 (by decide) (hts _ tw696) (fun _ h9 => h9) rfl d_Md_mustComplete_111 ?_
              refine lv_aload_n hx hb d_Md_mustComplete_114 rfl (lv_at hl 1 rfl) ?_
              refine va_get (D := (dC, dI)) (ci := 7) (v := .ref (a 6)) (C := R_Md) (T := F_Md) (N := 35) hx hb hts inb_Md hown hK hP 0 rfl rfl 7 (by decide) (hts _ tw694) (fun _ h9 => h9) rfl d_Md_mustComplete_115 ?_
              refine lv_iload_n hx hb d_Md_mustComplete_118 rfl (lv_at hl 2 rfl) ?_
              obtain ⟨hin, h⟩ := o_in h
              refine va_iald hx hb hK hP 6 0 rfl rfl hin d_Md_mustComplete_119 ?_
              obtain ⟨hin, h⟩ := o_in h
              refine va_iald hx hb hK hP 8 0 rfl rfl hin d_Md_mustComplete_120 ?_
              refine lv_iconst (v := -1) hx hb d_Md_mustComplete_121 (by decide) ?_
              refine lv_icmp_eq (tgt := 133) hx hb d_Md_mustComplete_122 (by decide) (fun hc => ?_) (fun hc => ?_)
              · have h := o_t hc h
                refine lv_iconst (v := 1) hx hb d_Md_mustComplete_133 (by decide) ?_
                refine lv_goto (tgt := 138) hx hb d_Md_mustComplete_134 (by decide) ?_
                cases h
                exact kr_z hx hb hr (by decide) hlocks hP hD hS d_Md_mustComplete_138
              · have h := o_f hc h
                refine lv_aload_n hx hb d_Md_mustComplete_125 rfl (lv_at hl 1 rfl) ?_
                refine lv_iload_n hx hb d_Md_mustComplete_126 rfl (lv_at hl 2 rfl) ?_
                obtain ⟨y127, hy, h⟩ := o_bd h
                refine kdV (nn := 24) (rest := []) (w' := (cMd cI cJ cZ a mb mg mx mf)) (wr := ([] : va_W)) (st1 := [.int y127]) ⟨hx, hb, hml, hown, hts⟩ (c_Md_anyComplete l dC dI cI cJ cZ a N x1 mb mg mx mf y127 hy) (cwV 1 hts (gd_V tw933 tw935 ps39 tw9 tw936) rfl rfl rfl hd_Md_anyComplete ⟨Nat.le_of_ble_eq_true rfl, Nat.le_of_ble_eq_true rfl⟩) hNw hK hP hD hS hA (ci := 7) rfl rfl rfl [0, 1, 2, 3, 4, 5, 6, 7, 8, 9, 10, 11, 12, 13, 14, 15, 16, 17, 18, 19, 20, 21, 22, 23] [] rfl rfl rfl rfl rfl (by decide +kernel) (by decide +kernel) rfl hl.1 rfl (Nat.le_of_ble_eq_true rfl) rfl d_Md_mustComplete_127 ⟨Nat.zero_le _, Nat.zero_le _⟩ (fun H locs hP hD hS => ?_)
                refine lv_if_eq (tgt := 137) hx hb d_Md_mustComplete_130 (by decide) (fun hc => ?_) (fun hc => ?_)
                · have h := o_t hc h
                  refine lv_iconst (v := 0) hx hb d_Md_mustComplete_137 (by decide) ?_
                  cases h
                  exact kr_z hx hb hr (by decide) hlocks hP hD hS d_Md_mustComplete_138
                · have h := o_f hc h
                  refine lv_iconst (v := 1) hx hb d_Md_mustComplete_133 (by decide) ?_
                  refine lv_goto (tgt := 138) hx hb d_Md_mustComplete_134 (by decide) ?_
                  cases h
                  exact kr_z hx hb hr (by decide) hlocks hP hD hS d_Md_mustComplete_138
            · have h := o_f hn4 h
              refine sw_by (x := ((Mb_sort mb) x1.toNatClampNeg)) (k := 5) (fun hc => ?_) (fun hn5 => ?_)
              · have h := o_t hc h
                refine sw_in (x := ((Mb_sort mb) x1.toNatClampNeg)) (k := 5) hc (lv_tableIn (tgt := 139) hx hb d_Md_mustComplete_24 (by decide) (by decide) (by rfl) (by decide) ?_)
                exact B139 x1 ((Mb_given mb) x1.toNatClampNeg) _ _ _ h hP hD hS (lv_sub hl [1, 2, 0] rfl)
              · have h := o_f hn5 h
                refine sw_by (x := ((Mb_sort mb) x1.toNatClampNeg)) (k := 6) (fun hc => ?_) (fun hn6 => ?_)
                · have h := o_t hc h
                  refine sw_in (x := ((Mb_sort mb) x1.toNatClampNeg)) (k := 6) hc (lv_tableIn (tgt := 164) hx hb d_Md_mustComplete_24 (by decide) (by decide) (by rfl) (by decide) ?_)
                  refine lv_iload_n hx hb d_Md_mustComplete_164 rfl (lv_at hl 0 rfl) ?_
                  refine lv_iconst (v := 1) hx hb d_Md_mustComplete_165 (by decide) ?_
                  refine lv_icmp_eq (tgt := 193) hx hb d_Md_mustComplete_166 (by decide) (fun hc => ?_) (fun hc => ?_)
                  · have h := o_t hc h
                    exact B193 x1 _ _ _ h hP hD hS (lv_sub hl [1, 2] rfl)
                  · have h := o_f hc h
                    refine lv_aload_n hx hb d_Md_mustComplete_169 rfl (lv_at hl 1 rfl) ?_
                    refine va_get (D := (dC, dI)) (ci := 7) (v := .ref (a 17)) (C := R_Md) (T := F_Md) (N := 35) hx hb hts inb_Md hown hK hP 0 rfl rfl 25 (by decide) (hts _ tw712) (fun _ h9 => h9) rfl d_Md_mustComplete_170 ?_
                    refine lv_aload_n hx hb d_Md_mustComplete_173 rfl (lv_at hl 1 rfl) ?_
                    refine va_get (D := (dC, dI)) (ci := 7) (v := .ref (a 6)) (C := R_Md) (T := F_Md) (N := 35) hx hb hts inb_Md hown hK hP 0 rfl rfl 7 (by decide) (hts _ tw694) (fun _ h9 => h9) rfl d_Md_mustComplete_174 ?_
                    refine lv_iload_n hx hb d_Md_mustComplete_177 rfl (lv_at hl 2 rfl) ?_
                    obtain ⟨hin, h⟩ := o_in h
                    refine va_iald hx hb hK hP 6 0 rfl rfl hin d_Md_mustComplete_178 ?_
                    obtain ⟨hin, h⟩ := o_in h
                    refine va_zald hx hb hK hP 17 2 rfl rfl hin d_Md_mustComplete_179 ?_
                    refine lv_if_ne (tgt := 203) hx hb d_Md_mustComplete_180 (by decide) (fun hc => ?_) (fun hc => ?_)
                    · have h := o_f hc h
                      refine lv_iconst (v := 1) hx hb d_Md_mustComplete_203 (by decide) ?_
                      refine lv_goto (tgt := 208) hx hb d_Md_mustComplete_204 (by decide) ?_
                      cases h
                      exact kr_z hx hb hr (by decide) hlocks hP hD hS d_Md_mustComplete_208
                    · have h := o_t hc h
                      refine lv_aload_n hx hb d_Md_mustComplete_183 rfl (lv_at hl 1 rfl) ?_
                      refine lv_iload_n hx hb d_Md_mustComplete_184 rfl (lv_at hl 2 rfl) ?_
                      refine lv_bipush (v := 11) hx hb d_Md_mustComplete_185 (by decide) ?_
                      obtain ⟨y187, hy, h⟩ := o_bd h
                      refine kdV (nn := 24) (rest := []) (w' := (cMd cI cJ cZ a mb mg mx mf)) (wr := ([] : va_W)) (st1 := [.int y187]) ⟨hx, hb, hml, hown, hts⟩ (c_Md_isExit l dC dI cI cJ cZ a N x1 (11 : Int32) mb mg mx mf y187 hy) (cwV 2 hts (gd_V tw937 tw939 ps40 tw9 tw940) rfl rfl rfl hd_Md_isExit ⟨Nat.le_of_ble_eq_true rfl, Nat.le_of_ble_eq_true rfl⟩) hNw hK hP hD hS hA (ci := 7) rfl rfl rfl [0, 1, 2, 3, 4, 5, 6, 7, 8, 9, 10, 11, 12, 13, 14, 15, 16, 17, 18, 19, 20, 21, 22, 23] [] rfl rfl rfl rfl rfl (by decide +kernel) (by decide +kernel) rfl hl.1 rfl (Nat.le_of_ble_eq_true rfl) rfl d_Md_mustComplete_187 ⟨Nat.zero_le _, Nat.zero_le _⟩ (fun H locs hP hD hS => ?_)
                      refine lv_if_ne (tgt := 203) hx hb d_Md_mustComplete_190 (by decide) (fun hc => ?_) (fun hc => ?_)
                      · have h := o_f hc h
                        refine lv_iconst (v := 1) hx hb d_Md_mustComplete_203 (by decide) ?_
                        refine lv_goto (tgt := 208) hx hb d_Md_mustComplete_204 (by decide) ?_
                        cases h
                        exact kr_z hx hb hr (by decide) hlocks hP hD hS d_Md_mustComplete_208
                      · have h := o_t hc h
                        exact B193 x1 _ _ _ h hP hD hS (lv_sub hl [1, 2] rfl)
                · have h := o_f hn6 h
                  refine sw_by (x := ((Mb_sort mb) x1.toNatClampNeg)) (k := 7) (fun hc => ?_) (fun hn7 => ?_)
                  · have h := o_t hc h
                    refine sw_in (x := ((Mb_sort mb) x1.toNatClampNeg)) (k := 7) hc (lv_tableIn (tgt := 139) hx hb d_Md_mustComplete_24 (by decide) (by decide) (by rfl) (by decide) ?_)
                    exact B139 x1 ((Mb_given mb) x1.toNatClampNeg) _ _ _ h hP hD hS (lv_sub hl [1, 2, 0] rfl)
                  · have h := o_f hn7 h
                    refine sw_by (x := ((Mb_sort mb) x1.toNatClampNeg)) (k := 8) (fun hc => ?_) (fun hn8 => ?_)
                    · have h := o_t hc h
                      refine sw_in (x := ((Mb_sort mb) x1.toNatClampNeg)) (k := 8) hc (lv_tableIn (tgt := 108) hx hb d_Md_mustComplete_24 (by decide) (by decide) (by rfl) (by decide) ?_)
                      refine lv_iconst (v := 1) hx hb d_Md_mustComplete_108 (by decide) ?_
                      cases h
                      exact kr_z hx hb hr (by decide) hlocks hP hD hS d_Md_mustComplete_109
                    · have h := o_f hn8 h
                      refine sw_by (x := ((Mb_sort mb) x1.toNatClampNeg)) (k := 9) (fun hc => ?_) (fun hn9 => ?_)
                      · have h := o_t hc h
                        refine sw_in (x := ((Mb_sort mb) x1.toNatClampNeg)) (k := 9) hc (lv_tableIn (tgt := 209) hx hb d_Md_mustComplete_24 (by decide) (by decide) (by rfl) (by decide) ?_)
                        refine lv_aload_n hx hb d_Md_mustComplete_209 rfl (lv_at hl 1 rfl) ?_
                        refine va_get (D := (dC, dI)) (ci := 7) (v := .ref (a 17)) (C := R_Md) (T := F_Md) (N := 35) hx hb hts inb_Md hown hK hP 0 rfl rfl 25 (by decide) (hts _ tw712) (fun _ h9 => h9) rfl d_Md_mustComplete_210 ?_
                        refine lv_aload_n hx hb d_Md_mustComplete_213 rfl (lv_at hl 1 rfl) ?_
                        refine va_get (D := (dC, dI)) (ci := 7) (v := .ref (a 6)) (C := R_Md) (T := F_Md) (N := 35) hx hb hts inb_Md hown hK hP 0 rfl rfl 7 (by decide) (hts _ tw694) (fun _ h9 => h9) rfl d_Md_mustComplete_214 ?_
                        refine lv_iload_n hx hb d_Md_mustComplete_217 rfl (lv_at hl 2 rfl) ?_
                        obtain ⟨hin, h⟩ := o_in h
                        refine va_iald hx hb hK hP 6 0 rfl rfl hin d_Md_mustComplete_218 ?_
                        obtain ⟨hin, h⟩ := o_in h
                        refine va_zald hx hb hK hP 17 2 rfl rfl hin d_Md_mustComplete_219 ?_
                        obtain ⟨hbo, h⟩ := o_bo h
                        cases h
                        exact kr_z hx hb hr hbo hlocks hP hD hS d_Md_mustComplete_220
                      · have h := o_f hn9 h
                        refine sw_by (x := ((Mb_sort mb) x1.toNatClampNeg)) (k := 10) (fun hc => ?_) (fun hn10 => ?_)
                        · have h := o_t hc h
                          refine sw_in (x := ((Mb_sort mb) x1.toNatClampNeg)) (k := 10) hc (lv_tableIn (tgt := 376) hx hb d_Md_mustComplete_24 (by decide) (by decide) (by rfl) (by decide) ?_)
                          refine lv_iconst (v := 0) hx hb d_Md_mustComplete_376 (by decide) ?_
                          cases h
                          exact kr_z hx hb hr (by decide) hlocks hP hD hS d_Md_mustComplete_377
                        · have h := o_f hn10 h
                          refine sw_by (x := ((Mb_sort mb) x1.toNatClampNeg)) (k := 11) (fun hc => ?_) (fun hn11 => ?_)
                          · have h := o_t hc h
                            refine sw_in (x := ((Mb_sort mb) x1.toNatClampNeg)) (k := 11) hc (lv_tableIn (tgt := 376) hx hb d_Md_mustComplete_24 (by decide) (by decide) (by rfl) (by decide) ?_)
                            refine lv_iconst (v := 0) hx hb d_Md_mustComplete_376 (by decide) ?_
                            cases h
                            exact kr_z hx hb hr (by decide) hlocks hP hD hS d_Md_mustComplete_377
                          · have h := o_f hn11 h
                            refine sw_by (x := ((Mb_sort mb) x1.toNatClampNeg)) (k := 12) (fun hc => ?_) (fun hn12 => ?_)
                            · have h := o_t hc h
                              refine sw_in (x := ((Mb_sort mb) x1.toNatClampNeg)) (k := 12) hc (lv_tableIn (tgt := 221) hx hb d_Md_mustComplete_24 (by decide) (by decide) (by rfl) (by decide) ?_)
                              refine lv_aload_n hx hb d_Md_mustComplete_221 rfl (lv_at hl 1 rfl) ?_
                              refine va_get (D := (dC, dI)) (ci := 7) (v := .ref (a 17)) (C := R_Md) (T := F_Md) (N := 35) hx hb hts inb_Md hown hK hP 0 rfl rfl 25 (by decide) (hts _ tw712) (fun _ h9 => h9) rfl d_Md_mustComplete_222 ?_
                              refine lv_aload_n hx hb d_Md_mustComplete_225 rfl (lv_at hl 1 rfl) ?_
                              refine va_get (D := (dC, dI)) (ci := 7) (v := .ref (a 6)) (C := R_Md) (T := F_Md) (N := 35) hx hb hts inb_Md hown hK hP 0 rfl rfl 7 (by decide) (hts _ tw694) (fun _ h9 => h9) rfl d_Md_mustComplete_226 ?_
                              refine lv_iload_n hx hb d_Md_mustComplete_229 rfl (lv_at hl 2 rfl) ?_
                              obtain ⟨hin, h⟩ := o_in h
                              refine va_iald hx hb hK hP 6 0 rfl rfl hin d_Md_mustComplete_230 ?_
                              obtain ⟨hin, h⟩ := o_in h
                              refine va_zald hx hb hK hP 17 2 rfl rfl hin d_Md_mustComplete_231 ?_
                              refine lv_if_ne (tgt := 245) hx hb d_Md_mustComplete_232 (by decide) (fun hc => ?_) (fun hc => ?_)
                              · have h := o_f hc h
                                refine lv_iconst (v := 1) hx hb d_Md_mustComplete_245 (by decide) ?_
                                refine lv_goto (tgt := 250) hx hb d_Md_mustComplete_246 (by decide) ?_
                                cases h
                                exact kr_z hx hb hr (by decide) hlocks hP hD hS d_Md_mustComplete_250
                              · have h := o_t hc h
                                refine lv_aload_n hx hb d_Md_mustComplete_235 rfl (lv_at hl 1 rfl) ?_
                                refine lv_iload_n hx hb d_Md_mustComplete_236 rfl (lv_at hl 2 rfl) ?_
                                refine lv_bipush (v := 10) hx hb d_Md_mustComplete_237 (by decide) ?_
                                obtain ⟨y239, hy, h⟩ := o_bd h
                                refine kdV (nn := 24) (rest := []) (w' := (cMd cI cJ cZ a mb mg mx mf)) (wr := ([] : va_W)) (st1 := [.int y239]) ⟨hx, hb, hml, hown, hts⟩ (c_Md_isExit l dC dI cI cJ cZ a N x1 (10 : Int32) mb mg mx mf y239 hy) (cwV 2 hts (gd_V tw937 tw939 ps40 tw9 tw940) rfl rfl rfl hd_Md_isExit ⟨Nat.le_of_ble_eq_true rfl, Nat.le_of_ble_eq_true rfl⟩) hNw hK hP hD hS hA (ci := 7) rfl rfl rfl [0, 1, 2, 3, 4, 5, 6, 7, 8, 9, 10, 11, 12, 13, 14, 15, 16, 17, 18, 19, 20, 21, 22, 23] [] rfl rfl rfl rfl rfl (by decide +kernel) (by decide +kernel) rfl hl.1 rfl (Nat.le_of_ble_eq_true rfl) rfl d_Md_mustComplete_239 ⟨Nat.zero_le _, Nat.zero_le _⟩ (fun H locs hP hD hS => ?_)
                                refine lv_if_eq (tgt := 249) hx hb d_Md_mustComplete_242 (by decide) (fun hc => ?_) (fun hc => ?_)
                                · have h := o_t hc h
                                  refine lv_iconst (v := 0) hx hb d_Md_mustComplete_249 (by decide) ?_
                                  cases h
                                  exact kr_z hx hb hr (by decide) hlocks hP hD hS d_Md_mustComplete_250
                                · have h := o_f hc h
                                  refine lv_iconst (v := 1) hx hb d_Md_mustComplete_245 (by decide) ?_
                                  refine lv_goto (tgt := 250) hx hb d_Md_mustComplete_246 (by decide) ?_
                                  cases h
                                  exact kr_z hx hb hr (by decide) hlocks hP hD hS d_Md_mustComplete_250
                            · have h := o_f hn12 h
                              refine sw_by (x := ((Mb_sort mb) x1.toNatClampNeg)) (k := 13) (fun hc => ?_) (fun hn13 => ?_)
                              · have h := o_t hc h
                                refine sw_in (x := ((Mb_sort mb) x1.toNatClampNeg)) (k := 13) hc (lv_tableIn (tgt := 251) hx hb d_Md_mustComplete_24 (by decide) (by decide) (by rfl) (by decide) ?_)
                                refine lv_aload_n hx hb d_Md_mustComplete_251 rfl (lv_at hl 1 rfl) ?_
                                refine va_get (D := (dC, dI)) (ci := 7) (v := .ref (a 7)) (C := R_Md) (T := F_Md) (N := 35) hx hb hts inb_Md hown hK hP 0 rfl rfl 8 (by decide) (hts _ tw695) (fun _ h9 => h9) rfl d_Md_mustComplete_252 ?_
                                refine lv_iload_n hx hb d_Md_mustComplete_255 rfl (lv_at hl 2 rfl) ?_
                                obtain ⟨hin, h⟩ := o_in h
                                refine va_iald hx hb hK hP 7 0 rfl rfl hin d_Md_mustComplete_256 ?_
                                refine lv_iconst (v := -1) hx hb d_Md_mustComplete_257 (by decide) ?_
                                refine lv_icmp_eq (tgt := 275) hx hb d_Md_mustComplete_258 (by decide) (fun hc => ?_) (fun hc => ?_)
                                · have h := o_t hc h
                                  refine lv_iconst (v := 1) hx hb d_Md_mustComplete_275 (by decide) ?_
                                  refine lv_goto (tgt := 280) hx hb d_Md_mustComplete_276 (by decide) ?_
                                  cases h
                                  exact kr_z hx hb hr (by decide) hlocks hP hD hS d_Md_mustComplete_280
                                · have h := o_f hc h
                                  refine lv_aload_n hx hb d_Md_mustComplete_261 rfl (lv_at hl 1 rfl) ?_
                                  refine va_get (D := (dC, dI)) (ci := 7) (v := .ref (a 17)) (C := R_Md) (T := F_Md) (N := 35) hx hb hts inb_Md hown hK hP 0 rfl rfl 25 (by decide) (hts _ tw712) (fun _ h9 => h9) rfl d_Md_mustComplete_262 ?_
                                  refine lv_aload_n hx hb d_Md_mustComplete_265 rfl (lv_at hl 1 rfl) ?_
                                  refine va_get (D := (dC, dI)) (ci := 7) (v := .ref (a 7)) (C := R_Md) (T := F_Md) (N := 35) hx hb hts inb_Md hown hK hP 0 rfl rfl 8 (by decide) (hts _ tw695) (fun _ h9 => h9) rfl d_Md_mustComplete_266 ?_
                                  refine lv_iload_n hx hb d_Md_mustComplete_269 rfl (lv_at hl 2 rfl) ?_
                                  obtain ⟨hin, h⟩ := o_in h
                                  refine va_iald hx hb hK hP 7 0 rfl rfl hin d_Md_mustComplete_270 ?_
                                  obtain ⟨hin, h⟩ := o_in h
                                  refine va_zald hx hb hK hP 17 2 rfl rfl hin d_Md_mustComplete_271 ?_
                                  refine lv_if_eq (tgt := 279) hx hb d_Md_mustComplete_272 (by decide) (fun hc => ?_) (fun hc => ?_)
                                  · have h := o_t hc h
                                    refine lv_iconst (v := 0) hx hb d_Md_mustComplete_279 (by decide) ?_
                                    cases h
                                    exact kr_z hx hb hr (by decide) hlocks hP hD hS d_Md_mustComplete_280
                                  · have h := o_f hc h
                                    refine lv_iconst (v := 1) hx hb d_Md_mustComplete_275 (by decide) ?_
                                    refine lv_goto (tgt := 280) hx hb d_Md_mustComplete_276 (by decide) ?_
                                    cases h
                                    exact kr_z hx hb hr (by decide) hlocks hP hD hS d_Md_mustComplete_280
                              · have h := o_f hn13 h
                                refine sw_by (x := ((Mb_sort mb) x1.toNatClampNeg)) (k := 14) (fun hc => ?_) (fun hn14 => ?_)
                                · have h := o_t hc h
                                  refine sw_in (x := ((Mb_sort mb) x1.toNatClampNeg)) (k := 14) hc (lv_tableIn (tgt := 281) hx hb d_Md_mustComplete_24 (by decide) (by decide) (by rfl) (by decide) ?_)
                                  refine lv_aload_n hx hb d_Md_mustComplete_281 rfl (lv_at hl 1 rfl) ?_
                                  refine lv_iload_n hx hb d_Md_mustComplete_282 rfl (lv_at hl 2 rfl) ?_
                                  obtain ⟨y283, hy, h⟩ := o_bd h
                                  refine kdV (nn := 24) (rest := []) (w' := (cMd cI cJ cZ a mb mg mx mf)) (wr := ([] : va_W)) (st1 := [.int y283]) ⟨hx, hb, hml, hown, hts⟩ (c_Md_isWhole l dC dI cI cJ cZ a N x1 mb mg mx mf y283 hy) (cwV 1 hts (gd_V tw945 tw947 ps42 tw9 tw948) rfl rfl rfl hd_Md_isWhole ⟨Nat.le_of_ble_eq_true rfl, Nat.le_of_ble_eq_true rfl⟩) hNw hK hP hD hS hA (ci := 7) rfl rfl rfl [0, 1, 2, 3, 4, 5, 6, 7, 8, 9, 10, 11, 12, 13, 14, 15, 16, 17, 18, 19, 20, 21, 22, 23] [] rfl rfl rfl rfl rfl (by decide +kernel) (by decide +kernel) rfl hl.1 rfl (Nat.le_of_ble_eq_true rfl) rfl d_Md_mustComplete_283 ⟨Nat.zero_le _, Nat.zero_le _⟩ (fun H locs hP hD hS => ?_)
                                  refine lv_if_eq (tgt := 332) hx hb d_Md_mustComplete_286 (by decide) (fun hc => ?_) (fun hc => ?_)
                                  · have h := o_t hc h
                                    refine lv_iconst (v := 1) hx hb d_Md_mustComplete_332 (by decide) ?_
                                    refine lv_goto (tgt := 337) hx hb d_Md_mustComplete_333 (by decide) ?_
                                    cases h
                                    exact kr_z hx hb hr (by decide) hlocks hP hD hS d_Md_mustComplete_337
                                  · have h := o_f hc h
                                    refine lv_aload_n hx hb d_Md_mustComplete_289 rfl (lv_at hl 1 rfl) ?_
                                    refine va_get (D := (dC, dI)) (ci := 7) (v := .ref (a 7)) (C := R_Md) (T := F_Md) (N := 35) hx hb hts inb_Md hown hK hP 0 rfl rfl 8 (by decide) (hts _ tw695) (fun _ h9 => h9) rfl d_Md_mustComplete_290 ?_
                                    refine lv_iload_n hx hb d_Md_mustComplete_293 rfl (lv_at hl 2 rfl) ?_
                                    obtain ⟨hin, h⟩ := o_in h
                                    refine va_iald hx hb hK hP 7 0 rfl rfl hin d_Md_mustComplete_294 ?_
                                    refine lv_iconst (v := -1) hx hb d_Md_mustComplete_295 (by decide) ?_
                                    refine lv_icmp_eq (tgt := 332) hx hb d_Md_mustComplete_296 (by decide) (fun hc => ?_) (fun hc => ?_)
                                    · have h := o_t hc h
                                      refine lv_iconst (v := 1) hx hb d_Md_mustComplete_332 (by decide) ?_
                                      refine lv_goto (tgt := 337) hx hb d_Md_mustComplete_333 (by decide) ?_
                                      cases h
                                      exact kr_z hx hb hr (by decide) hlocks hP hD hS d_Md_mustComplete_337
                                    · have h := o_f hc h
                                      refine lv_aload_n hx hb d_Md_mustComplete_299 rfl (lv_at hl 1 rfl) ?_
                                      refine va_get (D := (dC, dI)) (ci := 7) (v := .ref (a 11)) (C := R_Md) (T := F_Md) (N := 35) hx hb hts inb_Md hown hK hP 0 rfl rfl 12 (by decide) (hts _ tw699) (fun _ h9 => h9) rfl d_Md_mustComplete_300 ?_
                                      refine lv_iload_n hx hb d_Md_mustComplete_303 rfl (lv_at hl 2 rfl) ?_
                                      obtain ⟨hin, h⟩ := o_in h
                                      refine va_iald hx hb hK hP 11 0 rfl rfl hin d_Md_mustComplete_304 ?_
                                      refine lv_if_gt (tgt := 332) hx hb d_Md_mustComplete_305 (by decide) (fun hc => ?_) (fun hc => ?_)
                                      · have h := o_t hc h
                                        refine lv_iconst (v := 1) hx hb d_Md_mustComplete_332 (by decide) ?_
                                        refine lv_goto (tgt := 337) hx hb d_Md_mustComplete_333 (by decide) ?_
                                        cases h
                                        exact kr_z hx hb hr (by decide) hlocks hP hD hS d_Md_mustComplete_337
                                      · have h := o_f hc h
                                        refine lv_aload_n hx hb d_Md_mustComplete_308 rfl (lv_at hl 1 rfl) ?_
                                        refine va_get (D := (dC, dI)) (ci := 7) (v := .ref (a 17)) (C := R_Md) (T := F_Md) (N := 35) hx hb hts inb_Md hown hK hP 0 rfl rfl 25 (by decide) (hts _ tw712) (fun _ h9 => h9) rfl d_Md_mustComplete_309 ?_
                                        refine lv_aload_n hx hb d_Md_mustComplete_312 rfl (lv_at hl 1 rfl) ?_
                                        refine va_get (D := (dC, dI)) (ci := 7) (v := .ref (a 7)) (C := R_Md) (T := F_Md) (N := 35) hx hb hts inb_Md hown hK hP 0 rfl rfl 8 (by decide) (hts _ tw695) (fun _ h9 => h9) rfl d_Md_mustComplete_313 ?_
                                        refine lv_iload_n hx hb d_Md_mustComplete_316 rfl (lv_at hl 2 rfl) ?_
                                        obtain ⟨hin, h⟩ := o_in h
                                        refine va_iald hx hb hK hP 7 0 rfl rfl hin d_Md_mustComplete_317 ?_
                                        obtain ⟨hin, h⟩ := o_in h
                                        refine va_zald hx hb hK hP 17 2 rfl rfl hin d_Md_mustComplete_318 ?_
                                        refine lv_if_ne (tgt := 332) hx hb d_Md_mustComplete_319 (by decide) (fun hc => ?_) (fun hc => ?_)
                                        · have h := o_f hc h
                                          refine lv_iconst (v := 1) hx hb d_Md_mustComplete_332 (by decide) ?_
                                          refine lv_goto (tgt := 337) hx hb d_Md_mustComplete_333 (by decide) ?_
                                          cases h
                                          exact kr_z hx hb hr (by decide) hlocks hP hD hS d_Md_mustComplete_337
                                        · have h := o_t hc h
                                          refine lv_aload_n hx hb d_Md_mustComplete_322 rfl (lv_at hl 1 rfl) ?_
                                          refine lv_iload_n hx hb d_Md_mustComplete_323 rfl (lv_at hl 2 rfl) ?_
                                          refine lv_bipush (v := 10) hx hb d_Md_mustComplete_324 (by decide) ?_
                                          obtain ⟨y326, hy, h⟩ := o_bd h
                                          refine kdV (nn := 24) (rest := []) (w' := (cMd cI cJ cZ a mb mg mx mf)) (wr := ([] : va_W)) (st1 := [.int y326]) ⟨hx, hb, hml, hown, hts⟩ (c_Md_isExit l dC dI cI cJ cZ a N x1 (10 : Int32) mb mg mx mf y326 hy) (cwV 2 hts (gd_V tw937 tw939 ps40 tw9 tw940) rfl rfl rfl hd_Md_isExit ⟨Nat.le_of_ble_eq_true rfl, Nat.le_of_ble_eq_true rfl⟩) hNw hK hP hD hS hA (ci := 7) rfl rfl rfl [0, 1, 2, 3, 4, 5, 6, 7, 8, 9, 10, 11, 12, 13, 14, 15, 16, 17, 18, 19, 20, 21, 22, 23] [] rfl rfl rfl rfl rfl (by decide +kernel) (by decide +kernel) rfl hl.1 rfl (Nat.le_of_ble_eq_true rfl) rfl d_Md_mustComplete_326 ⟨Nat.zero_le _, Nat.zero_le _⟩ (fun H locs hP hD hS => ?_)
                                          refine lv_if_eq (tgt := 336) hx hb d_Md_mustComplete_329 (by decide) (fun hc => ?_) (fun hc => ?_)
                                          · have h := o_t hc h
                                            refine lv_iconst (v := 0) hx hb d_Md_mustComplete_336 (by decide) ?_
                                            cases h
                                            exact kr_z hx hb hr (by decide) hlocks hP hD hS d_Md_mustComplete_337
                                          · have h := o_f hc h
                                            refine lv_iconst (v := 1) hx hb d_Md_mustComplete_332 (by decide) ?_
                                            refine lv_goto (tgt := 337) hx hb d_Md_mustComplete_333 (by decide) ?_
                                            cases h
                                            exact kr_z hx hb hr (by decide) hlocks hP hD hS d_Md_mustComplete_337
                                · have h := o_f hn14 h
                                  refine sw_by (x := ((Mb_sort mb) x1.toNatClampNeg)) (k := 15) (fun hc => ?_) (fun hn15 => ?_)
                                  · have h := o_t hc h
                                    refine sw_in (x := ((Mb_sort mb) x1.toNatClampNeg)) (k := 15) hc (lv_tableIn (tgt := 338) hx hb d_Md_mustComplete_24 (by decide) (by decide) (by rfl) (by decide) ?_)
                                    refine lv_aload_n hx hb d_Md_mustComplete_338 rfl (lv_at hl 1 rfl) ?_
                                    refine lv_iload_n hx hb d_Md_mustComplete_339 rfl (lv_at hl 2 rfl) ?_
                                    obtain ⟨y340, hy, h⟩ := o_bd h
                                    refine kdV (nn := 24) (rest := []) (w' := (cMd cI cJ cZ a mb mg mx mf)) (wr := ([] : va_W)) (st1 := [.int y340]) ⟨hx, hb, hml, hown, hts⟩ (c_Md_isWhole l dC dI cI cJ cZ a N x1 mb mg mx mf y340 hy) (cwV 1 hts (gd_V tw945 tw947 ps42 tw9 tw948) rfl rfl rfl hd_Md_isWhole ⟨Nat.le_of_ble_eq_true rfl, Nat.le_of_ble_eq_true rfl⟩) hNw hK hP hD hS hA (ci := 7) rfl rfl rfl [0, 1, 2, 3, 4, 5, 6, 7, 8, 9, 10, 11, 12, 13, 14, 15, 16, 17, 18, 19, 20, 21, 22, 23] [] rfl rfl rfl rfl rfl (by decide +kernel) (by decide +kernel) rfl hl.1 rfl (Nat.le_of_ble_eq_true rfl) rfl d_Md_mustComplete_340 ⟨Nat.zero_le _, Nat.zero_le _⟩ (fun H locs hP hD hS => ?_)
                                    refine lv_if_eq (tgt := 364) hx hb d_Md_mustComplete_343 (by decide) (fun hc => ?_) (fun hc => ?_)
                                    · have h := o_t hc h
                                      refine lv_iconst (v := 1) hx hb d_Md_mustComplete_364 (by decide) ?_
                                      refine lv_goto (tgt := 369) hx hb d_Md_mustComplete_365 (by decide) ?_
                                      cases h
                                      exact kr_z hx hb hr (by decide) hlocks hP hD hS d_Md_mustComplete_369
                                    · have h := o_f hc h
                                      refine lv_aload_n hx hb d_Md_mustComplete_346 rfl (lv_at hl 1 rfl) ?_
                                      refine lv_iload_n hx hb d_Md_mustComplete_347 rfl (lv_at hl 2 rfl) ?_
                                      obtain ⟨y348, hy, h⟩ := o_bd h
                                      refine kdV (nn := 24) (rest := []) (w' := (cMd cI cJ cZ a mb mg mx mf)) (wr := ([] : va_W)) (st1 := [.int y348]) ⟨hx, hb, hml, hown, hts⟩ (c_Md_anyComplete l dC dI cI cJ cZ a N x1 mb mg mx mf y348 hy) (cwV 1 hts (gd_V tw933 tw935 ps39 tw9 tw936) rfl rfl rfl hd_Md_anyComplete ⟨Nat.le_of_ble_eq_true rfl, Nat.le_of_ble_eq_true rfl⟩) hNw hK hP hD hS hA (ci := 7) rfl rfl rfl [0, 1, 2, 3, 4, 5, 6, 7, 8, 9, 10, 11, 12, 13, 14, 15, 16, 17, 18, 19, 20, 21, 22, 23] [] rfl rfl rfl rfl rfl (by decide +kernel) (by decide +kernel) rfl hl.1 rfl (Nat.le_of_ble_eq_true rfl) rfl d_Md_mustComplete_348 ⟨Nat.zero_le _, Nat.zero_le _⟩ (fun H locs hP hD hS => ?_)
                                      refine lv_if_ne (tgt := 364) hx hb d_Md_mustComplete_351 (by decide) (fun hc => ?_) (fun hc => ?_)
                                      · have h := o_f hc h
                                        refine lv_iconst (v := 1) hx hb d_Md_mustComplete_364 (by decide) ?_
                                        refine lv_goto (tgt := 369) hx hb d_Md_mustComplete_365 (by decide) ?_
                                        cases h
                                        exact kr_z hx hb hr (by decide) hlocks hP hD hS d_Md_mustComplete_369
                                      · have h := o_t hc h
                                        refine lv_aload_n hx hb d_Md_mustComplete_354 rfl (lv_at hl 1 rfl) ?_
                                        refine lv_iload_n hx hb d_Md_mustComplete_355 rfl (lv_at hl 2 rfl) ?_
                                        refine lv_bipush (v := 10) hx hb d_Md_mustComplete_356 (by decide) ?_
                                        obtain ⟨y358, hy, h⟩ := o_bd h
                                        refine kdV (nn := 24) (rest := []) (w' := (cMd cI cJ cZ a mb mg mx mf)) (wr := ([] : va_W)) (st1 := [.int y358]) ⟨hx, hb, hml, hown, hts⟩ (c_Md_isExit l dC dI cI cJ cZ a N x1 (10 : Int32) mb mg mx mf y358 hy) (cwV 2 hts (gd_V tw937 tw939 ps40 tw9 tw940) rfl rfl rfl hd_Md_isExit ⟨Nat.le_of_ble_eq_true rfl, Nat.le_of_ble_eq_true rfl⟩) hNw hK hP hD hS hA (ci := 7) rfl rfl rfl [0, 1, 2, 3, 4, 5, 6, 7, 8, 9, 10, 11, 12, 13, 14, 15, 16, 17, 18, 19, 20, 21, 22, 23] [] rfl rfl rfl rfl rfl (by decide +kernel) (by decide +kernel) rfl hl.1 rfl (Nat.le_of_ble_eq_true rfl) rfl d_Md_mustComplete_358 ⟨Nat.zero_le _, Nat.zero_le _⟩ (fun H locs hP hD hS => ?_)
                                        refine lv_if_eq (tgt := 368) hx hb d_Md_mustComplete_361 (by decide) (fun hc => ?_) (fun hc => ?_)
                                        · have h := o_t hc h
                                          refine lv_iconst (v := 0) hx hb d_Md_mustComplete_368 (by decide) ?_
                                          cases h
                                          exact kr_z hx hb hr (by decide) hlocks hP hD hS d_Md_mustComplete_369
                                        · have h := o_f hc h
                                          refine lv_iconst (v := 1) hx hb d_Md_mustComplete_364 (by decide) ?_
                                          refine lv_goto (tgt := 369) hx hb d_Md_mustComplete_365 (by decide) ?_
                                          cases h
                                          exact kr_z hx hb hr (by decide) hlocks hP hD hS d_Md_mustComplete_369
                                  · have h := o_f hn15 h
                                    refine sw_by (x := ((Mb_sort mb) x1.toNatClampNeg)) (k := 16) (fun hc => ?_) (fun hn16 => ?_)
                                    · have h := o_t hc h
                                      refine sw_in (x := ((Mb_sort mb) x1.toNatClampNeg)) (k := 16) hc (lv_tableIn (tgt := 370) hx hb d_Md_mustComplete_24 (by decide) (by decide) (by rfl) (by decide) ?_)
                                      refine lv_aload_n hx hb d_Md_mustComplete_370 rfl (lv_at hl 1 rfl) ?_
                                      refine lv_iload_n hx hb d_Md_mustComplete_371 rfl (lv_at hl 2 rfl) ?_
                                      obtain ⟨y372, hy, h⟩ := o_bd h
                                      refine kdV (nn := 24) (rest := []) (w' := (cMd cI cJ cZ a mb mg mx mf)) (wr := ([] : va_W)) (st1 := [.int y372]) ⟨hx, hb, hml, hown, hts⟩ (c_Md_triesComplete l dC dI cI cJ cZ a N x1 mb mg mx mf y372 hy) (cwV 1 hts (gd_V tw949 tw951 ps43 tw9 tw952) rfl rfl rfl hd_Md_triesComplete ⟨Nat.le_of_ble_eq_true rfl, Nat.le_of_ble_eq_true rfl⟩) hNw hK hP hD hS hA (ci := 7) rfl rfl rfl [0, 1, 2, 3, 4, 5, 6, 7, 8, 9, 10, 11, 12, 13, 14, 15, 16, 17, 18, 19, 20, 21, 22, 23] [] rfl rfl rfl rfl rfl (by decide +kernel) (by decide +kernel) rfl hl.1 rfl (Nat.le_of_ble_eq_true rfl) rfl d_Md_mustComplete_372 ⟨Nat.zero_le _, Nat.zero_le _⟩ (fun H locs hP hD hS => ?_)
                                      obtain ⟨hbo, h⟩ := o_bo h
                                      cases h
                                      exact kr_z hx hb hr hbo hlocks hP hD hS d_Md_mustComplete_375
                                    · have h := o_f hn16 h
                                      refine lv_tableOut (tgt := 376) hx hb d_Md_mustComplete_24 (by have g0 := sw_ne hn0 (show (0 : Int32).toInt = 0 by decide); have g1 := sw_ne hn1 (show (1 : Int32).toInt = 1 by decide); have g2 := sw_ne hn2 (show (2 : Int32).toInt = 2 by decide); have g3 := sw_ne hn3 (show (3 : Int32).toInt = 3 by decide); have g4 := sw_ne hn4 (show (4 : Int32).toInt = 4 by decide); have g5 := sw_ne hn5 (show (5 : Int32).toInt = 5 by decide); have g6 := sw_ne hn6 (show (6 : Int32).toInt = 6 by decide); have g7 := sw_ne hn7 (show (7 : Int32).toInt = 7 by decide); have g8 := sw_ne hn8 (show (8 : Int32).toInt = 8 by decide); have g9 := sw_ne hn9 (show (9 : Int32).toInt = 9 by decide); have g10 := sw_ne hn10 (show (10 : Int32).toInt = 10 by decide); have g11 := sw_ne hn11 (show (11 : Int32).toInt = 11 by decide); have g12 := sw_ne hn12 (show (12 : Int32).toInt = 12 by decide); have g13 := sw_ne hn13 (show (13 : Int32).toInt = 13 by decide); have g14 := sw_ne hn14 (show (14 : Int32).toInt = 14 by decide); have g15 := sw_ne hn15 (show (15 : Int32).toInt = 15 by decide); have g16 := sw_ne hn16 (show (16 : Int32).toInt = 16 by decide); omega) (by decide) ?_
                                      refine lv_iconst (v := 0) hx hb d_Md_mustComplete_376 (by decide) ?_
                                      cases h
                                      exact kr_z hx hb hr (by decide) hlocks hP hD hS d_Md_mustComplete_377
  · have h := o_t hc h
    refine lv_iconst (v := 0) hx hb d_Md_mustComplete_9 (by decide) ?_
    cases h
    exact kr_z hx hb hr (by decide) hlocks hP hD hS d_Md_mustComplete_10
set_option maxHeartbeats 4000000 in
set_option maxRecDepth 100000 in
theorem c_Md_mustThrow (l : Launch) (dC : Nat → ClassId) (dI : Nat → Nat → Nat) (cI cJ cZ : ClassId) (a : Nat → Nat) (N : Nat) (x1 : Int32) (x2 : Int32) (mb : MbS) (mg : MgS) (mx : MxS) (mf : MfS) (res : Int32) (h : f_Md_mustThrow N x1 x2 mb mx = some res) :
    Kt l (dC, dI) classes [(cI, .int), (cJ, .long), (cZ, .boolean)] y_Md_mustThrow (wz y_Md_mustThrow b_Md_mustThrow 7 (some .boolean)) { frames := 1, cells := 0, slots := 0, locals := 23 } [.ref (a 0), .int x1, .int x2] (cMd cI cJ cZ a mb mg mx mf) (some (.int res)) (cMd cI cJ cZ a mb mg mx mf) := by
  refine Kt_of (cc := b_Md_mustThrow) (maxL := 7) (ret := (some .boolean)) (by decide) (Nat.le_of_ble_eq_true rfl) ?_
  intro p e s m args below meth c A ls hx hb hr hml hlocks hown hts hNw hK hP hD hA hS hl
  have hl : lv_has ls 7 [(0, .ref (a 0)), (1, .int x1), (2, .int x2)] := hl
  have hP : va_P (dC, dI) classes (cMd cI cJ cZ a mb mg mx mf) s.heap := hP
  have B31 : ∀ (x1_31 : Int32) (x2_31 : Int32) (H : Heap) (locs : List Loc) (ls : Array Slot), f_Md_mustThrow_b31 N x1_31 x2_31 mb mx = some res → va_P (dC, dI) classes (cMd cI cJ cZ a mb mg mx mf) H → va_D A (cMd cI cJ cZ a mb mg mx mf) → va_S A s.heap H locs → lv_has ls 7 [(0, .ref (a 0)), (1, .int x1_31), (2, .int x2_31)] → W p l e { frames := 1, cells := 0, slots := 0, locals := 23 } s m args below meth c H locs 0 0 (KZ below args s (dC, dI) classes (some (.int res)) (cMd cI cJ cZ a mb mg mx mf) A) (F0 m 31 ls []) := by
    intro x1_31 x2_31 H locs ls h hP hD hS hl
    refine lv_aload_n hx hb d_Md_mustThrow_31 rfl (lv_at hl 0 rfl) ?_
    refine va_get (D := (dC, dI)) (ci := 7) (v := .ref (a 3)) (C := R_Md) (T := F_Md) (N := 35) hx hb hts inb_Md hown hK hP 0 rfl rfl 4 (by decide) (hts _ tw691) (fun _ h9 => h9) rfl d_Md_mustThrow_32 ?_
    refine lv_iload_n hx hb d_Md_mustThrow_35 rfl (lv_at hl 1 rfl) ?_
    obtain ⟨hin, h⟩ := o_in h
    refine va_iald hx hb hK hP 3 0 rfl rfl hin d_Md_mustThrow_36 ?_
    refine lv_iload_n hx hb d_Md_mustThrow_37 rfl (lv_at hl 2 rfl) ?_
    refine lv_icmp_ne (tgt := 45) hx hb d_Md_mustThrow_38 (by decide) (fun hc => ?_) (fun hc => ?_)
    · have h := o_f hc h
      refine lv_iconst (v := 0) hx hb d_Md_mustThrow_45 (by decide) ?_
      cases h
      exact kr_z hx hb hr (by decide) hlocks hP hD hS d_Md_mustThrow_46
    · have h := o_t hc h
      refine lv_iconst (v := 1) hx hb d_Md_mustThrow_41 (by decide) ?_
      refine lv_goto (tgt := 46) hx hb d_Md_mustThrow_42 (by decide) ?_
      cases h
      exact kr_z hx hb hr (by decide) hlocks hP hD hS d_Md_mustThrow_46
  have L68 : ∀ (x2_68 : Int32) (n68 : Nat) (s68 : Int32 × Int32) (H : Heap) (locs : List Loc) (ls : Array Slot), lp (f_Md_mustThrow_L68 N x2_68 mb mx) n68 s68 = some res → va_P (dC, dI) classes (cMd cI cJ cZ a mb mg mx mf) H → va_D A (cMd cI cJ cZ a mb mg mx mf) → va_S A s.heap H locs → lv_has ls 7 [(0, .ref (a 0)), (2, .int x2_68), (3, .int s68.1), (4, .int s68.2)] → W p l e { frames := 1, cells := 0, slots := 0, locals := 23 } s m args below meth c H locs 0 0 (KZ below args s (dC, dI) classes (some (.int res)) (cMd cI cJ cZ a mb mg mx mf) A) (F0 m 68 ls []) := by
    intro x2_68 n68
    induction n68 with
    | zero => intro _ _ _ _ h; exact (lp_0 h).elim
    | succ n68 ih68 =>
      intro s68 H locs ls h hP hD hS hl
      have h := lp_s h
      have B98 : ∀ (z0_98 : Int32) (x4_98 : Int32) (H : Heap) (locs : List Loc) (ls : Array Slot), f_Md_mustThrow_b98 N (lp (f_Md_mustThrow_L68 N x2_68 mb mx) n68) z0_98 x2_68 x4_98 mb mx = some res → va_P (dC, dI) classes (cMd cI cJ cZ a mb mg mx mf) H → va_D A (cMd cI cJ cZ a mb mg mx mf) → va_S A s.heap H locs → lv_has ls 7 [(0, .ref (a 0)), (2, .int x2_68), (4, .int x4_98)] → W p l e { frames := 1, cells := 0, slots := 0, locals := 23 } s m args below meth c H locs 0 0 (KZ below args s (dC, dI) classes (some (.int res)) (cMd cI cJ cZ a mb mg mx mf) A) (F0 m 98 ls [.int z0_98]) := by
        intro z0_98 x4_98 H locs ls h hP hD hS hl
        refine lv_istore_n (lv' := [(3, .int z0_98), (0, .ref (a 0)), (2, .int x2_68), (4, .int x4_98)]) hx hb d_Md_mustThrow_98 rfl hl (by decide) rfl (fun ls hl => ?_)
        refine lv_aload_n hx hb d_Md_mustThrow_99 rfl (lv_at hl 1 rfl) ?_
        refine va_get (D := (dC, dI)) (ci := 7) (v := .ref (a 8)) (C := R_Md) (T := F_Md) (N := 35) hx hb hts inb_Md hown hK hP 0 rfl rfl 9 (by decide) (hts _ tw696) (fun _ h9 => h9) rfl d_Md_mustThrow_100 ?_
        refine lv_iload hx hb d_Md_mustThrow_103 (lv_at hl 3 rfl) ?_
        obtain ⟨hin, h⟩ := o_in h
        refine va_iald hx hb hK hP 8 0 rfl rfl hin d_Md_mustThrow_105 ?_
        refine lv_istore (lv' := [(4, .int ((Mb_next mb) x4_98.toNatClampNeg)), (3, .int z0_98), (0, .ref (a 0)), (2, .int x2_68)]) hx hb d_Md_mustThrow_106 hl (by decide) rfl (fun ls hl => ?_)
        refine lv_goto (tgt := 68) hx hb d_Md_mustThrow_108 (by decide) ?_
        exact ih68 (z0_98, ((Mb_next mb) x4_98.toNatClampNeg)) _ _ _ h hP hD hS (lv_sub hl [2, 3, 1, 0] rfl)
      have B93 : ∀ (x4_93 : Int32) (H : Heap) (locs : List Loc) (ls : Array Slot), f_Md_mustThrow_b93 N (lp (f_Md_mustThrow_L68 N x2_68 mb mx) n68) x2_68 x4_93 mb mx = some res → va_P (dC, dI) classes (cMd cI cJ cZ a mb mg mx mf) H → va_D A (cMd cI cJ cZ a mb mg mx mf) → va_S A s.heap H locs → lv_has ls 7 [(0, .ref (a 0)), (2, .int x2_68), (4, .int x4_93)] → W p l e { frames := 1, cells := 0, slots := 0, locals := 23 } s m args below meth c H locs 0 0 (KZ below args s (dC, dI) classes (some (.int res)) (cMd cI cJ cZ a mb mg mx mf) A) (F0 m 93 ls []) := by
        intro x4_93 H locs ls h hP hD hS hl
        refine lv_iconst (v := 1) hx hb d_Md_mustThrow_93 (by decide) ?_
        refine lv_goto (tgt := 98) hx hb d_Md_mustThrow_94 (by decide) ?_
        exact B98 (1 : Int32) x4_93 _ _ _ h hP hD hS (lv_sub hl [0, 1, 2] rfl)
      refine lv_iload hx hb d_Md_mustThrow_68 (lv_at hl 3 rfl) ?_
      refine lv_iconst (v := -1) hx hb d_Md_mustThrow_70 (by decide) ?_
      refine lv_icmp_eq (tgt := 111) hx hb d_Md_mustThrow_71 (by decide) (fun hc => ?_) (fun hc => ?_)
      · have h := o_t hc h
        refine lv_iload_n hx hb d_Md_mustThrow_111 rfl (lv_at hl 2 rfl) ?_
        obtain ⟨hbo, h⟩ := o_bo h
        cases h
        exact kr_z hx hb hr hbo hlocks hP hD hS d_Md_mustThrow_112
      · have h := o_f hc h
        refine lv_iload_n hx hb d_Md_mustThrow_74 rfl (lv_at hl 2 rfl) ?_
        refine lv_if_ne (tgt := 93) hx hb d_Md_mustThrow_75 (by decide) (fun hc => ?_) (fun hc => ?_)
        · have h := o_f hc h
          exact B93 s68.2 _ _ _ h hP hD hS (lv_sub hl [0, 1, 3] rfl)
        · have h := o_t hc h
          refine lv_aload_n hx hb d_Md_mustThrow_78 rfl (lv_at hl 0 rfl) ?_
          refine va_get (D := (dC, dI)) (ci := 7) (v := .ref (a 18)) (C := R_Md) (T := F_Md) (N := 35) hx hb hts inb_Md hown hK hP 0 rfl rfl 26 (by decide) (hts _ tw713) (fun _ h9 => h9) rfl d_Md_mustThrow_79 ?_
          refine lv_bipush (v := 12) hx hb d_Md_mustThrow_82 (by decide) ?_
          refine lv_iload hx hb d_Md_mustThrow_84 (lv_at hl 3 rfl) ?_
          refine lv_imul hx hb d_Md_mustThrow_86 ?_
          refine lv_iload_n hx hb d_Md_mustThrow_87 rfl (lv_at hl 1 rfl) ?_
          refine lv_iadd hx hb d_Md_mustThrow_88 ?_
          obtain ⟨hin, h⟩ := o_in h
          refine va_zald hx hb hK hP 18 2 rfl rfl hin d_Md_mustThrow_89 ?_
          refine lv_if_eq (tgt := 97) hx hb d_Md_mustThrow_90 (by decide) (fun hc => ?_) (fun hc => ?_)
          · have h := o_t hc h
            refine lv_iconst (v := 0) hx hb d_Md_mustThrow_97 (by decide) ?_
            exact B98 (0 : Int32) s68.2 _ _ _ h hP hD hS (lv_sub hl [0, 1, 3] rfl)
          · have h := o_f hc h
            exact B93 s68.2 _ _ _ h hP hD hS (lv_sub hl [0, 1, 3] rfl)
  have B277 : ∀ (x2_277 : Int32) (x4_277 : Int32) (H : Heap) (locs : List Loc) (ls : Array Slot), f_Md_mustThrow_b277 N x2_277 x4_277 mb mx = some res → va_P (dC, dI) classes (cMd cI cJ cZ a mb mg mx mf) H → va_D A (cMd cI cJ cZ a mb mg mx mf) → va_S A s.heap H locs → lv_has ls 7 [(0, .ref (a 0)), (2, .int x2_277), (4, .int x4_277)] → W p l e { frames := 1, cells := 0, slots := 0, locals := 23 } s m args below meth c H locs 0 0 (KZ below args s (dC, dI) classes (some (.int res)) (cMd cI cJ cZ a mb mg mx mf) A) (F0 m 277 ls []) := by
    intro x2_277 x4_277 H locs ls h hP hD hS hl
    refine lv_aload_n hx hb d_Md_mustThrow_277 rfl (lv_at hl 0 rfl) ?_
    refine va_get (D := (dC, dI)) (ci := 7) (v := .ref (a 18)) (C := R_Md) (T := F_Md) (N := 35) hx hb hts inb_Md hown hK hP 0 rfl rfl 26 (by decide) (hts _ tw713) (fun _ h9 => h9) rfl d_Md_mustThrow_278 ?_
    refine lv_bipush (v := 12) hx hb d_Md_mustThrow_281 (by decide) ?_
    refine lv_iload hx hb d_Md_mustThrow_283 (lv_at hl 2 rfl) ?_
    refine lv_imul hx hb d_Md_mustThrow_285 ?_
    refine lv_iload_n hx hb d_Md_mustThrow_286 rfl (lv_at hl 1 rfl) ?_
    refine lv_iadd hx hb d_Md_mustThrow_287 ?_
    obtain ⟨hin, h⟩ := o_in h
    refine va_zald hx hb hK hP 18 2 rfl rfl hin d_Md_mustThrow_288 ?_
    refine lv_if_eq (tgt := 296) hx hb d_Md_mustThrow_289 (by decide) (fun hc => ?_) (fun hc => ?_)
    · have h := o_t hc h
      refine lv_iconst (v := 0) hx hb d_Md_mustThrow_296 (by decide) ?_
      cases h
      exact kr_z hx hb hr (by decide) hlocks hP hD hS d_Md_mustThrow_297
    · have h := o_f hc h
      refine lv_iconst (v := 1) hx hb d_Md_mustThrow_292 (by decide) ?_
      refine lv_goto (tgt := 297) hx hb d_Md_mustThrow_293 (by decide) ?_
      cases h
      exact kr_z hx hb hr (by decide) hlocks hP hD hS d_Md_mustThrow_297
  have B254 : ∀ (z0_254 : Int32) (x2_254 : Int32) (x4_254 : Int32) (H : Heap) (locs : List Loc) (ls : Array Slot), f_Md_mustThrow_b254 N z0_254 x2_254 x4_254 mb mx = some res → va_P (dC, dI) classes (cMd cI cJ cZ a mb mg mx mf) H → va_D A (cMd cI cJ cZ a mb mg mx mf) → va_S A s.heap H locs → lv_has ls 7 [(0, .ref (a 0)), (2, .int x2_254), (4, .int x4_254)] → W p l e { frames := 1, cells := 0, slots := 0, locals := 23 } s m args below meth c H locs 0 0 (KZ below args s (dC, dI) classes (some (.int res)) (cMd cI cJ cZ a mb mg mx mf) A) (F0 m 254 ls [.int z0_254]) := by
    intro z0_254 x2_254 x4_254 H locs ls h hP hD hS hl
    refine lv_istore_n (lv' := [(3, .int z0_254), (0, .ref (a 0)), (2, .int x2_254), (4, .int x4_254)]) hx hb d_Md_mustThrow_254 rfl hl (by decide) rfl (fun ls hl => ?_)
    refine lv_iload hx hb d_Md_mustThrow_255 (lv_at hl 3 rfl) ?_
    refine lv_iconst (v := -1) hx hb d_Md_mustThrow_257 (by decide) ?_
    refine lv_icmp_ne (tgt := 263) hx hb d_Md_mustThrow_258 (by decide) (fun hc => ?_) (fun hc => ?_)
    · have h := o_f hc h
      refine lv_iload_n hx hb d_Md_mustThrow_263 rfl (lv_at hl 0 rfl) ?_
      refine lv_if_eq (tgt := 277) hx hb d_Md_mustThrow_264 (by decide) (fun hc => ?_) (fun hc => ?_)
      · have h := o_t hc h
        exact B277 x2_254 x4_254 _ _ _ h hP hD hS (lv_sub hl [1, 2, 3] rfl)
      · have h := o_f hc h
        refine lv_aload_n hx hb d_Md_mustThrow_267 rfl (lv_at hl 1 rfl) ?_
        refine va_get (D := (dC, dI)) (ci := 7) (v := .ref (a 17)) (C := R_Md) (T := F_Md) (N := 35) hx hb hts inb_Md hown hK hP 0 rfl rfl 25 (by decide) (hts _ tw712) (fun _ h9 => h9) rfl d_Md_mustThrow_268 ?_
        refine lv_iload hx hb d_Md_mustThrow_271 (lv_at hl 3 rfl) ?_
        obtain ⟨hin, h⟩ := o_in h
        refine va_zald hx hb hK hP 17 2 rfl rfl hin d_Md_mustThrow_273 ?_
        refine lv_if_ne (tgt := 292) hx hb d_Md_mustThrow_274 (by decide) (fun hc => ?_) (fun hc => ?_)
        · have h := o_f hc h
          refine lv_iconst (v := 1) hx hb d_Md_mustThrow_292 (by decide) ?_
          refine lv_goto (tgt := 297) hx hb d_Md_mustThrow_293 (by decide) ?_
          cases h
          exact kr_z hx hb hr (by decide) hlocks hP hD hS d_Md_mustThrow_297
        · have h := o_t hc h
          exact B277 x2_254 x4_254 _ _ _ h hP hD hS (lv_sub hl [1, 2, 3] rfl)
    · have h := o_t hc h
      refine lv_iload_n hx hb d_Md_mustThrow_261 rfl (lv_at hl 0 rfl) ?_
      obtain ⟨hbo, h⟩ := o_bo h
      cases h
      exact kr_z hx hb hr hbo hlocks hP hD hS d_Md_mustThrow_262
  have B249 : ∀ (x2_249 : Int32) (x4_249 : Int32) (H : Heap) (locs : List Loc) (ls : Array Slot), f_Md_mustThrow_b249 N x2_249 x4_249 mb mx = some res → va_P (dC, dI) classes (cMd cI cJ cZ a mb mg mx mf) H → va_D A (cMd cI cJ cZ a mb mg mx mf) → va_S A s.heap H locs → lv_has ls 7 [(0, .ref (a 0)), (2, .int x2_249), (4, .int x4_249)] → W p l e { frames := 1, cells := 0, slots := 0, locals := 23 } s m args below meth c H locs 0 0 (KZ below args s (dC, dI) classes (some (.int res)) (cMd cI cJ cZ a mb mg mx mf) A) (F0 m 249 ls []) := by
    intro x2_249 x4_249 H locs ls h hP hD hS hl
    refine lv_iconst (v := 1) hx hb d_Md_mustThrow_249 (by decide) ?_
    refine lv_goto (tgt := 254) hx hb d_Md_mustThrow_250 (by decide) ?_
    exact B254 (1 : Int32) x2_249 x4_249 _ _ _ h hP hD hS (lv_sub hl [0, 1, 2] rfl)
  have B253 : ∀ (x2_253 : Int32) (x4_253 : Int32) (H : Heap) (locs : List Loc) (ls : Array Slot), f_Md_mustThrow_b253 N x2_253 x4_253 mb mx = some res → va_P (dC, dI) classes (cMd cI cJ cZ a mb mg mx mf) H → va_D A (cMd cI cJ cZ a mb mg mx mf) → va_S A s.heap H locs → lv_has ls 7 [(0, .ref (a 0)), (2, .int x2_253), (4, .int x4_253)] → W p l e { frames := 1, cells := 0, slots := 0, locals := 23 } s m args below meth c H locs 0 0 (KZ below args s (dC, dI) classes (some (.int res)) (cMd cI cJ cZ a mb mg mx mf) A) (F0 m 253 ls []) := by
    intro x2_253 x4_253 H locs ls h hP hD hS hl
    refine lv_iconst (v := 0) hx hb d_Md_mustThrow_253 (by decide) ?_
    exact B254 (0 : Int32) x2_253 x4_253 _ _ _ h hP hD hS (lv_sub hl [0, 1, 2] rfl)
  have L150 : ∀ (x1_150 : Int32) (x2_150 : Int32) (x4_150 : Int32) (n150 : Nat) (s150 : Int32 × Int32 × Int32) (H : Heap) (locs : List Loc) (ls : Array Slot), lp (f_Md_mustThrow_L150 N x1_150 x2_150 x4_150 mb mx) n150 s150 = some res → va_P (dC, dI) classes (cMd cI cJ cZ a mb mg mx mf) H → va_D A (cMd cI cJ cZ a mb mg mx mf) → va_S A s.heap H locs → lv_has ls 7 [(0, .ref (a 0)), (1, .int x1_150), (2, .int x2_150), (3, .int s150.1), (4, .int x4_150), (5, .int s150.2.1), (6, .int s150.2.2)] → W p l e { frames := 1, cells := 0, slots := 0, locals := 23 } s m args below meth c H locs 0 0 (KZ below args s (dC, dI) classes (some (.int res)) (cMd cI cJ cZ a mb mg mx mf) A) (F0 m 150 ls []) := by
    intro x1_150 x2_150 x4_150 n150
    induction n150 with
    | zero => intro _ _ _ _ h; exact (lp_0 h).elim
    | succ n150 ih150 =>
      intro s150 H locs ls h hP hD hS hl
      have h := lp_s h
      have B208 : ∀ (z0_208 : Int32) (x5_208 : Int32) (x6_208 : Int32) (H : Heap) (locs : List Loc) (ls : Array Slot), f_Md_mustThrow_b208 N (lp (f_Md_mustThrow_L150 N x1_150 x2_150 x4_150 mb mx) n150) z0_208 x1_150 x2_150 x4_150 x5_208 x6_208 mb mx = some res → va_P (dC, dI) classes (cMd cI cJ cZ a mb mg mx mf) H → va_D A (cMd cI cJ cZ a mb mg mx mf) → va_S A s.heap H locs → lv_has ls 7 [(0, .ref (a 0)), (1, .int x1_150), (2, .int x2_150), (4, .int x4_150), (5, .int x5_208), (6, .int x6_208)] → W p l e { frames := 1, cells := 0, slots := 0, locals := 23 } s m args below meth c H locs 0 0 (KZ below args s (dC, dI) classes (some (.int res)) (cMd cI cJ cZ a mb mg mx mf) A) (F0 m 208 ls [.int z0_208]) := by
        intro z0_208 x5_208 x6_208 H locs ls h hP hD hS hl
        refine lv_istore_n (lv' := [(3, .int z0_208), (0, .ref (a 0)), (1, .int x1_150), (2, .int x2_150), (4, .int x4_150), (5, .int x5_208), (6, .int x6_208)]) hx hb d_Md_mustThrow_208 rfl hl (by decide) rfl (fun ls hl => ?_)
        refine lv_aload_n hx hb d_Md_mustThrow_209 rfl (lv_at hl 1 rfl) ?_
        refine va_get (D := (dC, dI)) (ci := 7) (v := .ref (a 8)) (C := R_Md) (T := F_Md) (N := 35) hx hb hts inb_Md hown hK hP 0 rfl rfl 9 (by decide) (hts _ tw696) (fun _ h9 => h9) rfl d_Md_mustThrow_210 ?_
        refine lv_iload hx hb d_Md_mustThrow_213 (lv_at hl 6 rfl) ?_
        obtain ⟨hin, h⟩ := o_in h
        refine va_iald hx hb hK hP 8 0 rfl rfl hin d_Md_mustThrow_215 ?_
        refine lv_istore (lv' := [(6, .int ((Mb_next mb) x6_208.toNatClampNeg)), (3, .int z0_208), (0, .ref (a 0)), (1, .int x1_150), (2, .int x2_150), (4, .int x4_150), (5, .int x5_208)]) hx hb d_Md_mustThrow_216 hl (by decide) rfl (fun ls hl => ?_)
        refine lv_goto (tgt := 150) hx hb d_Md_mustThrow_218 (by decide) ?_
        exact ih150 (z0_208, x5_208, ((Mb_next mb) x6_208.toNatClampNeg)) _ _ _ h hP hD hS (lv_sub hl [2, 3, 4, 1, 5, 6, 0] rfl)
      have B203 : ∀ (x5_203 : Int32) (x6_203 : Int32) (H : Heap) (locs : List Loc) (ls : Array Slot), f_Md_mustThrow_b203 N (lp (f_Md_mustThrow_L150 N x1_150 x2_150 x4_150 mb mx) n150) x1_150 x2_150 x4_150 x5_203 x6_203 mb mx = some res → va_P (dC, dI) classes (cMd cI cJ cZ a mb mg mx mf) H → va_D A (cMd cI cJ cZ a mb mg mx mf) → va_S A s.heap H locs → lv_has ls 7 [(0, .ref (a 0)), (1, .int x1_150), (2, .int x2_150), (4, .int x4_150), (5, .int x5_203), (6, .int x6_203)] → W p l e { frames := 1, cells := 0, slots := 0, locals := 23 } s m args below meth c H locs 0 0 (KZ below args s (dC, dI) classes (some (.int res)) (cMd cI cJ cZ a mb mg mx mf) A) (F0 m 203 ls []) := by
        intro x5_203 x6_203 H locs ls h hP hD hS hl
        refine lv_iconst (v := 1) hx hb d_Md_mustThrow_203 (by decide) ?_
        refine lv_goto (tgt := 208) hx hb d_Md_mustThrow_204 (by decide) ?_
        exact B208 (1 : Int32) x5_203 x6_203 _ _ _ h hP hD hS (lv_sub hl [0, 1, 2, 3, 4, 5] rfl)
      have B182 : ∀ (z0_182 : Int32) (x3_182 : Int32) (x6_182 : Int32) (H : Heap) (locs : List Loc) (ls : Array Slot), f_Md_mustThrow_b182 N (lp (f_Md_mustThrow_L150 N x1_150 x2_150 x4_150 mb mx) n150) z0_182 x1_150 x2_150 x3_182 x4_150 x6_182 mb mx = some res → va_P (dC, dI) classes (cMd cI cJ cZ a mb mg mx mf) H → va_D A (cMd cI cJ cZ a mb mg mx mf) → va_S A s.heap H locs → lv_has ls 7 [(0, .ref (a 0)), (1, .int x1_150), (2, .int x2_150), (3, .int x3_182), (4, .int x4_150), (6, .int x6_182)] → W p l e { frames := 1, cells := 0, slots := 0, locals := 23 } s m args below meth c H locs 0 0 (KZ below args s (dC, dI) classes (some (.int res)) (cMd cI cJ cZ a mb mg mx mf) A) (F0 m 182 ls [.int z0_182]) := by
        intro z0_182 x3_182 x6_182 H locs ls h hP hD hS hl
        refine lv_istore (lv' := [(5, .int z0_182), (0, .ref (a 0)), (1, .int x1_150), (2, .int x2_150), (3, .int x3_182), (4, .int x4_150), (6, .int x6_182)]) hx hb d_Md_mustThrow_182 hl (by decide) rfl (fun ls hl => ?_)
        refine lv_iload_n hx hb d_Md_mustThrow_184 rfl (lv_at hl 4 rfl) ?_
        refine lv_if_ne (tgt := 203) hx hb d_Md_mustThrow_185 (by decide) (fun hc => ?_) (fun hc => ?_)
        · have h := o_f hc h
          exact B203 z0_182 x6_182 _ _ _ h hP hD hS (lv_sub hl [1, 2, 3, 5, 0, 6] rfl)
        · have h := o_t hc h
          refine lv_aload_n hx hb d_Md_mustThrow_188 rfl (lv_at hl 1 rfl) ?_
          refine va_get (D := (dC, dI)) (ci := 7) (v := .ref (a 18)) (C := R_Md) (T := F_Md) (N := 35) hx hb hts inb_Md hown hK hP 0 rfl rfl 26 (by decide) (hts _ tw713) (fun _ h9 => h9) rfl d_Md_mustThrow_189 ?_
          refine lv_bipush (v := 12) hx hb d_Md_mustThrow_192 (by decide) ?_
          refine lv_iload hx hb d_Md_mustThrow_194 (lv_at hl 6 rfl) ?_
          refine lv_imul hx hb d_Md_mustThrow_196 ?_
          refine lv_iload_n hx hb d_Md_mustThrow_197 rfl (lv_at hl 3 rfl) ?_
          refine lv_iadd hx hb d_Md_mustThrow_198 ?_
          obtain ⟨hin, h⟩ := o_in h
          refine va_zald hx hb hK hP 18 2 rfl rfl hin d_Md_mustThrow_199 ?_
          refine lv_if_eq (tgt := 207) hx hb d_Md_mustThrow_200 (by decide) (fun hc => ?_) (fun hc => ?_)
          · have h := o_t hc h
            refine lv_iconst (v := 0) hx hb d_Md_mustThrow_207 (by decide) ?_
            exact B208 (0 : Int32) z0_182 x6_182 _ _ _ h hP hD hS (lv_sub hl [1, 2, 3, 5, 0, 6] rfl)
          · have h := o_f hc h
            exact B203 z0_182 x6_182 _ _ _ h hP hD hS (lv_sub hl [1, 2, 3, 5, 0, 6] rfl)
      have B177 : ∀ (x3_177 : Int32) (x6_177 : Int32) (H : Heap) (locs : List Loc) (ls : Array Slot), f_Md_mustThrow_b177 N (lp (f_Md_mustThrow_L150 N x1_150 x2_150 x4_150 mb mx) n150) x1_150 x2_150 x3_177 x4_150 x6_177 mb mx = some res → va_P (dC, dI) classes (cMd cI cJ cZ a mb mg mx mf) H → va_D A (cMd cI cJ cZ a mb mg mx mf) → va_S A s.heap H locs → lv_has ls 7 [(0, .ref (a 0)), (1, .int x1_150), (2, .int x2_150), (3, .int x3_177), (4, .int x4_150), (6, .int x6_177)] → W p l e { frames := 1, cells := 0, slots := 0, locals := 23 } s m args below meth c H locs 0 0 (KZ below args s (dC, dI) classes (some (.int res)) (cMd cI cJ cZ a mb mg mx mf) A) (F0 m 177 ls []) := by
        intro x3_177 x6_177 H locs ls h hP hD hS hl
        refine lv_iconst (v := 1) hx hb d_Md_mustThrow_177 (by decide) ?_
        refine lv_goto (tgt := 182) hx hb d_Md_mustThrow_178 (by decide) ?_
        exact B182 (1 : Int32) x3_177 x6_177 _ _ _ h hP hD hS (lv_sub hl [0, 1, 2, 3, 4, 5] rfl)
      refine lv_iload hx hb d_Md_mustThrow_150 (lv_at hl 6 rfl) ?_
      refine lv_iload hx hb d_Md_mustThrow_152 (lv_at hl 4 rfl) ?_
      refine lv_icmp_eq (tgt := 221) hx hb d_Md_mustThrow_154 (by decide) (fun hc => ?_) (fun hc => ?_)
      · have h := o_t hc h
        refine lv_iload_n hx hb d_Md_mustThrow_221 rfl (lv_at hl 3 rfl) ?_
        refine lv_if_ne (tgt := 249) hx hb d_Md_mustThrow_222 (by decide) (fun hc => ?_) (fun hc => ?_)
        · have h := o_f hc h
          exact B249 x2_150 x4_150 _ _ _ h hP hD hS (lv_sub hl [0, 2, 4] rfl)
        · have h := o_t hc h
          refine lv_aload_n hx hb d_Md_mustThrow_225 rfl (lv_at hl 0 rfl) ?_
          refine va_get (D := (dC, dI)) (ci := 7) (v := .ref (a 18)) (C := R_Md) (T := F_Md) (N := 35) hx hb hts inb_Md hown hK hP 0 rfl rfl 26 (by decide) (hts _ tw713) (fun _ h9 => h9) rfl d_Md_mustThrow_226 ?_
          refine lv_bipush (v := 12) hx hb d_Md_mustThrow_229 (by decide) ?_
          refine lv_aload_n hx hb d_Md_mustThrow_231 rfl (lv_at hl 0 rfl) ?_
          refine va_get (D := (dC, dI)) (ci := 7) (v := .ref (a 6)) (C := R_Md) (T := F_Md) (N := 35) hx hb hts inb_Md hown hK hP 0 rfl rfl 7 (by decide) (hts _ tw694) (fun _ h9 => h9) rfl d_Md_mustThrow_232 ?_
          refine lv_iload_n hx hb d_Md_mustThrow_235 rfl (lv_at hl 1 rfl) ?_
          obtain ⟨hin, h⟩ := o_in h
          refine va_iald hx hb hK hP 6 0 rfl rfl hin d_Md_mustThrow_236 ?_
          refine lv_imul hx hb d_Md_mustThrow_237 ?_
          refine lv_iload_n hx hb d_Md_mustThrow_238 rfl (lv_at hl 2 rfl) ?_
          refine lv_iadd hx hb d_Md_mustThrow_239 ?_
          obtain ⟨hin, h⟩ := o_in h
          refine va_zald hx hb hK hP 18 2 rfl rfl hin d_Md_mustThrow_240 ?_
          refine lv_if_eq (tgt := 253) hx hb d_Md_mustThrow_241 (by decide) (fun hc => ?_) (fun hc => ?_)
          · have h := o_t hc h
            exact B253 x2_150 x4_150 _ _ _ h hP hD hS (lv_sub hl [0, 2, 4] rfl)
          · have h := o_f hc h
            refine lv_iload hx hb d_Md_mustThrow_244 (lv_at hl 5 rfl) ?_
            refine lv_if_ne (tgt := 253) hx hb d_Md_mustThrow_246 (by decide) (fun hc => ?_) (fun hc => ?_)
            · have h := o_f hc h
              exact B253 x2_150 x4_150 _ _ _ h hP hD hS (lv_sub hl [0, 2, 4] rfl)
            · have h := o_t hc h
              exact B249 x2_150 x4_150 _ _ _ h hP hD hS (lv_sub hl [0, 2, 4] rfl)
      · have h := o_f hc h
        refine lv_iload hx hb d_Md_mustThrow_157 (lv_at hl 5 rfl) ?_
        refine lv_if_ne (tgt := 177) hx hb d_Md_mustThrow_159 (by decide) (fun hc => ?_) (fun hc => ?_)
        · have h := o_f hc h
          exact B177 s150.1 s150.2.2 _ _ _ h hP hD hS (lv_sub hl [0, 1, 2, 3, 4, 6] rfl)
        · have h := o_t hc h
          refine lv_aload_n hx hb d_Md_mustThrow_162 rfl (lv_at hl 0 rfl) ?_
          refine lv_iload_n hx hb d_Md_mustThrow_163 rfl (lv_at hl 2 rfl) ?_
          refine lv_aload_n hx hb d_Md_mustThrow_164 rfl (lv_at hl 0 rfl) ?_
          refine va_get (D := (dC, dI)) (ci := 7) (v := .ref (a 5)) (C := R_Md) (T := F_Md) (N := 35) hx hb hts inb_Md hown hK hP 0 rfl rfl 6 (by decide) (hts _ tw693) (fun _ h9 => h9) rfl d_Md_mustThrow_165 ?_
          refine lv_iload hx hb d_Md_mustThrow_168 (lv_at hl 6 rfl) ?_
          obtain ⟨hin, h⟩ := o_in h
          refine va_iald hx hb hK hP 5 0 rfl rfl hin d_Md_mustThrow_170 ?_
          obtain ⟨y171, hy, h⟩ := o_bd h
          refine kdV (nn := 24) (rest := []) (w' := (cMd cI cJ cZ a mb mg mx mf)) (wr := ([] : va_W)) (st1 := [.int y171]) ⟨hx, hb, hml, hown, hts⟩ (c_Md_isBelow l dC dI cI cJ cZ a N x2_150 ((Mb_mark mb) s150.2.2.toNatClampNeg) mb mg mx mf y171 hy) (cwV 2 hts (gd_V tw925 tw927 ps37 tw9 tw928) rfl rfl rfl hd_Md_isBelow ⟨Nat.le_of_ble_eq_true rfl, Nat.le_of_ble_eq_true rfl⟩) hNw hK hP hD hS hA (ci := 7) rfl rfl rfl [0, 1, 2, 3, 4, 5, 6, 7, 8, 9, 10, 11, 12, 13, 14, 15, 16, 17, 18, 19, 20, 21, 22, 23] [] rfl rfl rfl rfl rfl (by decide +kernel) (by decide +kernel) rfl hl.1 rfl (Nat.le_of_ble_eq_true rfl) rfl d_Md_mustThrow_171 ⟨Nat.zero_le _, Nat.zero_le _⟩ (fun H locs hP hD hS => ?_)
          refine lv_if_eq (tgt := 181) hx hb d_Md_mustThrow_174 (by decide) (fun hc => ?_) (fun hc => ?_)
          · have h := o_t hc h
            refine lv_iconst (v := 0) hx hb d_Md_mustThrow_181 (by decide) ?_
            exact B182 (0 : Int32) s150.1 s150.2.2 _ _ _ h hP hD hS (lv_sub hl [0, 1, 2, 3, 4, 6] rfl)
          · have h := o_f hc h
            exact B177 s150.1 s150.2.2 _ _ _ h hP hD hS (lv_sub hl [0, 1, 2, 3, 4, 6] rfl)
  have B132 : ∀ (z0_132 : Int32) (x1_132 : Int32) (x2_132 : Int32) (x3_132 : Int32) (H : Heap) (locs : List Loc) (ls : Array Slot), f_Md_mustThrow_b132 N z0_132 x1_132 x2_132 x3_132 mb mx = some res → va_P (dC, dI) classes (cMd cI cJ cZ a mb mg mx mf) H → va_D A (cMd cI cJ cZ a mb mg mx mf) → va_S A s.heap H locs → lv_has ls 7 [(0, .ref (a 0)), (1, .int x1_132), (2, .int x2_132), (3, .int x3_132)] → W p l e { frames := 1, cells := 0, slots := 0, locals := 23 } s m args below meth c H locs 0 0 (KZ below args s (dC, dI) classes (some (.int res)) (cMd cI cJ cZ a mb mg mx mf) A) (F0 m 132 ls [.int z0_132]) := by
    intro z0_132 x1_132 x2_132 x3_132 H locs ls h hP hD hS hl
    refine lv_istore (lv' := [(4, .int z0_132), (0, .ref (a 0)), (1, .int x1_132), (2, .int x2_132), (3, .int x3_132)]) hx hb d_Md_mustThrow_132 hl (by decide) rfl (fun ls hl => ?_)
    refine lv_iconst (v := 0) hx hb d_Md_mustThrow_134 (by decide) ?_
    refine lv_istore (lv' := [(5, .int (0 : Int32)), (4, .int z0_132), (0, .ref (a 0)), (1, .int x1_132), (2, .int x2_132), (3, .int x3_132)]) hx hb d_Md_mustThrow_135 hl (by decide) rfl (fun ls hl => ?_)
    refine lv_aload_n hx hb d_Md_mustThrow_137 rfl (lv_at hl 2 rfl) ?_
    refine va_get (D := (dC, dI)) (ci := 7) (v := .ref (a 8)) (C := R_Md) (T := F_Md) (N := 35) hx hb hts inb_Md hown hK hP 0 rfl rfl 9 (by decide) (hts _ tw696) (fun _ h9 => h9) rfl d_Md_mustThrow_138 ?_
    refine lv_aload_n hx hb d_Md_mustThrow_141 rfl (lv_at hl 2 rfl) ?_
    refine va_get (D := (dC, dI)) (ci := 7) (v := .ref (a 6)) (C := R_Md) (T := F_Md) (N := 35) hx hb hts inb_Md hown hK hP 0 rfl rfl 7 (by decide) (hts _ tw694) (fun _ h9 => h9) rfl d_Md_mustThrow_142 ?_
    refine lv_iload_n hx hb d_Md_mustThrow_145 rfl (lv_at hl 3 rfl) ?_
    obtain ⟨hin, h⟩ := o_in h
    refine va_iald hx hb hK hP 6 0 rfl rfl hin d_Md_mustThrow_146 ?_
    obtain ⟨hin, h⟩ := o_in h
    refine va_iald hx hb hK hP 8 0 rfl rfl hin d_Md_mustThrow_147 ?_
    refine lv_istore (lv' := [(6, .int ((Mb_next mb) ((Mb_first mb) x1_132.toNatClampNeg).toNatClampNeg)), (5, .int (0 : Int32)), (4, .int z0_132), (0, .ref (a 0)), (1, .int x1_132), (2, .int x2_132), (3, .int x3_132)]) hx hb d_Md_mustThrow_148 hl (by decide) rfl (fun ls hl => ?_)
    exact L150 x1_132 x2_132 z0_132 N (x3_132, (0 : Int32), ((Mb_next mb) ((Mb_first mb) x1_132.toNatClampNeg).toNatClampNeg)) _ _ _ h hP hD hS (lv_sub hl [3, 4, 5, 6, 2, 1, 0] rfl)
  refine lv_aload_n hx hb d_Md_mustThrow_0 rfl (lv_at hl 0 rfl) ?_
  refine va_get (D := (dC, dI)) (ci := 7) (v := .ref (a 16)) (C := R_Md) (T := F_Md) (N := 35) hx hb hts inb_Md hown hK hP 0 rfl rfl 24 (by decide) (hts _ tw711) (fun _ h9 => h9) rfl d_Md_mustThrow_1 ?_
  refine lv_iload_n hx hb d_Md_mustThrow_4 rfl (lv_at hl 1 rfl) ?_
  obtain ⟨hin, h⟩ := o_in h
  refine va_zald hx hb hK hP 16 2 rfl rfl hin d_Md_mustThrow_5 ?_
  refine lv_if_ne (tgt := 11) hx hb d_Md_mustThrow_6 (by decide) (fun hc => ?_) (fun hc => ?_)
  · have h := o_f hc h
    refine lv_aload_n hx hb d_Md_mustThrow_11 rfl (lv_at hl 0 rfl) ?_
    refine va_get (D := (dC, dI)) (ci := 7) (v := .ref (a 2)) (C := R_Md) (T := F_Md) (N := 35) hx hb hts inb_Md hown hK hP 0 rfl rfl 3 (by decide) (hts _ tw690) (fun _ h9 => h9) rfl d_Md_mustThrow_12 ?_
    refine lv_iload_n hx hb d_Md_mustThrow_15 rfl (lv_at hl 1 rfl) ?_
    obtain ⟨hin, h⟩ := o_in h
    refine va_iald hx hb hK hP 2 0 rfl rfl hin d_Md_mustThrow_16 ?_
    refine lv_iconst (v := 1) hx hb d_Md_mustThrow_17 (by decide) ?_
    refine lv_icmp_eq (tgt := 31) hx hb d_Md_mustThrow_18 (by decide) (fun hc => ?_) (fun hc => ?_)
    · have h := o_t hc h
      exact B31 x1 x2 _ _ _ h hP hD hS (lv_sub hl [0, 1, 2] rfl)
    · have h := o_f hc h
      refine lv_aload_n hx hb d_Md_mustThrow_21 rfl (lv_at hl 0 rfl) ?_
      refine va_get (D := (dC, dI)) (ci := 7) (v := .ref (a 2)) (C := R_Md) (T := F_Md) (N := 35) hx hb hts inb_Md hown hK hP 0 rfl rfl 3 (by decide) (hts _ tw690) (fun _ h9 => h9) rfl d_Md_mustThrow_22 ?_
      refine lv_iload_n hx hb d_Md_mustThrow_25 rfl (lv_at hl 1 rfl) ?_
      obtain ⟨hin, h⟩ := o_in h
      refine va_iald hx hb hK hP 2 0 rfl rfl hin d_Md_mustThrow_26 ?_
      refine lv_iconst (v := 2) hx hb d_Md_mustThrow_27 (by decide) ?_
      refine lv_icmp_ne (tgt := 47) hx hb d_Md_mustThrow_28 (by decide) (fun hc => ?_) (fun hc => ?_)
      · have h := o_f hc h
        refine lv_iconst (v := 0) hx hb d_Md_mustThrow_47 (by decide) ?_
        refine lv_istore_n (lv' := [(3, .int (0 : Int32)), (0, .ref (a 0)), (1, .int x1), (2, .int x2)]) hx hb d_Md_mustThrow_48 rfl hl (by decide) rfl (fun ls hl => ?_)
        refine lv_aload_n hx hb d_Md_mustThrow_49 rfl (lv_at hl 1 rfl) ?_
        refine va_get (D := (dC, dI)) (ci := 7) (v := .ref (a 2)) (C := R_Md) (T := F_Md) (N := 35) hx hb hts inb_Md hown hK hP 0 rfl rfl 3 (by decide) (hts _ tw690) (fun _ h9 => h9) rfl d_Md_mustThrow_50 ?_
        refine lv_iload_n hx hb d_Md_mustThrow_53 rfl (lv_at hl 2 rfl) ?_
        obtain ⟨hin, h⟩ := o_in h
        refine va_iald hx hb hK hP 2 0 rfl rfl hin d_Md_mustThrow_54 ?_
        refine lv_bipush (v := 16) hx hb d_Md_mustThrow_55 (by decide) ?_
        refine lv_icmp_eq (tgt := 113) hx hb d_Md_mustThrow_57 (by decide) (fun hc => ?_) (fun hc => ?_)
        · have h := o_t hc h
          refine lv_aload_n hx hb d_Md_mustThrow_113 rfl (lv_at hl 1 rfl) ?_
          refine va_get (D := (dC, dI)) (ci := 7) (v := .ref (a 10)) (C := R_Md) (T := F_Md) (N := 35) hx hb hts inb_Md hown hK hP 0 rfl rfl 11 (by decide) (hts _ tw698) (fun _ h9 => h9) rfl d_Md_mustThrow_114 ?_
          refine lv_iload_n hx hb d_Md_mustThrow_117 rfl (lv_at hl 2 rfl) ?_
          obtain ⟨hin, h⟩ := o_in h
          refine va_zald hx hb hK hP 10 2 rfl rfl hin d_Md_mustThrow_118 ?_
          refine lv_if_eq (tgt := 131) hx hb d_Md_mustThrow_119 (by decide) (fun hc => ?_) (fun hc => ?_)
          · have h := o_t hc h
            refine lv_iconst (v := -1) hx hb d_Md_mustThrow_131 (by decide) ?_
            exact B132 (-1 : Int32) x1 x2 (0 : Int32) _ _ _ h hP hD hS (lv_sub hl [1, 2, 3, 0] rfl)
          · have h := o_f hc h
            refine lv_aload_n hx hb d_Md_mustThrow_122 rfl (lv_at hl 1 rfl) ?_
            refine va_get (D := (dC, dI)) (ci := 7) (v := .ref (a 7)) (C := R_Md) (T := F_Md) (N := 35) hx hb hts inb_Md hown hK hP 0 rfl rfl 8 (by decide) (hts _ tw695) (fun _ h9 => h9) rfl d_Md_mustThrow_123 ?_
            refine lv_iload_n hx hb d_Md_mustThrow_126 rfl (lv_at hl 2 rfl) ?_
            obtain ⟨hin, h⟩ := o_in h
            refine va_iald hx hb hK hP 7 0 rfl rfl hin d_Md_mustThrow_127 ?_
            refine lv_goto (tgt := 132) hx hb d_Md_mustThrow_128 (by decide) ?_
            exact B132 ((Mb_last mb) x1.toNatClampNeg) x1 x2 (0 : Int32) _ _ _ h hP hD hS (lv_sub hl [1, 2, 3, 0] rfl)
        · have h := o_f hc h
          refine lv_aload_n hx hb d_Md_mustThrow_60 rfl (lv_at hl 1 rfl) ?_
          refine va_get (D := (dC, dI)) (ci := 7) (v := .ref (a 6)) (C := R_Md) (T := F_Md) (N := 35) hx hb hts inb_Md hown hK hP 0 rfl rfl 7 (by decide) (hts _ tw694) (fun _ h9 => h9) rfl d_Md_mustThrow_61 ?_
          refine lv_iload_n hx hb d_Md_mustThrow_64 rfl (lv_at hl 2 rfl) ?_
          obtain ⟨hin, h⟩ := o_in h
          refine va_iald hx hb hK hP 6 0 rfl rfl hin d_Md_mustThrow_65 ?_
          refine lv_istore (lv' := [(4, .int ((Mb_first mb) x1.toNatClampNeg)), (3, .int (0 : Int32)), (0, .ref (a 0)), (1, .int x1), (2, .int x2)]) hx hb d_Md_mustThrow_66 hl (by decide) rfl (fun ls hl => ?_)
          exact L68 x2 N ((0 : Int32), ((Mb_first mb) x1.toNatClampNeg)) _ _ _ h hP hD hS (lv_sub hl [2, 4, 1, 0] rfl)
      · have h := o_t hc h
        exact B31 x1 x2 _ _ _ h hP hD hS (lv_sub hl [0, 1, 2] rfl)
  · have h := o_t hc h
    refine lv_iconst (v := 0) hx hb d_Md_mustThrow_9 (by decide) ?_
    cases h
    exact kr_z hx hb hr (by decide) hlocks hP hD hS d_Md_mustThrow_10
set_option maxHeartbeats 4000000 in
set_option maxRecDepth 100000 in
theorem c_Md_rules (l : Launch) (dC : Nat → ClassId) (dI : Nat → Nat → Nat) (cI cJ cZ : ClassId) (a : Nat → Nat) (N : Nat) (mb : MbS) (mg : MgS) (mx : MxS) (mf : MfS) (res : MxS) (h : f_Md_rules N mb mg mx = some res) :
    Kt l (dC, dI) classes [(cI, .int), (cJ, .long), (cZ, .boolean)] y_Md_rules (wz y_Md_rules b_Md_rules 4 none) { frames := 4, cells := 0, slots := 0, locals := 92 } [.ref (a 0)] (cMd cI cJ cZ a mb mg mx mf) none (cMd cI cJ cZ a mb mg res mf) := by
  refine Kt_of (cc := b_Md_rules) (maxL := 4) (ret := none) (by decide) (Nat.le_of_ble_eq_true rfl) ?_
  intro p e s m args below meth c A ls hx hb hr hml hlocks hown hts hNw hK hP hD hA hS hl
  have hl : lv_has ls 4 [(0, .ref (a 0))] := hl
  have hP : va_P (dC, dI) classes (cMd cI cJ cZ a mb mg mx mf) s.heap := hP
  have L5 : ∀ (n5 : Nat) (s5 : MxS) (H : Heap) (locs : List Loc) (ls : Array Slot), lp (f_Md_rules_L5 N mb mg) n5 s5 = some res → va_P (dC, dI) classes (cMd cI cJ cZ a mb mg s5 mf) H → va_D A (cMd cI cJ cZ a mb mg s5 mf) → va_S A s.heap H locs → lv_has ls 4 [(0, .ref (a 0))] → W p l e { frames := 4, cells := 0, slots := 0, locals := 92 } s m args below meth c H locs 0 0 (KZ below args s (dC, dI) classes none (cMd cI cJ cZ a mb mg res mf) A) (F0 m 5 ls []) := by
    intro n5
    induction n5 with
    | zero => intro _ _ _ _ h; exact (lp_0 h).elim
    | succ n5 ih5 =>
      intro s5 H locs ls h hP hD hS hl
      have h := lp_s h
      have L19 : ∀ (n19 : Nat) (s19 : Int32 × MxS) (H : Heap) (locs : List Loc) (ls : Array Slot), lp (f_Md_rules_L19 N (lp (f_Md_rules_L5 N mb mg) n5) mb mg) n19 s19 = some res → va_P (dC, dI) classes (cMd cI cJ cZ a mb mg s19.2 mf) H → va_D A (cMd cI cJ cZ a mb mg s19.2 mf) → va_S A s.heap H locs → lv_has ls 4 [(0, .ref (a 0)), (1, .int s19.1)] → W p l e { frames := 4, cells := 0, slots := 0, locals := 92 } s m args below meth c H locs 0 0 (KZ below args s (dC, dI) classes none (cMd cI cJ cZ a mb mg res mf) A) (F0 m 19 ls []) := by
        intro n19
        induction n19 with
        | zero => intro _ _ _ _ h; exact (lp_0 h).elim
        | succ n19 ih19 =>
          intro s19 H locs ls h hP hD hS hl
          have h := lp_s h
          have L94 : ∀ (x1_94 : Int32) (x2_94 : Int32) (n94 : Nat) (s94 : Int32 × MxS) (H : Heap) (locs : List Loc) (ls : Array Slot), lp (f_Md_rules_L94 N (lp (f_Md_rules_L5 N mb mg) n5) (lp (f_Md_rules_L19 N (lp (f_Md_rules_L5 N mb mg) n5) mb mg) n19) x1_94 x2_94 mb mg) n94 s94 = some res → va_P (dC, dI) classes (cMd cI cJ cZ a mb mg s94.2 mf) H → va_D A (cMd cI cJ cZ a mb mg s94.2 mf) → va_S A s.heap H locs → lv_has ls 4 [(0, .ref (a 0)), (1, .int x1_94), (2, .int x2_94), (3, .int s94.1)] → W p l e { frames := 4, cells := 0, slots := 0, locals := 92 } s m args below meth c H locs 0 0 (KZ below args s (dC, dI) classes none (cMd cI cJ cZ a mb mg res mf) A) (F0 m 94 ls []) := by
            intro x1_94 x2_94 n94
            induction n94 with
            | zero => intro _ _ _ _ h; exact (lp_0 h).elim
            | succ n94 ih94 =>
              intro s94 H locs ls h hP hD hS hl
              have h := lp_s h
              refine lv_iload_n hx hb d_Md_rules_94 rfl (lv_at hl 3 rfl) ?_
              refine lv_aload_n hx hb d_Md_rules_95 rfl (lv_at hl 0 rfl) ?_
              refine va_get (D := (dC, dI)) (ci := 7) (v := .int (Mg_knownKinds mg)) (C := R_Md) (T := F_Md) (N := 35) hx hb hts inb_Md hown hK hP 0 rfl rfl 20 (by decide) (hts _ tw707) (fun _ h9 => h9) rfl d_Md_rules_96 ?_
              refine lv_icmp_ge (tgt := 148) hx hb d_Md_rules_99 (by decide) (fun hc => ?_) (fun hc => ?_)
              · have h := o_t hc h
                refine lv_iinc (v := (x1_94 + 1)) (lv' := [(1, .int (x1_94 + 1)), (0, .ref (a 0)), (2, .int x2_94), (3, .int s94.1)]) hx hb d_Md_rules_148 hl (k := 1) rfl rfl (by decide) rfl (fun ls hl => ?_)
                refine lv_goto (tgt := 19) hx hb d_Md_rules_151 (by decide) ?_
                exact ih19 ((x1_94 + 1), s94.2) _ _ _ h hP hD hS (lv_sub hl [1, 0] rfl)
              · have h := o_f hc h
                refine lv_aload_n hx hb d_Md_rules_102 rfl (lv_at hl 0 rfl) ?_
                refine va_get (D := (dC, dI)) (ci := 7) (v := .ref (a 18)) (C := R_Md) (T := F_Md) (N := 35) hx hb hts inb_Md hown hK hP 0 rfl rfl 26 (by decide) (hts _ tw713) (fun _ h9 => h9) rfl d_Md_rules_103 ?_
                refine lv_bipush (v := 12) hx hb d_Md_rules_106 (by decide) ?_
                refine lv_iload_n hx hb d_Md_rules_108 rfl (lv_at hl 2 rfl) ?_
                refine lv_imul hx hb d_Md_rules_109 ?_
                refine lv_iload_n hx hb d_Md_rules_110 rfl (lv_at hl 3 rfl) ?_
                refine lv_iadd hx hb d_Md_rules_111 ?_
                obtain ⟨hin, h⟩ := o_in h
                refine va_zald hx hb hK hP 18 2 rfl rfl hin d_Md_rules_112 ?_
                refine lv_if_ne (tgt := 142) hx hb d_Md_rules_113 (by decide) (fun hc => ?_) (fun hc => ?_)
                · have h := o_f hc h
                  refine lv_iinc (v := (s94.1 + 1)) (lv' := [(3, .int (s94.1 + 1)), (0, .ref (a 0)), (1, .int x1_94), (2, .int x2_94)]) hx hb d_Md_rules_142 hl (k := 3) rfl rfl (by decide) rfl (fun ls hl => ?_)
                  refine lv_goto (tgt := 94) hx hb d_Md_rules_145 (by decide) ?_
                  exact ih94 ((s94.1 + 1), s94.2) _ _ _ h hP hD hS (lv_sub hl [1, 2, 3, 0] rfl)
                · have h := o_t hc h
                  refine lv_aload_n hx hb d_Md_rules_116 rfl (lv_at hl 0 rfl) ?_
                  refine lv_iload_n hx hb d_Md_rules_117 rfl (lv_at hl 2 rfl) ?_
                  refine lv_iload_n hx hb d_Md_rules_118 rfl (lv_at hl 3 rfl) ?_
                  obtain ⟨y119, hy, h⟩ := o_bd h
                  refine kdV (nn := 24) (rest := []) (w' := (cMd cI cJ cZ a mb mg s94.2 mf)) (wr := ([] : va_W)) (st1 := [.int y119]) ⟨hx, hb, hml, hown, hts⟩ (c_Md_mustThrow l dC dI cI cJ cZ a N x2_94 s94.1 mb mg s94.2 mf y119 hy) (cwV 2 hts (gd_V tw953 tw955 ps44 tw9 tw956) rfl rfl rfl hd_Md_mustThrow ⟨Nat.le_of_ble_eq_true rfl, Nat.le_of_ble_eq_true rfl⟩) hNw hK hP hD hS hA (ci := 7) rfl rfl rfl [0, 1, 2, 3, 4, 5, 6, 7, 8, 9, 10, 11, 12, 13, 14, 15, 16, 17, 18, 19, 20, 21, 22, 23] [] rfl rfl rfl rfl rfl (by decide +kernel) (by decide +kernel) rfl hl.1 rfl (Nat.le_of_ble_eq_true rfl) rfl d_Md_rules_119 ⟨Nat.zero_le _, Nat.zero_le _⟩ (fun H locs hP hD hS => ?_)
                  refine lv_if_eq (tgt := 142) hx hb d_Md_rules_122 (by decide) (fun hc => ?_) (fun hc => ?_)
                  · have h := o_t hc h
                    refine lv_iinc (v := (s94.1 + 1)) (lv' := [(3, .int (s94.1 + 1)), (0, .ref (a 0)), (1, .int x1_94), (2, .int x2_94)]) hx hb d_Md_rules_142 hl (k := 3) rfl rfl (by decide) rfl (fun ls hl => ?_)
                    refine lv_goto (tgt := 94) hx hb d_Md_rules_145 (by decide) ?_
                    exact ih94 ((s94.1 + 1), s94.2) _ _ _ h hP hD hS (lv_sub hl [1, 2, 3, 0] rfl)
                  · have h := o_f hc h
                    refine lv_aload_n hx hb d_Md_rules_125 rfl (lv_at hl 0 rfl) ?_
                    refine va_get (D := (dC, dI)) (ci := 7) (v := .ref (a 18)) (C := R_Md) (T := F_Md) (N := 35) hx hb hts inb_Md hown hK hP 0 rfl rfl 26 (by decide) (hts _ tw713) (fun _ h9 => h9) rfl d_Md_rules_126 ?_
                    refine lv_bipush (v := 12) hx hb d_Md_rules_129 (by decide) ?_
                    refine lv_iload_n hx hb d_Md_rules_131 rfl (lv_at hl 2 rfl) ?_
                    refine lv_imul hx hb d_Md_rules_132 ?_
                    refine lv_iload_n hx hb d_Md_rules_133 rfl (lv_at hl 3 rfl) ?_
                    refine lv_iadd hx hb d_Md_rules_134 ?_
                    refine lv_iconst (v := 1) hx hb d_Md_rules_135 (by decide) ?_
                    obtain ⟨hin, h⟩ := o_in h
                    refine va_zast hx hb hK hP hD hS 18 2 rfl rfl hin d_Md_rules_136 (fun H locs hP hD hS => ?_)
                    have hP : va_P (dC, dI) classes (cMd cI cJ cZ a mb mg ((Mx_isReached s94.2), (Mx_isComplete s94.2), (upd (Mx_throwable s94.2) (((12 : Int32) * x2_94) + s94.1).toNatClampNeg (vp_nar .boolean (1 : Int32))), (Mx_isCome s94.2), (Mx_ended s94.2), (Mx_isNew s94.2)) mf) H := hP
                    have hD : va_D A (cMd cI cJ cZ a mb mg ((Mx_isReached s94.2), (Mx_isComplete s94.2), (upd (Mx_throwable s94.2) (((12 : Int32) * x2_94) + s94.1).toNatClampNeg (vp_nar .boolean (1 : Int32))), (Mx_isCome s94.2), (Mx_ended s94.2), (Mx_isNew s94.2)) mf) := hD
                    refine lv_aload_n hx hb d_Md_rules_137 rfl (lv_at hl 0 rfl) ?_
                    refine lv_iconst (v := 1) hx hb d_Md_rules_138 (by decide) ?_
                    refine va_put (D := (dC, dI)) (ci := 7) (v := .int (1 : Int32)) (ty := .boolean) (C := R_Md) (T := F_Md) (N := 35) hx hb hts inb_Md ft_Md ft_Md_ok n_Md hown hK hP hD hS 0 rfl rfl 29 (by decide) (hts _ tw716) (fun _ h9 => h9) rfl (by decide +kernel) rfl rfl (Nat.le_of_ble_eq_true rfl) d_Md_rules_139 (fun H locs hP hD hS => ?_)
                    have hP : va_P (dC, dI) classes (cMd cI cJ cZ a mb mg ((Mx_isReached s94.2), (Mx_isComplete s94.2), (upd (Mx_throwable s94.2) (((12 : Int32) * x2_94) + s94.1).toNatClampNeg (vp_nar .boolean (1 : Int32))), (Mx_isCome s94.2), (Mx_ended s94.2), (1 : Int32)) mf) H := hP
                    have hD : va_D A (cMd cI cJ cZ a mb mg ((Mx_isReached s94.2), (Mx_isComplete s94.2), (upd (Mx_throwable s94.2) (((12 : Int32) * x2_94) + s94.1).toNatClampNeg (vp_nar .boolean (1 : Int32))), (Mx_isCome s94.2), (Mx_ended s94.2), (1 : Int32)) mf) := hD
                    refine lv_iinc (v := (s94.1 + 1)) (lv' := [(3, .int (s94.1 + 1)), (0, .ref (a 0)), (1, .int x1_94), (2, .int x2_94)]) hx hb d_Md_rules_142 hl (k := 3) rfl rfl (by decide) rfl (fun ls hl => ?_)
                    refine lv_goto (tgt := 94) hx hb d_Md_rules_145 (by decide) ?_
                    exact ih94 ((s94.1 + 1), ((Mx_isReached s94.2), (Mx_isComplete s94.2), (upd (Mx_throwable s94.2) (((12 : Int32) * x2_94) + s94.1).toNatClampNeg (vp_nar .boolean (1 : Int32))), (Mx_isCome s94.2), (Mx_ended s94.2), (1 : Int32))) _ _ _ h hP hD hS (lv_sub hl [1, 2, 3, 0] rfl)
          have B63 : ∀ (x1_63 : Int32) (x2_63 : Int32) (mx_63 : MxS) (H : Heap) (locs : List Loc) (ls : Array Slot), f_Md_rules_b63 N (lp (f_Md_rules_L5 N mb mg) n5) (lp (f_Md_rules_L19 N (lp (f_Md_rules_L5 N mb mg) n5) mb mg) n19) x1_63 x2_63 mb mg mx_63 = some res → va_P (dC, dI) classes (cMd cI cJ cZ a mb mg mx_63 mf) H → va_D A (cMd cI cJ cZ a mb mg mx_63 mf) → va_S A s.heap H locs → lv_has ls 4 [(0, .ref (a 0)), (1, .int x1_63), (2, .int x2_63)] → W p l e { frames := 4, cells := 0, slots := 0, locals := 92 } s m args below meth c H locs 0 0 (KZ below args s (dC, dI) classes none (cMd cI cJ cZ a mb mg res mf) A) (F0 m 63 ls []) := by
            intro x1_63 x2_63 mx_63 H locs ls h hP hD hS hl
            refine lv_aload_n hx hb d_Md_rules_63 rfl (lv_at hl 0 rfl) ?_
            refine va_get (D := (dC, dI)) (ci := 7) (v := .ref (a 17)) (C := R_Md) (T := F_Md) (N := 35) hx hb hts inb_Md hown hK hP 0 rfl rfl 25 (by decide) (hts _ tw712) (fun _ h9 => h9) rfl d_Md_rules_64 ?_
            refine lv_iload_n hx hb d_Md_rules_67 rfl (lv_at hl 2 rfl) ?_
            obtain ⟨hin, h⟩ := o_in h
            refine va_zald hx hb hK hP 17 2 rfl rfl hin d_Md_rules_68 ?_
            refine lv_if_ne (tgt := 92) hx hb d_Md_rules_69 (by decide) (fun hc => ?_) (fun hc => ?_)
            · have h := o_f hc h
              refine lv_iconst (v := 0) hx hb d_Md_rules_92 (by decide) ?_
              refine lv_istore_n (lv' := [(3, .int (0 : Int32)), (0, .ref (a 0)), (1, .int x1_63), (2, .int x2_63)]) hx hb d_Md_rules_93 rfl hl (by decide) rfl (fun ls hl => ?_)
              exact L94 x1_63 x2_63 N ((0 : Int32), mx_63) _ _ _ h hP hD hS (lv_sub hl [1, 2, 3, 0] rfl)
            · have h := o_t hc h
              refine lv_aload_n hx hb d_Md_rules_72 rfl (lv_at hl 0 rfl) ?_
              refine lv_iload_n hx hb d_Md_rules_73 rfl (lv_at hl 2 rfl) ?_
              obtain ⟨y74, hy, h⟩ := o_bd h
              refine kdV (nn := 24) (rest := []) (w' := (cMd cI cJ cZ a mb mg mx_63 mf)) (wr := ([] : va_W)) (st1 := [.int y74]) ⟨hx, hb, hml, hown, hts⟩ (c_Md_mustComplete l dC dI cI cJ cZ a N x2_63 mb mg mx_63 mf y74 hy) (cwV 1 hts (gd_V tw929 tw931 ps38 tw9 tw932) rfl rfl rfl hd_Md_mustComplete ⟨Nat.le_of_ble_eq_true rfl, Nat.le_of_ble_eq_true rfl⟩) hNw hK hP hD hS hA (ci := 7) rfl rfl rfl [0, 1, 2, 3, 4, 5, 6, 7, 8, 9, 10, 11, 12, 13, 14, 15, 16, 17, 18, 19, 20, 21, 22, 23] [] rfl rfl rfl rfl rfl (by decide +kernel) (by decide +kernel) rfl hl.1 rfl (Nat.le_of_ble_eq_true rfl) rfl d_Md_rules_74 ⟨Nat.zero_le _, Nat.zero_le _⟩ (fun H locs hP hD hS => ?_)
              refine lv_if_eq (tgt := 92) hx hb d_Md_rules_77 (by decide) (fun hc => ?_) (fun hc => ?_)
              · have h := o_t hc h
                refine lv_iconst (v := 0) hx hb d_Md_rules_92 (by decide) ?_
                refine lv_istore_n (lv' := [(3, .int (0 : Int32)), (0, .ref (a 0)), (1, .int x1_63), (2, .int x2_63)]) hx hb d_Md_rules_93 rfl hl (by decide) rfl (fun ls hl => ?_)
                exact L94 x1_63 x2_63 N ((0 : Int32), mx_63) _ _ _ h hP hD hS (lv_sub hl [1, 2, 3, 0] rfl)
              · have h := o_f hc h
                refine lv_aload_n hx hb d_Md_rules_80 rfl (lv_at hl 0 rfl) ?_
                refine va_get (D := (dC, dI)) (ci := 7) (v := .ref (a 17)) (C := R_Md) (T := F_Md) (N := 35) hx hb hts inb_Md hown hK hP 0 rfl rfl 25 (by decide) (hts _ tw712) (fun _ h9 => h9) rfl d_Md_rules_81 ?_
                refine lv_iload_n hx hb d_Md_rules_84 rfl (lv_at hl 2 rfl) ?_
                refine lv_iconst (v := 1) hx hb d_Md_rules_85 (by decide) ?_
                obtain ⟨hin, h⟩ := o_in h
                refine va_zast hx hb hK hP hD hS 17 2 rfl rfl hin d_Md_rules_86 (fun H locs hP hD hS => ?_)
                have hP : va_P (dC, dI) classes (cMd cI cJ cZ a mb mg ((Mx_isReached mx_63), (upd (Mx_isComplete mx_63) x2_63.toNatClampNeg (vp_nar .boolean (1 : Int32))), (Mx_throwable mx_63), (Mx_isCome mx_63), (Mx_ended mx_63), (Mx_isNew mx_63)) mf) H := hP
                have hD : va_D A (cMd cI cJ cZ a mb mg ((Mx_isReached mx_63), (upd (Mx_isComplete mx_63) x2_63.toNatClampNeg (vp_nar .boolean (1 : Int32))), (Mx_throwable mx_63), (Mx_isCome mx_63), (Mx_ended mx_63), (Mx_isNew mx_63)) mf) := hD
                refine lv_aload_n hx hb d_Md_rules_87 rfl (lv_at hl 0 rfl) ?_
                refine lv_iconst (v := 1) hx hb d_Md_rules_88 (by decide) ?_
                refine va_put (D := (dC, dI)) (ci := 7) (v := .int (1 : Int32)) (ty := .boolean) (C := R_Md) (T := F_Md) (N := 35) hx hb hts inb_Md ft_Md ft_Md_ok n_Md hown hK hP hD hS 0 rfl rfl 29 (by decide) (hts _ tw716) (fun _ h9 => h9) rfl (by decide +kernel) rfl rfl (Nat.le_of_ble_eq_true rfl) d_Md_rules_89 (fun H locs hP hD hS => ?_)
                have hP : va_P (dC, dI) classes (cMd cI cJ cZ a mb mg ((Mx_isReached mx_63), (upd (Mx_isComplete mx_63) x2_63.toNatClampNeg (vp_nar .boolean (1 : Int32))), (Mx_throwable mx_63), (Mx_isCome mx_63), (Mx_ended mx_63), (1 : Int32)) mf) H := hP
                have hD : va_D A (cMd cI cJ cZ a mb mg ((Mx_isReached mx_63), (upd (Mx_isComplete mx_63) x2_63.toNatClampNeg (vp_nar .boolean (1 : Int32))), (Mx_throwable mx_63), (Mx_isCome mx_63), (Mx_ended mx_63), (1 : Int32)) mf) := hD
                refine lv_iconst (v := 0) hx hb d_Md_rules_92 (by decide) ?_
                refine lv_istore_n (lv' := [(3, .int (0 : Int32)), (0, .ref (a 0)), (1, .int x1_63), (2, .int x2_63)]) hx hb d_Md_rules_93 rfl hl (by decide) rfl (fun ls hl => ?_)
                exact L94 x1_63 x2_63 N ((0 : Int32), ((Mx_isReached mx_63), (upd (Mx_isComplete mx_63) x2_63.toNatClampNeg (vp_nar .boolean (1 : Int32))), (Mx_throwable mx_63), (Mx_isCome mx_63), (Mx_ended mx_63), (1 : Int32))) _ _ _ h hP hD hS (lv_sub hl [1, 2, 3, 0] rfl)
          refine lv_iload_n hx hb d_Md_rules_19 rfl (lv_at hl 1 rfl) ?_
          refine lv_aload_n hx hb d_Md_rules_20 rfl (lv_at hl 0 rfl) ?_
          refine va_get (D := (dC, dI)) (ci := 7) (v := .int (Mg_rooted mg)) (C := R_Md) (T := F_Md) (N := 35) hx hb hts inb_Md hown hK hP 0 rfl rfl 19 (by decide) (hts _ tw706) (fun _ h9 => h9) rfl d_Md_rules_21 ?_
          refine lv_icmp_ge (tgt := 154) hx hb d_Md_rules_24 (by decide) (fun hc => ?_) (fun hc => ?_)
          · have h := o_t hc h
            refine lv_goto (tgt := 5) hx hb d_Md_rules_154 (by decide) ?_
            exact ih5 s19.2 _ _ _ h hP hD hS (lv_sub hl [0] rfl)
          · have h := o_f hc h
            refine lv_aload_n hx hb d_Md_rules_27 rfl (lv_at hl 0 rfl) ?_
            refine va_get (D := (dC, dI)) (ci := 7) (v := .ref (a 13)) (C := R_Md) (T := F_Md) (N := 35) hx hb hts inb_Md hown hK hP 0 rfl rfl 21 (by decide) (hts _ tw708) (fun _ h9 => h9) rfl d_Md_rules_28 ?_
            refine lv_iload_n hx hb d_Md_rules_31 rfl (lv_at hl 1 rfl) ?_
            obtain ⟨hin, h⟩ := o_in h
            refine va_iald hx hb hK hP 13 0 rfl rfl hin d_Md_rules_32 ?_
            refine lv_istore_n (lv' := [(2, .int ((Mg_order mg) s19.1.toNatClampNeg)), (0, .ref (a 0)), (1, .int s19.1)]) hx hb d_Md_rules_33 rfl hl (by decide) rfl (fun ls hl => ?_)
            refine lv_aload_n hx hb d_Md_rules_34 rfl (lv_at hl 1 rfl) ?_
            refine va_get (D := (dC, dI)) (ci := 7) (v := .ref (a 16)) (C := R_Md) (T := F_Md) (N := 35) hx hb hts inb_Md hown hK hP 0 rfl rfl 24 (by decide) (hts _ tw711) (fun _ h9 => h9) rfl d_Md_rules_35 ?_
            refine lv_iload_n hx hb d_Md_rules_38 rfl (lv_at hl 0 rfl) ?_
            obtain ⟨hin, h⟩ := o_in h
            refine va_zald hx hb hK hP 16 2 rfl rfl hin d_Md_rules_39 ?_
            refine lv_if_ne (tgt := 63) hx hb d_Md_rules_40 (by decide) (fun hc => ?_) (fun hc => ?_)
            · have h := o_f hc h
              exact B63 s19.1 ((Mg_order mg) s19.1.toNatClampNeg) s19.2 _ _ _ h hP hD hS (lv_sub hl [1, 2, 0] rfl)
            · have h := o_t hc h
              refine lv_aload_n hx hb d_Md_rules_43 rfl (lv_at hl 1 rfl) ?_
              refine lv_iload_n hx hb d_Md_rules_44 rfl (lv_at hl 0 rfl) ?_
              obtain ⟨y45, hy, h⟩ := o_bd h
              refine kdV (nn := 24) (rest := []) (w' := (cMd cI cJ cZ a mb mg s19.2 mf)) (wr := ([] : va_W)) (st1 := [.int y45]) ⟨hx, hb, hml, hown, hts⟩ (c_Md_mustReach l dC dI cI cJ cZ a N ((Mg_order mg) s19.1.toNatClampNeg) mb mg s19.2 mf y45 hy) (cwV 1 hts (gd_V tw909 tw911 ps33 tw9 tw912) rfl rfl rfl hd_Md_mustReach ⟨Nat.le_of_ble_eq_true rfl, Nat.le_of_ble_eq_true rfl⟩) hNw hK hP hD hS hA (ci := 7) rfl rfl rfl [0, 1, 2, 3, 4, 5, 6, 7, 8, 9, 10, 11, 12, 13, 14, 15, 16, 17, 18, 19, 20, 21, 22, 23] [] rfl rfl rfl rfl rfl (by decide +kernel) (by decide +kernel) rfl hl.1 rfl (Nat.le_of_ble_eq_true rfl) rfl d_Md_rules_45 ⟨Nat.zero_le _, Nat.zero_le _⟩ (fun H locs hP hD hS => ?_)
              refine lv_if_eq (tgt := 63) hx hb d_Md_rules_48 (by decide) (fun hc => ?_) (fun hc => ?_)
              · have h := o_t hc h
                exact B63 s19.1 ((Mg_order mg) s19.1.toNatClampNeg) s19.2 _ _ _ h hP hD hS (lv_sub hl [1, 2, 0] rfl)
              · have h := o_f hc h
                refine lv_aload_n hx hb d_Md_rules_51 rfl (lv_at hl 1 rfl) ?_
                refine va_get (D := (dC, dI)) (ci := 7) (v := .ref (a 16)) (C := R_Md) (T := F_Md) (N := 35) hx hb hts inb_Md hown hK hP 0 rfl rfl 24 (by decide) (hts _ tw711) (fun _ h9 => h9) rfl d_Md_rules_52 ?_
                refine lv_iload_n hx hb d_Md_rules_55 rfl (lv_at hl 0 rfl) ?_
                refine lv_iconst (v := 1) hx hb d_Md_rules_56 (by decide) ?_
                obtain ⟨hin, h⟩ := o_in h
                refine va_zast hx hb hK hP hD hS 16 2 rfl rfl hin d_Md_rules_57 (fun H locs hP hD hS => ?_)
                have hP : va_P (dC, dI) classes (cMd cI cJ cZ a mb mg ((upd (Mx_isReached s19.2) ((Mg_order mg) s19.1.toNatClampNeg).toNatClampNeg (vp_nar .boolean (1 : Int32))), (Mx_isComplete s19.2), (Mx_throwable s19.2), (Mx_isCome s19.2), (Mx_ended s19.2), (Mx_isNew s19.2)) mf) H := hP
                have hD : va_D A (cMd cI cJ cZ a mb mg ((upd (Mx_isReached s19.2) ((Mg_order mg) s19.1.toNatClampNeg).toNatClampNeg (vp_nar .boolean (1 : Int32))), (Mx_isComplete s19.2), (Mx_throwable s19.2), (Mx_isCome s19.2), (Mx_ended s19.2), (Mx_isNew s19.2)) mf) := hD
                refine lv_aload_n hx hb d_Md_rules_58 rfl (lv_at hl 1 rfl) ?_
                refine lv_iconst (v := 1) hx hb d_Md_rules_59 (by decide) ?_
                refine va_put (D := (dC, dI)) (ci := 7) (v := .int (1 : Int32)) (ty := .boolean) (C := R_Md) (T := F_Md) (N := 35) hx hb hts inb_Md ft_Md ft_Md_ok n_Md hown hK hP hD hS 0 rfl rfl 29 (by decide) (hts _ tw716) (fun _ h9 => h9) rfl (by decide +kernel) rfl rfl (Nat.le_of_ble_eq_true rfl) d_Md_rules_60 (fun H locs hP hD hS => ?_)
                have hP : va_P (dC, dI) classes (cMd cI cJ cZ a mb mg ((upd (Mx_isReached s19.2) ((Mg_order mg) s19.1.toNatClampNeg).toNatClampNeg (vp_nar .boolean (1 : Int32))), (Mx_isComplete s19.2), (Mx_throwable s19.2), (Mx_isCome s19.2), (Mx_ended s19.2), (1 : Int32)) mf) H := hP
                have hD : va_D A (cMd cI cJ cZ a mb mg ((upd (Mx_isReached s19.2) ((Mg_order mg) s19.1.toNatClampNeg).toNatClampNeg (vp_nar .boolean (1 : Int32))), (Mx_isComplete s19.2), (Mx_throwable s19.2), (Mx_isCome s19.2), (Mx_ended s19.2), (1 : Int32)) mf) := hD
                exact B63 s19.1 ((Mg_order mg) s19.1.toNatClampNeg) ((upd (Mx_isReached s19.2) ((Mg_order mg) s19.1.toNatClampNeg).toNatClampNeg (vp_nar .boolean (1 : Int32))), (Mx_isComplete s19.2), (Mx_throwable s19.2), (Mx_isCome s19.2), (Mx_ended s19.2), (1 : Int32)) _ _ _ h hP hD hS (lv_sub hl [1, 2, 0] rfl)
      refine lv_aload_n hx hb d_Md_rules_5 rfl (lv_at hl 0 rfl) ?_
      refine va_get (D := (dC, dI)) (ci := 7) (v := .int (Mx_isNew s5)) (C := R_Md) (T := F_Md) (N := 35) hx hb hts inb_Md hown hK hP 0 rfl rfl 29 (by decide) (hts _ tw716) (fun _ h9 => h9) rfl d_Md_rules_6 ?_
      refine lv_if_eq (tgt := 157) hx hb d_Md_rules_9 (by decide) (fun hc => ?_) (fun hc => ?_)
      · have h := o_t hc h
        cases h
        exact kr_v hx hb hr hlocks hP hD hS d_Md_rules_157
      · have h := o_f hc h
        refine lv_aload_n hx hb d_Md_rules_12 rfl (lv_at hl 0 rfl) ?_
        refine lv_iconst (v := 0) hx hb d_Md_rules_13 (by decide) ?_
        refine va_put (D := (dC, dI)) (ci := 7) (v := .int (0 : Int32)) (ty := .boolean) (C := R_Md) (T := F_Md) (N := 35) hx hb hts inb_Md ft_Md ft_Md_ok n_Md hown hK hP hD hS 0 rfl rfl 29 (by decide) (hts _ tw716) (fun _ h9 => h9) rfl (by decide +kernel) rfl rfl (Nat.le_of_ble_eq_true rfl) d_Md_rules_14 (fun H locs hP hD hS => ?_)
        have hP : va_P (dC, dI) classes (cMd cI cJ cZ a mb mg ((Mx_isReached s5), (Mx_isComplete s5), (Mx_throwable s5), (Mx_isCome s5), (Mx_ended s5), (0 : Int32)) mf) H := hP
        have hD : va_D A (cMd cI cJ cZ a mb mg ((Mx_isReached s5), (Mx_isComplete s5), (Mx_throwable s5), (Mx_isCome s5), (Mx_ended s5), (0 : Int32)) mf) := hD
        refine lv_iconst (v := 0) hx hb d_Md_rules_17 (by decide) ?_
        refine lv_istore_n (lv' := [(1, .int (0 : Int32)), (0, .ref (a 0))]) hx hb d_Md_rules_18 rfl hl (by decide) rfl (fun ls hl => ?_)
        exact L19 N ((0 : Int32), ((Mx_isReached s5), (Mx_isComplete s5), (Mx_throwable s5), (Mx_isCome s5), (Mx_ended s5), (0 : Int32))) _ _ _ h hP hD hS (lv_sub hl [1, 0] rfl)
  refine lv_aload_n hx hb d_Md_rules_0 rfl (lv_at hl 0 rfl) ?_
  refine lv_iconst (v := 1) hx hb d_Md_rules_1 (by decide) ?_
  refine va_put (D := (dC, dI)) (ci := 7) (v := .int (1 : Int32)) (ty := .boolean) (C := R_Md) (T := F_Md) (N := 35) hx hb hts inb_Md ft_Md ft_Md_ok n_Md hown hK hP hD hS 0 rfl rfl 29 (by decide) (hts _ tw716) (fun _ h9 => h9) rfl (by decide +kernel) rfl rfl (Nat.le_of_ble_eq_true rfl) d_Md_rules_2 (fun H locs hP hD hS => ?_)
  have hP : va_P (dC, dI) classes (cMd cI cJ cZ a mb mg ((Mx_isReached mx), (Mx_isComplete mx), (Mx_throwable mx), (Mx_isCome mx), (Mx_ended mx), (1 : Int32)) mf) H := hP
  have hD : va_D A (cMd cI cJ cZ a mb mg ((Mx_isReached mx), (Mx_isComplete mx), (Mx_throwable mx), (Mx_isCome mx), (Mx_ended mx), (1 : Int32)) mf) := hD
  exact L5 N ((Mx_isReached mx), (Mx_isComplete mx), (Mx_throwable mx), (Mx_isCome mx), (Mx_ended mx), (1 : Int32)) _ _ _ h hP hD hS (lv_sub hl [0] rfl)
set_option maxHeartbeats 4000000 in
set_option maxRecDepth 100000 in
theorem c_Md_come (l : Launch) (dC : Nat → ClassId) (dI : Nat → Nat → Nat) (cI cJ cZ : ClassId) (a : Nat → Nat) (x1 : Int32) (mb : MbS) (mg : MgS) (mx : MxS) (mf : MfS) (res : MxS) (h : f_Md_come x1 mx = some res) :
    Kt l (dC, dI) classes [(cI, .int), (cJ, .long), (cZ, .boolean)] y_Md_come (wz y_Md_come b_Md_come 2 none) { frames := 0, cells := 0, slots := 0, locals := 0 } [.ref (a 0), .int x1] (cMd cI cJ cZ a mb mg mx mf) none (cMd cI cJ cZ a mb mg res mf) := by
  refine Kt_of (cc := b_Md_come) (maxL := 2) (ret := none) (by decide) (Nat.le_of_ble_eq_true rfl) ?_
  intro p e s m args below meth c A ls hx hb hr hml hlocks hown hts hNw hK hP hD hA hS hl
  have hl : lv_has ls 2 [(0, .ref (a 0)), (1, .int x1)] := hl
  have hP : va_P (dC, dI) classes (cMd cI cJ cZ a mb mg mx mf) s.heap := hP
  have B22 : ∀ (z0_22 : Int32) (x1_22 : Int32) (mx_22 : MxS) (H : Heap) (locs : List Loc) (ls : Array Slot), f_Md_come_b22 z0_22 x1_22 mx_22 = some res → va_P (dC, dI) classes (cMd cI cJ cZ a mb mg mx_22 mf) H → va_D A (cMd cI cJ cZ a mb mg mx_22 mf) → va_S A s.heap H locs → lv_has ls 2 [(0, .ref (a 0)), (1, .int x1_22)] → W p l e { frames := 0, cells := 0, slots := 0, locals := 0 } s m args below meth c H locs 0 0 (KZ below args s (dC, dI) classes none (cMd cI cJ cZ a mb mg res mf) A) (F0 m 22 ls [.int z0_22, .ref (a 0)]) := by
    intro z0_22 x1_22 mx_22 H locs ls h hP hD hS hl
    obtain ⟨hbo, h⟩ := o_bo h
    refine va_put (D := (dC, dI)) (ci := 7) (v := .int z0_22) (ty := .boolean) (C := R_Md) (T := F_Md) (N := 35) hx hb hts inb_Md ft_Md ft_Md_ok n_Md hown hK hP hD hS 0 rfl rfl 29 (by decide) (hts _ tw716) (fun _ h9 => h9) rfl (by decide +kernel) (bB_narrow hbo) (bB_fits hbo) (Nat.le_of_ble_eq_true rfl) d_Md_come_22 (fun H locs hP hD hS => ?_)
    have hP : va_P (dC, dI) classes (cMd cI cJ cZ a mb mg ((Mx_isReached mx_22), (Mx_isComplete mx_22), (Mx_throwable mx_22), (Mx_isCome mx_22), (Mx_ended mx_22), z0_22) mf) H := hP
    have hD : va_D A (cMd cI cJ cZ a mb mg ((Mx_isReached mx_22), (Mx_isComplete mx_22), (Mx_throwable mx_22), (Mx_isCome mx_22), (Mx_ended mx_22), z0_22) mf) := hD
    refine lv_aload_n hx hb d_Md_come_25 rfl (lv_at hl 0 rfl) ?_
    refine va_get (D := (dC, dI)) (ci := 7) (v := .ref (a 19)) (C := R_Md) (T := F_Md) (N := 35) hx hb hts inb_Md hown hK hP 0 rfl rfl 27 (by decide) (hts _ tw714) (fun _ h9 => h9) rfl d_Md_come_26 ?_
    refine lv_iload_n hx hb d_Md_come_29 rfl (lv_at hl 1 rfl) ?_
    refine lv_iconst (v := 1) hx hb d_Md_come_30 (by decide) ?_
    obtain ⟨hin, h⟩ := o_in h
    refine va_zast hx hb hK hP hD hS 19 2 rfl rfl hin d_Md_come_31 (fun H locs hP hD hS => ?_)
    have hP : va_P (dC, dI) classes (cMd cI cJ cZ a mb mg ((Mx_isReached mx_22), (Mx_isComplete mx_22), (Mx_throwable mx_22), (upd (Mx_isCome mx_22) x1_22.toNatClampNeg (vp_nar .boolean (1 : Int32))), (Mx_ended mx_22), z0_22) mf) H := hP
    have hD : va_D A (cMd cI cJ cZ a mb mg ((Mx_isReached mx_22), (Mx_isComplete mx_22), (Mx_throwable mx_22), (upd (Mx_isCome mx_22) x1_22.toNatClampNeg (vp_nar .boolean (1 : Int32))), (Mx_ended mx_22), z0_22) mf) := hD
    cases h
    exact kr_v hx hb hr hlocks hP hD hS d_Md_come_32
  have B17 : ∀ (x1_17 : Int32) (mx_17 : MxS) (H : Heap) (locs : List Loc) (ls : Array Slot), f_Md_come_b17 x1_17 mx_17 = some res → va_P (dC, dI) classes (cMd cI cJ cZ a mb mg mx_17 mf) H → va_D A (cMd cI cJ cZ a mb mg mx_17 mf) → va_S A s.heap H locs → lv_has ls 2 [(0, .ref (a 0)), (1, .int x1_17)] → W p l e { frames := 0, cells := 0, slots := 0, locals := 0 } s m args below meth c H locs 0 0 (KZ below args s (dC, dI) classes none (cMd cI cJ cZ a mb mg res mf) A) (F0 m 17 ls [.ref (a 0)]) := by
    intro x1_17 mx_17 H locs ls h hP hD hS hl
    refine lv_iconst (v := 1) hx hb d_Md_come_17 (by decide) ?_
    refine lv_goto (tgt := 22) hx hb d_Md_come_18 (by decide) ?_
    exact B22 (1 : Int32) x1_17 mx_17 _ _ _ h hP hD hS (lv_sub hl [0, 1] rfl)
  refine lv_aload_n hx hb d_Md_come_0 rfl (lv_at hl 0 rfl) ?_
  refine lv_aload_n hx hb d_Md_come_1 rfl (lv_at hl 0 rfl) ?_
  refine va_get (D := (dC, dI)) (ci := 7) (v := .int (Mx_isNew mx)) (C := R_Md) (T := F_Md) (N := 35) hx hb hts inb_Md hown hK hP 0 rfl rfl 29 (by decide) (hts _ tw716) (fun _ h9 => h9) rfl d_Md_come_2 ?_
  refine lv_if_ne (tgt := 17) hx hb d_Md_come_5 (by decide) (fun hc => ?_) (fun hc => ?_)
  · have h := o_f hc h
    exact B17 x1 mx _ _ _ h hP hD hS (lv_sub hl [0, 1] rfl)
  · have h := o_t hc h
    refine lv_aload_n hx hb d_Md_come_8 rfl (lv_at hl 0 rfl) ?_
    refine va_get (D := (dC, dI)) (ci := 7) (v := .ref (a 19)) (C := R_Md) (T := F_Md) (N := 35) hx hb hts inb_Md hown hK hP 0 rfl rfl 27 (by decide) (hts _ tw714) (fun _ h9 => h9) rfl d_Md_come_9 ?_
    refine lv_iload_n hx hb d_Md_come_12 rfl (lv_at hl 1 rfl) ?_
    obtain ⟨hin, h⟩ := o_in h
    refine va_zald hx hb hK hP 19 2 rfl rfl hin d_Md_come_13 ?_
    refine lv_if_ne (tgt := 21) hx hb d_Md_come_14 (by decide) (fun hc => ?_) (fun hc => ?_)
    · have h := o_f hc h
      refine lv_iconst (v := 0) hx hb d_Md_come_21 (by decide) ?_
      exact B22 (0 : Int32) x1 mx _ _ _ h hP hD hS (lv_sub hl [0, 1] rfl)
    · have h := o_t hc h
      exact B17 x1 mx _ _ _ h hP hD hS (lv_sub hl [0, 1] rfl)
set_option maxHeartbeats 4000000 in
set_option maxRecDepth 100000 in
theorem c_Md_endBy (l : Launch) (dC : Nat → ClassId) (dI : Nat → Nat → Nat) (cI cJ cZ : ClassId) (a : Nat → Nat) (x1 : Int32) (x2 : Int32) (mb : MbS) (mg : MgS) (mx : MxS) (mf : MfS) (res : MxS) (h : f_Md_endBy x1 x2 mx = some res) :
    Kt l (dC, dI) classes [(cI, .int), (cJ, .long), (cZ, .boolean)] y_Md_endBy (wz y_Md_endBy b_Md_endBy 3 none) { frames := 0, cells := 0, slots := 0, locals := 0 } [.ref (a 0), .int x1, .int x2] (cMd cI cJ cZ a mb mg mx mf) none (cMd cI cJ cZ a mb mg res mf) := by
  refine Kt_of (cc := b_Md_endBy) (maxL := 3) (ret := none) (by decide) (Nat.le_of_ble_eq_true rfl) ?_
  intro p e s m args below meth c A ls hx hb hr hml hlocks hown hts hNw hK hP hD hA hS hl
  have hl : lv_has ls 3 [(0, .ref (a 0)), (1, .int x1), (2, .int x2)] := hl
  have hP : va_P (dC, dI) classes (cMd cI cJ cZ a mb mg mx mf) s.heap := hP
  have B28 : ∀ (z0_28 : Int32) (x1_28 : Int32) (x2_28 : Int32) (mx_28 : MxS) (H : Heap) (locs : List Loc) (ls : Array Slot), f_Md_endBy_b28 z0_28 x1_28 x2_28 mx_28 = some res → va_P (dC, dI) classes (cMd cI cJ cZ a mb mg mx_28 mf) H → va_D A (cMd cI cJ cZ a mb mg mx_28 mf) → va_S A s.heap H locs → lv_has ls 3 [(0, .ref (a 0)), (1, .int x1_28), (2, .int x2_28)] → W p l e { frames := 0, cells := 0, slots := 0, locals := 0 } s m args below meth c H locs 0 0 (KZ below args s (dC, dI) classes none (cMd cI cJ cZ a mb mg res mf) A) (F0 m 28 ls [.int z0_28, .ref (a 0)]) := by
    intro z0_28 x1_28 x2_28 mx_28 H locs ls h hP hD hS hl
    obtain ⟨hbo, h⟩ := o_bo h
    refine va_put (D := (dC, dI)) (ci := 7) (v := .int z0_28) (ty := .boolean) (C := R_Md) (T := F_Md) (N := 35) hx hb hts inb_Md ft_Md ft_Md_ok n_Md hown hK hP hD hS 0 rfl rfl 29 (by decide) (hts _ tw716) (fun _ h9 => h9) rfl (by decide +kernel) (bB_narrow hbo) (bB_fits hbo) (Nat.le_of_ble_eq_true rfl) d_Md_endBy_28 (fun H locs hP hD hS => ?_)
    have hP : va_P (dC, dI) classes (cMd cI cJ cZ a mb mg ((Mx_isReached mx_28), (Mx_isComplete mx_28), (Mx_throwable mx_28), (Mx_isCome mx_28), (Mx_ended mx_28), z0_28) mf) H := hP
    have hD : va_D A (cMd cI cJ cZ a mb mg ((Mx_isReached mx_28), (Mx_isComplete mx_28), (Mx_throwable mx_28), (Mx_isCome mx_28), (Mx_ended mx_28), z0_28) mf) := hD
    refine lv_aload_n hx hb d_Md_endBy_31 rfl (lv_at hl 0 rfl) ?_
    refine va_get (D := (dC, dI)) (ci := 7) (v := .ref (a 20)) (C := R_Md) (T := F_Md) (N := 35) hx hb hts inb_Md hown hK hP 0 rfl rfl 28 (by decide) (hts _ tw715) (fun _ h9 => h9) rfl d_Md_endBy_32 ?_
    refine lv_sipush (v := 134) hx hb d_Md_endBy_35 (by decide) ?_
    refine lv_iload_n hx hb d_Md_endBy_38 rfl (lv_at hl 1 rfl) ?_
    refine lv_imul hx hb d_Md_endBy_39 ?_
    refine lv_iload_n hx hb d_Md_endBy_40 rfl (lv_at hl 2 rfl) ?_
    refine lv_iadd hx hb d_Md_endBy_41 ?_
    refine lv_iconst (v := 1) hx hb d_Md_endBy_42 (by decide) ?_
    obtain ⟨hin, h⟩ := o_in h
    refine va_zast hx hb hK hP hD hS 20 2 rfl rfl hin d_Md_endBy_43 (fun H locs hP hD hS => ?_)
    have hP : va_P (dC, dI) classes (cMd cI cJ cZ a mb mg ((Mx_isReached mx_28), (Mx_isComplete mx_28), (Mx_throwable mx_28), (Mx_isCome mx_28), (upd (Mx_ended mx_28) (((134 : Int32) * x1_28) + x2_28).toNatClampNeg (vp_nar .boolean (1 : Int32))), z0_28) mf) H := hP
    have hD : va_D A (cMd cI cJ cZ a mb mg ((Mx_isReached mx_28), (Mx_isComplete mx_28), (Mx_throwable mx_28), (Mx_isCome mx_28), (upd (Mx_ended mx_28) (((134 : Int32) * x1_28) + x2_28).toNatClampNeg (vp_nar .boolean (1 : Int32))), z0_28) mf) := hD
    cases h
    exact kr_v hx hb hr hlocks hP hD hS d_Md_endBy_44
  have B23 : ∀ (x1_23 : Int32) (x2_23 : Int32) (mx_23 : MxS) (H : Heap) (locs : List Loc) (ls : Array Slot), f_Md_endBy_b23 x1_23 x2_23 mx_23 = some res → va_P (dC, dI) classes (cMd cI cJ cZ a mb mg mx_23 mf) H → va_D A (cMd cI cJ cZ a mb mg mx_23 mf) → va_S A s.heap H locs → lv_has ls 3 [(0, .ref (a 0)), (1, .int x1_23), (2, .int x2_23)] → W p l e { frames := 0, cells := 0, slots := 0, locals := 0 } s m args below meth c H locs 0 0 (KZ below args s (dC, dI) classes none (cMd cI cJ cZ a mb mg res mf) A) (F0 m 23 ls [.ref (a 0)]) := by
    intro x1_23 x2_23 mx_23 H locs ls h hP hD hS hl
    refine lv_iconst (v := 1) hx hb d_Md_endBy_23 (by decide) ?_
    refine lv_goto (tgt := 28) hx hb d_Md_endBy_24 (by decide) ?_
    exact B28 (1 : Int32) x1_23 x2_23 mx_23 _ _ _ h hP hD hS (lv_sub hl [0, 1, 2] rfl)
  refine lv_aload_n hx hb d_Md_endBy_0 rfl (lv_at hl 0 rfl) ?_
  refine lv_aload_n hx hb d_Md_endBy_1 rfl (lv_at hl 0 rfl) ?_
  refine va_get (D := (dC, dI)) (ci := 7) (v := .int (Mx_isNew mx)) (C := R_Md) (T := F_Md) (N := 35) hx hb hts inb_Md hown hK hP 0 rfl rfl 29 (by decide) (hts _ tw716) (fun _ h9 => h9) rfl d_Md_endBy_2 ?_
  refine lv_if_ne (tgt := 23) hx hb d_Md_endBy_5 (by decide) (fun hc => ?_) (fun hc => ?_)
  · have h := o_f hc h
    exact B23 x1 x2 mx _ _ _ h hP hD hS (lv_sub hl [0, 1, 2] rfl)
  · have h := o_t hc h
    refine lv_aload_n hx hb d_Md_endBy_8 rfl (lv_at hl 0 rfl) ?_
    refine va_get (D := (dC, dI)) (ci := 7) (v := .ref (a 20)) (C := R_Md) (T := F_Md) (N := 35) hx hb hts inb_Md hown hK hP 0 rfl rfl 28 (by decide) (hts _ tw715) (fun _ h9 => h9) rfl d_Md_endBy_9 ?_
    refine lv_sipush (v := 134) hx hb d_Md_endBy_12 (by decide) ?_
    refine lv_iload_n hx hb d_Md_endBy_15 rfl (lv_at hl 1 rfl) ?_
    refine lv_imul hx hb d_Md_endBy_16 ?_
    refine lv_iload_n hx hb d_Md_endBy_17 rfl (lv_at hl 2 rfl) ?_
    refine lv_iadd hx hb d_Md_endBy_18 ?_
    obtain ⟨hin, h⟩ := o_in h
    refine va_zald hx hb hK hP 20 2 rfl rfl hin d_Md_endBy_19 ?_
    refine lv_if_ne (tgt := 27) hx hb d_Md_endBy_20 (by decide) (fun hc => ?_) (fun hc => ?_)
    · have h := o_f hc h
      refine lv_iconst (v := 0) hx hb d_Md_endBy_27 (by decide) ?_
      exact B28 (0 : Int32) x1 x2 mx _ _ _ h hP hD hS (lv_sub hl [0, 1, 2] rfl)
    · have h := o_t hc h
      exact B23 x1 x2 mx _ _ _ h hP hD hS (lv_sub hl [0, 1, 2] rfl)
set_option maxHeartbeats 4000000 in
set_option maxRecDepth 100000 in
theorem c_Md_isEnded (l : Launch) (dC : Nat → ClassId) (dI : Nat → Nat → Nat) (cI cJ cZ : ClassId) (a : Nat → Nat) (x1 : Int32) (x2 : Int32) (mb : MbS) (mg : MgS) (mx : MxS) (mf : MfS) (res : Int32) (h : f_Md_isEnded x1 x2 mx = some res) :
    Kt l (dC, dI) classes [(cI, .int), (cJ, .long), (cZ, .boolean)] y_Md_isEnded (wz y_Md_isEnded b_Md_isEnded 3 (some .boolean)) { frames := 0, cells := 0, slots := 0, locals := 0 } [.ref (a 0), .int x1, .int x2] (cMd cI cJ cZ a mb mg mx mf) (some (.int res)) (cMd cI cJ cZ a mb mg mx mf) := by
  refine Kt_of (cc := b_Md_isEnded) (maxL := 3) (ret := (some .boolean)) (by decide) (Nat.le_of_ble_eq_true rfl) ?_
  intro p e s m args below meth c A ls hx hb hr hml hlocks hown hts hNw hK hP hD hA hS hl
  have hl : lv_has ls 3 [(0, .ref (a 0)), (1, .int x1), (2, .int x2)] := hl
  have hP : va_P (dC, dI) classes (cMd cI cJ cZ a mb mg mx mf) s.heap := hP
  refine lv_aload_n hx hb d_Md_isEnded_0 rfl (lv_at hl 0 rfl) ?_
  refine va_get (D := (dC, dI)) (ci := 7) (v := .ref (a 20)) (C := R_Md) (T := F_Md) (N := 35) hx hb hts inb_Md hown hK hP 0 rfl rfl 28 (by decide) (hts _ tw715) (fun _ h9 => h9) rfl d_Md_isEnded_1 ?_
  refine lv_sipush (v := 134) hx hb d_Md_isEnded_4 (by decide) ?_
  refine lv_iload_n hx hb d_Md_isEnded_7 rfl (lv_at hl 1 rfl) ?_
  refine lv_imul hx hb d_Md_isEnded_8 ?_
  refine lv_iload_n hx hb d_Md_isEnded_9 rfl (lv_at hl 2 rfl) ?_
  refine lv_iadd hx hb d_Md_isEnded_10 ?_
  obtain ⟨hin, h⟩ := o_in h
  refine va_zald hx hb hK hP 20 2 rfl rfl hin d_Md_isEnded_11 ?_
  obtain ⟨hbo, h⟩ := o_bo h
  cases h
  exact kr_z hx hb hr hbo hlocks hP hD hS d_Md_isEnded_12
set_option maxHeartbeats 4000000 in
set_option maxRecDepth 100000 in
theorem c_Md_pass (l : Launch) (dC : Nat → ClassId) (dI : Nat → Nat → Nat) (cI cJ cZ : ClassId) (a : Nat → Nat) (N : Nat) (x1 : Int32) (x2 : Int32) (mb : MbS) (mg : MgS) (mx : MxS) (mf : MfS) (res : MxS) (h : f_Md_pass N x1 x2 mb mx = some res) :
    Kt l (dC, dI) classes [(cI, .int), (cJ, .long), (cZ, .boolean)] y_Md_pass (wz y_Md_pass b_Md_pass 4 none) { frames := 2, cells := 0, slots := 0, locals := 43 } [.ref (a 0), .int x1, .int x2] (cMd cI cJ cZ a mb mg mx mf) none (cMd cI cJ cZ a mb mg res mf) := by
  refine Kt_of (cc := b_Md_pass) (maxL := 4) (ret := none) (by decide) (Nat.le_of_ble_eq_true rfl) ?_
  intro p e s m args below meth c A ls hx hb hr hml hlocks hown hts hNw hK hP hD hA hS hl
  have hl : lv_has ls 4 [(0, .ref (a 0)), (1, .int x1), (2, .int x2)] := hl
  have hP : va_P (dC, dI) classes (cMd cI cJ cZ a mb mg mx mf) s.heap := hP
  have L2 : ∀ (x1_2 : Int32) (x2_2 : Int32) (n2 : Nat) (s2 : Int32 × MxS) (H : Heap) (locs : List Loc) (ls : Array Slot), lp (f_Md_pass_L2 N x1_2 x2_2 mb) n2 s2 = some res → va_P (dC, dI) classes (cMd cI cJ cZ a mb mg s2.2 mf) H → va_D A (cMd cI cJ cZ a mb mg s2.2 mf) → va_S A s.heap H locs → lv_has ls 4 [(0, .ref (a 0)), (1, .int x1_2), (2, .int x2_2), (3, .int s2.1)] → W p l e { frames := 2, cells := 0, slots := 0, locals := 43 } s m args below meth c H locs 0 0 (KZ below args s (dC, dI) classes none (cMd cI cJ cZ a mb mg res mf) A) (F0 m 2 ls []) := by
    intro x1_2 x2_2 n2
    induction n2 with
    | zero => intro _ _ _ _ h; exact (lp_0 h).elim
    | succ n2 ih2 =>
      intro s2 H locs ls h hP hD hS hl
      have h := lp_s h
      have B41 : ∀ (x3_41 : Int32) (mx_41 : MxS) (H : Heap) (locs : List Loc) (ls : Array Slot), f_Md_pass_b41 N (lp (f_Md_pass_L2 N x1_2 x2_2 mb) n2) x1_2 x2_2 x3_41 mb mx_41 = some res → va_P (dC, dI) classes (cMd cI cJ cZ a mb mg mx_41 mf) H → va_D A (cMd cI cJ cZ a mb mg mx_41 mf) → va_S A s.heap H locs → lv_has ls 4 [(0, .ref (a 0)), (1, .int x1_2), (2, .int x2_2), (3, .int x3_41)] → W p l e { frames := 2, cells := 0, slots := 0, locals := 43 } s m args below meth c H locs 0 0 (KZ below args s (dC, dI) classes none (cMd cI cJ cZ a mb mg res mf) A) (F0 m 41 ls []) := by
        intro x3_41 mx_41 H locs ls h hP hD hS hl
        refine lv_aload_n hx hb d_Md_pass_41 rfl (lv_at hl 0 rfl) ?_
        refine lv_iload_n hx hb d_Md_pass_42 rfl (lv_at hl 1 rfl) ?_
        refine lv_iload_n hx hb d_Md_pass_43 rfl (lv_at hl 3 rfl) ?_
        obtain ⟨y44, hy, h⟩ := o_bd h
        refine kdV (nn := 24) (rest := []) (w' := (cMd cI cJ cZ a mb mg y44 mf)) (wr := ([] : va_W)) (st1 := []) ⟨hx, hb, hml, hown, hts⟩ (c_Md_endBy l dC dI cI cJ cZ a x1_2 x3_41 mb mg mx_41 mf y44 hy) (cwV 2 hts (gd_V tw965 tw967 ps47 tw9 tw968) rfl rfl rfl hd_Md_endBy ⟨Nat.le_of_ble_eq_true rfl, Nat.le_of_ble_eq_true rfl⟩) hNw hK hP hD hS hA (ci := 7) rfl rfl rfl [0, 1, 2, 3, 4, 5, 6, 7, 8, 9, 10, 11, 12, 13, 14, 15, 16, 17, 18, 19, 20, 21, 22, 23] [] rfl rfl rfl rfl rfl (by decide +kernel) (by decide +kernel) rfl hl.1 rfl (Nat.le_of_ble_eq_true rfl) rfl d_Md_pass_44 ⟨Nat.zero_le _, Nat.zero_le _⟩ (fun H locs hP hD hS => ?_)
        refine lv_iinc (v := (x3_41 + 1)) (lv' := [(3, .int (x3_41 + 1)), (0, .ref (a 0)), (1, .int x1_2), (2, .int x2_2)]) hx hb d_Md_pass_47 hl (k := 3) rfl rfl (by decide) rfl (fun ls hl => ?_)
        refine lv_goto (tgt := 2) hx hb d_Md_pass_50 (by decide) ?_
        exact ih2 ((x3_41 + 1), y44) _ _ _ h hP hD hS (lv_sub hl [1, 2, 3, 0] rfl)
      refine lv_iload_n hx hb d_Md_pass_2 rfl (lv_at hl 3 rfl) ?_
      refine lv_sipush (v := 134) hx hb d_Md_pass_3 (by decide) ?_
      refine lv_icmp_ge (tgt := 53) hx hb d_Md_pass_6 (by decide) (fun hc => ?_) (fun hc => ?_)
      · have h := o_t hc h
        refine lv_aload_n hx hb d_Md_pass_53 rfl (lv_at hl 0 rfl) ?_
        refine lv_iload_n hx hb d_Md_pass_54 rfl (lv_at hl 2 rfl) ?_
        refine lv_iconst (v := 2) hx hb d_Md_pass_55 (by decide) ?_
        refine lv_iload_n hx hb d_Md_pass_56 rfl (lv_at hl 1 rfl) ?_
        refine lv_iadd hx hb d_Md_pass_57 ?_
        obtain ⟨y58, hy, h⟩ := o_bd h
        refine kdV (nn := 24) (rest := []) (w' := (cMd cI cJ cZ a mb mg s2.2 mf)) (wr := ([] : va_W)) (st1 := [.int y58]) ⟨hx, hb, hml, hown, hts⟩ (c_Md_isEnded l dC dI cI cJ cZ a x2_2 ((2 : Int32) + x1_2) mb mg s2.2 mf y58 hy) (cwV 2 hts (gd_V tw981 tw983 ps51 tw9 tw984) rfl rfl rfl hd_Md_isEnded ⟨Nat.le_of_ble_eq_true rfl, Nat.le_of_ble_eq_true rfl⟩) hNw hK hP hD hS hA (ci := 7) rfl rfl rfl [0, 1, 2, 3, 4, 5, 6, 7, 8, 9, 10, 11, 12, 13, 14, 15, 16, 17, 18, 19, 20, 21, 22, 23] [] rfl rfl rfl rfl rfl (by decide +kernel) (by decide +kernel) rfl hl.1 rfl (Nat.le_of_ble_eq_true rfl) rfl d_Md_pass_58 ⟨Nat.zero_le _, Nat.zero_le _⟩ (fun H locs hP hD hS => ?_)
        refine lv_if_eq (tgt := 70) hx hb d_Md_pass_61 (by decide) (fun hc => ?_) (fun hc => ?_)
        · have h := o_t hc h
          cases h
          exact kr_v hx hb hr hlocks hP hD hS d_Md_pass_70
        · have h := o_f hc h
          refine lv_aload_n hx hb d_Md_pass_64 rfl (lv_at hl 0 rfl) ?_
          refine lv_iload_n hx hb d_Md_pass_65 rfl (lv_at hl 1 rfl) ?_
          refine lv_iconst (v := 0) hx hb d_Md_pass_66 (by decide) ?_
          obtain ⟨y67, hy, h⟩ := o_bd h
          refine kdV (nn := 24) (rest := []) (w' := (cMd cI cJ cZ a mb mg y67 mf)) (wr := ([] : va_W)) (st1 := []) ⟨hx, hb, hml, hown, hts⟩ (c_Md_endBy l dC dI cI cJ cZ a x1_2 (0 : Int32) mb mg s2.2 mf y67 hy) (cwV 2 hts (gd_V tw965 tw967 ps47 tw9 tw968) rfl rfl rfl hd_Md_endBy ⟨Nat.le_of_ble_eq_true rfl, Nat.le_of_ble_eq_true rfl⟩) hNw hK hP hD hS hA (ci := 7) rfl rfl rfl [0, 1, 2, 3, 4, 5, 6, 7, 8, 9, 10, 11, 12, 13, 14, 15, 16, 17, 18, 19, 20, 21, 22, 23] [] rfl rfl rfl rfl rfl (by decide +kernel) (by decide +kernel) rfl hl.1 rfl (Nat.le_of_ble_eq_true rfl) rfl d_Md_pass_67 ⟨Nat.zero_le _, Nat.zero_le _⟩ (fun H locs hP hD hS => ?_)
          cases h
          exact kr_v hx hb hr hlocks hP hD hS d_Md_pass_70
      · have h := o_f hc h
        refine lv_aload_n hx hb d_Md_pass_9 rfl (lv_at hl 0 rfl) ?_
        refine lv_iload_n hx hb d_Md_pass_10 rfl (lv_at hl 2 rfl) ?_
        refine lv_iload_n hx hb d_Md_pass_11 rfl (lv_at hl 3 rfl) ?_
        obtain ⟨y12, hy, h⟩ := o_bd h
        refine kdV (nn := 24) (rest := []) (w' := (cMd cI cJ cZ a mb mg s2.2 mf)) (wr := ([] : va_W)) (st1 := [.int y12]) ⟨hx, hb, hml, hown, hts⟩ (c_Md_isEnded l dC dI cI cJ cZ a x2_2 s2.1 mb mg s2.2 mf y12 hy) (cwV 2 hts (gd_V tw981 tw983 ps51 tw9 tw984) rfl rfl rfl hd_Md_isEnded ⟨Nat.le_of_ble_eq_true rfl, Nat.le_of_ble_eq_true rfl⟩) hNw hK hP hD hS hA (ci := 7) rfl rfl rfl [0, 1, 2, 3, 4, 5, 6, 7, 8, 9, 10, 11, 12, 13, 14, 15, 16, 17, 18, 19, 20, 21, 22, 23] [] rfl rfl rfl rfl rfl (by decide +kernel) (by decide +kernel) rfl hl.1 rfl (Nat.le_of_ble_eq_true rfl) rfl d_Md_pass_12 ⟨Nat.zero_le _, Nat.zero_le _⟩ (fun H locs hP hD hS => ?_)
        refine lv_if_eq (tgt := 47) hx hb d_Md_pass_15 (by decide) (fun hc => ?_) (fun hc => ?_)
        · have h := o_t hc h
          refine lv_iinc (v := (s2.1 + 1)) (lv' := [(3, .int (s2.1 + 1)), (0, .ref (a 0)), (1, .int x1_2), (2, .int x2_2)]) hx hb d_Md_pass_47 hl (k := 3) rfl rfl (by decide) rfl (fun ls hl => ?_)
          refine lv_goto (tgt := 2) hx hb d_Md_pass_50 (by decide) ?_
          exact ih2 ((s2.1 + 1), s2.2) _ _ _ h hP hD hS (lv_sub hl [1, 2, 3, 0] rfl)
        · have h := o_f hc h
          refine lv_iload_n hx hb d_Md_pass_18 rfl (lv_at hl 3 rfl) ?_
          refine lv_iconst (v := 2) hx hb d_Md_pass_19 (by decide) ?_
          refine lv_iload_n hx hb d_Md_pass_20 rfl (lv_at hl 1 rfl) ?_
          refine lv_iadd hx hb d_Md_pass_21 ?_
          refine lv_icmp_eq (tgt := 47) hx hb d_Md_pass_22 (by decide) (fun hc => ?_) (fun hc => ?_)
          · have h := o_t hc h
            refine lv_iinc (v := (s2.1 + 1)) (lv' := [(3, .int (s2.1 + 1)), (0, .ref (a 0)), (1, .int x1_2), (2, .int x2_2)]) hx hb d_Md_pass_47 hl (k := 3) rfl rfl (by decide) rfl (fun ls hl => ?_)
            refine lv_goto (tgt := 2) hx hb d_Md_pass_50 (by decide) ?_
            exact ih2 ((s2.1 + 1), s2.2) _ _ _ h hP hD hS (lv_sub hl [1, 2, 3, 0] rfl)
          · have h := o_f hc h
            refine lv_iload_n hx hb d_Md_pass_25 rfl (lv_at hl 3 rfl) ?_
            refine lv_bipush (v := 62) hx hb d_Md_pass_26 (by decide) ?_
            refine lv_iload_n hx hb d_Md_pass_28 rfl (lv_at hl 1 rfl) ?_
            refine lv_iadd hx hb d_Md_pass_29 ?_
            refine lv_icmp_ne (tgt := 41) hx hb d_Md_pass_30 (by decide) (fun hc => ?_) (fun hc => ?_)
            · have h := o_f hc h
              exact B41 s2.1 s2.2 _ _ _ h hP hD hS (lv_sub hl [0, 1, 2, 3] rfl)
            · have h := o_t hc h
              refine lv_aload_n hx hb d_Md_pass_33 rfl (lv_at hl 0 rfl) ?_
              refine lv_iload_n hx hb d_Md_pass_34 rfl (lv_at hl 1 rfl) ?_
              obtain ⟨y35, hy, h⟩ := o_bd h
              refine kdV (nn := 24) (rest := []) (w' := (cMd cI cJ cZ a mb mg s2.2 mf)) (wr := ([] : va_W)) (st1 := [.int y35]) ⟨hx, hb, hml, hown, hts⟩ (c_Md_isLoop l dC dI cI cJ cZ a x1_2 mb mg s2.2 mf y35 hy) (cwV 1 hts (gd_V tw901 tw903 ps31 tw9 tw904) rfl rfl rfl hd_Md_isLoop ⟨Nat.le_of_ble_eq_true rfl, Nat.le_of_ble_eq_true rfl⟩) hNw hK hP hD hS hA (ci := 7) rfl rfl rfl [0, 1, 2, 3, 4, 5, 6, 7, 8, 9, 10, 11, 12, 13, 14, 15, 16, 17, 18, 19, 20, 21, 22, 23] [] rfl rfl rfl rfl rfl (by decide +kernel) (by decide +kernel) rfl hl.1 rfl (Nat.le_of_ble_eq_true rfl) rfl d_Md_pass_35 ⟨Nat.zero_le _, Nat.zero_le _⟩ (fun H locs hP hD hS => ?_)
              refine lv_if_ne (tgt := 47) hx hb d_Md_pass_38 (by decide) (fun hc => ?_) (fun hc => ?_)
              · have h := o_f hc h
                refine lv_iinc (v := (s2.1 + 1)) (lv' := [(3, .int (s2.1 + 1)), (0, .ref (a 0)), (1, .int x1_2), (2, .int x2_2)]) hx hb d_Md_pass_47 hl (k := 3) rfl rfl (by decide) rfl (fun ls hl => ?_)
                refine lv_goto (tgt := 2) hx hb d_Md_pass_50 (by decide) ?_
                exact ih2 ((s2.1 + 1), s2.2) _ _ _ h hP hD hS (lv_sub hl [1, 2, 3, 0] rfl)
              · have h := o_t hc h
                exact B41 s2.1 s2.2 _ _ _ h hP hD hS (lv_sub hl [0, 1, 2, 3] rfl)
  refine lv_iconst (v := 1) hx hb d_Md_pass_0 (by decide) ?_
  refine lv_istore_n (lv' := [(3, .int (1 : Int32)), (0, .ref (a 0)), (1, .int x1), (2, .int x2)]) hx hb d_Md_pass_1 rfl hl (by decide) rfl (fun ls hl => ?_)
  exact L2 x1 x2 N ((1 : Int32), mx) _ _ _ h hP hD hS (lv_sub hl [1, 2, 3, 0] rfl)
set_option maxHeartbeats 4000000 in
set_option maxRecDepth 100000 in
theorem c_Md_turns (l : Launch) (dC : Nat → ClassId) (dI : Nat → Nat → Nat) (cI cJ cZ : ClassId) (a : Nat → Nat) (N : Nat) (x1 : Int32) (x2 : Int32) (mb : MbS) (mg : MgS) (mx : MxS) (mf : MfS) (res : MxS) (h : f_Md_turns N x1 x2 mb mx = some res) :
    Kt l (dC, dI) classes [(cI, .int), (cJ, .long), (cZ, .boolean)] y_Md_turns (wz y_Md_turns b_Md_turns 4 none) { frames := 3, cells := 0, slots := 0, locals := 66 } [.ref (a 0), .int x1, .int x2] (cMd cI cJ cZ a mb mg mx mf) none (cMd cI cJ cZ a mb mg res mf) := by
  refine Kt_of (cc := b_Md_turns) (maxL := 4) (ret := none) (by decide) (Nat.le_of_ble_eq_true rfl) ?_
  intro p e s m args below meth c A ls hx hb hr hml hlocks hown hts hNw hK hP hD hA hS hl
  have hl : lv_has ls 4 [(0, .ref (a 0)), (1, .int x1), (2, .int x2)] := hl
  have hP : va_P (dC, dI) classes (cMd cI cJ cZ a mb mg mx mf) s.heap := hP
  have B101 : ∀ (x1_101 : Int32) (mx_101 : MxS) (H : Heap) (locs : List Loc) (ls : Array Slot), f_Md_turns_b101 N x1_101 mb mx_101 = some res → va_P (dC, dI) classes (cMd cI cJ cZ a mb mg mx_101 mf) H → va_D A (cMd cI cJ cZ a mb mg mx_101 mf) → va_S A s.heap H locs → lv_has ls 4 [(0, .ref (a 0)), (1, .int x1_101)] → W p l e { frames := 3, cells := 0, slots := 0, locals := 66 } s m args below meth c H locs 0 0 (KZ below args s (dC, dI) classes none (cMd cI cJ cZ a mb mg res mf) A) (F0 m 101 ls []) := by
    intro x1_101 mx_101 H locs ls h hP hD hS hl
    refine lv_aload_n hx hb d_Md_turns_101 rfl (lv_at hl 0 rfl) ?_
    refine lv_iload_n hx hb d_Md_turns_102 rfl (lv_at hl 1 rfl) ?_
    refine lv_aload_n hx hb d_Md_turns_103 rfl (lv_at hl 0 rfl) ?_
    refine va_get (D := (dC, dI)) (ci := 7) (v := .ref (a 6)) (C := R_Md) (T := F_Md) (N := 35) hx hb hts inb_Md hown hK hP 0 rfl rfl 7 (by decide) (hts _ tw694) (fun _ h9 => h9) rfl d_Md_turns_104 ?_
    refine lv_iload_n hx hb d_Md_turns_107 rfl (lv_at hl 1 rfl) ?_
    obtain ⟨hin, h⟩ := o_in h
    refine va_iald hx hb hK hP 6 0 rfl rfl hin d_Md_turns_108 ?_
    obtain ⟨y109, hy, h⟩ := o_bd h
    refine kdV (nn := 24) (rest := []) (w' := (cMd cI cJ cZ a mb mg y109 mf)) (wr := ([] : va_W)) (st1 := []) ⟨hx, hb, hml, hown, hts⟩ (c_Md_pass l dC dI cI cJ cZ a N x1_101 ((Mb_first mb) x1_101.toNatClampNeg) mb mg mx_101 mf y109 hy) (cwV 2 hts (gd_V tw985 tw987 ps52 tw9 tw988) rfl rfl rfl hd_Md_pass ⟨Nat.le_of_ble_eq_true rfl, Nat.le_of_ble_eq_true rfl⟩) hNw hK hP hD hS hA (ci := 7) rfl rfl rfl [0, 1, 2, 3, 4, 5, 6, 7, 8, 9, 10, 11, 12, 13, 14, 15, 16, 17, 18, 19, 20, 21, 22, 23] [] rfl rfl rfl rfl rfl (by decide +kernel) (by decide +kernel) rfl hl.1 rfl (Nat.le_of_ble_eq_true rfl) rfl d_Md_turns_109 ⟨Nat.zero_le _, Nat.zero_le _⟩ (fun H locs hP hD hS => ?_)
    cases h
    exact kr_v hx hb hr hlocks hP hD hS d_Md_turns_112
  have B73 : ∀ (x1_73 : Int32) (mx_73 : MxS) (H : Heap) (locs : List Loc) (ls : Array Slot), f_Md_turns_b73 N x1_73 mb mx_73 = some res → va_P (dC, dI) classes (cMd cI cJ cZ a mb mg mx_73 mf) H → va_D A (cMd cI cJ cZ a mb mg mx_73 mf) → va_S A s.heap H locs → lv_has ls 4 [(0, .ref (a 0)), (1, .int x1_73)] → W p l e { frames := 3, cells := 0, slots := 0, locals := 66 } s m args below meth c H locs 0 0 (KZ below args s (dC, dI) classes none (cMd cI cJ cZ a mb mg res mf) A) (F0 m 73 ls []) := by
    intro x1_73 mx_73 H locs ls h hP hD hS hl
    refine lv_goto (tgt := 101) hx hb d_Md_turns_73 (by decide) ?_
    exact B101 x1_73 mx_73 _ _ _ h hP hD hS (lv_sub hl [0, 1] rfl)
  have B57 : ∀ (z0_57 : Int32) (x1_57 : Int32) (x2_57 : Int32) (mx_57 : MxS) (H : Heap) (locs : List Loc) (ls : Array Slot), f_Md_turns_b57 N z0_57 x1_57 x2_57 mb mx_57 = some res → va_P (dC, dI) classes (cMd cI cJ cZ a mb mg mx_57 mf) H → va_D A (cMd cI cJ cZ a mb mg mx_57 mf) → va_S A s.heap H locs → lv_has ls 4 [(0, .ref (a 0)), (1, .int x1_57), (2, .int x2_57)] → W p l e { frames := 3, cells := 0, slots := 0, locals := 66 } s m args below meth c H locs 0 0 (KZ below args s (dC, dI) classes none (cMd cI cJ cZ a mb mg res mf) A) (F0 m 57 ls [.int z0_57]) := by
    intro z0_57 x1_57 x2_57 mx_57 H locs ls h hP hD hS hl
    refine lv_istore_n (lv' := [(3, .int z0_57), (0, .ref (a 0)), (1, .int x1_57), (2, .int x2_57)]) hx hb d_Md_turns_57 rfl hl (by decide) rfl (fun ls hl => ?_)
    refine lv_iload_n hx hb d_Md_turns_58 rfl (lv_at hl 0 rfl) ?_
    refine lv_if_eq (tgt := 73) hx hb d_Md_turns_59 (by decide) (fun hc => ?_) (fun hc => ?_)
    · have h := o_t hc h
      exact B73 x1_57 mx_57 _ _ _ h hP hD hS (lv_sub hl [1, 2] rfl)
    · have h := o_f hc h
      refine lv_iload_n hx hb d_Md_turns_62 rfl (lv_at hl 3 rfl) ?_
      refine lv_iconst (v := 1) hx hb d_Md_turns_63 (by decide) ?_
      refine lv_icmp_eq (tgt := 73) hx hb d_Md_turns_64 (by decide) (fun hc => ?_) (fun hc => ?_)
      · have h := o_t hc h
        exact B73 x1_57 mx_57 _ _ _ h hP hD hS (lv_sub hl [1, 2] rfl)
      · have h := o_f hc h
        refine lv_aload_n hx hb d_Md_turns_67 rfl (lv_at hl 1 rfl) ?_
        refine lv_iload_n hx hb d_Md_turns_68 rfl (lv_at hl 2 rfl) ?_
        refine lv_iconst (v := 0) hx hb d_Md_turns_69 (by decide) ?_
        obtain ⟨y70, hy, h⟩ := o_bd h
        refine kdV (nn := 24) (rest := []) (w' := (cMd cI cJ cZ a mb mg y70 mf)) (wr := ([] : va_W)) (st1 := []) ⟨hx, hb, hml, hown, hts⟩ (c_Md_endBy l dC dI cI cJ cZ a x1_57 (0 : Int32) mb mg mx_57 mf y70 hy) (cwV 2 hts (gd_V tw965 tw967 ps47 tw9 tw968) rfl rfl rfl hd_Md_endBy ⟨Nat.le_of_ble_eq_true rfl, Nat.le_of_ble_eq_true rfl⟩) hNw hK hP hD hS hA (ci := 7) rfl rfl rfl [0, 1, 2, 3, 4, 5, 6, 7, 8, 9, 10, 11, 12, 13, 14, 15, 16, 17, 18, 19, 20, 21, 22, 23] [] rfl rfl rfl rfl rfl (by decide +kernel) (by decide +kernel) rfl hl.1 rfl (Nat.le_of_ble_eq_true rfl) rfl d_Md_turns_70 ⟨Nat.zero_le _, Nat.zero_le _⟩ (fun H locs hP hD hS => ?_)
        exact B73 x1_57 y70 _ _ _ h hP hD hS (lv_sub hl [1, 2] rfl)
  have B52 : ∀ (x1_52 : Int32) (x2_52 : Int32) (mx_52 : MxS) (H : Heap) (locs : List Loc) (ls : Array Slot), f_Md_turns_b52 N x1_52 x2_52 mb mx_52 = some res → va_P (dC, dI) classes (cMd cI cJ cZ a mb mg mx_52 mf) H → va_D A (cMd cI cJ cZ a mb mg mx_52 mf) → va_S A s.heap H locs → lv_has ls 4 [(0, .ref (a 0)), (1, .int x1_52), (2, .int x2_52)] → W p l e { frames := 3, cells := 0, slots := 0, locals := 66 } s m args below meth c H locs 0 0 (KZ below args s (dC, dI) classes none (cMd cI cJ cZ a mb mg res mf) A) (F0 m 52 ls []) := by
    intro x1_52 x2_52 mx_52 H locs ls h hP hD hS hl
    refine lv_iconst (v := 1) hx hb d_Md_turns_52 (by decide) ?_
    refine lv_goto (tgt := 57) hx hb d_Md_turns_53 (by decide) ?_
    exact B57 (1 : Int32) x1_52 x2_52 mx_52 _ _ _ h hP hD hS (lv_sub hl [0, 1, 2] rfl)
  have B87 : ∀ (x1_87 : Int32) (x2_87 : Int32) (mx_87 : MxS) (H : Heap) (locs : List Loc) (ls : Array Slot), f_Md_turns_b87 N x1_87 x2_87 mb mx_87 = some res → va_P (dC, dI) classes (cMd cI cJ cZ a mb mg mx_87 mf) H → va_D A (cMd cI cJ cZ a mb mg mx_87 mf) → va_S A s.heap H locs → lv_has ls 4 [(0, .ref (a 0)), (1, .int x1_87), (2, .int x2_87)] → W p l e { frames := 3, cells := 0, slots := 0, locals := 66 } s m args below meth c H locs 0 0 (KZ below args s (dC, dI) classes none (cMd cI cJ cZ a mb mg res mf) A) (F0 m 87 ls []) := by
    intro x1_87 x2_87 mx_87 H locs ls h hP hD hS hl
    refine lv_iload_n hx hb d_Md_turns_87 rfl (lv_at hl 2 rfl) ?_
    refine lv_if_eq (tgt := 101) hx hb d_Md_turns_88 (by decide) (fun hc => ?_) (fun hc => ?_)
    · have h := o_t hc h
      exact B101 x1_87 mx_87 _ _ _ h hP hD hS (lv_sub hl [0, 1] rfl)
    · have h := o_f hc h
      refine lv_aload_n hx hb d_Md_turns_91 rfl (lv_at hl 0 rfl) ?_
      refine lv_aload_n hx hb d_Md_turns_92 rfl (lv_at hl 0 rfl) ?_
      refine va_get (D := (dC, dI)) (ci := 7) (v := .ref (a 6)) (C := R_Md) (T := F_Md) (N := 35) hx hb hts inb_Md hown hK hP 0 rfl rfl 7 (by decide) (hts _ tw694) (fun _ h9 => h9) rfl d_Md_turns_93 ?_
      refine lv_iload_n hx hb d_Md_turns_96 rfl (lv_at hl 1 rfl) ?_
      obtain ⟨hin, h⟩ := o_in h
      refine va_iald hx hb hK hP 6 0 rfl rfl hin d_Md_turns_97 ?_
      obtain ⟨y98, hy, h⟩ := o_bd h
      refine kdV (nn := 24) (rest := []) (w' := (cMd cI cJ cZ a mb mg y98 mf)) (wr := ([] : va_W)) (st1 := []) ⟨hx, hb, hml, hown, hts⟩ (c_Md_come l dC dI cI cJ cZ a ((Mb_first mb) x1_87.toNatClampNeg) mb mg mx_87 mf y98 hy) (cwV 1 hts (gd_V tw977 tw979 ps50 tw9 tw980) rfl rfl rfl hd_Md_come ⟨Nat.le_of_ble_eq_true rfl, Nat.le_of_ble_eq_true rfl⟩) hNw hK hP hD hS hA (ci := 7) rfl rfl rfl [0, 1, 2, 3, 4, 5, 6, 7, 8, 9, 10, 11, 12, 13, 14, 15, 16, 17, 18, 19, 20, 21, 22, 23] [] rfl rfl rfl rfl rfl (by decide +kernel) (by decide +kernel) rfl hl.1 rfl (Nat.le_of_ble_eq_true rfl) rfl d_Md_turns_98 ⟨Nat.zero_le _, Nat.zero_le _⟩ (fun H locs hP hD hS => ?_)
      exact B101 x1_87 y98 _ _ _ h hP hD hS (lv_sub hl [0, 1] rfl)
  refine lv_aload_n hx hb d_Md_turns_0 rfl (lv_at hl 0 rfl) ?_
  refine va_get (D := (dC, dI)) (ci := 7) (v := .ref (a 2)) (C := R_Md) (T := F_Md) (N := 35) hx hb hts inb_Md hown hK hP 0 rfl rfl 3 (by decide) (hts _ tw690) (fun _ h9 => h9) rfl d_Md_turns_1 ?_
  refine lv_iload_n hx hb d_Md_turns_4 rfl (lv_at hl 1 rfl) ?_
  obtain ⟨hin, h⟩ := o_in h
  refine va_iald hx hb hK hP 2 0 rfl rfl hin d_Md_turns_5 ?_
  refine lv_bipush (v := 6) hx hb d_Md_turns_6 (by decide) ?_
  refine lv_icmp_ne (tgt := 76) hx hb d_Md_turns_8 (by decide) (fun hc => ?_) (fun hc => ?_)
  · have h := o_f hc h
    refine lv_iload_n hx hb d_Md_turns_76 rfl (lv_at hl 2 rfl) ?_
    refine lv_iconst (v := 1) hx hb d_Md_turns_77 (by decide) ?_
    refine lv_icmp_eq (tgt := 87) hx hb d_Md_turns_78 (by decide) (fun hc => ?_) (fun hc => ?_)
    · have h := o_t hc h
      exact B87 x1 x2 mx _ _ _ h hP hD hS (lv_sub hl [0, 1, 2] rfl)
    · have h := o_f hc h
      refine lv_aload_n hx hb d_Md_turns_81 rfl (lv_at hl 0 rfl) ?_
      refine lv_iload_n hx hb d_Md_turns_82 rfl (lv_at hl 1 rfl) ?_
      refine lv_iconst (v := 0) hx hb d_Md_turns_83 (by decide) ?_
      obtain ⟨y84, hy, h⟩ := o_bd h
      refine kdV (nn := 24) (rest := []) (w' := (cMd cI cJ cZ a mb mg y84 mf)) (wr := ([] : va_W)) (st1 := []) ⟨hx, hb, hml, hown, hts⟩ (c_Md_endBy l dC dI cI cJ cZ a x1 (0 : Int32) mb mg mx mf y84 hy) (cwV 2 hts (gd_V tw965 tw967 ps47 tw9 tw968) rfl rfl rfl hd_Md_endBy ⟨Nat.le_of_ble_eq_true rfl, Nat.le_of_ble_eq_true rfl⟩) hNw hK hP hD hS hA (ci := 7) rfl rfl rfl [0, 1, 2, 3, 4, 5, 6, 7, 8, 9, 10, 11, 12, 13, 14, 15, 16, 17, 18, 19, 20, 21, 22, 23] [] rfl rfl rfl rfl rfl (by decide +kernel) (by decide +kernel) rfl hl.1 rfl (Nat.le_of_ble_eq_true rfl) rfl d_Md_turns_84 ⟨Nat.zero_le _, Nat.zero_le _⟩ (fun H locs hP hD hS => ?_)
      exact B87 x1 x2 y84 _ _ _ h hP hD hS (lv_sub hl [0, 1, 2] rfl)
  · have h := o_t hc h
    refine lv_aload_n hx hb d_Md_turns_11 rfl (lv_at hl 0 rfl) ?_
    refine lv_aload_n hx hb d_Md_turns_12 rfl (lv_at hl 0 rfl) ?_
    refine va_get (D := (dC, dI)) (ci := 7) (v := .ref (a 6)) (C := R_Md) (T := F_Md) (N := 35) hx hb hts inb_Md hown hK hP 0 rfl rfl 7 (by decide) (hts _ tw694) (fun _ h9 => h9) rfl d_Md_turns_13 ?_
    refine lv_iload_n hx hb d_Md_turns_16 rfl (lv_at hl 1 rfl) ?_
    obtain ⟨hin, h⟩ := o_in h
    refine va_iald hx hb hK hP 6 0 rfl rfl hin d_Md_turns_17 ?_
    obtain ⟨y18, hy, h⟩ := o_bd h
    refine kdV (nn := 24) (rest := []) (w' := (cMd cI cJ cZ a mb mg y18 mf)) (wr := ([] : va_W)) (st1 := []) ⟨hx, hb, hml, hown, hts⟩ (c_Md_come l dC dI cI cJ cZ a ((Mb_first mb) x1.toNatClampNeg) mb mg mx mf y18 hy) (cwV 1 hts (gd_V tw977 tw979 ps50 tw9 tw980) rfl rfl rfl hd_Md_come ⟨Nat.le_of_ble_eq_true rfl, Nat.le_of_ble_eq_true rfl⟩) hNw hK hP hD hS hA (ci := 7) rfl rfl rfl [0, 1, 2, 3, 4, 5, 6, 7, 8, 9, 10, 11, 12, 13, 14, 15, 16, 17, 18, 19, 20, 21, 22, 23] [] rfl rfl rfl rfl rfl (by decide +kernel) (by decide +kernel) rfl hl.1 rfl (Nat.le_of_ble_eq_true rfl) rfl d_Md_turns_18 ⟨Nat.zero_le _, Nat.zero_le _⟩ (fun H locs hP hD hS => ?_)
    refine lv_aload_n hx hb d_Md_turns_21 rfl (lv_at hl 0 rfl) ?_
    refine lv_aload_n hx hb d_Md_turns_22 rfl (lv_at hl 0 rfl) ?_
    refine va_get (D := (dC, dI)) (ci := 7) (v := .ref (a 6)) (C := R_Md) (T := F_Md) (N := 35) hx hb hts inb_Md hown hK hP 0 rfl rfl 7 (by decide) (hts _ tw694) (fun _ h9 => h9) rfl d_Md_turns_23 ?_
    refine lv_iload_n hx hb d_Md_turns_26 rfl (lv_at hl 1 rfl) ?_
    obtain ⟨hin, h⟩ := o_in h
    refine va_iald hx hb hK hP 6 0 rfl rfl hin d_Md_turns_27 ?_
    refine lv_iconst (v := 0) hx hb d_Md_turns_28 (by decide) ?_
    obtain ⟨y29, hy, h⟩ := o_bd h
    refine kdV (nn := 24) (rest := []) (w' := (cMd cI cJ cZ a mb mg y18 mf)) (wr := ([] : va_W)) (st1 := [.int y29]) ⟨hx, hb, hml, hown, hts⟩ (c_Md_isEnded l dC dI cI cJ cZ a ((Mb_first mb) x1.toNatClampNeg) (0 : Int32) mb mg y18 mf y29 hy) (cwV 2 hts (gd_V tw981 tw983 ps51 tw9 tw984) rfl rfl rfl hd_Md_isEnded ⟨Nat.le_of_ble_eq_true rfl, Nat.le_of_ble_eq_true rfl⟩) hNw hK hP hD hS hA (ci := 7) rfl rfl rfl [0, 1, 2, 3, 4, 5, 6, 7, 8, 9, 10, 11, 12, 13, 14, 15, 16, 17, 18, 19, 20, 21, 22, 23] [] rfl rfl rfl rfl rfl (by decide +kernel) (by decide +kernel) rfl hl.1 rfl (Nat.le_of_ble_eq_true rfl) rfl d_Md_turns_29 ⟨Nat.zero_le _, Nat.zero_le _⟩ (fun H locs hP hD hS => ?_)
    refine lv_if_ne (tgt := 52) hx hb d_Md_turns_32 (by decide) (fun hc => ?_) (fun hc => ?_)
    · have h := o_f hc h
      exact B52 x1 x2 y18 _ _ _ h hP hD hS (lv_sub hl [0, 1, 2] rfl)
    · have h := o_t hc h
      refine lv_aload_n hx hb d_Md_turns_35 rfl (lv_at hl 0 rfl) ?_
      refine lv_aload_n hx hb d_Md_turns_36 rfl (lv_at hl 0 rfl) ?_
      refine va_get (D := (dC, dI)) (ci := 7) (v := .ref (a 6)) (C := R_Md) (T := F_Md) (N := 35) hx hb hts inb_Md hown hK hP 0 rfl rfl 7 (by decide) (hts _ tw694) (fun _ h9 => h9) rfl d_Md_turns_37 ?_
      refine lv_iload_n hx hb d_Md_turns_40 rfl (lv_at hl 1 rfl) ?_
      obtain ⟨hin, h⟩ := o_in h
      refine va_iald hx hb hK hP 6 0 rfl rfl hin d_Md_turns_41 ?_
      refine lv_bipush (v := 62) hx hb d_Md_turns_42 (by decide) ?_
      refine lv_iload_n hx hb d_Md_turns_44 rfl (lv_at hl 1 rfl) ?_
      refine lv_iadd hx hb d_Md_turns_45 ?_
      obtain ⟨y46, hy, h⟩ := o_bd h
      refine kdV (nn := 24) (rest := []) (w' := (cMd cI cJ cZ a mb mg y18 mf)) (wr := ([] : va_W)) (st1 := [.int y46]) ⟨hx, hb, hml, hown, hts⟩ (c_Md_isEnded l dC dI cI cJ cZ a ((Mb_first mb) x1.toNatClampNeg) ((62 : Int32) + x1) mb mg y18 mf y46 hy) (cwV 2 hts (gd_V tw981 tw983 ps51 tw9 tw984) rfl rfl rfl hd_Md_isEnded ⟨Nat.le_of_ble_eq_true rfl, Nat.le_of_ble_eq_true rfl⟩) hNw hK hP hD hS hA (ci := 7) rfl rfl rfl [0, 1, 2, 3, 4, 5, 6, 7, 8, 9, 10, 11, 12, 13, 14, 15, 16, 17, 18, 19, 20, 21, 22, 23] [] rfl rfl rfl rfl rfl (by decide +kernel) (by decide +kernel) rfl hl.1 rfl (Nat.le_of_ble_eq_true rfl) rfl d_Md_turns_46 ⟨Nat.zero_le _, Nat.zero_le _⟩ (fun H locs hP hD hS => ?_)
      refine lv_if_eq (tgt := 56) hx hb d_Md_turns_49 (by decide) (fun hc => ?_) (fun hc => ?_)
      · have h := o_t hc h
        refine lv_iconst (v := 0) hx hb d_Md_turns_56 (by decide) ?_
        exact B57 (0 : Int32) x1 x2 y18 _ _ _ h hP hD hS (lv_sub hl [0, 1, 2] rfl)
      · have h := o_f hc h
        exact B52 x1 x2 y18 _ _ _ h hP hD hS (lv_sub hl [0, 1, 2] rfl)
set_option maxHeartbeats 4000000 in
set_option maxRecDepth 100000 in
theorem c_Md_steps (l : Launch) (dC : Nat → ClassId) (dI : Nat → Nat → Nat) (cI cJ cZ : ClassId) (a : Nat → Nat) (N : Nat) (x1 : Int32) (mb : MbS) (mg : MgS) (mx : MxS) (mf : MfS) (res : MxS) (h : f_Md_steps N x1 mb mx = some res) :
    Kt l (dC, dI) classes [(cI, .int), (cJ, .long), (cZ, .boolean)] y_Md_steps (wz y_Md_steps b_Md_steps 3 none) { frames := 3, cells := 0, slots := 0, locals := 66 } [.ref (a 0), .int x1] (cMd cI cJ cZ a mb mg mx mf) none (cMd cI cJ cZ a mb mg res mf) := by
  refine Kt_of (cc := b_Md_steps) (maxL := 3) (ret := none) (by decide) (Nat.le_of_ble_eq_true rfl) ?_
  intro p e s m args below meth c A ls hx hb hr hml hlocks hown hts hNw hK hP hD hA hS hl
  have hl : lv_has ls 3 [(0, .ref (a 0)), (1, .int x1)] := hl
  have hP : va_P (dC, dI) classes (cMd cI cJ cZ a mb mg mx mf) s.heap := hP
  have L7 : ∀ (x1_7 : Int32) (n7 : Nat) (s7 : Int32 × MxS) (H : Heap) (locs : List Loc) (ls : Array Slot), lp (f_Md_steps_L7 N x1_7 mb) n7 s7 = some res → va_P (dC, dI) classes (cMd cI cJ cZ a mb mg s7.2 mf) H → va_D A (cMd cI cJ cZ a mb mg s7.2 mf) → va_S A s.heap H locs → lv_has ls 3 [(0, .ref (a 0)), (1, .int x1_7), (2, .int s7.1)] → W p l e { frames := 3, cells := 0, slots := 0, locals := 66 } s m args below meth c H locs 0 0 (KZ below args s (dC, dI) classes none (cMd cI cJ cZ a mb mg res mf) A) (F0 m 7 ls []) := by
    intro x1_7 n7
    induction n7 with
    | zero => intro _ _ _ _ h; exact (lp_0 h).elim
    | succ n7 ih7 =>
      intro s7 H locs ls h hP hD hS hl
      have h := lp_s h
      have B50 : ∀ (x2_50 : Int32) (mx_50 : MxS) (H : Heap) (locs : List Loc) (ls : Array Slot), f_Md_steps_b50 N (lp (f_Md_steps_L7 N x1_7 mb) n7) x1_7 x2_50 mb mx_50 = some res → va_P (dC, dI) classes (cMd cI cJ cZ a mb mg mx_50 mf) H → va_D A (cMd cI cJ cZ a mb mg mx_50 mf) → va_S A s.heap H locs → lv_has ls 3 [(0, .ref (a 0)), (1, .int x1_7), (2, .int x2_50)] → W p l e { frames := 3, cells := 0, slots := 0, locals := 66 } s m args below meth c H locs 0 0 (KZ below args s (dC, dI) classes none (cMd cI cJ cZ a mb mg res mf) A) (F0 m 50 ls []) := by
        intro x2_50 mx_50 H locs ls h hP hD hS hl
        refine lv_aload_n hx hb d_Md_steps_50 rfl (lv_at hl 0 rfl) ?_
        refine lv_iload_n hx hb d_Md_steps_51 rfl (lv_at hl 1 rfl) ?_
        refine lv_iload_n hx hb d_Md_steps_52 rfl (lv_at hl 2 rfl) ?_
        obtain ⟨y53, hy, h⟩ := o_bd h
        refine kdV (nn := 24) (rest := []) (w' := (cMd cI cJ cZ a mb mg y53 mf)) (wr := ([] : va_W)) (st1 := []) ⟨hx, hb, hml, hown, hts⟩ (c_Md_pass l dC dI cI cJ cZ a N x1_7 x2_50 mb mg mx_50 mf y53 hy) (cwV 2 hts (gd_V tw985 tw987 ps52 tw9 tw988) rfl rfl rfl hd_Md_pass ⟨Nat.le_of_ble_eq_true rfl, Nat.le_of_ble_eq_true rfl⟩) hNw hK hP hD hS hA (ci := 7) rfl rfl rfl [0, 1, 2, 3, 4, 5, 6, 7, 8, 9, 10, 11, 12, 13, 14, 15, 16, 17, 18, 19, 20, 21, 22, 23] [] rfl rfl rfl rfl rfl (by decide +kernel) (by decide +kernel) rfl hl.1 rfl (Nat.le_of_ble_eq_true rfl) rfl d_Md_steps_53 ⟨Nat.zero_le _, Nat.zero_le _⟩ (fun H locs hP hD hS => ?_)
        refine lv_aload_n hx hb d_Md_steps_56 rfl (lv_at hl 0 rfl) ?_
        refine va_get (D := (dC, dI)) (ci := 7) (v := .ref (a 8)) (C := R_Md) (T := F_Md) (N := 35) hx hb hts inb_Md hown hK hP 0 rfl rfl 9 (by decide) (hts _ tw696) (fun _ h9 => h9) rfl d_Md_steps_57 ?_
        refine lv_iload_n hx hb d_Md_steps_60 rfl (lv_at hl 2 rfl) ?_
        obtain ⟨hin, h⟩ := o_in h
        refine va_iald hx hb hK hP 8 0 rfl rfl hin d_Md_steps_61 ?_
        refine lv_istore_n (lv' := [(2, .int ((Mb_next mb) x2_50.toNatClampNeg)), (0, .ref (a 0)), (1, .int x1_7)]) hx hb d_Md_steps_62 rfl hl (by decide) rfl (fun ls hl => ?_)
        refine lv_goto (tgt := 7) hx hb d_Md_steps_63 (by decide) ?_
        exact ih7 (((Mb_next mb) x2_50.toNatClampNeg), y53) _ _ _ h hP hD hS (lv_sub hl [1, 2, 0] rfl)
      refine lv_iload_n hx hb d_Md_steps_7 rfl (lv_at hl 2 rfl) ?_
      refine lv_iconst (v := -1) hx hb d_Md_steps_8 (by decide) ?_
      refine lv_icmp_eq (tgt := 66) hx hb d_Md_steps_9 (by decide) (fun hc => ?_) (fun hc => ?_)
      · have h := o_t hc h
        cases h
        exact kr_v hx hb hr hlocks hP hD hS d_Md_steps_66
      · have h := o_f hc h
        refine lv_aload_n hx hb d_Md_steps_12 rfl (lv_at hl 0 rfl) ?_
        refine lv_iload_n hx hb d_Md_steps_13 rfl (lv_at hl 2 rfl) ?_
        refine lv_iconst (v := 0) hx hb d_Md_steps_14 (by decide) ?_
        obtain ⟨y15, hy, h⟩ := o_bd h
        refine kdV (nn := 24) (rest := []) (w' := (cMd cI cJ cZ a mb mg s7.2 mf)) (wr := ([] : va_W)) (st1 := [.int y15]) ⟨hx, hb, hml, hown, hts⟩ (c_Md_isEnded l dC dI cI cJ cZ a s7.1 (0 : Int32) mb mg s7.2 mf y15 hy) (cwV 2 hts (gd_V tw981 tw983 ps51 tw9 tw984) rfl rfl rfl hd_Md_isEnded ⟨Nat.le_of_ble_eq_true rfl, Nat.le_of_ble_eq_true rfl⟩) hNw hK hP hD hS hA (ci := 7) rfl rfl rfl [0, 1, 2, 3, 4, 5, 6, 7, 8, 9, 10, 11, 12, 13, 14, 15, 16, 17, 18, 19, 20, 21, 22, 23] [] rfl rfl rfl rfl rfl (by decide +kernel) (by decide +kernel) rfl hl.1 rfl (Nat.le_of_ble_eq_true rfl) rfl d_Md_steps_15 ⟨Nat.zero_le _, Nat.zero_le _⟩ (fun H locs hP hD hS => ?_)
        refine lv_if_eq (tgt := 50) hx hb d_Md_steps_18 (by decide) (fun hc => ?_) (fun hc => ?_)
        · have h := o_t hc h
          exact B50 s7.1 s7.2 _ _ _ h hP hD hS (lv_sub hl [0, 1, 2] rfl)
        · have h := o_f hc h
          refine lv_aload_n hx hb d_Md_steps_21 rfl (lv_at hl 0 rfl) ?_
          refine va_get (D := (dC, dI)) (ci := 7) (v := .ref (a 8)) (C := R_Md) (T := F_Md) (N := 35) hx hb hts inb_Md hown hK hP 0 rfl rfl 9 (by decide) (hts _ tw696) (fun _ h9 => h9) rfl d_Md_steps_22 ?_
          refine lv_iload_n hx hb d_Md_steps_25 rfl (lv_at hl 2 rfl) ?_
          obtain ⟨hin, h⟩ := o_in h
          refine va_iald hx hb hK hP 8 0 rfl rfl hin d_Md_steps_26 ?_
          refine lv_iconst (v := -1) hx hb d_Md_steps_27 (by decide) ?_
          refine lv_icmp_ne (tgt := 40) hx hb d_Md_steps_28 (by decide) (fun hc => ?_) (fun hc => ?_)
          · have h := o_f hc h
            refine lv_aload_n hx hb d_Md_steps_40 rfl (lv_at hl 0 rfl) ?_
            refine lv_aload_n hx hb d_Md_steps_41 rfl (lv_at hl 0 rfl) ?_
            refine va_get (D := (dC, dI)) (ci := 7) (v := .ref (a 8)) (C := R_Md) (T := F_Md) (N := 35) hx hb hts inb_Md hown hK hP 0 rfl rfl 9 (by decide) (hts _ tw696) (fun _ h9 => h9) rfl d_Md_steps_42 ?_
            refine lv_iload_n hx hb d_Md_steps_45 rfl (lv_at hl 2 rfl) ?_
            obtain ⟨hin, h⟩ := o_in h
            refine va_iald hx hb hK hP 8 0 rfl rfl hin d_Md_steps_46 ?_
            obtain ⟨y47, hy, h⟩ := o_bd h
            refine kdV (nn := 24) (rest := []) (w' := (cMd cI cJ cZ a mb mg y47 mf)) (wr := ([] : va_W)) (st1 := []) ⟨hx, hb, hml, hown, hts⟩ (c_Md_come l dC dI cI cJ cZ a ((Mb_next mb) s7.1.toNatClampNeg) mb mg s7.2 mf y47 hy) (cwV 1 hts (gd_V tw977 tw979 ps50 tw9 tw980) rfl rfl rfl hd_Md_come ⟨Nat.le_of_ble_eq_true rfl, Nat.le_of_ble_eq_true rfl⟩) hNw hK hP hD hS hA (ci := 7) rfl rfl rfl [0, 1, 2, 3, 4, 5, 6, 7, 8, 9, 10, 11, 12, 13, 14, 15, 16, 17, 18, 19, 20, 21, 22, 23] [] rfl rfl rfl rfl rfl (by decide +kernel) (by decide +kernel) rfl hl.1 rfl (Nat.le_of_ble_eq_true rfl) rfl d_Md_steps_47 ⟨Nat.zero_le _, Nat.zero_le _⟩ (fun H locs hP hD hS => ?_)
            exact B50 s7.1 y47 _ _ _ h hP hD hS (lv_sub hl [0, 1, 2] rfl)
          · have h := o_t hc h
            refine lv_aload_n hx hb d_Md_steps_31 rfl (lv_at hl 0 rfl) ?_
            refine lv_iload_n hx hb d_Md_steps_32 rfl (lv_at hl 1 rfl) ?_
            refine lv_iconst (v := 0) hx hb d_Md_steps_33 (by decide) ?_
            obtain ⟨y34, hy, h⟩ := o_bd h
            refine kdV (nn := 24) (rest := []) (w' := (cMd cI cJ cZ a mb mg y34 mf)) (wr := ([] : va_W)) (st1 := []) ⟨hx, hb, hml, hown, hts⟩ (c_Md_endBy l dC dI cI cJ cZ a x1_7 (0 : Int32) mb mg s7.2 mf y34 hy) (cwV 2 hts (gd_V tw965 tw967 ps47 tw9 tw968) rfl rfl rfl hd_Md_endBy ⟨Nat.le_of_ble_eq_true rfl, Nat.le_of_ble_eq_true rfl⟩) hNw hK hP hD hS hA (ci := 7) rfl rfl rfl [0, 1, 2, 3, 4, 5, 6, 7, 8, 9, 10, 11, 12, 13, 14, 15, 16, 17, 18, 19, 20, 21, 22, 23] [] rfl rfl rfl rfl rfl (by decide +kernel) (by decide +kernel) rfl hl.1 rfl (Nat.le_of_ble_eq_true rfl) rfl d_Md_steps_34 ⟨Nat.zero_le _, Nat.zero_le _⟩ (fun H locs hP hD hS => ?_)
            refine lv_goto (tgt := 50) hx hb d_Md_steps_37 (by decide) ?_
            exact B50 s7.1 y34 _ _ _ h hP hD hS (lv_sub hl [0, 1, 2] rfl)
  refine lv_aload_n hx hb d_Md_steps_0 rfl (lv_at hl 0 rfl) ?_
  refine va_get (D := (dC, dI)) (ci := 7) (v := .ref (a 6)) (C := R_Md) (T := F_Md) (N := 35) hx hb hts inb_Md hown hK hP 0 rfl rfl 7 (by decide) (hts _ tw694) (fun _ h9 => h9) rfl d_Md_steps_1 ?_
  refine lv_iload_n hx hb d_Md_steps_4 rfl (lv_at hl 1 rfl) ?_
  obtain ⟨hin, h⟩ := o_in h
  refine va_iald hx hb hK hP 6 0 rfl rfl hin d_Md_steps_5 ?_
  refine lv_istore_n (lv' := [(2, .int ((Mb_first mb) x1.toNatClampNeg)), (0, .ref (a 0)), (1, .int x1)]) hx hb d_Md_steps_6 rfl hl (by decide) rfl (fun ls hl => ?_)
  exact L7 x1 N (((Mb_first mb) x1.toNatClampNeg), mx) _ _ _ h hP hD hS (lv_sub hl [1, 2, 0] rfl)
set_option maxHeartbeats 4000000 in
set_option maxRecDepth 100000 in
theorem c_Md_switches (l : Launch) (dC : Nat → ClassId) (dI : Nat → Nat → Nat) (cI cJ cZ : ClassId) (a : Nat → Nat) (N : Nat) (x1 : Int32) (mb : MbS) (mg : MgS) (mx : MxS) (mf : MfS) (res : MxS) (h : f_Md_switches N x1 mb mx = some res) :
    Kt l (dC, dI) classes [(cI, .int), (cJ, .long), (cZ, .boolean)] y_Md_switches (wz y_Md_switches b_Md_switches 4 none) { frames := 4, cells := 0, slots := 0, locals := 88 } [.ref (a 0), .int x1] (cMd cI cJ cZ a mb mg mx mf) none (cMd cI cJ cZ a mb mg res mf) := by
  refine Kt_of (cc := b_Md_switches) (maxL := 4) (ret := none) (by decide) (Nat.le_of_ble_eq_true rfl) ?_
  intro p e s m args below meth c A ls hx hb hr hml hlocks hown hts hNw hK hP hD hA hS hl
  have hl : lv_has ls 4 [(0, .ref (a 0)), (1, .int x1)] := hl
  have hP : va_P (dC, dI) classes (cMd cI cJ cZ a mb mg mx mf) s.heap := hP
  have B108 : ∀ (x1_108 : Int32) (mx_108 : MxS) (H : Heap) (locs : List Loc) (ls : Array Slot), f_Md_switches_b108 N x1_108 mb mx_108 = some res → va_P (dC, dI) classes (cMd cI cJ cZ a mb mg mx_108 mf) H → va_D A (cMd cI cJ cZ a mb mg mx_108 mf) → va_S A s.heap H locs → lv_has ls 4 [(0, .ref (a 0)), (1, .int x1_108)] → W p l e { frames := 4, cells := 0, slots := 0, locals := 88 } s m args below meth c H locs 0 0 (KZ below args s (dC, dI) classes none (cMd cI cJ cZ a mb mg res mf) A) (F0 m 108 ls []) := by
    intro x1_108 mx_108 H locs ls h hP hD hS hl
    refine lv_aload_n hx hb d_Md_switches_108 rfl (lv_at hl 0 rfl) ?_
    refine lv_iload_n hx hb d_Md_switches_109 rfl (lv_at hl 1 rfl) ?_
    refine lv_iconst (v := 0) hx hb d_Md_switches_110 (by decide) ?_
    obtain ⟨y111, hy, h⟩ := o_bd h
    refine kdV (nn := 24) (rest := []) (w' := (cMd cI cJ cZ a mb mg y111 mf)) (wr := ([] : va_W)) (st1 := []) ⟨hx, hb, hml, hown, hts⟩ (c_Md_endBy l dC dI cI cJ cZ a x1_108 (0 : Int32) mb mg mx_108 mf y111 hy) (cwV 2 hts (gd_V tw965 tw967 ps47 tw9 tw968) rfl rfl rfl hd_Md_endBy ⟨Nat.le_of_ble_eq_true rfl, Nat.le_of_ble_eq_true rfl⟩) hNw hK hP hD hS hA (ci := 7) rfl rfl rfl [0, 1, 2, 3, 4, 5, 6, 7, 8, 9, 10, 11, 12, 13, 14, 15, 16, 17, 18, 19, 20, 21, 22, 23] [] rfl rfl rfl rfl rfl (by decide +kernel) (by decide +kernel) rfl hl.1 rfl (Nat.le_of_ble_eq_true rfl) rfl d_Md_switches_111 ⟨Nat.zero_le _, Nat.zero_le _⟩ (fun H locs hP hD hS => ?_)
    cases h
    exact kr_v hx hb hr hlocks hP hD hS d_Md_switches_114
  have B100 : ∀ (x1_100 : Int32) (mx_100 : MxS) (H : Heap) (locs : List Loc) (ls : Array Slot), f_Md_switches_b100 N x1_100 mb mx_100 = some res → va_P (dC, dI) classes (cMd cI cJ cZ a mb mg mx_100 mf) H → va_D A (cMd cI cJ cZ a mb mg mx_100 mf) → va_S A s.heap H locs → lv_has ls 4 [(0, .ref (a 0)), (1, .int x1_100)] → W p l e { frames := 4, cells := 0, slots := 0, locals := 88 } s m args below meth c H locs 0 0 (KZ below args s (dC, dI) classes none (cMd cI cJ cZ a mb mg res mf) A) (F0 m 100 ls []) := by
    intro x1_100 mx_100 H locs ls h hP hD hS hl
    refine lv_aload_n hx hb d_Md_switches_100 rfl (lv_at hl 0 rfl) ?_
    refine lv_iload_n hx hb d_Md_switches_101 rfl (lv_at hl 1 rfl) ?_
    obtain ⟨y102, hy, h⟩ := o_bd h
    refine kdV (nn := 24) (rest := []) (w' := (cMd cI cJ cZ a mb mg mx_100 mf)) (wr := ([] : va_W)) (st1 := [.int y102]) ⟨hx, hb, hml, hown, hts⟩ (c_Md_isWhole l dC dI cI cJ cZ a N x1_100 mb mg mx_100 mf y102 hy) (cwV 1 hts (gd_V tw945 tw947 ps42 tw9 tw948) rfl rfl rfl hd_Md_isWhole ⟨Nat.le_of_ble_eq_true rfl, Nat.le_of_ble_eq_true rfl⟩) hNw hK hP hD hS hA (ci := 7) rfl rfl rfl [0, 1, 2, 3, 4, 5, 6, 7, 8, 9, 10, 11, 12, 13, 14, 15, 16, 17, 18, 19, 20, 21, 22, 23] [] rfl rfl rfl rfl rfl (by decide +kernel) (by decide +kernel) rfl hl.1 rfl (Nat.le_of_ble_eq_true rfl) rfl d_Md_switches_102 ⟨Nat.zero_le _, Nat.zero_le _⟩ (fun H locs hP hD hS => ?_)
    refine lv_if_ne (tgt := 114) hx hb d_Md_switches_105 (by decide) (fun hc => ?_) (fun hc => ?_)
    · have h := o_f hc h
      cases h
      exact kr_v hx hb hr hlocks hP hD hS d_Md_switches_114
    · have h := o_t hc h
      exact B108 x1_100 mx_100 _ _ _ h hP hD hS (lv_sub hl [0, 1] rfl)
  have B87 : ∀ (x1_87 : Int32) (x2_87 : Int32) (mx_87 : MxS) (H : Heap) (locs : List Loc) (ls : Array Slot), f_Md_switches_b87 N x1_87 x2_87 mb mx_87 = some res → va_P (dC, dI) classes (cMd cI cJ cZ a mb mg mx_87 mf) H → va_D A (cMd cI cJ cZ a mb mg mx_87 mf) → va_S A s.heap H locs → lv_has ls 4 [(0, .ref (a 0)), (1, .int x1_87), (2, .int x2_87)] → W p l e { frames := 4, cells := 0, slots := 0, locals := 88 } s m args below meth c H locs 0 0 (KZ below args s (dC, dI) classes none (cMd cI cJ cZ a mb mg res mf) A) (F0 m 87 ls []) := by
    intro x1_87 x2_87 mx_87 H locs ls h hP hD hS hl
    refine lv_iload_n hx hb d_Md_switches_87 rfl (lv_at hl 2 rfl) ?_
    refine lv_if_eq (tgt := 100) hx hb d_Md_switches_88 (by decide) (fun hc => ?_) (fun hc => ?_)
    · have h := o_t hc h
      exact B100 x1_87 mx_87 _ _ _ h hP hD hS (lv_sub hl [0, 1] rfl)
    · have h := o_f hc h
      refine lv_aload_n hx hb d_Md_switches_91 rfl (lv_at hl 0 rfl) ?_
      refine va_get (D := (dC, dI)) (ci := 7) (v := .ref (a 11)) (C := R_Md) (T := F_Md) (N := 35) hx hb hts inb_Md hown hK hP 0 rfl rfl 12 (by decide) (hts _ tw699) (fun _ h9 => h9) rfl d_Md_switches_92 ?_
      refine lv_iload_n hx hb d_Md_switches_95 rfl (lv_at hl 1 rfl) ?_
      obtain ⟨hin, h⟩ := o_in h
      refine va_iald hx hb hK hP 11 0 rfl rfl hin d_Md_switches_96 ?_
      refine lv_if_gt (tgt := 108) hx hb d_Md_switches_97 (by decide) (fun hc => ?_) (fun hc => ?_)
      · have h := o_t hc h
        exact B108 x1_87 mx_87 _ _ _ h hP hD hS (lv_sub hl [0, 1] rfl)
      · have h := o_f hc h
        exact B100 x1_87 mx_87 _ _ _ h hP hD hS (lv_sub hl [0, 1] rfl)
  have L24 : ∀ (x1_24 : Int32) (x2_24 : Int32) (n24 : Nat) (s24 : Int32 × MxS) (H : Heap) (locs : List Loc) (ls : Array Slot), lp (f_Md_switches_L24 N x1_24 x2_24 mb) n24 s24 = some res → va_P (dC, dI) classes (cMd cI cJ cZ a mb mg s24.2 mf) H → va_D A (cMd cI cJ cZ a mb mg s24.2 mf) → va_S A s.heap H locs → lv_has ls 4 [(0, .ref (a 0)), (1, .int x1_24), (2, .int x2_24), (3, .int s24.1)] → W p l e { frames := 4, cells := 0, slots := 0, locals := 88 } s m args below meth c H locs 0 0 (KZ below args s (dC, dI) classes none (cMd cI cJ cZ a mb mg res mf) A) (F0 m 24 ls []) := by
    intro x1_24 x2_24 n24
    induction n24 with
    | zero => intro _ _ _ _ h; exact (lp_0 h).elim
    | succ n24 ih24 =>
      intro s24 H locs ls h hP hD hS hl
      have h := lp_s h
      have B68 : ∀ (x3_68 : Int32) (mx_68 : MxS) (H : Heap) (locs : List Loc) (ls : Array Slot), f_Md_switches_b68 N (lp (f_Md_switches_L24 N x1_24 x2_24 mb) n24) x1_24 x2_24 x3_68 mb mx_68 = some res → va_P (dC, dI) classes (cMd cI cJ cZ a mb mg mx_68 mf) H → va_D A (cMd cI cJ cZ a mb mg mx_68 mf) → va_S A s.heap H locs → lv_has ls 4 [(0, .ref (a 0)), (1, .int x1_24), (2, .int x2_24), (3, .int x3_68)] → W p l e { frames := 4, cells := 0, slots := 0, locals := 88 } s m args below meth c H locs 0 0 (KZ below args s (dC, dI) classes none (cMd cI cJ cZ a mb mg res mf) A) (F0 m 68 ls []) := by
        intro x3_68 mx_68 H locs ls h hP hD hS hl
        refine lv_aload_n hx hb d_Md_switches_68 rfl (lv_at hl 0 rfl) ?_
        refine va_get (D := (dC, dI)) (ci := 7) (v := .ref (a 8)) (C := R_Md) (T := F_Md) (N := 35) hx hb hts inb_Md hown hK hP 0 rfl rfl 9 (by decide) (hts _ tw696) (fun _ h9 => h9) rfl d_Md_switches_69 ?_
        refine lv_iload_n hx hb d_Md_switches_72 rfl (lv_at hl 3 rfl) ?_
        obtain ⟨hin, h⟩ := o_in h
        refine va_iald hx hb hK hP 8 0 rfl rfl hin d_Md_switches_73 ?_
        refine lv_istore_n (lv' := [(3, .int ((Mb_next mb) x3_68.toNatClampNeg)), (0, .ref (a 0)), (1, .int x1_24), (2, .int x2_24)]) hx hb d_Md_switches_74 rfl hl (by decide) rfl (fun ls hl => ?_)
        refine lv_goto (tgt := 24) hx hb d_Md_switches_75 (by decide) ?_
        exact ih24 (((Mb_next mb) x3_68.toNatClampNeg), mx_68) _ _ _ h hP hD hS (lv_sub hl [1, 2, 3, 0] rfl)
      have B43 : ∀ (x3_43 : Int32) (mx_43 : MxS) (H : Heap) (locs : List Loc) (ls : Array Slot), f_Md_switches_b43 N (lp (f_Md_switches_L24 N x1_24 x2_24 mb) n24) x1_24 x2_24 x3_43 mb mx_43 = some res → va_P (dC, dI) classes (cMd cI cJ cZ a mb mg mx_43 mf) H → va_D A (cMd cI cJ cZ a mb mg mx_43 mf) → va_S A s.heap H locs → lv_has ls 4 [(0, .ref (a 0)), (1, .int x1_24), (2, .int x2_24), (3, .int x3_43)] → W p l e { frames := 4, cells := 0, slots := 0, locals := 88 } s m args below meth c H locs 0 0 (KZ below args s (dC, dI) classes none (cMd cI cJ cZ a mb mg res mf) A) (F0 m 43 ls []) := by
        intro x3_43 mx_43 H locs ls h hP hD hS hl
        refine lv_iload_n hx hb d_Md_switches_43 rfl (lv_at hl 2 rfl) ?_
        refine lv_if_ne (tgt := 68) hx hb d_Md_switches_44 (by decide) (fun hc => ?_) (fun hc => ?_)
        · have h := o_f hc h
          exact B68 x3_43 mx_43 _ _ _ h hP hD hS (lv_sub hl [0, 1, 2, 3] rfl)
        · have h := o_t hc h
          refine lv_aload_n hx hb d_Md_switches_47 rfl (lv_at hl 0 rfl) ?_
          refine lv_iload_n hx hb d_Md_switches_48 rfl (lv_at hl 1 rfl) ?_
          refine lv_iload_n hx hb d_Md_switches_49 rfl (lv_at hl 3 rfl) ?_
          obtain ⟨y50, hy, h⟩ := o_bd h
          refine kdV (nn := 24) (rest := []) (w' := (cMd cI cJ cZ a mb mg y50 mf)) (wr := ([] : va_W)) (st1 := []) ⟨hx, hb, hml, hown, hts⟩ (c_Md_pass l dC dI cI cJ cZ a N x1_24 x3_43 mb mg mx_43 mf y50 hy) (cwV 2 hts (gd_V tw985 tw987 ps52 tw9 tw988) rfl rfl rfl hd_Md_pass ⟨Nat.le_of_ble_eq_true rfl, Nat.le_of_ble_eq_true rfl⟩) hNw hK hP hD hS hA (ci := 7) rfl rfl rfl [0, 1, 2, 3, 4, 5, 6, 7, 8, 9, 10, 11, 12, 13, 14, 15, 16, 17, 18, 19, 20, 21, 22, 23] [] rfl rfl rfl rfl rfl (by decide +kernel) (by decide +kernel) rfl hl.1 rfl (Nat.le_of_ble_eq_true rfl) rfl d_Md_switches_50 ⟨Nat.zero_le _, Nat.zero_le _⟩ (fun H locs hP hD hS => ?_)
          refine lv_aload_n hx hb d_Md_switches_53 rfl (lv_at hl 0 rfl) ?_
          refine lv_iload_n hx hb d_Md_switches_54 rfl (lv_at hl 3 rfl) ?_
          refine lv_iconst (v := 0) hx hb d_Md_switches_55 (by decide) ?_
          obtain ⟨y56, hy, h⟩ := o_bd h
          refine kdV (nn := 24) (rest := []) (w' := (cMd cI cJ cZ a mb mg y50 mf)) (wr := ([] : va_W)) (st1 := [.int y56]) ⟨hx, hb, hml, hown, hts⟩ (c_Md_isEnded l dC dI cI cJ cZ a x3_43 (0 : Int32) mb mg y50 mf y56 hy) (cwV 2 hts (gd_V tw981 tw983 ps51 tw9 tw984) rfl rfl rfl hd_Md_isEnded ⟨Nat.le_of_ble_eq_true rfl, Nat.le_of_ble_eq_true rfl⟩) hNw hK hP hD hS hA (ci := 7) rfl rfl rfl [0, 1, 2, 3, 4, 5, 6, 7, 8, 9, 10, 11, 12, 13, 14, 15, 16, 17, 18, 19, 20, 21, 22, 23] [] rfl rfl rfl rfl rfl (by decide +kernel) (by decide +kernel) rfl hl.1 rfl (Nat.le_of_ble_eq_true rfl) rfl d_Md_switches_56 ⟨Nat.zero_le _, Nat.zero_le _⟩ (fun H locs hP hD hS => ?_)
          refine lv_if_eq (tgt := 68) hx hb d_Md_switches_59 (by decide) (fun hc => ?_) (fun hc => ?_)
          · have h := o_t hc h
            exact B68 x3_43 y50 _ _ _ h hP hD hS (lv_sub hl [0, 1, 2, 3] rfl)
          · have h := o_f hc h
            refine lv_aload_n hx hb d_Md_switches_62 rfl (lv_at hl 0 rfl) ?_
            refine lv_iload_n hx hb d_Md_switches_63 rfl (lv_at hl 1 rfl) ?_
            refine lv_iconst (v := 0) hx hb d_Md_switches_64 (by decide) ?_
            obtain ⟨y65, hy, h⟩ := o_bd h
            refine kdV (nn := 24) (rest := []) (w' := (cMd cI cJ cZ a mb mg y65 mf)) (wr := ([] : va_W)) (st1 := []) ⟨hx, hb, hml, hown, hts⟩ (c_Md_endBy l dC dI cI cJ cZ a x1_24 (0 : Int32) mb mg y50 mf y65 hy) (cwV 2 hts (gd_V tw965 tw967 ps47 tw9 tw968) rfl rfl rfl hd_Md_endBy ⟨Nat.le_of_ble_eq_true rfl, Nat.le_of_ble_eq_true rfl⟩) hNw hK hP hD hS hA (ci := 7) rfl rfl rfl [0, 1, 2, 3, 4, 5, 6, 7, 8, 9, 10, 11, 12, 13, 14, 15, 16, 17, 18, 19, 20, 21, 22, 23] [] rfl rfl rfl rfl rfl (by decide +kernel) (by decide +kernel) rfl hl.1 rfl (Nat.le_of_ble_eq_true rfl) rfl d_Md_switches_65 ⟨Nat.zero_le _, Nat.zero_le _⟩ (fun H locs hP hD hS => ?_)
            exact B68 x3_43 y65 _ _ _ h hP hD hS (lv_sub hl [0, 1, 2, 3] rfl)
      refine lv_iload_n hx hb d_Md_switches_24 rfl (lv_at hl 3 rfl) ?_
      refine lv_iconst (v := -1) hx hb d_Md_switches_25 (by decide) ?_
      refine lv_icmp_eq (tgt := 78) hx hb d_Md_switches_26 (by decide) (fun hc => ?_) (fun hc => ?_)
      · have h := o_t hc h
        refine lv_iload_n hx hb d_Md_switches_78 rfl (lv_at hl 2 rfl) ?_
        refine lv_if_eq (tgt := 87) hx hb d_Md_switches_79 (by decide) (fun hc => ?_) (fun hc => ?_)
        · have h := o_t hc h
          exact B87 x1_24 x2_24 s24.2 _ _ _ h hP hD hS (lv_sub hl [0, 1, 2] rfl)
        · have h := o_f hc h
          refine lv_aload_n hx hb d_Md_switches_82 rfl (lv_at hl 0 rfl) ?_
          refine lv_iload_n hx hb d_Md_switches_83 rfl (lv_at hl 1 rfl) ?_
          obtain ⟨y84, hy, h⟩ := o_bd h
          refine kdV (nn := 24) (rest := []) (w' := (cMd cI cJ cZ a mb mg y84 mf)) (wr := ([] : va_W)) (st1 := []) ⟨hx, hb, hml, hown, hts⟩ (c_Md_steps l dC dI cI cJ cZ a N x1_24 mb mg s24.2 mf y84 hy) (cwV 1 hts (gd_V tw993 tw995 ps54 tw9 tw996) rfl rfl rfl hd_Md_steps ⟨Nat.le_of_ble_eq_true rfl, Nat.le_of_ble_eq_true rfl⟩) hNw hK hP hD hS hA (ci := 7) rfl rfl rfl [0, 1, 2, 3, 4, 5, 6, 7, 8, 9, 10, 11, 12, 13, 14, 15, 16, 17, 18, 19, 20, 21, 22, 23] [] rfl rfl rfl rfl rfl (by decide +kernel) (by decide +kernel) rfl hl.1 rfl (Nat.le_of_ble_eq_true rfl) rfl d_Md_switches_84 ⟨Nat.zero_le _, Nat.zero_le _⟩ (fun H locs hP hD hS => ?_)
          exact B87 x1_24 x2_24 y84 _ _ _ h hP hD hS (lv_sub hl [0, 1, 2] rfl)
      · have h := o_f hc h
        refine lv_aload_n hx hb d_Md_switches_29 rfl (lv_at hl 0 rfl) ?_
        refine va_get (D := (dC, dI)) (ci := 7) (v := .ref (a 5)) (C := R_Md) (T := F_Md) (N := 35) hx hb hts inb_Md hown hK hP 0 rfl rfl 6 (by decide) (hts _ tw693) (fun _ h9 => h9) rfl d_Md_switches_30 ?_
        refine lv_iload_n hx hb d_Md_switches_33 rfl (lv_at hl 3 rfl) ?_
        obtain ⟨hin, h⟩ := o_in h
        refine va_iald hx hb hK hP 5 0 rfl rfl hin d_Md_switches_34 ?_
        refine lv_if_le (tgt := 43) hx hb d_Md_switches_35 (by decide) (fun hc => ?_) (fun hc => ?_)
        · have h := o_t hc h
          exact B43 s24.1 s24.2 _ _ _ h hP hD hS (lv_sub hl [0, 1, 2, 3] rfl)
        · have h := o_f hc h
          refine lv_aload_n hx hb d_Md_switches_38 rfl (lv_at hl 0 rfl) ?_
          refine lv_iload_n hx hb d_Md_switches_39 rfl (lv_at hl 3 rfl) ?_
          obtain ⟨y40, hy, h⟩ := o_bd h
          refine kdV (nn := 24) (rest := []) (w' := (cMd cI cJ cZ a mb mg y40 mf)) (wr := ([] : va_W)) (st1 := []) ⟨hx, hb, hml, hown, hts⟩ (c_Md_come l dC dI cI cJ cZ a s24.1 mb mg s24.2 mf y40 hy) (cwV 1 hts (gd_V tw977 tw979 ps50 tw9 tw980) rfl rfl rfl hd_Md_come ⟨Nat.le_of_ble_eq_true rfl, Nat.le_of_ble_eq_true rfl⟩) hNw hK hP hD hS hA (ci := 7) rfl rfl rfl [0, 1, 2, 3, 4, 5, 6, 7, 8, 9, 10, 11, 12, 13, 14, 15, 16, 17, 18, 19, 20, 21, 22, 23] [] rfl rfl rfl rfl rfl (by decide +kernel) (by decide +kernel) rfl hl.1 rfl (Nat.le_of_ble_eq_true rfl) rfl d_Md_switches_40 ⟨Nat.zero_le _, Nat.zero_le _⟩ (fun H locs hP hD hS => ?_)
          exact B43 s24.1 y40 _ _ _ h hP hD hS (lv_sub hl [0, 1, 2, 3] rfl)
  have B16 : ∀ (z0_16 : Int32) (x1_16 : Int32) (mx_16 : MxS) (H : Heap) (locs : List Loc) (ls : Array Slot), f_Md_switches_b16 N z0_16 x1_16 mb mx_16 = some res → va_P (dC, dI) classes (cMd cI cJ cZ a mb mg mx_16 mf) H → va_D A (cMd cI cJ cZ a mb mg mx_16 mf) → va_S A s.heap H locs → lv_has ls 4 [(0, .ref (a 0)), (1, .int x1_16)] → W p l e { frames := 4, cells := 0, slots := 0, locals := 88 } s m args below meth c H locs 0 0 (KZ below args s (dC, dI) classes none (cMd cI cJ cZ a mb mg res mf) A) (F0 m 16 ls [.int z0_16]) := by
    intro z0_16 x1_16 mx_16 H locs ls h hP hD hS hl
    refine lv_istore_n (lv' := [(2, .int z0_16), (0, .ref (a 0)), (1, .int x1_16)]) hx hb d_Md_switches_16 rfl hl (by decide) rfl (fun ls hl => ?_)
    refine lv_aload_n hx hb d_Md_switches_17 rfl (lv_at hl 1 rfl) ?_
    refine va_get (D := (dC, dI)) (ci := 7) (v := .ref (a 6)) (C := R_Md) (T := F_Md) (N := 35) hx hb hts inb_Md hown hK hP 0 rfl rfl 7 (by decide) (hts _ tw694) (fun _ h9 => h9) rfl d_Md_switches_18 ?_
    refine lv_iload_n hx hb d_Md_switches_21 rfl (lv_at hl 2 rfl) ?_
    obtain ⟨hin, h⟩ := o_in h
    refine va_iald hx hb hK hP 6 0 rfl rfl hin d_Md_switches_22 ?_
    refine lv_istore_n (lv' := [(3, .int ((Mb_first mb) x1_16.toNatClampNeg)), (2, .int z0_16), (0, .ref (a 0)), (1, .int x1_16)]) hx hb d_Md_switches_23 rfl hl (by decide) rfl (fun ls hl => ?_)
    exact L24 x1_16 z0_16 N (((Mb_first mb) x1_16.toNatClampNeg), mx_16) _ _ _ h hP hD hS (lv_sub hl [2, 3, 1, 0] rfl)
  refine lv_aload_n hx hb d_Md_switches_0 rfl (lv_at hl 0 rfl) ?_
  refine va_get (D := (dC, dI)) (ci := 7) (v := .ref (a 2)) (C := R_Md) (T := F_Md) (N := 35) hx hb hts inb_Md hown hK hP 0 rfl rfl 3 (by decide) (hts _ tw690) (fun _ h9 => h9) rfl d_Md_switches_1 ?_
  refine lv_iload_n hx hb d_Md_switches_4 rfl (lv_at hl 1 rfl) ?_
  obtain ⟨hin, h⟩ := o_in h
  refine va_iald hx hb hK hP 2 0 rfl rfl hin d_Md_switches_5 ?_
  refine lv_bipush (v := 14) hx hb d_Md_switches_6 (by decide) ?_
  refine lv_icmp_ne (tgt := 15) hx hb d_Md_switches_8 (by decide) (fun hc => ?_) (fun hc => ?_)
  · have h := o_f hc h
    refine lv_iconst (v := 0) hx hb d_Md_switches_15 (by decide) ?_
    exact B16 (0 : Int32) x1 mx _ _ _ h hP hD hS (lv_sub hl [0, 1] rfl)
  · have h := o_t hc h
    refine lv_iconst (v := 1) hx hb d_Md_switches_11 (by decide) ?_
    refine lv_goto (tgt := 16) hx hb d_Md_switches_12 (by decide) ?_
    exact B16 (1 : Int32) x1 mx _ _ _ h hP hD hS (lv_sub hl [0, 1] rfl)
