set_option maxHeartbeats 4000000 in
set_option maxRecDepth 100000 in
theorem c_Md_isAsked (l : Launch) (dC : Nat → ClassId) (dI : Nat → Nat → Nat) (cI cJ cZ : ClassId) (a : Nat → Nat) (x1 : Int32) (mb : MbS) (mg : MgS) (mx : MxS) (mf : MfS) (res : Int32) (h : f_Md_isAsked x1 mb mg = some res) :
    Kt l (dC, dI) classes [(cI, .int), (cJ, .long), (cZ, .boolean)] y_Md_isAsked (wz y_Md_isAsked b_Md_isAsked 2 (some .boolean)) { frames := 2, cells := 0, slots := 0, locals := 43 } [.ref (a 0), .int x1] (cMd cI cJ cZ a mb mg mx mf) (some (.int res)) (cMd cI cJ cZ a mb mg mx mf) := by
  refine Kt_of (cc := b_Md_isAsked) (maxL := 2) (ret := (some .boolean)) (by decide) (Nat.le_of_ble_eq_true rfl) ?_
  intro p e s m args below meth c A ls hx hb hr hml hlocks hown hts hNw hK hP hD hA hS hl
  have hl : lv_has ls 2 [(0, .ref (a 0)), (1, .int x1)] := hl
  have hP : va_P (dC, dI) classes (cMd cI cJ cZ a mb mg mx mf) s.heap := hP
  refine lv_aload_n hx hb d_Md_isAsked_0 rfl (lv_at hl 0 rfl) ?_
  refine va_get (D := (dC, dI)) (ci := 7) (v := .int (Mg_root mg)) (C := R_Md) (T := F_Md) (N := 35) hx hb hts inb_Md hown hK hP 0 rfl rfl 18 (by decide) (hts _ tw705) (fun _ h9 => h9) rfl d_Md_isAsked_1 ?_
  refine lv_iconst (v := -1) hx hb d_Md_isAsked_4 (by decide) ?_
  refine lv_icmp_eq (tgt := 29) hx hb d_Md_isAsked_5 (by decide) (fun hc => ?_) (fun hc => ?_)
  · have h := o_t hc h
    refine lv_iconst (v := 0) hx hb d_Md_isAsked_29 (by decide) ?_
    cases h
    exact kr_z hx hb hr (by decide) hlocks hP hD hS d_Md_isAsked_30
  · have h := o_f hc h
    refine lv_aload_n hx hb d_Md_isAsked_8 rfl (lv_at hl 0 rfl) ?_
    refine lv_iload_n hx hb d_Md_isAsked_9 rfl (lv_at hl 1 rfl) ?_
    obtain ⟨y10, hy, h⟩ := o_bd h
    refine kdV (nn := 24) (rest := []) (w' := (cMd cI cJ cZ a mb mg mx mf)) (wr := ([] : va_W)) (st1 := [.int y10]) ⟨hx, hb, hml, hown, hts⟩ (c_Md_isNode l dC dI cI cJ cZ a x1 mb mg mx mf y10 hy) (cwV 1 hts (gd_V tw821 tw823 ps21 tw9 tw824) rfl rfl rfl hd_Md_isNode ⟨Nat.le_of_ble_eq_true rfl, Nat.le_of_ble_eq_true rfl⟩) hNw hK hP hD hS hA (ci := 7) rfl rfl rfl [0, 1, 2, 3, 4, 5, 6, 7, 8, 9, 10, 11, 12, 13, 14, 15, 16, 17, 18, 19, 20, 21, 22, 23] [] rfl rfl rfl rfl rfl (by decide +kernel) (by decide +kernel) rfl hl.1 rfl (Nat.le_of_ble_eq_true rfl) rfl d_Md_isAsked_10 ⟨Nat.zero_le _, Nat.zero_le _⟩ (fun H locs hP hD hS => ?_)
    refine lv_if_eq (tgt := 29) hx hb d_Md_isAsked_13 (by decide) (fun hc => ?_) (fun hc => ?_)
    · have h := o_t hc h
      refine lv_iconst (v := 0) hx hb d_Md_isAsked_29 (by decide) ?_
      cases h
      exact kr_z hx hb hr (by decide) hlocks hP hD hS d_Md_isAsked_30
    · have h := o_f hc h
      refine lv_aload_n hx hb d_Md_isAsked_16 rfl (lv_at hl 0 rfl) ?_
      refine va_get (D := (dC, dI)) (ci := 7) (v := .ref (a 14)) (C := R_Md) (T := F_Md) (N := 35) hx hb hts inb_Md hown hK hP 0 rfl rfl 22 (by decide) (hts _ tw709) (fun _ h9 => h9) rfl d_Md_isAsked_17 ?_
      refine lv_iload_n hx hb d_Md_isAsked_20 rfl (lv_at hl 1 rfl) ?_
      obtain ⟨hin, h⟩ := o_in h
      refine va_zald hx hb hK hP 14 2 rfl rfl hin d_Md_isAsked_21 ?_
      refine lv_if_eq (tgt := 29) hx hb d_Md_isAsked_22 (by decide) (fun hc => ?_) (fun hc => ?_)
      · have h := o_t hc h
        refine lv_iconst (v := 0) hx hb d_Md_isAsked_29 (by decide) ?_
        cases h
        exact kr_z hx hb hr (by decide) hlocks hP hD hS d_Md_isAsked_30
      · have h := o_f hc h
        refine lv_iconst (v := 1) hx hb d_Md_isAsked_25 (by decide) ?_
        refine lv_goto (tgt := 30) hx hb d_Md_isAsked_26 (by decide) ?_
        cases h
        exact kr_z hx hb hr (by decide) hlocks hP hD hS d_Md_isAsked_30
set_option maxHeartbeats 4000000 in
set_option maxRecDepth 100000 in
theorem c_Md_up (l : Launch) (dC : Nat → ClassId) (dI : Nat → Nat → Nat) (cI cJ cZ : ClassId) (a : Nat → Nat) (x1 : Int32) (mb : MbS) (mg : MgS) (mx : MxS) (mf : MfS) (res : Int32) (h : f_Md_up x1 mb mg = some res) :
    Kt l (dC, dI) classes [(cI, .int), (cJ, .long), (cZ, .boolean)] y_Md_up (wz y_Md_up b_Md_up 2 (some .int)) { frames := 0, cells := 0, slots := 0, locals := 0 } [.ref (a 0), .int x1] (cMd cI cJ cZ a mb mg mx mf) (some (.int res)) (cMd cI cJ cZ a mb mg mx mf) := by
  refine Kt_of (cc := b_Md_up) (maxL := 2) (ret := (some .int)) (by decide) (Nat.le_of_ble_eq_true rfl) ?_
  intro p e s m args below meth c A ls hx hb hr hml hlocks hown hts hNw hK hP hD hA hS hl
  have hl : lv_has ls 2 [(0, .ref (a 0)), (1, .int x1)] := hl
  have hP : va_P (dC, dI) classes (cMd cI cJ cZ a mb mg mx mf) s.heap := hP
  refine lv_iload_n hx hb d_Md_up_0 rfl (lv_at hl 1 rfl) ?_
  refine lv_aload_n hx hb d_Md_up_1 rfl (lv_at hl 0 rfl) ?_
  refine va_get (D := (dC, dI)) (ci := 7) (v := .int (Mg_root mg)) (C := R_Md) (T := F_Md) (N := 35) hx hb hts inb_Md hown hK hP 0 rfl rfl 18 (by decide) (hts _ tw705) (fun _ h9 => h9) rfl d_Md_up_2 ?_
  refine lv_icmp_ne (tgt := 12) hx hb d_Md_up_5 (by decide) (fun hc => ?_) (fun hc => ?_)
  · have h := o_f hc h
    refine lv_aload_n hx hb d_Md_up_12 rfl (lv_at hl 0 rfl) ?_
    refine va_get (D := (dC, dI)) (ci := 7) (v := .ref (a 4)) (C := R_Md) (T := F_Md) (N := 35) hx hb hts inb_Md hown hK hP 0 rfl rfl 5 (by decide) (hts _ tw692) (fun _ h9 => h9) rfl d_Md_up_13 ?_
    refine lv_iload_n hx hb d_Md_up_16 rfl (lv_at hl 1 rfl) ?_
    obtain ⟨hin, h⟩ := o_in h
    refine va_iald hx hb hK hP 4 0 rfl rfl hin d_Md_up_17 ?_
    cases h
    exact kr_i hx hb hr hlocks hP hD hS d_Md_up_18
  · have h := o_t hc h
    refine lv_iconst (v := -1) hx hb d_Md_up_8 (by decide) ?_
    refine lv_goto (tgt := 18) hx hb d_Md_up_9 (by decide) ?_
    cases h
    exact kr_i hx hb hr hlocks hP hD hS d_Md_up_18
set_option maxHeartbeats 4000000 in
set_option maxRecDepth 100000 in
theorem c_Md_isLoop (l : Launch) (dC : Nat → ClassId) (dI : Nat → Nat → Nat) (cI cJ cZ : ClassId) (a : Nat → Nat) (x1 : Int32) (mb : MbS) (mg : MgS) (mx : MxS) (mf : MfS) (res : Int32) (h : f_Md_isLoop x1 mb = some res) :
    Kt l (dC, dI) classes [(cI, .int), (cJ, .long), (cZ, .boolean)] y_Md_isLoop (wz y_Md_isLoop b_Md_isLoop 2 (some .boolean)) { frames := 1, cells := 0, slots := 0, locals := 22 } [.ref (a 0), .int x1] (cMd cI cJ cZ a mb mg mx mf) (some (.int res)) (cMd cI cJ cZ a mb mg mx mf) := by
  refine Kt_of (cc := b_Md_isLoop) (maxL := 2) (ret := (some .boolean)) (by decide) (Nat.le_of_ble_eq_true rfl) ?_
  intro p e s m args below meth c A ls hx hb hr hml hlocks hown hts hNw hK hP hD hA hS hl
  have hl : lv_has ls 2 [(0, .ref (a 0)), (1, .int x1)] := hl
  have hP : va_P (dC, dI) classes (cMd cI cJ cZ a mb mg mx mf) s.heap := hP
  refine lv_aload_n hx hb d_Md_isLoop_0 rfl (lv_at hl 0 rfl) ?_
  refine va_get (D := (dC, dI)) (ci := 7) (v := .ref (a 2)) (C := R_Md) (T := F_Md) (N := 35) hx hb hts inb_Md hown hK hP 0 rfl rfl 3 (by decide) (hts _ tw690) (fun _ h9 => h9) rfl d_Md_isLoop_1 ?_
  refine lv_iload_n hx hb d_Md_isLoop_4 rfl (lv_at hl 1 rfl) ?_
  obtain ⟨hin, h⟩ := o_in h
  refine va_iald hx hb hK hP 2 0 rfl rfl hin d_Md_isLoop_5 ?_
  refine lv_iconst (v := 5) hx hb d_Md_isLoop_6 (by decide) ?_
  refine lv_bipush (v := 8) hx hb d_Md_isLoop_7 (by decide) ?_
  obtain ⟨y9, hy, h⟩ := o_bd h
  refine kdS (nn := 24) (rest := []) (w' := (cMd cI cJ cZ a mb mg mx mf)) (wr := (cMd cI cJ cZ a mb mg mx mf)) (st1 := [.int y9]) ⟨hx, hb, hml, hown, hts⟩ (c_Md_isIn l dC dI cI cJ cZ a ((Mb_sort mb) x1.toNatClampNeg) (5 : Int32) (8 : Int32) y9 hy) (va_cwS 3 hts (gd_S tw806 tw807 tw9 tw808) rfl rfl rfl hd_Md_isIn.2 ⟨Nat.le_of_ble_eq_true rfl, Nat.le_of_ble_eq_true rfl⟩) hNw hK hP hD hS hA [] [0, 1, 2, 3, 4, 5, 6, 7, 8, 9, 10, 11, 12, 13, 14, 15, 16, 17, 18, 19, 20, 21, 22, 23] rfl rfl rfl rfl rfl (by decide +kernel) (by decide +kernel) rfl hl.1 rfl (Nat.le_of_ble_eq_true rfl) rfl d_Md_isLoop_9 ⟨Nat.zero_le _, Nat.zero_le _⟩ (fun H locs hP hD hS => ?_)
  obtain ⟨hbo, h⟩ := o_bo h
  cases h
  exact kr_z hx hb hr hbo hlocks hP hD hS d_Md_isLoop_12
set_option maxHeartbeats 4000000 in
set_option maxRecDepth 100000 in
theorem c_Md_line (l : Launch) (dC : Nat → ClassId) (dI : Nat → Nat → Nat) (cI cJ cZ : ClassId) (a : Nat → Nat) (N : Nat) (mb : MbS) (mg : MgS) (mx : MxS) (mf : MfS) (res : MgS) (h : f_Md_line N mb mg = some res) :
    Kt l (dC, dI) classes [(cI, .int), (cJ, .long), (cZ, .boolean)] y_Md_line (wz y_Md_line b_Md_line 2 none) { frames := 1, cells := 0, slots := 0, locals := 21 } [.ref (a 0)] (cMd cI cJ cZ a mb mg mx mf) none (cMd cI cJ cZ a mb res mx mf) := by
  refine Kt_of (cc := b_Md_line) (maxL := 2) (ret := none) (by decide) (Nat.le_of_ble_eq_true rfl) ?_
  intro p e s m args below meth c A ls hx hb hr hml hlocks hown hts hNw hK hP hD hA hS hl
  have hl : lv_has ls 2 [(0, .ref (a 0))] := hl
  have hP : va_P (dC, dI) classes (cMd cI cJ cZ a mb mg mx mf) s.heap := hP
  have L33 : ∀ (n33 : Nat) (s33 : Int32 × MgS) (H : Heap) (locs : List Loc) (ls : Array Slot), lp (f_Md_line_L33 N mb) n33 s33 = some res → va_P (dC, dI) classes (cMd cI cJ cZ a mb s33.2 mx mf) H → va_D A (cMd cI cJ cZ a mb s33.2 mx mf) → va_S A s.heap H locs → lv_has ls 2 [(0, .ref (a 0)), (1, .int s33.1)] → W p l e { frames := 1, cells := 0, slots := 0, locals := 21 } s m args below meth c H locs 0 0 (KZ below args s (dC, dI) classes none (cMd cI cJ cZ a mb res mx mf) A) (F0 m 33 ls []) := by
    intro n33
    induction n33 with
    | zero => intro _ _ _ _ h; exact (lp_0 h).elim
    | succ n33 ih33 =>
      intro s33 H locs ls h hP hD hS hl
      have h := lp_s h
      have B117 : ∀ (x1_117 : Int32) (mg_117 : MgS) (H : Heap) (locs : List Loc) (ls : Array Slot), f_Md_line_b117 N (lp (f_Md_line_L33 N mb) n33) x1_117 mb mg_117 = some res → va_P (dC, dI) classes (cMd cI cJ cZ a mb mg_117 mx mf) H → va_D A (cMd cI cJ cZ a mb mg_117 mx mf) → va_S A s.heap H locs → lv_has ls 2 [(0, .ref (a 0)), (1, .int x1_117)] → W p l e { frames := 1, cells := 0, slots := 0, locals := 21 } s m args below meth c H locs 0 0 (KZ below args s (dC, dI) classes none (cMd cI cJ cZ a mb res mx mf) A) (F0 m 117 ls []) := by
        intro x1_117 mg_117 H locs ls h hP hD hS hl
        refine lv_iload_n hx hb d_Md_line_117 rfl (lv_at hl 1 rfl) ?_
        refine lv_iconst (v := -1) hx hb d_Md_line_118 (by decide) ?_
        refine lv_icmp_ne (tgt := 126) hx hb d_Md_line_119 (by decide) (fun hc => ?_) (fun hc => ?_)
        · have h := o_f hc h
          refine lv_aload_n hx hb d_Md_line_126 rfl (lv_at hl 0 rfl) ?_
          refine va_get (D := (dC, dI)) (ci := 7) (v := .ref (a 8)) (C := R_Md) (T := F_Md) (N := 35) hx hb hts inb_Md hown hK hP 0 rfl rfl 9 (by decide) (hts _ tw696) (fun _ h9 => h9) rfl d_Md_line_127 ?_
          refine lv_iload_n hx hb d_Md_line_130 rfl (lv_at hl 1 rfl) ?_
          obtain ⟨hin, h⟩ := o_in h
          refine va_iald hx hb hK hP 8 0 rfl rfl hin d_Md_line_131 ?_
          refine lv_istore_n (lv' := [(1, .int ((Mb_next mb) x1_117.toNatClampNeg)), (0, .ref (a 0))]) hx hb d_Md_line_132 rfl hl (by decide) rfl (fun ls hl => ?_)
          refine lv_goto (tgt := 33) hx hb d_Md_line_133 (by decide) ?_
          exact ih33 (((Mb_next mb) x1_117.toNatClampNeg), mg_117) _ _ _ h hP hD hS (lv_sub hl [1, 0] rfl)
        · have h := o_t hc h
          refine lv_iconst (v := -1) hx hb d_Md_line_122 (by decide) ?_
          refine lv_goto (tgt := 132) hx hb d_Md_line_123 (by decide) ?_
          refine lv_istore_n (lv' := [(1, .int (-1 : Int32)), (0, .ref (a 0))]) hx hb d_Md_line_132 rfl hl (by decide) rfl (fun ls hl => ?_)
          refine lv_goto (tgt := 33) hx hb d_Md_line_133 (by decide) ?_
          exact ih33 ((-1 : Int32), mg_117) _ _ _ h hP hD hS (lv_sub hl [1, 0] rfl)
      have L85 : ∀ (n85 : Nat) (s85 : Int32 × MgS) (H : Heap) (locs : List Loc) (ls : Array Slot), lp (f_Md_line_L85 N (lp (f_Md_line_L33 N mb) n33) mb) n85 s85 = some res → va_P (dC, dI) classes (cMd cI cJ cZ a mb s85.2 mx mf) H → va_D A (cMd cI cJ cZ a mb s85.2 mx mf) → va_S A s.heap H locs → lv_has ls 2 [(0, .ref (a 0)), (1, .int s85.1)] → W p l e { frames := 1, cells := 0, slots := 0, locals := 21 } s m args below meth c H locs 0 0 (KZ below args s (dC, dI) classes none (cMd cI cJ cZ a mb res mx mf) A) (F0 m 85 ls []) := by
        intro n85
        induction n85 with
        | zero => intro _ _ _ _ h; exact (lp_0 h).elim
        | succ n85 ih85 =>
          intro s85 H locs ls h hP hD hS hl
          have h := lp_s h
          have B108 : ∀ (x1_108 : Int32) (mg_108 : MgS) (H : Heap) (locs : List Loc) (ls : Array Slot), f_Md_line_b108 N (lp (f_Md_line_L33 N mb) n33) (lp (f_Md_line_L85 N (lp (f_Md_line_L33 N mb) n33) mb) n85) x1_108 mb mg_108 = some res → va_P (dC, dI) classes (cMd cI cJ cZ a mb mg_108 mx mf) H → va_D A (cMd cI cJ cZ a mb mg_108 mx mf) → va_S A s.heap H locs → lv_has ls 2 [(0, .ref (a 0)), (1, .int x1_108)] → W p l e { frames := 1, cells := 0, slots := 0, locals := 21 } s m args below meth c H locs 0 0 (KZ below args s (dC, dI) classes none (cMd cI cJ cZ a mb res mx mf) A) (F0 m 108 ls []) := by
            intro x1_108 mg_108 H locs ls h hP hD hS hl
            refine lv_aload_n hx hb d_Md_line_108 rfl (lv_at hl 0 rfl) ?_
            refine lv_iload_n hx hb d_Md_line_109 rfl (lv_at hl 1 rfl) ?_
            obtain ⟨y110, hy, h⟩ := o_bd h
            refine kdV (nn := 24) (rest := []) (w' := (cMd cI cJ cZ a mb mg_108 mx mf)) (wr := ([] : va_W)) (st1 := [.int y110]) ⟨hx, hb, hml, hown, hts⟩ (c_Md_up l dC dI cI cJ cZ a x1_108 mb mg_108 mx mf y110 hy) (cwV 1 hts (gd_V tw893 tw895 ps29 tw9 tw896) rfl rfl rfl hd_Md_up ⟨Nat.le_of_ble_eq_true rfl, Nat.le_of_ble_eq_true rfl⟩) hNw hK hP hD hS hA (ci := 7) rfl rfl rfl [0, 1, 2, 3, 4, 5, 6, 7, 8, 9, 10, 11, 12, 13, 14, 15, 16, 17, 18, 19, 20, 21, 22, 23] [] rfl rfl rfl rfl rfl (by decide +kernel) (by decide +kernel) rfl hl.1 rfl (Nat.le_of_ble_eq_true rfl) rfl d_Md_line_110 ⟨Nat.zero_le _, Nat.zero_le _⟩ (fun H locs hP hD hS => ?_)
            refine lv_istore_n (lv' := [(1, .int y110), (0, .ref (a 0))]) hx hb d_Md_line_113 rfl hl (by decide) rfl (fun ls hl => ?_)
            refine lv_goto (tgt := 85) hx hb d_Md_line_114 (by decide) ?_
            exact ih85 (y110, mg_108) _ _ _ h hP hD hS (lv_sub hl [1, 0] rfl)
          refine lv_iload_n hx hb d_Md_line_85 rfl (lv_at hl 1 rfl) ?_
          refine lv_iconst (v := -1) hx hb d_Md_line_86 (by decide) ?_
          refine lv_icmp_eq (tgt := 117) hx hb d_Md_line_87 (by decide) (fun hc => ?_) (fun hc => ?_)
          · have h := o_t hc h
            exact B117 s85.1 s85.2 _ _ _ h hP hD hS (lv_sub hl [0, 1] rfl)
          · have h := o_f hc h
            refine lv_iload_n hx hb d_Md_line_90 rfl (lv_at hl 1 rfl) ?_
            refine lv_aload_n hx hb d_Md_line_91 rfl (lv_at hl 0 rfl) ?_
            refine va_get (D := (dC, dI)) (ci := 7) (v := .int (Mg_root s85.2)) (C := R_Md) (T := F_Md) (N := 35) hx hb hts inb_Md hown hK hP 0 rfl rfl 18 (by decide) (hts _ tw705) (fun _ h9 => h9) rfl d_Md_line_92 ?_
            refine lv_icmp_eq (tgt := 108) hx hb d_Md_line_95 (by decide) (fun hc => ?_) (fun hc => ?_)
            · have h := o_t hc h
              exact B108 s85.1 s85.2 _ _ _ h hP hD hS (lv_sub hl [0, 1] rfl)
            · have h := o_f hc h
              refine lv_aload_n hx hb d_Md_line_98 rfl (lv_at hl 0 rfl) ?_
              refine va_get (D := (dC, dI)) (ci := 7) (v := .ref (a 8)) (C := R_Md) (T := F_Md) (N := 35) hx hb hts inb_Md hown hK hP 0 rfl rfl 9 (by decide) (hts _ tw696) (fun _ h9 => h9) rfl d_Md_line_99 ?_
              refine lv_iload_n hx hb d_Md_line_102 rfl (lv_at hl 1 rfl) ?_
              obtain ⟨hin, h⟩ := o_in h
              refine va_iald hx hb hK hP 8 0 rfl rfl hin d_Md_line_103 ?_
              refine lv_iconst (v := -1) hx hb d_Md_line_104 (by decide) ?_
              refine lv_icmp_ne (tgt := 117) hx hb d_Md_line_105 (by decide) (fun hc => ?_) (fun hc => ?_)
              · have h := o_f hc h
                exact B117 s85.1 s85.2 _ _ _ h hP hD hS (lv_sub hl [0, 1] rfl)
              · have h := o_t hc h
                exact B108 s85.1 s85.2 _ _ _ h hP hD hS (lv_sub hl [0, 1] rfl)
      refine lv_iload_n hx hb d_Md_line_33 rfl (lv_at hl 1 rfl) ?_
      refine lv_iconst (v := -1) hx hb d_Md_line_34 (by decide) ?_
      refine lv_icmp_eq (tgt := 136) hx hb d_Md_line_35 (by decide) (fun hc => ?_) (fun hc => ?_)
      · have h := o_t hc h
        cases h
        exact kr_v hx hb hr hlocks hP hD hS d_Md_line_136
      · have h := o_f hc h
        refine lv_aload_n hx hb d_Md_line_38 rfl (lv_at hl 0 rfl) ?_
        refine va_get (D := (dC, dI)) (ci := 7) (v := .ref (a 13)) (C := R_Md) (T := F_Md) (N := 35) hx hb hts inb_Md hown hK hP 0 rfl rfl 21 (by decide) (hts _ tw708) (fun _ h9 => h9) rfl d_Md_line_39 ?_
        refine lv_aload_n hx hb d_Md_line_42 rfl (lv_at hl 0 rfl) ?_
        refine va_get (D := (dC, dI)) (ci := 7) (v := .int (Mg_rooted s33.2)) (C := R_Md) (T := F_Md) (N := 35) hx hb hts inb_Md hown hK hP 0 rfl rfl 19 (by decide) (hts _ tw706) (fun _ h9 => h9) rfl d_Md_line_43 ?_
        refine lv_iload_n hx hb d_Md_line_46 rfl (lv_at hl 1 rfl) ?_
        obtain ⟨hin, h⟩ := o_in h
        refine va_iast hx hb hK hP hD hS 13 0 rfl rfl hin d_Md_line_47 (fun H locs hP hD hS => ?_)
        have hP : va_P (dC, dI) classes (cMd cI cJ cZ a mb ((Mg_root s33.2), (Mg_rooted s33.2), (Mg_knownKinds s33.2), (upd (Mg_order s33.2) (Mg_rooted s33.2).toNatClampNeg s33.1), (Mg_inRoot s33.2), (Mg_targets s33.2)) mx mf) H := hP
        have hD : va_D A (cMd cI cJ cZ a mb ((Mg_root s33.2), (Mg_rooted s33.2), (Mg_knownKinds s33.2), (upd (Mg_order s33.2) (Mg_rooted s33.2).toNatClampNeg s33.1), (Mg_inRoot s33.2), (Mg_targets s33.2)) mx mf) := hD
        refine lv_aload_n hx hb d_Md_line_48 rfl (lv_at hl 0 rfl) ?_
        refine va_get (D := (dC, dI)) (ci := 7) (v := .ref (a 14)) (C := R_Md) (T := F_Md) (N := 35) hx hb hts inb_Md hown hK hP 0 rfl rfl 22 (by decide) (hts _ tw709) (fun _ h9 => h9) rfl d_Md_line_49 ?_
        refine lv_iload_n hx hb d_Md_line_52 rfl (lv_at hl 1 rfl) ?_
        refine lv_iconst (v := 1) hx hb d_Md_line_53 (by decide) ?_
        obtain ⟨hin, h⟩ := o_in h
        refine va_zast hx hb hK hP hD hS 14 2 rfl rfl hin d_Md_line_54 (fun H locs hP hD hS => ?_)
        have hP : va_P (dC, dI) classes (cMd cI cJ cZ a mb ((Mg_root s33.2), (Mg_rooted s33.2), (Mg_knownKinds s33.2), (upd (Mg_order s33.2) (Mg_rooted s33.2).toNatClampNeg s33.1), (upd (Mg_inRoot s33.2) s33.1.toNatClampNeg (vp_nar .boolean (1 : Int32))), (Mg_targets s33.2)) mx mf) H := hP
        have hD : va_D A (cMd cI cJ cZ a mb ((Mg_root s33.2), (Mg_rooted s33.2), (Mg_knownKinds s33.2), (upd (Mg_order s33.2) (Mg_rooted s33.2).toNatClampNeg s33.1), (upd (Mg_inRoot s33.2) s33.1.toNatClampNeg (vp_nar .boolean (1 : Int32))), (Mg_targets s33.2)) mx mf) := hD
        refine lv_aload_n hx hb d_Md_line_55 rfl (lv_at hl 0 rfl) ?_
        refine lv_dup hx hb d_Md_line_56 rfl ?_
        refine va_get (D := (dC, dI)) (ci := 7) (v := .int (Mg_rooted s33.2)) (C := R_Md) (T := F_Md) (N := 35) hx hb hts inb_Md hown hK hP 0 rfl rfl 19 (by decide) (hts _ tw706) (fun _ h9 => h9) rfl d_Md_line_57 ?_
        refine lv_iconst (v := 1) hx hb d_Md_line_60 (by decide) ?_
        refine lv_iadd hx hb d_Md_line_61 ?_
        refine va_put (D := (dC, dI)) (ci := 7) (v := .int ((Mg_rooted s33.2) + (1 : Int32))) (ty := .int) (C := R_Md) (T := F_Md) (N := 35) hx hb hts inb_Md ft_Md ft_Md_ok n_Md hown hK hP hD hS 0 rfl rfl 19 (by decide) (hts _ tw706) (fun _ h9 => h9) rfl (by decide +kernel) rfl rfl (Nat.le_of_ble_eq_true rfl) d_Md_line_62 (fun H locs hP hD hS => ?_)
        have hP : va_P (dC, dI) classes (cMd cI cJ cZ a mb ((Mg_root s33.2), ((Mg_rooted s33.2) + (1 : Int32)), (Mg_knownKinds s33.2), (upd (Mg_order s33.2) (Mg_rooted s33.2).toNatClampNeg s33.1), (upd (Mg_inRoot s33.2) s33.1.toNatClampNeg (vp_nar .boolean (1 : Int32))), (Mg_targets s33.2)) mx mf) H := hP
        have hD : va_D A (cMd cI cJ cZ a mb ((Mg_root s33.2), ((Mg_rooted s33.2) + (1 : Int32)), (Mg_knownKinds s33.2), (upd (Mg_order s33.2) (Mg_rooted s33.2).toNatClampNeg s33.1), (upd (Mg_inRoot s33.2) s33.1.toNatClampNeg (vp_nar .boolean (1 : Int32))), (Mg_targets s33.2)) mx mf) := hD
        refine lv_aload_n hx hb d_Md_line_65 rfl (lv_at hl 0 rfl) ?_
        refine va_get (D := (dC, dI)) (ci := 7) (v := .ref (a 6)) (C := R_Md) (T := F_Md) (N := 35) hx hb hts inb_Md hown hK hP 0 rfl rfl 7 (by decide) (hts _ tw694) (fun _ h9 => h9) rfl d_Md_line_66 ?_
        refine lv_iload_n hx hb d_Md_line_69 rfl (lv_at hl 1 rfl) ?_
        obtain ⟨hin, h⟩ := o_in h
        refine va_iald hx hb hK hP 6 0 rfl rfl hin d_Md_line_70 ?_
        refine lv_iconst (v := -1) hx hb d_Md_line_71 (by decide) ?_
        refine lv_icmp_eq (tgt := 85) hx hb d_Md_line_72 (by decide) (fun hc => ?_) (fun hc => ?_)
        · have h := o_t hc h
          exact L85 N (s33.1, ((Mg_root s33.2), ((Mg_rooted s33.2) + (1 : Int32)), (Mg_knownKinds s33.2), (upd (Mg_order s33.2) (Mg_rooted s33.2).toNatClampNeg s33.1), (upd (Mg_inRoot s33.2) s33.1.toNatClampNeg (vp_nar .boolean (1 : Int32))), (Mg_targets s33.2))) _ _ _ h hP hD hS (lv_sub hl [0, 1] rfl)
        · have h := o_f hc h
          refine lv_aload_n hx hb d_Md_line_75 rfl (lv_at hl 0 rfl) ?_
          refine va_get (D := (dC, dI)) (ci := 7) (v := .ref (a 6)) (C := R_Md) (T := F_Md) (N := 35) hx hb hts inb_Md hown hK hP 0 rfl rfl 7 (by decide) (hts _ tw694) (fun _ h9 => h9) rfl d_Md_line_76 ?_
          refine lv_iload_n hx hb d_Md_line_79 rfl (lv_at hl 1 rfl) ?_
          obtain ⟨hin, h⟩ := o_in h
          refine va_iald hx hb hK hP 6 0 rfl rfl hin d_Md_line_80 ?_
          refine lv_istore_n (lv' := [(1, .int ((Mb_first mb) s33.1.toNatClampNeg)), (0, .ref (a 0))]) hx hb d_Md_line_81 rfl hl (by decide) rfl (fun ls hl => ?_)
          refine lv_goto (tgt := 33) hx hb d_Md_line_82 (by decide) ?_
          exact ih33 (((Mb_first mb) s33.1.toNatClampNeg), ((Mg_root s33.2), ((Mg_rooted s33.2) + (1 : Int32)), (Mg_knownKinds s33.2), (upd (Mg_order s33.2) (Mg_rooted s33.2).toNatClampNeg s33.1), (upd (Mg_inRoot s33.2) s33.1.toNatClampNeg (vp_nar .boolean (1 : Int32))), (Mg_targets s33.2))) _ _ _ h hP hD hS (lv_sub hl [1, 0] rfl)
  have L2 : ∀ (n2 : Nat) (s2 : Int32 × MgS) (H : Heap) (locs : List Loc) (ls : Array Slot), lp (f_Md_line_L2 N mb) n2 s2 = some res → va_P (dC, dI) classes (cMd cI cJ cZ a mb s2.2 mx mf) H → va_D A (cMd cI cJ cZ a mb s2.2 mx mf) → va_S A s.heap H locs → lv_has ls 2 [(0, .ref (a 0)), (1, .int s2.1)] → W p l e { frames := 1, cells := 0, slots := 0, locals := 21 } s m args below meth c H locs 0 0 (KZ below args s (dC, dI) classes none (cMd cI cJ cZ a mb res mx mf) A) (F0 m 2 ls []) := by
    intro n2
    induction n2 with
    | zero => intro _ _ _ _ h; exact (lp_0 h).elim
    | succ n2 ih2 =>
      intro s2 H locs ls h hP hD hS hl
      have h := lp_s h
      refine lv_iload_n hx hb d_Md_line_2 rfl (lv_at hl 1 rfl) ?_
      refine lv_aload_n hx hb d_Md_line_3 rfl (lv_at hl 0 rfl) ?_
      refine va_get (D := (dC, dI)) (ci := 7) (v := .int (Mb_nodes mb)) (C := R_Md) (T := F_Md) (N := 35) hx hb hts inb_Md hown hK hP 0 rfl rfl 2 (by decide) (hts _ tw689) (fun _ h9 => h9) rfl d_Md_line_4 ?_
      refine lv_icmp_ge (tgt := 23) hx hb d_Md_line_7 (by decide) (fun hc => ?_) (fun hc => ?_)
      · have h := o_t hc h
        refine lv_aload_n hx hb d_Md_line_23 rfl (lv_at hl 0 rfl) ?_
        refine lv_iconst (v := 0) hx hb d_Md_line_24 (by decide) ?_
        refine va_put (D := (dC, dI)) (ci := 7) (v := .int (0 : Int32)) (ty := .int) (C := R_Md) (T := F_Md) (N := 35) hx hb hts inb_Md ft_Md ft_Md_ok n_Md hown hK hP hD hS 0 rfl rfl 19 (by decide) (hts _ tw706) (fun _ h9 => h9) rfl (by decide +kernel) rfl rfl (Nat.le_of_ble_eq_true rfl) d_Md_line_25 (fun H locs hP hD hS => ?_)
        have hP : va_P (dC, dI) classes (cMd cI cJ cZ a mb ((Mg_root s2.2), (0 : Int32), (Mg_knownKinds s2.2), (Mg_order s2.2), (Mg_inRoot s2.2), (Mg_targets s2.2)) mx mf) H := hP
        have hD : va_D A (cMd cI cJ cZ a mb ((Mg_root s2.2), (0 : Int32), (Mg_knownKinds s2.2), (Mg_order s2.2), (Mg_inRoot s2.2), (Mg_targets s2.2)) mx mf) := hD
        refine lv_aload_n hx hb d_Md_line_28 rfl (lv_at hl 0 rfl) ?_
        refine va_get (D := (dC, dI)) (ci := 7) (v := .int (Mg_root s2.2)) (C := R_Md) (T := F_Md) (N := 35) hx hb hts inb_Md hown hK hP 0 rfl rfl 18 (by decide) (hts _ tw705) (fun _ h9 => h9) rfl d_Md_line_29 ?_
        refine lv_istore_n (lv' := [(1, .int (Mg_root s2.2)), (0, .ref (a 0))]) hx hb d_Md_line_32 rfl hl (by decide) rfl (fun ls hl => ?_)
        exact L33 N ((Mg_root s2.2), ((Mg_root s2.2), (0 : Int32), (Mg_knownKinds s2.2), (Mg_order s2.2), (Mg_inRoot s2.2), (Mg_targets s2.2))) _ _ _ h hP hD hS (lv_sub hl [1, 0] rfl)
      · have h := o_f hc h
        refine lv_aload_n hx hb d_Md_line_10 rfl (lv_at hl 0 rfl) ?_
        refine va_get (D := (dC, dI)) (ci := 7) (v := .ref (a 14)) (C := R_Md) (T := F_Md) (N := 35) hx hb hts inb_Md hown hK hP 0 rfl rfl 22 (by decide) (hts _ tw709) (fun _ h9 => h9) rfl d_Md_line_11 ?_
        refine lv_iload_n hx hb d_Md_line_14 rfl (lv_at hl 1 rfl) ?_
        refine lv_iconst (v := 0) hx hb d_Md_line_15 (by decide) ?_
        obtain ⟨hin, h⟩ := o_in h
        refine va_zast hx hb hK hP hD hS 14 2 rfl rfl hin d_Md_line_16 (fun H locs hP hD hS => ?_)
        have hP : va_P (dC, dI) classes (cMd cI cJ cZ a mb ((Mg_root s2.2), (Mg_rooted s2.2), (Mg_knownKinds s2.2), (Mg_order s2.2), (upd (Mg_inRoot s2.2) s2.1.toNatClampNeg (vp_nar .boolean (0 : Int32))), (Mg_targets s2.2)) mx mf) H := hP
        have hD : va_D A (cMd cI cJ cZ a mb ((Mg_root s2.2), (Mg_rooted s2.2), (Mg_knownKinds s2.2), (Mg_order s2.2), (upd (Mg_inRoot s2.2) s2.1.toNatClampNeg (vp_nar .boolean (0 : Int32))), (Mg_targets s2.2)) mx mf) := hD
        refine lv_iinc (v := (s2.1 + 1)) (lv' := [(1, .int (s2.1 + 1)), (0, .ref (a 0))]) hx hb d_Md_line_17 hl (k := 1) rfl rfl (by decide) rfl (fun ls hl => ?_)
        refine lv_goto (tgt := 2) hx hb d_Md_line_20 (by decide) ?_
        exact ih2 ((s2.1 + 1), ((Mg_root s2.2), (Mg_rooted s2.2), (Mg_knownKinds s2.2), (Mg_order s2.2), (upd (Mg_inRoot s2.2) s2.1.toNatClampNeg (vp_nar .boolean (0 : Int32))), (Mg_targets s2.2))) _ _ _ h hP hD hS (lv_sub hl [1, 0] rfl)
  refine lv_iconst (v := 0) hx hb d_Md_line_0 (by decide) ?_
  refine lv_istore_n (lv' := [(1, .int (0 : Int32)), (0, .ref (a 0))]) hx hb d_Md_line_1 rfl hl (by decide) rfl (fun ls hl => ?_)
  exact L2 N ((0 : Int32), mg) _ _ _ h hP hD hS (lv_sub hl [1, 0] rfl)
set_option maxHeartbeats 4000000 in
set_option maxRecDepth 100000 in
theorem c_Md_targetOf (l : Launch) (dC : Nat → ClassId) (dI : Nat → Nat → Nat) (cI cJ cZ : ClassId) (a : Nat → Nat) (N : Nat) (x1 : Int32) (mb : MbS) (mg : MgS) (mx : MxS) (mf : MfS) (res : Int32) (h : f_Md_targetOf N x1 mb mg = some res) :
    Kt l (dC, dI) classes [(cI, .int), (cJ, .long), (cZ, .boolean)] y_Md_targetOf (wz y_Md_targetOf b_Md_targetOf 4 (some .int)) { frames := 2, cells := 0, slots := 0, locals := 43 } [.ref (a 0), .int x1] (cMd cI cJ cZ a mb mg mx mf) (some (.int res)) (cMd cI cJ cZ a mb mg mx mf) := by
  refine Kt_of (cc := b_Md_targetOf) (maxL := 4) (ret := (some .int)) (by decide) (Nat.le_of_ble_eq_true rfl) ?_
  intro p e s m args below meth c A ls hx hb hr hml hlocks hown hts hNw hK hP hD hA hS hl
  have hl : lv_has ls 4 [(0, .ref (a 0)), (1, .int x1)] := hl
  have hP : va_P (dC, dI) classes (cMd cI cJ cZ a mb mg mx mf) s.heap := hP
  have L23 : ∀ (x1_23 : Int32) (x2_23 : Int32) (n23 : Nat) (s23 : Int32) (H : Heap) (locs : List Loc) (ls : Array Slot), lp (f_Md_targetOf_L23 N x1_23 x2_23 mb mg) n23 s23 = some res → va_P (dC, dI) classes (cMd cI cJ cZ a mb mg mx mf) H → va_D A (cMd cI cJ cZ a mb mg mx mf) → va_S A s.heap H locs → lv_has ls 4 [(0, .ref (a 0)), (1, .int x1_23), (2, .int x2_23), (3, .int s23)] → W p l e { frames := 2, cells := 0, slots := 0, locals := 43 } s m args below meth c H locs 0 0 (KZ below args s (dC, dI) classes (some (.int res)) (cMd cI cJ cZ a mb mg mx mf) A) (F0 m 23 ls []) := by
    intro x1_23 x2_23 n23
    induction n23 with
    | zero => intro _ _ _ _ h; exact (lp_0 h).elim
    | succ n23 ih23 =>
      intro s23 H locs ls h hP hD hS hl
      have h := lp_s h
      have B132 : ∀ (x3_132 : Int32) (H : Heap) (locs : List Loc) (ls : Array Slot), f_Md_targetOf_b132 N (lp (f_Md_targetOf_L23 N x1_23 x2_23 mb mg) n23) x1_23 x2_23 x3_132 mb mg = some res → va_P (dC, dI) classes (cMd cI cJ cZ a mb mg mx mf) H → va_D A (cMd cI cJ cZ a mb mg mx mf) → va_S A s.heap H locs → lv_has ls 4 [(0, .ref (a 0)), (1, .int x1_23), (2, .int x2_23), (3, .int x3_132)] → W p l e { frames := 2, cells := 0, slots := 0, locals := 43 } s m args below meth c H locs 0 0 (KZ below args s (dC, dI) classes (some (.int res)) (cMd cI cJ cZ a mb mg mx mf) A) (F0 m 132 ls []) := by
        intro x3_132 H locs ls h hP hD hS hl
        refine lv_aload_n hx hb d_Md_targetOf_132 rfl (lv_at hl 0 rfl) ?_
        refine lv_iload_n hx hb d_Md_targetOf_133 rfl (lv_at hl 3 rfl) ?_
        obtain ⟨y134, hy, h⟩ := o_bd h
        refine kdV (nn := 24) (rest := []) (w' := (cMd cI cJ cZ a mb mg mx mf)) (wr := ([] : va_W)) (st1 := [.int y134]) ⟨hx, hb, hml, hown, hts⟩ (c_Md_up l dC dI cI cJ cZ a x3_132 mb mg mx mf y134 hy) (cwV 1 hts (gd_V tw893 tw895 ps29 tw9 tw896) rfl rfl rfl hd_Md_up ⟨Nat.le_of_ble_eq_true rfl, Nat.le_of_ble_eq_true rfl⟩) hNw hK hP hD hS hA (ci := 7) rfl rfl rfl [0, 1, 2, 3, 4, 5, 6, 7, 8, 9, 10, 11, 12, 13, 14, 15, 16, 17, 18, 19, 20, 21, 22, 23] [] rfl rfl rfl rfl rfl (by decide +kernel) (by decide +kernel) rfl hl.1 rfl (Nat.le_of_ble_eq_true rfl) rfl d_Md_targetOf_134 ⟨Nat.zero_le _, Nat.zero_le _⟩ (fun H locs hP hD hS => ?_)
        refine lv_istore_n (lv' := [(3, .int y134), (0, .ref (a 0)), (1, .int x1_23), (2, .int x2_23)]) hx hb d_Md_targetOf_137 rfl hl (by decide) rfl (fun ls hl => ?_)
        refine lv_goto (tgt := 23) hx hb d_Md_targetOf_138 (by decide) ?_
        exact ih23 y134 _ _ _ h hP hD hS (lv_sub hl [1, 2, 3, 0] rfl)
      refine lv_iload_n hx hb d_Md_targetOf_23 rfl (lv_at hl 3 rfl) ?_
      refine lv_iconst (v := -1) hx hb d_Md_targetOf_24 (by decide) ?_
      refine lv_icmp_eq (tgt := 141) hx hb d_Md_targetOf_25 (by decide) (fun hc => ?_) (fun hc => ?_)
      · have h := o_t hc h
        refine lv_iconst (v := -1) hx hb d_Md_targetOf_141 (by decide) ?_
        cases h
        exact kr_i hx hb hr hlocks hP hD hS d_Md_targetOf_142
      · have h := o_f hc h
        refine lv_aload_n hx hb d_Md_targetOf_28 rfl (lv_at hl 0 rfl) ?_
        refine va_get (D := (dC, dI)) (ci := 7) (v := .ref (a 3)) (C := R_Md) (T := F_Md) (N := 35) hx hb hts inb_Md hown hK hP 0 rfl rfl 4 (by decide) (hts _ tw691) (fun _ h9 => h9) rfl d_Md_targetOf_29 ?_
        refine lv_iload_n hx hb d_Md_targetOf_32 rfl (lv_at hl 1 rfl) ?_
        obtain ⟨hin, h⟩ := o_in h
        refine va_iald hx hb hK hP 3 0 rfl rfl hin d_Md_targetOf_33 ?_
        refine lv_iconst (v := -1) hx hb d_Md_targetOf_34 (by decide) ?_
        refine lv_icmp_ne (tgt := 74) hx hb d_Md_targetOf_35 (by decide) (fun hc => ?_) (fun hc => ?_)
        · have h := o_f hc h
          refine lv_aload_n hx hb d_Md_targetOf_74 rfl (lv_at hl 0 rfl) ?_
          refine va_get (D := (dC, dI)) (ci := 7) (v := .ref (a 2)) (C := R_Md) (T := F_Md) (N := 35) hx hb hts inb_Md hown hK hP 0 rfl rfl 3 (by decide) (hts _ tw690) (fun _ h9 => h9) rfl d_Md_targetOf_75 ?_
          refine lv_iload_n hx hb d_Md_targetOf_78 rfl (lv_at hl 3 rfl) ?_
          obtain ⟨hin, h⟩ := o_in h
          refine va_iald hx hb hK hP 2 0 rfl rfl hin d_Md_targetOf_79 ?_
          refine lv_bipush (v := 12) hx hb d_Md_targetOf_80 (by decide) ?_
          refine lv_icmp_ne (tgt := 132) hx hb d_Md_targetOf_82 (by decide) (fun hc => ?_) (fun hc => ?_)
          · have h := o_f hc h
            exact B132 s23 _ _ _ h hP hD hS (lv_sub hl [0, 1, 2, 3] rfl)
          · have h := o_t hc h
            refine lv_aload_n hx hb d_Md_targetOf_85 rfl (lv_at hl 0 rfl) ?_
            refine va_get (D := (dC, dI)) (ci := 7) (v := .ref (a 3)) (C := R_Md) (T := F_Md) (N := 35) hx hb hts inb_Md hown hK hP 0 rfl rfl 4 (by decide) (hts _ tw691) (fun _ h9 => h9) rfl d_Md_targetOf_86 ?_
            refine lv_iload_n hx hb d_Md_targetOf_89 rfl (lv_at hl 3 rfl) ?_
            obtain ⟨hin, h⟩ := o_in h
            refine va_iald hx hb hK hP 3 0 rfl rfl hin d_Md_targetOf_90 ?_
            refine lv_aload_n hx hb d_Md_targetOf_91 rfl (lv_at hl 0 rfl) ?_
            refine va_get (D := (dC, dI)) (ci := 7) (v := .ref (a 3)) (C := R_Md) (T := F_Md) (N := 35) hx hb hts inb_Md hown hK hP 0 rfl rfl 4 (by decide) (hts _ tw691) (fun _ h9 => h9) rfl d_Md_targetOf_92 ?_
            refine lv_iload_n hx hb d_Md_targetOf_95 rfl (lv_at hl 1 rfl) ?_
            obtain ⟨hin, h⟩ := o_in h
            refine va_iald hx hb hK hP 3 0 rfl rfl hin d_Md_targetOf_96 ?_
            refine lv_icmp_ne (tgt := 132) hx hb d_Md_targetOf_97 (by decide) (fun hc => ?_) (fun hc => ?_)
            · have h := o_f hc h
              exact B132 s23 _ _ _ h hP hD hS (lv_sub hl [0, 1, 2, 3] rfl)
            · have h := o_t hc h
              refine lv_iload_n hx hb d_Md_targetOf_100 rfl (lv_at hl 2 rfl) ?_
              refine lv_if_eq (tgt := 108) hx hb d_Md_targetOf_101 (by decide) (fun hc => ?_) (fun hc => ?_)
              · have h := o_t hc h
                refine lv_aload_n hx hb d_Md_targetOf_108 rfl (lv_at hl 0 rfl) ?_
                refine lv_aload_n hx hb d_Md_targetOf_109 rfl (lv_at hl 0 rfl) ?_
                refine va_get (D := (dC, dI)) (ci := 7) (v := .ref (a 6)) (C := R_Md) (T := F_Md) (N := 35) hx hb hts inb_Md hown hK hP 0 rfl rfl 7 (by decide) (hts _ tw694) (fun _ h9 => h9) rfl d_Md_targetOf_110 ?_
                refine lv_iload_n hx hb d_Md_targetOf_113 rfl (lv_at hl 3 rfl) ?_
                obtain ⟨hin, h⟩ := o_in h
                refine va_iald hx hb hK hP 6 0 rfl rfl hin d_Md_targetOf_114 ?_
                obtain ⟨y115, hy, h⟩ := o_bd h
                refine kdV (nn := 24) (rest := []) (w' := (cMd cI cJ cZ a mb mg mx mf)) (wr := ([] : va_W)) (st1 := [.int y115]) ⟨hx, hb, hml, hown, hts⟩ (c_Md_isLoop l dC dI cI cJ cZ a ((Mb_first mb) s23.toNatClampNeg) mb mg mx mf y115 hy) (cwV 1 hts (gd_V tw901 tw903 ps31 tw9 tw904) rfl rfl rfl hd_Md_isLoop ⟨Nat.le_of_ble_eq_true rfl, Nat.le_of_ble_eq_true rfl⟩) hNw hK hP hD hS hA (ci := 7) rfl rfl rfl [0, 1, 2, 3, 4, 5, 6, 7, 8, 9, 10, 11, 12, 13, 14, 15, 16, 17, 18, 19, 20, 21, 22, 23] [] rfl rfl rfl rfl rfl (by decide +kernel) (by decide +kernel) rfl hl.1 rfl (Nat.le_of_ble_eq_true rfl) rfl d_Md_targetOf_115 ⟨Nat.zero_le _, Nat.zero_le _⟩ (fun H locs hP hD hS => ?_)
                refine lv_if_eq (tgt := 130) hx hb d_Md_targetOf_118 (by decide) (fun hc => ?_) (fun hc => ?_)
                · have h := o_t hc h
                  refine lv_iconst (v := -1) hx hb d_Md_targetOf_130 (by decide) ?_
                  cases h
                  exact kr_i hx hb hr hlocks hP hD hS d_Md_targetOf_131
                · have h := o_f hc h
                  refine lv_aload_n hx hb d_Md_targetOf_121 rfl (lv_at hl 0 rfl) ?_
                  refine va_get (D := (dC, dI)) (ci := 7) (v := .ref (a 6)) (C := R_Md) (T := F_Md) (N := 35) hx hb hts inb_Md hown hK hP 0 rfl rfl 7 (by decide) (hts _ tw694) (fun _ h9 => h9) rfl d_Md_targetOf_122 ?_
                  refine lv_iload_n hx hb d_Md_targetOf_125 rfl (lv_at hl 3 rfl) ?_
                  obtain ⟨hin, h⟩ := o_in h
                  refine va_iald hx hb hK hP 6 0 rfl rfl hin d_Md_targetOf_126 ?_
                  refine lv_goto (tgt := 131) hx hb d_Md_targetOf_127 (by decide) ?_
                  cases h
                  exact kr_i hx hb hr hlocks hP hD hS d_Md_targetOf_131
              · have h := o_f hc h
                refine lv_iload_n hx hb d_Md_targetOf_104 rfl (lv_at hl 3 rfl) ?_
                refine lv_goto (tgt := 131) hx hb d_Md_targetOf_105 (by decide) ?_
                cases h
                exact kr_i hx hb hr hlocks hP hD hS d_Md_targetOf_131
        · have h := o_t hc h
          refine lv_aload_n hx hb d_Md_targetOf_38 rfl (lv_at hl 0 rfl) ?_
          refine lv_iload_n hx hb d_Md_targetOf_39 rfl (lv_at hl 3 rfl) ?_
          obtain ⟨y40, hy, h⟩ := o_bd h
          refine kdV (nn := 24) (rest := []) (w' := (cMd cI cJ cZ a mb mg mx mf)) (wr := ([] : va_W)) (st1 := [.int y40]) ⟨hx, hb, hml, hown, hts⟩ (c_Md_isLoop l dC dI cI cJ cZ a s23 mb mg mx mf y40 hy) (cwV 1 hts (gd_V tw901 tw903 ps31 tw9 tw904) rfl rfl rfl hd_Md_isLoop ⟨Nat.le_of_ble_eq_true rfl, Nat.le_of_ble_eq_true rfl⟩) hNw hK hP hD hS hA (ci := 7) rfl rfl rfl [0, 1, 2, 3, 4, 5, 6, 7, 8, 9, 10, 11, 12, 13, 14, 15, 16, 17, 18, 19, 20, 21, 22, 23] [] rfl rfl rfl rfl rfl (by decide +kernel) (by decide +kernel) rfl hl.1 rfl (Nat.le_of_ble_eq_true rfl) rfl d_Md_targetOf_40 ⟨Nat.zero_le _, Nat.zero_le _⟩ (fun H locs hP hD hS => ?_)
          refine lv_if_ne (tgt := 72) hx hb d_Md_targetOf_43 (by decide) (fun hc => ?_) (fun hc => ?_)
          · have h := o_f hc h
            refine lv_iload_n hx hb d_Md_targetOf_72 rfl (lv_at hl 3 rfl) ?_
            cases h
            exact kr_i hx hb hr hlocks hP hD hS d_Md_targetOf_73
          · have h := o_t hc h
            refine lv_iload_n hx hb d_Md_targetOf_46 rfl (lv_at hl 2 rfl) ?_
            refine lv_if_eq (tgt := 132) hx hb d_Md_targetOf_47 (by decide) (fun hc => ?_) (fun hc => ?_)
            · have h := o_t hc h
              exact B132 s23 _ _ _ h hP hD hS (lv_sub hl [0, 1, 2, 3] rfl)
            · have h := o_f hc h
              refine lv_aload_n hx hb d_Md_targetOf_50 rfl (lv_at hl 0 rfl) ?_
              refine va_get (D := (dC, dI)) (ci := 7) (v := .ref (a 2)) (C := R_Md) (T := F_Md) (N := 35) hx hb hts inb_Md hown hK hP 0 rfl rfl 3 (by decide) (hts _ tw690) (fun _ h9 => h9) rfl d_Md_targetOf_51 ?_
              refine lv_iload_n hx hb d_Md_targetOf_54 rfl (lv_at hl 3 rfl) ?_
              obtain ⟨hin, h⟩ := o_in h
              refine va_iald hx hb hK hP 2 0 rfl rfl hin d_Md_targetOf_55 ?_
              refine lv_bipush (v := 14) hx hb d_Md_targetOf_56 (by decide) ?_
              refine lv_icmp_eq (tgt := 72) hx hb d_Md_targetOf_58 (by decide) (fun hc => ?_) (fun hc => ?_)
              · have h := o_t hc h
                refine lv_iload_n hx hb d_Md_targetOf_72 rfl (lv_at hl 3 rfl) ?_
                cases h
                exact kr_i hx hb hr hlocks hP hD hS d_Md_targetOf_73
              · have h := o_f hc h
                refine lv_aload_n hx hb d_Md_targetOf_61 rfl (lv_at hl 0 rfl) ?_
                refine va_get (D := (dC, dI)) (ci := 7) (v := .ref (a 2)) (C := R_Md) (T := F_Md) (N := 35) hx hb hts inb_Md hown hK hP 0 rfl rfl 3 (by decide) (hts _ tw690) (fun _ h9 => h9) rfl d_Md_targetOf_62 ?_
                refine lv_iload_n hx hb d_Md_targetOf_65 rfl (lv_at hl 3 rfl) ?_
                obtain ⟨hin, h⟩ := o_in h
                refine va_iald hx hb hK hP 2 0 rfl rfl hin d_Md_targetOf_66 ?_
                refine lv_bipush (v := 15) hx hb d_Md_targetOf_67 (by decide) ?_
                refine lv_icmp_ne (tgt := 132) hx hb d_Md_targetOf_69 (by decide) (fun hc => ?_) (fun hc => ?_)
                · have h := o_f hc h
                  exact B132 s23 _ _ _ h hP hD hS (lv_sub hl [0, 1, 2, 3] rfl)
                · have h := o_t hc h
                  refine lv_iload_n hx hb d_Md_targetOf_72 rfl (lv_at hl 3 rfl) ?_
                  cases h
                  exact kr_i hx hb hr hlocks hP hD hS d_Md_targetOf_73
  have B16 : ∀ (z0_16 : Int32) (x1_16 : Int32) (H : Heap) (locs : List Loc) (ls : Array Slot), f_Md_targetOf_b16 N z0_16 x1_16 mb mg = some res → va_P (dC, dI) classes (cMd cI cJ cZ a mb mg mx mf) H → va_D A (cMd cI cJ cZ a mb mg mx mf) → va_S A s.heap H locs → lv_has ls 4 [(0, .ref (a 0)), (1, .int x1_16)] → W p l e { frames := 2, cells := 0, slots := 0, locals := 43 } s m args below meth c H locs 0 0 (KZ below args s (dC, dI) classes (some (.int res)) (cMd cI cJ cZ a mb mg mx mf) A) (F0 m 16 ls [.int z0_16]) := by
    intro z0_16 x1_16 H locs ls h hP hD hS hl
    refine lv_istore_n (lv' := [(2, .int z0_16), (0, .ref (a 0)), (1, .int x1_16)]) hx hb d_Md_targetOf_16 rfl hl (by decide) rfl (fun ls hl => ?_)
    refine lv_aload_n hx hb d_Md_targetOf_17 rfl (lv_at hl 1 rfl) ?_
    refine lv_iload_n hx hb d_Md_targetOf_18 rfl (lv_at hl 2 rfl) ?_
    obtain ⟨y19, hy, h⟩ := o_bd h
    refine kdV (nn := 24) (rest := []) (w' := (cMd cI cJ cZ a mb mg mx mf)) (wr := ([] : va_W)) (st1 := [.int y19]) ⟨hx, hb, hml, hown, hts⟩ (c_Md_up l dC dI cI cJ cZ a x1_16 mb mg mx mf y19 hy) (cwV 1 hts (gd_V tw893 tw895 ps29 tw9 tw896) rfl rfl rfl hd_Md_up ⟨Nat.le_of_ble_eq_true rfl, Nat.le_of_ble_eq_true rfl⟩) hNw hK hP hD hS hA (ci := 7) rfl rfl rfl [0, 1, 2, 3, 4, 5, 6, 7, 8, 9, 10, 11, 12, 13, 14, 15, 16, 17, 18, 19, 20, 21, 22, 23] [] rfl rfl rfl rfl rfl (by decide +kernel) (by decide +kernel) rfl hl.1 rfl (Nat.le_of_ble_eq_true rfl) rfl d_Md_targetOf_19 ⟨Nat.zero_le _, Nat.zero_le _⟩ (fun H locs hP hD hS => ?_)
    refine lv_istore_n (lv' := [(3, .int y19), (2, .int z0_16), (0, .ref (a 0)), (1, .int x1_16)]) hx hb d_Md_targetOf_22 rfl hl (by decide) rfl (fun ls hl => ?_)
    exact L23 x1_16 z0_16 N y19 _ _ _ h hP hD hS (lv_sub hl [2, 3, 1, 0] rfl)
  refine lv_aload_n hx hb d_Md_targetOf_0 rfl (lv_at hl 0 rfl) ?_
  refine va_get (D := (dC, dI)) (ci := 7) (v := .ref (a 2)) (C := R_Md) (T := F_Md) (N := 35) hx hb hts inb_Md hown hK hP 0 rfl rfl 3 (by decide) (hts _ tw690) (fun _ h9 => h9) rfl d_Md_targetOf_1 ?_
  refine lv_iload_n hx hb d_Md_targetOf_4 rfl (lv_at hl 1 rfl) ?_
  obtain ⟨hin, h⟩ := o_in h
  refine va_iald hx hb hK hP 2 0 rfl rfl hin d_Md_targetOf_5 ?_
  refine lv_bipush (v := 10) hx hb d_Md_targetOf_6 (by decide) ?_
  refine lv_icmp_ne (tgt := 15) hx hb d_Md_targetOf_8 (by decide) (fun hc => ?_) (fun hc => ?_)
  · have h := o_f hc h
    refine lv_iconst (v := 0) hx hb d_Md_targetOf_15 (by decide) ?_
    exact B16 (0 : Int32) x1 _ _ _ h hP hD hS (lv_sub hl [0, 1] rfl)
  · have h := o_t hc h
    refine lv_iconst (v := 1) hx hb d_Md_targetOf_11 (by decide) ?_
    refine lv_goto (tgt := 16) hx hb d_Md_targetOf_12 (by decide) ?_
    exact B16 (1 : Int32) x1 _ _ _ h hP hD hS (lv_sub hl [0, 1] rfl)
set_option maxHeartbeats 4000000 in
set_option maxRecDepth 100000 in
theorem c_Md_isEnding (l : Launch) (dC : Nat → ClassId) (dI : Nat → Nat → Nat) (cI cJ cZ : ClassId) (a : Nat → Nat) (x1 : Int32) (mb : MbS) (mg : MgS) (mx : MxS) (mf : MfS) (res : Int32) (h : f_Md_isEnding x1 mb mg = some res) :
    Kt l (dC, dI) classes [(cI, .int), (cJ, .long), (cZ, .boolean)] y_Md_isEnding (wz y_Md_isEnding b_Md_isEnding 2 (some .boolean)) { frames := 0, cells := 0, slots := 0, locals := 0 } [.ref (a 0), .int x1] (cMd cI cJ cZ a mb mg mx mf) (some (.int res)) (cMd cI cJ cZ a mb mg mx mf) := by
  refine Kt_of (cc := b_Md_isEnding) (maxL := 2) (ret := (some .boolean)) (by decide) (Nat.le_of_ble_eq_true rfl) ?_
  intro p e s m args below meth c A ls hx hb hr hml hlocks hown hts hNw hK hP hD hA hS hl
  have hl : lv_has ls 2 [(0, .ref (a 0)), (1, .int x1)] := hl
  have hP : va_P (dC, dI) classes (cMd cI cJ cZ a mb mg mx mf) s.heap := hP
  refine lv_iload_n hx hb d_Md_isEnding_0 rfl (lv_at hl 1 rfl) ?_
  refine lv_aload_n hx hb d_Md_isEnding_1 rfl (lv_at hl 0 rfl) ?_
  refine va_get (D := (dC, dI)) (ci := 7) (v := .int (Mg_root mg)) (C := R_Md) (T := F_Md) (N := 35) hx hb hts inb_Md hown hK hP 0 rfl rfl 18 (by decide) (hts _ tw705) (fun _ h9 => h9) rfl d_Md_isEnding_2 ?_
  refine lv_icmp_eq (tgt := 52) hx hb d_Md_isEnding_5 (by decide) (fun hc => ?_) (fun hc => ?_)
  · have h := o_t hc h
    refine lv_iconst (v := 0) hx hb d_Md_isEnding_52 (by decide) ?_
    cases h
    exact kr_z hx hb hr (by decide) hlocks hP hD hS d_Md_isEnding_53
  · have h := o_f hc h
    refine lv_aload_n hx hb d_Md_isEnding_8 rfl (lv_at hl 0 rfl) ?_
    refine va_get (D := (dC, dI)) (ci := 7) (v := .ref (a 2)) (C := R_Md) (T := F_Md) (N := 35) hx hb hts inb_Md hown hK hP 0 rfl rfl 3 (by decide) (hts _ tw690) (fun _ h9 => h9) rfl d_Md_isEnding_9 ?_
    refine lv_aload_n hx hb d_Md_isEnding_12 rfl (lv_at hl 0 rfl) ?_
    refine va_get (D := (dC, dI)) (ci := 7) (v := .ref (a 4)) (C := R_Md) (T := F_Md) (N := 35) hx hb hts inb_Md hown hK hP 0 rfl rfl 5 (by decide) (hts _ tw692) (fun _ h9 => h9) rfl d_Md_isEnding_13 ?_
    refine lv_iload_n hx hb d_Md_isEnding_16 rfl (lv_at hl 1 rfl) ?_
    obtain ⟨hin, h⟩ := o_in h
    refine va_iald hx hb hK hP 4 0 rfl rfl hin d_Md_isEnding_17 ?_
    obtain ⟨hin, h⟩ := o_in h
    refine va_iald hx hb hK hP 2 0 rfl rfl hin d_Md_isEnding_18 ?_
    refine lv_bipush (v := 16) hx hb d_Md_isEnding_19 (by decide) ?_
    refine lv_icmp_ne (tgt := 52) hx hb d_Md_isEnding_21 (by decide) (fun hc => ?_) (fun hc => ?_)
    · have h := o_f hc h
      refine lv_iconst (v := 0) hx hb d_Md_isEnding_52 (by decide) ?_
      cases h
      exact kr_z hx hb hr (by decide) hlocks hP hD hS d_Md_isEnding_53
    · have h := o_t hc h
      refine lv_aload_n hx hb d_Md_isEnding_24 rfl (lv_at hl 0 rfl) ?_
      refine va_get (D := (dC, dI)) (ci := 7) (v := .ref (a 10)) (C := R_Md) (T := F_Md) (N := 35) hx hb hts inb_Md hown hK hP 0 rfl rfl 11 (by decide) (hts _ tw698) (fun _ h9 => h9) rfl d_Md_isEnding_25 ?_
      refine lv_aload_n hx hb d_Md_isEnding_28 rfl (lv_at hl 0 rfl) ?_
      refine va_get (D := (dC, dI)) (ci := 7) (v := .ref (a 4)) (C := R_Md) (T := F_Md) (N := 35) hx hb hts inb_Md hown hK hP 0 rfl rfl 5 (by decide) (hts _ tw692) (fun _ h9 => h9) rfl d_Md_isEnding_29 ?_
      refine lv_iload_n hx hb d_Md_isEnding_32 rfl (lv_at hl 1 rfl) ?_
      obtain ⟨hin, h⟩ := o_in h
      refine va_iald hx hb hK hP 4 0 rfl rfl hin d_Md_isEnding_33 ?_
      obtain ⟨hin, h⟩ := o_in h
      refine va_zald hx hb hK hP 10 2 rfl rfl hin d_Md_isEnding_34 ?_
      refine lv_if_eq (tgt := 52) hx hb d_Md_isEnding_35 (by decide) (fun hc => ?_) (fun hc => ?_)
      · have h := o_t hc h
        refine lv_iconst (v := 0) hx hb d_Md_isEnding_52 (by decide) ?_
        cases h
        exact kr_z hx hb hr (by decide) hlocks hP hD hS d_Md_isEnding_53
      · have h := o_f hc h
        refine lv_aload_n hx hb d_Md_isEnding_38 rfl (lv_at hl 0 rfl) ?_
        refine va_get (D := (dC, dI)) (ci := 7) (v := .ref (a 8)) (C := R_Md) (T := F_Md) (N := 35) hx hb hts inb_Md hown hK hP 0 rfl rfl 9 (by decide) (hts _ tw696) (fun _ h9 => h9) rfl d_Md_isEnding_39 ?_
        refine lv_iload_n hx hb d_Md_isEnding_42 rfl (lv_at hl 1 rfl) ?_
        obtain ⟨hin, h⟩ := o_in h
        refine va_iald hx hb hK hP 8 0 rfl rfl hin d_Md_isEnding_43 ?_
        refine lv_iconst (v := -1) hx hb d_Md_isEnding_44 (by decide) ?_
        refine lv_icmp_ne (tgt := 52) hx hb d_Md_isEnding_45 (by decide) (fun hc => ?_) (fun hc => ?_)
        · have h := o_f hc h
          refine lv_iconst (v := 0) hx hb d_Md_isEnding_52 (by decide) ?_
          cases h
          exact kr_z hx hb hr (by decide) hlocks hP hD hS d_Md_isEnding_53
        · have h := o_t hc h
          refine lv_iconst (v := 1) hx hb d_Md_isEnding_48 (by decide) ?_
          refine lv_goto (tgt := 53) hx hb d_Md_isEnding_49 (by decide) ?_
          cases h
          exact kr_z hx hb hr (by decide) hlocks hP hD hS d_Md_isEnding_53
set_option maxHeartbeats 4000000 in
set_option maxRecDepth 100000 in
theorem c_Md_isCatch (l : Launch) (dC : Nat → ClassId) (dI : Nat → Nat → Nat) (cI cJ cZ : ClassId) (a : Nat → Nat) (x1 : Int32) (mb : MbS) (mg : MgS) (mx : MxS) (mf : MfS) (res : Int32) (h : f_Md_isCatch x1 mb mg = some res) :
    Kt l (dC, dI) classes [(cI, .int), (cJ, .long), (cZ, .boolean)] y_Md_isCatch (wz y_Md_isCatch b_Md_isCatch 2 (some .boolean)) { frames := 1, cells := 0, slots := 0, locals := 21 } [.ref (a 0), .int x1] (cMd cI cJ cZ a mb mg mx mf) (some (.int res)) (cMd cI cJ cZ a mb mg mx mf) := by
  refine Kt_of (cc := b_Md_isCatch) (maxL := 2) (ret := (some .boolean)) (by decide) (Nat.le_of_ble_eq_true rfl) ?_
  intro p e s m args below meth c A ls hx hb hr hml hlocks hown hts hNw hK hP hD hA hS hl
  have hl : lv_has ls 2 [(0, .ref (a 0)), (1, .int x1)] := hl
  have hP : va_P (dC, dI) classes (cMd cI cJ cZ a mb mg mx mf) s.heap := hP
  refine lv_iload_n hx hb d_Md_isCatch_0 rfl (lv_at hl 1 rfl) ?_
  refine lv_aload_n hx hb d_Md_isCatch_1 rfl (lv_at hl 0 rfl) ?_
  refine va_get (D := (dC, dI)) (ci := 7) (v := .int (Mg_root mg)) (C := R_Md) (T := F_Md) (N := 35) hx hb hts inb_Md hown hK hP 0 rfl rfl 18 (by decide) (hts _ tw705) (fun _ h9 => h9) rfl d_Md_isCatch_2 ?_
  refine lv_icmp_eq (tgt := 46) hx hb d_Md_isCatch_5 (by decide) (fun hc => ?_) (fun hc => ?_)
  · have h := o_t hc h
    refine lv_iconst (v := 0) hx hb d_Md_isCatch_46 (by decide) ?_
    cases h
    exact kr_z hx hb hr (by decide) hlocks hP hD hS d_Md_isCatch_47
  · have h := o_f hc h
    refine lv_aload_n hx hb d_Md_isCatch_8 rfl (lv_at hl 0 rfl) ?_
    refine va_get (D := (dC, dI)) (ci := 7) (v := .ref (a 2)) (C := R_Md) (T := F_Md) (N := 35) hx hb hts inb_Md hown hK hP 0 rfl rfl 3 (by decide) (hts _ tw690) (fun _ h9 => h9) rfl d_Md_isCatch_9 ?_
    refine lv_aload_n hx hb d_Md_isCatch_12 rfl (lv_at hl 0 rfl) ?_
    refine va_get (D := (dC, dI)) (ci := 7) (v := .ref (a 4)) (C := R_Md) (T := F_Md) (N := 35) hx hb hts inb_Md hown hK hP 0 rfl rfl 5 (by decide) (hts _ tw692) (fun _ h9 => h9) rfl d_Md_isCatch_13 ?_
    refine lv_iload_n hx hb d_Md_isCatch_16 rfl (lv_at hl 1 rfl) ?_
    obtain ⟨hin, h⟩ := o_in h
    refine va_iald hx hb hK hP 4 0 rfl rfl hin d_Md_isCatch_17 ?_
    obtain ⟨hin, h⟩ := o_in h
    refine va_iald hx hb hK hP 2 0 rfl rfl hin d_Md_isCatch_18 ?_
    refine lv_bipush (v := 16) hx hb d_Md_isCatch_19 (by decide) ?_
    refine lv_icmp_ne (tgt := 46) hx hb d_Md_isCatch_21 (by decide) (fun hc => ?_) (fun hc => ?_)
    · have h := o_f hc h
      refine lv_iconst (v := 0) hx hb d_Md_isCatch_46 (by decide) ?_
      cases h
      exact kr_z hx hb hr (by decide) hlocks hP hD hS d_Md_isCatch_47
    · have h := o_t hc h
      refine lv_aload_n hx hb d_Md_isCatch_24 rfl (lv_at hl 0 rfl) ?_
      refine va_get (D := (dC, dI)) (ci := 7) (v := .ref (a 9)) (C := R_Md) (T := F_Md) (N := 35) hx hb hts inb_Md hown hK hP 0 rfl rfl 10 (by decide) (hts _ tw697) (fun _ h9 => h9) rfl d_Md_isCatch_25 ?_
      refine lv_iload_n hx hb d_Md_isCatch_28 rfl (lv_at hl 1 rfl) ?_
      obtain ⟨hin, h⟩ := o_in h
      refine va_iald hx hb hK hP 9 0 rfl rfl hin d_Md_isCatch_29 ?_
      refine lv_iconst (v := -1) hx hb d_Md_isCatch_30 (by decide) ?_
      refine lv_icmp_eq (tgt := 46) hx hb d_Md_isCatch_31 (by decide) (fun hc => ?_) (fun hc => ?_)
      · have h := o_t hc h
        refine lv_iconst (v := 0) hx hb d_Md_isCatch_46 (by decide) ?_
        cases h
        exact kr_z hx hb hr (by decide) hlocks hP hD hS d_Md_isCatch_47
      · have h := o_f hc h
        refine lv_aload_n hx hb d_Md_isCatch_34 rfl (lv_at hl 0 rfl) ?_
        refine lv_iload_n hx hb d_Md_isCatch_35 rfl (lv_at hl 1 rfl) ?_
        obtain ⟨y36, hy, h⟩ := o_bd h
        refine kdV (nn := 24) (rest := []) (w' := (cMd cI cJ cZ a mb mg mx mf)) (wr := ([] : va_W)) (st1 := [.int y36]) ⟨hx, hb, hml, hown, hts⟩ (c_Md_isEnding l dC dI cI cJ cZ a x1 mb mg mx mf y36 hy) (cwV 1 hts (gd_V tw917 tw919 ps35 tw9 tw920) rfl rfl rfl hd_Md_isEnding ⟨Nat.le_of_ble_eq_true rfl, Nat.le_of_ble_eq_true rfl⟩) hNw hK hP hD hS hA (ci := 7) rfl rfl rfl [0, 1, 2, 3, 4, 5, 6, 7, 8, 9, 10, 11, 12, 13, 14, 15, 16, 17, 18, 19, 20, 21, 22, 23] [] rfl rfl rfl rfl rfl (by decide +kernel) (by decide +kernel) rfl hl.1 rfl (Nat.le_of_ble_eq_true rfl) rfl d_Md_isCatch_36 ⟨Nat.zero_le _, Nat.zero_le _⟩ (fun H locs hP hD hS => ?_)
        refine lv_if_ne (tgt := 46) hx hb d_Md_isCatch_39 (by decide) (fun hc => ?_) (fun hc => ?_)
        · have h := o_f hc h
          refine lv_iconst (v := 0) hx hb d_Md_isCatch_46 (by decide) ?_
          cases h
          exact kr_z hx hb hr (by decide) hlocks hP hD hS d_Md_isCatch_47
        · have h := o_t hc h
          refine lv_iconst (v := 1) hx hb d_Md_isCatch_42 (by decide) ?_
          refine lv_goto (tgt := 47) hx hb d_Md_isCatch_43 (by decide) ?_
          cases h
          exact kr_z hx hb hr (by decide) hlocks hP hD hS d_Md_isCatch_47
set_option maxHeartbeats 4000000 in
set_option maxRecDepth 100000 in
theorem c_Md_exits (l : Launch) (dC : Nat → ClassId) (dI : Nat → Nat → Nat) (cI cJ cZ : ClassId) (a : Nat → Nat) (N : Nat) (x1 : Int32) (mb : MbS) (mg : MgS) (mx : MxS) (mf : MfS) (res : Int32) (h : f_Md_exits N x1 mb mg mx = some res) :
    Kt l (dC, dI) classes [(cI, .int), (cJ, .long), (cZ, .boolean)] y_Md_exits (wz y_Md_exits b_Md_exits 5 (some .boolean)) { frames := 1, cells := 0, slots := 0, locals := 21 } [.ref (a 0), .int x1] (cMd cI cJ cZ a mb mg mx mf) (some (.int res)) (cMd cI cJ cZ a mb mg mx mf) := by
  refine Kt_of (cc := b_Md_exits) (maxL := 5) (ret := (some .boolean)) (by decide) (Nat.le_of_ble_eq_true rfl) ?_
  intro p e s m args below meth c A ls hx hb hr hml hlocks hown hts hNw hK hP hD hA hS hl
  have hl : lv_has ls 5 [(0, .ref (a 0)), (1, .int x1)] := hl
  have hP : va_P (dC, dI) classes (cMd cI cJ cZ a mb mg mx mf) s.heap := hP
  have L27 : ∀ (x1_27 : Int32) (n27 : Nat) (s27 : Int32 × Int32) (H : Heap) (locs : List Loc) (ls : Array Slot), lp (f_Md_exits_L27 N x1_27 mb mg mx) n27 s27 = some res → va_P (dC, dI) classes (cMd cI cJ cZ a mb mg mx mf) H → va_D A (cMd cI cJ cZ a mb mg mx mf) → va_S A s.heap H locs → lv_has ls 5 [(0, .ref (a 0)), (1, .int x1_27), (2, .int s27.1), (3, .int s27.2)] → W p l e { frames := 1, cells := 0, slots := 0, locals := 21 } s m args below meth c H locs 0 0 (KZ below args s (dC, dI) classes (some (.int res)) (cMd cI cJ cZ a mb mg mx mf) A) (F0 m 27 ls []) := by
    intro x1_27 n27
    induction n27 with
    | zero => intro _ _ _ _ h; exact (lp_0 h).elim
    | succ n27 ih27 =>
      intro s27 H locs ls h hP hD hS hl
      have h := lp_s h
      have B102 : ∀ (x2_102 : Int32) (x3_102 : Int32) (H : Heap) (locs : List Loc) (ls : Array Slot), f_Md_exits_b102 N (lp (f_Md_exits_L27 N x1_27 mb mg mx) n27) x1_27 x2_102 x3_102 mb mg mx = some res → va_P (dC, dI) classes (cMd cI cJ cZ a mb mg mx mf) H → va_D A (cMd cI cJ cZ a mb mg mx mf) → va_S A s.heap H locs → lv_has ls 5 [(0, .ref (a 0)), (1, .int x1_27), (2, .int x2_102), (3, .int x3_102)] → W p l e { frames := 1, cells := 0, slots := 0, locals := 21 } s m args below meth c H locs 0 0 (KZ below args s (dC, dI) classes (some (.int res)) (cMd cI cJ cZ a mb mg mx mf) A) (F0 m 102 ls []) := by
        intro x2_102 x3_102 H locs ls h hP hD hS hl
        refine lv_aload_n hx hb d_Md_exits_102 rfl (lv_at hl 0 rfl) ?_
        refine lv_iload_n hx hb d_Md_exits_103 rfl (lv_at hl 3 rfl) ?_
        obtain ⟨y104, hy, h⟩ := o_bd h
        refine kdV (nn := 24) (rest := []) (w' := (cMd cI cJ cZ a mb mg mx mf)) (wr := ([] : va_W)) (st1 := [.int y104]) ⟨hx, hb, hml, hown, hts⟩ (c_Md_up l dC dI cI cJ cZ a x3_102 mb mg mx mf y104 hy) (cwV 1 hts (gd_V tw893 tw895 ps29 tw9 tw896) rfl rfl rfl hd_Md_up ⟨Nat.le_of_ble_eq_true rfl, Nat.le_of_ble_eq_true rfl⟩) hNw hK hP hD hS hA (ci := 7) rfl rfl rfl [0, 1, 2, 3, 4, 5, 6, 7, 8, 9, 10, 11, 12, 13, 14, 15, 16, 17, 18, 19, 20, 21, 22, 23] [] rfl rfl rfl rfl rfl (by decide +kernel) (by decide +kernel) rfl hl.1 rfl (Nat.le_of_ble_eq_true rfl) rfl d_Md_exits_104 ⟨Nat.zero_le _, Nat.zero_le _⟩ (fun H locs hP hD hS => ?_)
        refine lv_istore_n (lv' := [(3, .int y104), (0, .ref (a 0)), (1, .int x1_27), (2, .int x2_102)]) hx hb d_Md_exits_107 rfl hl (by decide) rfl (fun ls hl => ?_)
        refine lv_goto (tgt := 27) hx hb d_Md_exits_108 (by decide) ?_
        exact ih27 (x2_102, y104) _ _ _ h hP hD hS (lv_sub hl [1, 2, 3, 0] rfl)
      refine lv_iload_n hx hb d_Md_exits_27 rfl (lv_at hl 2 rfl) ?_
      refine lv_if_eq (tgt := 111) hx hb d_Md_exits_28 (by decide) (fun hc => ?_) (fun hc => ?_)
      · have h := o_t hc h
        refine lv_iload_n hx hb d_Md_exits_111 rfl (lv_at hl 2 rfl) ?_
        obtain ⟨hbo, h⟩ := o_bo h
        cases h
        exact kr_z hx hb hr hbo hlocks hP hD hS d_Md_exits_112
      · have h := o_f hc h
        refine lv_iload_n hx hb d_Md_exits_31 rfl (lv_at hl 3 rfl) ?_
        refine lv_aload_n hx hb d_Md_exits_32 rfl (lv_at hl 0 rfl) ?_
        refine va_get (D := (dC, dI)) (ci := 7) (v := .ref (a 15)) (C := R_Md) (T := F_Md) (N := 35) hx hb hts inb_Md hown hK hP 0 rfl rfl 23 (by decide) (hts _ tw710) (fun _ h9 => h9) rfl d_Md_exits_33 ?_
        refine lv_iload_n hx hb d_Md_exits_36 rfl (lv_at hl 1 rfl) ?_
        obtain ⟨hin, h⟩ := o_in h
        refine va_iald hx hb hK hP 15 0 rfl rfl hin d_Md_exits_37 ?_
        refine lv_icmp_eq (tgt := 111) hx hb d_Md_exits_38 (by decide) (fun hc => ?_) (fun hc => ?_)
        · have h := o_t hc h
          refine lv_iload_n hx hb d_Md_exits_111 rfl (lv_at hl 2 rfl) ?_
          obtain ⟨hbo, h⟩ := o_bo h
          cases h
          exact kr_z hx hb hr hbo hlocks hP hD hS d_Md_exits_112
        · have h := o_f hc h
          refine lv_aload_n hx hb d_Md_exits_41 rfl (lv_at hl 0 rfl) ?_
          refine lv_iload_n hx hb d_Md_exits_42 rfl (lv_at hl 3 rfl) ?_
          obtain ⟨y43, hy, h⟩ := o_bd h
          refine kdV (nn := 24) (rest := []) (w' := (cMd cI cJ cZ a mb mg mx mf)) (wr := ([] : va_W)) (st1 := [.int y43]) ⟨hx, hb, hml, hown, hts⟩ (c_Md_up l dC dI cI cJ cZ a s27.2 mb mg mx mf y43 hy) (cwV 1 hts (gd_V tw893 tw895 ps29 tw9 tw896) rfl rfl rfl hd_Md_up ⟨Nat.le_of_ble_eq_true rfl, Nat.le_of_ble_eq_true rfl⟩) hNw hK hP hD hS hA (ci := 7) rfl rfl rfl [0, 1, 2, 3, 4, 5, 6, 7, 8, 9, 10, 11, 12, 13, 14, 15, 16, 17, 18, 19, 20, 21, 22, 23] [] rfl rfl rfl rfl rfl (by decide +kernel) (by decide +kernel) rfl hl.1 rfl (Nat.le_of_ble_eq_true rfl) rfl d_Md_exits_43 ⟨Nat.zero_le _, Nat.zero_le _⟩ (fun H locs hP hD hS => ?_)
          refine lv_istore (lv' := [(4, .int y43), (0, .ref (a 0)), (1, .int x1_27), (2, .int s27.1), (3, .int s27.2)]) hx hb d_Md_exits_46 hl (by decide) rfl (fun ls hl => ?_)
          refine lv_iload hx hb d_Md_exits_48 (lv_at hl 0 rfl) ?_
          refine lv_aload_n hx hb d_Md_exits_50 rfl (lv_at hl 1 rfl) ?_
          refine va_get (D := (dC, dI)) (ci := 7) (v := .ref (a 15)) (C := R_Md) (T := F_Md) (N := 35) hx hb hts inb_Md hown hK hP 0 rfl rfl 23 (by decide) (hts _ tw710) (fun _ h9 => h9) rfl d_Md_exits_51 ?_
          refine lv_iload_n hx hb d_Md_exits_54 rfl (lv_at hl 2 rfl) ?_
          obtain ⟨hin, h⟩ := o_in h
          refine va_iald hx hb hK hP 15 0 rfl rfl hin d_Md_exits_55 ?_
          refine lv_icmp_eq (tgt := 102) hx hb d_Md_exits_56 (by decide) (fun hc => ?_) (fun hc => ?_)
          · have h := o_t hc h
            exact B102 s27.1 s27.2 _ _ _ h hP hD hS (lv_sub hl [1, 2, 3, 4] rfl)
          · have h := o_f hc h
            refine lv_aload_n hx hb d_Md_exits_59 rfl (lv_at hl 1 rfl) ?_
            refine va_get (D := (dC, dI)) (ci := 7) (v := .ref (a 2)) (C := R_Md) (T := F_Md) (N := 35) hx hb hts inb_Md hown hK hP 0 rfl rfl 3 (by decide) (hts _ tw690) (fun _ h9 => h9) rfl d_Md_exits_60 ?_
            refine lv_iload hx hb d_Md_exits_63 (lv_at hl 0 rfl) ?_
            obtain ⟨hin, h⟩ := o_in h
            refine va_iald hx hb hK hP 2 0 rfl rfl hin d_Md_exits_65 ?_
            refine lv_bipush (v := 16) hx hb d_Md_exits_66 (by decide) ?_
            refine lv_icmp_ne (tgt := 102) hx hb d_Md_exits_68 (by decide) (fun hc => ?_) (fun hc => ?_)
            · have h := o_f hc h
              exact B102 s27.1 s27.2 _ _ _ h hP hD hS (lv_sub hl [1, 2, 3, 4] rfl)
            · have h := o_t hc h
              refine lv_aload_n hx hb d_Md_exits_71 rfl (lv_at hl 1 rfl) ?_
              refine va_get (D := (dC, dI)) (ci := 7) (v := .ref (a 10)) (C := R_Md) (T := F_Md) (N := 35) hx hb hts inb_Md hown hK hP 0 rfl rfl 11 (by decide) (hts _ tw698) (fun _ h9 => h9) rfl d_Md_exits_72 ?_
              refine lv_iload hx hb d_Md_exits_75 (lv_at hl 0 rfl) ?_
              obtain ⟨hin, h⟩ := o_in h
              refine va_zald hx hb hK hP 10 2 rfl rfl hin d_Md_exits_77 ?_
              refine lv_if_eq (tgt := 102) hx hb d_Md_exits_78 (by decide) (fun hc => ?_) (fun hc => ?_)
              · have h := o_t hc h
                exact B102 s27.1 s27.2 _ _ _ h hP hD hS (lv_sub hl [1, 2, 3, 4] rfl)
              · have h := o_f hc h
                refine lv_aload_n hx hb d_Md_exits_81 rfl (lv_at hl 1 rfl) ?_
                refine lv_iload_n hx hb d_Md_exits_82 rfl (lv_at hl 4 rfl) ?_
                obtain ⟨y83, hy, h⟩ := o_bd h
                refine kdV (nn := 24) (rest := []) (w' := (cMd cI cJ cZ a mb mg mx mf)) (wr := ([] : va_W)) (st1 := [.int y83]) ⟨hx, hb, hml, hown, hts⟩ (c_Md_isEnding l dC dI cI cJ cZ a s27.2 mb mg mx mf y83 hy) (cwV 1 hts (gd_V tw917 tw919 ps35 tw9 tw920) rfl rfl rfl hd_Md_isEnding ⟨Nat.le_of_ble_eq_true rfl, Nat.le_of_ble_eq_true rfl⟩) hNw hK hP hD hS hA (ci := 7) rfl rfl rfl [0, 1, 2, 3, 4, 5, 6, 7, 8, 9, 10, 11, 12, 13, 14, 15, 16, 17, 18, 19, 20, 21, 22, 23] [] rfl rfl rfl rfl rfl (by decide +kernel) (by decide +kernel) rfl hl.1 rfl (Nat.le_of_ble_eq_true rfl) rfl d_Md_exits_83 ⟨Nat.zero_le _, Nat.zero_le _⟩ (fun H locs hP hD hS => ?_)
                refine lv_if_ne (tgt := 102) hx hb d_Md_exits_86 (by decide) (fun hc => ?_) (fun hc => ?_)
                · have h := o_f hc h
                  exact B102 s27.1 s27.2 _ _ _ h hP hD hS (lv_sub hl [1, 2, 3, 4] rfl)
                · have h := o_t hc h
                  refine lv_aload_n hx hb d_Md_exits_89 rfl (lv_at hl 1 rfl) ?_
                  refine va_get (D := (dC, dI)) (ci := 7) (v := .ref (a 17)) (C := R_Md) (T := F_Md) (N := 35) hx hb hts inb_Md hown hK hP 0 rfl rfl 25 (by decide) (hts _ tw712) (fun _ h9 => h9) rfl d_Md_exits_90 ?_
                  refine lv_aload_n hx hb d_Md_exits_93 rfl (lv_at hl 1 rfl) ?_
                  refine va_get (D := (dC, dI)) (ci := 7) (v := .ref (a 7)) (C := R_Md) (T := F_Md) (N := 35) hx hb hts inb_Md hown hK hP 0 rfl rfl 8 (by decide) (hts _ tw695) (fun _ h9 => h9) rfl d_Md_exits_94 ?_
                  refine lv_iload hx hb d_Md_exits_97 (lv_at hl 0 rfl) ?_
                  obtain ⟨hin, h⟩ := o_in h
                  refine va_iald hx hb hK hP 7 0 rfl rfl hin d_Md_exits_99 ?_
                  obtain ⟨hin, h⟩ := o_in h
                  refine va_zald hx hb hK hP 17 2 rfl rfl hin d_Md_exits_100 ?_
                  refine lv_istore_n (lv' := [(2, .int ((Mx_isComplete mx) ((Mb_last mb) y43.toNatClampNeg).toNatClampNeg)), (4, .int y43), (0, .ref (a 0)), (1, .int x1_27), (3, .int s27.2)]) hx hb d_Md_exits_101 rfl hl (by decide) rfl (fun ls hl => ?_)
                  exact B102 ((Mx_isComplete mx) ((Mb_last mb) y43.toNatClampNeg).toNatClampNeg) s27.2 _ _ _ h hP hD hS (lv_sub hl [2, 3, 0, 4] rfl)
  have B24 : ∀ (z0_24 : Int32) (x1_24 : Int32) (H : Heap) (locs : List Loc) (ls : Array Slot), f_Md_exits_b24 N z0_24 x1_24 mb mg mx = some res → va_P (dC, dI) classes (cMd cI cJ cZ a mb mg mx mf) H → va_D A (cMd cI cJ cZ a mb mg mx mf) → va_S A s.heap H locs → lv_has ls 5 [(0, .ref (a 0)), (1, .int x1_24)] → W p l e { frames := 1, cells := 0, slots := 0, locals := 21 } s m args below meth c H locs 0 0 (KZ below args s (dC, dI) classes (some (.int res)) (cMd cI cJ cZ a mb mg mx mf) A) (F0 m 24 ls [.int z0_24]) := by
    intro z0_24 x1_24 H locs ls h hP hD hS hl
    refine lv_istore_n (lv' := [(2, .int z0_24), (0, .ref (a 0)), (1, .int x1_24)]) hx hb d_Md_exits_24 rfl hl (by decide) rfl (fun ls hl => ?_)
    refine lv_iload_n hx hb d_Md_exits_25 rfl (lv_at hl 2 rfl) ?_
    refine lv_istore_n (lv' := [(3, .int x1_24), (2, .int z0_24), (0, .ref (a 0)), (1, .int x1_24)]) hx hb d_Md_exits_26 rfl hl (by decide) rfl (fun ls hl => ?_)
    exact L27 x1_24 N (z0_24, x1_24) _ _ _ h hP hD hS (lv_sub hl [2, 3, 1, 0] rfl)
  have B23 : ∀ (x1_23 : Int32) (H : Heap) (locs : List Loc) (ls : Array Slot), f_Md_exits_b23 N x1_23 mb mg mx = some res → va_P (dC, dI) classes (cMd cI cJ cZ a mb mg mx mf) H → va_D A (cMd cI cJ cZ a mb mg mx mf) → va_S A s.heap H locs → lv_has ls 5 [(0, .ref (a 0)), (1, .int x1_23)] → W p l e { frames := 1, cells := 0, slots := 0, locals := 21 } s m args below meth c H locs 0 0 (KZ below args s (dC, dI) classes (some (.int res)) (cMd cI cJ cZ a mb mg mx mf) A) (F0 m 23 ls []) := by
    intro x1_23 H locs ls h hP hD hS hl
    refine lv_iconst (v := 0) hx hb d_Md_exits_23 (by decide) ?_
    exact B24 (0 : Int32) x1_23 _ _ _ h hP hD hS (lv_sub hl [0, 1] rfl)
  refine lv_aload_n hx hb d_Md_exits_0 rfl (lv_at hl 0 rfl) ?_
  refine va_get (D := (dC, dI)) (ci := 7) (v := .ref (a 16)) (C := R_Md) (T := F_Md) (N := 35) hx hb hts inb_Md hown hK hP 0 rfl rfl 24 (by decide) (hts _ tw711) (fun _ h9 => h9) rfl d_Md_exits_1 ?_
  refine lv_iload_n hx hb d_Md_exits_4 rfl (lv_at hl 1 rfl) ?_
  obtain ⟨hin, h⟩ := o_in h
  refine va_zald hx hb hK hP 16 2 rfl rfl hin d_Md_exits_5 ?_
  refine lv_if_eq (tgt := 23) hx hb d_Md_exits_6 (by decide) (fun hc => ?_) (fun hc => ?_)
  · have h := o_t hc h
    exact B23 x1 _ _ _ h hP hD hS (lv_sub hl [0, 1] rfl)
  · have h := o_f hc h
    refine lv_aload_n hx hb d_Md_exits_9 rfl (lv_at hl 0 rfl) ?_
    refine va_get (D := (dC, dI)) (ci := 7) (v := .ref (a 15)) (C := R_Md) (T := F_Md) (N := 35) hx hb hts inb_Md hown hK hP 0 rfl rfl 23 (by decide) (hts _ tw710) (fun _ h9 => h9) rfl d_Md_exits_10 ?_
    refine lv_iload_n hx hb d_Md_exits_13 rfl (lv_at hl 1 rfl) ?_
    obtain ⟨hin, h⟩ := o_in h
    refine va_iald hx hb hK hP 15 0 rfl rfl hin d_Md_exits_14 ?_
    refine lv_iconst (v := -1) hx hb d_Md_exits_15 (by decide) ?_
    refine lv_icmp_eq (tgt := 23) hx hb d_Md_exits_16 (by decide) (fun hc => ?_) (fun hc => ?_)
    · have h := o_t hc h
      exact B23 x1 _ _ _ h hP hD hS (lv_sub hl [0, 1] rfl)
    · have h := o_f hc h
      refine lv_iconst (v := 1) hx hb d_Md_exits_19 (by decide) ?_
      refine lv_goto (tgt := 24) hx hb d_Md_exits_20 (by decide) ?_
      exact B24 (1 : Int32) x1 _ _ _ h hP hD hS (lv_sub hl [0, 1] rfl)
set_option maxHeartbeats 4000000 in
set_option maxRecDepth 100000 in
theorem c_Md_isExit (l : Launch) (dC : Nat → ClassId) (dI : Nat → Nat → Nat) (cI cJ cZ : ClassId) (a : Nat → Nat) (N : Nat) (x1 : Int32) (x2 : Int32) (mb : MbS) (mg : MgS) (mx : MxS) (mf : MfS) (res : Int32) (h : f_Md_isExit N x1 x2 mb mg mx = some res) :
    Kt l (dC, dI) classes [(cI, .int), (cJ, .long), (cZ, .boolean)] y_Md_isExit (wz y_Md_isExit b_Md_isExit 6 (some .boolean)) { frames := 2, cells := 0, slots := 0, locals := 45 } [.ref (a 0), .int x1, .int x2] (cMd cI cJ cZ a mb mg mx mf) (some (.int res)) (cMd cI cJ cZ a mb mg mx mf) := by
  refine Kt_of (cc := b_Md_isExit) (maxL := 6) (ret := (some .boolean)) (by decide) (Nat.le_of_ble_eq_true rfl) ?_
  intro p e s m args below meth c A ls hx hb hr hml hlocks hown hts hNw hK hP hD hA hS hl
  have hl : lv_has ls 6 [(0, .ref (a 0)), (1, .int x1), (2, .int x2)] := hl
  have hP : va_P (dC, dI) classes (cMd cI cJ cZ a mb mg mx mf) s.heap := hP
  have L5 : ∀ (x1_5 : Int32) (x2_5 : Int32) (n5 : Nat) (s5 : Int32 × Int32) (H : Heap) (locs : List Loc) (ls : Array Slot), lp (f_Md_isExit_L5 N x1_5 x2_5 mb mg mx) n5 s5 = some res → va_P (dC, dI) classes (cMd cI cJ cZ a mb mg mx mf) H → va_D A (cMd cI cJ cZ a mb mg mx mf) → va_S A s.heap H locs → lv_has ls 6 [(0, .ref (a 0)), (1, .int x1_5), (2, .int x2_5), (3, .int s5.1), (4, .int s5.2)] → W p l e { frames := 2, cells := 0, slots := 0, locals := 45 } s m args below meth c H locs 0 0 (KZ below args s (dC, dI) classes (some (.int res)) (cMd cI cJ cZ a mb mg mx mf) A) (F0 m 5 ls []) := by
    intro x1_5 x2_5 n5
    induction n5 with
    | zero => intro _ _ _ _ h; exact (lp_0 h).elim
    | succ n5 ih5 =>
      intro s5 H locs ls h hP hD hS hl
      have h := lp_s h
      have B63 : ∀ (z0_63 : Int32) (x4_63 : Int32) (H : Heap) (locs : List Loc) (ls : Array Slot), f_Md_isExit_b63 N (lp (f_Md_isExit_L5 N x1_5 x2_5 mb mg mx) n5) z0_63 x1_5 x2_5 x4_63 mb mg mx = some res → va_P (dC, dI) classes (cMd cI cJ cZ a mb mg mx mf) H → va_D A (cMd cI cJ cZ a mb mg mx mf) → va_S A s.heap H locs → lv_has ls 6 [(0, .ref (a 0)), (1, .int x1_5), (2, .int x2_5), (4, .int x4_63)] → W p l e { frames := 2, cells := 0, slots := 0, locals := 45 } s m args below meth c H locs 0 0 (KZ below args s (dC, dI) classes (some (.int res)) (cMd cI cJ cZ a mb mg mx mf) A) (F0 m 63 ls [.int z0_63]) := by
        intro z0_63 x4_63 H locs ls h hP hD hS hl
        refine lv_istore_n (lv' := [(3, .int z0_63), (0, .ref (a 0)), (1, .int x1_5), (2, .int x2_5), (4, .int x4_63)]) hx hb d_Md_isExit_63 rfl hl (by decide) rfl (fun ls hl => ?_)
        refine lv_iinc (v := (x4_63 + 1)) (lv' := [(4, .int (x4_63 + 1)), (3, .int z0_63), (0, .ref (a 0)), (1, .int x1_5), (2, .int x2_5)]) hx hb d_Md_isExit_64 hl (k := 4) rfl rfl (by decide) rfl (fun ls hl => ?_)
        refine lv_goto (tgt := 5) hx hb d_Md_isExit_67 (by decide) ?_
        exact ih5 (z0_63, (x4_63 + 1)) _ _ _ h hP hD hS (lv_sub hl [2, 3, 4, 1, 0] rfl)
      have B62 : ∀ (x4_62 : Int32) (H : Heap) (locs : List Loc) (ls : Array Slot), f_Md_isExit_b62 N (lp (f_Md_isExit_L5 N x1_5 x2_5 mb mg mx) n5) x1_5 x2_5 x4_62 mb mg mx = some res → va_P (dC, dI) classes (cMd cI cJ cZ a mb mg mx mf) H → va_D A (cMd cI cJ cZ a mb mg mx mf) → va_S A s.heap H locs → lv_has ls 6 [(0, .ref (a 0)), (1, .int x1_5), (2, .int x2_5), (4, .int x4_62)] → W p l e { frames := 2, cells := 0, slots := 0, locals := 45 } s m args below meth c H locs 0 0 (KZ below args s (dC, dI) classes (some (.int res)) (cMd cI cJ cZ a mb mg mx mf) A) (F0 m 62 ls []) := by
        intro x4_62 H locs ls h hP hD hS hl
        refine lv_iconst (v := 0) hx hb d_Md_isExit_62 (by decide) ?_
        exact B63 (0 : Int32) x4_62 _ _ _ h hP hD hS (lv_sub hl [0, 1, 2, 3] rfl)
      refine lv_iload hx hb d_Md_isExit_5 (lv_at hl 4 rfl) ?_
      refine lv_aload_n hx hb d_Md_isExit_7 rfl (lv_at hl 0 rfl) ?_
      refine va_get (D := (dC, dI)) (ci := 7) (v := .int (Mg_rooted mg)) (C := R_Md) (T := F_Md) (N := 35) hx hb hts inb_Md hown hK hP 0 rfl rfl 19 (by decide) (hts _ tw706) (fun _ h9 => h9) rfl d_Md_isExit_8 ?_
      refine lv_icmp_ge (tgt := 70) hx hb d_Md_isExit_11 (by decide) (fun hc => ?_) (fun hc => ?_)
      · have h := o_t hc h
        refine lv_iload_n hx hb d_Md_isExit_70 rfl (lv_at hl 3 rfl) ?_
        obtain ⟨hbo, h⟩ := o_bo h
        cases h
        exact kr_z hx hb hr hbo hlocks hP hD hS d_Md_isExit_71
      · have h := o_f hc h
        refine lv_iload_n hx hb d_Md_isExit_14 rfl (lv_at hl 3 rfl) ?_
        refine lv_if_ne (tgt := 70) hx hb d_Md_isExit_15 (by decide) (fun hc => ?_) (fun hc => ?_)
        · have h := o_f hc h
          refine lv_iload_n hx hb d_Md_isExit_70 rfl (lv_at hl 3 rfl) ?_
          obtain ⟨hbo, h⟩ := o_bo h
          cases h
          exact kr_z hx hb hr hbo hlocks hP hD hS d_Md_isExit_71
        · have h := o_t hc h
          refine lv_aload_n hx hb d_Md_isExit_18 rfl (lv_at hl 0 rfl) ?_
          refine va_get (D := (dC, dI)) (ci := 7) (v := .ref (a 13)) (C := R_Md) (T := F_Md) (N := 35) hx hb hts inb_Md hown hK hP 0 rfl rfl 21 (by decide) (hts _ tw708) (fun _ h9 => h9) rfl d_Md_isExit_19 ?_
          refine lv_iload hx hb d_Md_isExit_22 (lv_at hl 4 rfl) ?_
          obtain ⟨hin, h⟩ := o_in h
          refine va_iald hx hb hK hP 13 0 rfl rfl hin d_Md_isExit_24 ?_
          refine lv_istore (lv' := [(5, .int ((Mg_order mg) s5.2.toNatClampNeg)), (0, .ref (a 0)), (1, .int x1_5), (2, .int x2_5), (3, .int s5.1), (4, .int s5.2)]) hx hb d_Md_isExit_25 hl (by decide) rfl (fun ls hl => ?_)
          refine lv_aload_n hx hb d_Md_isExit_27 rfl (lv_at hl 1 rfl) ?_
          refine va_get (D := (dC, dI)) (ci := 7) (v := .ref (a 2)) (C := R_Md) (T := F_Md) (N := 35) hx hb hts inb_Md hown hK hP 0 rfl rfl 3 (by decide) (hts _ tw690) (fun _ h9 => h9) rfl d_Md_isExit_28 ?_
          refine lv_iload hx hb d_Md_isExit_31 (lv_at hl 0 rfl) ?_
          obtain ⟨hin, h⟩ := o_in h
          refine va_iald hx hb hK hP 2 0 rfl rfl hin d_Md_isExit_33 ?_
          refine lv_iload_n hx hb d_Md_isExit_34 rfl (lv_at hl 3 rfl) ?_
          refine lv_icmp_ne (tgt := 62) hx hb d_Md_isExit_35 (by decide) (fun hc => ?_) (fun hc => ?_)
          · have h := o_f hc h
            exact B62 s5.2 _ _ _ h hP hD hS (lv_sub hl [1, 2, 3, 5] rfl)
          · have h := o_t hc h
            refine lv_aload_n hx hb d_Md_isExit_38 rfl (lv_at hl 1 rfl) ?_
            refine va_get (D := (dC, dI)) (ci := 7) (v := .ref (a 15)) (C := R_Md) (T := F_Md) (N := 35) hx hb hts inb_Md hown hK hP 0 rfl rfl 23 (by decide) (hts _ tw710) (fun _ h9 => h9) rfl d_Md_isExit_39 ?_
            refine lv_iload hx hb d_Md_isExit_42 (lv_at hl 0 rfl) ?_
            obtain ⟨hin, h⟩ := o_in h
            refine va_iald hx hb hK hP 15 0 rfl rfl hin d_Md_isExit_44 ?_
            refine lv_iload_n hx hb d_Md_isExit_45 rfl (lv_at hl 2 rfl) ?_
            refine lv_icmp_ne (tgt := 62) hx hb d_Md_isExit_46 (by decide) (fun hc => ?_) (fun hc => ?_)
            · have h := o_f hc h
              exact B62 s5.2 _ _ _ h hP hD hS (lv_sub hl [1, 2, 3, 5] rfl)
            · have h := o_t hc h
              refine lv_aload_n hx hb d_Md_isExit_49 rfl (lv_at hl 1 rfl) ?_
              refine lv_iload hx hb d_Md_isExit_50 (lv_at hl 0 rfl) ?_
              obtain ⟨y52, hy, h⟩ := o_bd h
              refine kdV (nn := 24) (rest := []) (w' := (cMd cI cJ cZ a mb mg mx mf)) (wr := ([] : va_W)) (st1 := [.int y52]) ⟨hx, hb, hml, hown, hts⟩ (c_Md_exits l dC dI cI cJ cZ a N ((Mg_order mg) s5.2.toNatClampNeg) mb mg mx mf y52 hy) (cwV 1 hts (gd_V tw941 tw943 ps41 tw9 tw944) rfl rfl rfl hd_Md_exits ⟨Nat.le_of_ble_eq_true rfl, Nat.le_of_ble_eq_true rfl⟩) hNw hK hP hD hS hA (ci := 7) rfl rfl rfl [0, 1, 2, 3, 4, 5, 6, 7, 8, 9, 10, 11, 12, 13, 14, 15, 16, 17, 18, 19, 20, 21, 22, 23] [] rfl rfl rfl rfl rfl (by decide +kernel) (by decide +kernel) rfl hl.1 rfl (Nat.le_of_ble_eq_true rfl) rfl d_Md_isExit_52 ⟨Nat.zero_le _, Nat.zero_le _⟩ (fun H locs hP hD hS => ?_)
              refine lv_if_eq (tgt := 62) hx hb d_Md_isExit_55 (by decide) (fun hc => ?_) (fun hc => ?_)
              · have h := o_t hc h
                exact B62 s5.2 _ _ _ h hP hD hS (lv_sub hl [1, 2, 3, 5] rfl)
              · have h := o_f hc h
                refine lv_iconst (v := 1) hx hb d_Md_isExit_58 (by decide) ?_
                refine lv_goto (tgt := 63) hx hb d_Md_isExit_59 (by decide) ?_
                exact B63 (1 : Int32) s5.2 _ _ _ h hP hD hS (lv_sub hl [1, 2, 3, 5] rfl)
  refine lv_iconst (v := 0) hx hb d_Md_isExit_0 (by decide) ?_
  refine lv_istore_n (lv' := [(3, .int (0 : Int32)), (0, .ref (a 0)), (1, .int x1), (2, .int x2)]) hx hb d_Md_isExit_1 rfl hl (by decide) rfl (fun ls hl => ?_)
  refine lv_iconst (v := 0) hx hb d_Md_isExit_2 (by decide) ?_
  refine lv_istore (lv' := [(4, .int (0 : Int32)), (3, .int (0 : Int32)), (0, .ref (a 0)), (1, .int x1), (2, .int x2)]) hx hb d_Md_isExit_3 hl (by decide) rfl (fun ls hl => ?_)
  exact L5 x1 x2 N ((0 : Int32), (0 : Int32)) _ _ _ h hP hD hS (lv_sub hl [2, 3, 4, 1, 0] rfl)
set_option maxHeartbeats 4000000 in
set_option maxRecDepth 100000 in
theorem c_Md_catches (l : Launch) (dC : Nat → ClassId) (dI : Nat → Nat → Nat) (cI cJ cZ : ClassId) (a : Nat → Nat) (N : Nat) (x1 : Int32) (x2 : Int32) (mb : MbS) (mg : MgS) (mx : MxS) (mf : MfS) (res : Int32) (h : f_Md_catches N x1 x2 mb mg mx = some res) :
    Kt l (dC, dI) classes [(cI, .int), (cJ, .long), (cZ, .boolean)] y_Md_catches (wz y_Md_catches b_Md_catches 6 (some .boolean)) { frames := 1, cells := 0, slots := 0, locals := 23 } [.ref (a 0), .int x1, .int x2] (cMd cI cJ cZ a mb mg mx mf) (some (.int res)) (cMd cI cJ cZ a mb mg mx mf) := by
  refine Kt_of (cc := b_Md_catches) (maxL := 6) (ret := (some .boolean)) (by decide) (Nat.le_of_ble_eq_true rfl) ?_
  intro p e s m args below meth c A ls hx hb hr hml hlocks hown hts hNw hK hP hD hA hS hl
  have hl : lv_has ls 6 [(0, .ref (a 0)), (1, .int x1), (2, .int x2)] := hl
  have hP : va_P (dC, dI) classes (cMd cI cJ cZ a mb mg mx mf) s.heap := hP
  have L88 : ∀ (x1_88 : Int32) (x3_88 : Int32) (n88 : Nat) (s88 : Int32 × Int32) (H : Heap) (locs : List Loc) (ls : Array Slot), lp (f_Md_catches_L88 N x1_88 x3_88 mb mg mx) n88 s88 = some res → va_P (dC, dI) classes (cMd cI cJ cZ a mb mg mx mf) H → va_D A (cMd cI cJ cZ a mb mg mx mf) → va_S A s.heap H locs → lv_has ls 6 [(0, .ref (a 0)), (1, .int x1_88), (3, .int x3_88), (4, .int s88.1), (5, .int s88.2)] → W p l e { frames := 1, cells := 0, slots := 0, locals := 23 } s m args below meth c H locs 0 0 (KZ below args s (dC, dI) classes (some (.int res)) (cMd cI cJ cZ a mb mg mx mf) A) (F0 m 88 ls []) := by
    intro x1_88 x3_88 n88
    induction n88 with
    | zero => intro _ _ _ _ h; exact (lp_0 h).elim
    | succ n88 ih88 =>
      intro s88 H locs ls h hP hD hS hl
      have h := lp_s h
      have B147 : ∀ (z0_147 : Int32) (x5_147 : Int32) (H : Heap) (locs : List Loc) (ls : Array Slot), f_Md_catches_b147 N (lp (f_Md_catches_L88 N x1_88 x3_88 mb mg mx) n88) z0_147 x1_88 x3_88 x5_147 mb mg mx = some res → va_P (dC, dI) classes (cMd cI cJ cZ a mb mg mx mf) H → va_D A (cMd cI cJ cZ a mb mg mx mf) → va_S A s.heap H locs → lv_has ls 6 [(0, .ref (a 0)), (1, .int x1_88), (3, .int x3_88), (5, .int x5_147)] → W p l e { frames := 1, cells := 0, slots := 0, locals := 23 } s m args below meth c H locs 0 0 (KZ below args s (dC, dI) classes (some (.int res)) (cMd cI cJ cZ a mb mg mx mf) A) (F0 m 147 ls [.int z0_147]) := by
        intro z0_147 x5_147 H locs ls h hP hD hS hl
        refine lv_istore (lv' := [(4, .int z0_147), (0, .ref (a 0)), (1, .int x1_88), (3, .int x3_88), (5, .int x5_147)]) hx hb d_Md_catches_147 hl (by decide) rfl (fun ls hl => ?_)
        refine lv_iinc (v := (x5_147 + 1)) (lv' := [(5, .int (x5_147 + 1)), (4, .int z0_147), (0, .ref (a 0)), (1, .int x1_88), (3, .int x3_88)]) hx hb d_Md_catches_149 hl (k := 4) rfl rfl (by decide) rfl (fun ls hl => ?_)
        refine lv_goto (tgt := 88) hx hb d_Md_catches_152 (by decide) ?_
        exact ih88 (z0_147, (x5_147 + 1)) _ _ _ h hP hD hS (lv_sub hl [2, 3, 4, 1, 0] rfl)
      have B142 : ∀ (x5_142 : Int32) (H : Heap) (locs : List Loc) (ls : Array Slot), f_Md_catches_b142 N (lp (f_Md_catches_L88 N x1_88 x3_88 mb mg mx) n88) x1_88 x3_88 x5_142 mb mg mx = some res → va_P (dC, dI) classes (cMd cI cJ cZ a mb mg mx mf) H → va_D A (cMd cI cJ cZ a mb mg mx mf) → va_S A s.heap H locs → lv_has ls 6 [(0, .ref (a 0)), (1, .int x1_88), (3, .int x3_88), (5, .int x5_142)] → W p l e { frames := 1, cells := 0, slots := 0, locals := 23 } s m args below meth c H locs 0 0 (KZ below args s (dC, dI) classes (some (.int res)) (cMd cI cJ cZ a mb mg mx mf) A) (F0 m 142 ls []) := by
        intro x5_142 H locs ls h hP hD hS hl
        refine lv_iconst (v := 1) hx hb d_Md_catches_142 (by decide) ?_
        refine lv_goto (tgt := 147) hx hb d_Md_catches_143 (by decide) ?_
        exact B147 (1 : Int32) x5_142 _ _ _ h hP hD hS (lv_sub hl [0, 1, 2, 3] rfl)
      have B146 : ∀ (x5_146 : Int32) (H : Heap) (locs : List Loc) (ls : Array Slot), f_Md_catches_b146 N (lp (f_Md_catches_L88 N x1_88 x3_88 mb mg mx) n88) x1_88 x3_88 x5_146 mb mg mx = some res → va_P (dC, dI) classes (cMd cI cJ cZ a mb mg mx mf) H → va_D A (cMd cI cJ cZ a mb mg mx mf) → va_S A s.heap H locs → lv_has ls 6 [(0, .ref (a 0)), (1, .int x1_88), (3, .int x3_88), (5, .int x5_146)] → W p l e { frames := 1, cells := 0, slots := 0, locals := 23 } s m args below meth c H locs 0 0 (KZ below args s (dC, dI) classes (some (.int res)) (cMd cI cJ cZ a mb mg mx mf) A) (F0 m 146 ls []) := by
        intro x5_146 H locs ls h hP hD hS hl
        refine lv_iconst (v := 0) hx hb d_Md_catches_146 (by decide) ?_
        exact B147 (0 : Int32) x5_146 _ _ _ h hP hD hS (lv_sub hl [0, 1, 2, 3] rfl)
      refine lv_iload hx hb d_Md_catches_88 (lv_at hl 4 rfl) ?_
      refine lv_aload_n hx hb d_Md_catches_90 rfl (lv_at hl 0 rfl) ?_
      refine va_get (D := (dC, dI)) (ci := 7) (v := .int (Mg_knownKinds mg)) (C := R_Md) (T := F_Md) (N := 35) hx hb hts inb_Md hown hK hP 0 rfl rfl 20 (by decide) (hts _ tw707) (fun _ h9 => h9) rfl d_Md_catches_91 ?_
      refine lv_icmp_ge (tgt := 155) hx hb d_Md_catches_94 (by decide) (fun hc => ?_) (fun hc => ?_)
      · have h := o_t hc h
        refine lv_iload hx hb d_Md_catches_155 (lv_at hl 3 rfl) ?_
        obtain ⟨hbo, h⟩ := o_bo h
        cases h
        exact kr_z hx hb hr hbo hlocks hP hD hS d_Md_catches_157
      · have h := o_f hc h
        refine lv_iload hx hb d_Md_catches_97 (lv_at hl 3 rfl) ?_
        refine lv_if_ne (tgt := 155) hx hb d_Md_catches_99 (by decide) (fun hc => ?_) (fun hc => ?_)
        · have h := o_f hc h
          refine lv_iload hx hb d_Md_catches_155 (lv_at hl 3 rfl) ?_
          obtain ⟨hbo, h⟩ := o_bo h
          cases h
          exact kr_z hx hb hr hbo hlocks hP hD hS d_Md_catches_157
        · have h := o_t hc h
          refine lv_aload_n hx hb d_Md_catches_102 rfl (lv_at hl 0 rfl) ?_
          refine va_get (D := (dC, dI)) (ci := 7) (v := .ref (a 18)) (C := R_Md) (T := F_Md) (N := 35) hx hb hts inb_Md hown hK hP 0 rfl rfl 26 (by decide) (hts _ tw713) (fun _ h9 => h9) rfl d_Md_catches_103 ?_
          refine lv_bipush (v := 12) hx hb d_Md_catches_106 (by decide) ?_
          refine lv_aload_n hx hb d_Md_catches_108 rfl (lv_at hl 0 rfl) ?_
          refine va_get (D := (dC, dI)) (ci := 7) (v := .ref (a 6)) (C := R_Md) (T := F_Md) (N := 35) hx hb hts inb_Md hown hK hP 0 rfl rfl 7 (by decide) (hts _ tw694) (fun _ h9 => h9) rfl d_Md_catches_109 ?_
          refine lv_iload_n hx hb d_Md_catches_112 rfl (lv_at hl 1 rfl) ?_
          obtain ⟨hin, h⟩ := o_in h
          refine va_iald hx hb hK hP 6 0 rfl rfl hin d_Md_catches_113 ?_
          refine lv_imul hx hb d_Md_catches_114 ?_
          refine lv_iload hx hb d_Md_catches_115 (lv_at hl 4 rfl) ?_
          refine lv_iadd hx hb d_Md_catches_117 ?_
          obtain ⟨hin, h⟩ := o_in h
          refine va_zald hx hb hK hP 18 2 rfl rfl hin d_Md_catches_118 ?_
          refine lv_if_eq (tgt := 146) hx hb d_Md_catches_119 (by decide) (fun hc => ?_) (fun hc => ?_)
          · have h := o_t hc h
            exact B146 s88.2 _ _ _ h hP hD hS (lv_sub hl [0, 1, 2, 4] rfl)
          · have h := o_f hc h
            refine lv_aload_n hx hb d_Md_catches_122 rfl (lv_at hl 0 rfl) ?_
            refine lv_iload hx hb d_Md_catches_123 (lv_at hl 4 rfl) ?_
            refine lv_iload_n hx hb d_Md_catches_125 rfl (lv_at hl 2 rfl) ?_
            obtain ⟨y126, hy, h⟩ := o_bd h
            refine kdV (nn := 24) (rest := []) (w' := (cMd cI cJ cZ a mb mg mx mf)) (wr := ([] : va_W)) (st1 := [.int y126]) ⟨hx, hb, hml, hown, hts⟩ (c_Md_isBelow l dC dI cI cJ cZ a N s88.2 x3_88 mb mg mx mf y126 hy) (cwV 2 hts (gd_V tw925 tw927 ps37 tw9 tw928) rfl rfl rfl hd_Md_isBelow ⟨Nat.le_of_ble_eq_true rfl, Nat.le_of_ble_eq_true rfl⟩) hNw hK hP hD hS hA (ci := 7) rfl rfl rfl [0, 1, 2, 3, 4, 5, 6, 7, 8, 9, 10, 11, 12, 13, 14, 15, 16, 17, 18, 19, 20, 21, 22, 23] [] rfl rfl rfl rfl rfl (by decide +kernel) (by decide +kernel) rfl hl.1 rfl (Nat.le_of_ble_eq_true rfl) rfl d_Md_catches_126 ⟨Nat.zero_le _, Nat.zero_le _⟩ (fun H locs hP hD hS => ?_)
            refine lv_if_ne (tgt := 142) hx hb d_Md_catches_129 (by decide) (fun hc => ?_) (fun hc => ?_)
            · have h := o_f hc h
              exact B142 s88.2 _ _ _ h hP hD hS (lv_sub hl [0, 1, 2, 4] rfl)
            · have h := o_t hc h
              refine lv_aload_n hx hb d_Md_catches_132 rfl (lv_at hl 0 rfl) ?_
              refine lv_iload_n hx hb d_Md_catches_133 rfl (lv_at hl 2 rfl) ?_
              refine lv_iload hx hb d_Md_catches_134 (lv_at hl 4 rfl) ?_
              obtain ⟨y136, hy, h⟩ := o_bd h
              refine kdV (nn := 24) (rest := []) (w' := (cMd cI cJ cZ a mb mg mx mf)) (wr := ([] : va_W)) (st1 := [.int y136]) ⟨hx, hb, hml, hown, hts⟩ (c_Md_isBelow l dC dI cI cJ cZ a N x3_88 s88.2 mb mg mx mf y136 hy) (cwV 2 hts (gd_V tw925 tw927 ps37 tw9 tw928) rfl rfl rfl hd_Md_isBelow ⟨Nat.le_of_ble_eq_true rfl, Nat.le_of_ble_eq_true rfl⟩) hNw hK hP hD hS hA (ci := 7) rfl rfl rfl [0, 1, 2, 3, 4, 5, 6, 7, 8, 9, 10, 11, 12, 13, 14, 15, 16, 17, 18, 19, 20, 21, 22, 23] [] rfl rfl rfl rfl rfl (by decide +kernel) (by decide +kernel) rfl hl.1 rfl (Nat.le_of_ble_eq_true rfl) rfl d_Md_catches_136 ⟨Nat.zero_le _, Nat.zero_le _⟩ (fun H locs hP hD hS => ?_)
              refine lv_if_eq (tgt := 146) hx hb d_Md_catches_139 (by decide) (fun hc => ?_) (fun hc => ?_)
              · have h := o_t hc h
                exact B146 s88.2 _ _ _ h hP hD hS (lv_sub hl [0, 1, 2, 4] rfl)
              · have h := o_f hc h
                exact B142 s88.2 _ _ _ h hP hD hS (lv_sub hl [0, 1, 2, 4] rfl)
  have B83 : ∀ (z0_83 : Int32) (x1_83 : Int32) (x3_83 : Int32) (H : Heap) (locs : List Loc) (ls : Array Slot), f_Md_catches_b83 N z0_83 x1_83 x3_83 mb mg mx = some res → va_P (dC, dI) classes (cMd cI cJ cZ a mb mg mx mf) H → va_D A (cMd cI cJ cZ a mb mg mx mf) → va_S A s.heap H locs → lv_has ls 6 [(0, .ref (a 0)), (1, .int x1_83), (3, .int x3_83)] → W p l e { frames := 1, cells := 0, slots := 0, locals := 23 } s m args below meth c H locs 0 0 (KZ below args s (dC, dI) classes (some (.int res)) (cMd cI cJ cZ a mb mg mx mf) A) (F0 m 83 ls [.int z0_83]) := by
    intro z0_83 x1_83 x3_83 H locs ls h hP hD hS hl
    refine lv_istore (lv' := [(4, .int z0_83), (0, .ref (a 0)), (1, .int x1_83), (3, .int x3_83)]) hx hb d_Md_catches_83 hl (by decide) rfl (fun ls hl => ?_)
    refine lv_iconst (v := 0) hx hb d_Md_catches_85 (by decide) ?_
    refine lv_istore (lv' := [(5, .int (0 : Int32)), (4, .int z0_83), (0, .ref (a 0)), (1, .int x1_83), (3, .int x3_83)]) hx hb d_Md_catches_86 hl (by decide) rfl (fun ls hl => ?_)
    exact L88 x1_83 x3_83 N (z0_83, (0 : Int32)) _ _ _ h hP hD hS (lv_sub hl [2, 3, 4, 1, 0] rfl)
  have B78 : ∀ (x1_78 : Int32) (x3_78 : Int32) (H : Heap) (locs : List Loc) (ls : Array Slot), f_Md_catches_b78 N x1_78 x3_78 mb mg mx = some res → va_P (dC, dI) classes (cMd cI cJ cZ a mb mg mx mf) H → va_D A (cMd cI cJ cZ a mb mg mx mf) → va_S A s.heap H locs → lv_has ls 6 [(0, .ref (a 0)), (1, .int x1_78), (3, .int x3_78)] → W p l e { frames := 1, cells := 0, slots := 0, locals := 23 } s m args below meth c H locs 0 0 (KZ below args s (dC, dI) classes (some (.int res)) (cMd cI cJ cZ a mb mg mx mf) A) (F0 m 78 ls []) := by
    intro x1_78 x3_78 H locs ls h hP hD hS hl
    refine lv_iconst (v := 1) hx hb d_Md_catches_78 (by decide) ?_
    refine lv_goto (tgt := 83) hx hb d_Md_catches_79 (by decide) ?_
    exact B83 (1 : Int32) x1_78 x3_78 _ _ _ h hP hD hS (lv_sub hl [0, 1, 2] rfl)
  have L20 : ∀ (x1_20 : Int32) (x2_20 : Int32) (x3_20 : Int32) (n20 : Nat) (s20 : Int32) (H : Heap) (locs : List Loc) (ls : Array Slot), lp (f_Md_catches_L20 N x1_20 x2_20 x3_20 mb mg mx) n20 s20 = some res → va_P (dC, dI) classes (cMd cI cJ cZ a mb mg mx mf) H → va_D A (cMd cI cJ cZ a mb mg mx mf) → va_S A s.heap H locs → lv_has ls 6 [(0, .ref (a 0)), (1, .int x1_20), (2, .int x2_20), (3, .int x3_20), (4, .int s20)] → W p l e { frames := 1, cells := 0, slots := 0, locals := 23 } s m args below meth c H locs 0 0 (KZ below args s (dC, dI) classes (some (.int res)) (cMd cI cJ cZ a mb mg mx mf) A) (F0 m 20 ls []) := by
    intro x1_20 x2_20 x3_20 n20
    induction n20 with
    | zero => intro _ _ _ _ h; exact (lp_0 h).elim
    | succ n20 ih20 =>
      intro s20 H locs ls h hP hD hS hl
      have h := lp_s h
      refine lv_iload hx hb d_Md_catches_20 (lv_at hl 4 rfl) ?_
      refine lv_iload_n hx hb d_Md_catches_22 rfl (lv_at hl 2 rfl) ?_
      refine lv_icmp_eq (tgt := 55) hx hb d_Md_catches_23 (by decide) (fun hc => ?_) (fun hc => ?_)
      · have h := o_t hc h
        refine lv_iload_n hx hb d_Md_catches_55 rfl (lv_at hl 3 rfl) ?_
        refine lv_iconst (v := 2) hx hb d_Md_catches_56 (by decide) ?_
        refine lv_icmp_lt (tgt := 78) hx hb d_Md_catches_57 (by decide) (fun hc => ?_) (fun hc => ?_)
        · have h := o_t hc h
          exact B78 x1_20 x3_20 _ _ _ h hP hD hS (lv_sub hl [0, 1, 3] rfl)
        · have h := o_f hc h
          refine lv_aload_n hx hb d_Md_catches_60 rfl (lv_at hl 0 rfl) ?_
          refine lv_iload_n hx hb d_Md_catches_61 rfl (lv_at hl 3 rfl) ?_
          refine lv_iconst (v := 2) hx hb d_Md_catches_62 (by decide) ?_
          obtain ⟨y63, hy, h⟩ := o_bd h
          refine kdV (nn := 24) (rest := []) (w' := (cMd cI cJ cZ a mb mg mx mf)) (wr := ([] : va_W)) (st1 := [.int y63]) ⟨hx, hb, hml, hown, hts⟩ (c_Md_isBelow l dC dI cI cJ cZ a N x3_20 (2 : Int32) mb mg mx mf y63 hy) (cwV 2 hts (gd_V tw925 tw927 ps37 tw9 tw928) rfl rfl rfl hd_Md_isBelow ⟨Nat.le_of_ble_eq_true rfl, Nat.le_of_ble_eq_true rfl⟩) hNw hK hP hD hS hA (ci := 7) rfl rfl rfl [0, 1, 2, 3, 4, 5, 6, 7, 8, 9, 10, 11, 12, 13, 14, 15, 16, 17, 18, 19, 20, 21, 22, 23] [] rfl rfl rfl rfl rfl (by decide +kernel) (by decide +kernel) rfl hl.1 rfl (Nat.le_of_ble_eq_true rfl) rfl d_Md_catches_63 ⟨Nat.zero_le _, Nat.zero_le _⟩ (fun H locs hP hD hS => ?_)
          refine lv_if_ne (tgt := 78) hx hb d_Md_catches_66 (by decide) (fun hc => ?_) (fun hc => ?_)
          · have h := o_f hc h
            exact B78 x1_20 x3_20 _ _ _ h hP hD hS (lv_sub hl [0, 1, 3] rfl)
          · have h := o_t hc h
            refine lv_aload_n hx hb d_Md_catches_69 rfl (lv_at hl 0 rfl) ?_
            refine lv_iload_n hx hb d_Md_catches_70 rfl (lv_at hl 3 rfl) ?_
            refine lv_iconst (v := 3) hx hb d_Md_catches_71 (by decide) ?_
            obtain ⟨y72, hy, h⟩ := o_bd h
            refine kdV (nn := 24) (rest := []) (w' := (cMd cI cJ cZ a mb mg mx mf)) (wr := ([] : va_W)) (st1 := [.int y72]) ⟨hx, hb, hml, hown, hts⟩ (c_Md_isBelow l dC dI cI cJ cZ a N x3_20 (3 : Int32) mb mg mx mf y72 hy) (cwV 2 hts (gd_V tw925 tw927 ps37 tw9 tw928) rfl rfl rfl hd_Md_isBelow ⟨Nat.le_of_ble_eq_true rfl, Nat.le_of_ble_eq_true rfl⟩) hNw hK hP hD hS hA (ci := 7) rfl rfl rfl [0, 1, 2, 3, 4, 5, 6, 7, 8, 9, 10, 11, 12, 13, 14, 15, 16, 17, 18, 19, 20, 21, 22, 23] [] rfl rfl rfl rfl rfl (by decide +kernel) (by decide +kernel) rfl hl.1 rfl (Nat.le_of_ble_eq_true rfl) rfl d_Md_catches_72 ⟨Nat.zero_le _, Nat.zero_le _⟩ (fun H locs hP hD hS => ?_)
            refine lv_if_eq (tgt := 82) hx hb d_Md_catches_75 (by decide) (fun hc => ?_) (fun hc => ?_)
            · have h := o_t hc h
              refine lv_iconst (v := 0) hx hb d_Md_catches_82 (by decide) ?_
              exact B83 (0 : Int32) x1_20 x3_20 _ _ _ h hP hD hS (lv_sub hl [0, 1, 3] rfl)
            · have h := o_f hc h
              exact B78 x1_20 x3_20 _ _ _ h hP hD hS (lv_sub hl [0, 1, 3] rfl)
      · have h := o_f hc h
        refine lv_aload_n hx hb d_Md_catches_26 rfl (lv_at hl 0 rfl) ?_
        refine lv_iload_n hx hb d_Md_catches_27 rfl (lv_at hl 3 rfl) ?_
        refine lv_aload_n hx hb d_Md_catches_28 rfl (lv_at hl 0 rfl) ?_
        refine va_get (D := (dC, dI)) (ci := 7) (v := .ref (a 5)) (C := R_Md) (T := F_Md) (N := 35) hx hb hts inb_Md hown hK hP 0 rfl rfl 6 (by decide) (hts _ tw693) (fun _ h9 => h9) rfl d_Md_catches_29 ?_
        refine lv_iload hx hb d_Md_catches_32 (lv_at hl 4 rfl) ?_
        obtain ⟨hin, h⟩ := o_in h
        refine va_iald hx hb hK hP 5 0 rfl rfl hin d_Md_catches_34 ?_
        obtain ⟨y35, hy, h⟩ := o_bd h
        refine kdV (nn := 24) (rest := []) (w' := (cMd cI cJ cZ a mb mg mx mf)) (wr := ([] : va_W)) (st1 := [.int y35]) ⟨hx, hb, hml, hown, hts⟩ (c_Md_isBelow l dC dI cI cJ cZ a N x3_20 ((Mb_mark mb) s20.toNatClampNeg) mb mg mx mf y35 hy) (cwV 2 hts (gd_V tw925 tw927 ps37 tw9 tw928) rfl rfl rfl hd_Md_isBelow ⟨Nat.le_of_ble_eq_true rfl, Nat.le_of_ble_eq_true rfl⟩) hNw hK hP hD hS hA (ci := 7) rfl rfl rfl [0, 1, 2, 3, 4, 5, 6, 7, 8, 9, 10, 11, 12, 13, 14, 15, 16, 17, 18, 19, 20, 21, 22, 23] [] rfl rfl rfl rfl rfl (by decide +kernel) (by decide +kernel) rfl hl.1 rfl (Nat.le_of_ble_eq_true rfl) rfl d_Md_catches_35 ⟨Nat.zero_le _, Nat.zero_le _⟩ (fun H locs hP hD hS => ?_)
        refine lv_if_eq (tgt := 43) hx hb d_Md_catches_38 (by decide) (fun hc => ?_) (fun hc => ?_)
        · have h := o_t hc h
          refine lv_aload_n hx hb d_Md_catches_43 rfl (lv_at hl 0 rfl) ?_
          refine va_get (D := (dC, dI)) (ci := 7) (v := .ref (a 8)) (C := R_Md) (T := F_Md) (N := 35) hx hb hts inb_Md hown hK hP 0 rfl rfl 9 (by decide) (hts _ tw696) (fun _ h9 => h9) rfl d_Md_catches_44 ?_
          refine lv_iload hx hb d_Md_catches_47 (lv_at hl 4 rfl) ?_
          obtain ⟨hin, h⟩ := o_in h
          refine va_iald hx hb hK hP 8 0 rfl rfl hin d_Md_catches_49 ?_
          refine lv_istore (lv' := [(4, .int ((Mb_next mb) s20.toNatClampNeg)), (0, .ref (a 0)), (1, .int x1_20), (2, .int x2_20), (3, .int x3_20)]) hx hb d_Md_catches_50 hl (by decide) rfl (fun ls hl => ?_)
          refine lv_goto (tgt := 20) hx hb d_Md_catches_52 (by decide) ?_
          exact ih20 ((Mb_next mb) s20.toNatClampNeg) _ _ _ h hP hD hS (lv_sub hl [1, 2, 3, 4, 0] rfl)
        · have h := o_f hc h
          refine lv_iconst (v := 0) hx hb d_Md_catches_41 (by decide) ?_
          cases h
          exact kr_z hx hb hr (by decide) hlocks hP hD hS d_Md_catches_42
  refine lv_aload_n hx hb d_Md_catches_0 rfl (lv_at hl 0 rfl) ?_
  refine va_get (D := (dC, dI)) (ci := 7) (v := .ref (a 5)) (C := R_Md) (T := F_Md) (N := 35) hx hb hts inb_Md hown hK hP 0 rfl rfl 6 (by decide) (hts _ tw693) (fun _ h9 => h9) rfl d_Md_catches_1 ?_
  refine lv_iload_n hx hb d_Md_catches_4 rfl (lv_at hl 2 rfl) ?_
  obtain ⟨hin, h⟩ := o_in h
  refine va_iald hx hb hK hP 5 0 rfl rfl hin d_Md_catches_5 ?_
  refine lv_istore_n (lv' := [(3, .int ((Mb_mark mb) x2.toNatClampNeg)), (0, .ref (a 0)), (1, .int x1), (2, .int x2)]) hx hb d_Md_catches_6 rfl hl (by decide) rfl (fun ls hl => ?_)
  refine lv_aload_n hx hb d_Md_catches_7 rfl (lv_at hl 1 rfl) ?_
  refine va_get (D := (dC, dI)) (ci := 7) (v := .ref (a 8)) (C := R_Md) (T := F_Md) (N := 35) hx hb hts inb_Md hown hK hP 0 rfl rfl 9 (by decide) (hts _ tw696) (fun _ h9 => h9) rfl d_Md_catches_8 ?_
  refine lv_aload_n hx hb d_Md_catches_11 rfl (lv_at hl 1 rfl) ?_
  refine va_get (D := (dC, dI)) (ci := 7) (v := .ref (a 6)) (C := R_Md) (T := F_Md) (N := 35) hx hb hts inb_Md hown hK hP 0 rfl rfl 7 (by decide) (hts _ tw694) (fun _ h9 => h9) rfl d_Md_catches_12 ?_
  refine lv_iload_n hx hb d_Md_catches_15 rfl (lv_at hl 2 rfl) ?_
  obtain ⟨hin, h⟩ := o_in h
  refine va_iald hx hb hK hP 6 0 rfl rfl hin d_Md_catches_16 ?_
  obtain ⟨hin, h⟩ := o_in h
  refine va_iald hx hb hK hP 8 0 rfl rfl hin d_Md_catches_17 ?_
  refine lv_istore (lv' := [(4, .int ((Mb_next mb) ((Mb_first mb) x1.toNatClampNeg).toNatClampNeg)), (3, .int ((Mb_mark mb) x2.toNatClampNeg)), (0, .ref (a 0)), (1, .int x1), (2, .int x2)]) hx hb d_Md_catches_18 hl (by decide) rfl (fun ls hl => ?_)
  exact L20 x1 x2 ((Mb_mark mb) x2.toNatClampNeg) N ((Mb_next mb) ((Mb_first mb) x1.toNatClampNeg).toNatClampNeg) _ _ _ h hP hD hS (lv_sub hl [2, 3, 4, 1, 0] rfl)
set_option maxHeartbeats 4000000 in
set_option maxRecDepth 100000 in
theorem c_Md_mustReach (l : Launch) (dC : Nat → ClassId) (dI : Nat → Nat → Nat) (cI cJ cZ : ClassId) (a : Nat → Nat) (N : Nat) (x1 : Int32) (mb : MbS) (mg : MgS) (mx : MxS) (mf : MfS) (res : Int32) (h : f_Md_mustReach N x1 mb mg mx = some res) :
    Kt l (dC, dI) classes [(cI, .int), (cJ, .long), (cZ, .boolean)] y_Md_mustReach (wz y_Md_mustReach b_Md_mustReach 3 (some .boolean)) { frames := 2, cells := 0, slots := 0, locals := 48 } [.ref (a 0), .int x1] (cMd cI cJ cZ a mb mg mx mf) (some (.int res)) (cMd cI cJ cZ a mb mg mx mf) := by
  refine Kt_of (cc := b_Md_mustReach) (maxL := 3) (ret := (some .boolean)) (by decide) (Nat.le_of_ble_eq_true rfl) ?_
  intro p e s m args below meth c A ls hx hb hr hml hlocks hown hts hNw hK hP hD hA hS hl
  have hl : lv_has ls 3 [(0, .ref (a 0)), (1, .int x1)] := hl
  have hP : va_P (dC, dI) classes (cMd cI cJ cZ a mb mg mx mf) s.heap := hP
  have B96 : ∀ (x2_96 : Int32) (H : Heap) (locs : List Loc) (ls : Array Slot), f_Md_mustReach_b96 N x2_96 mb mg mx = some res → va_P (dC, dI) classes (cMd cI cJ cZ a mb mg mx mf) H → va_D A (cMd cI cJ cZ a mb mg mx mf) → va_S A s.heap H locs → lv_has ls 3 [(0, .ref (a 0)), (2, .int x2_96)] → W p l e { frames := 2, cells := 0, slots := 0, locals := 48 } s m args below meth c H locs 0 0 (KZ below args s (dC, dI) classes (some (.int res)) (cMd cI cJ cZ a mb mg mx mf) A) (F0 m 96 ls []) := by
    intro x2_96 H locs ls h hP hD hS hl
    refine lv_aload_n hx hb d_Md_mustReach_96 rfl (lv_at hl 0 rfl) ?_
    refine va_get (D := (dC, dI)) (ci := 7) (v := .ref (a 3)) (C := R_Md) (T := F_Md) (N := 35) hx hb hts inb_Md hown hK hP 0 rfl rfl 4 (by decide) (hts _ tw691) (fun _ h9 => h9) rfl d_Md_mustReach_97 ?_
    refine lv_iload_n hx hb d_Md_mustReach_100 rfl (lv_at hl 1 rfl) ?_
    obtain ⟨hin, h⟩ := o_in h
    refine va_iald hx hb hK hP 3 0 rfl rfl hin d_Md_mustReach_101 ?_
    refine lv_if_eq (tgt := 109) hx hb d_Md_mustReach_102 (by decide) (fun hc => ?_) (fun hc => ?_)
    · have h := o_t hc h
      refine lv_iconst (v := 0) hx hb d_Md_mustReach_109 (by decide) ?_
      cases h
      exact kr_z hx hb hr (by decide) hlocks hP hD hS d_Md_mustReach_110
    · have h := o_f hc h
      refine lv_iconst (v := 1) hx hb d_Md_mustReach_105 (by decide) ?_
      refine lv_goto (tgt := 110) hx hb d_Md_mustReach_106 (by decide) ?_
      cases h
      exact kr_z hx hb hr (by decide) hlocks hP hD hS d_Md_mustReach_110
  refine lv_iload_n hx hb d_Md_mustReach_0 rfl (lv_at hl 1 rfl) ?_
  refine lv_aload_n hx hb d_Md_mustReach_1 rfl (lv_at hl 0 rfl) ?_
  refine va_get (D := (dC, dI)) (ci := 7) (v := .int (Mg_root mg)) (C := R_Md) (T := F_Md) (N := 35) hx hb hts inb_Md hown hK hP 0 rfl rfl 18 (by decide) (hts _ tw705) (fun _ h9 => h9) rfl d_Md_mustReach_2 ?_
  refine lv_icmp_ne (tgt := 10) hx hb d_Md_mustReach_5 (by decide) (fun hc => ?_) (fun hc => ?_)
  · have h := o_f hc h
    refine lv_aload_n hx hb d_Md_mustReach_10 rfl (lv_at hl 0 rfl) ?_
    refine va_get (D := (dC, dI)) (ci := 7) (v := .ref (a 4)) (C := R_Md) (T := F_Md) (N := 35) hx hb hts inb_Md hown hK hP 0 rfl rfl 5 (by decide) (hts _ tw692) (fun _ h9 => h9) rfl d_Md_mustReach_11 ?_
    refine lv_iload_n hx hb d_Md_mustReach_14 rfl (lv_at hl 1 rfl) ?_
    obtain ⟨hin, h⟩ := o_in h
    refine va_iald hx hb hK hP 4 0 rfl rfl hin d_Md_mustReach_15 ?_
    refine lv_istore_n (lv' := [(2, .int ((Mb_partOf mb) x1.toNatClampNeg)), (0, .ref (a 0)), (1, .int x1)]) hx hb d_Md_mustReach_16 rfl hl (by decide) rfl (fun ls hl => ?_)
    refine lv_aload_n hx hb d_Md_mustReach_17 rfl (lv_at hl 1 rfl) ?_
    refine va_get (D := (dC, dI)) (ci := 7) (v := .ref (a 16)) (C := R_Md) (T := F_Md) (N := 35) hx hb hts inb_Md hown hK hP 0 rfl rfl 24 (by decide) (hts _ tw711) (fun _ h9 => h9) rfl d_Md_mustReach_18 ?_
    refine lv_iload_n hx hb d_Md_mustReach_21 rfl (lv_at hl 0 rfl) ?_
    obtain ⟨hin, h⟩ := o_in h
    refine va_zald hx hb hK hP 16 2 rfl rfl hin d_Md_mustReach_22 ?_
    refine lv_if_ne (tgt := 28) hx hb d_Md_mustReach_23 (by decide) (fun hc => ?_) (fun hc => ?_)
    · have h := o_f hc h
      refine lv_aload_n hx hb d_Md_mustReach_28 rfl (lv_at hl 1 rfl) ?_
      refine va_get (D := (dC, dI)) (ci := 7) (v := .ref (a 2)) (C := R_Md) (T := F_Md) (N := 35) hx hb hts inb_Md hown hK hP 0 rfl rfl 3 (by decide) (hts _ tw690) (fun _ h9 => h9) rfl d_Md_mustReach_29 ?_
      refine lv_iload_n hx hb d_Md_mustReach_32 rfl (lv_at hl 0 rfl) ?_
      obtain ⟨hin, h⟩ := o_in h
      refine va_iald hx hb hK hP 2 0 rfl rfl hin d_Md_mustReach_33 ?_
      refine sw_by (x := ((Mb_sort mb) ((Mb_partOf mb) x1.toNatClampNeg).toNatClampNeg)) (k := 5) (fun hc => ?_) (fun hn0 => ?_)
      · have h := o_t hc h
        refine sw_in (x := ((Mb_sort mb) ((Mb_partOf mb) x1.toNatClampNeg).toNatClampNeg)) (k := 5) hc (lv_tableIn (tgt := 96) hx hb d_Md_mustReach_34 (by decide) (by decide) (by rfl) (by decide) ?_)
        exact B96 ((Mb_partOf mb) x1.toNatClampNeg) _ _ _ h hP hD hS (lv_sub hl [1, 0] rfl)
      · have h := o_f hn0 h
        refine sw_by (x := ((Mb_sort mb) ((Mb_partOf mb) x1.toNatClampNeg).toNatClampNeg)) (k := 6) (fun hc => ?_) (fun hn1 => ?_)
        · have h := o_t hc h
          refine sw_in (x := ((Mb_sort mb) ((Mb_partOf mb) x1.toNatClampNeg).toNatClampNeg)) (k := 6) hc (lv_tableIn (tgt := 193) hx hb d_Md_mustReach_34 (by decide) (by decide) (by rfl) (by decide) ?_)
          refine lv_iconst (v := 1) hx hb d_Md_mustReach_193 (by decide) ?_
          cases h
          exact kr_z hx hb hr (by decide) hlocks hP hD hS d_Md_mustReach_194
        · have h := o_f hn1 h
          refine sw_by (x := ((Mb_sort mb) ((Mb_partOf mb) x1.toNatClampNeg).toNatClampNeg)) (k := 7) (fun hc => ?_) (fun hn2 => ?_)
          · have h := o_t hc h
            refine sw_in (x := ((Mb_sort mb) ((Mb_partOf mb) x1.toNatClampNeg).toNatClampNeg)) (k := 7) hc (lv_tableIn (tgt := 96) hx hb d_Md_mustReach_34 (by decide) (by decide) (by rfl) (by decide) ?_)
            exact B96 ((Mb_partOf mb) x1.toNatClampNeg) _ _ _ h hP hD hS (lv_sub hl [1, 0] rfl)
          · have h := o_f hn2 h
            refine sw_by (x := ((Mb_sort mb) ((Mb_partOf mb) x1.toNatClampNeg).toNatClampNeg)) (k := 8) (fun hc => ?_) (fun hn3 => ?_)
            · have h := o_t hc h
              refine sw_in (x := ((Mb_sort mb) ((Mb_partOf mb) x1.toNatClampNeg).toNatClampNeg)) (k := 8) hc (lv_tableIn (tgt := 193) hx hb d_Md_mustReach_34 (by decide) (by decide) (by rfl) (by decide) ?_)
              refine lv_iconst (v := 1) hx hb d_Md_mustReach_193 (by decide) ?_
              cases h
              exact kr_z hx hb hr (by decide) hlocks hP hD hS d_Md_mustReach_194
            · have h := o_f hn3 h
              refine sw_by (x := ((Mb_sort mb) ((Mb_partOf mb) x1.toNatClampNeg).toNatClampNeg)) (k := 9) (fun hc => ?_) (fun hn4 => ?_)
              · have h := o_t hc h
                refine sw_in (x := ((Mb_sort mb) ((Mb_partOf mb) x1.toNatClampNeg).toNatClampNeg)) (k := 9) hc (lv_tableIn (tgt := 193) hx hb d_Md_mustReach_34 (by decide) (by decide) (by rfl) (by decide) ?_)
                refine lv_iconst (v := 1) hx hb d_Md_mustReach_193 (by decide) ?_
                cases h
                exact kr_z hx hb hr (by decide) hlocks hP hD hS d_Md_mustReach_194
              · have h := o_f hn4 h
                refine sw_by (x := ((Mb_sort mb) ((Mb_partOf mb) x1.toNatClampNeg).toNatClampNeg)) (k := 10) (fun hc => ?_) (fun hn5 => ?_)
                · have h := o_t hc h
                  refine sw_in (x := ((Mb_sort mb) ((Mb_partOf mb) x1.toNatClampNeg).toNatClampNeg)) (k := 10) hc (lv_tableIn (tgt := 193) hx hb d_Md_mustReach_34 (by decide) (by decide) (by rfl) (by decide) ?_)
                  refine lv_iconst (v := 1) hx hb d_Md_mustReach_193 (by decide) ?_
                  cases h
                  exact kr_z hx hb hr (by decide) hlocks hP hD hS d_Md_mustReach_194
                · have h := o_f hn5 h
                  refine sw_by (x := ((Mb_sort mb) ((Mb_partOf mb) x1.toNatClampNeg).toNatClampNeg)) (k := 11) (fun hc => ?_) (fun hn6 => ?_)
                  · have h := o_t hc h
                    refine sw_in (x := ((Mb_sort mb) ((Mb_partOf mb) x1.toNatClampNeg).toNatClampNeg)) (k := 11) hc (lv_tableIn (tgt := 193) hx hb d_Md_mustReach_34 (by decide) (by decide) (by rfl) (by decide) ?_)
                    refine lv_iconst (v := 1) hx hb d_Md_mustReach_193 (by decide) ?_
                    cases h
                    exact kr_z hx hb hr (by decide) hlocks hP hD hS d_Md_mustReach_194
                  · have h := o_f hn6 h
                    refine sw_by (x := ((Mb_sort mb) ((Mb_partOf mb) x1.toNatClampNeg).toNatClampNeg)) (k := 12) (fun hc => ?_) (fun hn7 => ?_)
                    · have h := o_t hc h
                      refine sw_in (x := ((Mb_sort mb) ((Mb_partOf mb) x1.toNatClampNeg).toNatClampNeg)) (k := 12) hc (lv_tableIn (tgt := 193) hx hb d_Md_mustReach_34 (by decide) (by decide) (by rfl) (by decide) ?_)
                      refine lv_iconst (v := 1) hx hb d_Md_mustReach_193 (by decide) ?_
                      cases h
                      exact kr_z hx hb hr (by decide) hlocks hP hD hS d_Md_mustReach_194
                    · have h := o_f hn7 h
                      refine sw_by (x := ((Mb_sort mb) ((Mb_partOf mb) x1.toNatClampNeg).toNatClampNeg)) (k := 13) (fun hc => ?_) (fun hn8 => ?_)
                      · have h := o_t hc h
                        refine sw_in (x := ((Mb_sort mb) ((Mb_partOf mb) x1.toNatClampNeg).toNatClampNeg)) (k := 13) hc (lv_tableIn (tgt := 111) hx hb d_Md_mustReach_34 (by decide) (by decide) (by rfl) (by decide) ?_)
                        refine lv_aload_n hx hb d_Md_mustReach_111 rfl (lv_at hl 1 rfl) ?_
                        refine va_get (D := (dC, dI)) (ci := 7) (v := .ref (a 9)) (C := R_Md) (T := F_Md) (N := 35) hx hb hts inb_Md hown hK hP 0 rfl rfl 10 (by decide) (hts _ tw697) (fun _ h9 => h9) rfl d_Md_mustReach_112 ?_
                        refine lv_iload_n hx hb d_Md_mustReach_115 rfl (lv_at hl 2 rfl) ?_
                        obtain ⟨hin, h⟩ := o_in h
                        refine va_iald hx hb hK hP 9 0 rfl rfl hin d_Md_mustReach_116 ?_
                        refine lv_iconst (v := -1) hx hb d_Md_mustReach_117 (by decide) ?_
                        refine lv_icmp_eq (tgt := 135) hx hb d_Md_mustReach_118 (by decide) (fun hc => ?_) (fun hc => ?_)
                        · have h := o_t hc h
                          refine lv_iconst (v := 1) hx hb d_Md_mustReach_135 (by decide) ?_
                          refine lv_goto (tgt := 140) hx hb d_Md_mustReach_136 (by decide) ?_
                          cases h
                          exact kr_z hx hb hr (by decide) hlocks hP hD hS d_Md_mustReach_140
                        · have h := o_f hc h
                          refine lv_aload_n hx hb d_Md_mustReach_121 rfl (lv_at hl 1 rfl) ?_
                          refine va_get (D := (dC, dI)) (ci := 7) (v := .ref (a 17)) (C := R_Md) (T := F_Md) (N := 35) hx hb hts inb_Md hown hK hP 0 rfl rfl 25 (by decide) (hts _ tw712) (fun _ h9 => h9) rfl d_Md_mustReach_122 ?_
                          refine lv_aload_n hx hb d_Md_mustReach_125 rfl (lv_at hl 1 rfl) ?_
                          refine va_get (D := (dC, dI)) (ci := 7) (v := .ref (a 9)) (C := R_Md) (T := F_Md) (N := 35) hx hb hts inb_Md hown hK hP 0 rfl rfl 10 (by decide) (hts _ tw697) (fun _ h9 => h9) rfl d_Md_mustReach_126 ?_
                          refine lv_iload_n hx hb d_Md_mustReach_129 rfl (lv_at hl 2 rfl) ?_
                          obtain ⟨hin, h⟩ := o_in h
                          refine va_iald hx hb hK hP 9 0 rfl rfl hin d_Md_mustReach_130 ?_
                          obtain ⟨hin, h⟩ := o_in h
                          refine va_zald hx hb hK hP 17 2 rfl rfl hin d_Md_mustReach_131 ?_
                          refine lv_if_eq (tgt := 139) hx hb d_Md_mustReach_132 (by decide) (fun hc => ?_) (fun hc => ?_)
                          · have h := o_t hc h
                            refine lv_iconst (v := 0) hx hb d_Md_mustReach_139 (by decide) ?_
                            cases h
                            exact kr_z hx hb hr (by decide) hlocks hP hD hS d_Md_mustReach_140
                          · have h := o_f hc h
                            refine lv_iconst (v := 1) hx hb d_Md_mustReach_135 (by decide) ?_
                            refine lv_goto (tgt := 140) hx hb d_Md_mustReach_136 (by decide) ?_
                            cases h
                            exact kr_z hx hb hr (by decide) hlocks hP hD hS d_Md_mustReach_140
                      · have h := o_f hn8 h
                        refine sw_by (x := ((Mb_sort mb) ((Mb_partOf mb) x1.toNatClampNeg).toNatClampNeg)) (k := 14) (fun hc => ?_) (fun hn9 => ?_)
                        · have h := o_t hc h
                          refine sw_in (x := ((Mb_sort mb) ((Mb_partOf mb) x1.toNatClampNeg).toNatClampNeg)) (k := 14) hc (lv_tableIn (tgt := 141) hx hb d_Md_mustReach_34 (by decide) (by decide) (by rfl) (by decide) ?_)
                          refine lv_aload_n hx hb d_Md_mustReach_141 rfl (lv_at hl 1 rfl) ?_
                          refine va_get (D := (dC, dI)) (ci := 7) (v := .ref (a 5)) (C := R_Md) (T := F_Md) (N := 35) hx hb hts inb_Md hown hK hP 0 rfl rfl 6 (by decide) (hts _ tw693) (fun _ h9 => h9) rfl d_Md_mustReach_142 ?_
                          refine lv_iload_n hx hb d_Md_mustReach_145 rfl (lv_at hl 2 rfl) ?_
                          obtain ⟨hin, h⟩ := o_in h
                          refine va_iald hx hb hK hP 5 0 rfl rfl hin d_Md_mustReach_146 ?_
                          refine lv_if_gt (tgt := 164) hx hb d_Md_mustReach_147 (by decide) (fun hc => ?_) (fun hc => ?_)
                          · have h := o_t hc h
                            refine lv_iconst (v := 1) hx hb d_Md_mustReach_164 (by decide) ?_
                            refine lv_goto (tgt := 169) hx hb d_Md_mustReach_165 (by decide) ?_
                            cases h
                            exact kr_z hx hb hr (by decide) hlocks hP hD hS d_Md_mustReach_169
                          · have h := o_f hc h
                            refine lv_aload_n hx hb d_Md_mustReach_150 rfl (lv_at hl 1 rfl) ?_
                            refine va_get (D := (dC, dI)) (ci := 7) (v := .ref (a 17)) (C := R_Md) (T := F_Md) (N := 35) hx hb hts inb_Md hown hK hP 0 rfl rfl 25 (by decide) (hts _ tw712) (fun _ h9 => h9) rfl d_Md_mustReach_151 ?_
                            refine lv_aload_n hx hb d_Md_mustReach_154 rfl (lv_at hl 1 rfl) ?_
                            refine va_get (D := (dC, dI)) (ci := 7) (v := .ref (a 9)) (C := R_Md) (T := F_Md) (N := 35) hx hb hts inb_Md hown hK hP 0 rfl rfl 10 (by decide) (hts _ tw697) (fun _ h9 => h9) rfl d_Md_mustReach_155 ?_
                            refine lv_iload_n hx hb d_Md_mustReach_158 rfl (lv_at hl 2 rfl) ?_
                            obtain ⟨hin, h⟩ := o_in h
                            refine va_iald hx hb hK hP 9 0 rfl rfl hin d_Md_mustReach_159 ?_
                            obtain ⟨hin, h⟩ := o_in h
                            refine va_zald hx hb hK hP 17 2 rfl rfl hin d_Md_mustReach_160 ?_
                            refine lv_if_eq (tgt := 168) hx hb d_Md_mustReach_161 (by decide) (fun hc => ?_) (fun hc => ?_)
                            · have h := o_t hc h
                              refine lv_iconst (v := 0) hx hb d_Md_mustReach_168 (by decide) ?_
                              cases h
                              exact kr_z hx hb hr (by decide) hlocks hP hD hS d_Md_mustReach_169
                            · have h := o_f hc h
                              refine lv_iconst (v := 1) hx hb d_Md_mustReach_164 (by decide) ?_
                              refine lv_goto (tgt := 169) hx hb d_Md_mustReach_165 (by decide) ?_
                              cases h
                              exact kr_z hx hb hr (by decide) hlocks hP hD hS d_Md_mustReach_169
                        · have h := o_f hn9 h
                          refine sw_by (x := ((Mb_sort mb) ((Mb_partOf mb) x1.toNatClampNeg).toNatClampNeg)) (k := 15) (fun hc => ?_) (fun hn10 => ?_)
                          · have h := o_t hc h
                            refine sw_in (x := ((Mb_sort mb) ((Mb_partOf mb) x1.toNatClampNeg).toNatClampNeg)) (k := 15) hc (lv_tableIn (tgt := 193) hx hb d_Md_mustReach_34 (by decide) (by decide) (by rfl) (by decide) ?_)
                            refine lv_iconst (v := 1) hx hb d_Md_mustReach_193 (by decide) ?_
                            cases h
                            exact kr_z hx hb hr (by decide) hlocks hP hD hS d_Md_mustReach_194
                          · have h := o_f hn10 h
                            refine sw_by (x := ((Mb_sort mb) ((Mb_partOf mb) x1.toNatClampNeg).toNatClampNeg)) (k := 16) (fun hc => ?_) (fun hn11 => ?_)
                            · have h := o_t hc h
                              refine sw_in (x := ((Mb_sort mb) ((Mb_partOf mb) x1.toNatClampNeg).toNatClampNeg)) (k := 16) hc (lv_tableIn (tgt := 170) hx hb d_Md_mustReach_34 (by decide) (by decide) (by rfl) (by decide) ?_)
                              refine lv_aload_n hx hb d_Md_mustReach_170 rfl (lv_at hl 1 rfl) ?_
                              refine lv_iload_n hx hb d_Md_mustReach_171 rfl (lv_at hl 2 rfl) ?_
                              obtain ⟨y172, hy, h⟩ := o_bd h
                              refine kdV (nn := 24) (rest := []) (w' := (cMd cI cJ cZ a mb mg mx mf)) (wr := ([] : va_W)) (st1 := [.int y172]) ⟨hx, hb, hml, hown, hts⟩ (c_Md_isCatch l dC dI cI cJ cZ a x1 mb mg mx mf y172 hy) (cwV 1 hts (gd_V tw913 tw915 ps34 tw9 tw916) rfl rfl rfl hd_Md_isCatch ⟨Nat.le_of_ble_eq_true rfl, Nat.le_of_ble_eq_true rfl⟩) hNw hK hP hD hS hA (ci := 7) rfl rfl rfl [0, 1, 2, 3, 4, 5, 6, 7, 8, 9, 10, 11, 12, 13, 14, 15, 16, 17, 18, 19, 20, 21, 22, 23] [] rfl rfl rfl rfl rfl (by decide +kernel) (by decide +kernel) rfl hl.1 rfl (Nat.le_of_ble_eq_true rfl) rfl d_Md_mustReach_172 ⟨Nat.zero_le _, Nat.zero_le _⟩ (fun H locs hP hD hS => ?_)
                              refine lv_if_eq (tgt := 187) hx hb d_Md_mustReach_175 (by decide) (fun hc => ?_) (fun hc => ?_)
                              · have h := o_t hc h
                                refine lv_iconst (v := 1) hx hb d_Md_mustReach_187 (by decide) ?_
                                refine lv_goto (tgt := 192) hx hb d_Md_mustReach_188 (by decide) ?_
                                cases h
                                exact kr_z hx hb hr (by decide) hlocks hP hD hS d_Md_mustReach_192
                              · have h := o_f hc h
                                refine lv_aload_n hx hb d_Md_mustReach_178 rfl (lv_at hl 1 rfl) ?_
                                refine lv_iload_n hx hb d_Md_mustReach_179 rfl (lv_at hl 0 rfl) ?_
                                refine lv_iload_n hx hb d_Md_mustReach_180 rfl (lv_at hl 2 rfl) ?_
                                obtain ⟨y181, hy, h⟩ := o_bd h
                                refine kdV (nn := 24) (rest := []) (w' := (cMd cI cJ cZ a mb mg mx mf)) (wr := ([] : va_W)) (st1 := [.int y181]) ⟨hx, hb, hml, hown, hts⟩ (c_Md_catches l dC dI cI cJ cZ a N ((Mb_partOf mb) x1.toNatClampNeg) x1 mb mg mx mf y181 hy) (cwV 2 hts (gd_V tw921 tw923 ps36 tw9 tw924) rfl rfl rfl hd_Md_catches ⟨Nat.le_of_ble_eq_true rfl, Nat.le_of_ble_eq_true rfl⟩) hNw hK hP hD hS hA (ci := 7) rfl rfl rfl [0, 1, 2, 3, 4, 5, 6, 7, 8, 9, 10, 11, 12, 13, 14, 15, 16, 17, 18, 19, 20, 21, 22, 23] [] rfl rfl rfl rfl rfl (by decide +kernel) (by decide +kernel) rfl hl.1 rfl (Nat.le_of_ble_eq_true rfl) rfl d_Md_mustReach_181 ⟨Nat.zero_le _, Nat.zero_le _⟩ (fun H locs hP hD hS => ?_)
                                refine lv_if_eq (tgt := 191) hx hb d_Md_mustReach_184 (by decide) (fun hc => ?_) (fun hc => ?_)
                                · have h := o_t hc h
                                  refine lv_iconst (v := 0) hx hb d_Md_mustReach_191 (by decide) ?_
                                  cases h
                                  exact kr_z hx hb hr (by decide) hlocks hP hD hS d_Md_mustReach_192
                                · have h := o_f hc h
                                  refine lv_iconst (v := 1) hx hb d_Md_mustReach_187 (by decide) ?_
                                  refine lv_goto (tgt := 192) hx hb d_Md_mustReach_188 (by decide) ?_
                                  cases h
                                  exact kr_z hx hb hr (by decide) hlocks hP hD hS d_Md_mustReach_192
                            · have h := o_f hn11 h
                              refine lv_tableOut (tgt := 193) hx hb d_Md_mustReach_34 (by have g0 := sw_ne hn0 (show (5 : Int32).toInt = 5 by decide); have g1 := sw_ne hn1 (show (6 : Int32).toInt = 6 by decide); have g2 := sw_ne hn2 (show (7 : Int32).toInt = 7 by decide); have g3 := sw_ne hn3 (show (8 : Int32).toInt = 8 by decide); have g4 := sw_ne hn4 (show (9 : Int32).toInt = 9 by decide); have g5 := sw_ne hn5 (show (10 : Int32).toInt = 10 by decide); have g6 := sw_ne hn6 (show (11 : Int32).toInt = 11 by decide); have g7 := sw_ne hn7 (show (12 : Int32).toInt = 12 by decide); have g8 := sw_ne hn8 (show (13 : Int32).toInt = 13 by decide); have g9 := sw_ne hn9 (show (14 : Int32).toInt = 14 by decide); have g10 := sw_ne hn10 (show (15 : Int32).toInt = 15 by decide); have g11 := sw_ne hn11 (show (16 : Int32).toInt = 16 by decide); omega) (by decide) ?_
                              refine lv_iconst (v := 1) hx hb d_Md_mustReach_193 (by decide) ?_
                              cases h
                              exact kr_z hx hb hr (by decide) hlocks hP hD hS d_Md_mustReach_194
    · have h := o_t hc h
      refine lv_iconst (v := 0) hx hb d_Md_mustReach_26 (by decide) ?_
      cases h
      exact kr_z hx hb hr (by decide) hlocks hP hD hS d_Md_mustReach_27
  · have h := o_t hc h
    refine lv_iconst (v := 1) hx hb d_Md_mustReach_8 (by decide) ?_
    cases h
    exact kr_z hx hb hr (by decide) hlocks hP hD hS d_Md_mustReach_9
set_option maxHeartbeats 4000000 in
set_option maxRecDepth 100000 in
theorem c_Md_anyComplete (l : Launch) (dC : Nat → ClassId) (dI : Nat → Nat → Nat) (cI cJ cZ : ClassId) (a : Nat → Nat) (N : Nat) (x1 : Int32) (mb : MbS) (mg : MgS) (mx : MxS) (mf : MfS) (res : Int32) (h : f_Md_anyComplete N x1 mb mx = some res) :
    Kt l (dC, dI) classes [(cI, .int), (cJ, .long), (cZ, .boolean)] y_Md_anyComplete (wz y_Md_anyComplete b_Md_anyComplete 4 (some .boolean)) { frames := 0, cells := 0, slots := 0, locals := 0 } [.ref (a 0), .int x1] (cMd cI cJ cZ a mb mg mx mf) (some (.int res)) (cMd cI cJ cZ a mb mg mx mf) := by
  refine Kt_of (cc := b_Md_anyComplete) (maxL := 4) (ret := (some .boolean)) (by decide) (Nat.le_of_ble_eq_true rfl) ?_
  intro p e s m args below meth c A ls hx hb hr hml hlocks hown hts hNw hK hP hD hA hS hl
  have hl : lv_has ls 4 [(0, .ref (a 0)), (1, .int x1)] := hl
  have hP : va_P (dC, dI) classes (cMd cI cJ cZ a mb mg mx mf) s.heap := hP
  have L9 : ∀ (n9 : Nat) (s9 : Int32 × Int32) (H : Heap) (locs : List Loc) (ls : Array Slot), lp (f_Md_anyComplete_L9 N mb mx) n9 s9 = some res → va_P (dC, dI) classes (cMd cI cJ cZ a mb mg mx mf) H → va_D A (cMd cI cJ cZ a mb mg mx mf) → va_S A s.heap H locs → lv_has ls 4 [(0, .ref (a 0)), (2, .int s9.1), (3, .int s9.2)] → W p l e { frames := 0, cells := 0, slots := 0, locals := 0 } s m args below meth c H locs 0 0 (KZ below args s (dC, dI) classes (some (.int res)) (cMd cI cJ cZ a mb mg mx mf) A) (F0 m 9 ls []) := by
    intro n9
    induction n9 with
    | zero => intro _ _ _ _ h; exact (lp_0 h).elim
    | succ n9 ih9 =>
      intro s9 H locs ls h hP hD hS hl
      have h := lp_s h
      have B32 : ∀ (z0_32 : Int32) (x3_32 : Int32) (H : Heap) (locs : List Loc) (ls : Array Slot), f_Md_anyComplete_b32 N (lp (f_Md_anyComplete_L9 N mb mx) n9) z0_32 x3_32 mb mx = some res → va_P (dC, dI) classes (cMd cI cJ cZ a mb mg mx mf) H → va_D A (cMd cI cJ cZ a mb mg mx mf) → va_S A s.heap H locs → lv_has ls 4 [(0, .ref (a 0)), (3, .int x3_32)] → W p l e { frames := 0, cells := 0, slots := 0, locals := 0 } s m args below meth c H locs 0 0 (KZ below args s (dC, dI) classes (some (.int res)) (cMd cI cJ cZ a mb mg mx mf) A) (F0 m 32 ls [.int z0_32]) := by
        intro z0_32 x3_32 H locs ls h hP hD hS hl
        refine lv_istore_n (lv' := [(2, .int z0_32), (0, .ref (a 0)), (3, .int x3_32)]) hx hb d_Md_anyComplete_32 rfl hl (by decide) rfl (fun ls hl => ?_)
        refine lv_aload_n hx hb d_Md_anyComplete_33 rfl (lv_at hl 1 rfl) ?_
        refine va_get (D := (dC, dI)) (ci := 7) (v := .ref (a 8)) (C := R_Md) (T := F_Md) (N := 35) hx hb hts inb_Md hown hK hP 0 rfl rfl 9 (by decide) (hts _ tw696) (fun _ h9 => h9) rfl d_Md_anyComplete_34 ?_
        refine lv_iload_n hx hb d_Md_anyComplete_37 rfl (lv_at hl 2 rfl) ?_
        obtain ⟨hin, h⟩ := o_in h
        refine va_iald hx hb hK hP 8 0 rfl rfl hin d_Md_anyComplete_38 ?_
        refine lv_istore_n (lv' := [(3, .int ((Mb_next mb) x3_32.toNatClampNeg)), (2, .int z0_32), (0, .ref (a 0))]) hx hb d_Md_anyComplete_39 rfl hl (by decide) rfl (fun ls hl => ?_)
        refine lv_goto (tgt := 9) hx hb d_Md_anyComplete_40 (by decide) ?_
        exact ih9 (z0_32, ((Mb_next mb) x3_32.toNatClampNeg)) _ _ _ h hP hD hS (lv_sub hl [2, 1, 0] rfl)
      have B27 : ∀ (x3_27 : Int32) (H : Heap) (locs : List Loc) (ls : Array Slot), f_Md_anyComplete_b27 N (lp (f_Md_anyComplete_L9 N mb mx) n9) x3_27 mb mx = some res → va_P (dC, dI) classes (cMd cI cJ cZ a mb mg mx mf) H → va_D A (cMd cI cJ cZ a mb mg mx mf) → va_S A s.heap H locs → lv_has ls 4 [(0, .ref (a 0)), (3, .int x3_27)] → W p l e { frames := 0, cells := 0, slots := 0, locals := 0 } s m args below meth c H locs 0 0 (KZ below args s (dC, dI) classes (some (.int res)) (cMd cI cJ cZ a mb mg mx mf) A) (F0 m 27 ls []) := by
        intro x3_27 H locs ls h hP hD hS hl
        refine lv_iconst (v := 1) hx hb d_Md_anyComplete_27 (by decide) ?_
        refine lv_goto (tgt := 32) hx hb d_Md_anyComplete_28 (by decide) ?_
        exact B32 (1 : Int32) x3_27 _ _ _ h hP hD hS (lv_sub hl [0, 1] rfl)
      refine lv_iload_n hx hb d_Md_anyComplete_9 rfl (lv_at hl 2 rfl) ?_
      refine lv_iconst (v := -1) hx hb d_Md_anyComplete_10 (by decide) ?_
      refine lv_icmp_eq (tgt := 43) hx hb d_Md_anyComplete_11 (by decide) (fun hc => ?_) (fun hc => ?_)
      · have h := o_t hc h
        refine lv_iload_n hx hb d_Md_anyComplete_43 rfl (lv_at hl 1 rfl) ?_
        obtain ⟨hbo, h⟩ := o_bo h
        cases h
        exact kr_z hx hb hr hbo hlocks hP hD hS d_Md_anyComplete_44
      · have h := o_f hc h
        refine lv_iload_n hx hb d_Md_anyComplete_14 rfl (lv_at hl 1 rfl) ?_
        refine lv_if_ne (tgt := 27) hx hb d_Md_anyComplete_15 (by decide) (fun hc => ?_) (fun hc => ?_)
        · have h := o_f hc h
          exact B27 s9.2 _ _ _ h hP hD hS (lv_sub hl [0, 2] rfl)
        · have h := o_t hc h
          refine lv_aload_n hx hb d_Md_anyComplete_18 rfl (lv_at hl 0 rfl) ?_
          refine va_get (D := (dC, dI)) (ci := 7) (v := .ref (a 17)) (C := R_Md) (T := F_Md) (N := 35) hx hb hts inb_Md hown hK hP 0 rfl rfl 25 (by decide) (hts _ tw712) (fun _ h9 => h9) rfl d_Md_anyComplete_19 ?_
          refine lv_iload_n hx hb d_Md_anyComplete_22 rfl (lv_at hl 2 rfl) ?_
          obtain ⟨hin, h⟩ := o_in h
          refine va_zald hx hb hK hP 17 2 rfl rfl hin d_Md_anyComplete_23 ?_
          refine lv_if_eq (tgt := 31) hx hb d_Md_anyComplete_24 (by decide) (fun hc => ?_) (fun hc => ?_)
          · have h := o_t hc h
            refine lv_iconst (v := 0) hx hb d_Md_anyComplete_31 (by decide) ?_
            exact B32 (0 : Int32) s9.2 _ _ _ h hP hD hS (lv_sub hl [0, 2] rfl)
          · have h := o_f hc h
            exact B27 s9.2 _ _ _ h hP hD hS (lv_sub hl [0, 2] rfl)
  refine lv_iconst (v := 0) hx hb d_Md_anyComplete_0 (by decide) ?_
  refine lv_istore_n (lv' := [(2, .int (0 : Int32)), (0, .ref (a 0)), (1, .int x1)]) hx hb d_Md_anyComplete_1 rfl hl (by decide) rfl (fun ls hl => ?_)
  refine lv_aload_n hx hb d_Md_anyComplete_2 rfl (lv_at hl 1 rfl) ?_
  refine va_get (D := (dC, dI)) (ci := 7) (v := .ref (a 6)) (C := R_Md) (T := F_Md) (N := 35) hx hb hts inb_Md hown hK hP 0 rfl rfl 7 (by decide) (hts _ tw694) (fun _ h9 => h9) rfl d_Md_anyComplete_3 ?_
  refine lv_iload_n hx hb d_Md_anyComplete_6 rfl (lv_at hl 2 rfl) ?_
  obtain ⟨hin, h⟩ := o_in h
  refine va_iald hx hb hK hP 6 0 rfl rfl hin d_Md_anyComplete_7 ?_
  refine lv_istore_n (lv' := [(3, .int ((Mb_first mb) x1.toNatClampNeg)), (2, .int (0 : Int32)), (0, .ref (a 0)), (1, .int x1)]) hx hb d_Md_anyComplete_8 rfl hl (by decide) rfl (fun ls hl => ?_)
  exact L9 N ((0 : Int32), ((Mb_first mb) x1.toNatClampNeg)) _ _ _ h hP hD hS (lv_sub hl [2, 1, 0] rfl)
