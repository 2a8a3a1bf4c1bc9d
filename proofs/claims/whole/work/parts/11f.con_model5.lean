set_option maxHeartbeats 4000000 in
set_option maxRecDepth 100000 in
theorem c_Md_fault (l : Launch) (dC : Nat → ClassId) (dI : Nat → Nat → Nat) (cI cJ cZ : ClassId) (a : Nat → Nat) (x1 : Int32) (x2 : Int32) (mb : MbS) (mg : MgS) (mx : MxS) (mf : MfS) (res : Int32) (h : f_Md_fault x1 x2 mg mf = some res) :
    Kt l (dC, dI) classes [(cI, .int), (cJ, .long), (cZ, .boolean)] y_Md_fault (wz y_Md_fault b_Md_fault 3 (some .int)) { frames := 1, cells := 0, slots := 0, locals := 22 } [.ref (a 0), .int x1, .int x2] (cMd cI cJ cZ a mb mg mx mf) (some (.int res)) (cMd cI cJ cZ a mb mg mx mf) := by
  refine Kt_of (cc := b_Md_fault) (maxL := 3) (ret := (some .int)) (by decide) (Nat.le_of_ble_eq_true rfl) ?_
  intro p e s m args below meth c A ls hx hb hr hml hlocks hown hts hNw hK hP hD hA hS hl
  have hl : lv_has ls 3 [(0, .ref (a 0)), (1, .int x1), (2, .int x2)] := hl
  have hP : va_P (dC, dI) classes (cMd cI cJ cZ a mb mg mx mf) s.heap := hP
  refine lv_aload_n hx hb d_Md_fault_0 rfl (lv_at hl 0 rfl) ?_
  refine va_get (D := (dC, dI)) (ci := 7) (v := .int (Mg_root mg)) (C := R_Md) (T := F_Md) (N := 35) hx hb hts inb_Md hown hK hP 0 rfl rfl 18 (by decide) (hts _ tw705) (fun _ h9 => h9) rfl d_Md_fault_1 ?_
  refine lv_iconst (v := -1) hx hb d_Md_fault_4 (by decide) ?_
  refine lv_icmp_eq (tgt := 31) hx hb d_Md_fault_5 (by decide) (fun hc => ?_) (fun hc => ?_)
  · have h := o_t hc h
    refine lv_bipush (v := -2) hx hb d_Md_fault_31 (by decide) ?_
    cases h
    exact kr_i hx hb hr hlocks hP hD hS d_Md_fault_33
  · have h := o_f hc h
    refine lv_iload_n hx hb d_Md_fault_8 rfl (lv_at hl 1 rfl) ?_
    refine lv_iconst (v := 0) hx hb d_Md_fault_9 (by decide) ?_
    refine lv_aload_n hx hb d_Md_fault_10 rfl (lv_at hl 0 rfl) ?_
    refine va_get (D := (dC, dI)) (ci := 7) (v := .int (Mf_faults mf)) (C := R_Md) (T := F_Md) (N := 35) hx hb hts inb_Md hown hK hP 0 rfl rfl 30 (by decide) (hts _ tw717) (fun _ h9 => h9) rfl d_Md_fault_11 ?_
    refine lv_iconst (v := 1) hx hb d_Md_fault_14 (by decide) ?_
    refine lv_isub hx hb d_Md_fault_15 ?_
    obtain ⟨y16, hy, h⟩ := o_bd h
    refine kdS (nn := 24) (rest := []) (w' := (cMd cI cJ cZ a mb mg mx mf)) (wr := (cMd cI cJ cZ a mb mg mx mf)) (st1 := [.int y16]) ⟨hx, hb, hml, hown, hts⟩ (c_Md_isIn l dC dI cI cJ cZ a x1 (0 : Int32) ((Mf_faults mf) - (1 : Int32)) y16 hy) (va_cwS 3 hts (gd_S tw806 tw807 tw9 tw808) rfl rfl rfl hd_Md_isIn.2 ⟨Nat.le_of_ble_eq_true rfl, Nat.le_of_ble_eq_true rfl⟩) hNw hK hP hD hS hA [] [0, 1, 2, 3, 4, 5, 6, 7, 8, 9, 10, 11, 12, 13, 14, 15, 16, 17, 18, 19, 20, 21, 22, 23] rfl rfl rfl rfl rfl (by decide +kernel) (by decide +kernel) rfl hl.1 rfl (Nat.le_of_ble_eq_true rfl) rfl d_Md_fault_16 ⟨Nat.zero_le _, Nat.zero_le _⟩ (fun H locs hP hD hS => ?_)
    refine lv_if_eq (tgt := 31) hx hb d_Md_fault_19 (by decide) (fun hc => ?_) (fun hc => ?_)
    · have h := o_t hc h
      refine lv_bipush (v := -2) hx hb d_Md_fault_31 (by decide) ?_
      cases h
      exact kr_i hx hb hr hlocks hP hD hS d_Md_fault_33
    · have h := o_f hc h
      refine lv_iload_n hx hb d_Md_fault_22 rfl (lv_at hl 2 rfl) ?_
      refine lv_iconst (v := 0) hx hb d_Md_fault_23 (by decide) ?_
      refine lv_iconst (v := 1) hx hb d_Md_fault_24 (by decide) ?_
      obtain ⟨y25, hy, h⟩ := o_bd h
      refine kdS (nn := 24) (rest := []) (w' := (cMd cI cJ cZ a mb mg mx mf)) (wr := (cMd cI cJ cZ a mb mg mx mf)) (st1 := [.int y25]) ⟨hx, hb, hml, hown, hts⟩ (c_Md_isIn l dC dI cI cJ cZ a x2 (0 : Int32) (1 : Int32) y25 hy) (va_cwS 3 hts (gd_S tw806 tw807 tw9 tw808) rfl rfl rfl hd_Md_isIn.2 ⟨Nat.le_of_ble_eq_true rfl, Nat.le_of_ble_eq_true rfl⟩) hNw hK hP hD hS hA [] [0, 1, 2, 3, 4, 5, 6, 7, 8, 9, 10, 11, 12, 13, 14, 15, 16, 17, 18, 19, 20, 21, 22, 23] rfl rfl rfl rfl rfl (by decide +kernel) (by decide +kernel) rfl hl.1 rfl (Nat.le_of_ble_eq_true rfl) rfl d_Md_fault_25 ⟨Nat.zero_le _, Nat.zero_le _⟩ (fun H locs hP hD hS => ?_)
      refine lv_if_ne (tgt := 34) hx hb d_Md_fault_28 (by decide) (fun hc => ?_) (fun hc => ?_)
      · have h := o_f hc h
        refine lv_iload_n hx hb d_Md_fault_34 rfl (lv_at hl 2 rfl) ?_
        refine lv_if_ne (tgt := 47) hx hb d_Md_fault_35 (by decide) (fun hc => ?_) (fun hc => ?_)
        · have h := o_f hc h
          refine lv_aload_n hx hb d_Md_fault_47 rfl (lv_at hl 0 rfl) ?_
          refine va_get (D := (dC, dI)) (ci := 7) (v := .ref (a 22)) (C := R_Md) (T := F_Md) (N := 35) hx hb hts inb_Md hown hK hP 0 rfl rfl 32 (by decide) (hts _ tw719) (fun _ h9 => h9) rfl d_Md_fault_48 ?_
          refine lv_iload_n hx hb d_Md_fault_51 rfl (lv_at hl 1 rfl) ?_
          obtain ⟨hin, h⟩ := o_in h
          refine va_iald hx hb hK hP 22 0 rfl rfl hin d_Md_fault_52 ?_
          cases h
          exact kr_i hx hb hr hlocks hP hD hS d_Md_fault_53
        · have h := o_t hc h
          refine lv_aload_n hx hb d_Md_fault_38 rfl (lv_at hl 0 rfl) ?_
          refine va_get (D := (dC, dI)) (ci := 7) (v := .ref (a 21)) (C := R_Md) (T := F_Md) (N := 35) hx hb hts inb_Md hown hK hP 0 rfl rfl 31 (by decide) (hts _ tw718) (fun _ h9 => h9) rfl d_Md_fault_39 ?_
          refine lv_iload_n hx hb d_Md_fault_42 rfl (lv_at hl 1 rfl) ?_
          obtain ⟨hin, h⟩ := o_in h
          refine va_iald hx hb hK hP 21 0 rfl rfl hin d_Md_fault_43 ?_
          refine lv_goto (tgt := 53) hx hb d_Md_fault_44 (by decide) ?_
          cases h
          exact kr_i hx hb hr hlocks hP hD hS d_Md_fault_53
      · have h := o_t hc h
        refine lv_bipush (v := -2) hx hb d_Md_fault_31 (by decide) ?_
        cases h
        exact kr_i hx hb hr hlocks hP hD hS d_Md_fault_33
set_option maxHeartbeats 4000000 in
set_option maxRecDepth 100000 in
theorem c_Md_notes (l : Launch) (dC : Nat → ClassId) (dI : Nat → Nat → Nat) (cI cJ cZ : ClassId) (a : Nat → Nat) (mb : MbS) (mg : MgS) (mx : MxS) (mf : MfS) (res : Int32) (h : f_Md_notes mg mf = some res) :
    Kt l (dC, dI) classes [(cI, .int), (cJ, .long), (cZ, .boolean)] y_Md_notes (wz y_Md_notes b_Md_notes 1 (some .int)) { frames := 0, cells := 0, slots := 0, locals := 0 } [.ref (a 0)] (cMd cI cJ cZ a mb mg mx mf) (some (.int res)) (cMd cI cJ cZ a mb mg mx mf) := by
  refine Kt_of (cc := b_Md_notes) (maxL := 1) (ret := (some .int)) (by decide) (Nat.le_of_ble_eq_true rfl) ?_
  intro p e s m args below meth c A ls hx hb hr hml hlocks hown hts hNw hK hP hD hA hS hl
  have hl : lv_has ls 1 [(0, .ref (a 0))] := hl
  have hP : va_P (dC, dI) classes (cMd cI cJ cZ a mb mg mx mf) s.heap := hP
  refine lv_aload_n hx hb d_Md_notes_0 rfl (lv_at hl 0 rfl) ?_
  refine va_get (D := (dC, dI)) (ci := 7) (v := .int (Mg_root mg)) (C := R_Md) (T := F_Md) (N := 35) hx hb hts inb_Md hown hK hP 0 rfl rfl 18 (by decide) (hts _ tw705) (fun _ h9 => h9) rfl d_Md_notes_1 ?_
  refine lv_iconst (v := -1) hx hb d_Md_notes_4 (by decide) ?_
  refine lv_icmp_ne (tgt := 12) hx hb d_Md_notes_5 (by decide) (fun hc => ?_) (fun hc => ?_)
  · have h := o_f hc h
    refine lv_aload_n hx hb d_Md_notes_12 rfl (lv_at hl 0 rfl) ?_
    refine va_get (D := (dC, dI)) (ci := 7) (v := .int (Mf_noted mf)) (C := R_Md) (T := F_Md) (N := 35) hx hb hts inb_Md hown hK hP 0 rfl rfl 33 (by decide) (hts _ tw720) (fun _ h9 => h9) rfl d_Md_notes_13 ?_
    cases h
    exact kr_i hx hb hr hlocks hP hD hS d_Md_notes_16
  · have h := o_t hc h
    refine lv_iconst (v := 0) hx hb d_Md_notes_8 (by decide) ?_
    refine lv_goto (tgt := 16) hx hb d_Md_notes_9 (by decide) ?_
    cases h
    exact kr_i hx hb hr hlocks hP hD hS d_Md_notes_16
set_option maxHeartbeats 4000000 in
set_option maxRecDepth 100000 in
theorem c_Md_note (l : Launch) (dC : Nat → ClassId) (dI : Nat → Nat → Nat) (cI cJ cZ : ClassId) (a : Nat → Nat) (x1 : Int32) (mb : MbS) (mg : MgS) (mx : MxS) (mf : MfS) (res : Int32) (h : f_Md_note x1 mg mf = some res) :
    Kt l (dC, dI) classes [(cI, .int), (cJ, .long), (cZ, .boolean)] y_Md_note (wz y_Md_note b_Md_note 2 (some .int)) { frames := 1, cells := 0, slots := 0, locals := 22 } [.ref (a 0), .int x1] (cMd cI cJ cZ a mb mg mx mf) (some (.int res)) (cMd cI cJ cZ a mb mg mx mf) := by
  refine Kt_of (cc := b_Md_note) (maxL := 2) (ret := (some .int)) (by decide) (Nat.le_of_ble_eq_true rfl) ?_
  intro p e s m args below meth c A ls hx hb hr hml hlocks hown hts hNw hK hP hD hA hS hl
  have hl : lv_has ls 2 [(0, .ref (a 0)), (1, .int x1)] := hl
  have hP : va_P (dC, dI) classes (cMd cI cJ cZ a mb mg mx mf) s.heap := hP
  refine lv_aload_n hx hb d_Md_note_0 rfl (lv_at hl 0 rfl) ?_
  refine va_get (D := (dC, dI)) (ci := 7) (v := .int (Mg_root mg)) (C := R_Md) (T := F_Md) (N := 35) hx hb hts inb_Md hown hK hP 0 rfl rfl 18 (by decide) (hts _ tw705) (fun _ h9 => h9) rfl d_Md_note_1 ?_
  refine lv_iconst (v := -1) hx hb d_Md_note_4 (by decide) ?_
  refine lv_icmp_eq (tgt := 22) hx hb d_Md_note_5 (by decide) (fun hc => ?_) (fun hc => ?_)
  · have h := o_t hc h
    refine lv_bipush (v := -2) hx hb d_Md_note_22 (by decide) ?_
    refine lv_goto (tgt := 33) hx hb d_Md_note_24 (by decide) ?_
    cases h
    exact kr_i hx hb hr hlocks hP hD hS d_Md_note_33
  · have h := o_f hc h
    refine lv_iload_n hx hb d_Md_note_8 rfl (lv_at hl 1 rfl) ?_
    refine lv_iconst (v := 0) hx hb d_Md_note_9 (by decide) ?_
    refine lv_aload_n hx hb d_Md_note_10 rfl (lv_at hl 0 rfl) ?_
    refine va_get (D := (dC, dI)) (ci := 7) (v := .int (Mf_noted mf)) (C := R_Md) (T := F_Md) (N := 35) hx hb hts inb_Md hown hK hP 0 rfl rfl 33 (by decide) (hts _ tw720) (fun _ h9 => h9) rfl d_Md_note_11 ?_
    refine lv_iconst (v := 1) hx hb d_Md_note_14 (by decide) ?_
    refine lv_isub hx hb d_Md_note_15 ?_
    obtain ⟨y16, hy, h⟩ := o_bd h
    refine kdS (nn := 24) (rest := []) (w' := (cMd cI cJ cZ a mb mg mx mf)) (wr := (cMd cI cJ cZ a mb mg mx mf)) (st1 := [.int y16]) ⟨hx, hb, hml, hown, hts⟩ (c_Md_isIn l dC dI cI cJ cZ a x1 (0 : Int32) ((Mf_noted mf) - (1 : Int32)) y16 hy) (va_cwS 3 hts (gd_S tw806 tw807 tw9 tw808) rfl rfl rfl hd_Md_isIn.2 ⟨Nat.le_of_ble_eq_true rfl, Nat.le_of_ble_eq_true rfl⟩) hNw hK hP hD hS hA [] [0, 1, 2, 3, 4, 5, 6, 7, 8, 9, 10, 11, 12, 13, 14, 15, 16, 17, 18, 19, 20, 21, 22, 23] rfl rfl rfl rfl rfl (by decide +kernel) (by decide +kernel) rfl hl.1 rfl (Nat.le_of_ble_eq_true rfl) rfl d_Md_note_16 ⟨Nat.zero_le _, Nat.zero_le _⟩ (fun H locs hP hD hS => ?_)
    refine lv_if_ne (tgt := 27) hx hb d_Md_note_19 (by decide) (fun hc => ?_) (fun hc => ?_)
    · have h := o_f hc h
      refine lv_aload_n hx hb d_Md_note_27 rfl (lv_at hl 0 rfl) ?_
      refine va_get (D := (dC, dI)) (ci := 7) (v := .ref (a 23)) (C := R_Md) (T := F_Md) (N := 35) hx hb hts inb_Md hown hK hP 0 rfl rfl 34 (by decide) (hts _ tw721) (fun _ h9 => h9) rfl d_Md_note_28 ?_
      refine lv_iload_n hx hb d_Md_note_31 rfl (lv_at hl 1 rfl) ?_
      obtain ⟨hin, h⟩ := o_in h
      refine va_iald hx hb hK hP 23 0 rfl rfl hin d_Md_note_32 ?_
      cases h
      exact kr_i hx hb hr hlocks hP hD hS d_Md_note_33
    · have h := o_t hc h
      refine lv_bipush (v := -2) hx hb d_Md_note_22 (by decide) ?_
      refine lv_goto (tgt := 33) hx hb d_Md_note_24 (by decide) ?_
      cases h
      exact kr_i hx hb hr hlocks hP hD hS d_Md_note_33
set_option maxHeartbeats 4000000 in
set_option maxRecDepth 100000 in
theorem c_Md_reached (l : Launch) (dC : Nat → ClassId) (dI : Nat → Nat → Nat) (cI cJ cZ : ClassId) (a : Nat → Nat) (x1 : Int32) (mb : MbS) (mg : MgS) (mx : MxS) (mf : MfS) (res : Int32) (h : f_Md_reached x1 mb mg mx = some res) :
    Kt l (dC, dI) classes [(cI, .int), (cJ, .long), (cZ, .boolean)] y_Md_reached (wz y_Md_reached b_Md_reached 2 (some .boolean)) { frames := 3, cells := 0, slots := 0, locals := 64 } [.ref (a 0), .int x1] (cMd cI cJ cZ a mb mg mx mf) (some (.int res)) (cMd cI cJ cZ a mb mg mx mf) := by
  refine Kt_of (cc := b_Md_reached) (maxL := 2) (ret := (some .boolean)) (by decide) (Nat.le_of_ble_eq_true rfl) ?_
  intro p e s m args below meth c A ls hx hb hr hml hlocks hown hts hNw hK hP hD hA hS hl
  have hl : lv_has ls 2 [(0, .ref (a 0)), (1, .int x1)] := hl
  have hP : va_P (dC, dI) classes (cMd cI cJ cZ a mb mg mx mf) s.heap := hP
  refine lv_aload_n hx hb d_Md_reached_0 rfl (lv_at hl 0 rfl) ?_
  refine lv_iload_n hx hb d_Md_reached_1 rfl (lv_at hl 1 rfl) ?_
  obtain ⟨y2, hy, h⟩ := o_bd h
  refine kdV (nn := 24) (rest := []) (w' := (cMd cI cJ cZ a mb mg mx mf)) (wr := ([] : va_W)) (st1 := [.int y2]) ⟨hx, hb, hml, hown, hts⟩ (c_Md_isAsked l dC dI cI cJ cZ a x1 mb mg mx mf y2 hy) (cwV 1 hts (gd_V tw1041 tw1043 ps62 tw9 tw1044) rfl rfl rfl hd_Md_isAsked ⟨Nat.le_of_ble_eq_true rfl, Nat.le_of_ble_eq_true rfl⟩) hNw hK hP hD hS hA (ci := 7) rfl rfl rfl [0, 1, 2, 3, 4, 5, 6, 7, 8, 9, 10, 11, 12, 13, 14, 15, 16, 17, 18, 19, 20, 21, 22, 23] [] rfl rfl rfl rfl rfl (by decide +kernel) (by decide +kernel) rfl hl.1 rfl (Nat.le_of_ble_eq_true rfl) rfl d_Md_reached_2 ⟨Nat.zero_le _, Nat.zero_le _⟩ (fun H locs hP hD hS => ?_)
  refine lv_if_eq (tgt := 21) hx hb d_Md_reached_5 (by decide) (fun hc => ?_) (fun hc => ?_)
  · have h := o_t hc h
    refine lv_iconst (v := 0) hx hb d_Md_reached_21 (by decide) ?_
    cases h
    exact kr_z hx hb hr (by decide) hlocks hP hD hS d_Md_reached_22
  · have h := o_f hc h
    refine lv_aload_n hx hb d_Md_reached_8 rfl (lv_at hl 0 rfl) ?_
    refine va_get (D := (dC, dI)) (ci := 7) (v := .ref (a 16)) (C := R_Md) (T := F_Md) (N := 35) hx hb hts inb_Md hown hK hP 0 rfl rfl 24 (by decide) (hts _ tw711) (fun _ h9 => h9) rfl d_Md_reached_9 ?_
    refine lv_iload_n hx hb d_Md_reached_12 rfl (lv_at hl 1 rfl) ?_
    obtain ⟨hin, h⟩ := o_in h
    refine va_zald hx hb hK hP 16 2 rfl rfl hin d_Md_reached_13 ?_
    refine lv_if_eq (tgt := 21) hx hb d_Md_reached_14 (by decide) (fun hc => ?_) (fun hc => ?_)
    · have h := o_t hc h
      refine lv_iconst (v := 0) hx hb d_Md_reached_21 (by decide) ?_
      cases h
      exact kr_z hx hb hr (by decide) hlocks hP hD hS d_Md_reached_22
    · have h := o_f hc h
      refine lv_iconst (v := 1) hx hb d_Md_reached_17 (by decide) ?_
      refine lv_goto (tgt := 22) hx hb d_Md_reached_18 (by decide) ?_
      cases h
      exact kr_z hx hb hr (by decide) hlocks hP hD hS d_Md_reached_22
set_option maxHeartbeats 4000000 in
set_option maxRecDepth 100000 in
theorem c_Md_completes (l : Launch) (dC : Nat → ClassId) (dI : Nat → Nat → Nat) (cI cJ cZ : ClassId) (a : Nat → Nat) (x1 : Int32) (mb : MbS) (mg : MgS) (mx : MxS) (mf : MfS) (res : Int32) (h : f_Md_completes x1 mb mg mx = some res) :
    Kt l (dC, dI) classes [(cI, .int), (cJ, .long), (cZ, .boolean)] y_Md_completes (wz y_Md_completes b_Md_completes 2 (some .boolean)) { frames := 3, cells := 0, slots := 0, locals := 64 } [.ref (a 0), .int x1] (cMd cI cJ cZ a mb mg mx mf) (some (.int res)) (cMd cI cJ cZ a mb mg mx mf) := by
  refine Kt_of (cc := b_Md_completes) (maxL := 2) (ret := (some .boolean)) (by decide) (Nat.le_of_ble_eq_true rfl) ?_
  intro p e s m args below meth c A ls hx hb hr hml hlocks hown hts hNw hK hP hD hA hS hl
  have hl : lv_has ls 2 [(0, .ref (a 0)), (1, .int x1)] := hl
  have hP : va_P (dC, dI) classes (cMd cI cJ cZ a mb mg mx mf) s.heap := hP
  refine lv_aload_n hx hb d_Md_completes_0 rfl (lv_at hl 0 rfl) ?_
  refine lv_iload_n hx hb d_Md_completes_1 rfl (lv_at hl 1 rfl) ?_
  obtain ⟨y2, hy, h⟩ := o_bd h
  refine kdV (nn := 24) (rest := []) (w' := (cMd cI cJ cZ a mb mg mx mf)) (wr := ([] : va_W)) (st1 := [.int y2]) ⟨hx, hb, hml, hown, hts⟩ (c_Md_isAsked l dC dI cI cJ cZ a x1 mb mg mx mf y2 hy) (cwV 1 hts (gd_V tw1041 tw1043 ps62 tw9 tw1044) rfl rfl rfl hd_Md_isAsked ⟨Nat.le_of_ble_eq_true rfl, Nat.le_of_ble_eq_true rfl⟩) hNw hK hP hD hS hA (ci := 7) rfl rfl rfl [0, 1, 2, 3, 4, 5, 6, 7, 8, 9, 10, 11, 12, 13, 14, 15, 16, 17, 18, 19, 20, 21, 22, 23] [] rfl rfl rfl rfl rfl (by decide +kernel) (by decide +kernel) rfl hl.1 rfl (Nat.le_of_ble_eq_true rfl) rfl d_Md_completes_2 ⟨Nat.zero_le _, Nat.zero_le _⟩ (fun H locs hP hD hS => ?_)
  refine lv_if_eq (tgt := 21) hx hb d_Md_completes_5 (by decide) (fun hc => ?_) (fun hc => ?_)
  · have h := o_t hc h
    refine lv_iconst (v := 0) hx hb d_Md_completes_21 (by decide) ?_
    cases h
    exact kr_z hx hb hr (by decide) hlocks hP hD hS d_Md_completes_22
  · have h := o_f hc h
    refine lv_aload_n hx hb d_Md_completes_8 rfl (lv_at hl 0 rfl) ?_
    refine va_get (D := (dC, dI)) (ci := 7) (v := .ref (a 17)) (C := R_Md) (T := F_Md) (N := 35) hx hb hts inb_Md hown hK hP 0 rfl rfl 25 (by decide) (hts _ tw712) (fun _ h9 => h9) rfl d_Md_completes_9 ?_
    refine lv_iload_n hx hb d_Md_completes_12 rfl (lv_at hl 1 rfl) ?_
    obtain ⟨hin, h⟩ := o_in h
    refine va_zald hx hb hK hP 17 2 rfl rfl hin d_Md_completes_13 ?_
    refine lv_if_eq (tgt := 21) hx hb d_Md_completes_14 (by decide) (fun hc => ?_) (fun hc => ?_)
    · have h := o_t hc h
      refine lv_iconst (v := 0) hx hb d_Md_completes_21 (by decide) ?_
      cases h
      exact kr_z hx hb hr (by decide) hlocks hP hD hS d_Md_completes_22
    · have h := o_f hc h
      refine lv_iconst (v := 1) hx hb d_Md_completes_17 (by decide) ?_
      refine lv_goto (tgt := 22) hx hb d_Md_completes_18 (by decide) ?_
      cases h
      exact kr_z hx hb hr (by decide) hlocks hP hD hS d_Md_completes_22
set_option maxHeartbeats 4000000 in
set_option maxRecDepth 100000 in
theorem c_Md_can (l : Launch) (dC : Nat → ClassId) (dI : Nat → Nat → Nat) (cI cJ cZ : ClassId) (a : Nat → Nat) (x1 : Int32) (x2 : Int32) (mb : MbS) (mg : MgS) (mx : MxS) (mf : MfS) (res : Int32) (h : f_Md_can x1 x2 mb mg mx = some res) :
    Kt l (dC, dI) classes [(cI, .int), (cJ, .long), (cZ, .boolean)] y_Md_can (wz y_Md_can b_Md_can 3 (some .int)) { frames := 3, cells := 0, slots := 0, locals := 64 } [.ref (a 0), .int x1, .int x2] (cMd cI cJ cZ a mb mg mx mf) (some (.int res)) (cMd cI cJ cZ a mb mg mx mf) := by
  refine Kt_of (cc := b_Md_can) (maxL := 3) (ret := (some .int)) (by decide) (Nat.le_of_ble_eq_true rfl) ?_
  intro p e s m args below meth c A ls hx hb hr hml hlocks hown hts hNw hK hP hD hA hS hl
  have hl : lv_has ls 3 [(0, .ref (a 0)), (1, .int x1), (2, .int x2)] := hl
  have hP : va_P (dC, dI) classes (cMd cI cJ cZ a mb mg mx mf) s.heap := hP
  refine lv_aload_n hx hb d_Md_can_0 rfl (lv_at hl 0 rfl) ?_
  refine lv_iload_n hx hb d_Md_can_1 rfl (lv_at hl 1 rfl) ?_
  obtain ⟨y2, hy, h⟩ := o_bd h
  refine kdV (nn := 24) (rest := []) (w' := (cMd cI cJ cZ a mb mg mx mf)) (wr := ([] : va_W)) (st1 := [.int y2]) ⟨hx, hb, hml, hown, hts⟩ (c_Md_isNode l dC dI cI cJ cZ a x1 mb mg mx mf y2 hy) (cwV 1 hts (gd_V tw821 tw823 ps21 tw9 tw824) rfl rfl rfl hd_Md_isNode ⟨Nat.le_of_ble_eq_true rfl, Nat.le_of_ble_eq_true rfl⟩) hNw hK hP hD hS hA (ci := 7) rfl rfl rfl [0, 1, 2, 3, 4, 5, 6, 7, 8, 9, 10, 11, 12, 13, 14, 15, 16, 17, 18, 19, 20, 21, 22, 23] [] rfl rfl rfl rfl rfl (by decide +kernel) (by decide +kernel) rfl hl.1 rfl (Nat.le_of_ble_eq_true rfl) rfl d_Md_can_2 ⟨Nat.zero_le _, Nat.zero_le _⟩ (fun H locs hP hD hS => ?_)
  refine lv_if_eq (tgt := 16) hx hb d_Md_can_5 (by decide) (fun hc => ?_) (fun hc => ?_)
  · have h := o_t hc h
    refine lv_bipush (v := -2) hx hb d_Md_can_16 (by decide) ?_
    cases h
    exact kr_i hx hb hr hlocks hP hD hS d_Md_can_18
  · have h := o_f hc h
    refine lv_aload_n hx hb d_Md_can_8 rfl (lv_at hl 0 rfl) ?_
    refine lv_iload_n hx hb d_Md_can_9 rfl (lv_at hl 2 rfl) ?_
    obtain ⟨y10, hy, h⟩ := o_bd h
    refine kdV (nn := 24) (rest := []) (w' := (cMd cI cJ cZ a mb mg mx mf)) (wr := ([] : va_W)) (st1 := [.int y10]) ⟨hx, hb, hml, hown, hts⟩ (c_Md_isKind l dC dI cI cJ cZ a x2 mb mg mx mf y10 hy) (cwV 1 hts (gd_V tw802 tw804 ps18 tw9 tw805) rfl rfl rfl hd_Md_isKind ⟨Nat.le_of_ble_eq_true rfl, Nat.le_of_ble_eq_true rfl⟩) hNw hK hP hD hS hA (ci := 7) rfl rfl rfl [0, 1, 2, 3, 4, 5, 6, 7, 8, 9, 10, 11, 12, 13, 14, 15, 16, 17, 18, 19, 20, 21, 22, 23] [] rfl rfl rfl rfl rfl (by decide +kernel) (by decide +kernel) rfl hl.1 rfl (Nat.le_of_ble_eq_true rfl) rfl d_Md_can_10 ⟨Nat.zero_le _, Nat.zero_le _⟩ (fun H locs hP hD hS => ?_)
    refine lv_if_ne (tgt := 19) hx hb d_Md_can_13 (by decide) (fun hc => ?_) (fun hc => ?_)
    · have h := o_f hc h
      refine lv_aload_n hx hb d_Md_can_19 rfl (lv_at hl 0 rfl) ?_
      refine lv_iload_n hx hb d_Md_can_20 rfl (lv_at hl 1 rfl) ?_
      obtain ⟨y21, hy, h⟩ := o_bd h
      refine kdV (nn := 24) (rest := []) (w' := (cMd cI cJ cZ a mb mg mx mf)) (wr := ([] : va_W)) (st1 := [.int y21]) ⟨hx, hb, hml, hown, hts⟩ (c_Md_isAsked l dC dI cI cJ cZ a x1 mb mg mx mf y21 hy) (cwV 1 hts (gd_V tw1041 tw1043 ps62 tw9 tw1044) rfl rfl rfl hd_Md_isAsked ⟨Nat.le_of_ble_eq_true rfl, Nat.le_of_ble_eq_true rfl⟩) hNw hK hP hD hS hA (ci := 7) rfl rfl rfl [0, 1, 2, 3, 4, 5, 6, 7, 8, 9, 10, 11, 12, 13, 14, 15, 16, 17, 18, 19, 20, 21, 22, 23] [] rfl rfl rfl rfl rfl (by decide +kernel) (by decide +kernel) rfl hl.1 rfl (Nat.le_of_ble_eq_true rfl) rfl d_Md_can_21 ⟨Nat.zero_le _, Nat.zero_le _⟩ (fun H locs hP hD hS => ?_)
      refine lv_if_eq (tgt := 45) hx hb d_Md_can_24 (by decide) (fun hc => ?_) (fun hc => ?_)
      · have h := o_t hc h
        refine lv_iconst (v := 0) hx hb d_Md_can_45 (by decide) ?_
        cases h
        exact kr_i hx hb hr hlocks hP hD hS d_Md_can_46
      · have h := o_f hc h
        refine lv_aload_n hx hb d_Md_can_27 rfl (lv_at hl 0 rfl) ?_
        refine va_get (D := (dC, dI)) (ci := 7) (v := .ref (a 18)) (C := R_Md) (T := F_Md) (N := 35) hx hb hts inb_Md hown hK hP 0 rfl rfl 26 (by decide) (hts _ tw713) (fun _ h9 => h9) rfl d_Md_can_28 ?_
        refine lv_bipush (v := 12) hx hb d_Md_can_31 (by decide) ?_
        refine lv_iload_n hx hb d_Md_can_33 rfl (lv_at hl 1 rfl) ?_
        refine lv_imul hx hb d_Md_can_34 ?_
        refine lv_iload_n hx hb d_Md_can_35 rfl (lv_at hl 2 rfl) ?_
        refine lv_iadd hx hb d_Md_can_36 ?_
        obtain ⟨hin, h⟩ := o_in h
        refine va_zald hx hb hK hP 18 2 rfl rfl hin d_Md_can_37 ?_
        refine lv_if_eq (tgt := 45) hx hb d_Md_can_38 (by decide) (fun hc => ?_) (fun hc => ?_)
        · have h := o_t hc h
          refine lv_iconst (v := 0) hx hb d_Md_can_45 (by decide) ?_
          cases h
          exact kr_i hx hb hr hlocks hP hD hS d_Md_can_46
        · have h := o_f hc h
          refine lv_iconst (v := 1) hx hb d_Md_can_41 (by decide) ?_
          refine lv_goto (tgt := 46) hx hb d_Md_can_42 (by decide) ?_
          cases h
          exact kr_i hx hb hr hlocks hP hD hS d_Md_can_46
    · have h := o_t hc h
      refine lv_bipush (v := -2) hx hb d_Md_can_16 (by decide) ?_
      cases h
      exact kr_i hx hb hr hlocks hP hD hS d_Md_can_18
set_option maxHeartbeats 4000000 in
set_option maxRecDepth 100000 in
theorem c_Md_target (l : Launch) (dC : Nat → ClassId) (dI : Nat → Nat → Nat) (cI cJ cZ : ClassId) (a : Nat → Nat) (x1 : Int32) (mb : MbS) (mg : MgS) (mx : MxS) (mf : MfS) (res : Int32) (h : f_Md_target x1 mb mg = some res) :
    Kt l (dC, dI) classes [(cI, .int), (cJ, .long), (cZ, .boolean)] y_Md_target (wz y_Md_target b_Md_target 2 (some .int)) { frames := 3, cells := 0, slots := 0, locals := 64 } [.ref (a 0), .int x1] (cMd cI cJ cZ a mb mg mx mf) (some (.int res)) (cMd cI cJ cZ a mb mg mx mf) := by
  refine Kt_of (cc := b_Md_target) (maxL := 2) (ret := (some .int)) (by decide) (Nat.le_of_ble_eq_true rfl) ?_
  intro p e s m args below meth c A ls hx hb hr hml hlocks hown hts hNw hK hP hD hA hS hl
  have hl : lv_has ls 2 [(0, .ref (a 0)), (1, .int x1)] := hl
  have hP : va_P (dC, dI) classes (cMd cI cJ cZ a mb mg mx mf) s.heap := hP
  refine lv_aload_n hx hb d_Md_target_0 rfl (lv_at hl 0 rfl) ?_
  refine lv_iload_n hx hb d_Md_target_1 rfl (lv_at hl 1 rfl) ?_
  obtain ⟨y2, hy, h⟩ := o_bd h
  refine kdV (nn := 24) (rest := []) (w' := (cMd cI cJ cZ a mb mg mx mf)) (wr := ([] : va_W)) (st1 := [.int y2]) ⟨hx, hb, hml, hown, hts⟩ (c_Md_isNode l dC dI cI cJ cZ a x1 mb mg mx mf y2 hy) (cwV 1 hts (gd_V tw821 tw823 ps21 tw9 tw824) rfl rfl rfl hd_Md_isNode ⟨Nat.le_of_ble_eq_true rfl, Nat.le_of_ble_eq_true rfl⟩) hNw hK hP hD hS hA (ci := 7) rfl rfl rfl [0, 1, 2, 3, 4, 5, 6, 7, 8, 9, 10, 11, 12, 13, 14, 15, 16, 17, 18, 19, 20, 21, 22, 23] [] rfl rfl rfl rfl rfl (by decide +kernel) (by decide +kernel) rfl hl.1 rfl (Nat.le_of_ble_eq_true rfl) rfl d_Md_target_2 ⟨Nat.zero_le _, Nat.zero_le _⟩ (fun H locs hP hD hS => ?_)
  refine lv_if_ne (tgt := 11) hx hb d_Md_target_5 (by decide) (fun hc => ?_) (fun hc => ?_)
  · have h := o_f hc h
    refine lv_aload_n hx hb d_Md_target_11 rfl (lv_at hl 0 rfl) ?_
    refine lv_iload_n hx hb d_Md_target_12 rfl (lv_at hl 1 rfl) ?_
    obtain ⟨y13, hy, h⟩ := o_bd h
    refine kdV (nn := 24) (rest := []) (w' := (cMd cI cJ cZ a mb mg mx mf)) (wr := ([] : va_W)) (st1 := [.int y13]) ⟨hx, hb, hml, hown, hts⟩ (c_Md_isAsked l dC dI cI cJ cZ a x1 mb mg mx mf y13 hy) (cwV 1 hts (gd_V tw1041 tw1043 ps62 tw9 tw1044) rfl rfl rfl hd_Md_isAsked ⟨Nat.le_of_ble_eq_true rfl, Nat.le_of_ble_eq_true rfl⟩) hNw hK hP hD hS hA (ci := 7) rfl rfl rfl [0, 1, 2, 3, 4, 5, 6, 7, 8, 9, 10, 11, 12, 13, 14, 15, 16, 17, 18, 19, 20, 21, 22, 23] [] rfl rfl rfl rfl rfl (by decide +kernel) (by decide +kernel) rfl hl.1 rfl (Nat.le_of_ble_eq_true rfl) rfl d_Md_target_13 ⟨Nat.zero_le _, Nat.zero_le _⟩ (fun H locs hP hD hS => ?_)
    refine lv_if_eq (tgt := 28) hx hb d_Md_target_16 (by decide) (fun hc => ?_) (fun hc => ?_)
    · have h := o_t hc h
      refine lv_iconst (v := -1) hx hb d_Md_target_28 (by decide) ?_
      cases h
      exact kr_i hx hb hr hlocks hP hD hS d_Md_target_29
    · have h := o_f hc h
      refine lv_aload_n hx hb d_Md_target_19 rfl (lv_at hl 0 rfl) ?_
      refine va_get (D := (dC, dI)) (ci := 7) (v := .ref (a 15)) (C := R_Md) (T := F_Md) (N := 35) hx hb hts inb_Md hown hK hP 0 rfl rfl 23 (by decide) (hts _ tw710) (fun _ h9 => h9) rfl d_Md_target_20 ?_
      refine lv_iload_n hx hb d_Md_target_23 rfl (lv_at hl 1 rfl) ?_
      obtain ⟨hin, h⟩ := o_in h
      refine va_iald hx hb hK hP 15 0 rfl rfl hin d_Md_target_24 ?_
      refine lv_goto (tgt := 29) hx hb d_Md_target_25 (by decide) ?_
      cases h
      exact kr_i hx hb hr hlocks hP hD hS d_Md_target_29
  · have h := o_t hc h
    refine lv_bipush (v := -2) hx hb d_Md_target_8 (by decide) ?_
    cases h
    exact kr_i hx hb hr hlocks hP hD hS d_Md_target_10
set_option maxHeartbeats 4000000 in
set_option maxRecDepth 100000 in
theorem c_Md_walked (l : Launch) (dC : Nat → ClassId) (dI : Nat → Nat → Nat) (cI cJ cZ : ClassId) (a : Nat → Nat) (x1 : Int32) (mb : MbS) (mg : MgS) (mx : MxS) (mf : MfS) (res : Int32) (h : f_Md_walked x1 mb mg mx = some res) :
    Kt l (dC, dI) classes [(cI, .int), (cJ, .long), (cZ, .boolean)] y_Md_walked (wz y_Md_walked b_Md_walked 2 (some .boolean)) { frames := 3, cells := 0, slots := 0, locals := 64 } [.ref (a 0), .int x1] (cMd cI cJ cZ a mb mg mx mf) (some (.int res)) (cMd cI cJ cZ a mb mg mx mf) := by
  refine Kt_of (cc := b_Md_walked) (maxL := 2) (ret := (some .boolean)) (by decide) (Nat.le_of_ble_eq_true rfl) ?_
  intro p e s m args below meth c A ls hx hb hr hml hlocks hown hts hNw hK hP hD hA hS hl
  have hl : lv_has ls 2 [(0, .ref (a 0)), (1, .int x1)] := hl
  have hP : va_P (dC, dI) classes (cMd cI cJ cZ a mb mg mx mf) s.heap := hP
  refine lv_aload_n hx hb d_Md_walked_0 rfl (lv_at hl 0 rfl) ?_
  refine lv_iload_n hx hb d_Md_walked_1 rfl (lv_at hl 1 rfl) ?_
  obtain ⟨y2, hy, h⟩ := o_bd h
  refine kdV (nn := 24) (rest := []) (w' := (cMd cI cJ cZ a mb mg mx mf)) (wr := ([] : va_W)) (st1 := [.int y2]) ⟨hx, hb, hml, hown, hts⟩ (c_Md_isAsked l dC dI cI cJ cZ a x1 mb mg mx mf y2 hy) (cwV 1 hts (gd_V tw1041 tw1043 ps62 tw9 tw1044) rfl rfl rfl hd_Md_isAsked ⟨Nat.le_of_ble_eq_true rfl, Nat.le_of_ble_eq_true rfl⟩) hNw hK hP hD hS hA (ci := 7) rfl rfl rfl [0, 1, 2, 3, 4, 5, 6, 7, 8, 9, 10, 11, 12, 13, 14, 15, 16, 17, 18, 19, 20, 21, 22, 23] [] rfl rfl rfl rfl rfl (by decide +kernel) (by decide +kernel) rfl hl.1 rfl (Nat.le_of_ble_eq_true rfl) rfl d_Md_walked_2 ⟨Nat.zero_le _, Nat.zero_le _⟩ (fun H locs hP hD hS => ?_)
  refine lv_if_eq (tgt := 21) hx hb d_Md_walked_5 (by decide) (fun hc => ?_) (fun hc => ?_)
  · have h := o_t hc h
    refine lv_iconst (v := 0) hx hb d_Md_walked_21 (by decide) ?_
    cases h
    exact kr_z hx hb hr (by decide) hlocks hP hD hS d_Md_walked_22
  · have h := o_f hc h
    refine lv_aload_n hx hb d_Md_walked_8 rfl (lv_at hl 0 rfl) ?_
    refine va_get (D := (dC, dI)) (ci := 7) (v := .ref (a 19)) (C := R_Md) (T := F_Md) (N := 35) hx hb hts inb_Md hown hK hP 0 rfl rfl 27 (by decide) (hts _ tw714) (fun _ h9 => h9) rfl d_Md_walked_9 ?_
    refine lv_iload_n hx hb d_Md_walked_12 rfl (lv_at hl 1 rfl) ?_
    obtain ⟨hin, h⟩ := o_in h
    refine va_zald hx hb hK hP 19 2 rfl rfl hin d_Md_walked_13 ?_
    refine lv_if_eq (tgt := 21) hx hb d_Md_walked_14 (by decide) (fun hc => ?_) (fun hc => ?_)
    · have h := o_t hc h
      refine lv_iconst (v := 0) hx hb d_Md_walked_21 (by decide) ?_
      cases h
      exact kr_z hx hb hr (by decide) hlocks hP hD hS d_Md_walked_22
    · have h := o_f hc h
      refine lv_iconst (v := 1) hx hb d_Md_walked_17 (by decide) ?_
      refine lv_goto (tgt := 22) hx hb d_Md_walked_18 (by decide) ?_
      cases h
      exact kr_z hx hb hr (by decide) hlocks hP hD hS d_Md_walked_22
set_option maxHeartbeats 4000000 in
set_option maxRecDepth 100000 in
theorem c_Md_ends (l : Launch) (dC : Nat → ClassId) (dI : Nat → Nat → Nat) (cI cJ cZ : ClassId) (a : Nat → Nat) (x1 : Int32) (x2 : Int32) (x3 : Int32) (mb : MbS) (mg : MgS) (mx : MxS) (mf : MfS) (res : Int32) (h : f_Md_ends x1 x2 x3 mb mg mx = some res) :
    Kt l (dC, dI) classes [(cI, .int), (cJ, .long), (cZ, .boolean)] y_Md_ends (wz y_Md_ends b_Md_ends 6 (some .int)) { frames := 3, cells := 0, slots := 0, locals := 64 } [.ref (a 0), .int x1, .int x2, .int x3] (cMd cI cJ cZ a mb mg mx mf) (some (.int res)) (cMd cI cJ cZ a mb mg mx mf) := by
  refine Kt_of (cc := b_Md_ends) (maxL := 6) (ret := (some .int)) (by decide) (Nat.le_of_ble_eq_true rfl) ?_
  intro p e s m args below meth c A ls hx hb hr hml hlocks hown hts hNw hK hP hD hA hS hl
  have hl : lv_has ls 6 [(0, .ref (a 0)), (1, .int x1), (2, .int x2), (3, .int x3)] := hl
  have hP : va_P (dC, dI) classes (cMd cI cJ cZ a mb mg mx mf) s.heap := hP
  have B120 : ∀ (z0_120 : Int32) (x1_120 : Int32) (H : Heap) (locs : List Loc) (ls : Array Slot), f_Md_ends_b120 z0_120 x1_120 mb mg mx = some res → va_P (dC, dI) classes (cMd cI cJ cZ a mb mg mx mf) H → va_D A (cMd cI cJ cZ a mb mg mx mf) → va_S A s.heap H locs → lv_has ls 6 [(0, .ref (a 0)), (1, .int x1_120)] → W p l e { frames := 3, cells := 0, slots := 0, locals := 64 } s m args below meth c H locs 0 0 (KZ below args s (dC, dI) classes (some (.int res)) (cMd cI cJ cZ a mb mg mx mf) A) (F0 m 120 ls [.int z0_120]) := by
    intro z0_120 x1_120 H locs ls h hP hD hS hl
    refine lv_istore (lv' := [(5, .int z0_120), (0, .ref (a 0)), (1, .int x1_120)]) hx hb d_Md_ends_120 hl (by decide) rfl (fun ls hl => ?_)
    refine lv_aload_n hx hb d_Md_ends_122 rfl (lv_at hl 1 rfl) ?_
    refine lv_iload_n hx hb d_Md_ends_123 rfl (lv_at hl 2 rfl) ?_
    obtain ⟨y124, hy, h⟩ := o_bd h
    refine kdV (nn := 24) (rest := []) (w' := (cMd cI cJ cZ a mb mg mx mf)) (wr := ([] : va_W)) (st1 := [.int y124]) ⟨hx, hb, hml, hown, hts⟩ (c_Md_isAsked l dC dI cI cJ cZ a x1_120 mb mg mx mf y124 hy) (cwV 1 hts (gd_V tw1041 tw1043 ps62 tw9 tw1044) rfl rfl rfl hd_Md_isAsked ⟨Nat.le_of_ble_eq_true rfl, Nat.le_of_ble_eq_true rfl⟩) hNw hK hP hD hS hA (ci := 7) rfl rfl rfl [0, 1, 2, 3, 4, 5, 6, 7, 8, 9, 10, 11, 12, 13, 14, 15, 16, 17, 18, 19, 20, 21, 22, 23] [] rfl rfl rfl rfl rfl (by decide +kernel) (by decide +kernel) rfl hl.1 rfl (Nat.le_of_ble_eq_true rfl) rfl d_Md_ends_124 ⟨Nat.zero_le _, Nat.zero_le _⟩ (fun H locs hP hD hS => ?_)
    refine lv_if_eq (tgt := 144) hx hb d_Md_ends_127 (by decide) (fun hc => ?_) (fun hc => ?_)
    · have h := o_t hc h
      refine lv_iconst (v := 0) hx hb d_Md_ends_144 (by decide) ?_
      cases h
      exact kr_i hx hb hr hlocks hP hD hS d_Md_ends_145
    · have h := o_f hc h
      refine lv_aload_n hx hb d_Md_ends_130 rfl (lv_at hl 1 rfl) ?_
      refine lv_iload_n hx hb d_Md_ends_131 rfl (lv_at hl 2 rfl) ?_
      refine lv_iload hx hb d_Md_ends_132 (lv_at hl 0 rfl) ?_
      obtain ⟨y134, hy, h⟩ := o_bd h
      refine kdV (nn := 24) (rest := []) (w' := (cMd cI cJ cZ a mb mg mx mf)) (wr := ([] : va_W)) (st1 := [.int y134]) ⟨hx, hb, hml, hown, hts⟩ (c_Md_isEnded l dC dI cI cJ cZ a x1_120 z0_120 mb mg mx mf y134 hy) (cwV 2 hts (gd_V tw981 tw983 ps51 tw9 tw984) rfl rfl rfl hd_Md_isEnded ⟨Nat.le_of_ble_eq_true rfl, Nat.le_of_ble_eq_true rfl⟩) hNw hK hP hD hS hA (ci := 7) rfl rfl rfl [0, 1, 2, 3, 4, 5, 6, 7, 8, 9, 10, 11, 12, 13, 14, 15, 16, 17, 18, 19, 20, 21, 22, 23] [] rfl rfl rfl rfl rfl (by decide +kernel) (by decide +kernel) rfl hl.1 rfl (Nat.le_of_ble_eq_true rfl) rfl d_Md_ends_134 ⟨Nat.zero_le _, Nat.zero_le _⟩ (fun H locs hP hD hS => ?_)
      refine lv_if_eq (tgt := 144) hx hb d_Md_ends_137 (by decide) (fun hc => ?_) (fun hc => ?_)
      · have h := o_t hc h
        refine lv_iconst (v := 0) hx hb d_Md_ends_144 (by decide) ?_
        cases h
        exact kr_i hx hb hr hlocks hP hD hS d_Md_ends_145
      · have h := o_f hc h
        refine lv_iconst (v := 1) hx hb d_Md_ends_140 (by decide) ?_
        refine lv_goto (tgt := 145) hx hb d_Md_ends_141 (by decide) ?_
        cases h
        exact kr_i hx hb hr hlocks hP hD hS d_Md_ends_145
  have B118 : ∀ (z0_118 : Int32) (x1_118 : Int32) (x3_118 : Int32) (H : Heap) (locs : List Loc) (ls : Array Slot), f_Md_ends_b118 z0_118 x1_118 x3_118 mb mg mx = some res → va_P (dC, dI) classes (cMd cI cJ cZ a mb mg mx mf) H → va_D A (cMd cI cJ cZ a mb mg mx mf) → va_S A s.heap H locs → lv_has ls 6 [(0, .ref (a 0)), (1, .int x1_118), (3, .int x3_118)] → W p l e { frames := 3, cells := 0, slots := 0, locals := 64 } s m args below meth c H locs 0 0 (KZ below args s (dC, dI) classes (some (.int res)) (cMd cI cJ cZ a mb mg mx mf) A) (F0 m 118 ls [.int z0_118]) := by
    intro z0_118 x1_118 x3_118 H locs ls h hP hD hS hl
    refine lv_iload_n hx hb d_Md_ends_118 rfl (lv_at hl 2 rfl) ?_
    refine lv_iadd hx hb d_Md_ends_119 ?_
    exact B120 (z0_118 + x3_118) x1_118 _ _ _ h hP hD hS (lv_sub hl [0, 1] rfl)
  have B70 : ∀ (z0_70 : Int32) (x1_70 : Int32) (x2_70 : Int32) (x3_70 : Int32) (H : Heap) (locs : List Loc) (ls : Array Slot), f_Md_ends_b70 z0_70 x1_70 x2_70 x3_70 mb mg mx = some res → va_P (dC, dI) classes (cMd cI cJ cZ a mb mg mx mf) H → va_D A (cMd cI cJ cZ a mb mg mx mf) → va_S A s.heap H locs → lv_has ls 6 [(0, .ref (a 0)), (1, .int x1_70), (2, .int x2_70), (3, .int x3_70)] → W p l e { frames := 3, cells := 0, slots := 0, locals := 64 } s m args below meth c H locs 0 0 (KZ below args s (dC, dI) classes (some (.int res)) (cMd cI cJ cZ a mb mg mx mf) A) (F0 m 70 ls [.int z0_70]) := by
    intro z0_70 x1_70 x2_70 x3_70 H locs ls h hP hD hS hl
    refine lv_istore (lv' := [(4, .int z0_70), (0, .ref (a 0)), (1, .int x1_70), (2, .int x2_70), (3, .int x3_70)]) hx hb d_Md_ends_70 hl (by decide) rfl (fun ls hl => ?_)
    refine lv_iload hx hb d_Md_ends_72 (lv_at hl 0 rfl) ?_
    refine lv_if_ne (tgt := 80) hx hb d_Md_ends_74 (by decide) (fun hc => ?_) (fun hc => ?_)
    · have h := o_f hc h
      refine lv_iload_n hx hb d_Md_ends_80 rfl (lv_at hl 3 rfl) ?_
      refine lv_if_ne (tgt := 88) hx hb d_Md_ends_81 (by decide) (fun hc => ?_) (fun hc => ?_)
      · have h := o_f hc h
        refine lv_iload_n hx hb d_Md_ends_88 rfl (lv_at hl 3 rfl) ?_
        refine lv_iconst (v := 1) hx hb d_Md_ends_89 (by decide) ?_
        refine lv_icmp_ne (tgt := 97) hx hb d_Md_ends_90 (by decide) (fun hc => ?_) (fun hc => ?_)
        · have h := o_f hc h
          refine lv_iload_n hx hb d_Md_ends_97 rfl (lv_at hl 3 rfl) ?_
          refine lv_iconst (v := 2) hx hb d_Md_ends_98 (by decide) ?_
          refine lv_icmp_ne (tgt := 106) hx hb d_Md_ends_99 (by decide) (fun hc => ?_) (fun hc => ?_)
          · have h := o_f hc h
            refine lv_iload_n hx hb d_Md_ends_106 rfl (lv_at hl 3 rfl) ?_
            refine lv_iconst (v := 3) hx hb d_Md_ends_107 (by decide) ?_
            refine lv_icmp_ne (tgt := 116) hx hb d_Md_ends_108 (by decide) (fun hc => ?_) (fun hc => ?_)
            · have h := o_f hc h
              refine lv_bipush (v := 122) hx hb d_Md_ends_116 (by decide) ?_
              exact B118 (122 : Int32) x1_70 x3_70 _ _ _ h hP hD hS (lv_sub hl [1, 2, 4] rfl)
            · have h := o_t hc h
              refine lv_bipush (v := 62) hx hb d_Md_ends_111 (by decide) ?_
              refine lv_goto (tgt := 118) hx hb d_Md_ends_113 (by decide) ?_
              exact B118 (62 : Int32) x1_70 x3_70 _ _ _ h hP hD hS (lv_sub hl [1, 2, 4] rfl)
          · have h := o_t hc h
            refine lv_iconst (v := 2) hx hb d_Md_ends_102 (by decide) ?_
            refine lv_goto (tgt := 118) hx hb d_Md_ends_103 (by decide) ?_
            exact B118 (2 : Int32) x1_70 x3_70 _ _ _ h hP hD hS (lv_sub hl [1, 2, 4] rfl)
        · have h := o_t hc h
          refine lv_iconst (v := 1) hx hb d_Md_ends_93 (by decide) ?_
          refine lv_goto (tgt := 120) hx hb d_Md_ends_94 (by decide) ?_
          exact B120 (1 : Int32) x1_70 _ _ _ h hP hD hS (lv_sub hl [1, 2] rfl)
      · have h := o_t hc h
        refine lv_iconst (v := 0) hx hb d_Md_ends_84 (by decide) ?_
        refine lv_goto (tgt := 120) hx hb d_Md_ends_85 (by decide) ?_
        exact B120 (0 : Int32) x1_70 _ _ _ h hP hD hS (lv_sub hl [1, 2] rfl)
    · have h := o_t hc h
      refine lv_bipush (v := -2) hx hb d_Md_ends_77 (by decide) ?_
      cases h
      exact kr_i hx hb hr hlocks hP hD hS d_Md_ends_79
  have B65 : ∀ (x1_65 : Int32) (x2_65 : Int32) (x3_65 : Int32) (H : Heap) (locs : List Loc) (ls : Array Slot), f_Md_ends_b65 x1_65 x2_65 x3_65 mb mg mx = some res → va_P (dC, dI) classes (cMd cI cJ cZ a mb mg mx mf) H → va_D A (cMd cI cJ cZ a mb mg mx mf) → va_S A s.heap H locs → lv_has ls 6 [(0, .ref (a 0)), (1, .int x1_65), (2, .int x2_65), (3, .int x3_65)] → W p l e { frames := 3, cells := 0, slots := 0, locals := 64 } s m args below meth c H locs 0 0 (KZ below args s (dC, dI) classes (some (.int res)) (cMd cI cJ cZ a mb mg mx mf) A) (F0 m 65 ls []) := by
    intro x1_65 x2_65 x3_65 H locs ls h hP hD hS hl
    refine lv_iconst (v := 1) hx hb d_Md_ends_65 (by decide) ?_
    refine lv_goto (tgt := 70) hx hb d_Md_ends_66 (by decide) ?_
    exact B70 (1 : Int32) x1_65 x2_65 x3_65 _ _ _ h hP hD hS (lv_sub hl [0, 1, 2, 3] rfl)
  have B69 : ∀ (x1_69 : Int32) (x2_69 : Int32) (x3_69 : Int32) (H : Heap) (locs : List Loc) (ls : Array Slot), f_Md_ends_b69 x1_69 x2_69 x3_69 mb mg mx = some res → va_P (dC, dI) classes (cMd cI cJ cZ a mb mg mx mf) H → va_D A (cMd cI cJ cZ a mb mg mx mf) → va_S A s.heap H locs → lv_has ls 6 [(0, .ref (a 0)), (1, .int x1_69), (2, .int x2_69), (3, .int x3_69)] → W p l e { frames := 3, cells := 0, slots := 0, locals := 64 } s m args below meth c H locs 0 0 (KZ below args s (dC, dI) classes (some (.int res)) (cMd cI cJ cZ a mb mg mx mf) A) (F0 m 69 ls []) := by
    intro x1_69 x2_69 x3_69 H locs ls h hP hD hS hl
    refine lv_iconst (v := 0) hx hb d_Md_ends_69 (by decide) ?_
    exact B70 (0 : Int32) x1_69 x2_69 x3_69 _ _ _ h hP hD hS (lv_sub hl [0, 1, 2, 3] rfl)
  have B22 : ∀ (z0_22 : Int32) (x1_22 : Int32) (x2_22 : Int32) (x3_22 : Int32) (H : Heap) (locs : List Loc) (ls : Array Slot), f_Md_ends_b22 z0_22 x1_22 x2_22 x3_22 mb mg mx = some res → va_P (dC, dI) classes (cMd cI cJ cZ a mb mg mx mf) H → va_D A (cMd cI cJ cZ a mb mg mx mf) → va_S A s.heap H locs → lv_has ls 6 [(0, .ref (a 0)), (1, .int x1_22), (2, .int x2_22), (3, .int x3_22)] → W p l e { frames := 3, cells := 0, slots := 0, locals := 64 } s m args below meth c H locs 0 0 (KZ below args s (dC, dI) classes (some (.int res)) (cMd cI cJ cZ a mb mg mx mf) A) (F0 m 22 ls [.int z0_22]) := by
    intro z0_22 x1_22 x2_22 x3_22 H locs ls h hP hD hS hl
    refine lv_istore (lv' := [(4, .int z0_22), (0, .ref (a 0)), (1, .int x1_22), (2, .int x2_22), (3, .int x3_22)]) hx hb d_Md_ends_22 hl (by decide) rfl (fun ls hl => ?_)
    refine lv_iload hx hb d_Md_ends_24 (lv_at hl 0 rfl) ?_
    refine lv_if_eq (tgt := 69) hx hb d_Md_ends_26 (by decide) (fun hc => ?_) (fun hc => ?_)
    · have h := o_t hc h
      exact B69 x1_22 x2_22 x3_22 _ _ _ h hP hD hS (lv_sub hl [1, 2, 3, 4] rfl)
    · have h := o_f hc h
      refine lv_iload_n hx hb d_Md_ends_29 rfl (lv_at hl 3 rfl) ?_
      refine lv_iconst (v := 2) hx hb d_Md_ends_30 (by decide) ?_
      refine lv_icmp_ge (tgt := 41) hx hb d_Md_ends_31 (by decide) (fun hc => ?_) (fun hc => ?_)
      · have h := o_t hc h
        refine lv_iload_n hx hb d_Md_ends_41 rfl (lv_at hl 3 rfl) ?_
        refine lv_iconst (v := 4) hx hb d_Md_ends_42 (by decide) ?_
        refine lv_icmp_ge (tgt := 57) hx hb d_Md_ends_43 (by decide) (fun hc => ?_) (fun hc => ?_)
        · have h := o_t hc h
          refine lv_aload_n hx hb d_Md_ends_57 rfl (lv_at hl 1 rfl) ?_
          refine lv_iload_n hx hb d_Md_ends_58 rfl (lv_at hl 4 rfl) ?_
          obtain ⟨y59, hy, h⟩ := o_bd h
          refine kdV (nn := 24) (rest := []) (w' := (cMd cI cJ cZ a mb mg mx mf)) (wr := ([] : va_W)) (st1 := [.int y59]) ⟨hx, hb, hml, hown, hts⟩ (c_Md_isKind l dC dI cI cJ cZ a x3_22 mb mg mx mf y59 hy) (cwV 1 hts (gd_V tw802 tw804 ps18 tw9 tw805) rfl rfl rfl hd_Md_isKind ⟨Nat.le_of_ble_eq_true rfl, Nat.le_of_ble_eq_true rfl⟩) hNw hK hP hD hS hA (ci := 7) rfl rfl rfl [0, 1, 2, 3, 4, 5, 6, 7, 8, 9, 10, 11, 12, 13, 14, 15, 16, 17, 18, 19, 20, 21, 22, 23] [] rfl rfl rfl rfl rfl (by decide +kernel) (by decide +kernel) rfl hl.1 rfl (Nat.le_of_ble_eq_true rfl) rfl d_Md_ends_59 ⟨Nat.zero_le _, Nat.zero_le _⟩ (fun H locs hP hD hS => ?_)
          refine lv_if_eq (tgt := 69) hx hb d_Md_ends_62 (by decide) (fun hc => ?_) (fun hc => ?_)
          · have h := o_t hc h
            exact B69 x1_22 x2_22 x3_22 _ _ _ h hP hD hS (lv_sub hl [1, 2, 3, 4] rfl)
          · have h := o_f hc h
            exact B65 x1_22 x2_22 x3_22 _ _ _ h hP hD hS (lv_sub hl [1, 2, 3, 4] rfl)
        · have h := o_f hc h
          refine lv_aload_n hx hb d_Md_ends_46 rfl (lv_at hl 1 rfl) ?_
          refine lv_iload_n hx hb d_Md_ends_47 rfl (lv_at hl 4 rfl) ?_
          obtain ⟨y48, hy, h⟩ := o_bd h
          refine kdV (nn := 24) (rest := []) (w' := (cMd cI cJ cZ a mb mg mx mf)) (wr := ([] : va_W)) (st1 := [.int y48]) ⟨hx, hb, hml, hown, hts⟩ (c_Md_isNode l dC dI cI cJ cZ a x3_22 mb mg mx mf y48 hy) (cwV 1 hts (gd_V tw821 tw823 ps21 tw9 tw824) rfl rfl rfl hd_Md_isNode ⟨Nat.le_of_ble_eq_true rfl, Nat.le_of_ble_eq_true rfl⟩) hNw hK hP hD hS hA (ci := 7) rfl rfl rfl [0, 1, 2, 3, 4, 5, 6, 7, 8, 9, 10, 11, 12, 13, 14, 15, 16, 17, 18, 19, 20, 21, 22, 23] [] rfl rfl rfl rfl rfl (by decide +kernel) (by decide +kernel) rfl hl.1 rfl (Nat.le_of_ble_eq_true rfl) rfl d_Md_ends_48 ⟨Nat.zero_le _, Nat.zero_le _⟩ (fun H locs hP hD hS => ?_)
          refine lv_if_eq (tgt := 69) hx hb d_Md_ends_51 (by decide) (fun hc => ?_) (fun hc => ?_)
          · have h := o_t hc h
            exact B69 x1_22 x2_22 x3_22 _ _ _ h hP hD hS (lv_sub hl [1, 2, 3, 4] rfl)
          · have h := o_f hc h
            refine lv_goto (tgt := 65) hx hb d_Md_ends_54 (by decide) ?_
            exact B65 x1_22 x2_22 x3_22 _ _ _ h hP hD hS (lv_sub hl [1, 2, 3, 4] rfl)
      · have h := o_f hc h
        refine lv_iload_n hx hb d_Md_ends_34 rfl (lv_at hl 4 rfl) ?_
        refine lv_if_ne (tgt := 69) hx hb d_Md_ends_35 (by decide) (fun hc => ?_) (fun hc => ?_)
        · have h := o_f hc h
          exact B69 x1_22 x2_22 x3_22 _ _ _ h hP hD hS (lv_sub hl [1, 2, 3, 4] rfl)
        · have h := o_t hc h
          refine lv_goto (tgt := 65) hx hb d_Md_ends_38 (by decide) ?_
          exact B65 x1_22 x2_22 x3_22 _ _ _ h hP hD hS (lv_sub hl [1, 2, 3, 4] rfl)
  have B21 : ∀ (x1_21 : Int32) (x2_21 : Int32) (x3_21 : Int32) (H : Heap) (locs : List Loc) (ls : Array Slot), f_Md_ends_b21 x1_21 x2_21 x3_21 mb mg mx = some res → va_P (dC, dI) classes (cMd cI cJ cZ a mb mg mx mf) H → va_D A (cMd cI cJ cZ a mb mg mx mf) → va_S A s.heap H locs → lv_has ls 6 [(0, .ref (a 0)), (1, .int x1_21), (2, .int x2_21), (3, .int x3_21)] → W p l e { frames := 3, cells := 0, slots := 0, locals := 64 } s m args below meth c H locs 0 0 (KZ below args s (dC, dI) classes (some (.int res)) (cMd cI cJ cZ a mb mg mx mf) A) (F0 m 21 ls []) := by
    intro x1_21 x2_21 x3_21 H locs ls h hP hD hS hl
    refine lv_iconst (v := 0) hx hb d_Md_ends_21 (by decide) ?_
    exact B22 (0 : Int32) x1_21 x2_21 x3_21 _ _ _ h hP hD hS (lv_sub hl [0, 1, 2, 3] rfl)
  refine lv_aload_n hx hb d_Md_ends_0 rfl (lv_at hl 0 rfl) ?_
  refine lv_iload_n hx hb d_Md_ends_1 rfl (lv_at hl 1 rfl) ?_
  obtain ⟨y2, hy, h⟩ := o_bd h
  refine kdV (nn := 24) (rest := []) (w' := (cMd cI cJ cZ a mb mg mx mf)) (wr := ([] : va_W)) (st1 := [.int y2]) ⟨hx, hb, hml, hown, hts⟩ (c_Md_isNode l dC dI cI cJ cZ a x1 mb mg mx mf y2 hy) (cwV 1 hts (gd_V tw821 tw823 ps21 tw9 tw824) rfl rfl rfl hd_Md_isNode ⟨Nat.le_of_ble_eq_true rfl, Nat.le_of_ble_eq_true rfl⟩) hNw hK hP hD hS hA (ci := 7) rfl rfl rfl [0, 1, 2, 3, 4, 5, 6, 7, 8, 9, 10, 11, 12, 13, 14, 15, 16, 17, 18, 19, 20, 21, 22, 23] [] rfl rfl rfl rfl rfl (by decide +kernel) (by decide +kernel) rfl hl.1 rfl (Nat.le_of_ble_eq_true rfl) rfl d_Md_ends_2 ⟨Nat.zero_le _, Nat.zero_le _⟩ (fun H locs hP hD hS => ?_)
  refine lv_if_eq (tgt := 21) hx hb d_Md_ends_5 (by decide) (fun hc => ?_) (fun hc => ?_)
  · have h := o_t hc h
    exact B21 x1 x2 x3 _ _ _ h hP hD hS (lv_sub hl [0, 1, 2, 3] rfl)
  · have h := o_f hc h
    refine lv_iload_n hx hb d_Md_ends_8 rfl (lv_at hl 2 rfl) ?_
    refine lv_iconst (v := 0) hx hb d_Md_ends_9 (by decide) ?_
    refine lv_iconst (v := 4) hx hb d_Md_ends_10 (by decide) ?_
    obtain ⟨y11, hy, h⟩ := o_bd h
    refine kdS (nn := 24) (rest := []) (w' := (cMd cI cJ cZ a mb mg mx mf)) (wr := (cMd cI cJ cZ a mb mg mx mf)) (st1 := [.int y11]) ⟨hx, hb, hml, hown, hts⟩ (c_Md_isIn l dC dI cI cJ cZ a x2 (0 : Int32) (4 : Int32) y11 hy) (va_cwS 3 hts (gd_S tw806 tw807 tw9 tw808) rfl rfl rfl hd_Md_isIn.2 ⟨Nat.le_of_ble_eq_true rfl, Nat.le_of_ble_eq_true rfl⟩) hNw hK hP hD hS hA [] [0, 1, 2, 3, 4, 5, 6, 7, 8, 9, 10, 11, 12, 13, 14, 15, 16, 17, 18, 19, 20, 21, 22, 23] rfl rfl rfl rfl rfl (by decide +kernel) (by decide +kernel) rfl hl.1 rfl (Nat.le_of_ble_eq_true rfl) rfl d_Md_ends_11 ⟨Nat.zero_le _, Nat.zero_le _⟩ (fun H locs hP hD hS => ?_)
    refine lv_if_eq (tgt := 21) hx hb d_Md_ends_14 (by decide) (fun hc => ?_) (fun hc => ?_)
    · have h := o_t hc h
      exact B21 x1 x2 x3 _ _ _ h hP hD hS (lv_sub hl [0, 1, 2, 3] rfl)
    · have h := o_f hc h
      refine lv_iconst (v := 1) hx hb d_Md_ends_17 (by decide) ?_
      refine lv_goto (tgt := 22) hx hb d_Md_ends_18 (by decide) ?_
      exact B22 (1 : Int32) x1 x2 x3 _ _ _ h hP hD hS (lv_sub hl [0, 1, 2, 3] rfl)
set_option maxHeartbeats 4000000 in
set_option maxRecDepth 100000 in
theorem c_Md_member (l : Launch) (dC : Nat → ClassId) (dI : Nat → Nat → Nat) (cI cJ cZ : ClassId) (a : Nat → Nat) (N : Nat) (x1 : Int32) (x2 : Int32) (mb : MbS) (mg : MgS) (mx : MxS) (mf : MfS) (res : Int32 × MgS × MxS × MfS) (h : f_Md_member N x1 x2 mb mg mx mf = some res) :
    Kt l (dC, dI) classes [(cI, .int), (cJ, .long), (cZ, .boolean)] y_Md_member (wz y_Md_member b_Md_member 6 (some .int)) { frames := 8, cells := 0, slots := 0, locals := 178 } [.ref (a 0), .int x1, .int x2] (cMd cI cJ cZ a mb mg mx mf) (some (.int res.1)) (cMd cI cJ cZ a mb res.2.1 res.2.2.1 res.2.2.2) := by
  refine Kt_of (cc := b_Md_member) (maxL := 6) (ret := (some .int)) (by decide) (Nat.le_of_ble_eq_true rfl) ?_
  intro p e s m args below meth c A ls hx hb hr hml hlocks hown hts hNw hK hP hD hA hS hl
  have hl : lv_has ls 6 [(0, .ref (a 0)), (1, .int x1), (2, .int x2)] := hl
  have hP : va_P (dC, dI) classes (cMd cI cJ cZ a mb mg mx mf) s.heap := hP
  have L47 : ∀ (x2_47 : Int32) (n47 : Nat) (s47 : Int32 × Int32 × Int32 × MgS × MxS × MfS) (H : Heap) (locs : List Loc) (ls : Array Slot), lp (f_Md_member_L47 N x2_47 mb) n47 s47 = some res → va_P (dC, dI) classes (cMd cI cJ cZ a mb s47.2.2.2.1 s47.2.2.2.2.1 s47.2.2.2.2.2) H → va_D A (cMd cI cJ cZ a mb s47.2.2.2.1 s47.2.2.2.2.1 s47.2.2.2.2.2) → va_S A s.heap H locs → lv_has ls 6 [(0, .ref (a 0)), (2, .int x2_47), (3, .int s47.1), (4, .int s47.2.1), (5, .int s47.2.2.1)] → W p l e { frames := 8, cells := 0, slots := 0, locals := 178 } s m args below meth c H locs 0 0 (KZ below args s (dC, dI) classes (some (.int res.1)) (cMd cI cJ cZ a mb res.2.1 res.2.2.1 res.2.2.2) A) (F0 m 47 ls []) := by
    intro x2_47 n47
    induction n47 with
    | zero => intro _ _ _ _ h; exact (lp_0 h).elim
    | succ n47 ih47 =>
      intro s47 H locs ls h hP hD hS hl
      have h := lp_s h
      have B139 : ∀ (z0_139 : Int32) (x3_139 : Int32) (x5_139 : Int32) (mg_139 : MgS) (mx_139 : MxS) (mf_139 : MfS) (H : Heap) (locs : List Loc) (ls : Array Slot), f_Md_member_b139 N (lp (f_Md_member_L47 N x2_47 mb) n47) z0_139 x2_47 x3_139 x5_139 mb mg_139 mx_139 mf_139 = some res → va_P (dC, dI) classes (cMd cI cJ cZ a mb mg_139 mx_139 mf_139) H → va_D A (cMd cI cJ cZ a mb mg_139 mx_139 mf_139) → va_S A s.heap H locs → lv_has ls 6 [(0, .ref (a 0)), (2, .int x2_47), (3, .int x3_139), (5, .int x5_139)] → W p l e { frames := 8, cells := 0, slots := 0, locals := 178 } s m args below meth c H locs 0 0 (KZ below args s (dC, dI) classes (some (.int res.1)) (cMd cI cJ cZ a mb res.2.1 res.2.2.1 res.2.2.2) A) (F0 m 139 ls [.int z0_139]) := by
        intro z0_139 x3_139 x5_139 mg_139 mx_139 mf_139 H locs ls h hP hD hS hl
        refine lv_istore (lv' := [(4, .int z0_139), (0, .ref (a 0)), (2, .int x2_47), (3, .int x3_139), (5, .int x5_139)]) hx hb d_Md_member_139 hl (by decide) rfl (fun ls hl => ?_)
        refine lv_iinc (v := (x5_139 + 1)) (lv' := [(5, .int (x5_139 + 1)), (4, .int z0_139), (0, .ref (a 0)), (2, .int x2_47), (3, .int x3_139)]) hx hb d_Md_member_141 hl (k := 4) rfl rfl (by decide) rfl (fun ls hl => ?_)
        refine lv_goto (tgt := 47) hx hb d_Md_member_144 (by decide) ?_
        exact ih47 (x3_139, z0_139, (x5_139 + 1), mg_139, mx_139, mf_139) _ _ _ h hP hD hS (lv_sub hl [2, 3, 4, 1, 0] rfl)
      have B134 : ∀ (x3_134 : Int32) (x5_134 : Int32) (mg_134 : MgS) (mx_134 : MxS) (mf_134 : MfS) (H : Heap) (locs : List Loc) (ls : Array Slot), f_Md_member_b134 N (lp (f_Md_member_L47 N x2_47 mb) n47) x2_47 x3_134 x5_134 mb mg_134 mx_134 mf_134 = some res → va_P (dC, dI) classes (cMd cI cJ cZ a mb mg_134 mx_134 mf_134) H → va_D A (cMd cI cJ cZ a mb mg_134 mx_134 mf_134) → va_S A s.heap H locs → lv_has ls 6 [(0, .ref (a 0)), (2, .int x2_47), (3, .int x3_134), (5, .int x5_134)] → W p l e { frames := 8, cells := 0, slots := 0, locals := 178 } s m args below meth c H locs 0 0 (KZ below args s (dC, dI) classes (some (.int res.1)) (cMd cI cJ cZ a mb res.2.1 res.2.2.1 res.2.2.2) A) (F0 m 134 ls []) := by
        intro x3_134 x5_134 mg_134 mx_134 mf_134 H locs ls h hP hD hS hl
        refine lv_iconst (v := 1) hx hb d_Md_member_134 (by decide) ?_
        refine lv_goto (tgt := 139) hx hb d_Md_member_135 (by decide) ?_
        exact B139 (1 : Int32) x3_134 x5_134 mg_134 mx_134 mf_134 _ _ _ h hP hD hS (lv_sub hl [0, 1, 2, 3] rfl)
      have B138 : ∀ (x3_138 : Int32) (x5_138 : Int32) (mg_138 : MgS) (mx_138 : MxS) (mf_138 : MfS) (H : Heap) (locs : List Loc) (ls : Array Slot), f_Md_member_b138 N (lp (f_Md_member_L47 N x2_47 mb) n47) x2_47 x3_138 x5_138 mb mg_138 mx_138 mf_138 = some res → va_P (dC, dI) classes (cMd cI cJ cZ a mb mg_138 mx_138 mf_138) H → va_D A (cMd cI cJ cZ a mb mg_138 mx_138 mf_138) → va_S A s.heap H locs → lv_has ls 6 [(0, .ref (a 0)), (2, .int x2_47), (3, .int x3_138), (5, .int x5_138)] → W p l e { frames := 8, cells := 0, slots := 0, locals := 178 } s m args below meth c H locs 0 0 (KZ below args s (dC, dI) classes (some (.int res.1)) (cMd cI cJ cZ a mb res.2.1 res.2.2.1 res.2.2.2) A) (F0 m 138 ls []) := by
        intro x3_138 x5_138 mg_138 mx_138 mf_138 H locs ls h hP hD hS hl
        refine lv_iconst (v := 0) hx hb d_Md_member_138 (by decide) ?_
        exact B139 (0 : Int32) x3_138 x5_138 mg_138 mx_138 mf_138 _ _ _ h hP hD hS (lv_sub hl [0, 1, 2, 3] rfl)
      have B97 : ∀ (z0_97 : Int32) (x4_97 : Int32) (x5_97 : Int32) (mg_97 : MgS) (mx_97 : MxS) (mf_97 : MfS) (H : Heap) (locs : List Loc) (ls : Array Slot), f_Md_member_b97 N (lp (f_Md_member_L47 N x2_47 mb) n47) z0_97 x2_47 x4_97 x5_97 mb mg_97 mx_97 mf_97 = some res → va_P (dC, dI) classes (cMd cI cJ cZ a mb mg_97 mx_97 mf_97) H → va_D A (cMd cI cJ cZ a mb mg_97 mx_97 mf_97) → va_S A s.heap H locs → lv_has ls 6 [(0, .ref (a 0)), (2, .int x2_47), (4, .int x4_97), (5, .int x5_97)] → W p l e { frames := 8, cells := 0, slots := 0, locals := 178 } s m args below meth c H locs 0 0 (KZ below args s (dC, dI) classes (some (.int res.1)) (cMd cI cJ cZ a mb res.2.1 res.2.2.1 res.2.2.2) A) (F0 m 97 ls [.int z0_97]) := by
        intro z0_97 x4_97 x5_97 mg_97 mx_97 mf_97 H locs ls h hP hD hS hl
        refine lv_istore_n (lv' := [(3, .int z0_97), (0, .ref (a 0)), (2, .int x2_47), (4, .int x4_97), (5, .int x5_97)]) hx hb d_Md_member_97 rfl hl (by decide) rfl (fun ls hl => ?_)
        refine lv_iload hx hb d_Md_member_98 (lv_at hl 3 rfl) ?_
        refine lv_if_ne (tgt := 134) hx hb d_Md_member_100 (by decide) (fun hc => ?_) (fun hc => ?_)
        · have h := o_f hc h
          exact B134 z0_97 x5_97 mg_97 mx_97 mf_97 _ _ _ h hP hD hS (lv_sub hl [1, 2, 0, 4] rfl)
        · have h := o_t hc h
          refine lv_aload_n hx hb d_Md_member_103 rfl (lv_at hl 1 rfl) ?_
          refine va_get (D := (dC, dI)) (ci := 7) (v := .ref (a 2)) (C := R_Md) (T := F_Md) (N := 35) hx hb hts inb_Md hown hK hP 0 rfl rfl 3 (by decide) (hts _ tw690) (fun _ h9 => h9) rfl d_Md_member_104 ?_
          refine lv_aload_n hx hb d_Md_member_107 rfl (lv_at hl 1 rfl) ?_
          refine va_get (D := (dC, dI)) (ci := 7) (v := .ref (a 13)) (C := R_Md) (T := F_Md) (N := 35) hx hb hts inb_Md hown hK hP 0 rfl rfl 21 (by decide) (hts _ tw708) (fun _ h9 => h9) rfl d_Md_member_108 ?_
          refine lv_iload hx hb d_Md_member_111 (lv_at hl 4 rfl) ?_
          obtain ⟨hin, h⟩ := o_in h
          refine va_iald hx hb hK hP 13 0 rfl rfl hin d_Md_member_113 ?_
          obtain ⟨hin, h⟩ := o_in h
          refine va_iald hx hb hK hP 2 0 rfl rfl hin d_Md_member_114 ?_
          refine lv_iconst (v := 3) hx hb d_Md_member_115 (by decide) ?_
          refine lv_icmp_ne (tgt := 138) hx hb d_Md_member_116 (by decide) (fun hc => ?_) (fun hc => ?_)
          · have h := o_f hc h
            exact B138 z0_97 x5_97 mg_97 mx_97 mf_97 _ _ _ h hP hD hS (lv_sub hl [1, 2, 0, 4] rfl)
          · have h := o_t hc h
            refine lv_aload_n hx hb d_Md_member_119 rfl (lv_at hl 1 rfl) ?_
            refine va_get (D := (dC, dI)) (ci := 7) (v := .ref (a 3)) (C := R_Md) (T := F_Md) (N := 35) hx hb hts inb_Md hown hK hP 0 rfl rfl 4 (by decide) (hts _ tw691) (fun _ h9 => h9) rfl d_Md_member_120 ?_
            refine lv_aload_n hx hb d_Md_member_123 rfl (lv_at hl 1 rfl) ?_
            refine va_get (D := (dC, dI)) (ci := 7) (v := .ref (a 13)) (C := R_Md) (T := F_Md) (N := 35) hx hb hts inb_Md hown hK hP 0 rfl rfl 21 (by decide) (hts _ tw708) (fun _ h9 => h9) rfl d_Md_member_124 ?_
            refine lv_iload hx hb d_Md_member_127 (lv_at hl 4 rfl) ?_
            obtain ⟨hin, h⟩ := o_in h
            refine va_iald hx hb hK hP 13 0 rfl rfl hin d_Md_member_129 ?_
            obtain ⟨hin, h⟩ := o_in h
            refine va_iald hx hb hK hP 3 0 rfl rfl hin d_Md_member_130 ?_
            refine lv_if_ne (tgt := 138) hx hb d_Md_member_131 (by decide) (fun hc => ?_) (fun hc => ?_)
            · have h := o_f hc h
              exact B138 z0_97 x5_97 mg_97 mx_97 mf_97 _ _ _ h hP hD hS (lv_sub hl [1, 2, 0, 4] rfl)
            · have h := o_t hc h
              exact B134 z0_97 x5_97 mg_97 mx_97 mf_97 _ _ _ h hP hD hS (lv_sub hl [1, 2, 0, 4] rfl)
      have B92 : ∀ (x4_92 : Int32) (x5_92 : Int32) (mg_92 : MgS) (mx_92 : MxS) (mf_92 : MfS) (H : Heap) (locs : List Loc) (ls : Array Slot), f_Md_member_b92 N (lp (f_Md_member_L47 N x2_47 mb) n47) x2_47 x4_92 x5_92 mb mg_92 mx_92 mf_92 = some res → va_P (dC, dI) classes (cMd cI cJ cZ a mb mg_92 mx_92 mf_92) H → va_D A (cMd cI cJ cZ a mb mg_92 mx_92 mf_92) → va_S A s.heap H locs → lv_has ls 6 [(0, .ref (a 0)), (2, .int x2_47), (4, .int x4_92), (5, .int x5_92)] → W p l e { frames := 8, cells := 0, slots := 0, locals := 178 } s m args below meth c H locs 0 0 (KZ below args s (dC, dI) classes (some (.int res.1)) (cMd cI cJ cZ a mb res.2.1 res.2.2.1 res.2.2.2) A) (F0 m 92 ls []) := by
        intro x4_92 x5_92 mg_92 mx_92 mf_92 H locs ls h hP hD hS hl
        refine lv_iconst (v := 1) hx hb d_Md_member_92 (by decide) ?_
        refine lv_goto (tgt := 97) hx hb d_Md_member_93 (by decide) ?_
        exact B97 (1 : Int32) x4_92 x5_92 mg_92 mx_92 mf_92 _ _ _ h hP hD hS (lv_sub hl [0, 1, 2, 3] rfl)
      have B96 : ∀ (x4_96 : Int32) (x5_96 : Int32) (mg_96 : MgS) (mx_96 : MxS) (mf_96 : MfS) (H : Heap) (locs : List Loc) (ls : Array Slot), f_Md_member_b96 N (lp (f_Md_member_L47 N x2_47 mb) n47) x2_47 x4_96 x5_96 mb mg_96 mx_96 mf_96 = some res → va_P (dC, dI) classes (cMd cI cJ cZ a mb mg_96 mx_96 mf_96) H → va_D A (cMd cI cJ cZ a mb mg_96 mx_96 mf_96) → va_S A s.heap H locs → lv_has ls 6 [(0, .ref (a 0)), (2, .int x2_47), (4, .int x4_96), (5, .int x5_96)] → W p l e { frames := 8, cells := 0, slots := 0, locals := 178 } s m args below meth c H locs 0 0 (KZ below args s (dC, dI) classes (some (.int res.1)) (cMd cI cJ cZ a mb res.2.1 res.2.2.1 res.2.2.2) A) (F0 m 96 ls []) := by
        intro x4_96 x5_96 mg_96 mx_96 mf_96 H locs ls h hP hD hS hl
        refine lv_iconst (v := 0) hx hb d_Md_member_96 (by decide) ?_
        exact B97 (0 : Int32) x4_96 x5_96 mg_96 mx_96 mf_96 _ _ _ h hP hD hS (lv_sub hl [0, 1, 2, 3] rfl)
      refine lv_iload hx hb d_Md_member_47 (lv_at hl 4 rfl) ?_
      refine lv_aload_n hx hb d_Md_member_49 rfl (lv_at hl 0 rfl) ?_
      refine va_get (D := (dC, dI)) (ci := 7) (v := .int (Mg_rooted s47.2.2.2.1)) (C := R_Md) (T := F_Md) (N := 35) hx hb hts inb_Md hown hK hP 0 rfl rfl 19 (by decide) (hts _ tw706) (fun _ h9 => h9) rfl d_Md_member_50 ?_
      refine lv_icmp_ge (tgt := 147) hx hb d_Md_member_53 (by decide) (fun hc => ?_) (fun hc => ?_)
      · have h := o_t hc h
        refine lv_aload_n hx hb d_Md_member_147 rfl (lv_at hl 0 rfl) ?_
        refine va_get (D := (dC, dI)) (ci := 7) (v := .ref (a 17)) (C := R_Md) (T := F_Md) (N := 35) hx hb hts inb_Md hown hK hP 0 rfl rfl 25 (by decide) (hts _ tw712) (fun _ h9 => h9) rfl d_Md_member_148 ?_
        refine lv_aload_n hx hb d_Md_member_151 rfl (lv_at hl 0 rfl) ?_
        refine va_get (D := (dC, dI)) (ci := 7) (v := .int (Mg_root s47.2.2.2.1)) (C := R_Md) (T := F_Md) (N := 35) hx hb hts inb_Md hown hK hP 0 rfl rfl 18 (by decide) (hts _ tw705) (fun _ h9 => h9) rfl d_Md_member_152 ?_
        obtain ⟨hin, h⟩ := o_in h
        refine va_zald hx hb hK hP 17 2 rfl rfl hin d_Md_member_155 ?_
        refine lv_istore (lv' := [(5, .int ((Mx_isComplete s47.2.2.2.2.1) (Mg_root s47.2.2.2.1).toNatClampNeg)), (0, .ref (a 0)), (2, .int x2_47), (3, .int s47.1), (4, .int s47.2.1)]) hx hb d_Md_member_156 hl (by decide) rfl (fun ls hl => ?_)
        refine lv_iload_n hx hb d_Md_member_158 rfl (lv_at hl 2 rfl) ?_
        refine sw_by (x := x2_47) (k := 0) (fun hc => ?_) (fun hn0 => ?_)
        · have h := o_t hc h
          refine sw_in (x := x2_47) (k := 0) hc (lv_tableIn (tgt := 184) hx hb d_Md_member_159 (by decide) (by decide) (by rfl) (by decide) ?_)
          refine lv_iload_n hx hb d_Md_member_184 rfl (lv_at hl 3 rfl) ?_
          refine lv_if_eq (tgt := 193) hx hb d_Md_member_185 (by decide) (fun hc => ?_) (fun hc => ?_)
          · have h := o_t hc h
            refine lv_iconst (v := 0) hx hb d_Md_member_193 (by decide) ?_
            cases h
            exact kr_i hx hb hr hlocks hP hD hS d_Md_member_194
          · have h := o_f hc h
            refine lv_bipush (v := 6) hx hb d_Md_member_188 (by decide) ?_
            refine lv_goto (tgt := 194) hx hb d_Md_member_190 (by decide) ?_
            cases h
            exact kr_i hx hb hr hlocks hP hD hS d_Md_member_194
        · have h := o_f hn0 h
          refine sw_by (x := x2_47) (k := 1) (fun hc => ?_) (fun hn1 => ?_)
          · have h := o_t hc h
            refine sw_in (x := x2_47) (k := 1) hc (lv_tableIn (tgt := 195) hx hb d_Md_member_159 (by decide) (by decide) (by rfl) (by decide) ?_)
            refine lv_iload hx hb d_Md_member_195 (lv_at hl 4 rfl) ?_
            refine lv_if_eq (tgt := 205) hx hb d_Md_member_197 (by decide) (fun hc => ?_) (fun hc => ?_)
            · have h := o_t hc h
              refine lv_iload hx hb d_Md_member_205 (lv_at hl 0 rfl) ?_
              refine lv_if_eq (tgt := 215) hx hb d_Md_member_207 (by decide) (fun hc => ?_) (fun hc => ?_)
              · have h := o_t hc h
                refine lv_iconst (v := 0) hx hb d_Md_member_215 (by decide) ?_
                cases h
                exact kr_i hx hb hr hlocks hP hD hS d_Md_member_216
              · have h := o_f hc h
                refine lv_bipush (v := 7) hx hb d_Md_member_210 (by decide) ?_
                refine lv_goto (tgt := 216) hx hb d_Md_member_212 (by decide) ?_
                cases h
                exact kr_i hx hb hr hlocks hP hD hS d_Md_member_216
            · have h := o_f hc h
              refine lv_bipush (v := 6) hx hb d_Md_member_200 (by decide) ?_
              refine lv_goto (tgt := 216) hx hb d_Md_member_202 (by decide) ?_
              cases h
              exact kr_i hx hb hr hlocks hP hD hS d_Md_member_216
          · have h := o_f hn1 h
            refine sw_by (x := x2_47) (k := 2) (fun hc => ?_) (fun hn2 => ?_)
            · have h := o_t hc h
              refine sw_in (x := x2_47) (k := 2) hc (lv_tableIn (tgt := 217) hx hb d_Md_member_159 (by decide) (by decide) (by rfl) (by decide) ?_)
              refine lv_iload_n hx hb d_Md_member_217 rfl (lv_at hl 3 rfl) ?_
              refine lv_if_ne (tgt := 226) hx hb d_Md_member_218 (by decide) (fun hc => ?_) (fun hc => ?_)
              · have h := o_f hc h
                refine lv_bipush (v := 6) hx hb d_Md_member_226 (by decide) ?_
                refine lv_goto (tgt := 242) hx hb d_Md_member_228 (by decide) ?_
                cases h
                exact kr_i hx hb hr hlocks hP hD hS d_Md_member_242
              · have h := o_t hc h
                refine lv_iload hx hb d_Md_member_221 (lv_at hl 4 rfl) ?_
                refine lv_if_eq (tgt := 231) hx hb d_Md_member_223 (by decide) (fun hc => ?_) (fun hc => ?_)
                · have h := o_t hc h
                  refine lv_iload hx hb d_Md_member_231 (lv_at hl 0 rfl) ?_
                  refine lv_if_eq (tgt := 240) hx hb d_Md_member_233 (by decide) (fun hc => ?_) (fun hc => ?_)
                  · have h := o_t hc h
                    refine lv_bipush (v := 8) hx hb d_Md_member_240 (by decide) ?_
                    cases h
                    exact kr_i hx hb hr hlocks hP hD hS d_Md_member_242
                  · have h := o_f hc h
                    refine lv_iconst (v := 0) hx hb d_Md_member_236 (by decide) ?_
                    refine lv_goto (tgt := 242) hx hb d_Md_member_237 (by decide) ?_
                    cases h
                    exact kr_i hx hb hr hlocks hP hD hS d_Md_member_242
                · have h := o_f hc h
                  refine lv_bipush (v := 6) hx hb d_Md_member_226 (by decide) ?_
                  refine lv_goto (tgt := 242) hx hb d_Md_member_228 (by decide) ?_
                  cases h
                  exact kr_i hx hb hr hlocks hP hD hS d_Md_member_242
            · have h := o_f hn2 h
              refine lv_tableOut (tgt := 243) hx hb d_Md_member_159 (by have g0 := sw_ne hn0 (show (0 : Int32).toInt = 0 by decide); have g1 := sw_ne hn1 (show (1 : Int32).toInt = 1 by decide); have g2 := sw_ne hn2 (show (2 : Int32).toInt = 2 by decide); omega) (by decide) ?_
              refine lv_iload_n hx hb d_Md_member_243 rfl (lv_at hl 3 rfl) ?_
              refine lv_if_eq (tgt := 262) hx hb d_Md_member_244 (by decide) (fun hc => ?_) (fun hc => ?_)
              · have h := o_t hc h
                refine lv_iconst (v := 0) hx hb d_Md_member_262 (by decide) ?_
                cases h
                exact kr_i hx hb hr hlocks hP hD hS d_Md_member_263
              · have h := o_f hc h
                refine lv_iload hx hb d_Md_member_247 (lv_at hl 4 rfl) ?_
                refine lv_if_ne (tgt := 257) hx hb d_Md_member_249 (by decide) (fun hc => ?_) (fun hc => ?_)
                · have h := o_f hc h
                  refine lv_bipush (v := 9) hx hb d_Md_member_257 (by decide) ?_
                  refine lv_goto (tgt := 263) hx hb d_Md_member_259 (by decide) ?_
                  cases h
                  exact kr_i hx hb hr hlocks hP hD hS d_Md_member_263
                · have h := o_t hc h
                  refine lv_iload hx hb d_Md_member_252 (lv_at hl 0 rfl) ?_
                  refine lv_if_eq (tgt := 262) hx hb d_Md_member_254 (by decide) (fun hc => ?_) (fun hc => ?_)
                  · have h := o_t hc h
                    refine lv_iconst (v := 0) hx hb d_Md_member_262 (by decide) ?_
                    cases h
                    exact kr_i hx hb hr hlocks hP hD hS d_Md_member_263
                  · have h := o_f hc h
                    refine lv_bipush (v := 9) hx hb d_Md_member_257 (by decide) ?_
                    refine lv_goto (tgt := 263) hx hb d_Md_member_259 (by decide) ?_
                    cases h
                    exact kr_i hx hb hr hlocks hP hD hS d_Md_member_263
      · have h := o_f hc h
        refine lv_iload_n hx hb d_Md_member_56 rfl (lv_at hl 2 rfl) ?_
        refine lv_if_ne (tgt := 92) hx hb d_Md_member_57 (by decide) (fun hc => ?_) (fun hc => ?_)
        · have h := o_f hc h
          exact B92 s47.2.1 s47.2.2.1 s47.2.2.2.1 s47.2.2.2.2.1 s47.2.2.2.2.2 _ _ _ h hP hD hS (lv_sub hl [0, 1, 3, 4] rfl)
        · have h := o_t hc h
          refine lv_aload_n hx hb d_Md_member_60 rfl (lv_at hl 0 rfl) ?_
          refine va_get (D := (dC, dI)) (ci := 7) (v := .ref (a 2)) (C := R_Md) (T := F_Md) (N := 35) hx hb hts inb_Md hown hK hP 0 rfl rfl 3 (by decide) (hts _ tw690) (fun _ h9 => h9) rfl d_Md_member_61 ?_
          refine lv_aload_n hx hb d_Md_member_64 rfl (lv_at hl 0 rfl) ?_
          refine va_get (D := (dC, dI)) (ci := 7) (v := .ref (a 13)) (C := R_Md) (T := F_Md) (N := 35) hx hb hts inb_Md hown hK hP 0 rfl rfl 21 (by decide) (hts _ tw708) (fun _ h9 => h9) rfl d_Md_member_65 ?_
          refine lv_iload hx hb d_Md_member_68 (lv_at hl 4 rfl) ?_
          obtain ⟨hin, h⟩ := o_in h
          refine va_iald hx hb hK hP 13 0 rfl rfl hin d_Md_member_70 ?_
          obtain ⟨hin, h⟩ := o_in h
          refine va_iald hx hb hK hP 2 0 rfl rfl hin d_Md_member_71 ?_
          refine lv_iconst (v := 3) hx hb d_Md_member_72 (by decide) ?_
          refine lv_icmp_ne (tgt := 96) hx hb d_Md_member_73 (by decide) (fun hc => ?_) (fun hc => ?_)
          · have h := o_f hc h
            exact B96 s47.2.1 s47.2.2.1 s47.2.2.2.1 s47.2.2.2.2.1 s47.2.2.2.2.2 _ _ _ h hP hD hS (lv_sub hl [0, 1, 3, 4] rfl)
          · have h := o_t hc h
            refine lv_aload_n hx hb d_Md_member_76 rfl (lv_at hl 0 rfl) ?_
            refine va_get (D := (dC, dI)) (ci := 7) (v := .ref (a 3)) (C := R_Md) (T := F_Md) (N := 35) hx hb hts inb_Md hown hK hP 0 rfl rfl 4 (by decide) (hts _ tw691) (fun _ h9 => h9) rfl d_Md_member_77 ?_
            refine lv_aload_n hx hb d_Md_member_80 rfl (lv_at hl 0 rfl) ?_
            refine va_get (D := (dC, dI)) (ci := 7) (v := .ref (a 13)) (C := R_Md) (T := F_Md) (N := 35) hx hb hts inb_Md hown hK hP 0 rfl rfl 21 (by decide) (hts _ tw708) (fun _ h9 => h9) rfl d_Md_member_81 ?_
            refine lv_iload hx hb d_Md_member_84 (lv_at hl 4 rfl) ?_
            obtain ⟨hin, h⟩ := o_in h
            refine va_iald hx hb hK hP 13 0 rfl rfl hin d_Md_member_86 ?_
            obtain ⟨hin, h⟩ := o_in h
            refine va_iald hx hb hK hP 3 0 rfl rfl hin d_Md_member_87 ?_
            refine lv_iconst (v := 1) hx hb d_Md_member_88 (by decide) ?_
            refine lv_icmp_ne (tgt := 96) hx hb d_Md_member_89 (by decide) (fun hc => ?_) (fun hc => ?_)
            · have h := o_f hc h
              exact B96 s47.2.1 s47.2.2.1 s47.2.2.2.1 s47.2.2.2.2.1 s47.2.2.2.2.2 _ _ _ h hP hD hS (lv_sub hl [0, 1, 3, 4] rfl)
            · have h := o_t hc h
              exact B92 s47.2.1 s47.2.2.1 s47.2.2.2.1 s47.2.2.2.2.1 s47.2.2.2.2.2 _ _ _ h hP hD hS (lv_sub hl [0, 1, 3, 4] rfl)
  refine lv_aload_n hx hb d_Md_member_0 rfl (lv_at hl 0 rfl) ?_
  refine lv_iload_n hx hb d_Md_member_1 rfl (lv_at hl 1 rfl) ?_
  obtain ⟨y2, hy, h⟩ := o_bd h
  refine kdV (nn := 24) (rest := []) (w' := (cMd cI cJ cZ a mb mg mx mf)) (wr := ([] : va_W)) (st1 := [.int y2]) ⟨hx, hb, hml, hown, hts⟩ (c_Md_isNode l dC dI cI cJ cZ a x1 mb mg mx mf y2 hy) (cwV 1 hts (gd_V tw821 tw823 ps21 tw9 tw824) rfl rfl rfl hd_Md_isNode ⟨Nat.le_of_ble_eq_true rfl, Nat.le_of_ble_eq_true rfl⟩) hNw hK hP hD hS hA (ci := 7) rfl rfl rfl [0, 1, 2, 3, 4, 5, 6, 7, 8, 9, 10, 11, 12, 13, 14, 15, 16, 17, 18, 19, 20, 21, 22, 23] [] rfl rfl rfl rfl rfl (by decide +kernel) (by decide +kernel) rfl hl.1 rfl (Nat.le_of_ble_eq_true rfl) rfl d_Md_member_2 ⟨Nat.zero_le _, Nat.zero_le _⟩ (fun H locs hP hD hS => ?_)
  refine lv_if_eq (tgt := 17) hx hb d_Md_member_5 (by decide) (fun hc => ?_) (fun hc => ?_)
  · have h := o_t hc h
    refine lv_bipush (v := -2) hx hb d_Md_member_17 (by decide) ?_
    cases h
    exact kr_i hx hb hr hlocks hP hD hS d_Md_member_19
  · have h := o_f hc h
    refine lv_iload_n hx hb d_Md_member_8 rfl (lv_at hl 2 rfl) ?_
    refine lv_iconst (v := 0) hx hb d_Md_member_9 (by decide) ?_
    refine lv_iconst (v := 3) hx hb d_Md_member_10 (by decide) ?_
    obtain ⟨y11, hy, h⟩ := o_bd h
    refine kdS (nn := 24) (rest := []) (w' := (cMd cI cJ cZ a mb mg mx mf)) (wr := (cMd cI cJ cZ a mb mg mx mf)) (st1 := [.int y11]) ⟨hx, hb, hml, hown, hts⟩ (c_Md_isIn l dC dI cI cJ cZ a x2 (0 : Int32) (3 : Int32) y11 hy) (va_cwS 3 hts (gd_S tw806 tw807 tw9 tw808) rfl rfl rfl hd_Md_isIn.2 ⟨Nat.le_of_ble_eq_true rfl, Nat.le_of_ble_eq_true rfl⟩) hNw hK hP hD hS hA [] [0, 1, 2, 3, 4, 5, 6, 7, 8, 9, 10, 11, 12, 13, 14, 15, 16, 17, 18, 19, 20, 21, 22, 23] rfl rfl rfl rfl rfl (by decide +kernel) (by decide +kernel) rfl hl.1 rfl (Nat.le_of_ble_eq_true rfl) rfl d_Md_member_11 ⟨Nat.zero_le _, Nat.zero_le _⟩ (fun H locs hP hD hS => ?_)
    refine lv_if_ne (tgt := 20) hx hb d_Md_member_14 (by decide) (fun hc => ?_) (fun hc => ?_)
    · have h := o_f hc h
      refine lv_aload_n hx hb d_Md_member_20 rfl (lv_at hl 0 rfl) ?_
      refine lv_iload_n hx hb d_Md_member_21 rfl (lv_at hl 1 rfl) ?_
      obtain ⟨y22, hy, h⟩ := o_bd h
      refine kdV (nn := 24) (rest := []) (w' := (cMd cI cJ cZ a mb y22.1 y22.2.1 y22.2.2)) (wr := ([] : va_W)) (st1 := []) ⟨hx, hb, hml, hown, hts⟩ (c_Md_look l dC dI cI cJ cZ a N x1 mb mg mx mf y22 hy) (cwV 1 hts (gd_V tw885 tw887 ps27 tw9 tw888) rfl rfl rfl hd_Md_look ⟨Nat.le_of_ble_eq_true rfl, Nat.le_of_ble_eq_true rfl⟩) hNw hK hP hD hS hA (ci := 7) rfl rfl rfl [0, 1, 2, 3, 4, 5, 6, 7, 8, 9, 10, 11, 12, 13, 14, 15, 16, 17, 18, 19, 20, 21, 22, 23] [] rfl rfl rfl rfl rfl (by decide +kernel) (by decide +kernel) rfl hl.1 rfl (Nat.le_of_ble_eq_true rfl) rfl d_Md_member_22 ⟨Nat.zero_le _, Nat.zero_le _⟩ (fun H locs hP hD hS => ?_)
      refine lv_aload_n hx hb d_Md_member_25 rfl (lv_at hl 0 rfl) ?_
      refine va_get (D := (dC, dI)) (ci := 7) (v := .int (Mf_faults y22.2.2)) (C := R_Md) (T := F_Md) (N := 35) hx hb hts inb_Md hown hK hP 0 rfl rfl 30 (by decide) (hts _ tw717) (fun _ h9 => h9) rfl d_Md_member_26 ?_
      refine lv_if_le (tgt := 39) hx hb d_Md_member_29 (by decide) (fun hc => ?_) (fun hc => ?_)
      · have h := o_t hc h
        refine lv_iconst (v := 0) hx hb d_Md_member_39 (by decide) ?_
        refine lv_istore_n (lv' := [(3, .int (0 : Int32)), (0, .ref (a 0)), (1, .int x1), (2, .int x2)]) hx hb d_Md_member_40 rfl hl (by decide) rfl (fun ls hl => ?_)
        refine lv_iconst (v := 0) hx hb d_Md_member_41 (by decide) ?_
        refine lv_istore (lv' := [(4, .int (0 : Int32)), (3, .int (0 : Int32)), (0, .ref (a 0)), (1, .int x1), (2, .int x2)]) hx hb d_Md_member_42 hl (by decide) rfl (fun ls hl => ?_)
        refine lv_iconst (v := 0) hx hb d_Md_member_44 (by decide) ?_
        refine lv_istore (lv' := [(5, .int (0 : Int32)), (4, .int (0 : Int32)), (3, .int (0 : Int32)), (0, .ref (a 0)), (1, .int x1), (2, .int x2)]) hx hb d_Md_member_45 hl (by decide) rfl (fun ls hl => ?_)
        exact L47 x2 N ((0 : Int32), (0 : Int32), (0 : Int32), y22.1, y22.2.1, y22.2.2) _ _ _ h hP hD hS (lv_sub hl [3, 5, 2, 1, 0] rfl)
      · have h := o_f hc h
        refine lv_aload_n hx hb d_Md_member_32 rfl (lv_at hl 0 rfl) ?_
        refine va_get (D := (dC, dI)) (ci := 7) (v := .ref (a 21)) (C := R_Md) (T := F_Md) (N := 35) hx hb hts inb_Md hown hK hP 0 rfl rfl 31 (by decide) (hts _ tw718) (fun _ h9 => h9) rfl d_Md_member_33 ?_
        refine lv_iconst (v := 0) hx hb d_Md_member_36 (by decide) ?_
        obtain ⟨hin, h⟩ := o_in h
        refine va_iald hx hb hK hP 21 0 rfl rfl hin d_Md_member_37 ?_
        cases h
        exact kr_i hx hb hr hlocks hP hD hS d_Md_member_38
    · have h := o_t hc h
      refine lv_bipush (v := -2) hx hb d_Md_member_17 (by decide) ?_
      cases h
      exact kr_i hx hb hr hlocks hP hD hS d_Md_member_19
