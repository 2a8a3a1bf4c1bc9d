set_option maxHeartbeats 4000000 in
set_option maxRecDepth 100000 in
theorem c_Rf_isIn (l : Launch) (dC : Nat → ClassId) (dI : Nat → Nat → Nat) (cI cJ cZ : ClassId) (a : Nat → Nat) (x0 : Int64) (x2 : Int32) (res : Int32) (h : f_Rf_isIn x0 x2 = some res) :
    Kt l (dC, dI) classes [(cI, .int), (cJ, .long), (cZ, .boolean)] y_Rf_isIn (wz y_Rf_isIn b_Rf_isIn 3 (some .boolean)) { frames := 0, cells := 0, slots := 0, locals := 0 } [.long x0, .int x2] ([] : va_W) (some (.int res)) ([] : va_W) := by
  refine Kt_of (cc := b_Rf_isIn) (maxL := 3) (ret := (some .boolean)) (by decide) (Nat.le_of_ble_eq_true rfl) ?_
  intro p e s m args below meth c A ls hx hb hr hml hlocks hown hts hNw hK hP hD hA hS hl
  have hl : lv_has ls 3 [(0, .long x0), (2, .int x2)] := hl
  have hP : va_P (dC, dI) classes ([] : va_W) s.heap := hP
  refine lv_lload_n hx hb d_Rf_isIn_0 rfl (lv_at hl 0 rfl) ?_
  refine lv_iload_n hx hb d_Rf_isIn_1 rfl (lv_at hl 1 rfl) ?_
  refine lv_lshr hx hb d_Rf_isIn_2 rfl ?_
  refine lv_lconst (v := 1) hx hb d_Rf_isIn_3 (by decide) ?_
  refine lv_land hx hb d_Rf_isIn_4 ?_
  refine lv_lconst (v := 0) hx hb d_Rf_isIn_5 (by decide) ?_
  refine W.lcmp hx hb d_Rf_isIn_6 ?_
  refine lv_if_eq (tgt := 14) hx hb d_Rf_isIn_7 (by decide) (fun hc => ?_) (fun hc => ?_)
  · have h := o_t hc h
    refine lv_iconst (v := 0) hx hb d_Rf_isIn_14 (by decide) ?_
    cases h
    exact kr_z hx hb hr (by decide) hlocks hP hD hS d_Rf_isIn_15
  · have h := o_f hc h
    refine lv_iconst (v := 1) hx hb d_Rf_isIn_10 (by decide) ?_
    refine lv_goto (tgt := 15) hx hb d_Rf_isIn_11 (by decide) ?_
    cases h
    exact kr_z hx hb hr (by decide) hlocks hP hD hS d_Rf_isIn_15
set_option maxHeartbeats 4000000 in
set_option maxRecDepth 100000 in
theorem c_Rf_isTest (l : Launch) (dC : Nat → ClassId) (dI : Nat → Nat → Nat) (cI cJ cZ : ClassId) (a : Nat → Nat) (x0 : Int32) (x1 : Int32) (res : Int32) (h : f_Rf_isTest x0 x1 = some res) :
    Kt l (dC, dI) classes [(cI, .int), (cJ, .long), (cZ, .boolean)] y_Rf_isTest (wz y_Rf_isTest b_Rf_isTest 2 (some .boolean)) { frames := 0, cells := 0, slots := 0, locals := 0 } [.int x0, .int x1] ([] : va_W) (some (.int res)) ([] : va_W) := by
  refine Kt_of (cc := b_Rf_isTest) (maxL := 2) (ret := (some .boolean)) (by decide) (Nat.le_of_ble_eq_true rfl) ?_
  intro p e s m args below meth c A ls hx hb hr hml hlocks hown hts hNw hK hP hD hA hS hl
  have hl : lv_has ls 2 [(0, .int x0), (1, .int x1)] := hl
  have hP : va_P (dC, dI) classes ([] : va_W) s.heap := hP
  refine lv_iload_n hx hb d_Rf_isTest_0 rfl (lv_at hl 0 rfl) ?_
  refine lv_if_lt (tgt := 13) hx hb d_Rf_isTest_1 (by decide) (fun hc => ?_) (fun hc => ?_)
  · have h := o_t hc h
    refine lv_iconst (v := 0) hx hb d_Rf_isTest_13 (by decide) ?_
    cases h
    exact kr_z hx hb hr (by decide) hlocks hP hD hS d_Rf_isTest_14
  · have h := o_f hc h
    refine lv_iload_n hx hb d_Rf_isTest_4 rfl (lv_at hl 0 rfl) ?_
    refine lv_iload_n hx hb d_Rf_isTest_5 rfl (lv_at hl 1 rfl) ?_
    refine lv_icmp_gt (tgt := 13) hx hb d_Rf_isTest_6 (by decide) (fun hc => ?_) (fun hc => ?_)
    · have h := o_t hc h
      refine lv_iconst (v := 0) hx hb d_Rf_isTest_13 (by decide) ?_
      cases h
      exact kr_z hx hb hr (by decide) hlocks hP hD hS d_Rf_isTest_14
    · have h := o_f hc h
      refine lv_iconst (v := 1) hx hb d_Rf_isTest_9 (by decide) ?_
      refine lv_goto (tgt := 14) hx hb d_Rf_isTest_10 (by decide) ?_
      cases h
      exact kr_z hx hb hr (by decide) hlocks hP hD hS d_Rf_isTest_14
set_option maxHeartbeats 4000000 in
set_option maxRecDepth 100000 in
theorem c_Rf_isName (l : Launch) (dC : Nat → ClassId) (dI : Nat → Nat → Nat) (cI cJ cZ : ClassId) (a : Nat → Nat) (x0 : Int32) (res : Int32) (h : f_Rf_isName x0 = some res) :
    Kt l (dC, dI) classes [(cI, .int), (cJ, .long), (cZ, .boolean)] y_Rf_isName (wz y_Rf_isName b_Rf_isName 1 (some .boolean)) { frames := 0, cells := 0, slots := 0, locals := 0 } [.int x0] ([] : va_W) (some (.int res)) ([] : va_W) := by
  refine Kt_of (cc := b_Rf_isName) (maxL := 1) (ret := (some .boolean)) (by decide) (Nat.le_of_ble_eq_true rfl) ?_
  intro p e s m args below meth c A ls hx hb hr hml hlocks hown hts hNw hK hP hD hA hS hl
  have hl : lv_has ls 1 [(0, .int x0)] := hl
  have hP : va_P (dC, dI) classes ([] : va_W) s.heap := hP
  refine lv_iload_n hx hb d_Rf_isName_0 rfl (lv_at hl 0 rfl) ?_
  refine lv_if_lt (tgt := 14) hx hb d_Rf_isName_1 (by decide) (fun hc => ?_) (fun hc => ?_)
  · have h := o_t hc h
    refine lv_iconst (v := 0) hx hb d_Rf_isName_14 (by decide) ?_
    cases h
    exact kr_z hx hb hr (by decide) hlocks hP hD hS d_Rf_isName_15
  · have h := o_f hc h
    refine lv_iload_n hx hb d_Rf_isName_4 rfl (lv_at hl 0 rfl) ?_
    refine lv_bipush (v := 6) hx hb d_Rf_isName_5 (by decide) ?_
    refine lv_icmp_ge (tgt := 14) hx hb d_Rf_isName_7 (by decide) (fun hc => ?_) (fun hc => ?_)
    · have h := o_t hc h
      refine lv_iconst (v := 0) hx hb d_Rf_isName_14 (by decide) ?_
      cases h
      exact kr_z hx hb hr (by decide) hlocks hP hD hS d_Rf_isName_15
    · have h := o_f hc h
      refine lv_iconst (v := 1) hx hb d_Rf_isName_10 (by decide) ?_
      refine lv_goto (tgt := 15) hx hb d_Rf_isName_11 (by decide) ?_
      cases h
      exact kr_z hx hb hr (by decide) hlocks hP hD hS d_Rf_isName_15
set_option maxHeartbeats 4000000 in
set_option maxRecDepth 100000 in
theorem c_Rf_fitsRules (l : Launch) (dC : Nat → ClassId) (dI : Nat → Nat → Nat) (cI cJ cZ : ClassId) (a : Nat → Nat) (x0 : Int32) (res : Int32) (h : f_Rf_fitsRules x0 = some res) :
    Kt l (dC, dI) classes [(cI, .int), (cJ, .long), (cZ, .boolean)] y_Rf_fitsRules (wz y_Rf_fitsRules b_Rf_fitsRules 1 (some .boolean)) { frames := 0, cells := 0, slots := 0, locals := 0 } [.int x0] ([] : va_W) (some (.int res)) ([] : va_W) := by
  refine Kt_of (cc := b_Rf_fitsRules) (maxL := 1) (ret := (some .boolean)) (by decide) (Nat.le_of_ble_eq_true rfl) ?_
  intro p e s m args below meth c A ls hx hb hr hml hlocks hown hts hNw hK hP hD hA hS hl
  have hl : lv_has ls 1 [(0, .int x0)] := hl
  have hP : va_P (dC, dI) classes ([] : va_W) s.heap := hP
  refine lv_iload_n hx hb d_Rf_fitsRules_0 rfl (lv_at hl 0 rfl) ?_
  refine lv_bipush (v := 13) hx hb d_Rf_fitsRules_1 (by decide) ?_
  refine lv_icmp_eq (tgt := 16) hx hb d_Rf_fitsRules_3 (by decide) (fun hc => ?_) (fun hc => ?_)
  · have h := o_t hc h
    refine lv_iconst (v := 1) hx hb d_Rf_fitsRules_16 (by decide) ?_
    refine lv_goto (tgt := 21) hx hb d_Rf_fitsRules_17 (by decide) ?_
    cases h
    exact kr_z hx hb hr (by decide) hlocks hP hD hS d_Rf_fitsRules_21
  · have h := o_f hc h
    refine lv_iload_n hx hb d_Rf_fitsRules_6 rfl (lv_at hl 0 rfl) ?_
    refine lv_iconst (v := 1) hx hb d_Rf_fitsRules_7 (by decide) ?_
    refine lv_icmp_eq (tgt := 16) hx hb d_Rf_fitsRules_8 (by decide) (fun hc => ?_) (fun hc => ?_)
    · have h := o_t hc h
      refine lv_iconst (v := 1) hx hb d_Rf_fitsRules_16 (by decide) ?_
      refine lv_goto (tgt := 21) hx hb d_Rf_fitsRules_17 (by decide) ?_
      cases h
      exact kr_z hx hb hr (by decide) hlocks hP hD hS d_Rf_fitsRules_21
    · have h := o_f hc h
      refine lv_iload_n hx hb d_Rf_fitsRules_11 rfl (lv_at hl 0 rfl) ?_
      refine lv_iconst (v := 2) hx hb d_Rf_fitsRules_12 (by decide) ?_
      refine lv_icmp_ne (tgt := 20) hx hb d_Rf_fitsRules_13 (by decide) (fun hc => ?_) (fun hc => ?_)
      · have h := o_f hc h
        refine lv_iconst (v := 0) hx hb d_Rf_fitsRules_20 (by decide) ?_
        cases h
        exact kr_z hx hb hr (by decide) hlocks hP hD hS d_Rf_fitsRules_21
      · have h := o_t hc h
        refine lv_iconst (v := 1) hx hb d_Rf_fitsRules_16 (by decide) ?_
        refine lv_goto (tgt := 21) hx hb d_Rf_fitsRules_17 (by decide) ?_
        cases h
        exact kr_z hx hb hr (by decide) hlocks hP hD hS d_Rf_fitsRules_21
set_option maxHeartbeats 4000000 in
set_option maxRecDepth 100000 in
theorem c_Rf_isLoop (l : Launch) (dC : Nat → ClassId) (dI : Nat → Nat → Nat) (cI cJ cZ : ClassId) (a : Nat → Nat) (x0 : Int32) (res : Int32) (h : f_Rf_isLoop x0 = some res) :
    Kt l (dC, dI) classes [(cI, .int), (cJ, .long), (cZ, .boolean)] y_Rf_isLoop (wz y_Rf_isLoop b_Rf_isLoop 1 (some .boolean)) { frames := 0, cells := 0, slots := 0, locals := 0 } [.int x0] ([] : va_W) (some (.int res)) ([] : va_W) := by
  refine Kt_of (cc := b_Rf_isLoop) (maxL := 1) (ret := (some .boolean)) (by decide) (Nat.le_of_ble_eq_true rfl) ?_
  intro p e s m args below meth c A ls hx hb hr hml hlocks hown hts hNw hK hP hD hA hS hl
  have hl : lv_has ls 1 [(0, .int x0)] := hl
  have hP : va_P (dC, dI) classes ([] : va_W) s.heap := hP
  refine lv_iload_n hx hb d_Rf_isLoop_0 rfl (lv_at hl 0 rfl) ?_
  refine lv_iconst (v := 5) hx hb d_Rf_isLoop_1 (by decide) ?_
  refine lv_icmp_lt (tgt := 15) hx hb d_Rf_isLoop_2 (by decide) (fun hc => ?_) (fun hc => ?_)
  · have h := o_t hc h
    refine lv_iconst (v := 0) hx hb d_Rf_isLoop_15 (by decide) ?_
    cases h
    exact kr_z hx hb hr (by decide) hlocks hP hD hS d_Rf_isLoop_16
  · have h := o_f hc h
    refine lv_iload_n hx hb d_Rf_isLoop_5 rfl (lv_at hl 0 rfl) ?_
    refine lv_bipush (v := 8) hx hb d_Rf_isLoop_6 (by decide) ?_
    refine lv_icmp_gt (tgt := 15) hx hb d_Rf_isLoop_8 (by decide) (fun hc => ?_) (fun hc => ?_)
    · have h := o_t hc h
      refine lv_iconst (v := 0) hx hb d_Rf_isLoop_15 (by decide) ?_
      cases h
      exact kr_z hx hb hr (by decide) hlocks hP hD hS d_Rf_isLoop_16
    · have h := o_f hc h
      refine lv_iconst (v := 1) hx hb d_Rf_isLoop_11 (by decide) ?_
      refine lv_goto (tgt := 16) hx hb d_Rf_isLoop_12 (by decide) ?_
      cases h
      exact kr_z hx hb hr (by decide) hlocks hP hD hS d_Rf_isLoop_16
