set_option maxHeartbeats 4000000 in
set_option maxRecDepth 100000 in
theorem c_Tr_startAgain (l : Launch) (dC : Nat → ClassId) (dI : Nat → Nat → Nat) (cI cJ cZ : ClassId) (a : Nat → Nat) (tr : TrS) (res : TrS) (h : f_Tr_startAgain tr = some res) :
    Kt l (dC, dI) classes [(cI, .int), (cJ, .long), (cZ, .boolean)] y_Tr_startAgain (wz y_Tr_startAgain b_Tr_startAgain 1 none) { frames := 0, cells := 0, slots := 0, locals := 0 } [.ref (a 4)] (cTr cI cJ cZ a tr) none (cTr cI cJ cZ a res) := by
  refine Kt_of (cc := b_Tr_startAgain) (maxL := 1) (ret := none) (by decide) (Nat.le_of_ble_eq_true rfl) ?_
  intro p e s m args below meth c A ls hx hb hr hml hlocks hown hts hNw hK hP hD hA hS hl
  have hl : lv_has ls 1 [(0, .ref (a 4))] := hl
  have hP : va_P (dC, dI) classes (cTr cI cJ cZ a tr) s.heap := hP
  refine lv_aload_n hx hb d_Tr_startAgain_0 rfl (lv_at hl 0 rfl) ?_
  refine lv_iconst (v := 0) hx hb d_Tr_startAgain_1 (by decide) ?_
  refine va_put (D := (dC, dI)) (ci := 1) (v := .int (0 : Int32)) (ty := .int) (C := R_Tr) (T := F_Tr) (N := 14) hx hb hts inb_Tr ft_Tr ft_Tr_ok n_Tr hown hK hP hD hS 0 rfl rfl 0 (by decide) (hts _ tw58) (fun _ h9 => h9) rfl (by decide +kernel) rfl rfl (Nat.le_of_ble_eq_true rfl) d_Tr_startAgain_2 (fun H locs hP hD hS => ?_)
  have hP : va_P (dC, dI) classes (cTr cI cJ cZ a ((0 : Int32), (Tr_kidCount tr), (Tr_taken tr), (Tr_defaults tr), (Tr_sort tr), (Tr_value tr), (Tr_mark tr), (Tr_parent tr), (Tr_count tr), (Tr_tail tr), (Tr_partBits tr), (Tr_kids tr), (Tr_first tr), (Tr_spot tr))) H := hP
  have hD : va_D A (cTr cI cJ cZ a ((0 : Int32), (Tr_kidCount tr), (Tr_taken tr), (Tr_defaults tr), (Tr_sort tr), (Tr_value tr), (Tr_mark tr), (Tr_parent tr), (Tr_count tr), (Tr_tail tr), (Tr_partBits tr), (Tr_kids tr), (Tr_first tr), (Tr_spot tr))) := hD
  refine lv_aload_n hx hb d_Tr_startAgain_5 rfl (lv_at hl 0 rfl) ?_
  refine lv_iconst (v := 0) hx hb d_Tr_startAgain_6 (by decide) ?_
  refine va_put (D := (dC, dI)) (ci := 1) (v := .int (0 : Int32)) (ty := .int) (C := R_Tr) (T := F_Tr) (N := 14) hx hb hts inb_Tr ft_Tr ft_Tr_ok n_Tr hown hK hP hD hS 0 rfl rfl 1 (by decide) (hts _ tw60) (fun _ h9 => h9) rfl (by decide +kernel) rfl rfl (Nat.le_of_ble_eq_true rfl) d_Tr_startAgain_7 (fun H locs hP hD hS => ?_)
  have hP : va_P (dC, dI) classes (cTr cI cJ cZ a ((0 : Int32), (0 : Int32), (Tr_taken tr), (Tr_defaults tr), (Tr_sort tr), (Tr_value tr), (Tr_mark tr), (Tr_parent tr), (Tr_count tr), (Tr_tail tr), (Tr_partBits tr), (Tr_kids tr), (Tr_first tr), (Tr_spot tr))) H := hP
  have hD : va_D A (cTr cI cJ cZ a ((0 : Int32), (0 : Int32), (Tr_taken tr), (Tr_defaults tr), (Tr_sort tr), (Tr_value tr), (Tr_mark tr), (Tr_parent tr), (Tr_count tr), (Tr_tail tr), (Tr_partBits tr), (Tr_kids tr), (Tr_first tr), (Tr_spot tr))) := hD
  refine lv_aload_n hx hb d_Tr_startAgain_10 rfl (lv_at hl 0 rfl) ?_
  refine lv_lconst (v := 0) hx hb d_Tr_startAgain_11 (by decide) ?_
  refine va_put (D := (dC, dI)) (ci := 1) (v := .long (0 : Int64)) (ty := .long) (C := R_Tr) (T := F_Tr) (N := 14) hx hb hts inb_Tr ft_Tr ft_Tr_ok n_Tr hown hK hP hD hS 0 rfl rfl 2 (by decide) (hts _ tw61) (fun _ h9 => h9) rfl (by decide +kernel) rfl rfl (Nat.le_of_ble_eq_true rfl) d_Tr_startAgain_12 (fun H locs hP hD hS => ?_)
  have hP : va_P (dC, dI) classes (cTr cI cJ cZ a ((0 : Int32), (0 : Int32), (0 : Int64), (Tr_defaults tr), (Tr_sort tr), (Tr_value tr), (Tr_mark tr), (Tr_parent tr), (Tr_count tr), (Tr_tail tr), (Tr_partBits tr), (Tr_kids tr), (Tr_first tr), (Tr_spot tr))) H := hP
  have hD : va_D A (cTr cI cJ cZ a ((0 : Int32), (0 : Int32), (0 : Int64), (Tr_defaults tr), (Tr_sort tr), (Tr_value tr), (Tr_mark tr), (Tr_parent tr), (Tr_count tr), (Tr_tail tr), (Tr_partBits tr), (Tr_kids tr), (Tr_first tr), (Tr_spot tr))) := hD
  refine lv_aload_n hx hb d_Tr_startAgain_15 rfl (lv_at hl 0 rfl) ?_
  refine lv_lconst (v := 0) hx hb d_Tr_startAgain_16 (by decide) ?_
  refine va_put (D := (dC, dI)) (ci := 1) (v := .long (0 : Int64)) (ty := .long) (C := R_Tr) (T := F_Tr) (N := 14) hx hb hts inb_Tr ft_Tr ft_Tr_ok n_Tr hown hK hP hD hS 0 rfl rfl 3 (by decide) (hts _ tw62) (fun _ h9 => h9) rfl (by decide +kernel) rfl rfl (Nat.le_of_ble_eq_true rfl) d_Tr_startAgain_17 (fun H locs hP hD hS => ?_)
  have hP : va_P (dC, dI) classes (cTr cI cJ cZ a ((0 : Int32), (0 : Int32), (0 : Int64), (0 : Int64), (Tr_sort tr), (Tr_value tr), (Tr_mark tr), (Tr_parent tr), (Tr_count tr), (Tr_tail tr), (Tr_partBits tr), (Tr_kids tr), (Tr_first tr), (Tr_spot tr))) H := hP
  have hD : va_D A (cTr cI cJ cZ a ((0 : Int32), (0 : Int32), (0 : Int64), (0 : Int64), (Tr_sort tr), (Tr_value tr), (Tr_mark tr), (Tr_parent tr), (Tr_count tr), (Tr_tail tr), (Tr_partBits tr), (Tr_kids tr), (Tr_first tr), (Tr_spot tr))) := hD
  cases h
  exact kr_v hx hb hr hlocks hP hD hS d_Tr_startAgain_20
set_option maxHeartbeats 4000000 in
set_option maxRecDepth 100000 in
theorem c_Tr_has (l : Launch) (dC : Nat → ClassId) (dI : Nat → Nat → Nat) (cI cJ cZ : ClassId) (a : Nat → Nat) (x1 : Int32) (tr : TrS) (res : Int32) (h : f_Tr_has x1 tr = some res) :
    Kt l (dC, dI) classes [(cI, .int), (cJ, .long), (cZ, .boolean)] y_Tr_has (wz y_Tr_has b_Tr_has 2 (some .boolean)) { frames := 0, cells := 0, slots := 0, locals := 0 } [.ref (a 4), .int x1] (cTr cI cJ cZ a tr) (some (.int res)) (cTr cI cJ cZ a tr) := by
  refine Kt_of (cc := b_Tr_has) (maxL := 2) (ret := (some .boolean)) (by decide) (Nat.le_of_ble_eq_true rfl) ?_
  intro p e s m args below meth c A ls hx hb hr hml hlocks hown hts hNw hK hP hD hA hS hl
  have hl : lv_has ls 2 [(0, .ref (a 4)), (1, .int x1)] := hl
  have hP : va_P (dC, dI) classes (cTr cI cJ cZ a tr) s.heap := hP
  refine lv_iload_n hx hb d_Tr_has_0 rfl (lv_at hl 1 rfl) ?_
  refine lv_if_lt (tgt := 16) hx hb d_Tr_has_1 (by decide) (fun hc => ?_) (fun hc => ?_)
  · have h := o_t hc h
    refine lv_iconst (v := 0) hx hb d_Tr_has_16 (by decide) ?_
    cases h
    exact kr_z hx hb hr (by decide) hlocks hP hD hS d_Tr_has_17
  · have h := o_f hc h
    refine lv_iload_n hx hb d_Tr_has_4 rfl (lv_at hl 1 rfl) ?_
    refine lv_aload_n hx hb d_Tr_has_5 rfl (lv_at hl 0 rfl) ?_
    refine va_get (D := (dC, dI)) (ci := 1) (v := .int (Tr_size tr)) (C := R_Tr) (T := F_Tr) (N := 14) hx hb hts inb_Tr hown hK hP 0 rfl rfl 0 (by decide) (hts _ tw58) (fun _ h9 => h9) rfl d_Tr_has_6 ?_
    refine lv_icmp_ge (tgt := 16) hx hb d_Tr_has_9 (by decide) (fun hc => ?_) (fun hc => ?_)
    · have h := o_t hc h
      refine lv_iconst (v := 0) hx hb d_Tr_has_16 (by decide) ?_
      cases h
      exact kr_z hx hb hr (by decide) hlocks hP hD hS d_Tr_has_17
    · have h := o_f hc h
      refine lv_iconst (v := 1) hx hb d_Tr_has_12 (by decide) ?_
      refine lv_goto (tgt := 17) hx hb d_Tr_has_13 (by decide) ?_
      cases h
      exact kr_z hx hb hr (by decide) hlocks hP hD hS d_Tr_has_17
set_option maxHeartbeats 4000000 in
set_option maxRecDepth 100000 in
theorem c_Tr_isFree (l : Launch) (dC : Nat → ClassId) (dI : Nat → Nat → Nat) (cI cJ cZ : ClassId) (a : Nat → Nat) (x1 : Int32) (tr : TrS) (res : Int32) (h : f_Tr_isFree x1 tr = some res) :
    Kt l (dC, dI) classes [(cI, .int), (cJ, .long), (cZ, .boolean)] y_Tr_isFree (wz y_Tr_isFree b_Tr_isFree 2 (some .boolean)) { frames := 1, cells := 0, slots := 0, locals := 22 } [.ref (a 4), .int x1] (cTr cI cJ cZ a tr) (some (.int res)) (cTr cI cJ cZ a tr) := by
  refine Kt_of (cc := b_Tr_isFree) (maxL := 2) (ret := (some .boolean)) (by decide) (Nat.le_of_ble_eq_true rfl) ?_
  intro p e s m args below meth c A ls hx hb hr hml hlocks hown hts hNw hK hP hD hA hS hl
  have hl : lv_has ls 2 [(0, .ref (a 4)), (1, .int x1)] := hl
  have hP : va_P (dC, dI) classes (cTr cI cJ cZ a tr) s.heap := hP
  refine lv_aload_n hx hb d_Tr_isFree_0 rfl (lv_at hl 0 rfl) ?_
  refine lv_iload_n hx hb d_Tr_isFree_1 rfl (lv_at hl 1 rfl) ?_
  obtain ⟨y2, hy, h⟩ := o_bd h
  refine kdV (nn := 11) (rest := []) (w' := (cTr cI cJ cZ a tr)) (wr := ([] : va_W)) (st1 := [.int y2]) ⟨hx, hb, hml, hown, hts⟩ (c_Tr_has l dC dI cI cJ cZ a x1 tr y2 hy) (cwV 1 hts (gd_V tw327 tw328 tw329 tw3 tw330) rfl rfl rfl hd_Tr_has ⟨Nat.le_of_ble_eq_true rfl, Nat.le_of_ble_eq_true rfl⟩) hNw hK hP hD hS hA (ci := 1) rfl rfl rfl [0, 1, 2, 3, 4, 5, 6, 7, 8, 9, 10] [] rfl rfl rfl rfl rfl (by decide +kernel) (by decide +kernel) rfl hl.1 rfl (Nat.le_of_ble_eq_true rfl) rfl d_Tr_isFree_2 ⟨Nat.zero_le _, Nat.zero_le _⟩ (fun H locs hP hD hS => ?_)
  refine lv_if_eq (tgt := 23) hx hb d_Tr_isFree_5 (by decide) (fun hc => ?_) (fun hc => ?_)
  · have h := o_t hc h
    refine lv_iconst (v := 0) hx hb d_Tr_isFree_23 (by decide) ?_
    cases h
    exact kr_z hx hb hr (by decide) hlocks hP hD hS d_Tr_isFree_24
  · have h := o_f hc h
    refine lv_aload_n hx hb d_Tr_isFree_8 rfl (lv_at hl 0 rfl) ?_
    refine va_get (D := (dC, dI)) (ci := 1) (v := .long (Tr_taken tr)) (C := R_Tr) (T := F_Tr) (N := 14) hx hb hts inb_Tr hown hK hP 0 rfl rfl 2 (by decide) (hts _ tw61) (fun _ h9 => h9) rfl d_Tr_isFree_9 ?_
    refine lv_iload_n hx hb d_Tr_isFree_12 rfl (lv_at hl 1 rfl) ?_
    obtain ⟨y13, hy, h⟩ := o_bd h
    refine kdSN (nn := 11) (rest := []) (w' := (cTr cI cJ cZ a tr)) (wr := (cTr cI cJ cZ a tr)) (st1 := [.int y13]) ⟨hx, hb, hml, hown, hts⟩ (c_Rf_isIn l dC dI cI cJ cZ a (Tr_taken tr) x1 y13 hy) ⟨va_cnB 2 hts (gd_0 tw34) rfl rfl rfl (hNw _ nw331) (hts _ tw1) hd_Rf_isIn.2 ⟨Nat.le_of_ble_eq_true rfl, Nat.le_of_ble_eq_true rfl⟩, hts _ tw33, trivial⟩ hNw hK hP hD hS hA [] [0, 1, 2, 3, 4, 5, 6, 7, 8, 9, 10] rfl rfl rfl rfl rfl (by decide +kernel) (by decide +kernel) rfl hl.1 rfl (Nat.le_of_ble_eq_true rfl) rfl d_Tr_isFree_13 ⟨Nat.zero_le _, Nat.zero_le _⟩ (fun H locs hP hD hS => ?_)
    refine lv_if_ne (tgt := 23) hx hb d_Tr_isFree_16 (by decide) (fun hc => ?_) (fun hc => ?_)
    · have h := o_f hc h
      refine lv_iconst (v := 0) hx hb d_Tr_isFree_23 (by decide) ?_
      cases h
      exact kr_z hx hb hr (by decide) hlocks hP hD hS d_Tr_isFree_24
    · have h := o_t hc h
      refine lv_iconst (v := 1) hx hb d_Tr_isFree_19 (by decide) ?_
      refine lv_goto (tgt := 24) hx hb d_Tr_isFree_20 (by decide) ?_
      cases h
      exact kr_z hx hb hr (by decide) hlocks hP hD hS d_Tr_isFree_24
set_option maxHeartbeats 4000000 in
set_option maxRecDepth 100000 in
theorem c_Tr_isFreeBlock (l : Launch) (dC : Nat → ClassId) (dI : Nat → Nat → Nat) (cI cJ cZ : ClassId) (a : Nat → Nat) (x1 : Int32) (tr : TrS) (res : Int32) (h : f_Tr_isFreeBlock x1 tr = some res) :
    Kt l (dC, dI) classes [(cI, .int), (cJ, .long), (cZ, .boolean)] y_Tr_isFreeBlock (wz y_Tr_isFreeBlock b_Tr_isFreeBlock 2 (some .boolean)) { frames := 2, cells := 0, slots := 0, locals := 43 } [.ref (a 4), .int x1] (cTr cI cJ cZ a tr) (some (.int res)) (cTr cI cJ cZ a tr) := by
  refine Kt_of (cc := b_Tr_isFreeBlock) (maxL := 2) (ret := (some .boolean)) (by decide) (Nat.le_of_ble_eq_true rfl) ?_
  intro p e s m args below meth c A ls hx hb hr hml hlocks hown hts hNw hK hP hD hA hS hl
  have hl : lv_has ls 2 [(0, .ref (a 4)), (1, .int x1)] := hl
  have hP : va_P (dC, dI) classes (cTr cI cJ cZ a tr) s.heap := hP
  refine lv_aload_n hx hb d_Tr_isFreeBlock_0 rfl (lv_at hl 0 rfl) ?_
  refine lv_iload_n hx hb d_Tr_isFreeBlock_1 rfl (lv_at hl 1 rfl) ?_
  obtain ⟨y2, hy, h⟩ := o_bd h
  refine kdV (nn := 11) (rest := []) (w' := (cTr cI cJ cZ a tr)) (wr := ([] : va_W)) (st1 := [.int y2]) ⟨hx, hb, hml, hown, hts⟩ (c_Tr_isFree l dC dI cI cJ cZ a x1 tr y2 hy) (cwV 1 hts (gd_V tw336 tw324 tw325 tw3 tw326) rfl rfl rfl hd_Tr_isFree ⟨Nat.le_of_ble_eq_true rfl, Nat.le_of_ble_eq_true rfl⟩) hNw hK hP hD hS hA (ci := 1) rfl rfl rfl [0, 1, 2, 3, 4, 5, 6, 7, 8, 9, 10] [] rfl rfl rfl rfl rfl (by decide +kernel) (by decide +kernel) rfl hl.1 rfl (Nat.le_of_ble_eq_true rfl) rfl d_Tr_isFreeBlock_2 ⟨Nat.zero_le _, Nat.zero_le _⟩ (fun H locs hP hD hS => ?_)
  refine lv_if_eq (tgt := 23) hx hb d_Tr_isFreeBlock_5 (by decide) (fun hc => ?_) (fun hc => ?_)
  · have h := o_t hc h
    refine lv_iconst (v := 0) hx hb d_Tr_isFreeBlock_23 (by decide) ?_
    cases h
    exact kr_z hx hb hr (by decide) hlocks hP hD hS d_Tr_isFreeBlock_24
  · have h := o_f hc h
    refine lv_aload_n hx hb d_Tr_isFreeBlock_8 rfl (lv_at hl 0 rfl) ?_
    refine va_get (D := (dC, dI)) (ci := 1) (v := .ref (a 5)) (C := R_Tr) (T := F_Tr) (N := 14) hx hb hts inb_Tr hown hK hP 0 rfl rfl 4 (by decide) (hts _ tw63) (fun _ h9 => h9) rfl d_Tr_isFreeBlock_9 ?_
    refine lv_iload_n hx hb d_Tr_isFreeBlock_12 rfl (lv_at hl 1 rfl) ?_
    obtain ⟨hin, h⟩ := o_in h
    refine va_iald hx hb hK hP 1 0 rfl rfl hin d_Tr_isFreeBlock_13 ?_
    refine lv_bipush (v := 13) hx hb d_Tr_isFreeBlock_14 (by decide) ?_
    refine lv_icmp_ne (tgt := 23) hx hb d_Tr_isFreeBlock_16 (by decide) (fun hc => ?_) (fun hc => ?_)
    · have h := o_f hc h
      refine lv_iconst (v := 0) hx hb d_Tr_isFreeBlock_23 (by decide) ?_
      cases h
      exact kr_z hx hb hr (by decide) hlocks hP hD hS d_Tr_isFreeBlock_24
    · have h := o_t hc h
      refine lv_iconst (v := 1) hx hb d_Tr_isFreeBlock_19 (by decide) ?_
      refine lv_goto (tgt := 24) hx hb d_Tr_isFreeBlock_20 (by decide) ?_
      cases h
      exact kr_z hx hb hr (by decide) hlocks hP hD hS d_Tr_isFreeBlock_24
set_option maxHeartbeats 4000000 in
set_option maxRecDepth 100000 in
theorem c_Tr_isFull (l : Launch) (dC : Nat → ClassId) (dI : Nat → Nat → Nat) (cI cJ cZ : ClassId) (a : Nat → Nat) (tr : TrS) (res : Int32) (h : f_Tr_isFull tr = some res) :
    Kt l (dC, dI) classes [(cI, .int), (cJ, .long), (cZ, .boolean)] y_Tr_isFull (wz y_Tr_isFull b_Tr_isFull 1 (some .boolean)) { frames := 0, cells := 0, slots := 0, locals := 0 } [.ref (a 4)] (cTr cI cJ cZ a tr) (some (.int res)) (cTr cI cJ cZ a tr) := by
  refine Kt_of (cc := b_Tr_isFull) (maxL := 1) (ret := (some .boolean)) (by decide) (Nat.le_of_ble_eq_true rfl) ?_
  intro p e s m args below meth c A ls hx hb hr hml hlocks hown hts hNw hK hP hD hA hS hl
  have hl : lv_has ls 1 [(0, .ref (a 4))] := hl
  have hP : va_P (dC, dI) classes (cTr cI cJ cZ a tr) s.heap := hP
  refine lv_aload_n hx hb d_Tr_isFull_0 rfl (lv_at hl 0 rfl) ?_
  refine va_get (D := (dC, dI)) (ci := 1) (v := .int (Tr_size tr)) (C := R_Tr) (T := F_Tr) (N := 14) hx hb hts inb_Tr hown hK hP 0 rfl rfl 0 (by decide) (hts _ tw58) (fun _ h9 => h9) rfl d_Tr_isFull_1 ?_
  refine lv_bipush (v := 60) hx hb d_Tr_isFull_4 (by decide) ?_
  refine lv_icmp_lt (tgt := 13) hx hb d_Tr_isFull_6 (by decide) (fun hc => ?_) (fun hc => ?_)
  · have h := o_t hc h
    refine lv_iconst (v := 0) hx hb d_Tr_isFull_13 (by decide) ?_
    cases h
    exact kr_z hx hb hr (by decide) hlocks hP hD hS d_Tr_isFull_14
  · have h := o_f hc h
    refine lv_iconst (v := 1) hx hb d_Tr_isFull_9 (by decide) ?_
    refine lv_goto (tgt := 14) hx hb d_Tr_isFull_10 (by decide) ?_
    cases h
    exact kr_z hx hb hr (by decide) hlocks hP hD hS d_Tr_isFull_14
set_option maxHeartbeats 4000000 in
set_option maxRecDepth 100000 in
theorem c_Tr_add (l : Launch) (dC : Nat → ClassId) (dI : Nat → Nat → Nat) (cI cJ cZ : ClassId) (a : Nat → Nat) (x1 : Int32) (x2 : Int32) (tr : TrS) (res : Int32 × TrS) (h : f_Tr_add x1 x2 tr = some res) :
    Kt l (dC, dI) classes [(cI, .int), (cJ, .long), (cZ, .boolean)] y_Tr_add (wz y_Tr_add b_Tr_add 4 (some .int)) { frames := 0, cells := 0, slots := 0, locals := 0 } [.ref (a 4), .int x1, .int x2] (cTr cI cJ cZ a tr) (some (.int res.1)) (cTr cI cJ cZ a res.2) := by
  refine Kt_of (cc := b_Tr_add) (maxL := 4) (ret := (some .int)) (by decide) (Nat.le_of_ble_eq_true rfl) ?_
  intro p e s m args below meth c A ls hx hb hr hml hlocks hown hts hNw hK hP hD hA hS hl
  have hl : lv_has ls 4 [(0, .ref (a 4)), (1, .int x1), (2, .int x2)] := hl
  have hP : va_P (dC, dI) classes (cTr cI cJ cZ a tr) s.heap := hP
  refine lv_aload_n hx hb d_Tr_add_0 rfl (lv_at hl 0 rfl) ?_
  refine va_get (D := (dC, dI)) (ci := 1) (v := .int (Tr_size tr)) (C := R_Tr) (T := F_Tr) (N := 14) hx hb hts inb_Tr hown hK hP 0 rfl rfl 0 (by decide) (hts _ tw58) (fun _ h9 => h9) rfl d_Tr_add_1 ?_
  refine lv_istore_n (lv' := [(3, .int (Tr_size tr)), (0, .ref (a 4)), (1, .int x1), (2, .int x2)]) hx hb d_Tr_add_4 rfl hl (by decide) rfl (fun ls hl => ?_)
  refine lv_aload_n hx hb d_Tr_add_5 rfl (lv_at hl 1 rfl) ?_
  refine lv_dup hx hb d_Tr_add_6 rfl ?_
  refine va_get (D := (dC, dI)) (ci := 1) (v := .int (Tr_size tr)) (C := R_Tr) (T := F_Tr) (N := 14) hx hb hts inb_Tr hown hK hP 0 rfl rfl 0 (by decide) (hts _ tw58) (fun _ h9 => h9) rfl d_Tr_add_7 ?_
  refine lv_iconst (v := 1) hx hb d_Tr_add_10 (by decide) ?_
  refine lv_iadd hx hb d_Tr_add_11 ?_
  refine va_put (D := (dC, dI)) (ci := 1) (v := .int ((Tr_size tr) + (1 : Int32))) (ty := .int) (C := R_Tr) (T := F_Tr) (N := 14) hx hb hts inb_Tr ft_Tr ft_Tr_ok n_Tr hown hK hP hD hS 0 rfl rfl 0 (by decide) (hts _ tw58) (fun _ h9 => h9) rfl (by decide +kernel) rfl rfl (Nat.le_of_ble_eq_true rfl) d_Tr_add_12 (fun H locs hP hD hS => ?_)
  have hP : va_P (dC, dI) classes (cTr cI cJ cZ a (((Tr_size tr) + (1 : Int32)), (Tr_kidCount tr), (Tr_taken tr), (Tr_defaults tr), (Tr_sort tr), (Tr_value tr), (Tr_mark tr), (Tr_parent tr), (Tr_count tr), (Tr_tail tr), (Tr_partBits tr), (Tr_kids tr), (Tr_first tr), (Tr_spot tr))) H := hP
  have hD : va_D A (cTr cI cJ cZ a (((Tr_size tr) + (1 : Int32)), (Tr_kidCount tr), (Tr_taken tr), (Tr_defaults tr), (Tr_sort tr), (Tr_value tr), (Tr_mark tr), (Tr_parent tr), (Tr_count tr), (Tr_tail tr), (Tr_partBits tr), (Tr_kids tr), (Tr_first tr), (Tr_spot tr))) := hD
  refine lv_aload_n hx hb d_Tr_add_15 rfl (lv_at hl 1 rfl) ?_
  refine va_get (D := (dC, dI)) (ci := 1) (v := .ref (a 5)) (C := R_Tr) (T := F_Tr) (N := 14) hx hb hts inb_Tr hown hK hP 0 rfl rfl 4 (by decide) (hts _ tw63) (fun _ h9 => h9) rfl d_Tr_add_16 ?_
  refine lv_iload_n hx hb d_Tr_add_19 rfl (lv_at hl 0 rfl) ?_
  refine lv_iload_n hx hb d_Tr_add_20 rfl (lv_at hl 2 rfl) ?_
  obtain ⟨hin, h⟩ := o_in h
  refine va_iast hx hb hK hP hD hS 1 0 rfl rfl hin d_Tr_add_21 (fun H locs hP hD hS => ?_)
  have hP : va_P (dC, dI) classes (cTr cI cJ cZ a (((Tr_size tr) + (1 : Int32)), (Tr_kidCount tr), (Tr_taken tr), (Tr_defaults tr), (upd (Tr_sort tr) (Tr_size tr).toNatClampNeg x1), (Tr_value tr), (Tr_mark tr), (Tr_parent tr), (Tr_count tr), (Tr_tail tr), (Tr_partBits tr), (Tr_kids tr), (Tr_first tr), (Tr_spot tr))) H := hP
  have hD : va_D A (cTr cI cJ cZ a (((Tr_size tr) + (1 : Int32)), (Tr_kidCount tr), (Tr_taken tr), (Tr_defaults tr), (upd (Tr_sort tr) (Tr_size tr).toNatClampNeg x1), (Tr_value tr), (Tr_mark tr), (Tr_parent tr), (Tr_count tr), (Tr_tail tr), (Tr_partBits tr), (Tr_kids tr), (Tr_first tr), (Tr_spot tr))) := hD
  refine lv_aload_n hx hb d_Tr_add_22 rfl (lv_at hl 1 rfl) ?_
  refine va_get (D := (dC, dI)) (ci := 1) (v := .ref (a 6)) (C := R_Tr) (T := F_Tr) (N := 14) hx hb hts inb_Tr hown hK hP 0 rfl rfl 5 (by decide) (hts _ tw67) (fun _ h9 => h9) rfl d_Tr_add_23 ?_
  refine lv_iload_n hx hb d_Tr_add_26 rfl (lv_at hl 0 rfl) ?_
  refine lv_iload_n hx hb d_Tr_add_27 rfl (lv_at hl 3 rfl) ?_
  obtain ⟨hin, h⟩ := o_in h
  refine va_iast hx hb hK hP hD hS 2 0 rfl rfl hin d_Tr_add_28 (fun H locs hP hD hS => ?_)
  have hP : va_P (dC, dI) classes (cTr cI cJ cZ a (((Tr_size tr) + (1 : Int32)), (Tr_kidCount tr), (Tr_taken tr), (Tr_defaults tr), (upd (Tr_sort tr) (Tr_size tr).toNatClampNeg x1), (upd (Tr_value tr) (Tr_size tr).toNatClampNeg x2), (Tr_mark tr), (Tr_parent tr), (Tr_count tr), (Tr_tail tr), (Tr_partBits tr), (Tr_kids tr), (Tr_first tr), (Tr_spot tr))) H := hP
  have hD : va_D A (cTr cI cJ cZ a (((Tr_size tr) + (1 : Int32)), (Tr_kidCount tr), (Tr_taken tr), (Tr_defaults tr), (upd (Tr_sort tr) (Tr_size tr).toNatClampNeg x1), (upd (Tr_value tr) (Tr_size tr).toNatClampNeg x2), (Tr_mark tr), (Tr_parent tr), (Tr_count tr), (Tr_tail tr), (Tr_partBits tr), (Tr_kids tr), (Tr_first tr), (Tr_spot tr))) := hD
  refine lv_aload_n hx hb d_Tr_add_29 rfl (lv_at hl 1 rfl) ?_
  refine va_get (D := (dC, dI)) (ci := 1) (v := .ref (a 7)) (C := R_Tr) (T := F_Tr) (N := 14) hx hb hts inb_Tr hown hK hP 0 rfl rfl 6 (by decide) (hts _ tw72) (fun _ h9 => h9) rfl d_Tr_add_30 ?_
  refine lv_iload_n hx hb d_Tr_add_33 rfl (lv_at hl 0 rfl) ?_
  refine lv_iconst (v := -1) hx hb d_Tr_add_34 (by decide) ?_
  obtain ⟨hin, h⟩ := o_in h
  refine va_iast hx hb hK hP hD hS 3 0 rfl rfl hin d_Tr_add_35 (fun H locs hP hD hS => ?_)
  have hP : va_P (dC, dI) classes (cTr cI cJ cZ a (((Tr_size tr) + (1 : Int32)), (Tr_kidCount tr), (Tr_taken tr), (Tr_defaults tr), (upd (Tr_sort tr) (Tr_size tr).toNatClampNeg x1), (upd (Tr_value tr) (Tr_size tr).toNatClampNeg x2), (upd (Tr_mark tr) (Tr_size tr).toNatClampNeg (-1 : Int32)), (Tr_parent tr), (Tr_count tr), (Tr_tail tr), (Tr_partBits tr), (Tr_kids tr), (Tr_first tr), (Tr_spot tr))) H := hP
  have hD : va_D A (cTr cI cJ cZ a (((Tr_size tr) + (1 : Int32)), (Tr_kidCount tr), (Tr_taken tr), (Tr_defaults tr), (upd (Tr_sort tr) (Tr_size tr).toNatClampNeg x1), (upd (Tr_value tr) (Tr_size tr).toNatClampNeg x2), (upd (Tr_mark tr) (Tr_size tr).toNatClampNeg (-1 : Int32)), (Tr_parent tr), (Tr_count tr), (Tr_tail tr), (Tr_partBits tr), (Tr_kids tr), (Tr_first tr), (Tr_spot tr))) := hD
  refine lv_aload_n hx hb d_Tr_add_36 rfl (lv_at hl 1 rfl) ?_
  refine va_get (D := (dC, dI)) (ci := 1) (v := .ref (a 8)) (C := R_Tr) (T := F_Tr) (N := 14) hx hb hts inb_Tr hown hK hP 0 rfl rfl 7 (by decide) (hts _ tw76) (fun _ h9 => h9) rfl d_Tr_add_37 ?_
  refine lv_iload_n hx hb d_Tr_add_40 rfl (lv_at hl 0 rfl) ?_
  refine lv_iconst (v := -1) hx hb d_Tr_add_41 (by decide) ?_
  obtain ⟨hin, h⟩ := o_in h
  refine va_iast hx hb hK hP hD hS 4 0 rfl rfl hin d_Tr_add_42 (fun H locs hP hD hS => ?_)
  have hP : va_P (dC, dI) classes (cTr cI cJ cZ a (((Tr_size tr) + (1 : Int32)), (Tr_kidCount tr), (Tr_taken tr), (Tr_defaults tr), (upd (Tr_sort tr) (Tr_size tr).toNatClampNeg x1), (upd (Tr_value tr) (Tr_size tr).toNatClampNeg x2), (upd (Tr_mark tr) (Tr_size tr).toNatClampNeg (-1 : Int32)), (upd (Tr_parent tr) (Tr_size tr).toNatClampNeg (-1 : Int32)), (Tr_count tr), (Tr_tail tr), (Tr_partBits tr), (Tr_kids tr), (Tr_first tr), (Tr_spot tr))) H := hP
  have hD : va_D A (cTr cI cJ cZ a (((Tr_size tr) + (1 : Int32)), (Tr_kidCount tr), (Tr_taken tr), (Tr_defaults tr), (upd (Tr_sort tr) (Tr_size tr).toNatClampNeg x1), (upd (Tr_value tr) (Tr_size tr).toNatClampNeg x2), (upd (Tr_mark tr) (Tr_size tr).toNatClampNeg (-1 : Int32)), (upd (Tr_parent tr) (Tr_size tr).toNatClampNeg (-1 : Int32)), (Tr_count tr), (Tr_tail tr), (Tr_partBits tr), (Tr_kids tr), (Tr_first tr), (Tr_spot tr))) := hD
  refine lv_aload_n hx hb d_Tr_add_43 rfl (lv_at hl 1 rfl) ?_
  refine va_get (D := (dC, dI)) (ci := 1) (v := .ref (a 9)) (C := R_Tr) (T := F_Tr) (N := 14) hx hb hts inb_Tr hown hK hP 0 rfl rfl 8 (by decide) (hts _ tw80) (fun _ h9 => h9) rfl d_Tr_add_44 ?_
  refine lv_iload_n hx hb d_Tr_add_47 rfl (lv_at hl 0 rfl) ?_
  refine lv_iconst (v := 0) hx hb d_Tr_add_48 (by decide) ?_
  obtain ⟨hin, h⟩ := o_in h
  refine va_iast hx hb hK hP hD hS 5 0 rfl rfl hin d_Tr_add_49 (fun H locs hP hD hS => ?_)
  have hP : va_P (dC, dI) classes (cTr cI cJ cZ a (((Tr_size tr) + (1 : Int32)), (Tr_kidCount tr), (Tr_taken tr), (Tr_defaults tr), (upd (Tr_sort tr) (Tr_size tr).toNatClampNeg x1), (upd (Tr_value tr) (Tr_size tr).toNatClampNeg x2), (upd (Tr_mark tr) (Tr_size tr).toNatClampNeg (-1 : Int32)), (upd (Tr_parent tr) (Tr_size tr).toNatClampNeg (-1 : Int32)), (upd (Tr_count tr) (Tr_size tr).toNatClampNeg (0 : Int32)), (Tr_tail tr), (Tr_partBits tr), (Tr_kids tr), (Tr_first tr), (Tr_spot tr))) H := hP
  have hD : va_D A (cTr cI cJ cZ a (((Tr_size tr) + (1 : Int32)), (Tr_kidCount tr), (Tr_taken tr), (Tr_defaults tr), (upd (Tr_sort tr) (Tr_size tr).toNatClampNeg x1), (upd (Tr_value tr) (Tr_size tr).toNatClampNeg x2), (upd (Tr_mark tr) (Tr_size tr).toNatClampNeg (-1 : Int32)), (upd (Tr_parent tr) (Tr_size tr).toNatClampNeg (-1 : Int32)), (upd (Tr_count tr) (Tr_size tr).toNatClampNeg (0 : Int32)), (Tr_tail tr), (Tr_partBits tr), (Tr_kids tr), (Tr_first tr), (Tr_spot tr))) := hD
  refine lv_aload_n hx hb d_Tr_add_50 rfl (lv_at hl 1 rfl) ?_
  refine va_get (D := (dC, dI)) (ci := 1) (v := .ref (a 10)) (C := R_Tr) (T := F_Tr) (N := 14) hx hb hts inb_Tr hown hK hP 0 rfl rfl 9 (by decide) (hts _ tw84) (fun _ h9 => h9) rfl d_Tr_add_51 ?_
  refine lv_iload_n hx hb d_Tr_add_54 rfl (lv_at hl 0 rfl) ?_
  refine lv_iconst (v := -1) hx hb d_Tr_add_55 (by decide) ?_
  obtain ⟨hin, h⟩ := o_in h
  refine va_iast hx hb hK hP hD hS 6 0 rfl rfl hin d_Tr_add_56 (fun H locs hP hD hS => ?_)
  have hP : va_P (dC, dI) classes (cTr cI cJ cZ a (((Tr_size tr) + (1 : Int32)), (Tr_kidCount tr), (Tr_taken tr), (Tr_defaults tr), (upd (Tr_sort tr) (Tr_size tr).toNatClampNeg x1), (upd (Tr_value tr) (Tr_size tr).toNatClampNeg x2), (upd (Tr_mark tr) (Tr_size tr).toNatClampNeg (-1 : Int32)), (upd (Tr_parent tr) (Tr_size tr).toNatClampNeg (-1 : Int32)), (upd (Tr_count tr) (Tr_size tr).toNatClampNeg (0 : Int32)), (upd (Tr_tail tr) (Tr_size tr).toNatClampNeg (-1 : Int32)), (Tr_partBits tr), (Tr_kids tr), (Tr_first tr), (Tr_spot tr))) H := hP
  have hD : va_D A (cTr cI cJ cZ a (((Tr_size tr) + (1 : Int32)), (Tr_kidCount tr), (Tr_taken tr), (Tr_defaults tr), (upd (Tr_sort tr) (Tr_size tr).toNatClampNeg x1), (upd (Tr_value tr) (Tr_size tr).toNatClampNeg x2), (upd (Tr_mark tr) (Tr_size tr).toNatClampNeg (-1 : Int32)), (upd (Tr_parent tr) (Tr_size tr).toNatClampNeg (-1 : Int32)), (upd (Tr_count tr) (Tr_size tr).toNatClampNeg (0 : Int32)), (upd (Tr_tail tr) (Tr_size tr).toNatClampNeg (-1 : Int32)), (Tr_partBits tr), (Tr_kids tr), (Tr_first tr), (Tr_spot tr))) := hD
  refine lv_aload_n hx hb d_Tr_add_57 rfl (lv_at hl 1 rfl) ?_
  refine va_get (D := (dC, dI)) (ci := 1) (v := .ref (a 11)) (C := R_Tr) (T := F_Tr) (N := 14) hx hb hts inb_Tr hown hK hP 0 rfl rfl 10 (by decide) (hts _ tw86) (fun _ h9 => h9) rfl d_Tr_add_58 ?_
  refine lv_iload_n hx hb d_Tr_add_61 rfl (lv_at hl 0 rfl) ?_
  refine lv_lconst (v := 0) hx hb d_Tr_add_62 (by decide) ?_
  obtain ⟨hin, h⟩ := o_in h
  refine va_last hx hb hK hP hD hS 7 1 rfl rfl hin d_Tr_add_63 (fun H locs hP hD hS => ?_)
  have hP : va_P (dC, dI) classes (cTr cI cJ cZ a (((Tr_size tr) + (1 : Int32)), (Tr_kidCount tr), (Tr_taken tr), (Tr_defaults tr), (upd (Tr_sort tr) (Tr_size tr).toNatClampNeg x1), (upd (Tr_value tr) (Tr_size tr).toNatClampNeg x2), (upd (Tr_mark tr) (Tr_size tr).toNatClampNeg (-1 : Int32)), (upd (Tr_parent tr) (Tr_size tr).toNatClampNeg (-1 : Int32)), (upd (Tr_count tr) (Tr_size tr).toNatClampNeg (0 : Int32)), (upd (Tr_tail tr) (Tr_size tr).toNatClampNeg (-1 : Int32)), (vp_updL (Tr_partBits tr) (Tr_size tr).toNatClampNeg (0 : Int64)), (Tr_kids tr), (Tr_first tr), (Tr_spot tr))) H := hP
  have hD : va_D A (cTr cI cJ cZ a (((Tr_size tr) + (1 : Int32)), (Tr_kidCount tr), (Tr_taken tr), (Tr_defaults tr), (upd (Tr_sort tr) (Tr_size tr).toNatClampNeg x1), (upd (Tr_value tr) (Tr_size tr).toNatClampNeg x2), (upd (Tr_mark tr) (Tr_size tr).toNatClampNeg (-1 : Int32)), (upd (Tr_parent tr) (Tr_size tr).toNatClampNeg (-1 : Int32)), (upd (Tr_count tr) (Tr_size tr).toNatClampNeg (0 : Int32)), (upd (Tr_tail tr) (Tr_size tr).toNatClampNeg (-1 : Int32)), (vp_updL (Tr_partBits tr) (Tr_size tr).toNatClampNeg (0 : Int64)), (Tr_kids tr), (Tr_first tr), (Tr_spot tr))) := hD
  refine lv_aload_n hx hb d_Tr_add_64 rfl (lv_at hl 1 rfl) ?_
  refine va_get (D := (dC, dI)) (ci := 1) (v := .ref (a 13)) (C := R_Tr) (T := F_Tr) (N := 14) hx hb hts inb_Tr hown hK hP 0 rfl rfl 12 (by decide) (hts _ tw89) (fun _ h9 => h9) rfl d_Tr_add_65 ?_
  refine lv_iload_n hx hb d_Tr_add_68 rfl (lv_at hl 0 rfl) ?_
  refine lv_aload_n hx hb d_Tr_add_69 rfl (lv_at hl 1 rfl) ?_
  refine va_get (D := (dC, dI)) (ci := 1) (v := .int (Tr_kidCount tr)) (C := R_Tr) (T := F_Tr) (N := 14) hx hb hts inb_Tr hown hK hP 0 rfl rfl 1 (by decide) (hts _ tw60) (fun _ h9 => h9) rfl d_Tr_add_70 ?_
  obtain ⟨hin, h⟩ := o_in h
  refine va_iast hx hb hK hP hD hS 9 0 rfl rfl hin d_Tr_add_73 (fun H locs hP hD hS => ?_)
  have hP : va_P (dC, dI) classes (cTr cI cJ cZ a (((Tr_size tr) + (1 : Int32)), (Tr_kidCount tr), (Tr_taken tr), (Tr_defaults tr), (upd (Tr_sort tr) (Tr_size tr).toNatClampNeg x1), (upd (Tr_value tr) (Tr_size tr).toNatClampNeg x2), (upd (Tr_mark tr) (Tr_size tr).toNatClampNeg (-1 : Int32)), (upd (Tr_parent tr) (Tr_size tr).toNatClampNeg (-1 : Int32)), (upd (Tr_count tr) (Tr_size tr).toNatClampNeg (0 : Int32)), (upd (Tr_tail tr) (Tr_size tr).toNatClampNeg (-1 : Int32)), (vp_updL (Tr_partBits tr) (Tr_size tr).toNatClampNeg (0 : Int64)), (Tr_kids tr), (upd (Tr_first tr) (Tr_size tr).toNatClampNeg (Tr_kidCount tr)), (Tr_spot tr))) H := hP
  have hD : va_D A (cTr cI cJ cZ a (((Tr_size tr) + (1 : Int32)), (Tr_kidCount tr), (Tr_taken tr), (Tr_defaults tr), (upd (Tr_sort tr) (Tr_size tr).toNatClampNeg x1), (upd (Tr_value tr) (Tr_size tr).toNatClampNeg x2), (upd (Tr_mark tr) (Tr_size tr).toNatClampNeg (-1 : Int32)), (upd (Tr_parent tr) (Tr_size tr).toNatClampNeg (-1 : Int32)), (upd (Tr_count tr) (Tr_size tr).toNatClampNeg (0 : Int32)), (upd (Tr_tail tr) (Tr_size tr).toNatClampNeg (-1 : Int32)), (vp_updL (Tr_partBits tr) (Tr_size tr).toNatClampNeg (0 : Int64)), (Tr_kids tr), (upd (Tr_first tr) (Tr_size tr).toNatClampNeg (Tr_kidCount tr)), (Tr_spot tr))) := hD
  refine lv_iload_n hx hb d_Tr_add_74 rfl (lv_at hl 0 rfl) ?_
  cases h
  exact kr_i hx hb hr hlocks hP hD hS d_Tr_add_75
set_option maxHeartbeats 4000000 in
set_option maxRecDepth 100000 in
theorem c_Tr_adopt (l : Launch) (dC : Nat → ClassId) (dI : Nat → Nat → Nat) (cI cJ cZ : ClassId) (a : Nat → Nat) (x1 : Int32) (x2 : Int32) (tr : TrS) (res : TrS) (h : f_Tr_adopt x1 x2 tr = some res) :
    Kt l (dC, dI) classes [(cI, .int), (cJ, .long), (cZ, .boolean)] y_Tr_adopt (wz y_Tr_adopt b_Tr_adopt 3 none) { frames := 0, cells := 0, slots := 0, locals := 0 } [.ref (a 4), .int x1, .int x2] (cTr cI cJ cZ a tr) none (cTr cI cJ cZ a res) := by
  refine Kt_of (cc := b_Tr_adopt) (maxL := 3) (ret := none) (by decide) (Nat.le_of_ble_eq_true rfl) ?_
  intro p e s m args below meth c A ls hx hb hr hml hlocks hown hts hNw hK hP hD hA hS hl
  have hl : lv_has ls 3 [(0, .ref (a 4)), (1, .int x1), (2, .int x2)] := hl
  have hP : va_P (dC, dI) classes (cTr cI cJ cZ a tr) s.heap := hP
  refine lv_aload_n hx hb d_Tr_adopt_0 rfl (lv_at hl 0 rfl) ?_
  refine lv_dup hx hb d_Tr_adopt_1 rfl ?_
  refine va_get (D := (dC, dI)) (ci := 1) (v := .long (Tr_taken tr)) (C := R_Tr) (T := F_Tr) (N := 14) hx hb hts inb_Tr hown hK hP 0 rfl rfl 2 (by decide) (hts _ tw61) (fun _ h9 => h9) rfl d_Tr_adopt_2 ?_
  refine lv_lconst (v := 1) hx hb d_Tr_adopt_5 (by decide) ?_
  refine lv_iload_n hx hb d_Tr_adopt_6 rfl (lv_at hl 2 rfl) ?_
  refine lv_lshl hx hb d_Tr_adopt_7 rfl ?_
  refine lv_lor hx hb d_Tr_adopt_8 ?_
  refine va_put (D := (dC, dI)) (ci := 1) (v := .long ((Tr_taken tr) ||| ((1 : Int64) <<< (x2.toInt64 &&& 63)))) (ty := .long) (C := R_Tr) (T := F_Tr) (N := 14) hx hb hts inb_Tr ft_Tr ft_Tr_ok n_Tr hown hK hP hD hS 0 rfl rfl 2 (by decide) (hts _ tw61) (fun _ h9 => h9) rfl (by decide +kernel) rfl rfl (Nat.le_of_ble_eq_true rfl) d_Tr_adopt_9 (fun H locs hP hD hS => ?_)
  have hP : va_P (dC, dI) classes (cTr cI cJ cZ a ((Tr_size tr), (Tr_kidCount tr), ((Tr_taken tr) ||| ((1 : Int64) <<< (x2.toInt64 &&& 63))), (Tr_defaults tr), (Tr_sort tr), (Tr_value tr), (Tr_mark tr), (Tr_parent tr), (Tr_count tr), (Tr_tail tr), (Tr_partBits tr), (Tr_kids tr), (Tr_first tr), (Tr_spot tr))) H := hP
  have hD : va_D A (cTr cI cJ cZ a ((Tr_size tr), (Tr_kidCount tr), ((Tr_taken tr) ||| ((1 : Int64) <<< (x2.toInt64 &&& 63))), (Tr_defaults tr), (Tr_sort tr), (Tr_value tr), (Tr_mark tr), (Tr_parent tr), (Tr_count tr), (Tr_tail tr), (Tr_partBits tr), (Tr_kids tr), (Tr_first tr), (Tr_spot tr))) := hD
  refine lv_aload_n hx hb d_Tr_adopt_12 rfl (lv_at hl 0 rfl) ?_
  refine va_get (D := (dC, dI)) (ci := 1) (v := .ref (a 8)) (C := R_Tr) (T := F_Tr) (N := 14) hx hb hts inb_Tr hown hK hP 0 rfl rfl 7 (by decide) (hts _ tw76) (fun _ h9 => h9) rfl d_Tr_adopt_13 ?_
  refine lv_iload_n hx hb d_Tr_adopt_16 rfl (lv_at hl 2 rfl) ?_
  refine lv_iload_n hx hb d_Tr_adopt_17 rfl (lv_at hl 1 rfl) ?_
  obtain ⟨hin, h⟩ := o_in h
  refine va_iast hx hb hK hP hD hS 4 0 rfl rfl hin d_Tr_adopt_18 (fun H locs hP hD hS => ?_)
  have hP : va_P (dC, dI) classes (cTr cI cJ cZ a ((Tr_size tr), (Tr_kidCount tr), ((Tr_taken tr) ||| ((1 : Int64) <<< (x2.toInt64 &&& 63))), (Tr_defaults tr), (Tr_sort tr), (Tr_value tr), (Tr_mark tr), (upd (Tr_parent tr) x2.toNatClampNeg x1), (Tr_count tr), (Tr_tail tr), (Tr_partBits tr), (Tr_kids tr), (Tr_first tr), (Tr_spot tr))) H := hP
  have hD : va_D A (cTr cI cJ cZ a ((Tr_size tr), (Tr_kidCount tr), ((Tr_taken tr) ||| ((1 : Int64) <<< (x2.toInt64 &&& 63))), (Tr_defaults tr), (Tr_sort tr), (Tr_value tr), (Tr_mark tr), (upd (Tr_parent tr) x2.toNatClampNeg x1), (Tr_count tr), (Tr_tail tr), (Tr_partBits tr), (Tr_kids tr), (Tr_first tr), (Tr_spot tr))) := hD
  refine lv_aload_n hx hb d_Tr_adopt_19 rfl (lv_at hl 0 rfl) ?_
  refine va_get (D := (dC, dI)) (ci := 1) (v := .ref (a 14)) (C := R_Tr) (T := F_Tr) (N := 14) hx hb hts inb_Tr hown hK hP 0 rfl rfl 13 (by decide) (hts _ tw90) (fun _ h9 => h9) rfl d_Tr_adopt_20 ?_
  refine lv_iload_n hx hb d_Tr_adopt_23 rfl (lv_at hl 2 rfl) ?_
  refine lv_aload_n hx hb d_Tr_adopt_24 rfl (lv_at hl 0 rfl) ?_
  refine va_get (D := (dC, dI)) (ci := 1) (v := .int (Tr_kidCount tr)) (C := R_Tr) (T := F_Tr) (N := 14) hx hb hts inb_Tr hown hK hP 0 rfl rfl 1 (by decide) (hts _ tw60) (fun _ h9 => h9) rfl d_Tr_adopt_25 ?_
  obtain ⟨hin, h⟩ := o_in h
  refine va_iast hx hb hK hP hD hS 10 0 rfl rfl hin d_Tr_adopt_28 (fun H locs hP hD hS => ?_)
  have hP : va_P (dC, dI) classes (cTr cI cJ cZ a ((Tr_size tr), (Tr_kidCount tr), ((Tr_taken tr) ||| ((1 : Int64) <<< (x2.toInt64 &&& 63))), (Tr_defaults tr), (Tr_sort tr), (Tr_value tr), (Tr_mark tr), (upd (Tr_parent tr) x2.toNatClampNeg x1), (Tr_count tr), (Tr_tail tr), (Tr_partBits tr), (Tr_kids tr), (Tr_first tr), (upd (Tr_spot tr) x2.toNatClampNeg (Tr_kidCount tr)))) H := hP
  have hD : va_D A (cTr cI cJ cZ a ((Tr_size tr), (Tr_kidCount tr), ((Tr_taken tr) ||| ((1 : Int64) <<< (x2.toInt64 &&& 63))), (Tr_defaults tr), (Tr_sort tr), (Tr_value tr), (Tr_mark tr), (upd (Tr_parent tr) x2.toNatClampNeg x1), (Tr_count tr), (Tr_tail tr), (Tr_partBits tr), (Tr_kids tr), (Tr_first tr), (upd (Tr_spot tr) x2.toNatClampNeg (Tr_kidCount tr)))) := hD
  refine lv_aload_n hx hb d_Tr_adopt_29 rfl (lv_at hl 0 rfl) ?_
  refine va_get (D := (dC, dI)) (ci := 1) (v := .ref (a 12)) (C := R_Tr) (T := F_Tr) (N := 14) hx hb hts inb_Tr hown hK hP 0 rfl rfl 11 (by decide) (hts _ tw88) (fun _ h9 => h9) rfl d_Tr_adopt_30 ?_
  refine lv_aload_n hx hb d_Tr_adopt_33 rfl (lv_at hl 0 rfl) ?_
  refine va_get (D := (dC, dI)) (ci := 1) (v := .int (Tr_kidCount tr)) (C := R_Tr) (T := F_Tr) (N := 14) hx hb hts inb_Tr hown hK hP 0 rfl rfl 1 (by decide) (hts _ tw60) (fun _ h9 => h9) rfl d_Tr_adopt_34 ?_
  refine lv_iload_n hx hb d_Tr_adopt_37 rfl (lv_at hl 2 rfl) ?_
  obtain ⟨hin, h⟩ := o_in h
  refine va_iast hx hb hK hP hD hS 8 0 rfl rfl hin d_Tr_adopt_38 (fun H locs hP hD hS => ?_)
  have hP : va_P (dC, dI) classes (cTr cI cJ cZ a ((Tr_size tr), (Tr_kidCount tr), ((Tr_taken tr) ||| ((1 : Int64) <<< (x2.toInt64 &&& 63))), (Tr_defaults tr), (Tr_sort tr), (Tr_value tr), (Tr_mark tr), (upd (Tr_parent tr) x2.toNatClampNeg x1), (Tr_count tr), (Tr_tail tr), (Tr_partBits tr), (upd (Tr_kids tr) (Tr_kidCount tr).toNatClampNeg x2), (Tr_first tr), (upd (Tr_spot tr) x2.toNatClampNeg (Tr_kidCount tr)))) H := hP
  have hD : va_D A (cTr cI cJ cZ a ((Tr_size tr), (Tr_kidCount tr), ((Tr_taken tr) ||| ((1 : Int64) <<< (x2.toInt64 &&& 63))), (Tr_defaults tr), (Tr_sort tr), (Tr_value tr), (Tr_mark tr), (upd (Tr_parent tr) x2.toNatClampNeg x1), (Tr_count tr), (Tr_tail tr), (Tr_partBits tr), (upd (Tr_kids tr) (Tr_kidCount tr).toNatClampNeg x2), (Tr_first tr), (upd (Tr_spot tr) x2.toNatClampNeg (Tr_kidCount tr)))) := hD
  refine lv_aload_n hx hb d_Tr_adopt_39 rfl (lv_at hl 0 rfl) ?_
  refine lv_dup hx hb d_Tr_adopt_40 rfl ?_
  refine va_get (D := (dC, dI)) (ci := 1) (v := .int (Tr_kidCount tr)) (C := R_Tr) (T := F_Tr) (N := 14) hx hb hts inb_Tr hown hK hP 0 rfl rfl 1 (by decide) (hts _ tw60) (fun _ h9 => h9) rfl d_Tr_adopt_41 ?_
  refine lv_iconst (v := 1) hx hb d_Tr_adopt_44 (by decide) ?_
  refine lv_iadd hx hb d_Tr_adopt_45 ?_
  refine va_put (D := (dC, dI)) (ci := 1) (v := .int ((Tr_kidCount tr) + (1 : Int32))) (ty := .int) (C := R_Tr) (T := F_Tr) (N := 14) hx hb hts inb_Tr ft_Tr ft_Tr_ok n_Tr hown hK hP hD hS 0 rfl rfl 1 (by decide) (hts _ tw60) (fun _ h9 => h9) rfl (by decide +kernel) rfl rfl (Nat.le_of_ble_eq_true rfl) d_Tr_adopt_46 (fun H locs hP hD hS => ?_)
  have hP : va_P (dC, dI) classes (cTr cI cJ cZ a ((Tr_size tr), ((Tr_kidCount tr) + (1 : Int32)), ((Tr_taken tr) ||| ((1 : Int64) <<< (x2.toInt64 &&& 63))), (Tr_defaults tr), (Tr_sort tr), (Tr_value tr), (Tr_mark tr), (upd (Tr_parent tr) x2.toNatClampNeg x1), (Tr_count tr), (Tr_tail tr), (Tr_partBits tr), (upd (Tr_kids tr) (Tr_kidCount tr).toNatClampNeg x2), (Tr_first tr), (upd (Tr_spot tr) x2.toNatClampNeg (Tr_kidCount tr)))) H := hP
  have hD : va_D A (cTr cI cJ cZ a ((Tr_size tr), ((Tr_kidCount tr) + (1 : Int32)), ((Tr_taken tr) ||| ((1 : Int64) <<< (x2.toInt64 &&& 63))), (Tr_defaults tr), (Tr_sort tr), (Tr_value tr), (Tr_mark tr), (upd (Tr_parent tr) x2.toNatClampNeg x1), (Tr_count tr), (Tr_tail tr), (Tr_partBits tr), (upd (Tr_kids tr) (Tr_kidCount tr).toNatClampNeg x2), (Tr_first tr), (upd (Tr_spot tr) x2.toNatClampNeg (Tr_kidCount tr)))) := hD
  refine lv_aload_n hx hb d_Tr_adopt_49 rfl (lv_at hl 0 rfl) ?_
  refine va_get (D := (dC, dI)) (ci := 1) (v := .ref (a 9)) (C := R_Tr) (T := F_Tr) (N := 14) hx hb hts inb_Tr hown hK hP 0 rfl rfl 8 (by decide) (hts _ tw80) (fun _ h9 => h9) rfl d_Tr_adopt_50 ?_
  refine lv_iload_n hx hb d_Tr_adopt_53 rfl (lv_at hl 1 rfl) ?_
  refine lv_dup2_11 hx hb d_Tr_adopt_54 rfl rfl ?_
  obtain ⟨hin, h⟩ := o_in h
  refine va_iald hx hb hK hP 5 0 rfl rfl hin d_Tr_adopt_55 ?_
  refine lv_iconst (v := 1) hx hb d_Tr_adopt_56 (by decide) ?_
  refine lv_iadd hx hb d_Tr_adopt_57 ?_
  obtain ⟨hin, h⟩ := o_in h
  refine va_iast hx hb hK hP hD hS 5 0 rfl rfl hin d_Tr_adopt_58 (fun H locs hP hD hS => ?_)
  have hP : va_P (dC, dI) classes (cTr cI cJ cZ a ((Tr_size tr), ((Tr_kidCount tr) + (1 : Int32)), ((Tr_taken tr) ||| ((1 : Int64) <<< (x2.toInt64 &&& 63))), (Tr_defaults tr), (Tr_sort tr), (Tr_value tr), (Tr_mark tr), (upd (Tr_parent tr) x2.toNatClampNeg x1), (upd (Tr_count tr) x1.toNatClampNeg (((Tr_count tr) x1.toNatClampNeg) + (1 : Int32))), (Tr_tail tr), (Tr_partBits tr), (upd (Tr_kids tr) (Tr_kidCount tr).toNatClampNeg x2), (Tr_first tr), (upd (Tr_spot tr) x2.toNatClampNeg (Tr_kidCount tr)))) H := hP
  have hD : va_D A (cTr cI cJ cZ a ((Tr_size tr), ((Tr_kidCount tr) + (1 : Int32)), ((Tr_taken tr) ||| ((1 : Int64) <<< (x2.toInt64 &&& 63))), (Tr_defaults tr), (Tr_sort tr), (Tr_value tr), (Tr_mark tr), (upd (Tr_parent tr) x2.toNatClampNeg x1), (upd (Tr_count tr) x1.toNatClampNeg (((Tr_count tr) x1.toNatClampNeg) + (1 : Int32))), (Tr_tail tr), (Tr_partBits tr), (upd (Tr_kids tr) (Tr_kidCount tr).toNatClampNeg x2), (Tr_first tr), (upd (Tr_spot tr) x2.toNatClampNeg (Tr_kidCount tr)))) := hD
  refine lv_aload_n hx hb d_Tr_adopt_59 rfl (lv_at hl 0 rfl) ?_
  refine va_get (D := (dC, dI)) (ci := 1) (v := .ref (a 11)) (C := R_Tr) (T := F_Tr) (N := 14) hx hb hts inb_Tr hown hK hP 0 rfl rfl 10 (by decide) (hts _ tw86) (fun _ h9 => h9) rfl d_Tr_adopt_60 ?_
  refine lv_iload_n hx hb d_Tr_adopt_63 rfl (lv_at hl 1 rfl) ?_
  refine lv_dup2_11 hx hb d_Tr_adopt_64 rfl rfl ?_
  obtain ⟨hin, h⟩ := o_in h
  refine va_lald hx hb hK hP 7 1 rfl rfl hin d_Tr_adopt_65 ?_
  refine lv_lconst (v := 1) hx hb d_Tr_adopt_66 (by decide) ?_
  refine lv_iload_n hx hb d_Tr_adopt_67 rfl (lv_at hl 2 rfl) ?_
  refine lv_lshl hx hb d_Tr_adopt_68 rfl ?_
  refine lv_lor hx hb d_Tr_adopt_69 ?_
  obtain ⟨hin, h⟩ := o_in h
  refine va_last hx hb hK hP hD hS 7 1 rfl rfl hin d_Tr_adopt_70 (fun H locs hP hD hS => ?_)
  have hP : va_P (dC, dI) classes (cTr cI cJ cZ a ((Tr_size tr), ((Tr_kidCount tr) + (1 : Int32)), ((Tr_taken tr) ||| ((1 : Int64) <<< (x2.toInt64 &&& 63))), (Tr_defaults tr), (Tr_sort tr), (Tr_value tr), (Tr_mark tr), (upd (Tr_parent tr) x2.toNatClampNeg x1), (upd (Tr_count tr) x1.toNatClampNeg (((Tr_count tr) x1.toNatClampNeg) + (1 : Int32))), (Tr_tail tr), (vp_updL (Tr_partBits tr) x1.toNatClampNeg (((Tr_partBits tr) x1.toNatClampNeg) ||| ((1 : Int64) <<< (x2.toInt64 &&& 63)))), (upd (Tr_kids tr) (Tr_kidCount tr).toNatClampNeg x2), (Tr_first tr), (upd (Tr_spot tr) x2.toNatClampNeg (Tr_kidCount tr)))) H := hP
  have hD : va_D A (cTr cI cJ cZ a ((Tr_size tr), ((Tr_kidCount tr) + (1 : Int32)), ((Tr_taken tr) ||| ((1 : Int64) <<< (x2.toInt64 &&& 63))), (Tr_defaults tr), (Tr_sort tr), (Tr_value tr), (Tr_mark tr), (upd (Tr_parent tr) x2.toNatClampNeg x1), (upd (Tr_count tr) x1.toNatClampNeg (((Tr_count tr) x1.toNatClampNeg) + (1 : Int32))), (Tr_tail tr), (vp_updL (Tr_partBits tr) x1.toNatClampNeg (((Tr_partBits tr) x1.toNatClampNeg) ||| ((1 : Int64) <<< (x2.toInt64 &&& 63)))), (upd (Tr_kids tr) (Tr_kidCount tr).toNatClampNeg x2), (Tr_first tr), (upd (Tr_spot tr) x2.toNatClampNeg (Tr_kidCount tr)))) := hD
  cases h
  exact kr_v hx hb hr hlocks hP hD hS d_Tr_adopt_71
set_option maxHeartbeats 4000000 in
set_option maxRecDepth 100000 in
theorem c_Tr_take (l : Launch) (dC : Nat → ClassId) (dI : Nat → Nat → Nat) (cI cJ cZ : ClassId) (a : Nat → Nat) (x1 : Int32) (x2 : Int32) (tr : TrS) (res : TrS) (h : f_Tr_take x1 x2 tr = some res) :
    Kt l (dC, dI) classes [(cI, .int), (cJ, .long), (cZ, .boolean)] y_Tr_take (wz y_Tr_take b_Tr_take 3 none) { frames := 0, cells := 0, slots := 0, locals := 0 } [.ref (a 4), .int x1, .int x2] (cTr cI cJ cZ a tr) none (cTr cI cJ cZ a res) := by
  refine Kt_of (cc := b_Tr_take) (maxL := 3) (ret := none) (by decide) (Nat.le_of_ble_eq_true rfl) ?_
  intro p e s m args below meth c A ls hx hb hr hml hlocks hown hts hNw hK hP hD hA hS hl
  have hl : lv_has ls 3 [(0, .ref (a 4)), (1, .int x1), (2, .int x2)] := hl
  have hP : va_P (dC, dI) classes (cTr cI cJ cZ a tr) s.heap := hP
  refine lv_aload_n hx hb d_Tr_take_0 rfl (lv_at hl 0 rfl) ?_
  refine lv_dup hx hb d_Tr_take_1 rfl ?_
  refine va_get (D := (dC, dI)) (ci := 1) (v := .long (Tr_taken tr)) (C := R_Tr) (T := F_Tr) (N := 14) hx hb hts inb_Tr hown hK hP 0 rfl rfl 2 (by decide) (hts _ tw61) (fun _ h9 => h9) rfl d_Tr_take_2 ?_
  refine lv_lconst (v := 1) hx hb d_Tr_take_5 (by decide) ?_
  refine lv_iload_n hx hb d_Tr_take_6 rfl (lv_at hl 1 rfl) ?_
  refine lv_lshl hx hb d_Tr_take_7 rfl ?_
  refine lv_lor hx hb d_Tr_take_8 ?_
  refine va_put (D := (dC, dI)) (ci := 1) (v := .long ((Tr_taken tr) ||| ((1 : Int64) <<< (x1.toInt64 &&& 63)))) (ty := .long) (C := R_Tr) (T := F_Tr) (N := 14) hx hb hts inb_Tr ft_Tr ft_Tr_ok n_Tr hown hK hP hD hS 0 rfl rfl 2 (by decide) (hts _ tw61) (fun _ h9 => h9) rfl (by decide +kernel) rfl rfl (Nat.le_of_ble_eq_true rfl) d_Tr_take_9 (fun H locs hP hD hS => ?_)
  have hP : va_P (dC, dI) classes (cTr cI cJ cZ a ((Tr_size tr), (Tr_kidCount tr), ((Tr_taken tr) ||| ((1 : Int64) <<< (x1.toInt64 &&& 63))), (Tr_defaults tr), (Tr_sort tr), (Tr_value tr), (Tr_mark tr), (Tr_parent tr), (Tr_count tr), (Tr_tail tr), (Tr_partBits tr), (Tr_kids tr), (Tr_first tr), (Tr_spot tr))) H := hP
  have hD : va_D A (cTr cI cJ cZ a ((Tr_size tr), (Tr_kidCount tr), ((Tr_taken tr) ||| ((1 : Int64) <<< (x1.toInt64 &&& 63))), (Tr_defaults tr), (Tr_sort tr), (Tr_value tr), (Tr_mark tr), (Tr_parent tr), (Tr_count tr), (Tr_tail tr), (Tr_partBits tr), (Tr_kids tr), (Tr_first tr), (Tr_spot tr))) := hD
  refine lv_aload_n hx hb d_Tr_take_12 rfl (lv_at hl 0 rfl) ?_
  refine va_get (D := (dC, dI)) (ci := 1) (v := .ref (a 7)) (C := R_Tr) (T := F_Tr) (N := 14) hx hb hts inb_Tr hown hK hP 0 rfl rfl 6 (by decide) (hts _ tw72) (fun _ h9 => h9) rfl d_Tr_take_13 ?_
  refine lv_iload_n hx hb d_Tr_take_16 rfl (lv_at hl 1 rfl) ?_
  refine lv_iload_n hx hb d_Tr_take_17 rfl (lv_at hl 2 rfl) ?_
  obtain ⟨hin, h⟩ := o_in h
  refine va_iast hx hb hK hP hD hS 3 0 rfl rfl hin d_Tr_take_18 (fun H locs hP hD hS => ?_)
  have hP : va_P (dC, dI) classes (cTr cI cJ cZ a ((Tr_size tr), (Tr_kidCount tr), ((Tr_taken tr) ||| ((1 : Int64) <<< (x1.toInt64 &&& 63))), (Tr_defaults tr), (Tr_sort tr), (Tr_value tr), (upd (Tr_mark tr) x1.toNatClampNeg x2), (Tr_parent tr), (Tr_count tr), (Tr_tail tr), (Tr_partBits tr), (Tr_kids tr), (Tr_first tr), (Tr_spot tr))) H := hP
  have hD : va_D A (cTr cI cJ cZ a ((Tr_size tr), (Tr_kidCount tr), ((Tr_taken tr) ||| ((1 : Int64) <<< (x1.toInt64 &&& 63))), (Tr_defaults tr), (Tr_sort tr), (Tr_value tr), (upd (Tr_mark tr) x1.toNatClampNeg x2), (Tr_parent tr), (Tr_count tr), (Tr_tail tr), (Tr_partBits tr), (Tr_kids tr), (Tr_first tr), (Tr_spot tr))) := hD
  cases h
  exact kr_v hx hb hr hlocks hP hD hS d_Tr_take_19
set_option maxHeartbeats 4000000 in
set_option maxRecDepth 100000 in
theorem c_Tr_closeRow (l : Launch) (dC : Nat → ClassId) (dI : Nat → Nat → Nat) (cI cJ cZ : ClassId) (a : Nat → Nat) (x1 : Int32) (x2 : Int32) (x3 : Int32) (tr : TrS) (res : TrS) (h : f_Tr_closeRow x1 x2 x3 tr = some res) :
    Kt l (dC, dI) classes [(cI, .int), (cJ, .long), (cZ, .boolean)] y_Tr_closeRow (wz y_Tr_closeRow b_Tr_closeRow 4 none) { frames := 1, cells := 0, slots := 0, locals := 22 } [.ref (a 4), .int x1, .int x2, .int x3] (cTr cI cJ cZ a tr) none (cTr cI cJ cZ a res) := by
  refine Kt_of (cc := b_Tr_closeRow) (maxL := 4) (ret := none) (by decide) (Nat.le_of_ble_eq_true rfl) ?_
  intro p e s m args below meth c A ls hx hb hr hml hlocks hown hts hNw hK hP hD hA hS hl
  have hl : lv_has ls 4 [(0, .ref (a 4)), (1, .int x1), (2, .int x2), (3, .int x3)] := hl
  have hP : va_P (dC, dI) classes (cTr cI cJ cZ a tr) s.heap := hP
  have B41 : ∀ (x1_41 : Int32) (tr_41 : TrS) (H : Heap) (locs : List Loc) (ls : Array Slot), f_Tr_closeRow_b41 x1_41 tr_41 = some res → va_P (dC, dI) classes (cTr cI cJ cZ a tr_41) H → va_D A (cTr cI cJ cZ a tr_41) → va_S A s.heap H locs → lv_has ls 4 [(0, .ref (a 4)), (1, .int x1_41)] → W p l e { frames := 1, cells := 0, slots := 0, locals := 22 } s m args below meth c H locs 0 0 (KZ below args s (dC, dI) classes none (cTr cI cJ cZ a res) A) (F0 m 41 ls []) := by
    intro x1_41 tr_41 H locs ls h hP hD hS hl
    refine lv_aload_n hx hb d_Tr_closeRow_41 rfl (lv_at hl 0 rfl) ?_
    refine lv_dup hx hb d_Tr_closeRow_42 rfl ?_
    refine va_get (D := (dC, dI)) (ci := 1) (v := .long (Tr_defaults tr_41)) (C := R_Tr) (T := F_Tr) (N := 14) hx hb hts inb_Tr hown hK hP 0 rfl rfl 3 (by decide) (hts _ tw62) (fun _ h9 => h9) rfl d_Tr_closeRow_43 ?_
    refine lv_lconst (v := 1) hx hb d_Tr_closeRow_46 (by decide) ?_
    refine lv_iload_n hx hb d_Tr_closeRow_47 rfl (lv_at hl 1 rfl) ?_
    refine lv_lshl hx hb d_Tr_closeRow_48 rfl ?_
    refine lv_lor hx hb d_Tr_closeRow_49 ?_
    refine va_put (D := (dC, dI)) (ci := 1) (v := .long ((Tr_defaults tr_41) ||| ((1 : Int64) <<< (x1_41.toInt64 &&& 63)))) (ty := .long) (C := R_Tr) (T := F_Tr) (N := 14) hx hb hts inb_Tr ft_Tr ft_Tr_ok n_Tr hown hK hP hD hS 0 rfl rfl 3 (by decide) (hts _ tw62) (fun _ h9 => h9) rfl (by decide +kernel) rfl rfl (Nat.le_of_ble_eq_true rfl) d_Tr_closeRow_50 (fun H locs hP hD hS => ?_)
    have hP : va_P (dC, dI) classes (cTr cI cJ cZ a ((Tr_size tr_41), (Tr_kidCount tr_41), (Tr_taken tr_41), ((Tr_defaults tr_41) ||| ((1 : Int64) <<< (x1_41.toInt64 &&& 63))), (Tr_sort tr_41), (Tr_value tr_41), (Tr_mark tr_41), (Tr_parent tr_41), (Tr_count tr_41), (Tr_tail tr_41), (Tr_partBits tr_41), (Tr_kids tr_41), (Tr_first tr_41), (Tr_spot tr_41))) H := hP
    have hD : va_D A (cTr cI cJ cZ a ((Tr_size tr_41), (Tr_kidCount tr_41), (Tr_taken tr_41), ((Tr_defaults tr_41) ||| ((1 : Int64) <<< (x1_41.toInt64 &&& 63))), (Tr_sort tr_41), (Tr_value tr_41), (Tr_mark tr_41), (Tr_parent tr_41), (Tr_count tr_41), (Tr_tail tr_41), (Tr_partBits tr_41), (Tr_kids tr_41), (Tr_first tr_41), (Tr_spot tr_41))) := hD
    cases h
    exact kr_v hx hb hr hlocks hP hD hS d_Tr_closeRow_53
  refine lv_aload_n hx hb d_Tr_closeRow_0 rfl (lv_at hl 0 rfl) ?_
  refine va_get (D := (dC, dI)) (ci := 1) (v := .ref (a 10)) (C := R_Tr) (T := F_Tr) (N := 14) hx hb hts inb_Tr hown hK hP 0 rfl rfl 9 (by decide) (hts _ tw84) (fun _ h9 => h9) rfl d_Tr_closeRow_1 ?_
  refine lv_iload_n hx hb d_Tr_closeRow_4 rfl (lv_at hl 1 rfl) ?_
  refine lv_iload_n hx hb d_Tr_closeRow_5 rfl (lv_at hl 2 rfl) ?_
  obtain ⟨hin, h⟩ := o_in h
  refine va_iast hx hb hK hP hD hS 6 0 rfl rfl hin d_Tr_closeRow_6 (fun H locs hP hD hS => ?_)
  have hP : va_P (dC, dI) classes (cTr cI cJ cZ a ((Tr_size tr), (Tr_kidCount tr), (Tr_taken tr), (Tr_defaults tr), (Tr_sort tr), (Tr_value tr), (Tr_mark tr), (Tr_parent tr), (Tr_count tr), (upd (Tr_tail tr) x1.toNatClampNeg x2), (Tr_partBits tr), (Tr_kids tr), (Tr_first tr), (Tr_spot tr))) H := hP
  have hD : va_D A (cTr cI cJ cZ a ((Tr_size tr), (Tr_kidCount tr), (Tr_taken tr), (Tr_defaults tr), (Tr_sort tr), (Tr_value tr), (Tr_mark tr), (Tr_parent tr), (Tr_count tr), (upd (Tr_tail tr) x1.toNatClampNeg x2), (Tr_partBits tr), (Tr_kids tr), (Tr_first tr), (Tr_spot tr))) := hD
  refine lv_aload_n hx hb d_Tr_closeRow_7 rfl (lv_at hl 0 rfl) ?_
  refine va_get (D := (dC, dI)) (ci := 1) (v := .ref (a 5)) (C := R_Tr) (T := F_Tr) (N := 14) hx hb hts inb_Tr hown hK hP 0 rfl rfl 4 (by decide) (hts _ tw63) (fun _ h9 => h9) rfl d_Tr_closeRow_8 ?_
  refine lv_iload_n hx hb d_Tr_closeRow_11 rfl (lv_at hl 1 rfl) ?_
  obtain ⟨hin, h⟩ := o_in h
  refine va_iald hx hb hK hP 1 0 rfl rfl hin d_Tr_closeRow_12 ?_
  refine lv_bipush (v := 16) hx hb d_Tr_closeRow_13 (by decide) ?_
  refine lv_icmp_ne (tgt := 32) hx hb d_Tr_closeRow_15 (by decide) (fun hc => ?_) (fun hc => ?_)
  · have h := o_f hc h
    refine lv_iload_n hx hb d_Tr_closeRow_32 rfl (lv_at hl 3 rfl) ?_
    refine lv_if_ne (tgt := 41) hx hb d_Tr_closeRow_33 (by decide) (fun hc => ?_) (fun hc => ?_)
    · have h := o_f hc h
      exact B41 x1 ((Tr_size tr), (Tr_kidCount tr), (Tr_taken tr), (Tr_defaults tr), (Tr_sort tr), (Tr_value tr), (Tr_mark tr), (Tr_parent tr), (Tr_count tr), (upd (Tr_tail tr) x1.toNatClampNeg x2), (Tr_partBits tr), (Tr_kids tr), (Tr_first tr), (Tr_spot tr)) _ _ _ h hP hD hS (lv_sub hl [0, 1] rfl)
    · have h := o_t hc h
      refine lv_iload_n hx hb d_Tr_closeRow_36 rfl (lv_at hl 2 rfl) ?_
      refine lv_iconst (v := 2) hx hb d_Tr_closeRow_37 (by decide) ?_
      refine lv_icmp_ne (tgt := 53) hx hb d_Tr_closeRow_38 (by decide) (fun hc => ?_) (fun hc => ?_)
      · have h := o_f hc h
        cases h
        exact kr_v hx hb hr hlocks hP hD hS d_Tr_closeRow_53
      · have h := o_t hc h
        exact B41 x1 ((Tr_size tr), (Tr_kidCount tr), (Tr_taken tr), (Tr_defaults tr), (Tr_sort tr), (Tr_value tr), (Tr_mark tr), (Tr_parent tr), (Tr_count tr), (upd (Tr_tail tr) x1.toNatClampNeg x2), (Tr_partBits tr), (Tr_kids tr), (Tr_first tr), (Tr_spot tr)) _ _ _ h hP hD hS (lv_sub hl [0, 1] rfl)
  · have h := o_t hc h
    refine lv_iload_n hx hb d_Tr_closeRow_18 rfl (lv_at hl 2 rfl) ?_
    refine lv_iconst (v := -1) hx hb d_Tr_closeRow_19 (by decide) ?_
    refine lv_icmp_eq (tgt := 53) hx hb d_Tr_closeRow_20 (by decide) (fun hc => ?_) (fun hc => ?_)
    · have h := o_t hc h
      cases h
      exact kr_v hx hb hr hlocks hP hD hS d_Tr_closeRow_53
    · have h := o_f hc h
      refine lv_aload_n hx hb d_Tr_closeRow_23 rfl (lv_at hl 0 rfl) ?_
      refine lv_iload_n hx hb d_Tr_closeRow_24 rfl (lv_at hl 1 rfl) ?_
      refine lv_iload_n hx hb d_Tr_closeRow_25 rfl (lv_at hl 2 rfl) ?_
      obtain ⟨y26, hy, h⟩ := o_bd h
      refine kdV (nn := 11) (rest := []) (w' := (cTr cI cJ cZ a y26)) (wr := ([] : va_W)) (st1 := []) ⟨hx, hb, hml, hown, hts⟩ (c_Tr_adopt l dC dI cI cJ cZ a x1 x2 ((Tr_size tr), (Tr_kidCount tr), (Tr_taken tr), (Tr_defaults tr), (Tr_sort tr), (Tr_value tr), (Tr_mark tr), (Tr_parent tr), (Tr_count tr), (upd (Tr_tail tr) x1.toNatClampNeg x2), (Tr_partBits tr), (Tr_kids tr), (Tr_first tr), (Tr_spot tr)) y26 hy) (cwV 2 hts (gd_V tw407 tw346 tw347 tw3 tw348) rfl rfl rfl hd_Tr_adopt ⟨Nat.le_of_ble_eq_true rfl, Nat.le_of_ble_eq_true rfl⟩) hNw hK hP hD hS hA (ci := 1) rfl rfl rfl [0, 1, 2, 3, 4, 5, 6, 7, 8, 9, 10] [] rfl rfl rfl rfl rfl (by decide +kernel) (by decide +kernel) rfl hl.1 rfl (Nat.le_of_ble_eq_true rfl) rfl d_Tr_closeRow_26 ⟨Nat.zero_le _, Nat.zero_le _⟩ (fun H locs hP hD hS => ?_)
      refine lv_goto (tgt := 53) hx hb d_Tr_closeRow_29 (by decide) ?_
      cases h
      exact kr_v hx hb hr hlocks hP hD hS d_Tr_closeRow_53
set_option maxHeartbeats 4000000 in
set_option maxRecDepth 100000 in
theorem c_Tr_release (l : Launch) (dC : Nat → ClassId) (dI : Nat → Nat → Nat) (cI cJ cZ : ClassId) (a : Nat → Nat) (x1 : Int32) (tr : TrS) (res : TrS) (h : f_Tr_release x1 tr = some res) :
    Kt l (dC, dI) classes [(cI, .int), (cJ, .long), (cZ, .boolean)] y_Tr_release (wz y_Tr_release b_Tr_release 2 none) { frames := 0, cells := 0, slots := 0, locals := 0 } [.ref (a 4), .int x1] (cTr cI cJ cZ a tr) none (cTr cI cJ cZ a res) := by
  refine Kt_of (cc := b_Tr_release) (maxL := 2) (ret := none) (by decide) (Nat.le_of_ble_eq_true rfl) ?_
  intro p e s m args below meth c A ls hx hb hr hml hlocks hown hts hNw hK hP hD hA hS hl
  have hl : lv_has ls 2 [(0, .ref (a 4)), (1, .int x1)] := hl
  have hP : va_P (dC, dI) classes (cTr cI cJ cZ a tr) s.heap := hP
  refine lv_aload_n hx hb d_Tr_release_0 rfl (lv_at hl 0 rfl) ?_
  refine lv_dup hx hb d_Tr_release_1 rfl ?_
  refine va_get (D := (dC, dI)) (ci := 1) (v := .long (Tr_taken tr)) (C := R_Tr) (T := F_Tr) (N := 14) hx hb hts inb_Tr hown hK hP 0 rfl rfl 2 (by decide) (hts _ tw61) (fun _ h9 => h9) rfl d_Tr_release_2 ?_
  refine lv_lconst (v := 1) hx hb d_Tr_release_5 (by decide) ?_
  refine lv_iload_n hx hb d_Tr_release_6 rfl (lv_at hl 1 rfl) ?_
  refine lv_lshl hx hb d_Tr_release_7 rfl ?_
  refine lv_ldc2 hx hb hown (hts _ tw416) d_Tr_release_8 ?_
  refine lv_lxor hx hb d_Tr_release_11 ?_
  refine lv_land hx hb d_Tr_release_12 ?_
  refine va_put (D := (dC, dI)) (ci := 1) (v := .long ((Tr_taken tr) &&& (((1 : Int64) <<< (x1.toInt64 &&& 63)) ^^^ (-1 : Int64)))) (ty := .long) (C := R_Tr) (T := F_Tr) (N := 14) hx hb hts inb_Tr ft_Tr ft_Tr_ok n_Tr hown hK hP hD hS 0 rfl rfl 2 (by decide) (hts _ tw61) (fun _ h9 => h9) rfl (by decide +kernel) rfl rfl (Nat.le_of_ble_eq_true rfl) d_Tr_release_13 (fun H locs hP hD hS => ?_)
  have hP : va_P (dC, dI) classes (cTr cI cJ cZ a ((Tr_size tr), (Tr_kidCount tr), ((Tr_taken tr) &&& (((1 : Int64) <<< (x1.toInt64 &&& 63)) ^^^ (-1 : Int64))), (Tr_defaults tr), (Tr_sort tr), (Tr_value tr), (Tr_mark tr), (Tr_parent tr), (Tr_count tr), (Tr_tail tr), (Tr_partBits tr), (Tr_kids tr), (Tr_first tr), (Tr_spot tr))) H := hP
  have hD : va_D A (cTr cI cJ cZ a ((Tr_size tr), (Tr_kidCount tr), ((Tr_taken tr) &&& (((1 : Int64) <<< (x1.toInt64 &&& 63)) ^^^ (-1 : Int64))), (Tr_defaults tr), (Tr_sort tr), (Tr_value tr), (Tr_mark tr), (Tr_parent tr), (Tr_count tr), (Tr_tail tr), (Tr_partBits tr), (Tr_kids tr), (Tr_first tr), (Tr_spot tr))) := hD
  refine lv_aload_n hx hb d_Tr_release_16 rfl (lv_at hl 0 rfl) ?_
  refine va_get (D := (dC, dI)) (ci := 1) (v := .ref (a 7)) (C := R_Tr) (T := F_Tr) (N := 14) hx hb hts inb_Tr hown hK hP 0 rfl rfl 6 (by decide) (hts _ tw72) (fun _ h9 => h9) rfl d_Tr_release_17 ?_
  refine lv_iload_n hx hb d_Tr_release_20 rfl (lv_at hl 1 rfl) ?_
  refine lv_iconst (v := -1) hx hb d_Tr_release_21 (by decide) ?_
  obtain ⟨hin, h⟩ := o_in h
  refine va_iast hx hb hK hP hD hS 3 0 rfl rfl hin d_Tr_release_22 (fun H locs hP hD hS => ?_)
  have hP : va_P (dC, dI) classes (cTr cI cJ cZ a ((Tr_size tr), (Tr_kidCount tr), ((Tr_taken tr) &&& (((1 : Int64) <<< (x1.toInt64 &&& 63)) ^^^ (-1 : Int64))), (Tr_defaults tr), (Tr_sort tr), (Tr_value tr), (upd (Tr_mark tr) x1.toNatClampNeg (-1 : Int32)), (Tr_parent tr), (Tr_count tr), (Tr_tail tr), (Tr_partBits tr), (Tr_kids tr), (Tr_first tr), (Tr_spot tr))) H := hP
  have hD : va_D A (cTr cI cJ cZ a ((Tr_size tr), (Tr_kidCount tr), ((Tr_taken tr) &&& (((1 : Int64) <<< (x1.toInt64 &&& 63)) ^^^ (-1 : Int64))), (Tr_defaults tr), (Tr_sort tr), (Tr_value tr), (upd (Tr_mark tr) x1.toNatClampNeg (-1 : Int32)), (Tr_parent tr), (Tr_count tr), (Tr_tail tr), (Tr_partBits tr), (Tr_kids tr), (Tr_first tr), (Tr_spot tr))) := hD
  cases h
  exact kr_v hx hb hr hlocks hP hD hS d_Tr_release_23
set_option maxHeartbeats 4000000 in
set_option maxRecDepth 100000 in
theorem c_Tr_kid (l : Launch) (dC : Nat → ClassId) (dI : Nat → Nat → Nat) (cI cJ cZ : ClassId) (a : Nat → Nat) (x1 : Int32) (x2 : Int32) (tr : TrS) (res : Int32) (h : f_Tr_kid x1 x2 tr = some res) :
    Kt l (dC, dI) classes [(cI, .int), (cJ, .long), (cZ, .boolean)] y_Tr_kid (wz y_Tr_kid b_Tr_kid 3 (some .int)) { frames := 0, cells := 0, slots := 0, locals := 0 } [.ref (a 4), .int x1, .int x2] (cTr cI cJ cZ a tr) (some (.int res)) (cTr cI cJ cZ a tr) := by
  refine Kt_of (cc := b_Tr_kid) (maxL := 3) (ret := (some .int)) (by decide) (Nat.le_of_ble_eq_true rfl) ?_
  intro p e s m args below meth c A ls hx hb hr hml hlocks hown hts hNw hK hP hD hA hS hl
  have hl : lv_has ls 3 [(0, .ref (a 4)), (1, .int x1), (2, .int x2)] := hl
  have hP : va_P (dC, dI) classes (cTr cI cJ cZ a tr) s.heap := hP
  refine lv_aload_n hx hb d_Tr_kid_0 rfl (lv_at hl 0 rfl) ?_
  refine va_get (D := (dC, dI)) (ci := 1) (v := .ref (a 12)) (C := R_Tr) (T := F_Tr) (N := 14) hx hb hts inb_Tr hown hK hP 0 rfl rfl 11 (by decide) (hts _ tw88) (fun _ h9 => h9) rfl d_Tr_kid_1 ?_
  refine lv_aload_n hx hb d_Tr_kid_4 rfl (lv_at hl 0 rfl) ?_
  refine va_get (D := (dC, dI)) (ci := 1) (v := .ref (a 13)) (C := R_Tr) (T := F_Tr) (N := 14) hx hb hts inb_Tr hown hK hP 0 rfl rfl 12 (by decide) (hts _ tw89) (fun _ h9 => h9) rfl d_Tr_kid_5 ?_
  refine lv_iload_n hx hb d_Tr_kid_8 rfl (lv_at hl 1 rfl) ?_
  obtain ⟨hin, h⟩ := o_in h
  refine va_iald hx hb hK hP 9 0 rfl rfl hin d_Tr_kid_9 ?_
  refine lv_iload_n hx hb d_Tr_kid_10 rfl (lv_at hl 2 rfl) ?_
  refine lv_iadd hx hb d_Tr_kid_11 ?_
  obtain ⟨hin, h⟩ := o_in h
  refine va_iald hx hb hK hP 8 0 rfl rfl hin d_Tr_kid_12 ?_
  cases h
  exact kr_i hx hb hr hlocks hP hD hS d_Tr_kid_13
set_option maxHeartbeats 4000000 in
set_option maxRecDepth 100000 in
theorem c_Tr_catchCount (l : Launch) (dC : Nat → ClassId) (dI : Nat → Nat → Nat) (cI cJ cZ : ClassId) (a : Nat → Nat) (x1 : Int32) (tr : TrS) (res : Int32) (h : f_Tr_catchCount x1 tr = some res) :
    Kt l (dC, dI) classes [(cI, .int), (cJ, .long), (cZ, .boolean)] y_Tr_catchCount (wz y_Tr_catchCount b_Tr_catchCount 2 (some .int)) { frames := 0, cells := 0, slots := 0, locals := 0 } [.ref (a 4), .int x1] (cTr cI cJ cZ a tr) (some (.int res)) (cTr cI cJ cZ a tr) := by
  refine Kt_of (cc := b_Tr_catchCount) (maxL := 2) (ret := (some .int)) (by decide) (Nat.le_of_ble_eq_true rfl) ?_
  intro p e s m args below meth c A ls hx hb hr hml hlocks hown hts hNw hK hP hD hA hS hl
  have hl : lv_has ls 2 [(0, .ref (a 4)), (1, .int x1)] := hl
  have hP : va_P (dC, dI) classes (cTr cI cJ cZ a tr) s.heap := hP
  refine lv_aload_n hx hb d_Tr_catchCount_0 rfl (lv_at hl 0 rfl) ?_
  refine va_get (D := (dC, dI)) (ci := 1) (v := .ref (a 10)) (C := R_Tr) (T := F_Tr) (N := 14) hx hb hts inb_Tr hown hK hP 0 rfl rfl 9 (by decide) (hts _ tw84) (fun _ h9 => h9) rfl d_Tr_catchCount_1 ?_
  refine lv_iload_n hx hb d_Tr_catchCount_4 rfl (lv_at hl 1 rfl) ?_
  obtain ⟨hin, h⟩ := o_in h
  refine va_iald hx hb hK hP 6 0 rfl rfl hin d_Tr_catchCount_5 ?_
  refine lv_iconst (v := -1) hx hb d_Tr_catchCount_6 (by decide) ?_
  refine lv_icmp_ne (tgt := 21) hx hb d_Tr_catchCount_7 (by decide) (fun hc => ?_) (fun hc => ?_)
  · have h := o_f hc h
    refine lv_aload_n hx hb d_Tr_catchCount_21 rfl (lv_at hl 0 rfl) ?_
    refine va_get (D := (dC, dI)) (ci := 1) (v := .ref (a 9)) (C := R_Tr) (T := F_Tr) (N := 14) hx hb hts inb_Tr hown hK hP 0 rfl rfl 8 (by decide) (hts _ tw80) (fun _ h9 => h9) rfl d_Tr_catchCount_22 ?_
    refine lv_iload_n hx hb d_Tr_catchCount_25 rfl (lv_at hl 1 rfl) ?_
    obtain ⟨hin, h⟩ := o_in h
    refine va_iald hx hb hK hP 5 0 rfl rfl hin d_Tr_catchCount_26 ?_
    refine lv_iconst (v := 2) hx hb d_Tr_catchCount_27 (by decide) ?_
    refine lv_isub hx hb d_Tr_catchCount_28 ?_
    cases h
    exact kr_i hx hb hr hlocks hP hD hS d_Tr_catchCount_29
  · have h := o_t hc h
    refine lv_aload_n hx hb d_Tr_catchCount_10 rfl (lv_at hl 0 rfl) ?_
    refine va_get (D := (dC, dI)) (ci := 1) (v := .ref (a 9)) (C := R_Tr) (T := F_Tr) (N := 14) hx hb hts inb_Tr hown hK hP 0 rfl rfl 8 (by decide) (hts _ tw80) (fun _ h9 => h9) rfl d_Tr_catchCount_11 ?_
    refine lv_iload_n hx hb d_Tr_catchCount_14 rfl (lv_at hl 1 rfl) ?_
    obtain ⟨hin, h⟩ := o_in h
    refine va_iald hx hb hK hP 5 0 rfl rfl hin d_Tr_catchCount_15 ?_
    refine lv_iconst (v := 1) hx hb d_Tr_catchCount_16 (by decide) ?_
    refine lv_isub hx hb d_Tr_catchCount_17 ?_
    refine lv_goto (tgt := 29) hx hb d_Tr_catchCount_18 (by decide) ?_
    cases h
    exact kr_i hx hb hr hlocks hP hD hS d_Tr_catchCount_29
set_option maxHeartbeats 4000000 in
set_option maxRecDepth 100000 in
theorem c_Tr_testOf (l : Launch) (dC : Nat → ClassId) (dI : Nat → Nat → Nat) (cI cJ cZ : ClassId) (a : Nat → Nat) (x1 : Int32) (tr : TrS) (res : Int32) (h : f_Tr_testOf x1 tr = some res) :
    Kt l (dC, dI) classes [(cI, .int), (cJ, .long), (cZ, .boolean)] y_Tr_testOf (wz y_Tr_testOf b_Tr_testOf 2 (some .int)) { frames := 0, cells := 0, slots := 0, locals := 0 } [.ref (a 4), .int x1] (cTr cI cJ cZ a tr) (some (.int res)) (cTr cI cJ cZ a tr) := by
  refine Kt_of (cc := b_Tr_testOf) (maxL := 2) (ret := (some .int)) (by decide) (Nat.le_of_ble_eq_true rfl) ?_
  intro p e s m args below meth c A ls hx hb hr hml hlocks hown hts hNw hK hP hD hA hS hl
  have hl : lv_has ls 2 [(0, .ref (a 4)), (1, .int x1)] := hl
  have hP : va_P (dC, dI) classes (cTr cI cJ cZ a tr) s.heap := hP
  refine lv_aload_n hx hb d_Tr_testOf_0 rfl (lv_at hl 0 rfl) ?_
  refine va_get (D := (dC, dI)) (ci := 1) (v := .ref (a 6)) (C := R_Tr) (T := F_Tr) (N := 14) hx hb hts inb_Tr hown hK hP 0 rfl rfl 5 (by decide) (hts _ tw67) (fun _ h9 => h9) rfl d_Tr_testOf_1 ?_
  refine lv_iload_n hx hb d_Tr_testOf_4 rfl (lv_at hl 1 rfl) ?_
  obtain ⟨hin, h⟩ := o_in h
  refine va_iald hx hb hK hP 2 0 rfl rfl hin d_Tr_testOf_5 ?_
  refine lv_iconst (v := 3) hx hb d_Tr_testOf_6 (by decide) ?_
  refine lv_icmp_ne (tgt := 14) hx hb d_Tr_testOf_7 (by decide) (fun hc => ?_) (fun hc => ?_)
  · have h := o_f hc h
    refine lv_aload_n hx hb d_Tr_testOf_14 rfl (lv_at hl 0 rfl) ?_
    refine va_get (D := (dC, dI)) (ci := 1) (v := .ref (a 6)) (C := R_Tr) (T := F_Tr) (N := 14) hx hb hts inb_Tr hown hK hP 0 rfl rfl 5 (by decide) (hts _ tw67) (fun _ h9 => h9) rfl d_Tr_testOf_15 ?_
    refine lv_iload_n hx hb d_Tr_testOf_18 rfl (lv_at hl 1 rfl) ?_
    obtain ⟨hin, h⟩ := o_in h
    refine va_iald hx hb hK hP 2 0 rfl rfl hin d_Tr_testOf_19 ?_
    cases h
    exact kr_i hx hb hr hlocks hP hD hS d_Tr_testOf_20
  · have h := o_t hc h
    refine lv_iconst (v := 1) hx hb d_Tr_testOf_10 (by decide) ?_
    refine lv_goto (tgt := 20) hx hb d_Tr_testOf_11 (by decide) ?_
    cases h
    exact kr_i hx hb hr hlocks hP hD hS d_Tr_testOf_20
set_option maxHeartbeats 4000000 in
set_option maxRecDepth 100000 in
theorem c_Tr_hasDefault (l : Launch) (dC : Nat → ClassId) (dI : Nat → Nat → Nat) (cI cJ cZ : ClassId) (a : Nat → Nat) (x1 : Int32) (tr : TrS) (res : Int32) (h : f_Tr_hasDefault x1 tr = some res) :
    Kt l (dC, dI) classes [(cI, .int), (cJ, .long), (cZ, .boolean)] y_Tr_hasDefault (wz y_Tr_hasDefault b_Tr_hasDefault 2 (some .boolean)) { frames := 1, cells := 0, slots := 0, locals := 22 } [.ref (a 4), .int x1] (cTr cI cJ cZ a tr) (some (.int res)) (cTr cI cJ cZ a tr) := by
  refine Kt_of (cc := b_Tr_hasDefault) (maxL := 2) (ret := (some .boolean)) (by decide) (Nat.le_of_ble_eq_true rfl) ?_
  intro p e s m args below meth c A ls hx hb hr hml hlocks hown hts hNw hK hP hD hA hS hl
  have hl : lv_has ls 2 [(0, .ref (a 4)), (1, .int x1)] := hl
  have hP : va_P (dC, dI) classes (cTr cI cJ cZ a tr) s.heap := hP
  refine lv_aload_n hx hb d_Tr_hasDefault_0 rfl (lv_at hl 0 rfl) ?_
  refine va_get (D := (dC, dI)) (ci := 1) (v := .long (Tr_defaults tr)) (C := R_Tr) (T := F_Tr) (N := 14) hx hb hts inb_Tr hown hK hP 0 rfl rfl 3 (by decide) (hts _ tw62) (fun _ h9 => h9) rfl d_Tr_hasDefault_1 ?_
  refine lv_iload_n hx hb d_Tr_hasDefault_4 rfl (lv_at hl 1 rfl) ?_
  obtain ⟨y5, hy, h⟩ := o_bd h
  refine kdSN (nn := 11) (rest := []) (w' := (cTr cI cJ cZ a tr)) (wr := (cTr cI cJ cZ a tr)) (st1 := [.int y5]) ⟨hx, hb, hml, hown, hts⟩ (c_Rf_isIn l dC dI cI cJ cZ a (Tr_defaults tr) x1 y5 hy) ⟨va_cnB 2 hts (gd_0 tw34) rfl rfl rfl (hNw _ nw331) (hts _ tw1) hd_Rf_isIn.2 ⟨Nat.le_of_ble_eq_true rfl, Nat.le_of_ble_eq_true rfl⟩, hts _ tw33, trivial⟩ hNw hK hP hD hS hA [] [0, 1, 2, 3, 4, 5, 6, 7, 8, 9, 10] rfl rfl rfl rfl rfl (by decide +kernel) (by decide +kernel) rfl hl.1 rfl (Nat.le_of_ble_eq_true rfl) rfl d_Tr_hasDefault_5 ⟨Nat.zero_le _, Nat.zero_le _⟩ (fun H locs hP hD hS => ?_)
  obtain ⟨hbo, h⟩ := o_bo h
  cases h
  exact kr_z hx hb hr hbo hlocks hP hD hS d_Tr_hasDefault_8
set_option maxHeartbeats 4000000 in
set_option maxRecDepth 100000 in
theorem c_Tr_isCatch (l : Launch) (dC : Nat → ClassId) (dI : Nat → Nat → Nat) (cI cJ cZ : ClassId) (a : Nat → Nat) (x1 : Int32) (tr : TrS) (res : Int32) (h : f_Tr_isCatch x1 tr = some res) :
    Kt l (dC, dI) classes [(cI, .int), (cJ, .long), (cZ, .boolean)] y_Tr_isCatch (wz y_Tr_isCatch b_Tr_isCatch 2 (some .boolean)) { frames := 0, cells := 0, slots := 0, locals := 0 } [.ref (a 4), .int x1] (cTr cI cJ cZ a tr) (some (.int res)) (cTr cI cJ cZ a tr) := by
  refine Kt_of (cc := b_Tr_isCatch) (maxL := 2) (ret := (some .boolean)) (by decide) (Nat.le_of_ble_eq_true rfl) ?_
  intro p e s m args below meth c A ls hx hb hr hml hlocks hown hts hNw hK hP hD hA hS hl
  have hl : lv_has ls 2 [(0, .ref (a 4)), (1, .int x1)] := hl
  have hP : va_P (dC, dI) classes (cTr cI cJ cZ a tr) s.heap := hP
  refine lv_aload_n hx hb d_Tr_isCatch_0 rfl (lv_at hl 0 rfl) ?_
  refine va_get (D := (dC, dI)) (ci := 1) (v := .ref (a 8)) (C := R_Tr) (T := F_Tr) (N := 14) hx hb hts inb_Tr hown hK hP 0 rfl rfl 7 (by decide) (hts _ tw76) (fun _ h9 => h9) rfl d_Tr_isCatch_1 ?_
  refine lv_iload_n hx hb d_Tr_isCatch_4 rfl (lv_at hl 1 rfl) ?_
  obtain ⟨hin, h⟩ := o_in h
  refine va_iald hx hb hK hP 4 0 rfl rfl hin d_Tr_isCatch_5 ?_
  refine lv_iconst (v := -1) hx hb d_Tr_isCatch_6 (by decide) ?_
  refine lv_icmp_eq (tgt := 40) hx hb d_Tr_isCatch_7 (by decide) (fun hc => ?_) (fun hc => ?_)
  · have h := o_t hc h
    refine lv_iconst (v := 0) hx hb d_Tr_isCatch_40 (by decide) ?_
    cases h
    exact kr_z hx hb hr (by decide) hlocks hP hD hS d_Tr_isCatch_41
  · have h := o_f hc h
    refine lv_aload_n hx hb d_Tr_isCatch_10 rfl (lv_at hl 0 rfl) ?_
    refine va_get (D := (dC, dI)) (ci := 1) (v := .ref (a 5)) (C := R_Tr) (T := F_Tr) (N := 14) hx hb hts inb_Tr hown hK hP 0 rfl rfl 4 (by decide) (hts _ tw63) (fun _ h9 => h9) rfl d_Tr_isCatch_11 ?_
    refine lv_aload_n hx hb d_Tr_isCatch_14 rfl (lv_at hl 0 rfl) ?_
    refine va_get (D := (dC, dI)) (ci := 1) (v := .ref (a 8)) (C := R_Tr) (T := F_Tr) (N := 14) hx hb hts inb_Tr hown hK hP 0 rfl rfl 7 (by decide) (hts _ tw76) (fun _ h9 => h9) rfl d_Tr_isCatch_15 ?_
    refine lv_iload_n hx hb d_Tr_isCatch_18 rfl (lv_at hl 1 rfl) ?_
    obtain ⟨hin, h⟩ := o_in h
    refine va_iald hx hb hK hP 4 0 rfl rfl hin d_Tr_isCatch_19 ?_
    obtain ⟨hin, h⟩ := o_in h
    refine va_iald hx hb hK hP 1 0 rfl rfl hin d_Tr_isCatch_20 ?_
    refine lv_bipush (v := 16) hx hb d_Tr_isCatch_21 (by decide) ?_
    refine lv_icmp_ne (tgt := 40) hx hb d_Tr_isCatch_23 (by decide) (fun hc => ?_) (fun hc => ?_)
    · have h := o_f hc h
      refine lv_iconst (v := 0) hx hb d_Tr_isCatch_40 (by decide) ?_
      cases h
      exact kr_z hx hb hr (by decide) hlocks hP hD hS d_Tr_isCatch_41
    · have h := o_t hc h
      refine lv_aload_n hx hb d_Tr_isCatch_26 rfl (lv_at hl 0 rfl) ?_
      refine va_get (D := (dC, dI)) (ci := 1) (v := .ref (a 7)) (C := R_Tr) (T := F_Tr) (N := 14) hx hb hts inb_Tr hown hK hP 0 rfl rfl 6 (by decide) (hts _ tw72) (fun _ h9 => h9) rfl d_Tr_isCatch_27 ?_
      refine lv_iload_n hx hb d_Tr_isCatch_30 rfl (lv_at hl 1 rfl) ?_
      obtain ⟨hin, h⟩ := o_in h
      refine va_iald hx hb hK hP 3 0 rfl rfl hin d_Tr_isCatch_31 ?_
      refine lv_iconst (v := -1) hx hb d_Tr_isCatch_32 (by decide) ?_
      refine lv_icmp_eq (tgt := 40) hx hb d_Tr_isCatch_33 (by decide) (fun hc => ?_) (fun hc => ?_)
      · have h := o_t hc h
        refine lv_iconst (v := 0) hx hb d_Tr_isCatch_40 (by decide) ?_
        cases h
        exact kr_z hx hb hr (by decide) hlocks hP hD hS d_Tr_isCatch_41
      · have h := o_f hc h
        refine lv_iconst (v := 1) hx hb d_Tr_isCatch_36 (by decide) ?_
        refine lv_goto (tgt := 41) hx hb d_Tr_isCatch_37 (by decide) ?_
        cases h
        exact kr_z hx hb hr (by decide) hlocks hP hD hS d_Tr_isCatch_41
set_option maxHeartbeats 4000000 in
set_option maxRecDepth 100000 in
theorem c_Tr_kidBefore (l : Launch) (dC : Nat → ClassId) (dI : Nat → Nat → Nat) (cI cJ cZ : ClassId) (a : Nat → Nat) (x1 : Int32) (tr : TrS) (res : Int32) (h : f_Tr_kidBefore x1 tr = some res) :
    Kt l (dC, dI) classes [(cI, .int), (cJ, .long), (cZ, .boolean)] y_Tr_kidBefore (wz y_Tr_kidBefore b_Tr_kidBefore 2 (some .int)) { frames := 0, cells := 0, slots := 0, locals := 0 } [.ref (a 4), .int x1] (cTr cI cJ cZ a tr) (some (.int res)) (cTr cI cJ cZ a tr) := by
  refine Kt_of (cc := b_Tr_kidBefore) (maxL := 2) (ret := (some .int)) (by decide) (Nat.le_of_ble_eq_true rfl) ?_
  intro p e s m args below meth c A ls hx hb hr hml hlocks hown hts hNw hK hP hD hA hS hl
  have hl : lv_has ls 2 [(0, .ref (a 4)), (1, .int x1)] := hl
  have hP : va_P (dC, dI) classes (cTr cI cJ cZ a tr) s.heap := hP
  refine lv_aload_n hx hb d_Tr_kidBefore_0 rfl (lv_at hl 0 rfl) ?_
  refine va_get (D := (dC, dI)) (ci := 1) (v := .ref (a 14)) (C := R_Tr) (T := F_Tr) (N := 14) hx hb hts inb_Tr hown hK hP 0 rfl rfl 13 (by decide) (hts _ tw90) (fun _ h9 => h9) rfl d_Tr_kidBefore_1 ?_
  refine lv_iload_n hx hb d_Tr_kidBefore_4 rfl (lv_at hl 1 rfl) ?_
  obtain ⟨hin, h⟩ := o_in h
  refine va_iald hx hb hK hP 10 0 rfl rfl hin d_Tr_kidBefore_5 ?_
  refine lv_aload_n hx hb d_Tr_kidBefore_6 rfl (lv_at hl 0 rfl) ?_
  refine va_get (D := (dC, dI)) (ci := 1) (v := .ref (a 13)) (C := R_Tr) (T := F_Tr) (N := 14) hx hb hts inb_Tr hown hK hP 0 rfl rfl 12 (by decide) (hts _ tw89) (fun _ h9 => h9) rfl d_Tr_kidBefore_7 ?_
  refine lv_aload_n hx hb d_Tr_kidBefore_10 rfl (lv_at hl 0 rfl) ?_
  refine va_get (D := (dC, dI)) (ci := 1) (v := .ref (a 8)) (C := R_Tr) (T := F_Tr) (N := 14) hx hb hts inb_Tr hown hK hP 0 rfl rfl 7 (by decide) (hts _ tw76) (fun _ h9 => h9) rfl d_Tr_kidBefore_11 ?_
  refine lv_iload_n hx hb d_Tr_kidBefore_14 rfl (lv_at hl 1 rfl) ?_
  obtain ⟨hin, h⟩ := o_in h
  refine va_iald hx hb hK hP 4 0 rfl rfl hin d_Tr_kidBefore_15 ?_
  obtain ⟨hin, h⟩ := o_in h
  refine va_iald hx hb hK hP 9 0 rfl rfl hin d_Tr_kidBefore_16 ?_
  refine lv_icmp_ne (tgt := 24) hx hb d_Tr_kidBefore_17 (by decide) (fun hc => ?_) (fun hc => ?_)
  · have h := o_f hc h
    refine lv_aload_n hx hb d_Tr_kidBefore_24 rfl (lv_at hl 0 rfl) ?_
    refine va_get (D := (dC, dI)) (ci := 1) (v := .ref (a 12)) (C := R_Tr) (T := F_Tr) (N := 14) hx hb hts inb_Tr hown hK hP 0 rfl rfl 11 (by decide) (hts _ tw88) (fun _ h9 => h9) rfl d_Tr_kidBefore_25 ?_
    refine lv_aload_n hx hb d_Tr_kidBefore_28 rfl (lv_at hl 0 rfl) ?_
    refine va_get (D := (dC, dI)) (ci := 1) (v := .ref (a 14)) (C := R_Tr) (T := F_Tr) (N := 14) hx hb hts inb_Tr hown hK hP 0 rfl rfl 13 (by decide) (hts _ tw90) (fun _ h9 => h9) rfl d_Tr_kidBefore_29 ?_
    refine lv_iload_n hx hb d_Tr_kidBefore_32 rfl (lv_at hl 1 rfl) ?_
    obtain ⟨hin, h⟩ := o_in h
    refine va_iald hx hb hK hP 10 0 rfl rfl hin d_Tr_kidBefore_33 ?_
    refine lv_iconst (v := 1) hx hb d_Tr_kidBefore_34 (by decide) ?_
    refine lv_isub hx hb d_Tr_kidBefore_35 ?_
    obtain ⟨hin, h⟩ := o_in h
    refine va_iald hx hb hK hP 8 0 rfl rfl hin d_Tr_kidBefore_36 ?_
    cases h
    exact kr_i hx hb hr hlocks hP hD hS d_Tr_kidBefore_37
  · have h := o_t hc h
    refine lv_iconst (v := -1) hx hb d_Tr_kidBefore_20 (by decide) ?_
    refine lv_goto (tgt := 37) hx hb d_Tr_kidBefore_21 (by decide) ?_
    cases h
    exact kr_i hx hb hr hlocks hP hD hS d_Tr_kidBefore_37
