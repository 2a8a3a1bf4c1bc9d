set_option maxHeartbeats 4000000 in
set_option maxRecDepth 100000 in
theorem c_Rw_close (l : Launch) (dC : Nat → ClassId) (dI : Nat → Nat → Nat) (cI cJ cZ : ClassId) (a : Nat → Nat) (rw : RwS) (res : RwS) (h : f_Rw_close rw = some res) :
    Kt l (dC, dI) classes [(cI, .int), (cJ, .long), (cZ, .boolean)] y_Rw_close (wz y_Rw_close b_Rw_close 1 none) { frames := 0, cells := 0, slots := 0, locals := 0 } [.ref (a 15)] (cRw cI cJ cZ a rw) none (cRw cI cJ cZ a res) := by
  refine Kt_of (cc := b_Rw_close) (maxL := 1) (ret := none) (by decide) (Nat.le_of_ble_eq_true rfl) ?_
  intro p e s m args below meth c A ls hx hb hr hml hlocks hown hts hNw hK hP hD hA hS hl
  have hl : lv_has ls 1 [(0, .ref (a 15))] := hl
  have hP : va_P (dC, dI) classes (cRw cI cJ cZ a rw) s.heap := hP
  refine lv_aload_n hx hb d_Rw_close_0 rfl (lv_at hl 0 rfl) ?_
  refine lv_iconst (v := -1) hx hb d_Rw_close_1 (by decide) ?_
  refine va_put (D := (dC, dI)) (ci := 2) (v := .int (-1 : Int32)) (ty := .int) (C := R_Rw) (T := F_Rw) (N := 4) hx hb hts inb_Rw ft_Rw ft_Rw_ok n_Rw hown hK hP hD hS 0 rfl rfl 0 (by decide) (hts _ tw127) (fun _ h9 => h9) rfl (by decide +kernel) rfl rfl (Nat.le_of_ble_eq_true rfl) d_Rw_close_2 (fun H locs hP hD hS => ?_)
  have hP : va_P (dC, dI) classes (cRw cI cJ cZ a ((-1 : Int32), (Rw_size rw), (Rw_hasDefault rw), (Rw_parts rw))) H := hP
  have hD : va_D A (cRw cI cJ cZ a ((-1 : Int32), (Rw_size rw), (Rw_hasDefault rw), (Rw_parts rw))) := hD
  refine lv_aload_n hx hb d_Rw_close_5 rfl (lv_at hl 0 rfl) ?_
  refine lv_iconst (v := 0) hx hb d_Rw_close_6 (by decide) ?_
  refine va_put (D := (dC, dI)) (ci := 2) (v := .int (0 : Int32)) (ty := .int) (C := R_Rw) (T := F_Rw) (N := 4) hx hb hts inb_Rw ft_Rw ft_Rw_ok n_Rw hown hK hP hD hS 0 rfl rfl 1 (by decide) (hts _ tw129) (fun _ h9 => h9) rfl (by decide +kernel) rfl rfl (Nat.le_of_ble_eq_true rfl) d_Rw_close_7 (fun H locs hP hD hS => ?_)
  have hP : va_P (dC, dI) classes (cRw cI cJ cZ a ((-1 : Int32), (0 : Int32), (Rw_hasDefault rw), (Rw_parts rw))) H := hP
  have hD : va_D A (cRw cI cJ cZ a ((-1 : Int32), (0 : Int32), (Rw_hasDefault rw), (Rw_parts rw))) := hD
  refine lv_aload_n hx hb d_Rw_close_10 rfl (lv_at hl 0 rfl) ?_
  refine lv_iconst (v := 0) hx hb d_Rw_close_11 (by decide) ?_
  refine va_put (D := (dC, dI)) (ci := 2) (v := .int (0 : Int32)) (ty := .boolean) (C := R_Rw) (T := F_Rw) (N := 4) hx hb hts inb_Rw ft_Rw ft_Rw_ok n_Rw hown hK hP hD hS 0 rfl rfl 2 (by decide) (hts _ tw131) (fun _ h9 => h9) rfl (by decide +kernel) rfl rfl (Nat.le_of_ble_eq_true rfl) d_Rw_close_12 (fun H locs hP hD hS => ?_)
  have hP : va_P (dC, dI) classes (cRw cI cJ cZ a ((-1 : Int32), (0 : Int32), (0 : Int32), (Rw_parts rw))) H := hP
  have hD : va_D A (cRw cI cJ cZ a ((-1 : Int32), (0 : Int32), (0 : Int32), (Rw_parts rw))) := hD
  cases h
  exact kr_v hx hb hr hlocks hP hD hS d_Rw_close_15
set_option maxHeartbeats 4000000 in
set_option maxRecDepth 100000 in
theorem c_Rw_isOpen (l : Launch) (dC : Nat → ClassId) (dI : Nat → Nat → Nat) (cI cJ cZ : ClassId) (a : Nat → Nat) (rw : RwS) (res : Int32) (h : f_Rw_isOpen rw = some res) :
    Kt l (dC, dI) classes [(cI, .int), (cJ, .long), (cZ, .boolean)] y_Rw_isOpen (wz y_Rw_isOpen b_Rw_isOpen 1 (some .boolean)) { frames := 0, cells := 0, slots := 0, locals := 0 } [.ref (a 15)] (cRw cI cJ cZ a rw) (some (.int res)) (cRw cI cJ cZ a rw) := by
  refine Kt_of (cc := b_Rw_isOpen) (maxL := 1) (ret := (some .boolean)) (by decide) (Nat.le_of_ble_eq_true rfl) ?_
  intro p e s m args below meth c A ls hx hb hr hml hlocks hown hts hNw hK hP hD hA hS hl
  have hl : lv_has ls 1 [(0, .ref (a 15))] := hl
  have hP : va_P (dC, dI) classes (cRw cI cJ cZ a rw) s.heap := hP
  refine lv_aload_n hx hb d_Rw_isOpen_0 rfl (lv_at hl 0 rfl) ?_
  refine va_get (D := (dC, dI)) (ci := 2) (v := .int (Rw_sort rw)) (C := R_Rw) (T := F_Rw) (N := 4) hx hb hts inb_Rw hown hK hP 0 rfl rfl 0 (by decide) (hts _ tw127) (fun _ h9 => h9) rfl d_Rw_isOpen_1 ?_
  refine lv_iconst (v := -1) hx hb d_Rw_isOpen_4 (by decide) ?_
  refine lv_icmp_eq (tgt := 12) hx hb d_Rw_isOpen_5 (by decide) (fun hc => ?_) (fun hc => ?_)
  · have h := o_t hc h
    refine lv_iconst (v := 0) hx hb d_Rw_isOpen_12 (by decide) ?_
    cases h
    exact kr_z hx hb hr (by decide) hlocks hP hD hS d_Rw_isOpen_13
  · have h := o_f hc h
    refine lv_iconst (v := 1) hx hb d_Rw_isOpen_8 (by decide) ?_
    refine lv_goto (tgt := 13) hx hb d_Rw_isOpen_9 (by decide) ?_
    cases h
    exact kr_z hx hb hr (by decide) hlocks hP hD hS d_Rw_isOpen_13
set_option maxHeartbeats 4000000 in
set_option maxRecDepth 100000 in
theorem c_Rw_start (l : Launch) (dC : Nat → ClassId) (dI : Nat → Nat → Nat) (cI cJ cZ : ClassId) (a : Nat → Nat) (x1 : Int32) (rw : RwS) (res : RwS) (h : f_Rw_start x1 rw = some res) :
    Kt l (dC, dI) classes [(cI, .int), (cJ, .long), (cZ, .boolean)] y_Rw_start (wz y_Rw_start b_Rw_start 2 none) { frames := 0, cells := 0, slots := 0, locals := 0 } [.ref (a 15), .int x1] (cRw cI cJ cZ a rw) none (cRw cI cJ cZ a res) := by
  refine Kt_of (cc := b_Rw_start) (maxL := 2) (ret := none) (by decide) (Nat.le_of_ble_eq_true rfl) ?_
  intro p e s m args below meth c A ls hx hb hr hml hlocks hown hts hNw hK hP hD hA hS hl
  have hl : lv_has ls 2 [(0, .ref (a 15)), (1, .int x1)] := hl
  have hP : va_P (dC, dI) classes (cRw cI cJ cZ a rw) s.heap := hP
  refine lv_aload_n hx hb d_Rw_start_0 rfl (lv_at hl 0 rfl) ?_
  refine lv_iload_n hx hb d_Rw_start_1 rfl (lv_at hl 1 rfl) ?_
  refine va_put (D := (dC, dI)) (ci := 2) (v := .int x1) (ty := .int) (C := R_Rw) (T := F_Rw) (N := 4) hx hb hts inb_Rw ft_Rw ft_Rw_ok n_Rw hown hK hP hD hS 0 rfl rfl 0 (by decide) (hts _ tw127) (fun _ h9 => h9) rfl (by decide +kernel) rfl rfl (Nat.le_of_ble_eq_true rfl) d_Rw_start_2 (fun H locs hP hD hS => ?_)
  have hP : va_P (dC, dI) classes (cRw cI cJ cZ a (x1, (Rw_size rw), (Rw_hasDefault rw), (Rw_parts rw))) H := hP
  have hD : va_D A (cRw cI cJ cZ a (x1, (Rw_size rw), (Rw_hasDefault rw), (Rw_parts rw))) := hD
  cases h
  exact kr_v hx hb hr hlocks hP hD hS d_Rw_start_5
set_option maxHeartbeats 4000000 in
set_option maxRecDepth 100000 in
theorem c_Rw_fitsMark (l : Launch) (dC : Nat → ClassId) (dI : Nat → Nat → Nat) (cI cJ cZ : ClassId) (a : Nat → Nat) (x1 : Int32) (rw : RwS) (res : Int32) (h : f_Rw_fitsMark x1 rw = some res) :
    Kt l (dC, dI) classes [(cI, .int), (cJ, .long), (cZ, .boolean)] y_Rw_fitsMark (wz y_Rw_fitsMark b_Rw_fitsMark 2 (some .boolean)) { frames := 0, cells := 0, slots := 0, locals := 0 } [.ref (a 15), .int x1] (cRw cI cJ cZ a rw) (some (.int res)) (cRw cI cJ cZ a rw) := by
  refine Kt_of (cc := b_Rw_fitsMark) (maxL := 2) (ret := (some .boolean)) (by decide) (Nat.le_of_ble_eq_true rfl) ?_
  intro p e s m args below meth c A ls hx hb hr hml hlocks hown hts hNw hK hP hD hA hS hl
  have hl : lv_has ls 2 [(0, .ref (a 15)), (1, .int x1)] := hl
  have hP : va_P (dC, dI) classes (cRw cI cJ cZ a rw) s.heap := hP
  refine lv_iload_n hx hb d_Rw_fitsMark_0 rfl (lv_at hl 1 rfl) ?_
  refine lv_if_eq (tgt := 21) hx hb d_Rw_fitsMark_1 (by decide) (fun hc => ?_) (fun hc => ?_)
  · have h := o_t hc h
    refine lv_iconst (v := 1) hx hb d_Rw_fitsMark_21 (by decide) ?_
    refine lv_goto (tgt := 26) hx hb d_Rw_fitsMark_22 (by decide) ?_
    cases h
    exact kr_z hx hb hr (by decide) hlocks hP hD hS d_Rw_fitsMark_26
  · have h := o_f hc h
    refine lv_iload_n hx hb d_Rw_fitsMark_4 rfl (lv_at hl 1 rfl) ?_
    refine lv_iconst (v := 1) hx hb d_Rw_fitsMark_5 (by decide) ?_
    refine lv_icmp_eq (tgt := 21) hx hb d_Rw_fitsMark_6 (by decide) (fun hc => ?_) (fun hc => ?_)
    · have h := o_t hc h
      refine lv_iconst (v := 1) hx hb d_Rw_fitsMark_21 (by decide) ?_
      refine lv_goto (tgt := 26) hx hb d_Rw_fitsMark_22 (by decide) ?_
      cases h
      exact kr_z hx hb hr (by decide) hlocks hP hD hS d_Rw_fitsMark_26
    · have h := o_f hc h
      refine lv_iload_n hx hb d_Rw_fitsMark_9 rfl (lv_at hl 1 rfl) ?_
      refine lv_iconst (v := 2) hx hb d_Rw_fitsMark_10 (by decide) ?_
      refine lv_icmp_ne (tgt := 25) hx hb d_Rw_fitsMark_11 (by decide) (fun hc => ?_) (fun hc => ?_)
      · have h := o_f hc h
        refine lv_iconst (v := 0) hx hb d_Rw_fitsMark_25 (by decide) ?_
        cases h
        exact kr_z hx hb hr (by decide) hlocks hP hD hS d_Rw_fitsMark_26
      · have h := o_t hc h
        refine lv_aload_n hx hb d_Rw_fitsMark_14 rfl (lv_at hl 0 rfl) ?_
        refine va_get (D := (dC, dI)) (ci := 2) (v := .int (Rw_hasDefault rw)) (C := R_Rw) (T := F_Rw) (N := 4) hx hb hts inb_Rw hown hK hP 0 rfl rfl 2 (by decide) (hts _ tw131) (fun _ h9 => h9) rfl d_Rw_fitsMark_15 ?_
        refine lv_if_ne (tgt := 25) hx hb d_Rw_fitsMark_18 (by decide) (fun hc => ?_) (fun hc => ?_)
        · have h := o_f hc h
          refine lv_iconst (v := 0) hx hb d_Rw_fitsMark_25 (by decide) ?_
          cases h
          exact kr_z hx hb hr (by decide) hlocks hP hD hS d_Rw_fitsMark_26
        · have h := o_t hc h
          refine lv_iconst (v := 1) hx hb d_Rw_fitsMark_21 (by decide) ?_
          refine lv_goto (tgt := 26) hx hb d_Rw_fitsMark_22 (by decide) ?_
          cases h
          exact kr_z hx hb hr (by decide) hlocks hP hD hS d_Rw_fitsMark_26
set_option maxHeartbeats 4000000 in
set_option maxRecDepth 100000 in
theorem c_Rw_add (l : Launch) (dC : Nat → ClassId) (dI : Nat → Nat → Nat) (cI cJ cZ : ClassId) (a : Nat → Nat) (x1 : Int32) (x2 : Int32) (rw : RwS) (res : RwS) (h : f_Rw_add x1 x2 rw = some res) :
    Kt l (dC, dI) classes [(cI, .int), (cJ, .long), (cZ, .boolean)] y_Rw_add (wz y_Rw_add b_Rw_add 3 none) { frames := 0, cells := 0, slots := 0, locals := 0 } [.ref (a 15), .int x1, .int x2] (cRw cI cJ cZ a rw) none (cRw cI cJ cZ a res) := by
  refine Kt_of (cc := b_Rw_add) (maxL := 3) (ret := none) (by decide) (Nat.le_of_ble_eq_true rfl) ?_
  intro p e s m args below meth c A ls hx hb hr hml hlocks hown hts hNw hK hP hD hA hS hl
  have hl : lv_has ls 3 [(0, .ref (a 15)), (1, .int x1), (2, .int x2)] := hl
  have hP : va_P (dC, dI) classes (cRw cI cJ cZ a rw) s.heap := hP
  refine lv_aload_n hx hb d_Rw_add_0 rfl (lv_at hl 0 rfl) ?_
  refine va_get (D := (dC, dI)) (ci := 2) (v := .ref (a 16)) (C := R_Rw) (T := F_Rw) (N := 4) hx hb hts inb_Rw hown hK hP 0 rfl rfl 3 (by decide) (hts _ tw133) (fun _ h9 => h9) rfl d_Rw_add_1 ?_
  refine lv_aload_n hx hb d_Rw_add_4 rfl (lv_at hl 0 rfl) ?_
  refine va_get (D := (dC, dI)) (ci := 2) (v := .int (Rw_size rw)) (C := R_Rw) (T := F_Rw) (N := 4) hx hb hts inb_Rw hown hK hP 0 rfl rfl 1 (by decide) (hts _ tw129) (fun _ h9 => h9) rfl d_Rw_add_5 ?_
  refine lv_iload_n hx hb d_Rw_add_8 rfl (lv_at hl 1 rfl) ?_
  obtain ⟨hin, h⟩ := o_in h
  refine va_iast hx hb hK hP hD hS 1 0 rfl rfl hin d_Rw_add_9 (fun H locs hP hD hS => ?_)
  have hP : va_P (dC, dI) classes (cRw cI cJ cZ a ((Rw_sort rw), (Rw_size rw), (Rw_hasDefault rw), (upd (Rw_parts rw) (Rw_size rw).toNatClampNeg x1))) H := hP
  have hD : va_D A (cRw cI cJ cZ a ((Rw_sort rw), (Rw_size rw), (Rw_hasDefault rw), (upd (Rw_parts rw) (Rw_size rw).toNatClampNeg x1))) := hD
  refine lv_aload_n hx hb d_Rw_add_10 rfl (lv_at hl 0 rfl) ?_
  refine lv_dup hx hb d_Rw_add_11 rfl ?_
  refine va_get (D := (dC, dI)) (ci := 2) (v := .int (Rw_size rw)) (C := R_Rw) (T := F_Rw) (N := 4) hx hb hts inb_Rw hown hK hP 0 rfl rfl 1 (by decide) (hts _ tw129) (fun _ h9 => h9) rfl d_Rw_add_12 ?_
  refine lv_iconst (v := 1) hx hb d_Rw_add_15 (by decide) ?_
  refine lv_iadd hx hb d_Rw_add_16 ?_
  refine va_put (D := (dC, dI)) (ci := 2) (v := .int ((Rw_size rw) + (1 : Int32))) (ty := .int) (C := R_Rw) (T := F_Rw) (N := 4) hx hb hts inb_Rw ft_Rw ft_Rw_ok n_Rw hown hK hP hD hS 0 rfl rfl 1 (by decide) (hts _ tw129) (fun _ h9 => h9) rfl (by decide +kernel) rfl rfl (Nat.le_of_ble_eq_true rfl) d_Rw_add_17 (fun H locs hP hD hS => ?_)
  have hP : va_P (dC, dI) classes (cRw cI cJ cZ a ((Rw_sort rw), ((Rw_size rw) + (1 : Int32)), (Rw_hasDefault rw), (upd (Rw_parts rw) (Rw_size rw).toNatClampNeg x1))) H := hP
  have hD : va_D A (cRw cI cJ cZ a ((Rw_sort rw), ((Rw_size rw) + (1 : Int32)), (Rw_hasDefault rw), (upd (Rw_parts rw) (Rw_size rw).toNatClampNeg x1))) := hD
  refine lv_aload_n hx hb d_Rw_add_20 rfl (lv_at hl 0 rfl) ?_
  refine va_get (D := (dC, dI)) (ci := 2) (v := .int (Rw_sort rw)) (C := R_Rw) (T := F_Rw) (N := 4) hx hb hts inb_Rw hown hK hP 0 rfl rfl 0 (by decide) (hts _ tw127) (fun _ h9 => h9) rfl d_Rw_add_21 ?_
  refine lv_bipush (v := 16) hx hb d_Rw_add_24 (by decide) ?_
  refine lv_icmp_eq (tgt := 39) hx hb d_Rw_add_26 (by decide) (fun hc => ?_) (fun hc => ?_)
  · have h := o_t hc h
    cases h
    exact kr_v hx hb hr hlocks hP hD hS d_Rw_add_39
  · have h := o_f hc h
    refine lv_iload_n hx hb d_Rw_add_29 rfl (lv_at hl 2 rfl) ?_
    refine lv_iconst (v := 2) hx hb d_Rw_add_30 (by decide) ?_
    refine lv_icmp_ne (tgt := 39) hx hb d_Rw_add_31 (by decide) (fun hc => ?_) (fun hc => ?_)
    · have h := o_f hc h
      cases h
      exact kr_v hx hb hr hlocks hP hD hS d_Rw_add_39
    · have h := o_t hc h
      refine lv_aload_n hx hb d_Rw_add_34 rfl (lv_at hl 0 rfl) ?_
      refine lv_iconst (v := 1) hx hb d_Rw_add_35 (by decide) ?_
      refine va_put (D := (dC, dI)) (ci := 2) (v := .int (1 : Int32)) (ty := .boolean) (C := R_Rw) (T := F_Rw) (N := 4) hx hb hts inb_Rw ft_Rw ft_Rw_ok n_Rw hown hK hP hD hS 0 rfl rfl 2 (by decide) (hts _ tw131) (fun _ h9 => h9) rfl (by decide +kernel) rfl rfl (Nat.le_of_ble_eq_true rfl) d_Rw_add_36 (fun H locs hP hD hS => ?_)
      have hP : va_P (dC, dI) classes (cRw cI cJ cZ a ((Rw_sort rw), ((Rw_size rw) + (1 : Int32)), (1 : Int32), (upd (Rw_parts rw) (Rw_size rw).toNatClampNeg x1))) H := hP
      have hD : va_D A (cRw cI cJ cZ a ((Rw_sort rw), ((Rw_size rw) + (1 : Int32)), (1 : Int32), (upd (Rw_parts rw) (Rw_size rw).toNatClampNeg x1))) := hD
      cases h
      exact kr_v hx hb hr hlocks hP hD hS d_Rw_add_39
