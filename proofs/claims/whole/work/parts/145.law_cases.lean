set_option maxHeartbeats 4000000 in
set_option maxRecDepth 100000 in
theorem law_clear {p : Program} {l : Launch} {e : Env} {s : State} {m : MethodId} {below : List Frame} {meth : Method} {c : Code} {b L : Nat} {xs : Nat → Int32} {dC : Nat → ClassId} {dI : Nat → Nat → Nat} {cI cJ cZ : ClassId} {a1 a2 : Nat → Nat} (C0 : LC p s m meth c b L xs dC dI cI cJ cZ) {x3 : Int32} (N : Nat) (kn : KnS) (tr : TrS) (rw : RwS) (lk : LkS) (f0 : FlS) (f1 : FlS) (mb : MbS) (mg : MgS) (mx : MxS) (mf : MfS) (r1 : Int32 × KnS × TrS × RwS × LkS × FlS × FlS) (h1 : f_Rf_clear N kn tr rw lk f0 f1 = some r1) (r2 : Int32 × MbS × MgS) (h2 : f_Md_clear mb mg = some r2) (he : r1.1 = r2.1) {H : Heap} {locs : List Loc} {ls : Array Slot} (hP : va_P (dC, dI) classes (cO cI cJ cZ a1 ++ cKn cI cJ cZ a1 kn ++ cTr cI cJ cZ a1 tr ++ cRw cI cJ cZ a1 rw ++ cLk cI cJ cZ a1 lk ++ cF0 cI cJ cZ a1 f0 ++ cF1 cI cJ cZ a1 f1 ++ cMd cI cJ cZ a2 mb mg mx mf) H) (hD : va_D (fun q : Nat => s.heap.size ≤ q) (cO cI cJ cZ a1 ++ cKn cI cJ cZ a1 kn ++ cTr cI cJ cZ a1 tr ++ cRw cI cJ cZ a1 rw ++ cLk cI cJ cZ a1 lk ++ cF0 cI cJ cZ a1 f0 ++ cF1 cI cJ cZ a1 f1 ++ cMd cI cJ cZ a2 mb mg mx mf)) (hS : va_S (fun q : Nat => s.heap.size ≤ q) s.heap H locs) (hl : lv_has ls 4 [(3, .int x3), (2, .ref (a2 0)), (1, .ref (a1 0)), (0, .ref b)])
    (next : ∀ (H : Heap) (locs : List Loc), va_P (dC, dI) classes (cO cI cJ cZ a1 ++ cKn cI cJ cZ a1 r1.2.1 ++ cTr cI cJ cZ a1 r1.2.2.1 ++ cRw cI cJ cZ a1 r1.2.2.2.1 ++ cLk cI cJ cZ a1 r1.2.2.2.2.1 ++ cF0 cI cJ cZ a1 r1.2.2.2.2.2.1 ++ cF1 cI cJ cZ a1 r1.2.2.2.2.2.2 ++ cMd cI cJ cZ a2 r2.2.1 r2.2.2 mx mf) H → va_D (fun q : Nat => s.heap.size ≤ q) (cO cI cJ cZ a1 ++ cKn cI cJ cZ a1 r1.2.1 ++ cTr cI cJ cZ a1 r1.2.2.1 ++ cRw cI cJ cZ a1 r1.2.2.2.1 ++ cLk cI cJ cZ a1 r1.2.2.2.2.1 ++ cF0 cI cJ cZ a1 r1.2.2.2.2.2.1 ++ cF1 cI cJ cZ a1 r1.2.2.2.2.2.2 ++ cMd cI cJ cZ a2 r2.2.1 r2.2.2 mx mf) → va_S (fun q : Nat => s.heap.size ≤ q) s.heap H locs → W p l e room_1 s m #[Value.ref b] below meth c H locs 56 11828 (lw_Z below #[Value.ref b] s) (F0 m 769 ls [])) : W p l e room_1 s m #[Value.ref b] below meth c H locs 56 11828 (lw_Z below #[Value.ref b] s) (F0 m 140 ls []) := by
  obtain ⟨hx, hb, hr, hml, hown, hts, hNw, hK, hX, hbl, hlocks⟩ := C0
  have hA : ∀ q : Nat, s.heap.size ≤ q → (fun q : Nat => s.heap.size ≤ q) q := fun _ h => h
  have hbA : ¬ (fun q : Nat => s.heap.size ≤ q) b := Nat.not_le.mpr hbl
  refine lv_aload_n hx hb d_Lw_law_140 rfl (lv_at hl 2 rfl) ?_
  refine kdV (nn := 56) (rest := []) (w' := (cO cI cJ cZ a1 ++ cKn cI cJ cZ a1 r1.2.1 ++ cTr cI cJ cZ a1 r1.2.2.1 ++ cRw cI cJ cZ a1 r1.2.2.2.1 ++ cLk cI cJ cZ a1 r1.2.2.2.2.1 ++ cF0 cI cJ cZ a1 r1.2.2.2.2.2.1 ++ cF1 cI cJ cZ a1 r1.2.2.2.2.2.2 ++ cMd cI cJ cZ a2 mb mg mx mf)) (wr := (cMd cI cJ cZ a2 mb mg mx mf)) (st1 := [.int r1.1]) ⟨hx, hb, hml, hown, hts⟩ (c_Rf_clear l dC dI cI cJ cZ a1 N kn tr rw lk f0 f1 r1 h1) (cwV 0 hts (gd_V tw289 tw290 tw291 tw1 tw292) rfl rfl rfl hd_Rf_clear ⟨Nat.le_of_ble_eq_true rfl, Nat.le_of_ble_eq_true rfl⟩) hNw hK hP hD hS hA (ci := 6) rfl rfl rfl [0, 1, 2, 3, 4, 5, 6, 7, 8, 9, 10, 11, 12, 13, 14, 15, 16, 17, 18, 19, 20, 21, 22, 23, 24, 25, 26, 27, 28, 29, 30, 31] [32, 33, 34, 35, 36, 37, 38, 39, 40, 41, 42, 43, 44, 45, 46, 47, 48, 49, 50, 51, 52, 53, 54, 55] rfl rfl rfl rfl rfl (by decide +kernel) (by decide +kernel) rfl hl.1 rfl (Nat.le_of_ble_eq_true rfl) rfl d_Lw_law_141 ⟨Nat.le_of_ble_eq_true rfl, Nat.le_of_ble_eq_true rfl⟩ (fun H locs hP hD hS => ?_)
  refine lv_aload_n hx hb d_Lw_law_144 rfl (lv_at hl 1 rfl) ?_
  refine kdV (nn := 56) (rest := [.int r1.1]) (w' := (cO cI cJ cZ a1 ++ cKn cI cJ cZ a1 r1.2.1 ++ cTr cI cJ cZ a1 r1.2.2.1 ++ cRw cI cJ cZ a1 r1.2.2.2.1 ++ cLk cI cJ cZ a1 r1.2.2.2.2.1 ++ cF0 cI cJ cZ a1 r1.2.2.2.2.2.1 ++ cF1 cI cJ cZ a1 r1.2.2.2.2.2.2 ++ cMd cI cJ cZ a2 r2.2.1 r2.2.2 mx mf)) (wr := (cO cI cJ cZ a1 ++ cKn cI cJ cZ a1 r1.2.1 ++ cTr cI cJ cZ a1 r1.2.2.1 ++ cRw cI cJ cZ a1 r1.2.2.2.1 ++ cLk cI cJ cZ a1 r1.2.2.2.2.1 ++ cF0 cI cJ cZ a1 r1.2.2.2.2.2.1 ++ cF1 cI cJ cZ a1 r1.2.2.2.2.2.2)) (st1 := [.int r2.1, .int r1.1]) ⟨hx, hb, hml, hown, hts⟩ (c_Md_clear l dC dI cI cJ cZ a2 mb mg mx mf r2 h2) (cwV 0 hts (gd_V tw794 tw795 tw796 tw9 tw797) rfl rfl rfl hd_Md_clear ⟨Nat.le_of_ble_eq_true rfl, Nat.le_of_ble_eq_true rfl⟩) hNw hK hP hD hS hA (ci := 7) rfl rfl rfl [32, 33, 34, 35, 36, 37, 38, 39, 40, 41, 42, 43, 44, 45, 46, 47, 48, 49, 50, 51, 52, 53, 54, 55] [0, 1, 2, 3, 4, 5, 6, 7, 8, 9, 10, 11, 12, 13, 14, 15, 16, 17, 18, 19, 20, 21, 22, 23, 24, 25, 26, 27, 28, 29, 30, 31] rfl rfl rfl rfl rfl (by decide +kernel) (by decide +kernel) rfl hl.1 rfl (Nat.le_of_ble_eq_true rfl) rfl d_Lw_law_145 ⟨Nat.le_of_ble_eq_true rfl, Nat.le_of_ble_eq_true rfl⟩ (fun H locs hP hD hS => ?_)
  refine lv_icmp_eq (tgt := 769) hx hb d_Lw_law_148 (by decide) (fun hc => ?_) (fun hc => ?_)
  · exact next H locs hP hD hS
  · exact absurd he hc
set_option maxHeartbeats 4000000 in
set_option maxRecDepth 100000 in
theorem law_exception {p : Program} {l : Launch} {e : Env} {s : State} {m : MethodId} {below : List Frame} {meth : Method} {c : Code} {b L : Nat} {xs : Nat → Int32} {dC : Nat → ClassId} {dI : Nat → Nat → Nat} {cI cJ cZ : ClassId} {a1 a2 : Nat → Nat} (C0 : LC p s m meth c b L xs dC dI cI cJ cZ) {x3 : Int32} (hin1 : vp_in (x3 + 1) L) (N : Nat) (kn : KnS) (tr : TrS) (rw : RwS) (lk : LkS) (f0 : FlS) (f1 : FlS) (mb : MbS) (mg : MgS) (mx : MxS) (mf : MfS) (r1 : Int32 × KnS) (h1 : f_Rf_exception N (xs (x3 + 1).toNatClampNeg) kn = some r1) (r2 : Int32 × MbS) (h2 : f_Md_exception (xs (x3 + 1).toNatClampNeg) mb = some r2) (he : r1.1 = r2.1) {H : Heap} {locs : List Loc} {ls : Array Slot} (hP : va_P (dC, dI) classes (cO cI cJ cZ a1 ++ cKn cI cJ cZ a1 kn ++ cTr cI cJ cZ a1 tr ++ cRw cI cJ cZ a1 rw ++ cLk cI cJ cZ a1 lk ++ cF0 cI cJ cZ a1 f0 ++ cF1 cI cJ cZ a1 f1 ++ cMd cI cJ cZ a2 mb mg mx mf) H) (hD : va_D (fun q : Nat => s.heap.size ≤ q) (cO cI cJ cZ a1 ++ cKn cI cJ cZ a1 kn ++ cTr cI cJ cZ a1 tr ++ cRw cI cJ cZ a1 rw ++ cLk cI cJ cZ a1 lk ++ cF0 cI cJ cZ a1 f0 ++ cF1 cI cJ cZ a1 f1 ++ cMd cI cJ cZ a2 mb mg mx mf)) (hS : va_S (fun q : Nat => s.heap.size ≤ q) s.heap H locs) (hl : lv_has ls 4 [(3, .int x3), (2, .ref (a2 0)), (1, .ref (a1 0)), (0, .ref b)])
    (next : ∀ (H : Heap) (locs : List Loc), va_P (dC, dI) classes (cO cI cJ cZ a1 ++ cKn cI cJ cZ a1 r1.2 ++ cTr cI cJ cZ a1 tr ++ cRw cI cJ cZ a1 rw ++ cLk cI cJ cZ a1 lk ++ cF0 cI cJ cZ a1 f0 ++ cF1 cI cJ cZ a1 f1 ++ cMd cI cJ cZ a2 r2.2 mg mx mf) H → va_D (fun q : Nat => s.heap.size ≤ q) (cO cI cJ cZ a1 ++ cKn cI cJ cZ a1 r1.2 ++ cTr cI cJ cZ a1 tr ++ cRw cI cJ cZ a1 rw ++ cLk cI cJ cZ a1 lk ++ cF0 cI cJ cZ a1 f0 ++ cF1 cI cJ cZ a1 f1 ++ cMd cI cJ cZ a2 r2.2 mg mx mf) → va_S (fun q : Nat => s.heap.size ≤ q) s.heap H locs → W p l e room_1 s m #[Value.ref b] below meth c H locs 56 11828 (lw_Z below #[Value.ref b] s) (F0 m 769 ls [])) : W p l e room_1 s m #[Value.ref b] below meth c H locs 56 11828 (lw_Z below #[Value.ref b] s) (F0 m 153 ls []) := by
  obtain ⟨hx, hb, hr, hml, hown, hts, hNw, hK, hX, hbl, hlocks⟩ := C0
  have hA : ∀ q : Nat, s.heap.size ≤ q → (fun q : Nat => s.heap.size ≤ q) q := fun _ h => h
  have hbA : ¬ (fun q : Nat => s.heap.size ≤ q) b := Nat.not_le.mpr hbl
  refine lv_aload_n hx hb d_Lw_law_153 rfl (lv_at hl 2 rfl) ?_
  refine lv_aload_n hx hb d_Lw_law_154 rfl (lv_at hl 3 rfl) ?_
  refine lv_iload_n hx hb d_Lw_law_155 rfl (lv_at hl 0 rfl) ?_
  refine lv_iconst (v := 1) hx hb d_Lw_law_156 (by decide) ?_
  refine lv_iadd hx hb d_Lw_law_157 ?_
  refine va_sld hx hb hX hbl hbA hS hin1 d_Lw_law_158 ?_
  refine kdV (nn := 56) (rest := []) (w' := (cO cI cJ cZ a1 ++ cKn cI cJ cZ a1 r1.2 ++ cTr cI cJ cZ a1 tr ++ cRw cI cJ cZ a1 rw ++ cLk cI cJ cZ a1 lk ++ cF0 cI cJ cZ a1 f0 ++ cF1 cI cJ cZ a1 f1 ++ cMd cI cJ cZ a2 mb mg mx mf)) (wr := (cTr cI cJ cZ a1 tr ++ cRw cI cJ cZ a1 rw ++ cLk cI cJ cZ a1 lk ++ cF0 cI cJ cZ a1 f0 ++ cF1 cI cJ cZ a1 f1 ++ cMd cI cJ cZ a2 mb mg mx mf)) (st1 := [.int r1.1]) ⟨hx, hb, hml, hown, hts⟩ (c_Rf_exception l dC dI cI cJ cZ a1 N (xs (x3 + 1).toNatClampNeg) kn r1 h1) (cwV 1 hts (gd_V tw303 tw304 tw305 tw1 tw306) rfl rfl rfl hd_Rf_exception ⟨Nat.le_of_ble_eq_true rfl, Nat.le_of_ble_eq_true rfl⟩) hNw hK hP hD hS hA (ci := 6) rfl rfl rfl [0, 1, 2, 3] [4, 5, 6, 7, 8, 9, 10, 11, 12, 13, 14, 15, 16, 17, 18, 19, 20, 21, 22, 23, 24, 25, 26, 27, 28, 29, 30, 31, 32, 33, 34, 35, 36, 37, 38, 39, 40, 41, 42, 43, 44, 45, 46, 47, 48, 49, 50, 51, 52, 53, 54, 55] rfl rfl rfl rfl rfl (by decide +kernel) (by decide +kernel) rfl hl.1 rfl (Nat.le_of_ble_eq_true rfl) rfl d_Lw_law_159 ⟨Nat.le_of_ble_eq_true rfl, Nat.le_of_ble_eq_true rfl⟩ (fun H locs hP hD hS => ?_)
  refine lv_aload_n hx hb d_Lw_law_162 rfl (lv_at hl 1 rfl) ?_
  refine lv_aload_n hx hb d_Lw_law_163 rfl (lv_at hl 3 rfl) ?_
  refine lv_iload_n hx hb d_Lw_law_164 rfl (lv_at hl 0 rfl) ?_
  refine lv_iconst (v := 1) hx hb d_Lw_law_165 (by decide) ?_
  refine lv_iadd hx hb d_Lw_law_166 ?_
  refine va_sld hx hb hX hbl hbA hS hin1 d_Lw_law_167 ?_
  refine kdV (nn := 56) (rest := [.int r1.1]) (w' := (cO cI cJ cZ a1 ++ cKn cI cJ cZ a1 r1.2 ++ cTr cI cJ cZ a1 tr ++ cRw cI cJ cZ a1 rw ++ cLk cI cJ cZ a1 lk ++ cF0 cI cJ cZ a1 f0 ++ cF1 cI cJ cZ a1 f1 ++ cMd cI cJ cZ a2 r2.2 mg mx mf)) (wr := (cO cI cJ cZ a1 ++ cKn cI cJ cZ a1 r1.2 ++ cTr cI cJ cZ a1 tr ++ cRw cI cJ cZ a1 rw ++ cLk cI cJ cZ a1 lk ++ cF0 cI cJ cZ a1 f0 ++ cF1 cI cJ cZ a1 f1)) (st1 := [.int r2.1, .int r1.1]) ⟨hx, hb, hml, hown, hts⟩ (c_Md_exception l dC dI cI cJ cZ a2 (xs (x3 + 1).toNatClampNeg) mb mg mx mf r2 h2) (cwV 1 hts (gd_V tw798 tw799 tw800 tw9 tw801) rfl rfl rfl hd_Md_exception ⟨Nat.le_of_ble_eq_true rfl, Nat.le_of_ble_eq_true rfl⟩) hNw hK hP hD hS hA (ci := 7) rfl rfl rfl [32, 33, 34, 35, 36, 37, 38, 39, 40, 41, 42, 43, 44, 45, 46, 47, 48, 49, 50, 51, 52, 53, 54, 55] [0, 1, 2, 3, 4, 5, 6, 7, 8, 9, 10, 11, 12, 13, 14, 15, 16, 17, 18, 19, 20, 21, 22, 23, 24, 25, 26, 27, 28, 29, 30, 31] rfl rfl rfl rfl rfl (by decide +kernel) (by decide +kernel) rfl hl.1 rfl (Nat.le_of_ble_eq_true rfl) rfl d_Lw_law_168 ⟨Nat.le_of_ble_eq_true rfl, Nat.le_of_ble_eq_true rfl⟩ (fun H locs hP hD hS => ?_)
  refine lv_icmp_eq (tgt := 769) hx hb d_Lw_law_171 (by decide) (fun hc => ?_) (fun hc => ?_)
  · exact next H locs hP hD hS
  · exact absurd he hc
set_option maxHeartbeats 4000000 in
set_option maxRecDepth 100000 in
theorem law_node {p : Program} {l : Launch} {e : Env} {s : State} {m : MethodId} {below : List Frame} {meth : Method} {c : Code} {b L : Nat} {xs : Nat → Int32} {dC : Nat → ClassId} {dI : Nat → Nat → Nat} {cI cJ cZ : ClassId} {a1 a2 : Nat → Nat} (C0 : LC p s m meth c b L xs dC dI cI cJ cZ) {x3 : Int32} (hin1 : vp_in (x3 + 1) L) (hin2 : vp_in (x3 + 2) L) (hin3 : vp_in (x3 + 3) L) (hin4 : vp_in (x3 + 4) L) (kn : KnS) (tr : TrS) (rw : RwS) (lk : LkS) (f0 : FlS) (f1 : FlS) (mb : MbS) (mg : MgS) (mx : MxS) (mf : MfS) (r1 : Int32 × TrS) (h1 : f_Rf_node (xs (x3 + 1).toNatClampNeg) (xs (x3 + 2).toNatClampNeg) (xs (x3 + 3).toNatClampNeg) (xs (x3 + 4).toNatClampNeg) kn tr = some r1) (r2 : Int32 × MbS × MgS) (h2 : f_Md_node (xs (x3 + 1).toNatClampNeg) (xs (x3 + 2).toNatClampNeg) (xs (x3 + 3).toNatClampNeg) (xs (x3 + 4).toNatClampNeg) mb mg = some r2) (he : r1.1 = r2.1) {H : Heap} {locs : List Loc} {ls : Array Slot} (hP : va_P (dC, dI) classes (cO cI cJ cZ a1 ++ cKn cI cJ cZ a1 kn ++ cTr cI cJ cZ a1 tr ++ cRw cI cJ cZ a1 rw ++ cLk cI cJ cZ a1 lk ++ cF0 cI cJ cZ a1 f0 ++ cF1 cI cJ cZ a1 f1 ++ cMd cI cJ cZ a2 mb mg mx mf) H) (hD : va_D (fun q : Nat => s.heap.size ≤ q) (cO cI cJ cZ a1 ++ cKn cI cJ cZ a1 kn ++ cTr cI cJ cZ a1 tr ++ cRw cI cJ cZ a1 rw ++ cLk cI cJ cZ a1 lk ++ cF0 cI cJ cZ a1 f0 ++ cF1 cI cJ cZ a1 f1 ++ cMd cI cJ cZ a2 mb mg mx mf)) (hS : va_S (fun q : Nat => s.heap.size ≤ q) s.heap H locs) (hl : lv_has ls 4 [(3, .int x3), (2, .ref (a2 0)), (1, .ref (a1 0)), (0, .ref b)])
    (next : ∀ (H : Heap) (locs : List Loc), va_P (dC, dI) classes (cO cI cJ cZ a1 ++ cKn cI cJ cZ a1 kn ++ cTr cI cJ cZ a1 r1.2 ++ cRw cI cJ cZ a1 rw ++ cLk cI cJ cZ a1 lk ++ cF0 cI cJ cZ a1 f0 ++ cF1 cI cJ cZ a1 f1 ++ cMd cI cJ cZ a2 r2.2.1 r2.2.2 mx mf) H → va_D (fun q : Nat => s.heap.size ≤ q) (cO cI cJ cZ a1 ++ cKn cI cJ cZ a1 kn ++ cTr cI cJ cZ a1 r1.2 ++ cRw cI cJ cZ a1 rw ++ cLk cI cJ cZ a1 lk ++ cF0 cI cJ cZ a1 f0 ++ cF1 cI cJ cZ a1 f1 ++ cMd cI cJ cZ a2 r2.2.1 r2.2.2 mx mf) → va_S (fun q : Nat => s.heap.size ≤ q) s.heap H locs → W p l e room_1 s m #[Value.ref b] below meth c H locs 56 11828 (lw_Z below #[Value.ref b] s) (F0 m 769 ls [])) : W p l e room_1 s m #[Value.ref b] below meth c H locs 56 11828 (lw_Z below #[Value.ref b] s) (F0 m 176 ls []) := by
  obtain ⟨hx, hb, hr, hml, hown, hts, hNw, hK, hX, hbl, hlocks⟩ := C0
  have hA : ∀ q : Nat, s.heap.size ≤ q → (fun q : Nat => s.heap.size ≤ q) q := fun _ h => h
  have hbA : ¬ (fun q : Nat => s.heap.size ≤ q) b := Nat.not_le.mpr hbl
  refine lv_aload_n hx hb d_Lw_law_176 rfl (lv_at hl 2 rfl) ?_
  refine lv_aload_n hx hb d_Lw_law_177 rfl (lv_at hl 3 rfl) ?_
  refine lv_iload_n hx hb d_Lw_law_178 rfl (lv_at hl 0 rfl) ?_
  refine lv_iconst (v := 1) hx hb d_Lw_law_179 (by decide) ?_
  refine lv_iadd hx hb d_Lw_law_180 ?_
  refine va_sld hx hb hX hbl hbA hS hin1 d_Lw_law_181 ?_
  refine lv_aload_n hx hb d_Lw_law_182 rfl (lv_at hl 3 rfl) ?_
  refine lv_iload_n hx hb d_Lw_law_183 rfl (lv_at hl 0 rfl) ?_
  refine lv_iconst (v := 2) hx hb d_Lw_law_184 (by decide) ?_
  refine lv_iadd hx hb d_Lw_law_185 ?_
  refine va_sld hx hb hX hbl hbA hS hin2 d_Lw_law_186 ?_
  refine lv_aload_n hx hb d_Lw_law_187 rfl (lv_at hl 3 rfl) ?_
  refine lv_iload_n hx hb d_Lw_law_188 rfl (lv_at hl 0 rfl) ?_
  refine lv_iconst (v := 3) hx hb d_Lw_law_189 (by decide) ?_
  refine lv_iadd hx hb d_Lw_law_190 ?_
  refine va_sld hx hb hX hbl hbA hS hin3 d_Lw_law_191 ?_
  refine lv_aload_n hx hb d_Lw_law_192 rfl (lv_at hl 3 rfl) ?_
  refine lv_iload_n hx hb d_Lw_law_193 rfl (lv_at hl 0 rfl) ?_
  refine lv_iconst (v := 4) hx hb d_Lw_law_194 (by decide) ?_
  refine lv_iadd hx hb d_Lw_law_195 ?_
  refine va_sld hx hb hX hbl hbA hS hin4 d_Lw_law_196 ?_
  refine kdV (nn := 56) (rest := []) (w' := (cO cI cJ cZ a1 ++ cKn cI cJ cZ a1 kn ++ cTr cI cJ cZ a1 r1.2 ++ cRw cI cJ cZ a1 rw ++ cLk cI cJ cZ a1 lk ++ cF0 cI cJ cZ a1 f0 ++ cF1 cI cJ cZ a1 f1 ++ cMd cI cJ cZ a2 mb mg mx mf)) (wr := (cRw cI cJ cZ a1 rw ++ cLk cI cJ cZ a1 lk ++ cF0 cI cJ cZ a1 f0 ++ cF1 cI cJ cZ a1 f1 ++ cMd cI cJ cZ a2 mb mg mx mf)) (st1 := [.int r1.1]) ⟨hx, hb, hml, hown, hts⟩ (c_Rf_node l dC dI cI cJ cZ a1 (xs (x3 + 1).toNatClampNeg) (xs (x3 + 2).toNatClampNeg) (xs (x3 + 3).toNatClampNeg) (xs (x3 + 4).toNatClampNeg) kn tr r1 h1) (cwV 4 hts (gd_V tw312 tw313 tw314 tw1 tw315) rfl rfl rfl hd_Rf_node ⟨Nat.le_of_ble_eq_true rfl, Nat.le_of_ble_eq_true rfl⟩) hNw hK hP hD hS hA (ci := 6) rfl rfl rfl [0, 1, 2, 3, 4, 5, 6, 7, 8, 9, 10, 11, 12, 13, 14] [15, 16, 17, 18, 19, 20, 21, 22, 23, 24, 25, 26, 27, 28, 29, 30, 31, 32, 33, 34, 35, 36, 37, 38, 39, 40, 41, 42, 43, 44, 45, 46, 47, 48, 49, 50, 51, 52, 53, 54, 55] rfl rfl rfl rfl rfl (by decide +kernel) (by decide +kernel) rfl hl.1 rfl (Nat.le_of_ble_eq_true rfl) rfl d_Lw_law_197 ⟨Nat.le_of_ble_eq_true rfl, Nat.le_of_ble_eq_true rfl⟩ (fun H locs hP hD hS => ?_)
  refine lv_aload_n hx hb d_Lw_law_200 rfl (lv_at hl 1 rfl) ?_
  refine lv_aload_n hx hb d_Lw_law_201 rfl (lv_at hl 3 rfl) ?_
  refine lv_iload_n hx hb d_Lw_law_202 rfl (lv_at hl 0 rfl) ?_
  refine lv_iconst (v := 1) hx hb d_Lw_law_203 (by decide) ?_
  refine lv_iadd hx hb d_Lw_law_204 ?_
  refine va_sld hx hb hX hbl hbA hS hin1 d_Lw_law_205 ?_
  refine lv_aload_n hx hb d_Lw_law_206 rfl (lv_at hl 3 rfl) ?_
  refine lv_iload_n hx hb d_Lw_law_207 rfl (lv_at hl 0 rfl) ?_
  refine lv_iconst (v := 2) hx hb d_Lw_law_208 (by decide) ?_
  refine lv_iadd hx hb d_Lw_law_209 ?_
  refine va_sld hx hb hX hbl hbA hS hin2 d_Lw_law_210 ?_
  refine lv_aload_n hx hb d_Lw_law_211 rfl (lv_at hl 3 rfl) ?_
  refine lv_iload_n hx hb d_Lw_law_212 rfl (lv_at hl 0 rfl) ?_
  refine lv_iconst (v := 3) hx hb d_Lw_law_213 (by decide) ?_
  refine lv_iadd hx hb d_Lw_law_214 ?_
  refine va_sld hx hb hX hbl hbA hS hin3 d_Lw_law_215 ?_
  refine lv_aload_n hx hb d_Lw_law_216 rfl (lv_at hl 3 rfl) ?_
  refine lv_iload_n hx hb d_Lw_law_217 rfl (lv_at hl 0 rfl) ?_
  refine lv_iconst (v := 4) hx hb d_Lw_law_218 (by decide) ?_
  refine lv_iadd hx hb d_Lw_law_219 ?_
  refine va_sld hx hb hX hbl hbA hS hin4 d_Lw_law_220 ?_
  refine kdV (nn := 56) (rest := [.int r1.1]) (w' := (cO cI cJ cZ a1 ++ cKn cI cJ cZ a1 kn ++ cTr cI cJ cZ a1 r1.2 ++ cRw cI cJ cZ a1 rw ++ cLk cI cJ cZ a1 lk ++ cF0 cI cJ cZ a1 f0 ++ cF1 cI cJ cZ a1 f1 ++ cMd cI cJ cZ a2 r2.2.1 r2.2.2 mx mf)) (wr := (cO cI cJ cZ a1 ++ cKn cI cJ cZ a1 kn ++ cTr cI cJ cZ a1 r1.2 ++ cRw cI cJ cZ a1 rw ++ cLk cI cJ cZ a1 lk ++ cF0 cI cJ cZ a1 f0 ++ cF1 cI cJ cZ a1 f1)) (st1 := [.int r2.1, .int r1.1]) ⟨hx, hb, hml, hown, hts⟩ (c_Md_node l dC dI cI cJ cZ a2 (xs (x3 + 1).toNatClampNeg) (xs (x3 + 2).toNatClampNeg) (xs (x3 + 3).toNatClampNeg) (xs (x3 + 4).toNatClampNeg) mb mg mx mf r2 h2) (cwV 4 hts (gd_V tw809 tw810 tw811 tw9 tw812) rfl rfl rfl hd_Md_node ⟨Nat.le_of_ble_eq_true rfl, Nat.le_of_ble_eq_true rfl⟩) hNw hK hP hD hS hA (ci := 7) rfl rfl rfl [32, 33, 34, 35, 36, 37, 38, 39, 40, 41, 42, 43, 44, 45, 46, 47, 48, 49, 50, 51, 52, 53, 54, 55] [0, 1, 2, 3, 4, 5, 6, 7, 8, 9, 10, 11, 12, 13, 14, 15, 16, 17, 18, 19, 20, 21, 22, 23, 24, 25, 26, 27, 28, 29, 30, 31] rfl rfl rfl rfl rfl (by decide +kernel) (by decide +kernel) rfl hl.1 rfl (Nat.le_of_ble_eq_true rfl) rfl d_Lw_law_221 ⟨Nat.le_of_ble_eq_true rfl, Nat.le_of_ble_eq_true rfl⟩ (fun H locs hP hD hS => ?_)
  refine lv_icmp_eq (tgt := 769) hx hb d_Lw_law_224 (by decide) (fun hc => ?_) (fun hc => ?_)
  · exact next H locs hP hD hS
  · exact absurd he hc
set_option maxHeartbeats 4000000 in
set_option maxRecDepth 100000 in
theorem law_jump {p : Program} {l : Launch} {e : Env} {s : State} {m : MethodId} {below : List Frame} {meth : Method} {c : Code} {b L : Nat} {xs : Nat → Int32} {dC : Nat → ClassId} {dI : Nat → Nat → Nat} {cI cJ cZ : ClassId} {a1 a2 : Nat → Nat} (C0 : LC p s m meth c b L xs dC dI cI cJ cZ) {x3 : Int32} (hin1 : vp_in (x3 + 1) L) (hin2 : vp_in (x3 + 2) L) (kn : KnS) (tr : TrS) (rw : RwS) (lk : LkS) (f0 : FlS) (f1 : FlS) (mb : MbS) (mg : MgS) (mx : MxS) (mf : MfS) (r1 : Int32 × TrS) (h1 : f_Rf_jump (xs (x3 + 1).toNatClampNeg) (xs (x3 + 2).toNatClampNeg) tr = some r1) (r2 : Int32 × MbS × MgS) (h2 : f_Md_jump (xs (x3 + 1).toNatClampNeg) (xs (x3 + 2).toNatClampNeg) mb mg = some r2) (he : r1.1 = r2.1) {H : Heap} {locs : List Loc} {ls : Array Slot} (hP : va_P (dC, dI) classes (cO cI cJ cZ a1 ++ cKn cI cJ cZ a1 kn ++ cTr cI cJ cZ a1 tr ++ cRw cI cJ cZ a1 rw ++ cLk cI cJ cZ a1 lk ++ cF0 cI cJ cZ a1 f0 ++ cF1 cI cJ cZ a1 f1 ++ cMd cI cJ cZ a2 mb mg mx mf) H) (hD : va_D (fun q : Nat => s.heap.size ≤ q) (cO cI cJ cZ a1 ++ cKn cI cJ cZ a1 kn ++ cTr cI cJ cZ a1 tr ++ cRw cI cJ cZ a1 rw ++ cLk cI cJ cZ a1 lk ++ cF0 cI cJ cZ a1 f0 ++ cF1 cI cJ cZ a1 f1 ++ cMd cI cJ cZ a2 mb mg mx mf)) (hS : va_S (fun q : Nat => s.heap.size ≤ q) s.heap H locs) (hl : lv_has ls 4 [(3, .int x3), (2, .ref (a2 0)), (1, .ref (a1 0)), (0, .ref b)])
    (next : ∀ (H : Heap) (locs : List Loc), va_P (dC, dI) classes (cO cI cJ cZ a1 ++ cKn cI cJ cZ a1 kn ++ cTr cI cJ cZ a1 r1.2 ++ cRw cI cJ cZ a1 rw ++ cLk cI cJ cZ a1 lk ++ cF0 cI cJ cZ a1 f0 ++ cF1 cI cJ cZ a1 f1 ++ cMd cI cJ cZ a2 r2.2.1 r2.2.2 mx mf) H → va_D (fun q : Nat => s.heap.size ≤ q) (cO cI cJ cZ a1 ++ cKn cI cJ cZ a1 kn ++ cTr cI cJ cZ a1 r1.2 ++ cRw cI cJ cZ a1 rw ++ cLk cI cJ cZ a1 lk ++ cF0 cI cJ cZ a1 f0 ++ cF1 cI cJ cZ a1 f1 ++ cMd cI cJ cZ a2 r2.2.1 r2.2.2 mx mf) → va_S (fun q : Nat => s.heap.size ≤ q) s.heap H locs → W p l e room_1 s m #[Value.ref b] below meth c H locs 56 11828 (lw_Z below #[Value.ref b] s) (F0 m 769 ls [])) : W p l e room_1 s m #[Value.ref b] below meth c H locs 56 11828 (lw_Z below #[Value.ref b] s) (F0 m 229 ls []) := by
  obtain ⟨hx, hb, hr, hml, hown, hts, hNw, hK, hX, hbl, hlocks⟩ := C0
  have hA : ∀ q : Nat, s.heap.size ≤ q → (fun q : Nat => s.heap.size ≤ q) q := fun _ h => h
  have hbA : ¬ (fun q : Nat => s.heap.size ≤ q) b := Nat.not_le.mpr hbl
  refine lv_aload_n hx hb d_Lw_law_229 rfl (lv_at hl 2 rfl) ?_
  refine lv_aload_n hx hb d_Lw_law_230 rfl (lv_at hl 3 rfl) ?_
  refine lv_iload_n hx hb d_Lw_law_231 rfl (lv_at hl 0 rfl) ?_
  refine lv_iconst (v := 1) hx hb d_Lw_law_232 (by decide) ?_
  refine lv_iadd hx hb d_Lw_law_233 ?_
  refine va_sld hx hb hX hbl hbA hS hin1 d_Lw_law_234 ?_
  refine lv_aload_n hx hb d_Lw_law_235 rfl (lv_at hl 3 rfl) ?_
  refine lv_iload_n hx hb d_Lw_law_236 rfl (lv_at hl 0 rfl) ?_
  refine lv_iconst (v := 2) hx hb d_Lw_law_237 (by decide) ?_
  refine lv_iadd hx hb d_Lw_law_238 ?_
  refine va_sld hx hb hX hbl hbA hS hin2 d_Lw_law_239 ?_
  refine kdV (nn := 56) (rest := []) (w' := (cO cI cJ cZ a1 ++ cKn cI cJ cZ a1 kn ++ cTr cI cJ cZ a1 r1.2 ++ cRw cI cJ cZ a1 rw ++ cLk cI cJ cZ a1 lk ++ cF0 cI cJ cZ a1 f0 ++ cF1 cI cJ cZ a1 f1 ++ cMd cI cJ cZ a2 mb mg mx mf)) (wr := (cKn cI cJ cZ a1 kn ++ cRw cI cJ cZ a1 rw ++ cLk cI cJ cZ a1 lk ++ cF0 cI cJ cZ a1 f0 ++ cF1 cI cJ cZ a1 f1 ++ cMd cI cJ cZ a2 mb mg mx mf)) (st1 := [.int r1.1]) ⟨hx, hb, hml, hown, hts⟩ (c_Rf_jump l dC dI cI cJ cZ a1 (xs (x3 + 1).toNatClampNeg) (xs (x3 + 2).toNatClampNeg) tr r1 h1) (cwV 2 hts (gd_V tw349 tw350 tw351 tw1 tw352) rfl rfl rfl hd_Rf_jump ⟨Nat.le_of_ble_eq_true rfl, Nat.le_of_ble_eq_true rfl⟩) hNw hK hP hD hS hA (ci := 6) rfl rfl rfl [0, 4, 5, 6, 7, 8, 9, 10, 11, 12, 13, 14] [1, 2, 3, 15, 16, 17, 18, 19, 20, 21, 22, 23, 24, 25, 26, 27, 28, 29, 30, 31, 32, 33, 34, 35, 36, 37, 38, 39, 40, 41, 42, 43, 44, 45, 46, 47, 48, 49, 50, 51, 52, 53, 54, 55] rfl rfl rfl rfl rfl (by decide +kernel) (by decide +kernel) rfl hl.1 rfl (Nat.le_of_ble_eq_true rfl) rfl d_Lw_law_240 ⟨Nat.le_of_ble_eq_true rfl, Nat.le_of_ble_eq_true rfl⟩ (fun H locs hP hD hS => ?_)
  refine lv_aload_n hx hb d_Lw_law_243 rfl (lv_at hl 1 rfl) ?_
  refine lv_aload_n hx hb d_Lw_law_244 rfl (lv_at hl 3 rfl) ?_
  refine lv_iload_n hx hb d_Lw_law_245 rfl (lv_at hl 0 rfl) ?_
  refine lv_iconst (v := 1) hx hb d_Lw_law_246 (by decide) ?_
  refine lv_iadd hx hb d_Lw_law_247 ?_
  refine va_sld hx hb hX hbl hbA hS hin1 d_Lw_law_248 ?_
  refine lv_aload_n hx hb d_Lw_law_249 rfl (lv_at hl 3 rfl) ?_
  refine lv_iload_n hx hb d_Lw_law_250 rfl (lv_at hl 0 rfl) ?_
  refine lv_iconst (v := 2) hx hb d_Lw_law_251 (by decide) ?_
  refine lv_iadd hx hb d_Lw_law_252 ?_
  refine va_sld hx hb hX hbl hbA hS hin2 d_Lw_law_253 ?_
  refine kdV (nn := 56) (rest := [.int r1.1]) (w' := (cO cI cJ cZ a1 ++ cKn cI cJ cZ a1 kn ++ cTr cI cJ cZ a1 r1.2 ++ cRw cI cJ cZ a1 rw ++ cLk cI cJ cZ a1 lk ++ cF0 cI cJ cZ a1 f0 ++ cF1 cI cJ cZ a1 f1 ++ cMd cI cJ cZ a2 r2.2.1 r2.2.2 mx mf)) (wr := (cO cI cJ cZ a1 ++ cKn cI cJ cZ a1 kn ++ cTr cI cJ cZ a1 r1.2 ++ cRw cI cJ cZ a1 rw ++ cLk cI cJ cZ a1 lk ++ cF0 cI cJ cZ a1 f0 ++ cF1 cI cJ cZ a1 f1)) (st1 := [.int r2.1, .int r1.1]) ⟨hx, hb, hml, hown, hts⟩ (c_Md_jump l dC dI cI cJ cZ a2 (xs (x3 + 1).toNatClampNeg) (xs (x3 + 2).toNatClampNeg) mb mg mx mf r2 h2) (cwV 2 hts (gd_V tw833 tw834 tw835 tw9 tw836) rfl rfl rfl hd_Md_jump ⟨Nat.le_of_ble_eq_true rfl, Nat.le_of_ble_eq_true rfl⟩) hNw hK hP hD hS hA (ci := 7) rfl rfl rfl [32, 33, 34, 35, 36, 37, 38, 39, 40, 41, 42, 43, 44, 45, 46, 47, 48, 49, 50, 51, 52, 53, 54, 55] [0, 1, 2, 3, 4, 5, 6, 7, 8, 9, 10, 11, 12, 13, 14, 15, 16, 17, 18, 19, 20, 21, 22, 23, 24, 25, 26, 27, 28, 29, 30, 31] rfl rfl rfl rfl rfl (by decide +kernel) (by decide +kernel) rfl hl.1 rfl (Nat.le_of_ble_eq_true rfl) rfl d_Lw_law_254 ⟨Nat.le_of_ble_eq_true rfl, Nat.le_of_ble_eq_true rfl⟩ (fun H locs hP hD hS => ?_)
  refine lv_icmp_eq (tgt := 769) hx hb d_Lw_law_257 (by decide) (fun hc => ?_) (fun hc => ?_)
  · exact next H locs hP hD hS
  · exact absurd he hc
set_option maxHeartbeats 4000000 in
set_option maxRecDepth 100000 in
theorem law_label {p : Program} {l : Launch} {e : Env} {s : State} {m : MethodId} {below : List Frame} {meth : Method} {c : Code} {b L : Nat} {xs : Nat → Int32} {dC : Nat → ClassId} {dI : Nat → Nat → Nat} {cI cJ cZ : ClassId} {a1 a2 : Nat → Nat} (C0 : LC p s m meth c b L xs dC dI cI cJ cZ) {x3 : Int32} (hin1 : vp_in (x3 + 1) L) (hin2 : vp_in (x3 + 2) L) (kn : KnS) (tr : TrS) (rw : RwS) (lk : LkS) (f0 : FlS) (f1 : FlS) (mb : MbS) (mg : MgS) (mx : MxS) (mf : MfS) (r1 : Int32 × TrS) (h1 : f_Rf_label (xs (x3 + 1).toNatClampNeg) (xs (x3 + 2).toNatClampNeg) tr = some r1) (r2 : Int32 × MbS × MgS) (h2 : f_Md_label (xs (x3 + 1).toNatClampNeg) (xs (x3 + 2).toNatClampNeg) mb mg = some r2) (he : r1.1 = r2.1) {H : Heap} {locs : List Loc} {ls : Array Slot} (hP : va_P (dC, dI) classes (cO cI cJ cZ a1 ++ cKn cI cJ cZ a1 kn ++ cTr cI cJ cZ a1 tr ++ cRw cI cJ cZ a1 rw ++ cLk cI cJ cZ a1 lk ++ cF0 cI cJ cZ a1 f0 ++ cF1 cI cJ cZ a1 f1 ++ cMd cI cJ cZ a2 mb mg mx mf) H) (hD : va_D (fun q : Nat => s.heap.size ≤ q) (cO cI cJ cZ a1 ++ cKn cI cJ cZ a1 kn ++ cTr cI cJ cZ a1 tr ++ cRw cI cJ cZ a1 rw ++ cLk cI cJ cZ a1 lk ++ cF0 cI cJ cZ a1 f0 ++ cF1 cI cJ cZ a1 f1 ++ cMd cI cJ cZ a2 mb mg mx mf)) (hS : va_S (fun q : Nat => s.heap.size ≤ q) s.heap H locs) (hl : lv_has ls 4 [(3, .int x3), (2, .ref (a2 0)), (1, .ref (a1 0)), (0, .ref b)])
    (next : ∀ (H : Heap) (locs : List Loc), va_P (dC, dI) classes (cO cI cJ cZ a1 ++ cKn cI cJ cZ a1 kn ++ cTr cI cJ cZ a1 r1.2 ++ cRw cI cJ cZ a1 rw ++ cLk cI cJ cZ a1 lk ++ cF0 cI cJ cZ a1 f0 ++ cF1 cI cJ cZ a1 f1 ++ cMd cI cJ cZ a2 r2.2.1 r2.2.2 mx mf) H → va_D (fun q : Nat => s.heap.size ≤ q) (cO cI cJ cZ a1 ++ cKn cI cJ cZ a1 kn ++ cTr cI cJ cZ a1 r1.2 ++ cRw cI cJ cZ a1 rw ++ cLk cI cJ cZ a1 lk ++ cF0 cI cJ cZ a1 f0 ++ cF1 cI cJ cZ a1 f1 ++ cMd cI cJ cZ a2 r2.2.1 r2.2.2 mx mf) → va_S (fun q : Nat => s.heap.size ≤ q) s.heap H locs → W p l e room_1 s m #[Value.ref b] below meth c H locs 56 11828 (lw_Z below #[Value.ref b] s) (F0 m 769 ls [])) : W p l e room_1 s m #[Value.ref b] below meth c H locs 56 11828 (lw_Z below #[Value.ref b] s) (F0 m 262 ls []) := by
  obtain ⟨hx, hb, hr, hml, hown, hts, hNw, hK, hX, hbl, hlocks⟩ := C0
  have hA : ∀ q : Nat, s.heap.size ≤ q → (fun q : Nat => s.heap.size ≤ q) q := fun _ h => h
  have hbA : ¬ (fun q : Nat => s.heap.size ≤ q) b := Nat.not_le.mpr hbl
  refine lv_aload_n hx hb d_Lw_law_262 rfl (lv_at hl 2 rfl) ?_
  refine lv_aload_n hx hb d_Lw_law_263 rfl (lv_at hl 3 rfl) ?_
  refine lv_iload_n hx hb d_Lw_law_264 rfl (lv_at hl 0 rfl) ?_
  refine lv_iconst (v := 1) hx hb d_Lw_law_265 (by decide) ?_
  refine lv_iadd hx hb d_Lw_law_266 ?_
  refine va_sld hx hb hX hbl hbA hS hin1 d_Lw_law_267 ?_
  refine lv_aload_n hx hb d_Lw_law_268 rfl (lv_at hl 3 rfl) ?_
  refine lv_iload_n hx hb d_Lw_law_269 rfl (lv_at hl 0 rfl) ?_
  refine lv_iconst (v := 2) hx hb d_Lw_law_270 (by decide) ?_
  refine lv_iadd hx hb d_Lw_law_271 ?_
  refine va_sld hx hb hX hbl hbA hS hin2 d_Lw_law_272 ?_
  refine kdV (nn := 56) (rest := []) (w' := (cO cI cJ cZ a1 ++ cKn cI cJ cZ a1 kn ++ cTr cI cJ cZ a1 r1.2 ++ cRw cI cJ cZ a1 rw ++ cLk cI cJ cZ a1 lk ++ cF0 cI cJ cZ a1 f0 ++ cF1 cI cJ cZ a1 f1 ++ cMd cI cJ cZ a2 mb mg mx mf)) (wr := (cKn cI cJ cZ a1 kn ++ cRw cI cJ cZ a1 rw ++ cLk cI cJ cZ a1 lk ++ cF0 cI cJ cZ a1 f0 ++ cF1 cI cJ cZ a1 f1 ++ cMd cI cJ cZ a2 mb mg mx mf)) (st1 := [.int r1.1]) ⟨hx, hb, hml, hown, hts⟩ (c_Rf_label l dC dI cI cJ cZ a1 (xs (x3 + 1).toNatClampNeg) (xs (x3 + 2).toNatClampNeg) tr r1 h1) (cwV 2 hts (gd_V tw356 tw357 tw358 tw1 tw359) rfl rfl rfl hd_Rf_label ⟨Nat.le_of_ble_eq_true rfl, Nat.le_of_ble_eq_true rfl⟩) hNw hK hP hD hS hA (ci := 6) rfl rfl rfl [0, 4, 5, 6, 7, 8, 9, 10, 11, 12, 13, 14] [1, 2, 3, 15, 16, 17, 18, 19, 20, 21, 22, 23, 24, 25, 26, 27, 28, 29, 30, 31, 32, 33, 34, 35, 36, 37, 38, 39, 40, 41, 42, 43, 44, 45, 46, 47, 48, 49, 50, 51, 52, 53, 54, 55] rfl rfl rfl rfl rfl (by decide +kernel) (by decide +kernel) rfl hl.1 rfl (Nat.le_of_ble_eq_true rfl) rfl d_Lw_law_273 ⟨Nat.le_of_ble_eq_true rfl, Nat.le_of_ble_eq_true rfl⟩ (fun H locs hP hD hS => ?_)
  refine lv_aload_n hx hb d_Lw_law_276 rfl (lv_at hl 1 rfl) ?_
  refine lv_aload_n hx hb d_Lw_law_277 rfl (lv_at hl 3 rfl) ?_
  refine lv_iload_n hx hb d_Lw_law_278 rfl (lv_at hl 0 rfl) ?_
  refine lv_iconst (v := 1) hx hb d_Lw_law_279 (by decide) ?_
  refine lv_iadd hx hb d_Lw_law_280 ?_
  refine va_sld hx hb hX hbl hbA hS hin1 d_Lw_law_281 ?_
  refine lv_aload_n hx hb d_Lw_law_282 rfl (lv_at hl 3 rfl) ?_
  refine lv_iload_n hx hb d_Lw_law_283 rfl (lv_at hl 0 rfl) ?_
  refine lv_iconst (v := 2) hx hb d_Lw_law_284 (by decide) ?_
  refine lv_iadd hx hb d_Lw_law_285 ?_
  refine va_sld hx hb hX hbl hbA hS hin2 d_Lw_law_286 ?_
  refine kdV (nn := 56) (rest := [.int r1.1]) (w' := (cO cI cJ cZ a1 ++ cKn cI cJ cZ a1 kn ++ cTr cI cJ cZ a1 r1.2 ++ cRw cI cJ cZ a1 rw ++ cLk cI cJ cZ a1 lk ++ cF0 cI cJ cZ a1 f0 ++ cF1 cI cJ cZ a1 f1 ++ cMd cI cJ cZ a2 r2.2.1 r2.2.2 mx mf)) (wr := (cO cI cJ cZ a1 ++ cKn cI cJ cZ a1 kn ++ cTr cI cJ cZ a1 r1.2 ++ cRw cI cJ cZ a1 rw ++ cLk cI cJ cZ a1 lk ++ cF0 cI cJ cZ a1 f0 ++ cF1 cI cJ cZ a1 f1)) (st1 := [.int r2.1, .int r1.1]) ⟨hx, hb, hml, hown, hts⟩ (c_Md_label l dC dI cI cJ cZ a2 (xs (x3 + 1).toNatClampNeg) (xs (x3 + 2).toNatClampNeg) mb mg mx mf r2 h2) (cwV 2 hts (gd_V tw837 tw838 tw839 tw9 tw840) rfl rfl rfl hd_Md_label ⟨Nat.le_of_ble_eq_true rfl, Nat.le_of_ble_eq_true rfl⟩) hNw hK hP hD hS hA (ci := 7) rfl rfl rfl [32, 33, 34, 35, 36, 37, 38, 39, 40, 41, 42, 43, 44, 45, 46, 47, 48, 49, 50, 51, 52, 53, 54, 55] [0, 1, 2, 3, 4, 5, 6, 7, 8, 9, 10, 11, 12, 13, 14, 15, 16, 17, 18, 19, 20, 21, 22, 23, 24, 25, 26, 27, 28, 29, 30, 31] rfl rfl rfl rfl rfl (by decide +kernel) (by decide +kernel) rfl hl.1 rfl (Nat.le_of_ble_eq_true rfl) rfl d_Lw_law_287 ⟨Nat.le_of_ble_eq_true rfl, Nat.le_of_ble_eq_true rfl⟩ (fun H locs hP hD hS => ?_)
  refine lv_icmp_eq (tgt := 769) hx hb d_Lw_law_290 (by decide) (fun hc => ?_) (fun hc => ?_)
  · exact next H locs hP hD hS
  · exact absurd he hc
set_option maxHeartbeats 4000000 in
set_option maxRecDepth 100000 in
theorem law_row {p : Program} {l : Launch} {e : Env} {s : State} {m : MethodId} {below : List Frame} {meth : Method} {c : Code} {b L : Nat} {xs : Nat → Int32} {dC : Nat → ClassId} {dI : Nat → Nat → Nat} {cI cJ cZ : ClassId} {a1 a2 : Nat → Nat} (C0 : LC p s m meth c b L xs dC dI cI cJ cZ) {x3 : Int32} (hin1 : vp_in (x3 + 1) L) (kn : KnS) (tr : TrS) (rw : RwS) (lk : LkS) (f0 : FlS) (f1 : FlS) (mb : MbS) (mg : MgS) (mx : MxS) (mf : MfS) (r1 : Int32 × RwS) (h1 : f_Rf_row (xs (x3 + 1).toNatClampNeg) rw = some r1) (r2 : Int32 × MbS) (h2 : f_Md_row (xs (x3 + 1).toNatClampNeg) mb = some r2) (he : r1.1 = r2.1) {H : Heap} {locs : List Loc} {ls : Array Slot} (hP : va_P (dC, dI) classes (cO cI cJ cZ a1 ++ cKn cI cJ cZ a1 kn ++ cTr cI cJ cZ a1 tr ++ cRw cI cJ cZ a1 rw ++ cLk cI cJ cZ a1 lk ++ cF0 cI cJ cZ a1 f0 ++ cF1 cI cJ cZ a1 f1 ++ cMd cI cJ cZ a2 mb mg mx mf) H) (hD : va_D (fun q : Nat => s.heap.size ≤ q) (cO cI cJ cZ a1 ++ cKn cI cJ cZ a1 kn ++ cTr cI cJ cZ a1 tr ++ cRw cI cJ cZ a1 rw ++ cLk cI cJ cZ a1 lk ++ cF0 cI cJ cZ a1 f0 ++ cF1 cI cJ cZ a1 f1 ++ cMd cI cJ cZ a2 mb mg mx mf)) (hS : va_S (fun q : Nat => s.heap.size ≤ q) s.heap H locs) (hl : lv_has ls 4 [(3, .int x3), (2, .ref (a2 0)), (1, .ref (a1 0)), (0, .ref b)])
    (next : ∀ (H : Heap) (locs : List Loc), va_P (dC, dI) classes (cO cI cJ cZ a1 ++ cKn cI cJ cZ a1 kn ++ cTr cI cJ cZ a1 tr ++ cRw cI cJ cZ a1 r1.2 ++ cLk cI cJ cZ a1 lk ++ cF0 cI cJ cZ a1 f0 ++ cF1 cI cJ cZ a1 f1 ++ cMd cI cJ cZ a2 r2.2 mg mx mf) H → va_D (fun q : Nat => s.heap.size ≤ q) (cO cI cJ cZ a1 ++ cKn cI cJ cZ a1 kn ++ cTr cI cJ cZ a1 tr ++ cRw cI cJ cZ a1 r1.2 ++ cLk cI cJ cZ a1 lk ++ cF0 cI cJ cZ a1 f0 ++ cF1 cI cJ cZ a1 f1 ++ cMd cI cJ cZ a2 r2.2 mg mx mf) → va_S (fun q : Nat => s.heap.size ≤ q) s.heap H locs → W p l e room_1 s m #[Value.ref b] below meth c H locs 56 11828 (lw_Z below #[Value.ref b] s) (F0 m 769 ls [])) : W p l e room_1 s m #[Value.ref b] below meth c H locs 56 11828 (lw_Z below #[Value.ref b] s) (F0 m 295 ls []) := by
  obtain ⟨hx, hb, hr, hml, hown, hts, hNw, hK, hX, hbl, hlocks⟩ := C0
  have hA : ∀ q : Nat, s.heap.size ≤ q → (fun q : Nat => s.heap.size ≤ q) q := fun _ h => h
  have hbA : ¬ (fun q : Nat => s.heap.size ≤ q) b := Nat.not_le.mpr hbl
  refine lv_aload_n hx hb d_Lw_law_295 rfl (lv_at hl 2 rfl) ?_
  refine lv_aload_n hx hb d_Lw_law_296 rfl (lv_at hl 3 rfl) ?_
  refine lv_iload_n hx hb d_Lw_law_297 rfl (lv_at hl 0 rfl) ?_
  refine lv_iconst (v := 1) hx hb d_Lw_law_298 (by decide) ?_
  refine lv_iadd hx hb d_Lw_law_299 ?_
  refine va_sld hx hb hX hbl hbA hS hin1 d_Lw_law_300 ?_
  refine kdV (nn := 56) (rest := []) (w' := (cO cI cJ cZ a1 ++ cKn cI cJ cZ a1 kn ++ cTr cI cJ cZ a1 tr ++ cRw cI cJ cZ a1 r1.2 ++ cLk cI cJ cZ a1 lk ++ cF0 cI cJ cZ a1 f0 ++ cF1 cI cJ cZ a1 f1 ++ cMd cI cJ cZ a2 mb mg mx mf)) (wr := (cKn cI cJ cZ a1 kn ++ cTr cI cJ cZ a1 tr ++ cLk cI cJ cZ a1 lk ++ cF0 cI cJ cZ a1 f0 ++ cF1 cI cJ cZ a1 f1 ++ cMd cI cJ cZ a2 mb mg mx mf)) (st1 := [.int r1.1]) ⟨hx, hb, hml, hown, hts⟩ (c_Rf_row l dC dI cI cJ cZ a1 (xs (x3 + 1).toNatClampNeg) rw r1 h1) (cwV 1 hts (gd_V tw360 tw361 tw362 tw1 tw363) rfl rfl rfl hd_Rf_row ⟨Nat.le_of_ble_eq_true rfl, Nat.le_of_ble_eq_true rfl⟩) hNw hK hP hD hS hA (ci := 6) rfl rfl rfl [0, 15, 16] [1, 2, 3, 4, 5, 6, 7, 8, 9, 10, 11, 12, 13, 14, 17, 18, 19, 20, 21, 22, 23, 24, 25, 26, 27, 28, 29, 30, 31, 32, 33, 34, 35, 36, 37, 38, 39, 40, 41, 42, 43, 44, 45, 46, 47, 48, 49, 50, 51, 52, 53, 54, 55] rfl rfl rfl rfl rfl (by decide +kernel) (by decide +kernel) rfl hl.1 rfl (Nat.le_of_ble_eq_true rfl) rfl d_Lw_law_301 ⟨Nat.le_of_ble_eq_true rfl, Nat.le_of_ble_eq_true rfl⟩ (fun H locs hP hD hS => ?_)
  refine lv_aload_n hx hb d_Lw_law_304 rfl (lv_at hl 1 rfl) ?_
  refine lv_aload_n hx hb d_Lw_law_305 rfl (lv_at hl 3 rfl) ?_
  refine lv_iload_n hx hb d_Lw_law_306 rfl (lv_at hl 0 rfl) ?_
  refine lv_iconst (v := 1) hx hb d_Lw_law_307 (by decide) ?_
  refine lv_iadd hx hb d_Lw_law_308 ?_
  refine va_sld hx hb hX hbl hbA hS hin1 d_Lw_law_309 ?_
  refine kdV (nn := 56) (rest := [.int r1.1]) (w' := (cO cI cJ cZ a1 ++ cKn cI cJ cZ a1 kn ++ cTr cI cJ cZ a1 tr ++ cRw cI cJ cZ a1 r1.2 ++ cLk cI cJ cZ a1 lk ++ cF0 cI cJ cZ a1 f0 ++ cF1 cI cJ cZ a1 f1 ++ cMd cI cJ cZ a2 r2.2 mg mx mf)) (wr := (cO cI cJ cZ a1 ++ cKn cI cJ cZ a1 kn ++ cTr cI cJ cZ a1 tr ++ cRw cI cJ cZ a1 r1.2 ++ cLk cI cJ cZ a1 lk ++ cF0 cI cJ cZ a1 f0 ++ cF1 cI cJ cZ a1 f1)) (st1 := [.int r2.1, .int r1.1]) ⟨hx, hb, hml, hown, hts⟩ (c_Md_row l dC dI cI cJ cZ a2 (xs (x3 + 1).toNatClampNeg) mb mg mx mf r2 h2) (cwV 1 hts (gd_V tw841 tw842 tw843 tw9 tw844) rfl rfl rfl hd_Md_row ⟨Nat.le_of_ble_eq_true rfl, Nat.le_of_ble_eq_true rfl⟩) hNw hK hP hD hS hA (ci := 7) rfl rfl rfl [32, 33, 34, 35, 36, 37, 38, 39, 40, 41, 42, 43, 44, 45, 46, 47, 48, 49, 50, 51, 52, 53, 54, 55] [0, 1, 2, 3, 4, 5, 6, 7, 8, 9, 10, 11, 12, 13, 14, 15, 16, 17, 18, 19, 20, 21, 22, 23, 24, 25, 26, 27, 28, 29, 30, 31] rfl rfl rfl rfl rfl (by decide +kernel) (by decide +kernel) rfl hl.1 rfl (Nat.le_of_ble_eq_true rfl) rfl d_Lw_law_310 ⟨Nat.le_of_ble_eq_true rfl, Nat.le_of_ble_eq_true rfl⟩ (fun H locs hP hD hS => ?_)
  refine lv_icmp_eq (tgt := 769) hx hb d_Lw_law_313 (by decide) (fun hc => ?_) (fun hc => ?_)
  · exact next H locs hP hD hS
  · exact absurd he hc
set_option maxHeartbeats 4000000 in
set_option maxRecDepth 100000 in
theorem law_put {p : Program} {l : Launch} {e : Env} {s : State} {m : MethodId} {below : List Frame} {meth : Method} {c : Code} {b L : Nat} {xs : Nat → Int32} {dC : Nat → ClassId} {dI : Nat → Nat → Nat} {cI cJ cZ : ClassId} {a1 a2 : Nat → Nat} (C0 : LC p s m meth c b L xs dC dI cI cJ cZ) {x3 : Int32} (hin1 : vp_in (x3 + 1) L) (hin2 : vp_in (x3 + 2) L) (N : Nat) (kn : KnS) (tr : TrS) (rw : RwS) (lk : LkS) (f0 : FlS) (f1 : FlS) (mb : MbS) (mg : MgS) (mx : MxS) (mf : MfS) (r1 : Int32 × TrS × RwS) (h1 : f_Rf_put (xs (x3 + 1).toNatClampNeg) (xs (x3 + 2).toNatClampNeg) kn tr rw = some r1) (r2 : Int32 × MbS) (h2 : f_Md_put N (xs (x3 + 1).toNatClampNeg) (xs (x3 + 2).toNatClampNeg) mb = some r2) (he : r1.1 = r2.1) {H : Heap} {locs : List Loc} {ls : Array Slot} (hP : va_P (dC, dI) classes (cO cI cJ cZ a1 ++ cKn cI cJ cZ a1 kn ++ cTr cI cJ cZ a1 tr ++ cRw cI cJ cZ a1 rw ++ cLk cI cJ cZ a1 lk ++ cF0 cI cJ cZ a1 f0 ++ cF1 cI cJ cZ a1 f1 ++ cMd cI cJ cZ a2 mb mg mx mf) H) (hD : va_D (fun q : Nat => s.heap.size ≤ q) (cO cI cJ cZ a1 ++ cKn cI cJ cZ a1 kn ++ cTr cI cJ cZ a1 tr ++ cRw cI cJ cZ a1 rw ++ cLk cI cJ cZ a1 lk ++ cF0 cI cJ cZ a1 f0 ++ cF1 cI cJ cZ a1 f1 ++ cMd cI cJ cZ a2 mb mg mx mf)) (hS : va_S (fun q : Nat => s.heap.size ≤ q) s.heap H locs) (hl : lv_has ls 4 [(3, .int x3), (2, .ref (a2 0)), (1, .ref (a1 0)), (0, .ref b)])
    (next : ∀ (H : Heap) (locs : List Loc), va_P (dC, dI) classes (cO cI cJ cZ a1 ++ cKn cI cJ cZ a1 kn ++ cTr cI cJ cZ a1 r1.2.1 ++ cRw cI cJ cZ a1 r1.2.2 ++ cLk cI cJ cZ a1 lk ++ cF0 cI cJ cZ a1 f0 ++ cF1 cI cJ cZ a1 f1 ++ cMd cI cJ cZ a2 r2.2 mg mx mf) H → va_D (fun q : Nat => s.heap.size ≤ q) (cO cI cJ cZ a1 ++ cKn cI cJ cZ a1 kn ++ cTr cI cJ cZ a1 r1.2.1 ++ cRw cI cJ cZ a1 r1.2.2 ++ cLk cI cJ cZ a1 lk ++ cF0 cI cJ cZ a1 f0 ++ cF1 cI cJ cZ a1 f1 ++ cMd cI cJ cZ a2 r2.2 mg mx mf) → va_S (fun q : Nat => s.heap.size ≤ q) s.heap H locs → W p l e room_1 s m #[Value.ref b] below meth c H locs 56 11828 (lw_Z below #[Value.ref b] s) (F0 m 769 ls [])) : W p l e room_1 s m #[Value.ref b] below meth c H locs 56 11828 (lw_Z below #[Value.ref b] s) (F0 m 318 ls []) := by
  obtain ⟨hx, hb, hr, hml, hown, hts, hNw, hK, hX, hbl, hlocks⟩ := C0
  have hA : ∀ q : Nat, s.heap.size ≤ q → (fun q : Nat => s.heap.size ≤ q) q := fun _ h => h
  have hbA : ¬ (fun q : Nat => s.heap.size ≤ q) b := Nat.not_le.mpr hbl
  refine lv_aload_n hx hb d_Lw_law_318 rfl (lv_at hl 2 rfl) ?_
  refine lv_aload_n hx hb d_Lw_law_319 rfl (lv_at hl 3 rfl) ?_
  refine lv_iload_n hx hb d_Lw_law_320 rfl (lv_at hl 0 rfl) ?_
  refine lv_iconst (v := 1) hx hb d_Lw_law_321 (by decide) ?_
  refine lv_iadd hx hb d_Lw_law_322 ?_
  refine va_sld hx hb hX hbl hbA hS hin1 d_Lw_law_323 ?_
  refine lv_aload_n hx hb d_Lw_law_324 rfl (lv_at hl 3 rfl) ?_
  refine lv_iload_n hx hb d_Lw_law_325 rfl (lv_at hl 0 rfl) ?_
  refine lv_iconst (v := 2) hx hb d_Lw_law_326 (by decide) ?_
  refine lv_iadd hx hb d_Lw_law_327 ?_
  refine va_sld hx hb hX hbl hbA hS hin2 d_Lw_law_328 ?_
  refine kdV (nn := 56) (rest := []) (w' := (cO cI cJ cZ a1 ++ cKn cI cJ cZ a1 kn ++ cTr cI cJ cZ a1 r1.2.1 ++ cRw cI cJ cZ a1 r1.2.2 ++ cLk cI cJ cZ a1 lk ++ cF0 cI cJ cZ a1 f0 ++ cF1 cI cJ cZ a1 f1 ++ cMd cI cJ cZ a2 mb mg mx mf)) (wr := (cLk cI cJ cZ a1 lk ++ cF0 cI cJ cZ a1 f0 ++ cF1 cI cJ cZ a1 f1 ++ cMd cI cJ cZ a2 mb mg mx mf)) (st1 := [.int r1.1]) ⟨hx, hb, hml, hown, hts⟩ (c_Rf_put l dC dI cI cJ cZ a1 (xs (x3 + 1).toNatClampNeg) (xs (x3 + 2).toNatClampNeg) kn tr rw r1 h1) (cwV 2 hts (gd_V tw372 tw373 tw374 tw1 tw375) rfl rfl rfl hd_Rf_put ⟨Nat.le_of_ble_eq_true rfl, Nat.le_of_ble_eq_true rfl⟩) hNw hK hP hD hS hA (ci := 6) rfl rfl rfl [0, 1, 2, 3, 4, 5, 6, 7, 8, 9, 10, 11, 12, 13, 14, 15, 16] [17, 18, 19, 20, 21, 22, 23, 24, 25, 26, 27, 28, 29, 30, 31, 32, 33, 34, 35, 36, 37, 38, 39, 40, 41, 42, 43, 44, 45, 46, 47, 48, 49, 50, 51, 52, 53, 54, 55] rfl rfl rfl rfl rfl (by decide +kernel) (by decide +kernel) rfl hl.1 rfl (Nat.le_of_ble_eq_true rfl) rfl d_Lw_law_329 ⟨Nat.le_of_ble_eq_true rfl, Nat.le_of_ble_eq_true rfl⟩ (fun H locs hP hD hS => ?_)
  refine lv_aload_n hx hb d_Lw_law_332 rfl (lv_at hl 1 rfl) ?_
  refine lv_aload_n hx hb d_Lw_law_333 rfl (lv_at hl 3 rfl) ?_
  refine lv_iload_n hx hb d_Lw_law_334 rfl (lv_at hl 0 rfl) ?_
  refine lv_iconst (v := 1) hx hb d_Lw_law_335 (by decide) ?_
  refine lv_iadd hx hb d_Lw_law_336 ?_
  refine va_sld hx hb hX hbl hbA hS hin1 d_Lw_law_337 ?_
  refine lv_aload_n hx hb d_Lw_law_338 rfl (lv_at hl 3 rfl) ?_
  refine lv_iload_n hx hb d_Lw_law_339 rfl (lv_at hl 0 rfl) ?_
  refine lv_iconst (v := 2) hx hb d_Lw_law_340 (by decide) ?_
  refine lv_iadd hx hb d_Lw_law_341 ?_
  refine va_sld hx hb hX hbl hbA hS hin2 d_Lw_law_342 ?_
  refine kdV (nn := 56) (rest := [.int r1.1]) (w' := (cO cI cJ cZ a1 ++ cKn cI cJ cZ a1 kn ++ cTr cI cJ cZ a1 r1.2.1 ++ cRw cI cJ cZ a1 r1.2.2 ++ cLk cI cJ cZ a1 lk ++ cF0 cI cJ cZ a1 f0 ++ cF1 cI cJ cZ a1 f1 ++ cMd cI cJ cZ a2 r2.2 mg mx mf)) (wr := (cO cI cJ cZ a1 ++ cKn cI cJ cZ a1 kn ++ cTr cI cJ cZ a1 r1.2.1 ++ cRw cI cJ cZ a1 r1.2.2 ++ cLk cI cJ cZ a1 lk ++ cF0 cI cJ cZ a1 f0 ++ cF1 cI cJ cZ a1 f1)) (st1 := [.int r2.1, .int r1.1]) ⟨hx, hb, hml, hown, hts⟩ (c_Md_put l dC dI cI cJ cZ a2 N (xs (x3 + 1).toNatClampNeg) (xs (x3 + 2).toNatClampNeg) mb mg mx mf r2 h2) (cwV 2 hts (gd_V tw845 tw846 tw847 tw9 tw848) rfl rfl rfl hd_Md_put ⟨Nat.le_of_ble_eq_true rfl, Nat.le_of_ble_eq_true rfl⟩) hNw hK hP hD hS hA (ci := 7) rfl rfl rfl [32, 33, 34, 35, 36, 37, 38, 39, 40, 41, 42, 43, 44, 45, 46, 47, 48, 49, 50, 51, 52, 53, 54, 55] [0, 1, 2, 3, 4, 5, 6, 7, 8, 9, 10, 11, 12, 13, 14, 15, 16, 17, 18, 19, 20, 21, 22, 23, 24, 25, 26, 27, 28, 29, 30, 31] rfl rfl rfl rfl rfl (by decide +kernel) (by decide +kernel) rfl hl.1 rfl (Nat.le_of_ble_eq_true rfl) rfl d_Lw_law_343 ⟨Nat.le_of_ble_eq_true rfl, Nat.le_of_ble_eq_true rfl⟩ (fun H locs hP hD hS => ?_)
  refine lv_icmp_eq (tgt := 769) hx hb d_Lw_law_346 (by decide) (fun hc => ?_) (fun hc => ?_)
  · exact next H locs hP hD hS
  · exact absurd he hc
set_option maxHeartbeats 4000000 in
set_option maxRecDepth 100000 in
theorem law_end {p : Program} {l : Launch} {e : Env} {s : State} {m : MethodId} {below : List Frame} {meth : Method} {c : Code} {b L : Nat} {xs : Nat → Int32} {dC : Nat → ClassId} {dI : Nat → Nat → Nat} {cI cJ cZ : ClassId} {a1 a2 : Nat → Nat} (C0 : LC p s m meth c b L xs dC dI cI cJ cZ) {x3 : Int32} (hin1 : vp_in (x3 + 1) L) (N : Nat) (kn : KnS) (tr : TrS) (rw : RwS) (lk : LkS) (f0 : FlS) (f1 : FlS) (mb : MbS) (mg : MgS) (mx : MxS) (mf : MfS) (r1 : Int32 × TrS × RwS) (h1 : f_Rf_end N (xs (x3 + 1).toNatClampNeg) tr rw = some r1) (r2 : Int32 × MbS × MgS) (h2 : f_Md_end N (xs (x3 + 1).toNatClampNeg) mb mg = some r2) (he : r1.1 = r2.1) {H : Heap} {locs : List Loc} {ls : Array Slot} (hP : va_P (dC, dI) classes (cO cI cJ cZ a1 ++ cKn cI cJ cZ a1 kn ++ cTr cI cJ cZ a1 tr ++ cRw cI cJ cZ a1 rw ++ cLk cI cJ cZ a1 lk ++ cF0 cI cJ cZ a1 f0 ++ cF1 cI cJ cZ a1 f1 ++ cMd cI cJ cZ a2 mb mg mx mf) H) (hD : va_D (fun q : Nat => s.heap.size ≤ q) (cO cI cJ cZ a1 ++ cKn cI cJ cZ a1 kn ++ cTr cI cJ cZ a1 tr ++ cRw cI cJ cZ a1 rw ++ cLk cI cJ cZ a1 lk ++ cF0 cI cJ cZ a1 f0 ++ cF1 cI cJ cZ a1 f1 ++ cMd cI cJ cZ a2 mb mg mx mf)) (hS : va_S (fun q : Nat => s.heap.size ≤ q) s.heap H locs) (hl : lv_has ls 4 [(3, .int x3), (2, .ref (a2 0)), (1, .ref (a1 0)), (0, .ref b)])
    (next : ∀ (H : Heap) (locs : List Loc), va_P (dC, dI) classes (cO cI cJ cZ a1 ++ cKn cI cJ cZ a1 kn ++ cTr cI cJ cZ a1 r1.2.1 ++ cRw cI cJ cZ a1 r1.2.2 ++ cLk cI cJ cZ a1 lk ++ cF0 cI cJ cZ a1 f0 ++ cF1 cI cJ cZ a1 f1 ++ cMd cI cJ cZ a2 r2.2.1 r2.2.2 mx mf) H → va_D (fun q : Nat => s.heap.size ≤ q) (cO cI cJ cZ a1 ++ cKn cI cJ cZ a1 kn ++ cTr cI cJ cZ a1 r1.2.1 ++ cRw cI cJ cZ a1 r1.2.2 ++ cLk cI cJ cZ a1 lk ++ cF0 cI cJ cZ a1 f0 ++ cF1 cI cJ cZ a1 f1 ++ cMd cI cJ cZ a2 r2.2.1 r2.2.2 mx mf) → va_S (fun q : Nat => s.heap.size ≤ q) s.heap H locs → W p l e room_1 s m #[Value.ref b] below meth c H locs 56 11828 (lw_Z below #[Value.ref b] s) (F0 m 769 ls [])) : W p l e room_1 s m #[Value.ref b] below meth c H locs 56 11828 (lw_Z below #[Value.ref b] s) (F0 m 351 ls []) := by
  obtain ⟨hx, hb, hr, hml, hown, hts, hNw, hK, hX, hbl, hlocks⟩ := C0
  have hA : ∀ q : Nat, s.heap.size ≤ q → (fun q : Nat => s.heap.size ≤ q) q := fun _ h => h
  have hbA : ¬ (fun q : Nat => s.heap.size ≤ q) b := Nat.not_le.mpr hbl
  refine lv_aload_n hx hb d_Lw_law_351 rfl (lv_at hl 2 rfl) ?_
  refine lv_aload_n hx hb d_Lw_law_352 rfl (lv_at hl 3 rfl) ?_
  refine lv_iload_n hx hb d_Lw_law_353 rfl (lv_at hl 0 rfl) ?_
  refine lv_iconst (v := 1) hx hb d_Lw_law_354 (by decide) ?_
  refine lv_iadd hx hb d_Lw_law_355 ?_
  refine va_sld hx hb hX hbl hbA hS hin1 d_Lw_law_356 ?_
  refine kdV (nn := 56) (rest := []) (w' := (cO cI cJ cZ a1 ++ cKn cI cJ cZ a1 kn ++ cTr cI cJ cZ a1 r1.2.1 ++ cRw cI cJ cZ a1 r1.2.2 ++ cLk cI cJ cZ a1 lk ++ cF0 cI cJ cZ a1 f0 ++ cF1 cI cJ cZ a1 f1 ++ cMd cI cJ cZ a2 mb mg mx mf)) (wr := (cKn cI cJ cZ a1 kn ++ cLk cI cJ cZ a1 lk ++ cF0 cI cJ cZ a1 f0 ++ cF1 cI cJ cZ a1 f1 ++ cMd cI cJ cZ a2 mb mg mx mf)) (st1 := [.int r1.1]) ⟨hx, hb, hml, hown, hts⟩ (c_Rf_end l dC dI cI cJ cZ a1 N (xs (x3 + 1).toNatClampNeg) tr rw r1 h1) (cwV 1 hts (gd_V tw395 tw396 tw397 tw1 tw398) rfl rfl rfl hd_Rf_end ⟨Nat.le_of_ble_eq_true rfl, Nat.le_of_ble_eq_true rfl⟩) hNw hK hP hD hS hA (ci := 6) rfl rfl rfl [0, 4, 5, 6, 7, 8, 9, 10, 11, 12, 13, 14, 15, 16] [1, 2, 3, 17, 18, 19, 20, 21, 22, 23, 24, 25, 26, 27, 28, 29, 30, 31, 32, 33, 34, 35, 36, 37, 38, 39, 40, 41, 42, 43, 44, 45, 46, 47, 48, 49, 50, 51, 52, 53, 54, 55] rfl rfl rfl rfl rfl (by decide +kernel) (by decide +kernel) rfl hl.1 rfl (Nat.le_of_ble_eq_true rfl) rfl d_Lw_law_357 ⟨Nat.le_of_ble_eq_true rfl, Nat.le_of_ble_eq_true rfl⟩ (fun H locs hP hD hS => ?_)
  refine lv_aload_n hx hb d_Lw_law_360 rfl (lv_at hl 1 rfl) ?_
  refine lv_aload_n hx hb d_Lw_law_361 rfl (lv_at hl 3 rfl) ?_
  refine lv_iload_n hx hb d_Lw_law_362 rfl (lv_at hl 0 rfl) ?_
  refine lv_iconst (v := 1) hx hb d_Lw_law_363 (by decide) ?_
  refine lv_iadd hx hb d_Lw_law_364 ?_
  refine va_sld hx hb hX hbl hbA hS hin1 d_Lw_law_365 ?_
  refine kdV (nn := 56) (rest := [.int r1.1]) (w' := (cO cI cJ cZ a1 ++ cKn cI cJ cZ a1 kn ++ cTr cI cJ cZ a1 r1.2.1 ++ cRw cI cJ cZ a1 r1.2.2 ++ cLk cI cJ cZ a1 lk ++ cF0 cI cJ cZ a1 f0 ++ cF1 cI cJ cZ a1 f1 ++ cMd cI cJ cZ a2 r2.2.1 r2.2.2 mx mf)) (wr := (cO cI cJ cZ a1 ++ cKn cI cJ cZ a1 kn ++ cTr cI cJ cZ a1 r1.2.1 ++ cRw cI cJ cZ a1 r1.2.2 ++ cLk cI cJ cZ a1 lk ++ cF0 cI cJ cZ a1 f0 ++ cF1 cI cJ cZ a1 f1)) (st1 := [.int r2.1, .int r1.1]) ⟨hx, hb, hml, hown, hts⟩ (c_Md_end l dC dI cI cJ cZ a2 N (xs (x3 + 1).toNatClampNeg) mb mg mx mf r2 h2) (cwV 1 hts (gd_V tw857 tw858 tw859 tw9 tw860) rfl rfl rfl hd_Md_end ⟨Nat.le_of_ble_eq_true rfl, Nat.le_of_ble_eq_true rfl⟩) hNw hK hP hD hS hA (ci := 7) rfl rfl rfl [32, 33, 34, 35, 36, 37, 38, 39, 40, 41, 42, 43, 44, 45, 46, 47, 48, 49, 50, 51, 52, 53, 54, 55] [0, 1, 2, 3, 4, 5, 6, 7, 8, 9, 10, 11, 12, 13, 14, 15, 16, 17, 18, 19, 20, 21, 22, 23, 24, 25, 26, 27, 28, 29, 30, 31] rfl rfl rfl rfl rfl (by decide +kernel) (by decide +kernel) rfl hl.1 rfl (Nat.le_of_ble_eq_true rfl) rfl d_Lw_law_366 ⟨Nat.le_of_ble_eq_true rfl, Nat.le_of_ble_eq_true rfl⟩ (fun H locs hP hD hS => ?_)
  refine lv_icmp_eq (tgt := 769) hx hb d_Lw_law_369 (by decide) (fun hc => ?_) (fun hc => ?_)
  · exact next H locs hP hD hS
  · exact absurd he hc
set_option maxHeartbeats 4000000 in
set_option maxRecDepth 100000 in
theorem law_drop {p : Program} {l : Launch} {e : Env} {s : State} {m : MethodId} {below : List Frame} {meth : Method} {c : Code} {b L : Nat} {xs : Nat → Int32} {dC : Nat → ClassId} {dI : Nat → Nat → Nat} {cI cJ cZ : ClassId} {a1 a2 : Nat → Nat} (C0 : LC p s m meth c b L xs dC dI cI cJ cZ) {x3 : Int32} (N : Nat) (kn : KnS) (tr : TrS) (rw : RwS) (lk : LkS) (f0 : FlS) (f1 : FlS) (mb : MbS) (mg : MgS) (mx : MxS) (mf : MfS) (r1 : Int32 × TrS × RwS) (h1 : f_Rf_drop N tr rw = some r1) (r2 : Int32 × MbS) (h2 : f_Md_drop N mb = some r2) (he : r1.1 = r2.1) {H : Heap} {locs : List Loc} {ls : Array Slot} (hP : va_P (dC, dI) classes (cO cI cJ cZ a1 ++ cKn cI cJ cZ a1 kn ++ cTr cI cJ cZ a1 tr ++ cRw cI cJ cZ a1 rw ++ cLk cI cJ cZ a1 lk ++ cF0 cI cJ cZ a1 f0 ++ cF1 cI cJ cZ a1 f1 ++ cMd cI cJ cZ a2 mb mg mx mf) H) (hD : va_D (fun q : Nat => s.heap.size ≤ q) (cO cI cJ cZ a1 ++ cKn cI cJ cZ a1 kn ++ cTr cI cJ cZ a1 tr ++ cRw cI cJ cZ a1 rw ++ cLk cI cJ cZ a1 lk ++ cF0 cI cJ cZ a1 f0 ++ cF1 cI cJ cZ a1 f1 ++ cMd cI cJ cZ a2 mb mg mx mf)) (hS : va_S (fun q : Nat => s.heap.size ≤ q) s.heap H locs) (hl : lv_has ls 4 [(3, .int x3), (2, .ref (a2 0)), (1, .ref (a1 0)), (0, .ref b)])
    (next : ∀ (H : Heap) (locs : List Loc), va_P (dC, dI) classes (cO cI cJ cZ a1 ++ cKn cI cJ cZ a1 kn ++ cTr cI cJ cZ a1 r1.2.1 ++ cRw cI cJ cZ a1 r1.2.2 ++ cLk cI cJ cZ a1 lk ++ cF0 cI cJ cZ a1 f0 ++ cF1 cI cJ cZ a1 f1 ++ cMd cI cJ cZ a2 r2.2 mg mx mf) H → va_D (fun q : Nat => s.heap.size ≤ q) (cO cI cJ cZ a1 ++ cKn cI cJ cZ a1 kn ++ cTr cI cJ cZ a1 r1.2.1 ++ cRw cI cJ cZ a1 r1.2.2 ++ cLk cI cJ cZ a1 lk ++ cF0 cI cJ cZ a1 f0 ++ cF1 cI cJ cZ a1 f1 ++ cMd cI cJ cZ a2 r2.2 mg mx mf) → va_S (fun q : Nat => s.heap.size ≤ q) s.heap H locs → W p l e room_1 s m #[Value.ref b] below meth c H locs 56 11828 (lw_Z below #[Value.ref b] s) (F0 m 769 ls [])) : W p l e room_1 s m #[Value.ref b] below meth c H locs 56 11828 (lw_Z below #[Value.ref b] s) (F0 m 374 ls []) := by
  obtain ⟨hx, hb, hr, hml, hown, hts, hNw, hK, hX, hbl, hlocks⟩ := C0
  have hA : ∀ q : Nat, s.heap.size ≤ q → (fun q : Nat => s.heap.size ≤ q) q := fun _ h => h
  have hbA : ¬ (fun q : Nat => s.heap.size ≤ q) b := Nat.not_le.mpr hbl
  refine lv_aload_n hx hb d_Lw_law_374 rfl (lv_at hl 2 rfl) ?_
  refine kdV (nn := 56) (rest := []) (w' := (cO cI cJ cZ a1 ++ cKn cI cJ cZ a1 kn ++ cTr cI cJ cZ a1 r1.2.1 ++ cRw cI cJ cZ a1 r1.2.2 ++ cLk cI cJ cZ a1 lk ++ cF0 cI cJ cZ a1 f0 ++ cF1 cI cJ cZ a1 f1 ++ cMd cI cJ cZ a2 mb mg mx mf)) (wr := (cKn cI cJ cZ a1 kn ++ cLk cI cJ cZ a1 lk ++ cF0 cI cJ cZ a1 f0 ++ cF1 cI cJ cZ a1 f1 ++ cMd cI cJ cZ a2 mb mg mx mf)) (st1 := [.int r1.1]) ⟨hx, hb, hml, hown, hts⟩ (c_Rf_drop l dC dI cI cJ cZ a1 N tr rw r1 h1) (cwV 0 hts (gd_V tw408 tw409 tw410 tw1 tw411) rfl rfl rfl hd_Rf_drop ⟨Nat.le_of_ble_eq_true rfl, Nat.le_of_ble_eq_true rfl⟩) hNw hK hP hD hS hA (ci := 6) rfl rfl rfl [0, 4, 5, 6, 7, 8, 9, 10, 11, 12, 13, 14, 15, 16] [1, 2, 3, 17, 18, 19, 20, 21, 22, 23, 24, 25, 26, 27, 28, 29, 30, 31, 32, 33, 34, 35, 36, 37, 38, 39, 40, 41, 42, 43, 44, 45, 46, 47, 48, 49, 50, 51, 52, 53, 54, 55] rfl rfl rfl rfl rfl (by decide +kernel) (by decide +kernel) rfl hl.1 rfl (Nat.le_of_ble_eq_true rfl) rfl d_Lw_law_375 ⟨Nat.le_of_ble_eq_true rfl, Nat.le_of_ble_eq_true rfl⟩ (fun H locs hP hD hS => ?_)
  refine lv_aload_n hx hb d_Lw_law_378 rfl (lv_at hl 1 rfl) ?_
  refine kdV (nn := 56) (rest := [.int r1.1]) (w' := (cO cI cJ cZ a1 ++ cKn cI cJ cZ a1 kn ++ cTr cI cJ cZ a1 r1.2.1 ++ cRw cI cJ cZ a1 r1.2.2 ++ cLk cI cJ cZ a1 lk ++ cF0 cI cJ cZ a1 f0 ++ cF1 cI cJ cZ a1 f1 ++ cMd cI cJ cZ a2 r2.2 mg mx mf)) (wr := (cO cI cJ cZ a1 ++ cKn cI cJ cZ a1 kn ++ cTr cI cJ cZ a1 r1.2.1 ++ cRw cI cJ cZ a1 r1.2.2 ++ cLk cI cJ cZ a1 lk ++ cF0 cI cJ cZ a1 f0 ++ cF1 cI cJ cZ a1 f1)) (st1 := [.int r2.1, .int r1.1]) ⟨hx, hb, hml, hown, hts⟩ (c_Md_drop l dC dI cI cJ cZ a2 N mb mg mx mf r2 h2) (cwV 0 hts (gd_V tw865 tw866 tw867 tw9 tw868) rfl rfl rfl hd_Md_drop ⟨Nat.le_of_ble_eq_true rfl, Nat.le_of_ble_eq_true rfl⟩) hNw hK hP hD hS hA (ci := 7) rfl rfl rfl [32, 33, 34, 35, 36, 37, 38, 39, 40, 41, 42, 43, 44, 45, 46, 47, 48, 49, 50, 51, 52, 53, 54, 55] [0, 1, 2, 3, 4, 5, 6, 7, 8, 9, 10, 11, 12, 13, 14, 15, 16, 17, 18, 19, 20, 21, 22, 23, 24, 25, 26, 27, 28, 29, 30, 31] rfl rfl rfl rfl rfl (by decide +kernel) (by decide +kernel) rfl hl.1 rfl (Nat.le_of_ble_eq_true rfl) rfl d_Lw_law_379 ⟨Nat.le_of_ble_eq_true rfl, Nat.le_of_ble_eq_true rfl⟩ (fun H locs hP hD hS => ?_)
  refine lv_icmp_eq (tgt := 769) hx hb d_Lw_law_382 (by decide) (fun hc => ?_) (fun hc => ?_)
  · exact next H locs hP hD hS
  · exact absurd he hc
set_option maxHeartbeats 4000000 in
set_option maxRecDepth 100000 in
theorem law_told {p : Program} {l : Launch} {e : Env} {s : State} {m : MethodId} {below : List Frame} {meth : Method} {c : Code} {b L : Nat} {xs : Nat → Int32} {dC : Nat → ClassId} {dI : Nat → Nat → Nat} {cI cJ cZ : ClassId} {a1 a2 : Nat → Nat} (C0 : LC p s m meth c b L xs dC dI cI cJ cZ) {x3 : Int32} (hin1 : vp_in (x3 + 1) L) (hin2 : vp_in (x3 + 2) L) (N : Nat) (kn : KnS) (tr : TrS) (rw : RwS) (lk : LkS) (f0 : FlS) (f1 : FlS) (mb : MbS) (mg : MgS) (mx : MxS) (mf : MfS) (r1 : Int32) (h1 : f_Rf_told (xs (x3 + 1).toNatClampNeg) (xs (x3 + 2).toNatClampNeg) tr = some r1) (r2 : Int32) (h2 : f_Md_told N (xs (x3 + 1).toNatClampNeg) (xs (x3 + 2).toNatClampNeg) mb = some r2) (he : r1 = r2) {H : Heap} {locs : List Loc} {ls : Array Slot} (hP : va_P (dC, dI) classes (cO cI cJ cZ a1 ++ cKn cI cJ cZ a1 kn ++ cTr cI cJ cZ a1 tr ++ cRw cI cJ cZ a1 rw ++ cLk cI cJ cZ a1 lk ++ cF0 cI cJ cZ a1 f0 ++ cF1 cI cJ cZ a1 f1 ++ cMd cI cJ cZ a2 mb mg mx mf) H) (hD : va_D (fun q : Nat => s.heap.size ≤ q) (cO cI cJ cZ a1 ++ cKn cI cJ cZ a1 kn ++ cTr cI cJ cZ a1 tr ++ cRw cI cJ cZ a1 rw ++ cLk cI cJ cZ a1 lk ++ cF0 cI cJ cZ a1 f0 ++ cF1 cI cJ cZ a1 f1 ++ cMd cI cJ cZ a2 mb mg mx mf)) (hS : va_S (fun q : Nat => s.heap.size ≤ q) s.heap H locs) (hl : lv_has ls 4 [(3, .int x3), (2, .ref (a2 0)), (1, .ref (a1 0)), (0, .ref b)])
    (next : ∀ (H : Heap) (locs : List Loc), va_P (dC, dI) classes (cO cI cJ cZ a1 ++ cKn cI cJ cZ a1 kn ++ cTr cI cJ cZ a1 tr ++ cRw cI cJ cZ a1 rw ++ cLk cI cJ cZ a1 lk ++ cF0 cI cJ cZ a1 f0 ++ cF1 cI cJ cZ a1 f1 ++ cMd cI cJ cZ a2 mb mg mx mf) H → va_D (fun q : Nat => s.heap.size ≤ q) (cO cI cJ cZ a1 ++ cKn cI cJ cZ a1 kn ++ cTr cI cJ cZ a1 tr ++ cRw cI cJ cZ a1 rw ++ cLk cI cJ cZ a1 lk ++ cF0 cI cJ cZ a1 f0 ++ cF1 cI cJ cZ a1 f1 ++ cMd cI cJ cZ a2 mb mg mx mf) → va_S (fun q : Nat => s.heap.size ≤ q) s.heap H locs → W p l e room_1 s m #[Value.ref b] below meth c H locs 56 11828 (lw_Z below #[Value.ref b] s) (F0 m 769 ls [])) : W p l e room_1 s m #[Value.ref b] below meth c H locs 56 11828 (lw_Z below #[Value.ref b] s) (F0 m 387 ls []) := by
  obtain ⟨hx, hb, hr, hml, hown, hts, hNw, hK, hX, hbl, hlocks⟩ := C0
  have hA : ∀ q : Nat, s.heap.size ≤ q → (fun q : Nat => s.heap.size ≤ q) q := fun _ h => h
  have hbA : ¬ (fun q : Nat => s.heap.size ≤ q) b := Nat.not_le.mpr hbl
  refine lv_aload_n hx hb d_Lw_law_387 rfl (lv_at hl 2 rfl) ?_
  refine lv_aload_n hx hb d_Lw_law_388 rfl (lv_at hl 3 rfl) ?_
  refine lv_iload_n hx hb d_Lw_law_389 rfl (lv_at hl 0 rfl) ?_
  refine lv_iconst (v := 1) hx hb d_Lw_law_390 (by decide) ?_
  refine lv_iadd hx hb d_Lw_law_391 ?_
  refine va_sld hx hb hX hbl hbA hS hin1 d_Lw_law_392 ?_
  refine lv_aload_n hx hb d_Lw_law_393 rfl (lv_at hl 3 rfl) ?_
  refine lv_iload_n hx hb d_Lw_law_394 rfl (lv_at hl 0 rfl) ?_
  refine lv_iconst (v := 2) hx hb d_Lw_law_395 (by decide) ?_
  refine lv_iadd hx hb d_Lw_law_396 ?_
  refine va_sld hx hb hX hbl hbA hS hin2 d_Lw_law_397 ?_
  refine kdV (nn := 56) (rest := []) (w' := (cO cI cJ cZ a1 ++ cKn cI cJ cZ a1 kn ++ cTr cI cJ cZ a1 tr ++ cRw cI cJ cZ a1 rw ++ cLk cI cJ cZ a1 lk ++ cF0 cI cJ cZ a1 f0 ++ cF1 cI cJ cZ a1 f1 ++ cMd cI cJ cZ a2 mb mg mx mf)) (wr := (cKn cI cJ cZ a1 kn ++ cRw cI cJ cZ a1 rw ++ cLk cI cJ cZ a1 lk ++ cF0 cI cJ cZ a1 f0 ++ cF1 cI cJ cZ a1 f1 ++ cMd cI cJ cZ a2 mb mg mx mf)) (st1 := [.int r1]) ⟨hx, hb, hml, hown, hts⟩ (c_Rf_told l dC dI cI cJ cZ a1 (xs (x3 + 1).toNatClampNeg) (xs (x3 + 2).toNatClampNeg) tr r1 h1) (cwV 2 hts (gd_V tw417 tw418 tw419 tw1 tw420) rfl rfl rfl hd_Rf_told ⟨Nat.le_of_ble_eq_true rfl, Nat.le_of_ble_eq_true rfl⟩) hNw hK hP hD hS hA (ci := 6) rfl rfl rfl [0, 4, 5, 6, 7, 8, 9, 10, 11, 12, 13, 14] [1, 2, 3, 15, 16, 17, 18, 19, 20, 21, 22, 23, 24, 25, 26, 27, 28, 29, 30, 31, 32, 33, 34, 35, 36, 37, 38, 39, 40, 41, 42, 43, 44, 45, 46, 47, 48, 49, 50, 51, 52, 53, 54, 55] rfl rfl rfl rfl rfl (by decide +kernel) (by decide +kernel) rfl hl.1 rfl (Nat.le_of_ble_eq_true rfl) rfl d_Lw_law_398 ⟨Nat.le_of_ble_eq_true rfl, Nat.le_of_ble_eq_true rfl⟩ (fun H locs hP hD hS => ?_)
  refine lv_aload_n hx hb d_Lw_law_401 rfl (lv_at hl 1 rfl) ?_
  refine lv_aload_n hx hb d_Lw_law_402 rfl (lv_at hl 3 rfl) ?_
  refine lv_iload_n hx hb d_Lw_law_403 rfl (lv_at hl 0 rfl) ?_
  refine lv_iconst (v := 1) hx hb d_Lw_law_404 (by decide) ?_
  refine lv_iadd hx hb d_Lw_law_405 ?_
  refine va_sld hx hb hX hbl hbA hS hin1 d_Lw_law_406 ?_
  refine lv_aload_n hx hb d_Lw_law_407 rfl (lv_at hl 3 rfl) ?_
  refine lv_iload_n hx hb d_Lw_law_408 rfl (lv_at hl 0 rfl) ?_
  refine lv_iconst (v := 2) hx hb d_Lw_law_409 (by decide) ?_
  refine lv_iadd hx hb d_Lw_law_410 ?_
  refine va_sld hx hb hX hbl hbA hS hin2 d_Lw_law_411 ?_
  refine kdV (nn := 56) (rest := [.int r1]) (w' := (cO cI cJ cZ a1 ++ cKn cI cJ cZ a1 kn ++ cTr cI cJ cZ a1 tr ++ cRw cI cJ cZ a1 rw ++ cLk cI cJ cZ a1 lk ++ cF0 cI cJ cZ a1 f0 ++ cF1 cI cJ cZ a1 f1 ++ cMd cI cJ cZ a2 mb mg mx mf)) (wr := (cO cI cJ cZ a1 ++ cKn cI cJ cZ a1 kn ++ cTr cI cJ cZ a1 tr ++ cRw cI cJ cZ a1 rw ++ cLk cI cJ cZ a1 lk ++ cF0 cI cJ cZ a1 f0 ++ cF1 cI cJ cZ a1 f1)) (st1 := [.int r2, .int r1]) ⟨hx, hb, hml, hown, hts⟩ (c_Md_told l dC dI cI cJ cZ a2 N (xs (x3 + 1).toNatClampNeg) (xs (x3 + 2).toNatClampNeg) mb mg mx mf r2 h2) (cwV 2 hts (gd_V tw869 tw870 tw871 tw9 tw872) rfl rfl rfl hd_Md_told ⟨Nat.le_of_ble_eq_true rfl, Nat.le_of_ble_eq_true rfl⟩) hNw hK hP hD hS hA (ci := 7) rfl rfl rfl [32, 33, 34, 35, 36, 37, 38, 39, 40, 41, 42, 43, 44, 45, 46, 47, 48, 49, 50, 51, 52, 53, 54, 55] [0, 1, 2, 3, 4, 5, 6, 7, 8, 9, 10, 11, 12, 13, 14, 15, 16, 17, 18, 19, 20, 21, 22, 23, 24, 25, 26, 27, 28, 29, 30, 31] rfl rfl rfl rfl rfl (by decide +kernel) (by decide +kernel) rfl hl.1 rfl (Nat.le_of_ble_eq_true rfl) rfl d_Lw_law_412 ⟨Nat.le_of_ble_eq_true rfl, Nat.le_of_ble_eq_true rfl⟩ (fun H locs hP hD hS => ?_)
  refine lv_icmp_eq (tgt := 769) hx hb d_Lw_law_415 (by decide) (fun hc => ?_) (fun hc => ?_)
  · exact next H locs hP hD hS
  · exact absurd he hc
set_option maxHeartbeats 4000000 in
set_option maxRecDepth 100000 in
theorem law_part {p : Program} {l : Launch} {e : Env} {s : State} {m : MethodId} {below : List Frame} {meth : Method} {c : Code} {b L : Nat} {xs : Nat → Int32} {dC : Nat → ClassId} {dI : Nat → Nat → Nat} {cI cJ cZ : ClassId} {a1 a2 : Nat → Nat} (C0 : LC p s m meth c b L xs dC dI cI cJ cZ) {x3 : Int32} (hin1 : vp_in (x3 + 1) L) (hin2 : vp_in (x3 + 2) L) (N : Nat) (kn : KnS) (tr : TrS) (rw : RwS) (lk : LkS) (f0 : FlS) (f1 : FlS) (mb : MbS) (mg : MgS) (mx : MxS) (mf : MfS) (r1 : Int32) (h1 : f_Rf_part (xs (x3 + 1).toNatClampNeg) (xs (x3 + 2).toNatClampNeg) tr = some r1) (r2 : Int32) (h2 : f_Md_part N (xs (x3 + 1).toNatClampNeg) (xs (x3 + 2).toNatClampNeg) mb = some r2) (he : r1 = r2) {H : Heap} {locs : List Loc} {ls : Array Slot} (hP : va_P (dC, dI) classes (cO cI cJ cZ a1 ++ cKn cI cJ cZ a1 kn ++ cTr cI cJ cZ a1 tr ++ cRw cI cJ cZ a1 rw ++ cLk cI cJ cZ a1 lk ++ cF0 cI cJ cZ a1 f0 ++ cF1 cI cJ cZ a1 f1 ++ cMd cI cJ cZ a2 mb mg mx mf) H) (hD : va_D (fun q : Nat => s.heap.size ≤ q) (cO cI cJ cZ a1 ++ cKn cI cJ cZ a1 kn ++ cTr cI cJ cZ a1 tr ++ cRw cI cJ cZ a1 rw ++ cLk cI cJ cZ a1 lk ++ cF0 cI cJ cZ a1 f0 ++ cF1 cI cJ cZ a1 f1 ++ cMd cI cJ cZ a2 mb mg mx mf)) (hS : va_S (fun q : Nat => s.heap.size ≤ q) s.heap H locs) (hl : lv_has ls 4 [(3, .int x3), (2, .ref (a2 0)), (1, .ref (a1 0)), (0, .ref b)])
    (next : ∀ (H : Heap) (locs : List Loc), va_P (dC, dI) classes (cO cI cJ cZ a1 ++ cKn cI cJ cZ a1 kn ++ cTr cI cJ cZ a1 tr ++ cRw cI cJ cZ a1 rw ++ cLk cI cJ cZ a1 lk ++ cF0 cI cJ cZ a1 f0 ++ cF1 cI cJ cZ a1 f1 ++ cMd cI cJ cZ a2 mb mg mx mf) H → va_D (fun q : Nat => s.heap.size ≤ q) (cO cI cJ cZ a1 ++ cKn cI cJ cZ a1 kn ++ cTr cI cJ cZ a1 tr ++ cRw cI cJ cZ a1 rw ++ cLk cI cJ cZ a1 lk ++ cF0 cI cJ cZ a1 f0 ++ cF1 cI cJ cZ a1 f1 ++ cMd cI cJ cZ a2 mb mg mx mf) → va_S (fun q : Nat => s.heap.size ≤ q) s.heap H locs → W p l e room_1 s m #[Value.ref b] below meth c H locs 56 11828 (lw_Z below #[Value.ref b] s) (F0 m 769 ls [])) : W p l e room_1 s m #[Value.ref b] below meth c H locs 56 11828 (lw_Z below #[Value.ref b] s) (F0 m 420 ls []) := by
  obtain ⟨hx, hb, hr, hml, hown, hts, hNw, hK, hX, hbl, hlocks⟩ := C0
  have hA : ∀ q : Nat, s.heap.size ≤ q → (fun q : Nat => s.heap.size ≤ q) q := fun _ h => h
  have hbA : ¬ (fun q : Nat => s.heap.size ≤ q) b := Nat.not_le.mpr hbl
  refine lv_aload_n hx hb d_Lw_law_420 rfl (lv_at hl 2 rfl) ?_
  refine lv_aload_n hx hb d_Lw_law_421 rfl (lv_at hl 3 rfl) ?_
  refine lv_iload_n hx hb d_Lw_law_422 rfl (lv_at hl 0 rfl) ?_
  refine lv_iconst (v := 1) hx hb d_Lw_law_423 (by decide) ?_
  refine lv_iadd hx hb d_Lw_law_424 ?_
  refine va_sld hx hb hX hbl hbA hS hin1 d_Lw_law_425 ?_
  refine lv_aload_n hx hb d_Lw_law_426 rfl (lv_at hl 3 rfl) ?_
  refine lv_iload_n hx hb d_Lw_law_427 rfl (lv_at hl 0 rfl) ?_
  refine lv_iconst (v := 2) hx hb d_Lw_law_428 (by decide) ?_
  refine lv_iadd hx hb d_Lw_law_429 ?_
  refine va_sld hx hb hX hbl hbA hS hin2 d_Lw_law_430 ?_
  refine kdV (nn := 56) (rest := []) (w' := (cO cI cJ cZ a1 ++ cKn cI cJ cZ a1 kn ++ cTr cI cJ cZ a1 tr ++ cRw cI cJ cZ a1 rw ++ cLk cI cJ cZ a1 lk ++ cF0 cI cJ cZ a1 f0 ++ cF1 cI cJ cZ a1 f1 ++ cMd cI cJ cZ a2 mb mg mx mf)) (wr := (cKn cI cJ cZ a1 kn ++ cRw cI cJ cZ a1 rw ++ cLk cI cJ cZ a1 lk ++ cF0 cI cJ cZ a1 f0 ++ cF1 cI cJ cZ a1 f1 ++ cMd cI cJ cZ a2 mb mg mx mf)) (st1 := [.int r1]) ⟨hx, hb, hml, hown, hts⟩ (c_Rf_part l dC dI cI cJ cZ a1 (xs (x3 + 1).toNatClampNeg) (xs (x3 + 2).toNatClampNeg) tr r1 h1) (cwV 2 hts (gd_V tw422 tw423 tw424 tw1 tw425) rfl rfl rfl hd_Rf_part ⟨Nat.le_of_ble_eq_true rfl, Nat.le_of_ble_eq_true rfl⟩) hNw hK hP hD hS hA (ci := 6) rfl rfl rfl [0, 4, 5, 6, 7, 8, 9, 10, 11, 12, 13, 14] [1, 2, 3, 15, 16, 17, 18, 19, 20, 21, 22, 23, 24, 25, 26, 27, 28, 29, 30, 31, 32, 33, 34, 35, 36, 37, 38, 39, 40, 41, 42, 43, 44, 45, 46, 47, 48, 49, 50, 51, 52, 53, 54, 55] rfl rfl rfl rfl rfl (by decide +kernel) (by decide +kernel) rfl hl.1 rfl (Nat.le_of_ble_eq_true rfl) rfl d_Lw_law_431 ⟨Nat.le_of_ble_eq_true rfl, Nat.le_of_ble_eq_true rfl⟩ (fun H locs hP hD hS => ?_)
  refine lv_aload_n hx hb d_Lw_law_434 rfl (lv_at hl 1 rfl) ?_
  refine lv_aload_n hx hb d_Lw_law_435 rfl (lv_at hl 3 rfl) ?_
  refine lv_iload_n hx hb d_Lw_law_436 rfl (lv_at hl 0 rfl) ?_
  refine lv_iconst (v := 1) hx hb d_Lw_law_437 (by decide) ?_
  refine lv_iadd hx hb d_Lw_law_438 ?_
  refine va_sld hx hb hX hbl hbA hS hin1 d_Lw_law_439 ?_
  refine lv_aload_n hx hb d_Lw_law_440 rfl (lv_at hl 3 rfl) ?_
  refine lv_iload_n hx hb d_Lw_law_441 rfl (lv_at hl 0 rfl) ?_
  refine lv_iconst (v := 2) hx hb d_Lw_law_442 (by decide) ?_
  refine lv_iadd hx hb d_Lw_law_443 ?_
  refine va_sld hx hb hX hbl hbA hS hin2 d_Lw_law_444 ?_
  refine kdV (nn := 56) (rest := [.int r1]) (w' := (cO cI cJ cZ a1 ++ cKn cI cJ cZ a1 kn ++ cTr cI cJ cZ a1 tr ++ cRw cI cJ cZ a1 rw ++ cLk cI cJ cZ a1 lk ++ cF0 cI cJ cZ a1 f0 ++ cF1 cI cJ cZ a1 f1 ++ cMd cI cJ cZ a2 mb mg mx mf)) (wr := (cO cI cJ cZ a1 ++ cKn cI cJ cZ a1 kn ++ cTr cI cJ cZ a1 tr ++ cRw cI cJ cZ a1 rw ++ cLk cI cJ cZ a1 lk ++ cF0 cI cJ cZ a1 f0 ++ cF1 cI cJ cZ a1 f1)) (st1 := [.int r2, .int r1]) ⟨hx, hb, hml, hown, hts⟩ (c_Md_part l dC dI cI cJ cZ a2 N (xs (x3 + 1).toNatClampNeg) (xs (x3 + 2).toNatClampNeg) mb mg mx mf r2 h2) (cwV 2 hts (gd_V tw873 tw874 tw875 tw9 tw876) rfl rfl rfl hd_Md_part ⟨Nat.le_of_ble_eq_true rfl, Nat.le_of_ble_eq_true rfl⟩) hNw hK hP hD hS hA (ci := 7) rfl rfl rfl [32, 33, 34, 35, 36, 37, 38, 39, 40, 41, 42, 43, 44, 45, 46, 47, 48, 49, 50, 51, 52, 53, 54, 55] [0, 1, 2, 3, 4, 5, 6, 7, 8, 9, 10, 11, 12, 13, 14, 15, 16, 17, 18, 19, 20, 21, 22, 23, 24, 25, 26, 27, 28, 29, 30, 31] rfl rfl rfl rfl rfl (by decide +kernel) (by decide +kernel) rfl hl.1 rfl (Nat.le_of_ble_eq_true rfl) rfl d_Lw_law_445 ⟨Nat.le_of_ble_eq_true rfl, Nat.le_of_ble_eq_true rfl⟩ (fun H locs hP hD hS => ?_)
  refine lv_icmp_eq (tgt := 769) hx hb d_Lw_law_448 (by decide) (fun hc => ?_) (fun hc => ?_)
  · exact next H locs hP hD hS
  · exact absurd he hc
set_option maxHeartbeats 4000000 in
set_option maxRecDepth 100000 in
theorem law_of {p : Program} {l : Launch} {e : Env} {s : State} {m : MethodId} {below : List Frame} {meth : Method} {c : Code} {b L : Nat} {xs : Nat → Int32} {dC : Nat → ClassId} {dI : Nat → Nat → Nat} {cI cJ cZ : ClassId} {a1 a2 : Nat → Nat} (C0 : LC p s m meth c b L xs dC dI cI cJ cZ) {x3 : Int32} (hin1 : vp_in (x3 + 1) L) (kn : KnS) (tr : TrS) (rw : RwS) (lk : LkS) (f0 : FlS) (f1 : FlS) (mb : MbS) (mg : MgS) (mx : MxS) (mf : MfS) (r1 : Int32) (h1 : f_Rf_of (xs (x3 + 1).toNatClampNeg) kn tr rw lk = some r1) (r2 : Int32) (h2 : f_Md_of (xs (x3 + 1).toNatClampNeg) mb mg = some r2) (he : r1 = r2) {H : Heap} {locs : List Loc} {ls : Array Slot} (hP : va_P (dC, dI) classes (cO cI cJ cZ a1 ++ cKn cI cJ cZ a1 kn ++ cTr cI cJ cZ a1 tr ++ cRw cI cJ cZ a1 rw ++ cLk cI cJ cZ a1 lk ++ cF0 cI cJ cZ a1 f0 ++ cF1 cI cJ cZ a1 f1 ++ cMd cI cJ cZ a2 mb mg mx mf) H) (hD : va_D (fun q : Nat => s.heap.size ≤ q) (cO cI cJ cZ a1 ++ cKn cI cJ cZ a1 kn ++ cTr cI cJ cZ a1 tr ++ cRw cI cJ cZ a1 rw ++ cLk cI cJ cZ a1 lk ++ cF0 cI cJ cZ a1 f0 ++ cF1 cI cJ cZ a1 f1 ++ cMd cI cJ cZ a2 mb mg mx mf)) (hS : va_S (fun q : Nat => s.heap.size ≤ q) s.heap H locs) (hl : lv_has ls 4 [(3, .int x3), (2, .ref (a2 0)), (1, .ref (a1 0)), (0, .ref b)])
    (next : ∀ (H : Heap) (locs : List Loc), va_P (dC, dI) classes (cO cI cJ cZ a1 ++ cKn cI cJ cZ a1 kn ++ cTr cI cJ cZ a1 tr ++ cRw cI cJ cZ a1 rw ++ cLk cI cJ cZ a1 lk ++ cF0 cI cJ cZ a1 f0 ++ cF1 cI cJ cZ a1 f1 ++ cMd cI cJ cZ a2 mb mg mx mf) H → va_D (fun q : Nat => s.heap.size ≤ q) (cO cI cJ cZ a1 ++ cKn cI cJ cZ a1 kn ++ cTr cI cJ cZ a1 tr ++ cRw cI cJ cZ a1 rw ++ cLk cI cJ cZ a1 lk ++ cF0 cI cJ cZ a1 f0 ++ cF1 cI cJ cZ a1 f1 ++ cMd cI cJ cZ a2 mb mg mx mf) → va_S (fun q : Nat => s.heap.size ≤ q) s.heap H locs → W p l e room_1 s m #[Value.ref b] below meth c H locs 56 11828 (lw_Z below #[Value.ref b] s) (F0 m 769 ls [])) : W p l e room_1 s m #[Value.ref b] below meth c H locs 56 11828 (lw_Z below #[Value.ref b] s) (F0 m 453 ls []) := by
  obtain ⟨hx, hb, hr, hml, hown, hts, hNw, hK, hX, hbl, hlocks⟩ := C0
  have hA : ∀ q : Nat, s.heap.size ≤ q → (fun q : Nat => s.heap.size ≤ q) q := fun _ h => h
  have hbA : ¬ (fun q : Nat => s.heap.size ≤ q) b := Nat.not_le.mpr hbl
  refine lv_aload_n hx hb d_Lw_law_453 rfl (lv_at hl 2 rfl) ?_
  refine lv_aload_n hx hb d_Lw_law_454 rfl (lv_at hl 3 rfl) ?_
  refine lv_iload_n hx hb d_Lw_law_455 rfl (lv_at hl 0 rfl) ?_
  refine lv_iconst (v := 1) hx hb d_Lw_law_456 (by decide) ?_
  refine lv_iadd hx hb d_Lw_law_457 ?_
  refine va_sld hx hb hX hbl hbA hS hin1 d_Lw_law_458 ?_
  refine kdV (nn := 56) (rest := []) (w' := (cO cI cJ cZ a1 ++ cKn cI cJ cZ a1 kn ++ cTr cI cJ cZ a1 tr ++ cRw cI cJ cZ a1 rw ++ cLk cI cJ cZ a1 lk ++ cF0 cI cJ cZ a1 f0 ++ cF1 cI cJ cZ a1 f1 ++ cMd cI cJ cZ a2 mb mg mx mf)) (wr := (cF0 cI cJ cZ a1 f0 ++ cF1 cI cJ cZ a1 f1 ++ cMd cI cJ cZ a2 mb mg mx mf)) (st1 := [.int r1]) ⟨hx, hb, hml, hown, hts⟩ (c_Rf_of l dC dI cI cJ cZ a1 (xs (x3 + 1).toNatClampNeg) kn tr rw lk r1 h1) (cwV 1 hts (gd_V tw430 tw431 tw432 tw1 tw433) rfl rfl rfl hd_Rf_of ⟨Nat.le_of_ble_eq_true rfl, Nat.le_of_ble_eq_true rfl⟩) hNw hK hP hD hS hA (ci := 6) rfl rfl rfl [0, 1, 2, 3, 4, 5, 6, 7, 8, 9, 10, 11, 12, 13, 14, 15, 16, 17, 18, 19, 20, 21, 22, 23] [24, 25, 26, 27, 28, 29, 30, 31, 32, 33, 34, 35, 36, 37, 38, 39, 40, 41, 42, 43, 44, 45, 46, 47, 48, 49, 50, 51, 52, 53, 54, 55] rfl rfl rfl rfl rfl (by decide +kernel) (by decide +kernel) rfl hl.1 rfl (Nat.le_of_ble_eq_true rfl) rfl d_Lw_law_459 ⟨Nat.le_of_ble_eq_true rfl, Nat.le_of_ble_eq_true rfl⟩ (fun H locs hP hD hS => ?_)
  refine lv_aload_n hx hb d_Lw_law_462 rfl (lv_at hl 1 rfl) ?_
  refine lv_aload_n hx hb d_Lw_law_463 rfl (lv_at hl 3 rfl) ?_
  refine lv_iload_n hx hb d_Lw_law_464 rfl (lv_at hl 0 rfl) ?_
  refine lv_iconst (v := 1) hx hb d_Lw_law_465 (by decide) ?_
  refine lv_iadd hx hb d_Lw_law_466 ?_
  refine va_sld hx hb hX hbl hbA hS hin1 d_Lw_law_467 ?_
  refine kdV (nn := 56) (rest := [.int r1]) (w' := (cO cI cJ cZ a1 ++ cKn cI cJ cZ a1 kn ++ cTr cI cJ cZ a1 tr ++ cRw cI cJ cZ a1 rw ++ cLk cI cJ cZ a1 lk ++ cF0 cI cJ cZ a1 f0 ++ cF1 cI cJ cZ a1 f1 ++ cMd cI cJ cZ a2 mb mg mx mf)) (wr := (cO cI cJ cZ a1 ++ cKn cI cJ cZ a1 kn ++ cTr cI cJ cZ a1 tr ++ cRw cI cJ cZ a1 rw ++ cLk cI cJ cZ a1 lk ++ cF0 cI cJ cZ a1 f0 ++ cF1 cI cJ cZ a1 f1)) (st1 := [.int r2, .int r1]) ⟨hx, hb, hml, hown, hts⟩ (c_Md_of l dC dI cI cJ cZ a2 (xs (x3 + 1).toNatClampNeg) mb mg mx mf r2 h2) (cwV 1 hts (gd_V tw877 tw878 tw879 tw9 tw880) rfl rfl rfl hd_Md_of ⟨Nat.le_of_ble_eq_true rfl, Nat.le_of_ble_eq_true rfl⟩) hNw hK hP hD hS hA (ci := 7) rfl rfl rfl [32, 33, 34, 35, 36, 37, 38, 39, 40, 41, 42, 43, 44, 45, 46, 47, 48, 49, 50, 51, 52, 53, 54, 55] [0, 1, 2, 3, 4, 5, 6, 7, 8, 9, 10, 11, 12, 13, 14, 15, 16, 17, 18, 19, 20, 21, 22, 23, 24, 25, 26, 27, 28, 29, 30, 31] rfl rfl rfl rfl rfl (by decide +kernel) (by decide +kernel) rfl hl.1 rfl (Nat.le_of_ble_eq_true rfl) rfl d_Lw_law_468 ⟨Nat.le_of_ble_eq_true rfl, Nat.le_of_ble_eq_true rfl⟩ (fun H locs hP hD hS => ?_)
  refine lv_icmp_eq (tgt := 769) hx hb d_Lw_law_471 (by decide) (fun hc => ?_) (fun hc => ?_)
  · exact next H locs hP hD hS
  · exact absurd he hc
set_option maxHeartbeats 4000000 in
set_option maxRecDepth 100000 in
theorem law_check {p : Program} {l : Launch} {e : Env} {s : State} {m : MethodId} {below : List Frame} {meth : Method} {c : Code} {b L : Nat} {xs : Nat → Int32} {dC : Nat → ClassId} {dI : Nat → Nat → Nat} {cI cJ cZ : ClassId} {a1 a2 : Nat → Nat} (C0 : LC p s m meth c b L xs dC dI cI cJ cZ) {x3 : Int32} (hin1 : vp_in (x3 + 1) L) (N : Nat) (kn : KnS) (tr : TrS) (rw : RwS) (lk : LkS) (f0 : FlS) (f1 : FlS) (mb : MbS) (mg : MgS) (mx : MxS) (mf : MfS) (r1 : Int32 × LkS × FlS × FlS) (h1 : f_Rf_check N (xs (x3 + 1).toNatClampNeg) kn tr lk f0 f1 = some r1) (r2 : Int32 × MgS × MxS × MfS) (h2 : f_Md_check N (xs (x3 + 1).toNatClampNeg) mb mg mx mf = some r2) (he : r1.1 = r2.1) {H : Heap} {locs : List Loc} {ls : Array Slot} (hP : va_P (dC, dI) classes (cO cI cJ cZ a1 ++ cKn cI cJ cZ a1 kn ++ cTr cI cJ cZ a1 tr ++ cRw cI cJ cZ a1 rw ++ cLk cI cJ cZ a1 lk ++ cF0 cI cJ cZ a1 f0 ++ cF1 cI cJ cZ a1 f1 ++ cMd cI cJ cZ a2 mb mg mx mf) H) (hD : va_D (fun q : Nat => s.heap.size ≤ q) (cO cI cJ cZ a1 ++ cKn cI cJ cZ a1 kn ++ cTr cI cJ cZ a1 tr ++ cRw cI cJ cZ a1 rw ++ cLk cI cJ cZ a1 lk ++ cF0 cI cJ cZ a1 f0 ++ cF1 cI cJ cZ a1 f1 ++ cMd cI cJ cZ a2 mb mg mx mf)) (hS : va_S (fun q : Nat => s.heap.size ≤ q) s.heap H locs) (hl : lv_has ls 4 [(3, .int x3), (2, .ref (a2 0)), (1, .ref (a1 0)), (0, .ref b)])
    (next : ∀ (H : Heap) (locs : List Loc), va_P (dC, dI) classes (cO cI cJ cZ a1 ++ cKn cI cJ cZ a1 kn ++ cTr cI cJ cZ a1 tr ++ cRw cI cJ cZ a1 rw ++ cLk cI cJ cZ a1 r1.2.1 ++ cF0 cI cJ cZ a1 r1.2.2.1 ++ cF1 cI cJ cZ a1 r1.2.2.2 ++ cMd cI cJ cZ a2 mb r2.2.1 r2.2.2.1 r2.2.2.2) H → va_D (fun q : Nat => s.heap.size ≤ q) (cO cI cJ cZ a1 ++ cKn cI cJ cZ a1 kn ++ cTr cI cJ cZ a1 tr ++ cRw cI cJ cZ a1 rw ++ cLk cI cJ cZ a1 r1.2.1 ++ cF0 cI cJ cZ a1 r1.2.2.1 ++ cF1 cI cJ cZ a1 r1.2.2.2 ++ cMd cI cJ cZ a2 mb r2.2.1 r2.2.2.1 r2.2.2.2) → va_S (fun q : Nat => s.heap.size ≤ q) s.heap H locs → W p l e room_1 s m #[Value.ref b] below meth c H locs 56 11828 (lw_Z below #[Value.ref b] s) (F0 m 769 ls [])) : W p l e room_1 s m #[Value.ref b] below meth c H locs 56 11828 (lw_Z below #[Value.ref b] s) (F0 m 476 ls []) := by
  obtain ⟨hx, hb, hr, hml, hown, hts, hNw, hK, hX, hbl, hlocks⟩ := C0
  have hA : ∀ q : Nat, s.heap.size ≤ q → (fun q : Nat => s.heap.size ≤ q) q := fun _ h => h
  have hbA : ¬ (fun q : Nat => s.heap.size ≤ q) b := Nat.not_le.mpr hbl
  refine lv_aload_n hx hb d_Lw_law_476 rfl (lv_at hl 2 rfl) ?_
  refine lv_aload_n hx hb d_Lw_law_477 rfl (lv_at hl 3 rfl) ?_
  refine lv_iload_n hx hb d_Lw_law_478 rfl (lv_at hl 0 rfl) ?_
  refine lv_iconst (v := 1) hx hb d_Lw_law_479 (by decide) ?_
  refine lv_iadd hx hb d_Lw_law_480 ?_
  refine va_sld hx hb hX hbl hbA hS hin1 d_Lw_law_481 ?_
  refine kdV (nn := 56) (rest := []) (w' := (cO cI cJ cZ a1 ++ cKn cI cJ cZ a1 kn ++ cTr cI cJ cZ a1 tr ++ cRw cI cJ cZ a1 rw ++ cLk cI cJ cZ a1 r1.2.1 ++ cF0 cI cJ cZ a1 r1.2.2.1 ++ cF1 cI cJ cZ a1 r1.2.2.2 ++ cMd cI cJ cZ a2 mb mg mx mf)) (wr := (cRw cI cJ cZ a1 rw ++ cMd cI cJ cZ a2 mb mg mx mf)) (st1 := [.int r1.1]) ⟨hx, hb, hml, hown, hts⟩ (c_Rf_check l dC dI cI cJ cZ a1 N (xs (x3 + 1).toNatClampNeg) kn tr lk f0 f1 r1 h1) (cwV 1 hts (gd_V tw434 tw435 tw436 tw1 tw437) rfl rfl rfl hd_Rf_check ⟨Nat.le_of_ble_eq_true rfl, Nat.le_of_ble_eq_true rfl⟩) hNw hK hP hD hS hA (ci := 6) rfl rfl rfl [0, 1, 2, 3, 4, 5, 6, 7, 8, 9, 10, 11, 12, 13, 14, 17, 18, 19, 20, 21, 22, 23, 24, 25, 26, 27, 28, 29, 30, 31] [15, 16, 32, 33, 34, 35, 36, 37, 38, 39, 40, 41, 42, 43, 44, 45, 46, 47, 48, 49, 50, 51, 52, 53, 54, 55] rfl rfl rfl rfl rfl (by decide +kernel) (by decide +kernel) rfl hl.1 rfl (Nat.le_of_ble_eq_true rfl) rfl d_Lw_law_482 ⟨Nat.le_of_ble_eq_true rfl, Nat.le_of_ble_eq_true rfl⟩ (fun H locs hP hD hS => ?_)
  refine lv_aload_n hx hb d_Lw_law_485 rfl (lv_at hl 1 rfl) ?_
  refine lv_aload_n hx hb d_Lw_law_486 rfl (lv_at hl 3 rfl) ?_
  refine lv_iload_n hx hb d_Lw_law_487 rfl (lv_at hl 0 rfl) ?_
  refine lv_iconst (v := 1) hx hb d_Lw_law_488 (by decide) ?_
  refine lv_iadd hx hb d_Lw_law_489 ?_
  refine va_sld hx hb hX hbl hbA hS hin1 d_Lw_law_490 ?_
  refine kdV (nn := 56) (rest := [.int r1.1]) (w' := (cO cI cJ cZ a1 ++ cKn cI cJ cZ a1 kn ++ cTr cI cJ cZ a1 tr ++ cRw cI cJ cZ a1 rw ++ cLk cI cJ cZ a1 r1.2.1 ++ cF0 cI cJ cZ a1 r1.2.2.1 ++ cF1 cI cJ cZ a1 r1.2.2.2 ++ cMd cI cJ cZ a2 mb r2.2.1 r2.2.2.1 r2.2.2.2)) (wr := (cO cI cJ cZ a1 ++ cKn cI cJ cZ a1 kn ++ cTr cI cJ cZ a1 tr ++ cRw cI cJ cZ a1 rw ++ cLk cI cJ cZ a1 r1.2.1 ++ cF0 cI cJ cZ a1 r1.2.2.1 ++ cF1 cI cJ cZ a1 r1.2.2.2)) (st1 := [.int r2.1, .int r1.1]) ⟨hx, hb, hml, hown, hts⟩ (c_Md_check l dC dI cI cJ cZ a2 N (xs (x3 + 1).toNatClampNeg) mb mg mx mf r2 h2) (cwV 1 hts (gd_V tw881 tw882 tw883 tw9 tw884) rfl rfl rfl hd_Md_check ⟨Nat.le_of_ble_eq_true rfl, Nat.le_of_ble_eq_true rfl⟩) hNw hK hP hD hS hA (ci := 7) rfl rfl rfl [32, 33, 34, 35, 36, 37, 38, 39, 40, 41, 42, 43, 44, 45, 46, 47, 48, 49, 50, 51, 52, 53, 54, 55] [0, 1, 2, 3, 4, 5, 6, 7, 8, 9, 10, 11, 12, 13, 14, 15, 16, 17, 18, 19, 20, 21, 22, 23, 24, 25, 26, 27, 28, 29, 30, 31] rfl rfl rfl rfl rfl (by decide +kernel) (by decide +kernel) rfl hl.1 rfl (Nat.le_of_ble_eq_true rfl) rfl d_Lw_law_491 ⟨Nat.le_of_ble_eq_true rfl, Nat.le_of_ble_eq_true rfl⟩ (fun H locs hP hD hS => ?_)
  refine lv_icmp_eq (tgt := 769) hx hb d_Lw_law_494 (by decide) (fun hc => ?_) (fun hc => ?_)
  · exact next H locs hP hD hS
  · exact absurd he hc
set_option maxHeartbeats 4000000 in
set_option maxRecDepth 100000 in
theorem law_fault {p : Program} {l : Launch} {e : Env} {s : State} {m : MethodId} {below : List Frame} {meth : Method} {c : Code} {b L : Nat} {xs : Nat → Int32} {dC : Nat → ClassId} {dI : Nat → Nat → Nat} {cI cJ cZ : ClassId} {a1 a2 : Nat → Nat} (C0 : LC p s m meth c b L xs dC dI cI cJ cZ) {x3 : Int32} (hin1 : vp_in (x3 + 1) L) (hin2 : vp_in (x3 + 2) L) (kn : KnS) (tr : TrS) (rw : RwS) (lk : LkS) (f0 : FlS) (f1 : FlS) (mb : MbS) (mg : MgS) (mx : MxS) (mf : MfS) (r1 : Int32) (h1 : f_Rf_fault (xs (x3 + 1).toNatClampNeg) (xs (x3 + 2).toNatClampNeg) lk = some r1) (r2 : Int32) (h2 : f_Md_fault (xs (x3 + 1).toNatClampNeg) (xs (x3 + 2).toNatClampNeg) mg mf = some r2) (he : r1 = r2) {H : Heap} {locs : List Loc} {ls : Array Slot} (hP : va_P (dC, dI) classes (cO cI cJ cZ a1 ++ cKn cI cJ cZ a1 kn ++ cTr cI cJ cZ a1 tr ++ cRw cI cJ cZ a1 rw ++ cLk cI cJ cZ a1 lk ++ cF0 cI cJ cZ a1 f0 ++ cF1 cI cJ cZ a1 f1 ++ cMd cI cJ cZ a2 mb mg mx mf) H) (hD : va_D (fun q : Nat => s.heap.size ≤ q) (cO cI cJ cZ a1 ++ cKn cI cJ cZ a1 kn ++ cTr cI cJ cZ a1 tr ++ cRw cI cJ cZ a1 rw ++ cLk cI cJ cZ a1 lk ++ cF0 cI cJ cZ a1 f0 ++ cF1 cI cJ cZ a1 f1 ++ cMd cI cJ cZ a2 mb mg mx mf)) (hS : va_S (fun q : Nat => s.heap.size ≤ q) s.heap H locs) (hl : lv_has ls 4 [(3, .int x3), (2, .ref (a2 0)), (1, .ref (a1 0)), (0, .ref b)])
    (next : ∀ (H : Heap) (locs : List Loc), va_P (dC, dI) classes (cO cI cJ cZ a1 ++ cKn cI cJ cZ a1 kn ++ cTr cI cJ cZ a1 tr ++ cRw cI cJ cZ a1 rw ++ cLk cI cJ cZ a1 lk ++ cF0 cI cJ cZ a1 f0 ++ cF1 cI cJ cZ a1 f1 ++ cMd cI cJ cZ a2 mb mg mx mf) H → va_D (fun q : Nat => s.heap.size ≤ q) (cO cI cJ cZ a1 ++ cKn cI cJ cZ a1 kn ++ cTr cI cJ cZ a1 tr ++ cRw cI cJ cZ a1 rw ++ cLk cI cJ cZ a1 lk ++ cF0 cI cJ cZ a1 f0 ++ cF1 cI cJ cZ a1 f1 ++ cMd cI cJ cZ a2 mb mg mx mf) → va_S (fun q : Nat => s.heap.size ≤ q) s.heap H locs → W p l e room_1 s m #[Value.ref b] below meth c H locs 56 11828 (lw_Z below #[Value.ref b] s) (F0 m 769 ls [])) : W p l e room_1 s m #[Value.ref b] below meth c H locs 56 11828 (lw_Z below #[Value.ref b] s) (F0 m 499 ls []) := by
  obtain ⟨hx, hb, hr, hml, hown, hts, hNw, hK, hX, hbl, hlocks⟩ := C0
  have hA : ∀ q : Nat, s.heap.size ≤ q → (fun q : Nat => s.heap.size ≤ q) q := fun _ h => h
  have hbA : ¬ (fun q : Nat => s.heap.size ≤ q) b := Nat.not_le.mpr hbl
  refine lv_aload_n hx hb d_Lw_law_499 rfl (lv_at hl 2 rfl) ?_
  refine lv_aload_n hx hb d_Lw_law_500 rfl (lv_at hl 3 rfl) ?_
  refine lv_iload_n hx hb d_Lw_law_501 rfl (lv_at hl 0 rfl) ?_
  refine lv_iconst (v := 1) hx hb d_Lw_law_502 (by decide) ?_
  refine lv_iadd hx hb d_Lw_law_503 ?_
  refine va_sld hx hb hX hbl hbA hS hin1 d_Lw_law_504 ?_
  refine lv_aload_n hx hb d_Lw_law_505 rfl (lv_at hl 3 rfl) ?_
  refine lv_iload_n hx hb d_Lw_law_506 rfl (lv_at hl 0 rfl) ?_
  refine lv_iconst (v := 2) hx hb d_Lw_law_507 (by decide) ?_
  refine lv_iadd hx hb d_Lw_law_508 ?_
  refine va_sld hx hb hX hbl hbA hS hin2 d_Lw_law_509 ?_
  refine kdV (nn := 56) (rest := []) (w' := (cO cI cJ cZ a1 ++ cKn cI cJ cZ a1 kn ++ cTr cI cJ cZ a1 tr ++ cRw cI cJ cZ a1 rw ++ cLk cI cJ cZ a1 lk ++ cF0 cI cJ cZ a1 f0 ++ cF1 cI cJ cZ a1 f1 ++ cMd cI cJ cZ a2 mb mg mx mf)) (wr := (cKn cI cJ cZ a1 kn ++ cTr cI cJ cZ a1 tr ++ cRw cI cJ cZ a1 rw ++ cF0 cI cJ cZ a1 f0 ++ cF1 cI cJ cZ a1 f1 ++ cMd cI cJ cZ a2 mb mg mx mf)) (st1 := [.int r1]) ⟨hx, hb, hml, hown, hts⟩ (c_Rf_fault l dC dI cI cJ cZ a1 (xs (x3 + 1).toNatClampNeg) (xs (x3 + 2).toNatClampNeg) lk r1 h1) (cwV 2 hts (gd_V tw616 tw617 tw618 tw1 tw619) rfl rfl rfl hd_Rf_fault ⟨Nat.le_of_ble_eq_true rfl, Nat.le_of_ble_eq_true rfl⟩) hNw hK hP hD hS hA (ci := 6) rfl rfl rfl [0, 17, 18, 19, 20, 21, 22, 23] [1, 2, 3, 4, 5, 6, 7, 8, 9, 10, 11, 12, 13, 14, 15, 16, 24, 25, 26, 27, 28, 29, 30, 31, 32, 33, 34, 35, 36, 37, 38, 39, 40, 41, 42, 43, 44, 45, 46, 47, 48, 49, 50, 51, 52, 53, 54, 55] rfl rfl rfl rfl rfl (by decide +kernel) (by decide +kernel) rfl hl.1 rfl (Nat.le_of_ble_eq_true rfl) rfl d_Lw_law_510 ⟨Nat.le_of_ble_eq_true rfl, Nat.le_of_ble_eq_true rfl⟩ (fun H locs hP hD hS => ?_)
  refine lv_aload_n hx hb d_Lw_law_513 rfl (lv_at hl 1 rfl) ?_
  refine lv_aload_n hx hb d_Lw_law_514 rfl (lv_at hl 3 rfl) ?_
  refine lv_iload_n hx hb d_Lw_law_515 rfl (lv_at hl 0 rfl) ?_
  refine lv_iconst (v := 1) hx hb d_Lw_law_516 (by decide) ?_
  refine lv_iadd hx hb d_Lw_law_517 ?_
  refine va_sld hx hb hX hbl hbA hS hin1 d_Lw_law_518 ?_
  refine lv_aload_n hx hb d_Lw_law_519 rfl (lv_at hl 3 rfl) ?_
  refine lv_iload_n hx hb d_Lw_law_520 rfl (lv_at hl 0 rfl) ?_
  refine lv_iconst (v := 2) hx hb d_Lw_law_521 (by decide) ?_
  refine lv_iadd hx hb d_Lw_law_522 ?_
  refine va_sld hx hb hX hbl hbA hS hin2 d_Lw_law_523 ?_
  refine kdV (nn := 56) (rest := [.int r1]) (w' := (cO cI cJ cZ a1 ++ cKn cI cJ cZ a1 kn ++ cTr cI cJ cZ a1 tr ++ cRw cI cJ cZ a1 rw ++ cLk cI cJ cZ a1 lk ++ cF0 cI cJ cZ a1 f0 ++ cF1 cI cJ cZ a1 f1 ++ cMd cI cJ cZ a2 mb mg mx mf)) (wr := (cO cI cJ cZ a1 ++ cKn cI cJ cZ a1 kn ++ cTr cI cJ cZ a1 tr ++ cRw cI cJ cZ a1 rw ++ cLk cI cJ cZ a1 lk ++ cF0 cI cJ cZ a1 f0 ++ cF1 cI cJ cZ a1 f1)) (st1 := [.int r2, .int r1]) ⟨hx, hb, hml, hown, hts⟩ (c_Md_fault l dC dI cI cJ cZ a2 (xs (x3 + 1).toNatClampNeg) (xs (x3 + 2).toNatClampNeg) mb mg mx mf r2 h2) (cwV 2 hts (gd_V tw1025 tw1026 tw1027 tw9 tw1028) rfl rfl rfl hd_Md_fault ⟨Nat.le_of_ble_eq_true rfl, Nat.le_of_ble_eq_true rfl⟩) hNw hK hP hD hS hA (ci := 7) rfl rfl rfl [32, 33, 34, 35, 36, 37, 38, 39, 40, 41, 42, 43, 44, 45, 46, 47, 48, 49, 50, 51, 52, 53, 54, 55] [0, 1, 2, 3, 4, 5, 6, 7, 8, 9, 10, 11, 12, 13, 14, 15, 16, 17, 18, 19, 20, 21, 22, 23, 24, 25, 26, 27, 28, 29, 30, 31] rfl rfl rfl rfl rfl (by decide +kernel) (by decide +kernel) rfl hl.1 rfl (Nat.le_of_ble_eq_true rfl) rfl d_Lw_law_524 ⟨Nat.le_of_ble_eq_true rfl, Nat.le_of_ble_eq_true rfl⟩ (fun H locs hP hD hS => ?_)
  refine lv_icmp_eq (tgt := 769) hx hb d_Lw_law_527 (by decide) (fun hc => ?_) (fun hc => ?_)
  · exact next H locs hP hD hS
  · exact absurd he hc
set_option maxHeartbeats 4000000 in
set_option maxRecDepth 100000 in
theorem law_notes {p : Program} {l : Launch} {e : Env} {s : State} {m : MethodId} {below : List Frame} {meth : Method} {c : Code} {b L : Nat} {xs : Nat → Int32} {dC : Nat → ClassId} {dI : Nat → Nat → Nat} {cI cJ cZ : ClassId} {a1 a2 : Nat → Nat} (C0 : LC p s m meth c b L xs dC dI cI cJ cZ) {x3 : Int32} (kn : KnS) (tr : TrS) (rw : RwS) (lk : LkS) (f0 : FlS) (f1 : FlS) (mb : MbS) (mg : MgS) (mx : MxS) (mf : MfS) (r1 : Int32) (h1 : f_Rf_notes lk = some r1) (r2 : Int32) (h2 : f_Md_notes mg mf = some r2) (he : r1 = r2) {H : Heap} {locs : List Loc} {ls : Array Slot} (hP : va_P (dC, dI) classes (cO cI cJ cZ a1 ++ cKn cI cJ cZ a1 kn ++ cTr cI cJ cZ a1 tr ++ cRw cI cJ cZ a1 rw ++ cLk cI cJ cZ a1 lk ++ cF0 cI cJ cZ a1 f0 ++ cF1 cI cJ cZ a1 f1 ++ cMd cI cJ cZ a2 mb mg mx mf) H) (hD : va_D (fun q : Nat => s.heap.size ≤ q) (cO cI cJ cZ a1 ++ cKn cI cJ cZ a1 kn ++ cTr cI cJ cZ a1 tr ++ cRw cI cJ cZ a1 rw ++ cLk cI cJ cZ a1 lk ++ cF0 cI cJ cZ a1 f0 ++ cF1 cI cJ cZ a1 f1 ++ cMd cI cJ cZ a2 mb mg mx mf)) (hS : va_S (fun q : Nat => s.heap.size ≤ q) s.heap H locs) (hl : lv_has ls 4 [(3, .int x3), (2, .ref (a2 0)), (1, .ref (a1 0)), (0, .ref b)])
    (next : ∀ (H : Heap) (locs : List Loc), va_P (dC, dI) classes (cO cI cJ cZ a1 ++ cKn cI cJ cZ a1 kn ++ cTr cI cJ cZ a1 tr ++ cRw cI cJ cZ a1 rw ++ cLk cI cJ cZ a1 lk ++ cF0 cI cJ cZ a1 f0 ++ cF1 cI cJ cZ a1 f1 ++ cMd cI cJ cZ a2 mb mg mx mf) H → va_D (fun q : Nat => s.heap.size ≤ q) (cO cI cJ cZ a1 ++ cKn cI cJ cZ a1 kn ++ cTr cI cJ cZ a1 tr ++ cRw cI cJ cZ a1 rw ++ cLk cI cJ cZ a1 lk ++ cF0 cI cJ cZ a1 f0 ++ cF1 cI cJ cZ a1 f1 ++ cMd cI cJ cZ a2 mb mg mx mf) → va_S (fun q : Nat => s.heap.size ≤ q) s.heap H locs → W p l e room_1 s m #[Value.ref b] below meth c H locs 56 11828 (lw_Z below #[Value.ref b] s) (F0 m 769 ls [])) : W p l e room_1 s m #[Value.ref b] below meth c H locs 56 11828 (lw_Z below #[Value.ref b] s) (F0 m 532 ls []) := by
  obtain ⟨hx, hb, hr, hml, hown, hts, hNw, hK, hX, hbl, hlocks⟩ := C0
  have hA : ∀ q : Nat, s.heap.size ≤ q → (fun q : Nat => s.heap.size ≤ q) q := fun _ h => h
  have hbA : ¬ (fun q : Nat => s.heap.size ≤ q) b := Nat.not_le.mpr hbl
  refine lv_aload_n hx hb d_Lw_law_532 rfl (lv_at hl 2 rfl) ?_
  refine kdV (nn := 56) (rest := []) (w' := (cO cI cJ cZ a1 ++ cKn cI cJ cZ a1 kn ++ cTr cI cJ cZ a1 tr ++ cRw cI cJ cZ a1 rw ++ cLk cI cJ cZ a1 lk ++ cF0 cI cJ cZ a1 f0 ++ cF1 cI cJ cZ a1 f1 ++ cMd cI cJ cZ a2 mb mg mx mf)) (wr := (cKn cI cJ cZ a1 kn ++ cTr cI cJ cZ a1 tr ++ cRw cI cJ cZ a1 rw ++ cF0 cI cJ cZ a1 f0 ++ cF1 cI cJ cZ a1 f1 ++ cMd cI cJ cZ a2 mb mg mx mf)) (st1 := [.int r1]) ⟨hx, hb, hml, hown, hts⟩ (c_Rf_notes l dC dI cI cJ cZ a1 lk r1 h1) (cwV 0 hts (gd_V tw620 tw621 tw622 tw1 tw623) rfl rfl rfl hd_Rf_notes ⟨Nat.le_of_ble_eq_true rfl, Nat.le_of_ble_eq_true rfl⟩) hNw hK hP hD hS hA (ci := 6) rfl rfl rfl [0, 17, 18, 19, 20, 21, 22, 23] [1, 2, 3, 4, 5, 6, 7, 8, 9, 10, 11, 12, 13, 14, 15, 16, 24, 25, 26, 27, 28, 29, 30, 31, 32, 33, 34, 35, 36, 37, 38, 39, 40, 41, 42, 43, 44, 45, 46, 47, 48, 49, 50, 51, 52, 53, 54, 55] rfl rfl rfl rfl rfl (by decide +kernel) (by decide +kernel) rfl hl.1 rfl (Nat.le_of_ble_eq_true rfl) rfl d_Lw_law_533 ⟨Nat.le_of_ble_eq_true rfl, Nat.le_of_ble_eq_true rfl⟩ (fun H locs hP hD hS => ?_)
  refine lv_aload_n hx hb d_Lw_law_536 rfl (lv_at hl 1 rfl) ?_
  refine kdV (nn := 56) (rest := [.int r1]) (w' := (cO cI cJ cZ a1 ++ cKn cI cJ cZ a1 kn ++ cTr cI cJ cZ a1 tr ++ cRw cI cJ cZ a1 rw ++ cLk cI cJ cZ a1 lk ++ cF0 cI cJ cZ a1 f0 ++ cF1 cI cJ cZ a1 f1 ++ cMd cI cJ cZ a2 mb mg mx mf)) (wr := (cO cI cJ cZ a1 ++ cKn cI cJ cZ a1 kn ++ cTr cI cJ cZ a1 tr ++ cRw cI cJ cZ a1 rw ++ cLk cI cJ cZ a1 lk ++ cF0 cI cJ cZ a1 f0 ++ cF1 cI cJ cZ a1 f1)) (st1 := [.int r2, .int r1]) ⟨hx, hb, hml, hown, hts⟩ (c_Md_notes l dC dI cI cJ cZ a2 mb mg mx mf r2 h2) (cwV 0 hts (gd_V tw1029 tw1030 tw1031 tw9 tw1032) rfl rfl rfl hd_Md_notes ⟨Nat.le_of_ble_eq_true rfl, Nat.le_of_ble_eq_true rfl⟩) hNw hK hP hD hS hA (ci := 7) rfl rfl rfl [32, 33, 34, 35, 36, 37, 38, 39, 40, 41, 42, 43, 44, 45, 46, 47, 48, 49, 50, 51, 52, 53, 54, 55] [0, 1, 2, 3, 4, 5, 6, 7, 8, 9, 10, 11, 12, 13, 14, 15, 16, 17, 18, 19, 20, 21, 22, 23, 24, 25, 26, 27, 28, 29, 30, 31] rfl rfl rfl rfl rfl (by decide +kernel) (by decide +kernel) rfl hl.1 rfl (Nat.le_of_ble_eq_true rfl) rfl d_Lw_law_537 ⟨Nat.le_of_ble_eq_true rfl, Nat.le_of_ble_eq_true rfl⟩ (fun H locs hP hD hS => ?_)
  refine lv_icmp_eq (tgt := 769) hx hb d_Lw_law_540 (by decide) (fun hc => ?_) (fun hc => ?_)
  · exact next H locs hP hD hS
  · exact absurd he hc
set_option maxHeartbeats 4000000 in
set_option maxRecDepth 100000 in
theorem law_note {p : Program} {l : Launch} {e : Env} {s : State} {m : MethodId} {below : List Frame} {meth : Method} {c : Code} {b L : Nat} {xs : Nat → Int32} {dC : Nat → ClassId} {dI : Nat → Nat → Nat} {cI cJ cZ : ClassId} {a1 a2 : Nat → Nat} (C0 : LC p s m meth c b L xs dC dI cI cJ cZ) {x3 : Int32} (hin1 : vp_in (x3 + 1) L) (kn : KnS) (tr : TrS) (rw : RwS) (lk : LkS) (f0 : FlS) (f1 : FlS) (mb : MbS) (mg : MgS) (mx : MxS) (mf : MfS) (r1 : Int32) (h1 : f_Rf_note (xs (x3 + 1).toNatClampNeg) lk = some r1) (r2 : Int32) (h2 : f_Md_note (xs (x3 + 1).toNatClampNeg) mg mf = some r2) (he : r1 = r2) {H : Heap} {locs : List Loc} {ls : Array Slot} (hP : va_P (dC, dI) classes (cO cI cJ cZ a1 ++ cKn cI cJ cZ a1 kn ++ cTr cI cJ cZ a1 tr ++ cRw cI cJ cZ a1 rw ++ cLk cI cJ cZ a1 lk ++ cF0 cI cJ cZ a1 f0 ++ cF1 cI cJ cZ a1 f1 ++ cMd cI cJ cZ a2 mb mg mx mf) H) (hD : va_D (fun q : Nat => s.heap.size ≤ q) (cO cI cJ cZ a1 ++ cKn cI cJ cZ a1 kn ++ cTr cI cJ cZ a1 tr ++ cRw cI cJ cZ a1 rw ++ cLk cI cJ cZ a1 lk ++ cF0 cI cJ cZ a1 f0 ++ cF1 cI cJ cZ a1 f1 ++ cMd cI cJ cZ a2 mb mg mx mf)) (hS : va_S (fun q : Nat => s.heap.size ≤ q) s.heap H locs) (hl : lv_has ls 4 [(3, .int x3), (2, .ref (a2 0)), (1, .ref (a1 0)), (0, .ref b)])
    (next : ∀ (H : Heap) (locs : List Loc), va_P (dC, dI) classes (cO cI cJ cZ a1 ++ cKn cI cJ cZ a1 kn ++ cTr cI cJ cZ a1 tr ++ cRw cI cJ cZ a1 rw ++ cLk cI cJ cZ a1 lk ++ cF0 cI cJ cZ a1 f0 ++ cF1 cI cJ cZ a1 f1 ++ cMd cI cJ cZ a2 mb mg mx mf) H → va_D (fun q : Nat => s.heap.size ≤ q) (cO cI cJ cZ a1 ++ cKn cI cJ cZ a1 kn ++ cTr cI cJ cZ a1 tr ++ cRw cI cJ cZ a1 rw ++ cLk cI cJ cZ a1 lk ++ cF0 cI cJ cZ a1 f0 ++ cF1 cI cJ cZ a1 f1 ++ cMd cI cJ cZ a2 mb mg mx mf) → va_S (fun q : Nat => s.heap.size ≤ q) s.heap H locs → W p l e room_1 s m #[Value.ref b] below meth c H locs 56 11828 (lw_Z below #[Value.ref b] s) (F0 m 769 ls [])) : W p l e room_1 s m #[Value.ref b] below meth c H locs 56 11828 (lw_Z below #[Value.ref b] s) (F0 m 545 ls []) := by
  obtain ⟨hx, hb, hr, hml, hown, hts, hNw, hK, hX, hbl, hlocks⟩ := C0
  have hA : ∀ q : Nat, s.heap.size ≤ q → (fun q : Nat => s.heap.size ≤ q) q := fun _ h => h
  have hbA : ¬ (fun q : Nat => s.heap.size ≤ q) b := Nat.not_le.mpr hbl
  refine lv_aload_n hx hb d_Lw_law_545 rfl (lv_at hl 2 rfl) ?_
  refine lv_aload_n hx hb d_Lw_law_546 rfl (lv_at hl 3 rfl) ?_
  refine lv_iload_n hx hb d_Lw_law_547 rfl (lv_at hl 0 rfl) ?_
  refine lv_iconst (v := 1) hx hb d_Lw_law_548 (by decide) ?_
  refine lv_iadd hx hb d_Lw_law_549 ?_
  refine va_sld hx hb hX hbl hbA hS hin1 d_Lw_law_550 ?_
  refine kdV (nn := 56) (rest := []) (w' := (cO cI cJ cZ a1 ++ cKn cI cJ cZ a1 kn ++ cTr cI cJ cZ a1 tr ++ cRw cI cJ cZ a1 rw ++ cLk cI cJ cZ a1 lk ++ cF0 cI cJ cZ a1 f0 ++ cF1 cI cJ cZ a1 f1 ++ cMd cI cJ cZ a2 mb mg mx mf)) (wr := (cKn cI cJ cZ a1 kn ++ cTr cI cJ cZ a1 tr ++ cRw cI cJ cZ a1 rw ++ cF0 cI cJ cZ a1 f0 ++ cF1 cI cJ cZ a1 f1 ++ cMd cI cJ cZ a2 mb mg mx mf)) (st1 := [.int r1]) ⟨hx, hb, hml, hown, hts⟩ (c_Rf_note l dC dI cI cJ cZ a1 (xs (x3 + 1).toNatClampNeg) lk r1 h1) (cwV 1 hts (gd_V tw624 tw625 tw626 tw1 tw627) rfl rfl rfl hd_Rf_note ⟨Nat.le_of_ble_eq_true rfl, Nat.le_of_ble_eq_true rfl⟩) hNw hK hP hD hS hA (ci := 6) rfl rfl rfl [0, 17, 18, 19, 20, 21, 22, 23] [1, 2, 3, 4, 5, 6, 7, 8, 9, 10, 11, 12, 13, 14, 15, 16, 24, 25, 26, 27, 28, 29, 30, 31, 32, 33, 34, 35, 36, 37, 38, 39, 40, 41, 42, 43, 44, 45, 46, 47, 48, 49, 50, 51, 52, 53, 54, 55] rfl rfl rfl rfl rfl (by decide +kernel) (by decide +kernel) rfl hl.1 rfl (Nat.le_of_ble_eq_true rfl) rfl d_Lw_law_551 ⟨Nat.le_of_ble_eq_true rfl, Nat.le_of_ble_eq_true rfl⟩ (fun H locs hP hD hS => ?_)
  refine lv_aload_n hx hb d_Lw_law_554 rfl (lv_at hl 1 rfl) ?_
  refine lv_aload_n hx hb d_Lw_law_555 rfl (lv_at hl 3 rfl) ?_
  refine lv_iload_n hx hb d_Lw_law_556 rfl (lv_at hl 0 rfl) ?_
  refine lv_iconst (v := 1) hx hb d_Lw_law_557 (by decide) ?_
  refine lv_iadd hx hb d_Lw_law_558 ?_
  refine va_sld hx hb hX hbl hbA hS hin1 d_Lw_law_559 ?_
  refine kdV (nn := 56) (rest := [.int r1]) (w' := (cO cI cJ cZ a1 ++ cKn cI cJ cZ a1 kn ++ cTr cI cJ cZ a1 tr ++ cRw cI cJ cZ a1 rw ++ cLk cI cJ cZ a1 lk ++ cF0 cI cJ cZ a1 f0 ++ cF1 cI cJ cZ a1 f1 ++ cMd cI cJ cZ a2 mb mg mx mf)) (wr := (cO cI cJ cZ a1 ++ cKn cI cJ cZ a1 kn ++ cTr cI cJ cZ a1 tr ++ cRw cI cJ cZ a1 rw ++ cLk cI cJ cZ a1 lk ++ cF0 cI cJ cZ a1 f0 ++ cF1 cI cJ cZ a1 f1)) (st1 := [.int r2, .int r1]) ⟨hx, hb, hml, hown, hts⟩ (c_Md_note l dC dI cI cJ cZ a2 (xs (x3 + 1).toNatClampNeg) mb mg mx mf r2 h2) (cwV 1 hts (gd_V tw1033 tw1034 tw1035 tw9 tw1036) rfl rfl rfl hd_Md_note ⟨Nat.le_of_ble_eq_true rfl, Nat.le_of_ble_eq_true rfl⟩) hNw hK hP hD hS hA (ci := 7) rfl rfl rfl [32, 33, 34, 35, 36, 37, 38, 39, 40, 41, 42, 43, 44, 45, 46, 47, 48, 49, 50, 51, 52, 53, 54, 55] [0, 1, 2, 3, 4, 5, 6, 7, 8, 9, 10, 11, 12, 13, 14, 15, 16, 17, 18, 19, 20, 21, 22, 23, 24, 25, 26, 27, 28, 29, 30, 31] rfl rfl rfl rfl rfl (by decide +kernel) (by decide +kernel) rfl hl.1 rfl (Nat.le_of_ble_eq_true rfl) rfl d_Lw_law_560 ⟨Nat.le_of_ble_eq_true rfl, Nat.le_of_ble_eq_true rfl⟩ (fun H locs hP hD hS => ?_)
  refine lv_icmp_eq (tgt := 769) hx hb d_Lw_law_563 (by decide) (fun hc => ?_) (fun hc => ?_)
  · exact next H locs hP hD hS
  · exact absurd he hc
set_option maxHeartbeats 4000000 in
set_option maxRecDepth 100000 in
theorem law_reached {p : Program} {l : Launch} {e : Env} {s : State} {m : MethodId} {below : List Frame} {meth : Method} {c : Code} {b L : Nat} {xs : Nat → Int32} {dC : Nat → ClassId} {dI : Nat → Nat → Nat} {cI cJ cZ : ClassId} {a1 a2 : Nat → Nat} (C0 : LC p s m meth c b L xs dC dI cI cJ cZ) {x3 : Int32} (hin1 : vp_in (x3 + 1) L) (kn : KnS) (tr : TrS) (rw : RwS) (lk : LkS) (f0 : FlS) (f1 : FlS) (mb : MbS) (mg : MgS) (mx : MxS) (mf : MfS) (r1 : Int32) (h1 : f_Rf_reached (xs (x3 + 1).toNatClampNeg) tr f0 = some r1) (r2 : Int32) (h2 : f_Md_reached (xs (x3 + 1).toNatClampNeg) mb mg mx = some r2) (he : r1 = r2) {H : Heap} {locs : List Loc} {ls : Array Slot} (hP : va_P (dC, dI) classes (cO cI cJ cZ a1 ++ cKn cI cJ cZ a1 kn ++ cTr cI cJ cZ a1 tr ++ cRw cI cJ cZ a1 rw ++ cLk cI cJ cZ a1 lk ++ cF0 cI cJ cZ a1 f0 ++ cF1 cI cJ cZ a1 f1 ++ cMd cI cJ cZ a2 mb mg mx mf) H) (hD : va_D (fun q : Nat => s.heap.size ≤ q) (cO cI cJ cZ a1 ++ cKn cI cJ cZ a1 kn ++ cTr cI cJ cZ a1 tr ++ cRw cI cJ cZ a1 rw ++ cLk cI cJ cZ a1 lk ++ cF0 cI cJ cZ a1 f0 ++ cF1 cI cJ cZ a1 f1 ++ cMd cI cJ cZ a2 mb mg mx mf)) (hS : va_S (fun q : Nat => s.heap.size ≤ q) s.heap H locs) (hl : lv_has ls 4 [(3, .int x3), (2, .ref (a2 0)), (1, .ref (a1 0)), (0, .ref b)])
    (next : ∀ (H : Heap) (locs : List Loc), va_P (dC, dI) classes (cO cI cJ cZ a1 ++ cKn cI cJ cZ a1 kn ++ cTr cI cJ cZ a1 tr ++ cRw cI cJ cZ a1 rw ++ cLk cI cJ cZ a1 lk ++ cF0 cI cJ cZ a1 f0 ++ cF1 cI cJ cZ a1 f1 ++ cMd cI cJ cZ a2 mb mg mx mf) H → va_D (fun q : Nat => s.heap.size ≤ q) (cO cI cJ cZ a1 ++ cKn cI cJ cZ a1 kn ++ cTr cI cJ cZ a1 tr ++ cRw cI cJ cZ a1 rw ++ cLk cI cJ cZ a1 lk ++ cF0 cI cJ cZ a1 f0 ++ cF1 cI cJ cZ a1 f1 ++ cMd cI cJ cZ a2 mb mg mx mf) → va_S (fun q : Nat => s.heap.size ≤ q) s.heap H locs → W p l e room_1 s m #[Value.ref b] below meth c H locs 56 11828 (lw_Z below #[Value.ref b] s) (F0 m 769 ls [])) : W p l e room_1 s m #[Value.ref b] below meth c H locs 56 11828 (lw_Z below #[Value.ref b] s) (F0 m 568 ls []) := by
  obtain ⟨hx, hb, hr, hml, hown, hts, hNw, hK, hX, hbl, hlocks⟩ := C0
  have hA : ∀ q : Nat, s.heap.size ≤ q → (fun q : Nat => s.heap.size ≤ q) q := fun _ h => h
  have hbA : ¬ (fun q : Nat => s.heap.size ≤ q) b := Nat.not_le.mpr hbl
  refine lv_aload_n hx hb d_Lw_law_568 rfl (lv_at hl 2 rfl) ?_
  refine lv_aload_n hx hb d_Lw_law_569 rfl (lv_at hl 3 rfl) ?_
  refine lv_iload_n hx hb d_Lw_law_570 rfl (lv_at hl 0 rfl) ?_
  refine lv_iconst (v := 1) hx hb d_Lw_law_571 (by decide) ?_
  refine lv_iadd hx hb d_Lw_law_572 ?_
  refine va_sld hx hb hX hbl hbA hS hin1 d_Lw_law_573 ?_
  refine kdV (nn := 56) (rest := []) (w' := (cO cI cJ cZ a1 ++ cKn cI cJ cZ a1 kn ++ cTr cI cJ cZ a1 tr ++ cRw cI cJ cZ a1 rw ++ cLk cI cJ cZ a1 lk ++ cF0 cI cJ cZ a1 f0 ++ cF1 cI cJ cZ a1 f1 ++ cMd cI cJ cZ a2 mb mg mx mf)) (wr := (cKn cI cJ cZ a1 kn ++ cRw cI cJ cZ a1 rw ++ cF1 cI cJ cZ a1 f1 ++ cMd cI cJ cZ a2 mb mg mx mf)) (st1 := [.int r1]) ⟨hx, hb, hml, hown, hts⟩ (c_Rf_reached l dC dI cI cJ cZ a1 (xs (x3 + 1).toNatClampNeg) tr lk f0 r1 h1) (cwV 1 hts (gd_V tw628 tw629 tw630 tw1 tw631) rfl rfl rfl hd_Rf_reached ⟨Nat.le_of_ble_eq_true rfl, Nat.le_of_ble_eq_true rfl⟩) hNw hK hP hD hS hA (ci := 6) rfl rfl rfl [0, 4, 5, 6, 7, 8, 9, 10, 11, 12, 13, 14, 17, 18, 19, 20, 21, 22, 23, 24, 25, 26, 27] [1, 2, 3, 15, 16, 28, 29, 30, 31, 32, 33, 34, 35, 36, 37, 38, 39, 40, 41, 42, 43, 44, 45, 46, 47, 48, 49, 50, 51, 52, 53, 54, 55] rfl rfl rfl rfl rfl (by decide +kernel) (by decide +kernel) rfl hl.1 rfl (Nat.le_of_ble_eq_true rfl) rfl d_Lw_law_574 ⟨Nat.le_of_ble_eq_true rfl, Nat.le_of_ble_eq_true rfl⟩ (fun H locs hP hD hS => ?_)
  refine lv_aload_n hx hb d_Lw_law_577 rfl (lv_at hl 1 rfl) ?_
  refine lv_aload_n hx hb d_Lw_law_578 rfl (lv_at hl 3 rfl) ?_
  refine lv_iload_n hx hb d_Lw_law_579 rfl (lv_at hl 0 rfl) ?_
  refine lv_iconst (v := 1) hx hb d_Lw_law_580 (by decide) ?_
  refine lv_iadd hx hb d_Lw_law_581 ?_
  refine va_sld hx hb hX hbl hbA hS hin1 d_Lw_law_582 ?_
  refine kdV (nn := 56) (rest := [.int r1]) (w' := (cO cI cJ cZ a1 ++ cKn cI cJ cZ a1 kn ++ cTr cI cJ cZ a1 tr ++ cRw cI cJ cZ a1 rw ++ cLk cI cJ cZ a1 lk ++ cF0 cI cJ cZ a1 f0 ++ cF1 cI cJ cZ a1 f1 ++ cMd cI cJ cZ a2 mb mg mx mf)) (wr := (cO cI cJ cZ a1 ++ cKn cI cJ cZ a1 kn ++ cTr cI cJ cZ a1 tr ++ cRw cI cJ cZ a1 rw ++ cLk cI cJ cZ a1 lk ++ cF0 cI cJ cZ a1 f0 ++ cF1 cI cJ cZ a1 f1)) (st1 := [.int r2, .int r1]) ⟨hx, hb, hml, hown, hts⟩ (c_Md_reached l dC dI cI cJ cZ a2 (xs (x3 + 1).toNatClampNeg) mb mg mx mf r2 h2) (cwV 1 hts (gd_V tw1037 tw1038 tw1039 tw9 tw1040) rfl rfl rfl hd_Md_reached ⟨Nat.le_of_ble_eq_true rfl, Nat.le_of_ble_eq_true rfl⟩) hNw hK hP hD hS hA (ci := 7) rfl rfl rfl [32, 33, 34, 35, 36, 37, 38, 39, 40, 41, 42, 43, 44, 45, 46, 47, 48, 49, 50, 51, 52, 53, 54, 55] [0, 1, 2, 3, 4, 5, 6, 7, 8, 9, 10, 11, 12, 13, 14, 15, 16, 17, 18, 19, 20, 21, 22, 23, 24, 25, 26, 27, 28, 29, 30, 31] rfl rfl rfl rfl rfl (by decide +kernel) (by decide +kernel) rfl hl.1 rfl (Nat.le_of_ble_eq_true rfl) rfl d_Lw_law_583 ⟨Nat.le_of_ble_eq_true rfl, Nat.le_of_ble_eq_true rfl⟩ (fun H locs hP hD hS => ?_)
  refine lv_icmp_eq (tgt := 769) hx hb d_Lw_law_586 (by decide) (fun hc => ?_) (fun hc => ?_)
  · exact next H locs hP hD hS
  · exact absurd he hc
set_option maxHeartbeats 4000000 in
set_option maxRecDepth 100000 in
theorem law_completes {p : Program} {l : Launch} {e : Env} {s : State} {m : MethodId} {below : List Frame} {meth : Method} {c : Code} {b L : Nat} {xs : Nat → Int32} {dC : Nat → ClassId} {dI : Nat → Nat → Nat} {cI cJ cZ : ClassId} {a1 a2 : Nat → Nat} (C0 : LC p s m meth c b L xs dC dI cI cJ cZ) {x3 : Int32} (hin1 : vp_in (x3 + 1) L) (kn : KnS) (tr : TrS) (rw : RwS) (lk : LkS) (f0 : FlS) (f1 : FlS) (mb : MbS) (mg : MgS) (mx : MxS) (mf : MfS) (r1 : Int32) (h1 : f_Rf_completes (xs (x3 + 1).toNatClampNeg) tr f0 = some r1) (r2 : Int32) (h2 : f_Md_completes (xs (x3 + 1).toNatClampNeg) mb mg mx = some r2) (he : r1 = r2) {H : Heap} {locs : List Loc} {ls : Array Slot} (hP : va_P (dC, dI) classes (cO cI cJ cZ a1 ++ cKn cI cJ cZ a1 kn ++ cTr cI cJ cZ a1 tr ++ cRw cI cJ cZ a1 rw ++ cLk cI cJ cZ a1 lk ++ cF0 cI cJ cZ a1 f0 ++ cF1 cI cJ cZ a1 f1 ++ cMd cI cJ cZ a2 mb mg mx mf) H) (hD : va_D (fun q : Nat => s.heap.size ≤ q) (cO cI cJ cZ a1 ++ cKn cI cJ cZ a1 kn ++ cTr cI cJ cZ a1 tr ++ cRw cI cJ cZ a1 rw ++ cLk cI cJ cZ a1 lk ++ cF0 cI cJ cZ a1 f0 ++ cF1 cI cJ cZ a1 f1 ++ cMd cI cJ cZ a2 mb mg mx mf)) (hS : va_S (fun q : Nat => s.heap.size ≤ q) s.heap H locs) (hl : lv_has ls 4 [(3, .int x3), (2, .ref (a2 0)), (1, .ref (a1 0)), (0, .ref b)])
    (next : ∀ (H : Heap) (locs : List Loc), va_P (dC, dI) classes (cO cI cJ cZ a1 ++ cKn cI cJ cZ a1 kn ++ cTr cI cJ cZ a1 tr ++ cRw cI cJ cZ a1 rw ++ cLk cI cJ cZ a1 lk ++ cF0 cI cJ cZ a1 f0 ++ cF1 cI cJ cZ a1 f1 ++ cMd cI cJ cZ a2 mb mg mx mf) H → va_D (fun q : Nat => s.heap.size ≤ q) (cO cI cJ cZ a1 ++ cKn cI cJ cZ a1 kn ++ cTr cI cJ cZ a1 tr ++ cRw cI cJ cZ a1 rw ++ cLk cI cJ cZ a1 lk ++ cF0 cI cJ cZ a1 f0 ++ cF1 cI cJ cZ a1 f1 ++ cMd cI cJ cZ a2 mb mg mx mf) → va_S (fun q : Nat => s.heap.size ≤ q) s.heap H locs → W p l e room_1 s m #[Value.ref b] below meth c H locs 56 11828 (lw_Z below #[Value.ref b] s) (F0 m 769 ls [])) : W p l e room_1 s m #[Value.ref b] below meth c H locs 56 11828 (lw_Z below #[Value.ref b] s) (F0 m 591 ls []) := by
  obtain ⟨hx, hb, hr, hml, hown, hts, hNw, hK, hX, hbl, hlocks⟩ := C0
  have hA : ∀ q : Nat, s.heap.size ≤ q → (fun q : Nat => s.heap.size ≤ q) q := fun _ h => h
  have hbA : ¬ (fun q : Nat => s.heap.size ≤ q) b := Nat.not_le.mpr hbl
  refine lv_aload_n hx hb d_Lw_law_591 rfl (lv_at hl 2 rfl) ?_
  refine lv_aload_n hx hb d_Lw_law_592 rfl (lv_at hl 3 rfl) ?_
  refine lv_iload_n hx hb d_Lw_law_593 rfl (lv_at hl 0 rfl) ?_
  refine lv_iconst (v := 1) hx hb d_Lw_law_594 (by decide) ?_
  refine lv_iadd hx hb d_Lw_law_595 ?_
  refine va_sld hx hb hX hbl hbA hS hin1 d_Lw_law_596 ?_
  refine kdV (nn := 56) (rest := []) (w' := (cO cI cJ cZ a1 ++ cKn cI cJ cZ a1 kn ++ cTr cI cJ cZ a1 tr ++ cRw cI cJ cZ a1 rw ++ cLk cI cJ cZ a1 lk ++ cF0 cI cJ cZ a1 f0 ++ cF1 cI cJ cZ a1 f1 ++ cMd cI cJ cZ a2 mb mg mx mf)) (wr := (cKn cI cJ cZ a1 kn ++ cRw cI cJ cZ a1 rw ++ cF1 cI cJ cZ a1 f1 ++ cMd cI cJ cZ a2 mb mg mx mf)) (st1 := [.int r1]) ⟨hx, hb, hml, hown, hts⟩ (c_Rf_completes l dC dI cI cJ cZ a1 (xs (x3 + 1).toNatClampNeg) tr lk f0 r1 h1) (cwV 1 hts (gd_V tw633 tw634 tw635 tw1 tw636) rfl rfl rfl hd_Rf_completes ⟨Nat.le_of_ble_eq_true rfl, Nat.le_of_ble_eq_true rfl⟩) hNw hK hP hD hS hA (ci := 6) rfl rfl rfl [0, 4, 5, 6, 7, 8, 9, 10, 11, 12, 13, 14, 17, 18, 19, 20, 21, 22, 23, 24, 25, 26, 27] [1, 2, 3, 15, 16, 28, 29, 30, 31, 32, 33, 34, 35, 36, 37, 38, 39, 40, 41, 42, 43, 44, 45, 46, 47, 48, 49, 50, 51, 52, 53, 54, 55] rfl rfl rfl rfl rfl (by decide +kernel) (by decide +kernel) rfl hl.1 rfl (Nat.le_of_ble_eq_true rfl) rfl d_Lw_law_597 ⟨Nat.le_of_ble_eq_true rfl, Nat.le_of_ble_eq_true rfl⟩ (fun H locs hP hD hS => ?_)
  refine lv_aload_n hx hb d_Lw_law_600 rfl (lv_at hl 1 rfl) ?_
  refine lv_aload_n hx hb d_Lw_law_601 rfl (lv_at hl 3 rfl) ?_
  refine lv_iload_n hx hb d_Lw_law_602 rfl (lv_at hl 0 rfl) ?_
  refine lv_iconst (v := 1) hx hb d_Lw_law_603 (by decide) ?_
  refine lv_iadd hx hb d_Lw_law_604 ?_
  refine va_sld hx hb hX hbl hbA hS hin1 d_Lw_law_605 ?_
  refine kdV (nn := 56) (rest := [.int r1]) (w' := (cO cI cJ cZ a1 ++ cKn cI cJ cZ a1 kn ++ cTr cI cJ cZ a1 tr ++ cRw cI cJ cZ a1 rw ++ cLk cI cJ cZ a1 lk ++ cF0 cI cJ cZ a1 f0 ++ cF1 cI cJ cZ a1 f1 ++ cMd cI cJ cZ a2 mb mg mx mf)) (wr := (cO cI cJ cZ a1 ++ cKn cI cJ cZ a1 kn ++ cTr cI cJ cZ a1 tr ++ cRw cI cJ cZ a1 rw ++ cLk cI cJ cZ a1 lk ++ cF0 cI cJ cZ a1 f0 ++ cF1 cI cJ cZ a1 f1)) (st1 := [.int r2, .int r1]) ⟨hx, hb, hml, hown, hts⟩ (c_Md_completes l dC dI cI cJ cZ a2 (xs (x3 + 1).toNatClampNeg) mb mg mx mf r2 h2) (cwV 1 hts (gd_V tw1045 tw1046 tw1047 tw9 tw1048) rfl rfl rfl hd_Md_completes ⟨Nat.le_of_ble_eq_true rfl, Nat.le_of_ble_eq_true rfl⟩) hNw hK hP hD hS hA (ci := 7) rfl rfl rfl [32, 33, 34, 35, 36, 37, 38, 39, 40, 41, 42, 43, 44, 45, 46, 47, 48, 49, 50, 51, 52, 53, 54, 55] [0, 1, 2, 3, 4, 5, 6, 7, 8, 9, 10, 11, 12, 13, 14, 15, 16, 17, 18, 19, 20, 21, 22, 23, 24, 25, 26, 27, 28, 29, 30, 31] rfl rfl rfl rfl rfl (by decide +kernel) (by decide +kernel) rfl hl.1 rfl (Nat.le_of_ble_eq_true rfl) rfl d_Lw_law_606 ⟨Nat.le_of_ble_eq_true rfl, Nat.le_of_ble_eq_true rfl⟩ (fun H locs hP hD hS => ?_)
  refine lv_icmp_eq (tgt := 769) hx hb d_Lw_law_609 (by decide) (fun hc => ?_) (fun hc => ?_)
  · exact next H locs hP hD hS
  · exact absurd he hc
set_option maxHeartbeats 4000000 in
set_option maxRecDepth 100000 in
theorem law_can {p : Program} {l : Launch} {e : Env} {s : State} {m : MethodId} {below : List Frame} {meth : Method} {c : Code} {b L : Nat} {xs : Nat → Int32} {dC : Nat → ClassId} {dI : Nat → Nat → Nat} {cI cJ cZ : ClassId} {a1 a2 : Nat → Nat} (C0 : LC p s m meth c b L xs dC dI cI cJ cZ) {x3 : Int32} (hin1 : vp_in (x3 + 1) L) (hin2 : vp_in (x3 + 2) L) (kn : KnS) (tr : TrS) (rw : RwS) (lk : LkS) (f0 : FlS) (f1 : FlS) (mb : MbS) (mg : MgS) (mx : MxS) (mf : MfS) (r1 : Int32) (h1 : f_Rf_can (xs (x3 + 1).toNatClampNeg) (xs (x3 + 2).toNatClampNeg) kn tr f0 = some r1) (r2 : Int32) (h2 : f_Md_can (xs (x3 + 1).toNatClampNeg) (xs (x3 + 2).toNatClampNeg) mb mg mx = some r2) (he : r1 = r2) {H : Heap} {locs : List Loc} {ls : Array Slot} (hP : va_P (dC, dI) classes (cO cI cJ cZ a1 ++ cKn cI cJ cZ a1 kn ++ cTr cI cJ cZ a1 tr ++ cRw cI cJ cZ a1 rw ++ cLk cI cJ cZ a1 lk ++ cF0 cI cJ cZ a1 f0 ++ cF1 cI cJ cZ a1 f1 ++ cMd cI cJ cZ a2 mb mg mx mf) H) (hD : va_D (fun q : Nat => s.heap.size ≤ q) (cO cI cJ cZ a1 ++ cKn cI cJ cZ a1 kn ++ cTr cI cJ cZ a1 tr ++ cRw cI cJ cZ a1 rw ++ cLk cI cJ cZ a1 lk ++ cF0 cI cJ cZ a1 f0 ++ cF1 cI cJ cZ a1 f1 ++ cMd cI cJ cZ a2 mb mg mx mf)) (hS : va_S (fun q : Nat => s.heap.size ≤ q) s.heap H locs) (hl : lv_has ls 4 [(3, .int x3), (2, .ref (a2 0)), (1, .ref (a1 0)), (0, .ref b)])
    (next : ∀ (H : Heap) (locs : List Loc), va_P (dC, dI) classes (cO cI cJ cZ a1 ++ cKn cI cJ cZ a1 kn ++ cTr cI cJ cZ a1 tr ++ cRw cI cJ cZ a1 rw ++ cLk cI cJ cZ a1 lk ++ cF0 cI cJ cZ a1 f0 ++ cF1 cI cJ cZ a1 f1 ++ cMd cI cJ cZ a2 mb mg mx mf) H → va_D (fun q : Nat => s.heap.size ≤ q) (cO cI cJ cZ a1 ++ cKn cI cJ cZ a1 kn ++ cTr cI cJ cZ a1 tr ++ cRw cI cJ cZ a1 rw ++ cLk cI cJ cZ a1 lk ++ cF0 cI cJ cZ a1 f0 ++ cF1 cI cJ cZ a1 f1 ++ cMd cI cJ cZ a2 mb mg mx mf) → va_S (fun q : Nat => s.heap.size ≤ q) s.heap H locs → W p l e room_1 s m #[Value.ref b] below meth c H locs 56 11828 (lw_Z below #[Value.ref b] s) (F0 m 769 ls [])) : W p l e room_1 s m #[Value.ref b] below meth c H locs 56 11828 (lw_Z below #[Value.ref b] s) (F0 m 614 ls []) := by
  obtain ⟨hx, hb, hr, hml, hown, hts, hNw, hK, hX, hbl, hlocks⟩ := C0
  have hA : ∀ q : Nat, s.heap.size ≤ q → (fun q : Nat => s.heap.size ≤ q) q := fun _ h => h
  have hbA : ¬ (fun q : Nat => s.heap.size ≤ q) b := Nat.not_le.mpr hbl
  refine lv_aload_n hx hb d_Lw_law_614 rfl (lv_at hl 2 rfl) ?_
  refine lv_aload_n hx hb d_Lw_law_615 rfl (lv_at hl 3 rfl) ?_
  refine lv_iload_n hx hb d_Lw_law_616 rfl (lv_at hl 0 rfl) ?_
  refine lv_iconst (v := 1) hx hb d_Lw_law_617 (by decide) ?_
  refine lv_iadd hx hb d_Lw_law_618 ?_
  refine va_sld hx hb hX hbl hbA hS hin1 d_Lw_law_619 ?_
  refine lv_aload_n hx hb d_Lw_law_620 rfl (lv_at hl 3 rfl) ?_
  refine lv_iload_n hx hb d_Lw_law_621 rfl (lv_at hl 0 rfl) ?_
  refine lv_iconst (v := 2) hx hb d_Lw_law_622 (by decide) ?_
  refine lv_iadd hx hb d_Lw_law_623 ?_
  refine va_sld hx hb hX hbl hbA hS hin2 d_Lw_law_624 ?_
  refine kdV (nn := 56) (rest := []) (w' := (cO cI cJ cZ a1 ++ cKn cI cJ cZ a1 kn ++ cTr cI cJ cZ a1 tr ++ cRw cI cJ cZ a1 rw ++ cLk cI cJ cZ a1 lk ++ cF0 cI cJ cZ a1 f0 ++ cF1 cI cJ cZ a1 f1 ++ cMd cI cJ cZ a2 mb mg mx mf)) (wr := (cRw cI cJ cZ a1 rw ++ cF1 cI cJ cZ a1 f1 ++ cMd cI cJ cZ a2 mb mg mx mf)) (st1 := [.int r1]) ⟨hx, hb, hml, hown, hts⟩ (c_Rf_can l dC dI cI cJ cZ a1 (xs (x3 + 1).toNatClampNeg) (xs (x3 + 2).toNatClampNeg) kn tr lk f0 r1 h1) (cwV 2 hts (gd_V tw638 tw639 tw640 tw1 tw641) rfl rfl rfl hd_Rf_can ⟨Nat.le_of_ble_eq_true rfl, Nat.le_of_ble_eq_true rfl⟩) hNw hK hP hD hS hA (ci := 6) rfl rfl rfl [0, 1, 2, 3, 4, 5, 6, 7, 8, 9, 10, 11, 12, 13, 14, 17, 18, 19, 20, 21, 22, 23, 24, 25, 26, 27] [15, 16, 28, 29, 30, 31, 32, 33, 34, 35, 36, 37, 38, 39, 40, 41, 42, 43, 44, 45, 46, 47, 48, 49, 50, 51, 52, 53, 54, 55] rfl rfl rfl rfl rfl (by decide +kernel) (by decide +kernel) rfl hl.1 rfl (Nat.le_of_ble_eq_true rfl) rfl d_Lw_law_625 ⟨Nat.le_of_ble_eq_true rfl, Nat.le_of_ble_eq_true rfl⟩ (fun H locs hP hD hS => ?_)
  refine lv_aload_n hx hb d_Lw_law_628 rfl (lv_at hl 1 rfl) ?_
  refine lv_aload_n hx hb d_Lw_law_629 rfl (lv_at hl 3 rfl) ?_
  refine lv_iload_n hx hb d_Lw_law_630 rfl (lv_at hl 0 rfl) ?_
  refine lv_iconst (v := 1) hx hb d_Lw_law_631 (by decide) ?_
  refine lv_iadd hx hb d_Lw_law_632 ?_
  refine va_sld hx hb hX hbl hbA hS hin1 d_Lw_law_633 ?_
  refine lv_aload_n hx hb d_Lw_law_634 rfl (lv_at hl 3 rfl) ?_
  refine lv_iload_n hx hb d_Lw_law_635 rfl (lv_at hl 0 rfl) ?_
  refine lv_iconst (v := 2) hx hb d_Lw_law_636 (by decide) ?_
  refine lv_iadd hx hb d_Lw_law_637 ?_
  refine va_sld hx hb hX hbl hbA hS hin2 d_Lw_law_638 ?_
  refine kdV (nn := 56) (rest := [.int r1]) (w' := (cO cI cJ cZ a1 ++ cKn cI cJ cZ a1 kn ++ cTr cI cJ cZ a1 tr ++ cRw cI cJ cZ a1 rw ++ cLk cI cJ cZ a1 lk ++ cF0 cI cJ cZ a1 f0 ++ cF1 cI cJ cZ a1 f1 ++ cMd cI cJ cZ a2 mb mg mx mf)) (wr := (cO cI cJ cZ a1 ++ cKn cI cJ cZ a1 kn ++ cTr cI cJ cZ a1 tr ++ cRw cI cJ cZ a1 rw ++ cLk cI cJ cZ a1 lk ++ cF0 cI cJ cZ a1 f0 ++ cF1 cI cJ cZ a1 f1)) (st1 := [.int r2, .int r1]) ⟨hx, hb, hml, hown, hts⟩ (c_Md_can l dC dI cI cJ cZ a2 (xs (x3 + 1).toNatClampNeg) (xs (x3 + 2).toNatClampNeg) mb mg mx mf r2 h2) (cwV 2 hts (gd_V tw1049 tw1050 tw1051 tw9 tw1052) rfl rfl rfl hd_Md_can ⟨Nat.le_of_ble_eq_true rfl, Nat.le_of_ble_eq_true rfl⟩) hNw hK hP hD hS hA (ci := 7) rfl rfl rfl [32, 33, 34, 35, 36, 37, 38, 39, 40, 41, 42, 43, 44, 45, 46, 47, 48, 49, 50, 51, 52, 53, 54, 55] [0, 1, 2, 3, 4, 5, 6, 7, 8, 9, 10, 11, 12, 13, 14, 15, 16, 17, 18, 19, 20, 21, 22, 23, 24, 25, 26, 27, 28, 29, 30, 31] rfl rfl rfl rfl rfl (by decide +kernel) (by decide +kernel) rfl hl.1 rfl (Nat.le_of_ble_eq_true rfl) rfl d_Lw_law_639 ⟨Nat.le_of_ble_eq_true rfl, Nat.le_of_ble_eq_true rfl⟩ (fun H locs hP hD hS => ?_)
  refine lv_icmp_eq (tgt := 769) hx hb d_Lw_law_642 (by decide) (fun hc => ?_) (fun hc => ?_)
  · exact next H locs hP hD hS
  · exact absurd he hc
set_option maxHeartbeats 4000000 in
set_option maxRecDepth 100000 in
theorem law_target {p : Program} {l : Launch} {e : Env} {s : State} {m : MethodId} {below : List Frame} {meth : Method} {c : Code} {b L : Nat} {xs : Nat → Int32} {dC : Nat → ClassId} {dI : Nat → Nat → Nat} {cI cJ cZ : ClassId} {a1 a2 : Nat → Nat} (C0 : LC p s m meth c b L xs dC dI cI cJ cZ) {x3 : Int32} (hin1 : vp_in (x3 + 1) L) (kn : KnS) (tr : TrS) (rw : RwS) (lk : LkS) (f0 : FlS) (f1 : FlS) (mb : MbS) (mg : MgS) (mx : MxS) (mf : MfS) (r1 : Int32) (h1 : f_Rf_target (xs (x3 + 1).toNatClampNeg) tr lk = some r1) (r2 : Int32) (h2 : f_Md_target (xs (x3 + 1).toNatClampNeg) mb mg = some r2) (he : r1 = r2) {H : Heap} {locs : List Loc} {ls : Array Slot} (hP : va_P (dC, dI) classes (cO cI cJ cZ a1 ++ cKn cI cJ cZ a1 kn ++ cTr cI cJ cZ a1 tr ++ cRw cI cJ cZ a1 rw ++ cLk cI cJ cZ a1 lk ++ cF0 cI cJ cZ a1 f0 ++ cF1 cI cJ cZ a1 f1 ++ cMd cI cJ cZ a2 mb mg mx mf) H) (hD : va_D (fun q : Nat => s.heap.size ≤ q) (cO cI cJ cZ a1 ++ cKn cI cJ cZ a1 kn ++ cTr cI cJ cZ a1 tr ++ cRw cI cJ cZ a1 rw ++ cLk cI cJ cZ a1 lk ++ cF0 cI cJ cZ a1 f0 ++ cF1 cI cJ cZ a1 f1 ++ cMd cI cJ cZ a2 mb mg mx mf)) (hS : va_S (fun q : Nat => s.heap.size ≤ q) s.heap H locs) (hl : lv_has ls 4 [(3, .int x3), (2, .ref (a2 0)), (1, .ref (a1 0)), (0, .ref b)])
    (next : ∀ (H : Heap) (locs : List Loc), va_P (dC, dI) classes (cO cI cJ cZ a1 ++ cKn cI cJ cZ a1 kn ++ cTr cI cJ cZ a1 tr ++ cRw cI cJ cZ a1 rw ++ cLk cI cJ cZ a1 lk ++ cF0 cI cJ cZ a1 f0 ++ cF1 cI cJ cZ a1 f1 ++ cMd cI cJ cZ a2 mb mg mx mf) H → va_D (fun q : Nat => s.heap.size ≤ q) (cO cI cJ cZ a1 ++ cKn cI cJ cZ a1 kn ++ cTr cI cJ cZ a1 tr ++ cRw cI cJ cZ a1 rw ++ cLk cI cJ cZ a1 lk ++ cF0 cI cJ cZ a1 f0 ++ cF1 cI cJ cZ a1 f1 ++ cMd cI cJ cZ a2 mb mg mx mf) → va_S (fun q : Nat => s.heap.size ≤ q) s.heap H locs → W p l e room_1 s m #[Value.ref b] below meth c H locs 56 11828 (lw_Z below #[Value.ref b] s) (F0 m 769 ls [])) : W p l e room_1 s m #[Value.ref b] below meth c H locs 56 11828 (lw_Z below #[Value.ref b] s) (F0 m 647 ls []) := by
  obtain ⟨hx, hb, hr, hml, hown, hts, hNw, hK, hX, hbl, hlocks⟩ := C0
  have hA : ∀ q : Nat, s.heap.size ≤ q → (fun q : Nat => s.heap.size ≤ q) q := fun _ h => h
  have hbA : ¬ (fun q : Nat => s.heap.size ≤ q) b := Nat.not_le.mpr hbl
  refine lv_aload_n hx hb d_Lw_law_647 rfl (lv_at hl 2 rfl) ?_
  refine lv_aload_n hx hb d_Lw_law_648 rfl (lv_at hl 3 rfl) ?_
  refine lv_iload_n hx hb d_Lw_law_649 rfl (lv_at hl 0 rfl) ?_
  refine lv_iconst (v := 1) hx hb d_Lw_law_650 (by decide) ?_
  refine lv_iadd hx hb d_Lw_law_651 ?_
  refine va_sld hx hb hX hbl hbA hS hin1 d_Lw_law_652 ?_
  refine kdV (nn := 56) (rest := []) (w' := (cO cI cJ cZ a1 ++ cKn cI cJ cZ a1 kn ++ cTr cI cJ cZ a1 tr ++ cRw cI cJ cZ a1 rw ++ cLk cI cJ cZ a1 lk ++ cF0 cI cJ cZ a1 f0 ++ cF1 cI cJ cZ a1 f1 ++ cMd cI cJ cZ a2 mb mg mx mf)) (wr := (cKn cI cJ cZ a1 kn ++ cRw cI cJ cZ a1 rw ++ cF0 cI cJ cZ a1 f0 ++ cF1 cI cJ cZ a1 f1 ++ cMd cI cJ cZ a2 mb mg mx mf)) (st1 := [.int r1]) ⟨hx, hb, hml, hown, hts⟩ (c_Rf_target l dC dI cI cJ cZ a1 (xs (x3 + 1).toNatClampNeg) tr lk r1 h1) (cwV 1 hts (gd_V tw643 tw644 tw645 tw1 tw646) rfl rfl rfl hd_Rf_target ⟨Nat.le_of_ble_eq_true rfl, Nat.le_of_ble_eq_true rfl⟩) hNw hK hP hD hS hA (ci := 6) rfl rfl rfl [0, 4, 5, 6, 7, 8, 9, 10, 11, 12, 13, 14, 17, 18, 19, 20, 21, 22, 23] [1, 2, 3, 15, 16, 24, 25, 26, 27, 28, 29, 30, 31, 32, 33, 34, 35, 36, 37, 38, 39, 40, 41, 42, 43, 44, 45, 46, 47, 48, 49, 50, 51, 52, 53, 54, 55] rfl rfl rfl rfl rfl (by decide +kernel) (by decide +kernel) rfl hl.1 rfl (Nat.le_of_ble_eq_true rfl) rfl d_Lw_law_653 ⟨Nat.le_of_ble_eq_true rfl, Nat.le_of_ble_eq_true rfl⟩ (fun H locs hP hD hS => ?_)
  refine lv_aload_n hx hb d_Lw_law_656 rfl (lv_at hl 1 rfl) ?_
  refine lv_aload_n hx hb d_Lw_law_657 rfl (lv_at hl 3 rfl) ?_
  refine lv_iload_n hx hb d_Lw_law_658 rfl (lv_at hl 0 rfl) ?_
  refine lv_iconst (v := 1) hx hb d_Lw_law_659 (by decide) ?_
  refine lv_iadd hx hb d_Lw_law_660 ?_
  refine va_sld hx hb hX hbl hbA hS hin1 d_Lw_law_661 ?_
  refine kdV (nn := 56) (rest := [.int r1]) (w' := (cO cI cJ cZ a1 ++ cKn cI cJ cZ a1 kn ++ cTr cI cJ cZ a1 tr ++ cRw cI cJ cZ a1 rw ++ cLk cI cJ cZ a1 lk ++ cF0 cI cJ cZ a1 f0 ++ cF1 cI cJ cZ a1 f1 ++ cMd cI cJ cZ a2 mb mg mx mf)) (wr := (cO cI cJ cZ a1 ++ cKn cI cJ cZ a1 kn ++ cTr cI cJ cZ a1 tr ++ cRw cI cJ cZ a1 rw ++ cLk cI cJ cZ a1 lk ++ cF0 cI cJ cZ a1 f0 ++ cF1 cI cJ cZ a1 f1)) (st1 := [.int r2, .int r1]) ⟨hx, hb, hml, hown, hts⟩ (c_Md_target l dC dI cI cJ cZ a2 (xs (x3 + 1).toNatClampNeg) mb mg mx mf r2 h2) (cwV 1 hts (gd_V tw1053 tw1054 tw1055 tw9 tw1056) rfl rfl rfl hd_Md_target ⟨Nat.le_of_ble_eq_true rfl, Nat.le_of_ble_eq_true rfl⟩) hNw hK hP hD hS hA (ci := 7) rfl rfl rfl [32, 33, 34, 35, 36, 37, 38, 39, 40, 41, 42, 43, 44, 45, 46, 47, 48, 49, 50, 51, 52, 53, 54, 55] [0, 1, 2, 3, 4, 5, 6, 7, 8, 9, 10, 11, 12, 13, 14, 15, 16, 17, 18, 19, 20, 21, 22, 23, 24, 25, 26, 27, 28, 29, 30, 31] rfl rfl rfl rfl rfl (by decide +kernel) (by decide +kernel) rfl hl.1 rfl (Nat.le_of_ble_eq_true rfl) rfl d_Lw_law_662 ⟨Nat.le_of_ble_eq_true rfl, Nat.le_of_ble_eq_true rfl⟩ (fun H locs hP hD hS => ?_)
  refine lv_icmp_eq (tgt := 769) hx hb d_Lw_law_665 (by decide) (fun hc => ?_) (fun hc => ?_)
  · exact next H locs hP hD hS
  · exact absurd he hc
set_option maxHeartbeats 4000000 in
set_option maxRecDepth 100000 in
theorem law_walked {p : Program} {l : Launch} {e : Env} {s : State} {m : MethodId} {below : List Frame} {meth : Method} {c : Code} {b L : Nat} {xs : Nat → Int32} {dC : Nat → ClassId} {dI : Nat → Nat → Nat} {cI cJ cZ : ClassId} {a1 a2 : Nat → Nat} (C0 : LC p s m meth c b L xs dC dI cI cJ cZ) {x3 : Int32} (hin1 : vp_in (x3 + 1) L) (kn : KnS) (tr : TrS) (rw : RwS) (lk : LkS) (f0 : FlS) (f1 : FlS) (mb : MbS) (mg : MgS) (mx : MxS) (mf : MfS) (r1 : Int32) (h1 : f_Rf_walked (xs (x3 + 1).toNatClampNeg) tr f1 = some r1) (r2 : Int32) (h2 : f_Md_walked (xs (x3 + 1).toNatClampNeg) mb mg mx = some r2) (he : r1 = r2) {H : Heap} {locs : List Loc} {ls : Array Slot} (hP : va_P (dC, dI) classes (cO cI cJ cZ a1 ++ cKn cI cJ cZ a1 kn ++ cTr cI cJ cZ a1 tr ++ cRw cI cJ cZ a1 rw ++ cLk cI cJ cZ a1 lk ++ cF0 cI cJ cZ a1 f0 ++ cF1 cI cJ cZ a1 f1 ++ cMd cI cJ cZ a2 mb mg mx mf) H) (hD : va_D (fun q : Nat => s.heap.size ≤ q) (cO cI cJ cZ a1 ++ cKn cI cJ cZ a1 kn ++ cTr cI cJ cZ a1 tr ++ cRw cI cJ cZ a1 rw ++ cLk cI cJ cZ a1 lk ++ cF0 cI cJ cZ a1 f0 ++ cF1 cI cJ cZ a1 f1 ++ cMd cI cJ cZ a2 mb mg mx mf)) (hS : va_S (fun q : Nat => s.heap.size ≤ q) s.heap H locs) (hl : lv_has ls 4 [(3, .int x3), (2, .ref (a2 0)), (1, .ref (a1 0)), (0, .ref b)])
    (next : ∀ (H : Heap) (locs : List Loc), va_P (dC, dI) classes (cO cI cJ cZ a1 ++ cKn cI cJ cZ a1 kn ++ cTr cI cJ cZ a1 tr ++ cRw cI cJ cZ a1 rw ++ cLk cI cJ cZ a1 lk ++ cF0 cI cJ cZ a1 f0 ++ cF1 cI cJ cZ a1 f1 ++ cMd cI cJ cZ a2 mb mg mx mf) H → va_D (fun q : Nat => s.heap.size ≤ q) (cO cI cJ cZ a1 ++ cKn cI cJ cZ a1 kn ++ cTr cI cJ cZ a1 tr ++ cRw cI cJ cZ a1 rw ++ cLk cI cJ cZ a1 lk ++ cF0 cI cJ cZ a1 f0 ++ cF1 cI cJ cZ a1 f1 ++ cMd cI cJ cZ a2 mb mg mx mf) → va_S (fun q : Nat => s.heap.size ≤ q) s.heap H locs → W p l e room_1 s m #[Value.ref b] below meth c H locs 56 11828 (lw_Z below #[Value.ref b] s) (F0 m 769 ls [])) : W p l e room_1 s m #[Value.ref b] below meth c H locs 56 11828 (lw_Z below #[Value.ref b] s) (F0 m 670 ls []) := by
  obtain ⟨hx, hb, hr, hml, hown, hts, hNw, hK, hX, hbl, hlocks⟩ := C0
  have hA : ∀ q : Nat, s.heap.size ≤ q → (fun q : Nat => s.heap.size ≤ q) q := fun _ h => h
  have hbA : ¬ (fun q : Nat => s.heap.size ≤ q) b := Nat.not_le.mpr hbl
  refine lv_aload_n hx hb d_Lw_law_670 rfl (lv_at hl 2 rfl) ?_
  refine lv_aload_n hx hb d_Lw_law_671 rfl (lv_at hl 3 rfl) ?_
  refine lv_iload_n hx hb d_Lw_law_672 rfl (lv_at hl 0 rfl) ?_
  refine lv_iconst (v := 1) hx hb d_Lw_law_673 (by decide) ?_
  refine lv_iadd hx hb d_Lw_law_674 ?_
  refine va_sld hx hb hX hbl hbA hS hin1 d_Lw_law_675 ?_
  refine kdV (nn := 56) (rest := []) (w' := (cO cI cJ cZ a1 ++ cKn cI cJ cZ a1 kn ++ cTr cI cJ cZ a1 tr ++ cRw cI cJ cZ a1 rw ++ cLk cI cJ cZ a1 lk ++ cF0 cI cJ cZ a1 f0 ++ cF1 cI cJ cZ a1 f1 ++ cMd cI cJ cZ a2 mb mg mx mf)) (wr := (cKn cI cJ cZ a1 kn ++ cRw cI cJ cZ a1 rw ++ cF0 cI cJ cZ a1 f0 ++ cMd cI cJ cZ a2 mb mg mx mf)) (st1 := [.int r1]) ⟨hx, hb, hml, hown, hts⟩ (c_Rf_walked l dC dI cI cJ cZ a1 (xs (x3 + 1).toNatClampNeg) tr lk f1 r1 h1) (cwV 1 hts (gd_V tw647 tw648 tw649 tw1 tw650) rfl rfl rfl hd_Rf_walked ⟨Nat.le_of_ble_eq_true rfl, Nat.le_of_ble_eq_true rfl⟩) hNw hK hP hD hS hA (ci := 6) rfl rfl rfl [0, 4, 5, 6, 7, 8, 9, 10, 11, 12, 13, 14, 17, 18, 19, 20, 21, 22, 23, 28, 29, 30, 31] [1, 2, 3, 15, 16, 24, 25, 26, 27, 32, 33, 34, 35, 36, 37, 38, 39, 40, 41, 42, 43, 44, 45, 46, 47, 48, 49, 50, 51, 52, 53, 54, 55] rfl rfl rfl rfl rfl (by decide +kernel) (by decide +kernel) rfl hl.1 rfl (Nat.le_of_ble_eq_true rfl) rfl d_Lw_law_676 ⟨Nat.le_of_ble_eq_true rfl, Nat.le_of_ble_eq_true rfl⟩ (fun H locs hP hD hS => ?_)
  refine lv_aload_n hx hb d_Lw_law_679 rfl (lv_at hl 1 rfl) ?_
  refine lv_aload_n hx hb d_Lw_law_680 rfl (lv_at hl 3 rfl) ?_
  refine lv_iload_n hx hb d_Lw_law_681 rfl (lv_at hl 0 rfl) ?_
  refine lv_iconst (v := 1) hx hb d_Lw_law_682 (by decide) ?_
  refine lv_iadd hx hb d_Lw_law_683 ?_
  refine va_sld hx hb hX hbl hbA hS hin1 d_Lw_law_684 ?_
  refine kdV (nn := 56) (rest := [.int r1]) (w' := (cO cI cJ cZ a1 ++ cKn cI cJ cZ a1 kn ++ cTr cI cJ cZ a1 tr ++ cRw cI cJ cZ a1 rw ++ cLk cI cJ cZ a1 lk ++ cF0 cI cJ cZ a1 f0 ++ cF1 cI cJ cZ a1 f1 ++ cMd cI cJ cZ a2 mb mg mx mf)) (wr := (cO cI cJ cZ a1 ++ cKn cI cJ cZ a1 kn ++ cTr cI cJ cZ a1 tr ++ cRw cI cJ cZ a1 rw ++ cLk cI cJ cZ a1 lk ++ cF0 cI cJ cZ a1 f0 ++ cF1 cI cJ cZ a1 f1)) (st1 := [.int r2, .int r1]) ⟨hx, hb, hml, hown, hts⟩ (c_Md_walked l dC dI cI cJ cZ a2 (xs (x3 + 1).toNatClampNeg) mb mg mx mf r2 h2) (cwV 1 hts (gd_V tw1057 tw1058 tw1059 tw9 tw1060) rfl rfl rfl hd_Md_walked ⟨Nat.le_of_ble_eq_true rfl, Nat.le_of_ble_eq_true rfl⟩) hNw hK hP hD hS hA (ci := 7) rfl rfl rfl [32, 33, 34, 35, 36, 37, 38, 39, 40, 41, 42, 43, 44, 45, 46, 47, 48, 49, 50, 51, 52, 53, 54, 55] [0, 1, 2, 3, 4, 5, 6, 7, 8, 9, 10, 11, 12, 13, 14, 15, 16, 17, 18, 19, 20, 21, 22, 23, 24, 25, 26, 27, 28, 29, 30, 31] rfl rfl rfl rfl rfl (by decide +kernel) (by decide +kernel) rfl hl.1 rfl (Nat.le_of_ble_eq_true rfl) rfl d_Lw_law_685 ⟨Nat.le_of_ble_eq_true rfl, Nat.le_of_ble_eq_true rfl⟩ (fun H locs hP hD hS => ?_)
  refine lv_icmp_eq (tgt := 769) hx hb d_Lw_law_688 (by decide) (fun hc => ?_) (fun hc => ?_)
  · exact next H locs hP hD hS
  · exact absurd he hc
set_option maxHeartbeats 4000000 in
set_option maxRecDepth 100000 in
theorem law_ends {p : Program} {l : Launch} {e : Env} {s : State} {m : MethodId} {below : List Frame} {meth : Method} {c : Code} {b L : Nat} {xs : Nat → Int32} {dC : Nat → ClassId} {dI : Nat → Nat → Nat} {cI cJ cZ : ClassId} {a1 a2 : Nat → Nat} (C0 : LC p s m meth c b L xs dC dI cI cJ cZ) {x3 : Int32} (hin1 : vp_in (x3 + 1) L) (hin2 : vp_in (x3 + 2) L) (hin3 : vp_in (x3 + 3) L) (kn : KnS) (tr : TrS) (rw : RwS) (lk : LkS) (f0 : FlS) (f1 : FlS) (mb : MbS) (mg : MgS) (mx : MxS) (mf : MfS) (r1 : Int32) (h1 : f_Rf_ends (xs (x3 + 1).toNatClampNeg) (xs (x3 + 2).toNatClampNeg) (xs (x3 + 3).toNatClampNeg) kn tr f1 = some r1) (r2 : Int32) (h2 : f_Md_ends (xs (x3 + 1).toNatClampNeg) (xs (x3 + 2).toNatClampNeg) (xs (x3 + 3).toNatClampNeg) mb mg mx = some r2) (he : r1 = r2) {H : Heap} {locs : List Loc} {ls : Array Slot} (hP : va_P (dC, dI) classes (cO cI cJ cZ a1 ++ cKn cI cJ cZ a1 kn ++ cTr cI cJ cZ a1 tr ++ cRw cI cJ cZ a1 rw ++ cLk cI cJ cZ a1 lk ++ cF0 cI cJ cZ a1 f0 ++ cF1 cI cJ cZ a1 f1 ++ cMd cI cJ cZ a2 mb mg mx mf) H) (hD : va_D (fun q : Nat => s.heap.size ≤ q) (cO cI cJ cZ a1 ++ cKn cI cJ cZ a1 kn ++ cTr cI cJ cZ a1 tr ++ cRw cI cJ cZ a1 rw ++ cLk cI cJ cZ a1 lk ++ cF0 cI cJ cZ a1 f0 ++ cF1 cI cJ cZ a1 f1 ++ cMd cI cJ cZ a2 mb mg mx mf)) (hS : va_S (fun q : Nat => s.heap.size ≤ q) s.heap H locs) (hl : lv_has ls 4 [(3, .int x3), (2, .ref (a2 0)), (1, .ref (a1 0)), (0, .ref b)])
    (next : ∀ (H : Heap) (locs : List Loc), va_P (dC, dI) classes (cO cI cJ cZ a1 ++ cKn cI cJ cZ a1 kn ++ cTr cI cJ cZ a1 tr ++ cRw cI cJ cZ a1 rw ++ cLk cI cJ cZ a1 lk ++ cF0 cI cJ cZ a1 f0 ++ cF1 cI cJ cZ a1 f1 ++ cMd cI cJ cZ a2 mb mg mx mf) H → va_D (fun q : Nat => s.heap.size ≤ q) (cO cI cJ cZ a1 ++ cKn cI cJ cZ a1 kn ++ cTr cI cJ cZ a1 tr ++ cRw cI cJ cZ a1 rw ++ cLk cI cJ cZ a1 lk ++ cF0 cI cJ cZ a1 f0 ++ cF1 cI cJ cZ a1 f1 ++ cMd cI cJ cZ a2 mb mg mx mf) → va_S (fun q : Nat => s.heap.size ≤ q) s.heap H locs → W p l e room_1 s m #[Value.ref b] below meth c H locs 56 11828 (lw_Z below #[Value.ref b] s) (F0 m 769 ls [])) : W p l e room_1 s m #[Value.ref b] below meth c H locs 56 11828 (lw_Z below #[Value.ref b] s) (F0 m 693 ls []) := by
  obtain ⟨hx, hb, hr, hml, hown, hts, hNw, hK, hX, hbl, hlocks⟩ := C0
  have hA : ∀ q : Nat, s.heap.size ≤ q → (fun q : Nat => s.heap.size ≤ q) q := fun _ h => h
  have hbA : ¬ (fun q : Nat => s.heap.size ≤ q) b := Nat.not_le.mpr hbl
  refine lv_aload_n hx hb d_Lw_law_693 rfl (lv_at hl 2 rfl) ?_
  refine lv_aload_n hx hb d_Lw_law_694 rfl (lv_at hl 3 rfl) ?_
  refine lv_iload_n hx hb d_Lw_law_695 rfl (lv_at hl 0 rfl) ?_
  refine lv_iconst (v := 1) hx hb d_Lw_law_696 (by decide) ?_
  refine lv_iadd hx hb d_Lw_law_697 ?_
  refine va_sld hx hb hX hbl hbA hS hin1 d_Lw_law_698 ?_
  refine lv_aload_n hx hb d_Lw_law_699 rfl (lv_at hl 3 rfl) ?_
  refine lv_iload_n hx hb d_Lw_law_700 rfl (lv_at hl 0 rfl) ?_
  refine lv_iconst (v := 2) hx hb d_Lw_law_701 (by decide) ?_
  refine lv_iadd hx hb d_Lw_law_702 ?_
  refine va_sld hx hb hX hbl hbA hS hin2 d_Lw_law_703 ?_
  refine lv_aload_n hx hb d_Lw_law_704 rfl (lv_at hl 3 rfl) ?_
  refine lv_iload_n hx hb d_Lw_law_705 rfl (lv_at hl 0 rfl) ?_
  refine lv_iconst (v := 3) hx hb d_Lw_law_706 (by decide) ?_
  refine lv_iadd hx hb d_Lw_law_707 ?_
  refine va_sld hx hb hX hbl hbA hS hin3 d_Lw_law_708 ?_
  refine kdV (nn := 56) (rest := []) (w' := (cO cI cJ cZ a1 ++ cKn cI cJ cZ a1 kn ++ cTr cI cJ cZ a1 tr ++ cRw cI cJ cZ a1 rw ++ cLk cI cJ cZ a1 lk ++ cF0 cI cJ cZ a1 f0 ++ cF1 cI cJ cZ a1 f1 ++ cMd cI cJ cZ a2 mb mg mx mf)) (wr := (cRw cI cJ cZ a1 rw ++ cF0 cI cJ cZ a1 f0 ++ cMd cI cJ cZ a2 mb mg mx mf)) (st1 := [.int r1]) ⟨hx, hb, hml, hown, hts⟩ (c_Rf_ends l dC dI cI cJ cZ a1 (xs (x3 + 1).toNatClampNeg) (xs (x3 + 2).toNatClampNeg) (xs (x3 + 3).toNatClampNeg) kn tr lk f1 r1 h1) (cwV 3 hts (gd_V tw651 tw652 tw653 tw1 tw654) rfl rfl rfl hd_Rf_ends ⟨Nat.le_of_ble_eq_true rfl, Nat.le_of_ble_eq_true rfl⟩) hNw hK hP hD hS hA (ci := 6) rfl rfl rfl [0, 1, 2, 3, 4, 5, 6, 7, 8, 9, 10, 11, 12, 13, 14, 17, 18, 19, 20, 21, 22, 23, 28, 29, 30, 31] [15, 16, 24, 25, 26, 27, 32, 33, 34, 35, 36, 37, 38, 39, 40, 41, 42, 43, 44, 45, 46, 47, 48, 49, 50, 51, 52, 53, 54, 55] rfl rfl rfl rfl rfl (by decide +kernel) (by decide +kernel) rfl hl.1 rfl (Nat.le_of_ble_eq_true rfl) rfl d_Lw_law_709 ⟨Nat.le_of_ble_eq_true rfl, Nat.le_of_ble_eq_true rfl⟩ (fun H locs hP hD hS => ?_)
  refine lv_aload_n hx hb d_Lw_law_712 rfl (lv_at hl 1 rfl) ?_
  refine lv_aload_n hx hb d_Lw_law_713 rfl (lv_at hl 3 rfl) ?_
  refine lv_iload_n hx hb d_Lw_law_714 rfl (lv_at hl 0 rfl) ?_
  refine lv_iconst (v := 1) hx hb d_Lw_law_715 (by decide) ?_
  refine lv_iadd hx hb d_Lw_law_716 ?_
  refine va_sld hx hb hX hbl hbA hS hin1 d_Lw_law_717 ?_
  refine lv_aload_n hx hb d_Lw_law_718 rfl (lv_at hl 3 rfl) ?_
  refine lv_iload_n hx hb d_Lw_law_719 rfl (lv_at hl 0 rfl) ?_
  refine lv_iconst (v := 2) hx hb d_Lw_law_720 (by decide) ?_
  refine lv_iadd hx hb d_Lw_law_721 ?_
  refine va_sld hx hb hX hbl hbA hS hin2 d_Lw_law_722 ?_
  refine lv_aload_n hx hb d_Lw_law_723 rfl (lv_at hl 3 rfl) ?_
  refine lv_iload_n hx hb d_Lw_law_724 rfl (lv_at hl 0 rfl) ?_
  refine lv_iconst (v := 3) hx hb d_Lw_law_725 (by decide) ?_
  refine lv_iadd hx hb d_Lw_law_726 ?_
  refine va_sld hx hb hX hbl hbA hS hin3 d_Lw_law_727 ?_
  refine kdV (nn := 56) (rest := [.int r1]) (w' := (cO cI cJ cZ a1 ++ cKn cI cJ cZ a1 kn ++ cTr cI cJ cZ a1 tr ++ cRw cI cJ cZ a1 rw ++ cLk cI cJ cZ a1 lk ++ cF0 cI cJ cZ a1 f0 ++ cF1 cI cJ cZ a1 f1 ++ cMd cI cJ cZ a2 mb mg mx mf)) (wr := (cO cI cJ cZ a1 ++ cKn cI cJ cZ a1 kn ++ cTr cI cJ cZ a1 tr ++ cRw cI cJ cZ a1 rw ++ cLk cI cJ cZ a1 lk ++ cF0 cI cJ cZ a1 f0 ++ cF1 cI cJ cZ a1 f1)) (st1 := [.int r2, .int r1]) ⟨hx, hb, hml, hown, hts⟩ (c_Md_ends l dC dI cI cJ cZ a2 (xs (x3 + 1).toNatClampNeg) (xs (x3 + 2).toNatClampNeg) (xs (x3 + 3).toNatClampNeg) mb mg mx mf r2 h2) (cwV 3 hts (gd_V tw1061 tw1062 tw1063 tw9 tw1064) rfl rfl rfl hd_Md_ends ⟨Nat.le_of_ble_eq_true rfl, Nat.le_of_ble_eq_true rfl⟩) hNw hK hP hD hS hA (ci := 7) rfl rfl rfl [32, 33, 34, 35, 36, 37, 38, 39, 40, 41, 42, 43, 44, 45, 46, 47, 48, 49, 50, 51, 52, 53, 54, 55] [0, 1, 2, 3, 4, 5, 6, 7, 8, 9, 10, 11, 12, 13, 14, 15, 16, 17, 18, 19, 20, 21, 22, 23, 24, 25, 26, 27, 28, 29, 30, 31] rfl rfl rfl rfl rfl (by decide +kernel) (by decide +kernel) rfl hl.1 rfl (Nat.le_of_ble_eq_true rfl) rfl d_Lw_law_728 ⟨Nat.le_of_ble_eq_true rfl, Nat.le_of_ble_eq_true rfl⟩ (fun H locs hP hD hS => ?_)
  refine lv_icmp_eq (tgt := 769) hx hb d_Lw_law_731 (by decide) (fun hc => ?_) (fun hc => ?_)
  · exact next H locs hP hD hS
  · exact absurd he hc
set_option maxHeartbeats 4000000 in
set_option maxRecDepth 100000 in
theorem law_member {p : Program} {l : Launch} {e : Env} {s : State} {m : MethodId} {below : List Frame} {meth : Method} {c : Code} {b L : Nat} {xs : Nat → Int32} {dC : Nat → ClassId} {dI : Nat → Nat → Nat} {cI cJ cZ : ClassId} {a1 a2 : Nat → Nat} (C0 : LC p s m meth c b L xs dC dI cI cJ cZ) {x3 : Int32} (hin1 : vp_in (x3 + 1) L) (hin2 : vp_in (x3 + 2) L) (N : Nat) (kn : KnS) (tr : TrS) (rw : RwS) (lk : LkS) (f0 : FlS) (f1 : FlS) (mb : MbS) (mg : MgS) (mx : MxS) (mf : MfS) (r1 : Int32 × LkS × FlS × FlS) (h1 : f_Rf_member N (xs (x3 + 1).toNatClampNeg) (xs (x3 + 2).toNatClampNeg) kn tr lk f0 f1 = some r1) (r2 : Int32 × MgS × MxS × MfS) (h2 : f_Md_member N (xs (x3 + 1).toNatClampNeg) (xs (x3 + 2).toNatClampNeg) mb mg mx mf = some r2) (he : r1.1 = r2.1) {H : Heap} {locs : List Loc} {ls : Array Slot} (hP : va_P (dC, dI) classes (cO cI cJ cZ a1 ++ cKn cI cJ cZ a1 kn ++ cTr cI cJ cZ a1 tr ++ cRw cI cJ cZ a1 rw ++ cLk cI cJ cZ a1 lk ++ cF0 cI cJ cZ a1 f0 ++ cF1 cI cJ cZ a1 f1 ++ cMd cI cJ cZ a2 mb mg mx mf) H) (hD : va_D (fun q : Nat => s.heap.size ≤ q) (cO cI cJ cZ a1 ++ cKn cI cJ cZ a1 kn ++ cTr cI cJ cZ a1 tr ++ cRw cI cJ cZ a1 rw ++ cLk cI cJ cZ a1 lk ++ cF0 cI cJ cZ a1 f0 ++ cF1 cI cJ cZ a1 f1 ++ cMd cI cJ cZ a2 mb mg mx mf)) (hS : va_S (fun q : Nat => s.heap.size ≤ q) s.heap H locs) (hl : lv_has ls 4 [(3, .int x3), (2, .ref (a2 0)), (1, .ref (a1 0)), (0, .ref b)])
    (next : ∀ (H : Heap) (locs : List Loc), va_P (dC, dI) classes (cO cI cJ cZ a1 ++ cKn cI cJ cZ a1 kn ++ cTr cI cJ cZ a1 tr ++ cRw cI cJ cZ a1 rw ++ cLk cI cJ cZ a1 r1.2.1 ++ cF0 cI cJ cZ a1 r1.2.2.1 ++ cF1 cI cJ cZ a1 r1.2.2.2 ++ cMd cI cJ cZ a2 mb r2.2.1 r2.2.2.1 r2.2.2.2) H → va_D (fun q : Nat => s.heap.size ≤ q) (cO cI cJ cZ a1 ++ cKn cI cJ cZ a1 kn ++ cTr cI cJ cZ a1 tr ++ cRw cI cJ cZ a1 rw ++ cLk cI cJ cZ a1 r1.2.1 ++ cF0 cI cJ cZ a1 r1.2.2.1 ++ cF1 cI cJ cZ a1 r1.2.2.2 ++ cMd cI cJ cZ a2 mb r2.2.1 r2.2.2.1 r2.2.2.2) → va_S (fun q : Nat => s.heap.size ≤ q) s.heap H locs → W p l e room_1 s m #[Value.ref b] below meth c H locs 56 11828 (lw_Z below #[Value.ref b] s) (F0 m 769 ls [])) : W p l e room_1 s m #[Value.ref b] below meth c H locs 56 11828 (lw_Z below #[Value.ref b] s) (F0 m 736 ls []) := by
  obtain ⟨hx, hb, hr, hml, hown, hts, hNw, hK, hX, hbl, hlocks⟩ := C0
  have hA : ∀ q : Nat, s.heap.size ≤ q → (fun q : Nat => s.heap.size ≤ q) q := fun _ h => h
  have hbA : ¬ (fun q : Nat => s.heap.size ≤ q) b := Nat.not_le.mpr hbl
  refine lv_aload_n hx hb d_Lw_law_736 rfl (lv_at hl 2 rfl) ?_
  refine lv_aload_n hx hb d_Lw_law_737 rfl (lv_at hl 3 rfl) ?_
  refine lv_iload_n hx hb d_Lw_law_738 rfl (lv_at hl 0 rfl) ?_
  refine lv_iconst (v := 1) hx hb d_Lw_law_739 (by decide) ?_
  refine lv_iadd hx hb d_Lw_law_740 ?_
  refine va_sld hx hb hX hbl hbA hS hin1 d_Lw_law_741 ?_
  refine lv_aload_n hx hb d_Lw_law_742 rfl (lv_at hl 3 rfl) ?_
  refine lv_iload_n hx hb d_Lw_law_743 rfl (lv_at hl 0 rfl) ?_
  refine lv_iconst (v := 2) hx hb d_Lw_law_744 (by decide) ?_
  refine lv_iadd hx hb d_Lw_law_745 ?_
  refine va_sld hx hb hX hbl hbA hS hin2 d_Lw_law_746 ?_
  refine kdV (nn := 56) (rest := []) (w' := (cO cI cJ cZ a1 ++ cKn cI cJ cZ a1 kn ++ cTr cI cJ cZ a1 tr ++ cRw cI cJ cZ a1 rw ++ cLk cI cJ cZ a1 r1.2.1 ++ cF0 cI cJ cZ a1 r1.2.2.1 ++ cF1 cI cJ cZ a1 r1.2.2.2 ++ cMd cI cJ cZ a2 mb mg mx mf)) (wr := (cRw cI cJ cZ a1 rw ++ cMd cI cJ cZ a2 mb mg mx mf)) (st1 := [.int r1.1]) ⟨hx, hb, hml, hown, hts⟩ (c_Rf_member l dC dI cI cJ cZ a1 N (xs (x3 + 1).toNatClampNeg) (xs (x3 + 2).toNatClampNeg) kn tr lk f0 f1 r1 h1) (cwV 2 hts (gd_V tw665 tw666 tw667 tw1 tw668) rfl rfl rfl hd_Rf_member ⟨Nat.le_of_ble_eq_true rfl, Nat.le_of_ble_eq_true rfl⟩) hNw hK hP hD hS hA (ci := 6) rfl rfl rfl [0, 1, 2, 3, 4, 5, 6, 7, 8, 9, 10, 11, 12, 13, 14, 17, 18, 19, 20, 21, 22, 23, 24, 25, 26, 27, 28, 29, 30, 31] [15, 16, 32, 33, 34, 35, 36, 37, 38, 39, 40, 41, 42, 43, 44, 45, 46, 47, 48, 49, 50, 51, 52, 53, 54, 55] rfl rfl rfl rfl rfl (by decide +kernel) (by decide +kernel) rfl hl.1 rfl (Nat.le_of_ble_eq_true rfl) rfl d_Lw_law_747 ⟨Nat.le_of_ble_eq_true rfl, Nat.le_of_ble_eq_true rfl⟩ (fun H locs hP hD hS => ?_)
  refine lv_aload_n hx hb d_Lw_law_750 rfl (lv_at hl 1 rfl) ?_
  refine lv_aload_n hx hb d_Lw_law_751 rfl (lv_at hl 3 rfl) ?_
  refine lv_iload_n hx hb d_Lw_law_752 rfl (lv_at hl 0 rfl) ?_
  refine lv_iconst (v := 1) hx hb d_Lw_law_753 (by decide) ?_
  refine lv_iadd hx hb d_Lw_law_754 ?_
  refine va_sld hx hb hX hbl hbA hS hin1 d_Lw_law_755 ?_
  refine lv_aload_n hx hb d_Lw_law_756 rfl (lv_at hl 3 rfl) ?_
  refine lv_iload_n hx hb d_Lw_law_757 rfl (lv_at hl 0 rfl) ?_
  refine lv_iconst (v := 2) hx hb d_Lw_law_758 (by decide) ?_
  refine lv_iadd hx hb d_Lw_law_759 ?_
  refine va_sld hx hb hX hbl hbA hS hin2 d_Lw_law_760 ?_
  refine kdV (nn := 56) (rest := [.int r1.1]) (w' := (cO cI cJ cZ a1 ++ cKn cI cJ cZ a1 kn ++ cTr cI cJ cZ a1 tr ++ cRw cI cJ cZ a1 rw ++ cLk cI cJ cZ a1 r1.2.1 ++ cF0 cI cJ cZ a1 r1.2.2.1 ++ cF1 cI cJ cZ a1 r1.2.2.2 ++ cMd cI cJ cZ a2 mb r2.2.1 r2.2.2.1 r2.2.2.2)) (wr := (cO cI cJ cZ a1 ++ cKn cI cJ cZ a1 kn ++ cTr cI cJ cZ a1 tr ++ cRw cI cJ cZ a1 rw ++ cLk cI cJ cZ a1 r1.2.1 ++ cF0 cI cJ cZ a1 r1.2.2.1 ++ cF1 cI cJ cZ a1 r1.2.2.2)) (st1 := [.int r2.1, .int r1.1]) ⟨hx, hb, hml, hown, hts⟩ (c_Md_member l dC dI cI cJ cZ a2 N (xs (x3 + 1).toNatClampNeg) (xs (x3 + 2).toNatClampNeg) mb mg mx mf r2 h2) (cwV 2 hts (gd_V tw1065 tw1066 tw1067 tw9 tw1068) rfl rfl rfl hd_Md_member ⟨Nat.le_of_ble_eq_true rfl, Nat.le_of_ble_eq_true rfl⟩) hNw hK hP hD hS hA (ci := 7) rfl rfl rfl [32, 33, 34, 35, 36, 37, 38, 39, 40, 41, 42, 43, 44, 45, 46, 47, 48, 49, 50, 51, 52, 53, 54, 55] [0, 1, 2, 3, 4, 5, 6, 7, 8, 9, 10, 11, 12, 13, 14, 15, 16, 17, 18, 19, 20, 21, 22, 23, 24, 25, 26, 27, 28, 29, 30, 31] rfl rfl rfl rfl rfl (by decide +kernel) (by decide +kernel) rfl hl.1 rfl (Nat.le_of_ble_eq_true rfl) rfl d_Lw_law_761 ⟨Nat.le_of_ble_eq_true rfl, Nat.le_of_ble_eq_true rfl⟩ (fun H locs hP hD hS => ?_)
  refine lv_icmp_eq (tgt := 769) hx hb d_Lw_law_764 (by decide) (fun hc => ?_) (fun hc => ?_)
  · exact next H locs hP hD hS
  · exact absurd he hc
