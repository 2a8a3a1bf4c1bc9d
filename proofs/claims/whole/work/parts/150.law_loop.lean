theorem lw_add {i : Nat} (j : Nat) : nI i + nI j = nI (i + j) := nI_add i j
theorem lw_in {i L : Nat} (j : Nat) (h : i + j < L) (hL : L < 2 ^ 31) : vp_in (nI i + nI j) L := by
  rw [nI_add]; exact vp_in_nI h hL
theorem lw_bound {i L : Nat} {x : Int32} (hL : L ≤ 2560) (hi : i ≤ L + 4) (ex : x = nI i) (hc : ¬ Int32.ofNat L - 5 < x) : i + 5 ≤ L := by
  subst ex
  have h5 : (5 : Int32) = nI 5 := by decide
  have hl : Int32.ofNat L = nI L := rfl
  rw [hl, h5] at hc
  rw [Int32.lt_iff_toInt_lt, pk_sub_toInt (by omega) (by omega), nI_toInt (by omega)] at hc
  omega
def Sim (N : Nat) (Rel : Rl) : Prop := S_clear N Rel ∧ S_exception N Rel ∧ S_node N Rel ∧ S_jump N Rel ∧ S_label N Rel ∧ S_row N Rel ∧ S_put N Rel ∧ S_end N Rel ∧ S_drop N Rel ∧ S_told N Rel ∧ S_part N Rel ∧ S_of N Rel ∧ S_check N Rel ∧ S_fault N Rel ∧ S_notes N Rel ∧ S_note N Rel ∧ S_reached N Rel ∧ S_completes N Rel ∧ S_can N Rel ∧ S_target N Rel ∧ S_walked N Rel ∧ S_ends N Rel ∧ S_member N Rel
set_option maxHeartbeats 4000000 in
set_option maxRecDepth 100000 in
theorem law_loop {p : Program} {l : Launch} {e : Env} {s : State} {m : MethodId} {below : List Frame} {meth : Method} {c : Code} {b L : Nat} {xs : Nat → Int32} {dC : Nat → ClassId} {dI : Nat → Nat → Nat} {cI cJ cZ : ClassId} {a1 a2 : Nat → Nat} {N : Nat} {Rel : Rl} (hsim : Sim N Rel) (hL : L ≤ 2560) (C0 : LC p s m meth c b L xs dC dI cI cJ cZ) :
    ∀ (n i : Nat) (x3 : Int32), i ≤ L + 4 → L + 5 ≤ i + n → x3 = nI i → ∀ (kn : KnS) (tr : TrS) (rw : RwS) (lk : LkS) (f0 : FlS) (f1 : FlS) (mb : MbS) (mg : MgS) (mx : MxS) (mf : MfS), Rel kn tr rw lk f0 f1 mb mg mx mf → ∀ (H : Heap) (locs : List Loc) (ls : Array Slot), va_P (dC, dI) classes (cO cI cJ cZ a1 ++ cKn cI cJ cZ a1 kn ++ cTr cI cJ cZ a1 tr ++ cRw cI cJ cZ a1 rw ++ cLk cI cJ cZ a1 lk ++ cF0 cI cJ cZ a1 f0 ++ cF1 cI cJ cZ a1 f1 ++ cMd cI cJ cZ a2 mb mg mx mf) H → va_D (fun q : Nat => s.heap.size ≤ q) (cO cI cJ cZ a1 ++ cKn cI cJ cZ a1 kn ++ cTr cI cJ cZ a1 tr ++ cRw cI cJ cZ a1 rw ++ cLk cI cJ cZ a1 lk ++ cF0 cI cJ cZ a1 f0 ++ cF1 cI cJ cZ a1 f1 ++ cMd cI cJ cZ a2 mb mg mx mf) → va_S (fun q : Nat => s.heap.size ≤ q) s.heap H locs → lv_has ls 4 [(3, .int x3), (2, .ref (a2 0)), (1, .ref (a1 0)), (0, .ref b)] → W p l e room_1 s m #[Value.ref b] below meth c H locs 56 11828 (lw_Z below #[Value.ref b] s) (F0 m 18 ls []) := by
  obtain ⟨hx, hb, hr, hml, hown, hts, hNw, hK, hX, hbl, hlocks⟩ := id C0
  have hbA : ¬ (fun q : Nat => s.heap.size ≤ q) b := Nat.not_le.mpr hbl
  obtain ⟨sclear, sexception, snode, sjump, slabel, srow, sput, send, sdrop, stold, spart, sof, scheck, sfault, snotes, snote, sreached, scompletes, scan, starget, swalked, sends, smember⟩ := hsim
  intro n
  induction n with
  | zero =>
    intro i x3 h1 h2
    exact absurd h2 (by omega)
  | succ n ih =>
    intro i x3 hi hin ex kn tr rw lk f0 f1 mb mg mx mf hRel H locs ls hP hD hS hl
    refine lv_iload_n hx hb d_Lw_law_18 rfl (lv_at hl 0 rfl) ?_
    refine lv_aload_n hx hb d_Lw_law_19 rfl (lv_at hl 3 rfl) ?_
    refine va_slen hx hb hX hbl hbA hS d_Lw_law_20 ?_
    refine lv_iconst (v := 5) hx hb d_Lw_law_21 (by decide) ?_
    refine lv_isub hx hb d_Lw_law_22 ?_
    refine lv_icmp_gt (tgt := 775) hx hb d_Lw_law_23 (by decide) (fun hc => ?_) (fun hc => ?_)
    · refine lv_iconst (v := 1) hx hb d_Lw_law_775 (by decide) ?_
      refine va_forget (fun q hq => hS.2.2 q hq) ?_
      exact lw_ret hx hb hr hlocks d_Lw_law_776
    · have hlt : i + 5 ≤ L := lw_bound hL hi ex hc
      have hin0 : vp_in x3 L := by rw [ex]; exact vp_in_nI (by omega) (by omega)
      have hin1 : vp_in (x3 + 1) L := by rw [ex]; exact lw_in 1 (by omega) (by omega)
      have hin2 : vp_in (x3 + 2) L := by rw [ex]; exact lw_in 2 (by omega) (by omega)
      have hin3 : vp_in (x3 + 3) L := by rw [ex]; exact lw_in 3 (by omega) (by omega)
      have hin4 : vp_in (x3 + 4) L := by rw [ex]; exact lw_in 4 (by omega) (by omega)
      have next : ∀ (kn : KnS) (tr : TrS) (rw : RwS) (lk : LkS) (f0 : FlS) (f1 : FlS) (mb : MbS) (mg : MgS) (mx : MxS) (mf : MfS), Rel kn tr rw lk f0 f1 mb mg mx mf → ∀ (H : Heap) (locs : List Loc), va_P (dC, dI) classes (cO cI cJ cZ a1 ++ cKn cI cJ cZ a1 kn ++ cTr cI cJ cZ a1 tr ++ cRw cI cJ cZ a1 rw ++ cLk cI cJ cZ a1 lk ++ cF0 cI cJ cZ a1 f0 ++ cF1 cI cJ cZ a1 f1 ++ cMd cI cJ cZ a2 mb mg mx mf) H → va_D (fun q : Nat => s.heap.size ≤ q) (cO cI cJ cZ a1 ++ cKn cI cJ cZ a1 kn ++ cTr cI cJ cZ a1 tr ++ cRw cI cJ cZ a1 rw ++ cLk cI cJ cZ a1 lk ++ cF0 cI cJ cZ a1 f0 ++ cF1 cI cJ cZ a1 f1 ++ cMd cI cJ cZ a2 mb mg mx mf) → va_S (fun q : Nat => s.heap.size ≤ q) s.heap H locs → W p l e room_1 s m #[Value.ref b] below meth c H locs 56 11828 (lw_Z below #[Value.ref b] s) (F0 m 769 ls []) := by
        intro kn tr rw lk f0 f1 mb mg mx mf hRel H locs hP hD hS
        refine lv_iinc (v := x3 + 5) (lv' := [(3, .int (x3 + 5)), (2, .ref (a2 0)), (1, .ref (a1 0)), (0, .ref b)]) hx hb d_Lw_law_769 hl (k := 0) rfl rfl (by decide) rfl (fun ls hl => ?_)
        refine lv_goto (tgt := 18) hx hb d_Lw_law_772 (by decide) ?_
        exact ih (i + 5) (x3 + 5) (by omega) (by omega) (by rw [ex]; exact lw_add 5) kn tr rw lk f0 f1 mb mg mx mf hRel _ _ ls hP hD hS hl
      refine lv_aload_n hx hb d_Lw_law_26 rfl (lv_at hl 3 rfl) ?_
      refine lv_iload_n hx hb d_Lw_law_27 rfl (lv_at hl 0 rfl) ?_
      refine va_sld hx hb hX hbl hbA hS hin0 d_Lw_law_28 ?_
      refine lv_bipush (v := 31) hx hb d_Lw_law_29 (by decide) ?_
      refine lv_iand hx hb d_Lw_law_31 ?_
      refine sw_by (x := (xs x3.toNatClampNeg &&& 31)) (k := 0) (fun hc => ?_) (fun hn0 => ?_)
      · refine sw_in (x := (xs x3.toNatClampNeg &&& 31)) (k := 0) hc (lv_tableIn (tgt := 140) hx hb d_Lw_law_32 (by decide) (by decide) (by rfl) (by decide) ?_)
        obtain ⟨r1, r2, h1, h2, he, hRel2⟩ := sclear kn tr rw lk f0 f1 mb mg mx mf hRel
        exact law_clear C0 N kn tr rw lk f0 f1 mb mg mx mf r1 h1 r2 h2 he hP hD hS hl (next _ _ _ _ _ _ _ _ _ _ hRel2)
      · refine sw_by (x := (xs x3.toNatClampNeg &&& 31)) (k := 1) (fun hc => ?_) (fun hn1 => ?_)
        · refine sw_in (x := (xs x3.toNatClampNeg &&& 31)) (k := 1) hc (lv_tableIn (tgt := 153) hx hb d_Lw_law_32 (by decide) (by decide) (by rfl) (by decide) ?_)
          obtain ⟨r1, r2, h1, h2, he, hRel2⟩ := sexception kn tr rw lk f0 f1 mb mg mx mf (xs (x3 + 1).toNatClampNeg) hRel
          exact law_exception C0 hin1 N kn tr rw lk f0 f1 mb mg mx mf r1 h1 r2 h2 he hP hD hS hl (next _ _ _ _ _ _ _ _ _ _ hRel2)
        · refine sw_by (x := (xs x3.toNatClampNeg &&& 31)) (k := 2) (fun hc => ?_) (fun hn2 => ?_)
          · refine sw_in (x := (xs x3.toNatClampNeg &&& 31)) (k := 2) hc (lv_tableIn (tgt := 176) hx hb d_Lw_law_32 (by decide) (by decide) (by rfl) (by decide) ?_)
            obtain ⟨r1, r2, h1, h2, he, hRel2⟩ := snode kn tr rw lk f0 f1 mb mg mx mf (xs (x3 + 1).toNatClampNeg) (xs (x3 + 2).toNatClampNeg) (xs (x3 + 3).toNatClampNeg) (xs (x3 + 4).toNatClampNeg) hRel
            exact law_node C0 hin1 hin2 hin3 hin4 kn tr rw lk f0 f1 mb mg mx mf r1 h1 r2 h2 he hP hD hS hl (next _ _ _ _ _ _ _ _ _ _ hRel2)
          · refine sw_by (x := (xs x3.toNatClampNeg &&& 31)) (k := 3) (fun hc => ?_) (fun hn3 => ?_)
            · refine sw_in (x := (xs x3.toNatClampNeg &&& 31)) (k := 3) hc (lv_tableIn (tgt := 229) hx hb d_Lw_law_32 (by decide) (by decide) (by rfl) (by decide) ?_)
              obtain ⟨r1, r2, h1, h2, he, hRel2⟩ := sjump kn tr rw lk f0 f1 mb mg mx mf (xs (x3 + 1).toNatClampNeg) (xs (x3 + 2).toNatClampNeg) hRel
              exact law_jump C0 hin1 hin2 kn tr rw lk f0 f1 mb mg mx mf r1 h1 r2 h2 he hP hD hS hl (next _ _ _ _ _ _ _ _ _ _ hRel2)
            · refine sw_by (x := (xs x3.toNatClampNeg &&& 31)) (k := 4) (fun hc => ?_) (fun hn4 => ?_)
              · refine sw_in (x := (xs x3.toNatClampNeg &&& 31)) (k := 4) hc (lv_tableIn (tgt := 262) hx hb d_Lw_law_32 (by decide) (by decide) (by rfl) (by decide) ?_)
                obtain ⟨r1, r2, h1, h2, he, hRel2⟩ := slabel kn tr rw lk f0 f1 mb mg mx mf (xs (x3 + 1).toNatClampNeg) (xs (x3 + 2).toNatClampNeg) hRel
                exact law_label C0 hin1 hin2 kn tr rw lk f0 f1 mb mg mx mf r1 h1 r2 h2 he hP hD hS hl (next _ _ _ _ _ _ _ _ _ _ hRel2)
              · refine sw_by (x := (xs x3.toNatClampNeg &&& 31)) (k := 5) (fun hc => ?_) (fun hn5 => ?_)
                · refine sw_in (x := (xs x3.toNatClampNeg &&& 31)) (k := 5) hc (lv_tableIn (tgt := 295) hx hb d_Lw_law_32 (by decide) (by decide) (by rfl) (by decide) ?_)
                  obtain ⟨r1, r2, h1, h2, he, hRel2⟩ := srow kn tr rw lk f0 f1 mb mg mx mf (xs (x3 + 1).toNatClampNeg) hRel
                  exact law_row C0 hin1 kn tr rw lk f0 f1 mb mg mx mf r1 h1 r2 h2 he hP hD hS hl (next _ _ _ _ _ _ _ _ _ _ hRel2)
                · refine sw_by (x := (xs x3.toNatClampNeg &&& 31)) (k := 6) (fun hc => ?_) (fun hn6 => ?_)
                  · refine sw_in (x := (xs x3.toNatClampNeg &&& 31)) (k := 6) hc (lv_tableIn (tgt := 318) hx hb d_Lw_law_32 (by decide) (by decide) (by rfl) (by decide) ?_)
                    obtain ⟨r1, r2, h1, h2, he, hRel2⟩ := sput kn tr rw lk f0 f1 mb mg mx mf (xs (x3 + 1).toNatClampNeg) (xs (x3 + 2).toNatClampNeg) hRel
                    exact law_put C0 hin1 hin2 N kn tr rw lk f0 f1 mb mg mx mf r1 h1 r2 h2 he hP hD hS hl (next _ _ _ _ _ _ _ _ _ _ hRel2)
                  · refine sw_by (x := (xs x3.toNatClampNeg &&& 31)) (k := 7) (fun hc => ?_) (fun hn7 => ?_)
                    · refine sw_in (x := (xs x3.toNatClampNeg &&& 31)) (k := 7) hc (lv_tableIn (tgt := 351) hx hb d_Lw_law_32 (by decide) (by decide) (by rfl) (by decide) ?_)
                      obtain ⟨r1, r2, h1, h2, he, hRel2⟩ := send kn tr rw lk f0 f1 mb mg mx mf (xs (x3 + 1).toNatClampNeg) hRel
                      exact law_end C0 hin1 N kn tr rw lk f0 f1 mb mg mx mf r1 h1 r2 h2 he hP hD hS hl (next _ _ _ _ _ _ _ _ _ _ hRel2)
                    · refine sw_by (x := (xs x3.toNatClampNeg &&& 31)) (k := 8) (fun hc => ?_) (fun hn8 => ?_)
                      · refine sw_in (x := (xs x3.toNatClampNeg &&& 31)) (k := 8) hc (lv_tableIn (tgt := 374) hx hb d_Lw_law_32 (by decide) (by decide) (by rfl) (by decide) ?_)
                        obtain ⟨r1, r2, h1, h2, he, hRel2⟩ := sdrop kn tr rw lk f0 f1 mb mg mx mf hRel
                        exact law_drop C0 N kn tr rw lk f0 f1 mb mg mx mf r1 h1 r2 h2 he hP hD hS hl (next _ _ _ _ _ _ _ _ _ _ hRel2)
                      · refine sw_by (x := (xs x3.toNatClampNeg &&& 31)) (k := 9) (fun hc => ?_) (fun hn9 => ?_)
                        · refine sw_in (x := (xs x3.toNatClampNeg &&& 31)) (k := 9) hc (lv_tableIn (tgt := 387) hx hb d_Lw_law_32 (by decide) (by decide) (by rfl) (by decide) ?_)
                          obtain ⟨r1, r2, h1, h2, he, hRel2⟩ := stold kn tr rw lk f0 f1 mb mg mx mf (xs (x3 + 1).toNatClampNeg) (xs (x3 + 2).toNatClampNeg) hRel
                          exact law_told C0 hin1 hin2 N kn tr rw lk f0 f1 mb mg mx mf r1 h1 r2 h2 he hP hD hS hl (next _ _ _ _ _ _ _ _ _ _ hRel2)
                        · refine sw_by (x := (xs x3.toNatClampNeg &&& 31)) (k := 10) (fun hc => ?_) (fun hn10 => ?_)
                          · refine sw_in (x := (xs x3.toNatClampNeg &&& 31)) (k := 10) hc (lv_tableIn (tgt := 420) hx hb d_Lw_law_32 (by decide) (by decide) (by rfl) (by decide) ?_)
                            obtain ⟨r1, r2, h1, h2, he, hRel2⟩ := spart kn tr rw lk f0 f1 mb mg mx mf (xs (x3 + 1).toNatClampNeg) (xs (x3 + 2).toNatClampNeg) hRel
                            exact law_part C0 hin1 hin2 N kn tr rw lk f0 f1 mb mg mx mf r1 h1 r2 h2 he hP hD hS hl (next _ _ _ _ _ _ _ _ _ _ hRel2)
                          · refine sw_by (x := (xs x3.toNatClampNeg &&& 31)) (k := 11) (fun hc => ?_) (fun hn11 => ?_)
                            · refine sw_in (x := (xs x3.toNatClampNeg &&& 31)) (k := 11) hc (lv_tableIn (tgt := 453) hx hb d_Lw_law_32 (by decide) (by decide) (by rfl) (by decide) ?_)
                              obtain ⟨r1, r2, h1, h2, he, hRel2⟩ := sof kn tr rw lk f0 f1 mb mg mx mf (xs (x3 + 1).toNatClampNeg) hRel
                              exact law_of C0 hin1 kn tr rw lk f0 f1 mb mg mx mf r1 h1 r2 h2 he hP hD hS hl (next _ _ _ _ _ _ _ _ _ _ hRel2)
                            · refine sw_by (x := (xs x3.toNatClampNeg &&& 31)) (k := 12) (fun hc => ?_) (fun hn12 => ?_)
                              · refine sw_in (x := (xs x3.toNatClampNeg &&& 31)) (k := 12) hc (lv_tableIn (tgt := 476) hx hb d_Lw_law_32 (by decide) (by decide) (by rfl) (by decide) ?_)
                                obtain ⟨r1, r2, h1, h2, he, hRel2⟩ := scheck kn tr rw lk f0 f1 mb mg mx mf (xs (x3 + 1).toNatClampNeg) hRel
                                exact law_check C0 hin1 N kn tr rw lk f0 f1 mb mg mx mf r1 h1 r2 h2 he hP hD hS hl (next _ _ _ _ _ _ _ _ _ _ hRel2)
                              · refine sw_by (x := (xs x3.toNatClampNeg &&& 31)) (k := 13) (fun hc => ?_) (fun hn13 => ?_)
                                · refine sw_in (x := (xs x3.toNatClampNeg &&& 31)) (k := 13) hc (lv_tableIn (tgt := 499) hx hb d_Lw_law_32 (by decide) (by decide) (by rfl) (by decide) ?_)
                                  obtain ⟨r1, r2, h1, h2, he, hRel2⟩ := sfault kn tr rw lk f0 f1 mb mg mx mf (xs (x3 + 1).toNatClampNeg) (xs (x3 + 2).toNatClampNeg) hRel
                                  exact law_fault C0 hin1 hin2 kn tr rw lk f0 f1 mb mg mx mf r1 h1 r2 h2 he hP hD hS hl (next _ _ _ _ _ _ _ _ _ _ hRel2)
                                · refine sw_by (x := (xs x3.toNatClampNeg &&& 31)) (k := 14) (fun hc => ?_) (fun hn14 => ?_)
                                  · refine sw_in (x := (xs x3.toNatClampNeg &&& 31)) (k := 14) hc (lv_tableIn (tgt := 532) hx hb d_Lw_law_32 (by decide) (by decide) (by rfl) (by decide) ?_)
                                    obtain ⟨r1, r2, h1, h2, he, hRel2⟩ := snotes kn tr rw lk f0 f1 mb mg mx mf hRel
                                    exact law_notes C0 kn tr rw lk f0 f1 mb mg mx mf r1 h1 r2 h2 he hP hD hS hl (next _ _ _ _ _ _ _ _ _ _ hRel2)
                                  · refine sw_by (x := (xs x3.toNatClampNeg &&& 31)) (k := 15) (fun hc => ?_) (fun hn15 => ?_)
                                    · refine sw_in (x := (xs x3.toNatClampNeg &&& 31)) (k := 15) hc (lv_tableIn (tgt := 545) hx hb d_Lw_law_32 (by decide) (by decide) (by rfl) (by decide) ?_)
                                      obtain ⟨r1, r2, h1, h2, he, hRel2⟩ := snote kn tr rw lk f0 f1 mb mg mx mf (xs (x3 + 1).toNatClampNeg) hRel
                                      exact law_note C0 hin1 kn tr rw lk f0 f1 mb mg mx mf r1 h1 r2 h2 he hP hD hS hl (next _ _ _ _ _ _ _ _ _ _ hRel2)
                                    · refine sw_by (x := (xs x3.toNatClampNeg &&& 31)) (k := 16) (fun hc => ?_) (fun hn16 => ?_)
                                      · refine sw_in (x := (xs x3.toNatClampNeg &&& 31)) (k := 16) hc (lv_tableIn (tgt := 568) hx hb d_Lw_law_32 (by decide) (by decide) (by rfl) (by decide) ?_)
                                        obtain ⟨r1, r2, h1, h2, he, hRel2⟩ := sreached kn tr rw lk f0 f1 mb mg mx mf (xs (x3 + 1).toNatClampNeg) hRel
                                        exact law_reached C0 hin1 kn tr rw lk f0 f1 mb mg mx mf r1 h1 r2 h2 he hP hD hS hl (next _ _ _ _ _ _ _ _ _ _ hRel2)
                                      · refine sw_by (x := (xs x3.toNatClampNeg &&& 31)) (k := 17) (fun hc => ?_) (fun hn17 => ?_)
                                        · refine sw_in (x := (xs x3.toNatClampNeg &&& 31)) (k := 17) hc (lv_tableIn (tgt := 591) hx hb d_Lw_law_32 (by decide) (by decide) (by rfl) (by decide) ?_)
                                          obtain ⟨r1, r2, h1, h2, he, hRel2⟩ := scompletes kn tr rw lk f0 f1 mb mg mx mf (xs (x3 + 1).toNatClampNeg) hRel
                                          exact law_completes C0 hin1 kn tr rw lk f0 f1 mb mg mx mf r1 h1 r2 h2 he hP hD hS hl (next _ _ _ _ _ _ _ _ _ _ hRel2)
                                        · refine sw_by (x := (xs x3.toNatClampNeg &&& 31)) (k := 18) (fun hc => ?_) (fun hn18 => ?_)
                                          · refine sw_in (x := (xs x3.toNatClampNeg &&& 31)) (k := 18) hc (lv_tableIn (tgt := 614) hx hb d_Lw_law_32 (by decide) (by decide) (by rfl) (by decide) ?_)
                                            obtain ⟨r1, r2, h1, h2, he, hRel2⟩ := scan kn tr rw lk f0 f1 mb mg mx mf (xs (x3 + 1).toNatClampNeg) (xs (x3 + 2).toNatClampNeg) hRel
                                            exact law_can C0 hin1 hin2 kn tr rw lk f0 f1 mb mg mx mf r1 h1 r2 h2 he hP hD hS hl (next _ _ _ _ _ _ _ _ _ _ hRel2)
                                          · refine sw_by (x := (xs x3.toNatClampNeg &&& 31)) (k := 19) (fun hc => ?_) (fun hn19 => ?_)
                                            · refine sw_in (x := (xs x3.toNatClampNeg &&& 31)) (k := 19) hc (lv_tableIn (tgt := 647) hx hb d_Lw_law_32 (by decide) (by decide) (by rfl) (by decide) ?_)
                                              obtain ⟨r1, r2, h1, h2, he, hRel2⟩ := starget kn tr rw lk f0 f1 mb mg mx mf (xs (x3 + 1).toNatClampNeg) hRel
                                              exact law_target C0 hin1 kn tr rw lk f0 f1 mb mg mx mf r1 h1 r2 h2 he hP hD hS hl (next _ _ _ _ _ _ _ _ _ _ hRel2)
                                            · refine sw_by (x := (xs x3.toNatClampNeg &&& 31)) (k := 20) (fun hc => ?_) (fun hn20 => ?_)
                                              · refine sw_in (x := (xs x3.toNatClampNeg &&& 31)) (k := 20) hc (lv_tableIn (tgt := 670) hx hb d_Lw_law_32 (by decide) (by decide) (by rfl) (by decide) ?_)
                                                obtain ⟨r1, r2, h1, h2, he, hRel2⟩ := swalked kn tr rw lk f0 f1 mb mg mx mf (xs (x3 + 1).toNatClampNeg) hRel
                                                exact law_walked C0 hin1 kn tr rw lk f0 f1 mb mg mx mf r1 h1 r2 h2 he hP hD hS hl (next _ _ _ _ _ _ _ _ _ _ hRel2)
                                              · refine sw_by (x := (xs x3.toNatClampNeg &&& 31)) (k := 21) (fun hc => ?_) (fun hn21 => ?_)
                                                · refine sw_in (x := (xs x3.toNatClampNeg &&& 31)) (k := 21) hc (lv_tableIn (tgt := 693) hx hb d_Lw_law_32 (by decide) (by decide) (by rfl) (by decide) ?_)
                                                  obtain ⟨r1, r2, h1, h2, he, hRel2⟩ := sends kn tr rw lk f0 f1 mb mg mx mf (xs (x3 + 1).toNatClampNeg) (xs (x3 + 2).toNatClampNeg) (xs (x3 + 3).toNatClampNeg) hRel
                                                  exact law_ends C0 hin1 hin2 hin3 kn tr rw lk f0 f1 mb mg mx mf r1 h1 r2 h2 he hP hD hS hl (next _ _ _ _ _ _ _ _ _ _ hRel2)
                                                · refine sw_by (x := (xs x3.toNatClampNeg &&& 31)) (k := 22) (fun hc => ?_) (fun hn22 => ?_)
                                                  · refine sw_in (x := (xs x3.toNatClampNeg &&& 31)) (k := 22) hc (lv_tableIn (tgt := 736) hx hb d_Lw_law_32 (by decide) (by decide) (by rfl) (by decide) ?_)
                                                    obtain ⟨r1, r2, h1, h2, he, hRel2⟩ := smember kn tr rw lk f0 f1 mb mg mx mf (xs (x3 + 1).toNatClampNeg) (xs (x3 + 2).toNatClampNeg) hRel
                                                    exact law_member C0 hin1 hin2 N kn tr rw lk f0 f1 mb mg mx mf r1 h1 r2 h2 he hP hD hS hl (next _ _ _ _ _ _ _ _ _ _ hRel2)
                                                  · refine lv_tableOut (tgt := 769) hx hb d_Lw_law_32 (by have g0 := sw_ne hn0 (show (0 : Int32).toInt = 0 by decide); have g1 := sw_ne hn1 (show (1 : Int32).toInt = 1 by decide); have g2 := sw_ne hn2 (show (2 : Int32).toInt = 2 by decide); have g3 := sw_ne hn3 (show (3 : Int32).toInt = 3 by decide); have g4 := sw_ne hn4 (show (4 : Int32).toInt = 4 by decide); have g5 := sw_ne hn5 (show (5 : Int32).toInt = 5 by decide); have g6 := sw_ne hn6 (show (6 : Int32).toInt = 6 by decide); have g7 := sw_ne hn7 (show (7 : Int32).toInt = 7 by decide); have g8 := sw_ne hn8 (show (8 : Int32).toInt = 8 by decide); have g9 := sw_ne hn9 (show (9 : Int32).toInt = 9 by decide); have g10 := sw_ne hn10 (show (10 : Int32).toInt = 10 by decide); have g11 := sw_ne hn11 (show (11 : Int32).toInt = 11 by decide); have g12 := sw_ne hn12 (show (12 : Int32).toInt = 12 by decide); have g13 := sw_ne hn13 (show (13 : Int32).toInt = 13 by decide); have g14 := sw_ne hn14 (show (14 : Int32).toInt = 14 by decide); have g15 := sw_ne hn15 (show (15 : Int32).toInt = 15 by decide); have g16 := sw_ne hn16 (show (16 : Int32).toInt = 16 by decide); have g17 := sw_ne hn17 (show (17 : Int32).toInt = 17 by decide); have g18 := sw_ne hn18 (show (18 : Int32).toInt = 18 by decide); have g19 := sw_ne hn19 (show (19 : Int32).toInt = 19 by decide); have g20 := sw_ne hn20 (show (20 : Int32).toInt = 20 by decide); have g21 := sw_ne hn21 (show (21 : Int32).toInt = 21 by decide); have g22 := sw_ne hn22 (show (22 : Int32).toInt = 22 by decide); omega) (by decide) ?_
                                                    exact next _ _ _ _ _ _ _ _ _ _ hRel H locs hP hD hS
