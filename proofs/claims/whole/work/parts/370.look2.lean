section K
variable {kn : KnS} {tr : TrS} {rw : RwS} {mb : MbS} {mg : MgS} {mx : MxS} {mf : MfS} {lk : LkS} {f0 f1 : FlS} {K : Nat} {ab : Nat → Nat} {B : Nat → Nat → Bool} {T : AT} {ks : List Nat} {fs : Nat → Nat} {rk : Option Nat} {rl : List Nat} {N r : Nat}
/-- what was looked at is the same on both sides -/
theorem look_eq (hB : Bld kn tr rw mb K ab B T ks fs rk rl) (hN : 10000 < N) (hr : r < aN T) : ∃ lk' f0' f1' mg' mx' mf', f_Lk_lookAt N (nI r) lk f0 f1 tr kn = some (lk', f0', f1') ∧ f_Md_look N (nI r) mb mg mx mf = some (mg', mx', mf') ∧ LkR (aN T) lk' f0' f1' mg' mx' mf' ∧ Lk_length lk' = nI (pre T r).length ∧ OdR (Lk_order lk') (pre T r) ∧ Mg_rooted mg' = nI (pre T r).length ∧ OdR (Mg_order mg') (pre T r) ∧ Mg_root mg' = nI r ∧ (∃ F : List (Int32 × Int32), F.length ≤ 120 ∧ Lk_faultCount lk' = nI F.length ∧ Mf_faults mf' = nI F.length ∧ ∀ p, F[0]? = some p → Lk_faultSort lk' 0 = p.1 ∧ Mf_faultKind mf' 0 = p.1) ∧ Mx_isComplete mx' r = bi (lb (Fl_normal f0') r) := by
  have hC := Bld_C hB
  have hw := hC.2.1
  have hn60 := hC.1.2.1
  have hlr := pre_len hw hr
  obtain ⟨od, W, g, f0', f1', c1, c2, c3, c4, c5, c6, c7, c8⟩ := cl_look (lk := lk) (f0 := f0) (f1 := f1) hB hN hr
  obtain ⟨mg', mx', d1, d2, d3, d4, d5, d6, d7⟩ := md_look (mg := mg) (mx := mx) (mf := mf) hB hN hr c3 c5 c6 c7 c8
  obtain ⟨F, s', d', mf', j1, j2, j3, j4, j5⟩ := jn_faults (lk := lkG (lkO (lkRt lk r) (pre T r).length od W) g) (mx := mx') (mt1 := lb (Fl_met f1')) hC d2 (N := N) (by omega) rfl rfl c2 d3 d5 (fun x hx => (d6 x hx).1) (fun x hx => (d7 x hx).1) (pre T r) [] [] [] (Lk_faultSort lk) (Lk_faultNode lk) ((0 : Int32), Mf_faultKind mf, Mf_faultNode mf, (0 : Int32), Mf_notes mf) N N rfl (by simp) (by intro i p hp; simp at hp) ⟨rfl, by intro i p hp; simp at hp, rfl, by intro i p hp; simp at hp⟩ (by simp) (by omega) (by omega)
  have e1 : f_Lk_listFaults N (lkG (lkO (lkRt lk r) (pre T r).length od W) g) f0' tr kn = some (lkF (lkG (lkO (lkRt lk r) (pre T r).length od W) g) (nI F.length) s' d') := by
    rw [f_Lk_listFaults.eq_1]; exact j1
  have hpr : pre T r = [r] ++ (aP T r).flatMap (pre T) := by rw [pre_eq hw hr]; rfl
  obtain ⟨gn, k1, k2⟩ := cl_notes (lk := lkF (lkG (lkO (lkRt lk r) (pre T r).length od W) g) (nI F.length) s' d') (f0 := f0') (f1 := f1') (N := N) hC hr rfl c2 ((aP T r).flatMap (pre T)) [r] [] (Lk_noteNode lk) N hpr (by simp) (by intro i p hp; simp at hp) (by simp) (by
    have := congrArg List.length hpr
    rw [List.length_append] at this
    simp only [List.length_cons, List.length_nil] at this
    omega)
  have hG : ((pre T r).filter (ntB tr r (lb (Fl_met f0')) (lb (Fl_met f1')))).map nI = (((aP T r).flatMap (pre T)).filter (ntB tr r (lb (Fl_met f0')) (lb (Fl_met f1')))).map nI := by
    rw [hpr, List.filter_append]
    have : [r].filter (ntB tr r (lb (Fl_met f0')) (lb (Fl_met f1'))) = [] := by
      rw [List.filter_cons, if_neg (by unfold ntB pqB; simp)]; rfl
    rw [this, List.nil_append]
  rw [List.nil_append] at k1 k2 j5
  rw [← hG] at k1 k2
  have hGl : (((pre T r).filter (ntB tr r (lb (Fl_met f0')) (lb (Fl_met f1')))).map nI).length ≤ 60 := by
    rw [List.length_map]
    have := List.length_filter_le (ntB tr r (lb (Fl_met f0')) (lb (Fl_met f1'))) (pre T r)
    omega
  have e2 : f_Lk_listNotes N (lkF (lkG (lkO (lkRt lk r) (pre T r).length od W) g) (nI F.length) s' d') f0' f1' tr = some (lkN (lkF (lkG (lkO (lkRt lk r) (pre T r).length od W) g) (nI F.length) s' d') (nI (((pre T r).filter (ntB tr r (lb (Fl_met f0')) (lb (Fl_met f1')))).map nI).length) gn) := by
    rw [f_Lk_listNotes.eq_1]; exact k1
  refine ⟨lkN (lkF (lkG (lkO (lkRt lk r) (pre T r).length od W) g) (nI F.length) s' d') (nI (((pre T r).filter (ntB tr r (lb (Fl_met f0')) (lb (Fl_met f1')))).map nI).length) gn, f0', f1', mg', mx', mf', ?_, ?_, ?_, rfl, c2, d2.2.2.2.2.2.2.2.2.1, d2.2.2.2.2.2.2.2.2.2.2.1, d2.2.2.2.2.2.2.2.1, ⟨F, j3, rfl, j5.1, fun p hp => ⟨(j2 0 p hp).1, (j5.2.1 0 p hp).1⟩⟩, ?_⟩
  · rw [c1, e1]
    simp only [Option.bind_some]
    rw [e2]
    rfl
  · rw [d1]; exact j4
  · refine ⟨d2.2.2.2.2.2.2.2.1.symm, fun x => decide (x ∈ pre T r), lb (Fl_met f0'), fun x => lb (Fl_met f0') x && lb (Fl_normal f0') x, fun x k => lb (Fl_met f0') x && bt (Fl_thrown f0' x) k, lb (Fl_met f1'), fun x w => lb (Fl_met f1') x && wy (flD f1') x w, Mg_targets mg', F, ((pre T r).filter (ntB tr r (lb (Fl_met f0')) (lb (Fl_met f1')))).map nI, ?_, Or.inr ⟨?_, ?_⟩⟩
    · refine ⟨j3, hGl, rfl, j2, rfl, k2, ?_, ?_⟩
      · intro x hx hnx
        have : x ∉ pre T r := fun hh => by have := pre_lt hw hr hh; omega
        simp [this]
      · intro x hx
        show lb (Fl_met f0') x = (decide (x ∈ pre T r) && lb (Fl_met f0') x) ∧ (lb (Fl_met f0') x && lb (Fl_normal f0') x) = (decide (x ∈ pre T r) && (lb (Fl_met f0') x && lb (Fl_normal f0') x)) ∧ (∀ k, k < 12 → (lb (Fl_met f0') x && bt (Fl_thrown f0' x) k) = (decide (x ∈ pre T r) && (lb (Fl_met f0') x && bt (Fl_thrown f0' x) k))) ∧ g x = (if decide (x ∈ pre T r) = true then Mg_targets mg' x else -1) ∧ lb (Fl_met f1') x = (decide (x ∈ pre T r) && lb (Fl_met f1') x) ∧ (lb (Fl_met f1') x && lb (Fl_normal f1') x) = (decide (x ∈ pre T r) && (lb (Fl_met f1') x && wy (flD f1') x 0)) ∧ (lb (Fl_met f1') x && lb (Fl_returning f1') x) = (decide (x ∈ pre T r) && (lb (Fl_met f1') x && wy (flD f1') x 1)) ∧ (∀ y, y < 60 → (lb (Fl_met f1') x && lb (Fl_breaks f1' x) y) = (decide (x ∈ pre T r) && (lb (Fl_met f1') x && wy (flD f1') x (2 + y))) ∧ (lb (Fl_met f1') x && lb (Fl_continues f1' x) y) = (decide (x ∈ pre T r) && (lb (Fl_met f1') x && wy (flD f1') x (62 + y)))) ∧ ∀ k, k < 12 → (lb (Fl_met f1') x && bt (Fl_thrown f1' x) k) = (decide (x ∈ pre T r) && (lb (Fl_met f1') x && wy (flD f1') x (122 + k)))
        by_cases hxp : x ∈ pre T r
        · have e : decide (x ∈ pre T r) = true := by simp [hxp]
          refine ⟨by rw [e, Bool.true_and], by rw [e, Bool.true_and], fun k hk => by rw [e, Bool.true_and], ?_, by rw [e, Bool.true_and], ?_, ?_, ?_, ?_⟩
          · rw [if_pos e]; exact d3 x hxp
          · rw [e, Bool.true_and]; rfl
          · rw [e, Bool.true_and]; rfl
          · intro y hy
            rw [e, Bool.true_and, Bool.true_and, wy_2 hy, wy_62 hy]
            exact ⟨rfl, rfl⟩
          · intro k hk
            rw [e, Bool.true_and, wy_122]; rfl
        · have e : decide (x ∈ pre T r) = false := by simp [hxp]
          have z0 := c6.2.2 x (by omega) hxp
          have z1 := c8.2.2 x (by omega) hxp
          refine ⟨by rw [e, z0]; rfl, by rw [e, z0]; rfl, fun k hk => by rw [e, z0]; rfl, ?_, by rw [e, z1]; rfl, by rw [e, z1]; rfl, by rw [e, z1]; rfl, fun y hy => ⟨by rw [e, z1]; rfl, by rw [e, z1]; rfl⟩, fun k hk => by rw [e, z1]; rfl⟩
          rw [if_neg (by rw [e]; decide)]; exact c4 x hx hxp
    · rw [d2.2.2.2.2.2.2.2.1]; exact nI_ne_m1 (by omega)
    · refine ⟨j5.1, j5.2.1, j5.2.2.1, j5.2.2.2, ?_⟩
      intro x hx
      refine ⟨d4 x hx, fun hi => ?_⟩
      have hxp : x ∈ pre T r := by simpa using hi
      obtain ⟨u1, u2, u3⟩ := d6 x hxp
      obtain ⟨v1, v2⟩ := d7 x hxp
      exact ⟨u1, u2, u3, v1, v2, rfl⟩
  · rw [(d6 r (pre_self hw hr)).2.1, c6.1]; rfl
end K
theorem s_check {N : Nat} (hN : 10000 < N) : S_check N Rel := by
  intro kn tr rw lk f0 f1 mb mg mx mf x hR
  have hR' := hR
  obtain ⟨K, ab, B, T, ks, fs, rk, rl, hB, hL⟩ := hR
  have ht := hB.2.2.2.2.1
  have hm := hB.2.2.2.2.2.1
  have hn := ht.2.1
  rw [f_Rf_check.eq_1, f_Md_check.eq_1, tr_has ht.1 hn, md_isNode hm.1 hn]
  simp only [Option.bind_some, b0]
  by_cases hx : inB x (aN T) = true
  · obtain ⟨r, hr, rfl⟩ := inB_of hx (by omega)
    obtain ⟨lk', f0', f1', mg', mx', mf', a1, a2, a3, -, -, -, -, -, ⟨F, -, a4, a5, -⟩, -⟩ := look_eq (lk := lk) (f0 := f0) (f1 := f1) (mg := mg) (mx := mx) (mf := mf) hB hN hr
    simp only [if_pos hx]
    rw [a1, a2]
    exact ⟨_, _, rfl, rfl, a4.trans a5.symm, K, ab, B, T, ks, fs, rk, rl, hB, a3⟩
  · simp only [if_neg hx]
    exact ⟨_, _, rfl, rfl, rfl, hR'⟩
