/-! both sides look at THE ROOT -/
theorem TgP_uq {T : AT} (hw : WT T) {r x : Nat} {a b : Int32} (h1 : TgP T r x a) (h2 : TgP T r x b) : a = b := by
  unfold TgP at h1 h2
  by_cases c : jmp T x = true
  · rw [if_pos c] at h1 h2
    obtain ⟨l, p1, e1⟩ := h1
    obtain ⟨l', p2, e2⟩ := h2
    rw [e1, e2, Pth_uniq hw l l' x p1 p2]
  · rw [if_neg c] at h1 h2
    rw [h1, h2]
theorem SolAt_tg {v : Bool} {K : Nat} {T : AT} {B : Nat → Nat → Bool} {tg tg' : Nat → Int32} {D : Dt} {x : Nat} (h : SolAt v K T B tg D x) (e : tg x = tg' x) : SolAt v K T B tg' D x := by
  unfold SolAt at *
  by_cases c : lfB (aS T x) = true
  · rw [if_pos c] at h ⊢
    unfold LfAt at *
    rw [← e]; exact h
  · rw [if_neg c] at h ⊢; exact h
def lkRt (lk : LkS) (r : Nat) : LkS := (nI r, Lk_length lk, Lk_order lk, Lk_waiting lk, Lk_targets lk, Lk_faultCount lk, Lk_faultSort lk, Lk_faultNode lk, Lk_noteCount lk, Lk_noteNode lk)
def mgRt (mg : MgS) (mb : MbS) (r : Nat) : MgS := (nI r, Mg_rooted mg, Mb_kinds mb, Mg_order mg, Mg_inRoot mg, Mg_targets mg)
section K
variable {kn : KnS} {tr : TrS} {rw : RwS} {mb : MbS} {mg : MgS} {mx : MxS} {mf : MfS} {lk : LkS} {f0 f1 : FlS} {K : Nat} {ab : Nat → Nat} {B : Nat → Nat → Bool} {T : AT} {ks : List Nat} {fs : Nat → Nat} {rk : Option Nat} {rl : List Nat} {N r : Nat}
theorem Bld_C (h : Bld kn tr rw mb K ab B T ks fs rk rl) : BldC kn tr K B T ks fs rl := by
  obtain ⟨b1, b2, b3, b4, b5, b6, b7, b8, b9, b10, b11, b12, b13⟩ := h
  have hn := b5.2.1
  exact ⟨b5, b7, b3, b1.2.1, b9, b10, fun m hm => by rw [b11 m (by omega)]; simp [hm]⟩
/-- the class: order, TARGETS, both flows -/
theorem cl_look (hB : Bld kn tr rw mb K ab B T ks fs rk rl) (hN : 10000 < N) (hr : r < aN T) : ∃ od W g f0' f1', f_Lk_lookAt N (nI r) lk f0 f1 tr kn = ((f_Lk_listFaults N (lkG (lkO (lkRt lk r) (pre T r).length od W) g) f0' tr kn).bind fun y52 => ((f_Lk_listNotes N y52 f0' f1' tr).bind fun y56 => some (y56, f0', f1'))) ∧ OdR od (pre T r) ∧ (∀ x ∈ pre T r, TgP T r x (g x)) ∧ (∀ x, x < 60 → x ∉ pre T r → g x = -1) ∧ (∀ x ∈ pre T r, SolAt false K T B g (flD f0') x) ∧ MtR T r (flD f0') (lb (Fl_met f0')) ∧ (∀ x ∈ pre T r, SolAt true K T B g (flD f1') x) ∧ MtR T r (flD f1') (lb (Fl_met f1')) := by
  have hC := Bld_C hB
  obtain ⟨h, hw, hkn, hK, hsh, htl, hdf⟩ := Bld_C hB
  have hn60 := h.2.1
  have h12 : ∀ q, q < aN T → aS T q = 12 → (aP T q).length = 1 := fun q hq e => (hsh q hq).2.2.2.2.2.2.1 (by simp [e])
  obtain ⟨od, W, o1, o2⟩ := cl_orderText h hw (N := N) (by omega) hr (lk := lkRt lk r) rfl
  obtain ⟨g, t1, t2, t3⟩ := cl_findTargets h hw (N := N) (by omega) hr h12 (lk := lkO (lkRt lk r) (pre T r).length od W) rfl rfl o2
  have htg : ∀ x ∈ pre T r, g x = -1 ∨ ∃ t, t < 60 ∧ g x = nI t := by
    intro x hx
    have := t2 x hx
    unfold TgP at this
    by_cases c : jmp T x = true
    · rw [if_pos c] at this
      obtain ⟨l, hp, e⟩ := this
      cases ho : tgT T x l with
      | none => left; rw [e, ho]; rfl
      | some t =>
        right
        obtain ⟨l1, l2, e2, -⟩ := tgT_some hw hp h12 (by simpa [jmp] using c) ho
        have := Pth_mem hw l x hp t (by rw [e2]; simp)
        exact ⟨t, by omega, by rw [e, ho]; rfl⟩
    · rw [if_neg c] at this
      exact Or.inl this
  obtain ⟨f0', a1, a2, a3⟩ := fl_flow hC (N := N) (by omega) hr o2 htg false f0
  obtain ⟨f1', b1, b2, b3⟩ := fl_flow hC (N := N) (by omega) hr o2 htg true f1
  refine ⟨od, W, g, f0', f1', ?_, o2, t2, t3, a2, a3, b2, b3⟩
  rw [f_Lk_lookAt.eq_1]
  have o1 : f_Lk_orderText N (nI r, Lk_length lk, Lk_order lk, Lk_waiting lk, Lk_targets lk, Lk_faultCount lk, Lk_faultSort lk, Lk_faultNode lk, Lk_noteCount lk, Lk_noteNode lk) tr = _ := o1
  rw [o1]
  simp only [Option.bind_some]
  rw [t1]
  simp only [Option.bind_some]
  have a1 : f_Fl_flow false N (Lk_length (lkG (lkO (lkRt lk r) (pre T r).length od W) g)) f0 tr kn (Lk_order (lkG (lkO (lkRt lk r) (pre T r).length od W) g)) (Lk_targets (lkG (lkO (lkRt lk r) (pre T r).length od W) g)) = _ := a1
  have b1 : f_Fl_flow true N (Lk_length (lkG (lkO (lkRt lk r) (pre T r).length od W) g)) f1 tr kn (Lk_order (lkG (lkO (lkRt lk r) (pre T r).length od W) g)) (Lk_targets (lkG (lkO (lkRt lk r) (pre T r).length od W) g)) = _ := b1
  rw [a1, b1]
  rfl
/-- the model: line, TARGETS, rules, walks -/
theorem md_look (hB : Bld kn tr rw mb K ab B T ks fs rk rl) (hN : 10000 < N) (hr : r < aN T) {g : Nat → Int32} {D0 D1 : Dt} {mt0 mt1 : Nat → Bool} (hg : ∀ x ∈ pre T r, TgP T r x (g x)) (s0 : ∀ x ∈ pre T r, SolAt false K T B g D0 x) (m0 : MtR T r D0 mt0) (s1 : ∀ x ∈ pre T r, SolAt true K T B g D1 x) (m1 : MtR T r D1 mt1) : ∃ mg' mx', f_Md_look N (nI r) mb mg mx mf = lp (f_Md_look_L178 N mb) N ((0 : Int32), mg', mx', ((0 : Int32), Mf_faultKind mf, Mf_faultNode mf, (0 : Int32), Mf_notes mf)) ∧ BldM mb mg' K ab B T rl r ∧ (∀ x ∈ pre T r, g x = Mg_targets mg' x) ∧ (∀ y, y < aN T → Mg_inRoot mg' y = bi (decide (y ∈ pre T r))) ∧ SlR false K T B (Mg_targets mg') r D0 mt0 ∧ (∀ x ∈ pre T r, Mx_isReached mx' x = bi (mt0 x) ∧ Mx_isComplete mx' x = bi (mt0 x && dN D0 x) ∧ ∀ k, k < 12 → Mx_throwable mx' (12 * x + k) = bi (mt0 x && dT D0 x k)) ∧ ∀ x ∈ pre T r, Mx_isCome mx' x = bi (mt1 x) ∧ ∀ w, w < 134 → Mx_ended mx' (134 * x + w) = bi (mt1 x && wy D1 x w) := by
  obtain ⟨b1, b2, b3, b4, b5, b6, b7, b8, b9, b10, b11, b12, b13⟩ := hB
  have hn60 := b5.2.1
  have h12 : ∀ q, q < aN T → aS T q = 12 → (aP T q).length = 1 := fun q hq e => (b9 q hq).2.2.2.2.2.2.1 (by simp [e])
  obtain ⟨od, ir, l1, l2, l3⟩ := md_line b6 b7 hn60 (N := N) (by omega) hr (mg := mgRt mg mb r) rfl
  have hlr := pre_len b7 hr
  obtain ⟨g', mx1, r1, r2, r3⟩ := md_reset (mf := mf) b6 b7 hn60 (N := N) (by omega) hr (mg := mgO (mgRt mg mb r) (pre T r).length od ir) rfl rfl l2 h12 (pre T r) [] (Mg_targets mg) mx N rfl (by simp) (by intro x hx; simp at hx) (by omega)
  have hM : BldM mb (mgT (mgO (mgRt mg mb r) (pre T r).length od ir) g') K ab B T rl r := ⟨b6, b7, hn60, b1, b4, b9, hr, rfl, rfl, b4.1, l2, r2⟩
  have heq : ∀ x ∈ pre T r, g x = g' x := fun x hx => TgP_uq b7 (hg x hx) (r2 x hx)
  have S0 : SlR false K T B g' r D0 mt0 := ⟨b7, hn60, hr, b1.2.1, b9, r2, fun x hx => SolAt_tg (s0 x hx) (heq x hx), m0⟩
  have S1 : SlR true K T B g' r D1 mt1 := ⟨b7, hn60, hr, b1.2.1, b9, r2, fun x hx => SolAt_tg (s1 x hx) (heq x hx), m1⟩
  obtain ⟨mx2, u1, u2, u3, u4⟩ := md_rules hM b2 (N := N) (by omega) S0 (mx := mx1) (fun x hx => ⟨(r3 x hx).1, (r3 x hx).2.1, (r3 x hx).2.2.1⟩)
  obtain ⟨mx3, v1, v2, v3⟩ := md_walks hM hN S1 (mx := mx2) (fun x hx => by
    rw [u2, u3]; exact ⟨(r3 x hx).2.2.2.1, (r3 x hx).2.2.2.2⟩)
  refine ⟨mgT (mgO (mgRt mg mb r) (pre T r).length od ir) g', mx3, ?_, hM, heq, l3, S0, ?_, v3⟩
  · rw [f_Md_look.eq_1]
    have l1 : f_Md_line N mb (nI r, Mg_rooted mg, Mb_kinds mb, Mg_order mg, Mg_inRoot mg, Mg_targets mg) = _ := l1
    rw [l1]
    simp only [Option.bind_some]
    have r1 : lp (f_Md_look_L19 N mb) N ((0 : Int32), mgO (mgRt mg mb r) (pre T r).length od ir, mx, mf) = _ := r1
    rw [r1, u1]
    simp only [Option.bind_some]
    rw [v1]
    rfl
  · intro x hx
    rw [v2.1, v2.2.1, v2.2.2]
    exact u4 x hx
end K
