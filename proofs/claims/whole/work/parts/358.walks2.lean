section W
variable {mb : MbS} {mg : MgS} {K : Nat} {ab : Nat → Nat} {B : Nat → Nat → Bool} {T : AT} {rl : List Nat} {r N : Nat} {D : Dt} {mt : Nat → Bool} {k15 : MxS → Option MxS}
theorem wl_pass (hb : BldM mb mg K ab B T rl r) (hN : 1000 < N) (hS : SlR true K T B (Mg_targets mg) r D mt) : ∀ (s2 s1 : List Nat) (fuel : Nat) (mx : MxS), pre T r = s1 ++ s2 → WI T r D mt mx → s2.length < fuel → ∃ mx', lp (f_Md_walks_L29 N k15 mb mg) fuel (nI s1.length, mx) = k15 mx' ∧ WI T r D mt mx' ∧ GrW mx mx' ∧ (mx' = mx → ∀ n ∈ s2, coX mx n = true → GoalN T D n mx) := by
  have hb' := hb
  obtain ⟨h, hw, h60, hKI, hMk, hsh, hr, hg, hrt, hkk, hod, -⟩ := hb
  have hlr := pre_len hw hr
  intro s2
  induction s2 with
  | nil =>
    intro s1 fuel mx hs hI hf
    rw [List.append_nil] at hs
    match fuel, hf with
    | fuel + 1, _ =>
      refine ⟨mx, ?_, hI, GrW_rfl, fun _ n hn => by simp at hn⟩
      show f_Md_walks_L29 N k15 mb mg _ _ = _
      rw [f_Md_walks_L29.eq_1]
      show (if Mg_rooted mg ≤ nI s1.length then k15 mx else _) = _
      rw [hrt, hs, if_pos (nI_le (Nat.le_refl _) (by rw [← hs]; omega))]
  | cons n s2 ih =>
    intro s1 fuel mx hs hI hf
    have hn : n ∈ pre T r := by rw [hs]; simp
    have hnn := pre_lt hw hr hn
    have hll : s1.length < (pre T r).length := by rw [hs]; simp
    have hox : Mg_order mg s1.length = nI n := hod s1.length n (by rw [hs]; simp)
    match fuel, hf with
    | fuel + 1, hf =>
      have hun : lp (f_Md_walks_L29 N k15 mb mg) (fuel + 1) (nI s1.length, mx) = (if coX mx n = true then ((f_Md_walk N (nI n) mb mg mx).bind fun y58 => lp (f_Md_walks_L29 N k15 mb mg) fuel (nI (s1.length + 1), y58)) else lp (f_Md_walks_L29 N k15 mb mg) fuel (nI (s1.length + 1), mx)) := by
        show f_Md_walks_L29 N k15 mb mg _ _ = _
        rw [f_Md_walks_L29.eq_1]
        simp only [hrt, if_neg (nI_ge hll (show (pre T r).length < 2 ^ 31 by omega)), if_pos (inB_nI (show s1.length < 60 by omega) (show (60 : Nat) < 2 ^ 31 by decide)), nI_clamp (show s1.length < 2 ^ 31 by omega), hox, if_pos (inB_nI (show n < 60 by omega) (show (60 : Nat) < 2 ^ 31 by decide)), nI_clamp (show n < 2 ^ 31 by omega), (hI.1 n hn).1, b0, nI_1]
      rw [hun]
      by_cases c : coX mx n = true
      · rw [if_pos c]
        obtain ⟨mx1, p1, p2, p3, p4⟩ := w_walk hb' hN hS hn (hI.2.1 n hn c) hI
        obtain ⟨mx2, q1, q2, q3, q4⟩ := ih (s1 ++ [n]) fuel mx1 (by rw [hs]; simp) p2 (by simpa using hf)
        rw [show (s1 ++ [n]).length = s1.length + 1 by simp] at q1
        refine ⟨mx2, by rw [p1]; exact q1, q2, GrW_tr p3 q3, fun he m hm hc => ?_⟩
        have e1 := GrW_eq p3 q3 he
        subst e1
        rcases List.mem_cons.mp hm with rfl | hm
        · exact p4 rfl
        · exact q4 he m hm hc
      · rw [if_neg c]
        obtain ⟨mx2, q1, q2, q3, q4⟩ := ih (s1 ++ [n]) fuel mx (by rw [hs]; simp) hI (by simpa using hf)
        rw [show (s1 ++ [n]).length = s1.length + 1 by simp] at q1
        refine ⟨mx2, q1, q2, q3, fun he m hm hc => ?_⟩
        rcases List.mem_cons.mp hm with rfl | hm
        · exact absurd hc c
        · exact q4 he m hm hc
theorem wl_out (hb : BldM mb mg K ab B T rl r) (hN : 10000 < N) (hS : SlR true K T B (Mg_targets mg) r D mt) : ∀ (d fuel : Nat) (mx : MxS), WI T r D mt mx → 8101 ≤ cnW mx + d → d + 1 < fuel → Mx_isNew mx = 1 → ∃ mx', lp (f_Md_walks_L15 N mb mg) fuel mx = some mx' ∧ WI T r D mt mx' ∧ (Mx_isReached mx' = Mx_isReached mx ∧ Mx_isComplete mx' = Mx_isComplete mx ∧ Mx_throwable mx' = Mx_throwable mx ∧ ∀ x, coX mx x = true → coX mx' x = true) ∧ ∀ n ∈ pre T r, coX mx' n = true → GoalN T D n mx' := by
  have hlr := pre_len hb.2.1 hb.2.2.2.2.2.2.1
  have h60 := hb.2.2.1
  intro d
  induction d with
  | zero => intro fuel mx _ hc; have := cnW_le mx; omega
  | succ d ih =>
    intro fuel mx hI hc hf hnew
    match fuel, hf with
    | fuel + 2, hf =>
      have hI0 : WI T r D mt (mxN mx 0) := ⟨hI.1, hI.2.1, hI.2.2.1, Or.inl rfl⟩
      obtain ⟨mx1, p1, p2, p3, p4⟩ := wl_pass (N := N) (k15 := lp (f_Md_walks_L15 N mb mg) (fuel + 1)) hb (by omega) hS (pre T r) [] N (mxN mx 0) rfl hI0 (by omega)
      have e1 : lp (f_Md_walks_L15 N mb mg) (fuel + 2) mx = lp (f_Md_walks_L15 N mb mg) (fuel + 1) mx1 := by
        rw [← p1]
        show f_Md_walks_L15 N mb mg _ _ = _
        rw [f_Md_walks_L15.eq_1, hnew, if_neg (by decide)]
        rfl
      rw [e1]
      rcases p3.2 with e | ⟨e2, e3⟩
      · refine ⟨mx1, ?_, p2, p3.1, ?_⟩
        · show f_Md_walks_L15 N mb mg _ _ = _
          rw [f_Md_walks_L15.eq_1, e]
          show (if (0 : Int32) = 0 then _ else _) = _
          rw [if_pos rfl]
        · intro n hn hcn
          rw [e] at hcn ⊢
          exact p4 e n hn hcn
      · have e3 : cnW mx < cnW mx1 := e3
        obtain ⟨mx', q1, q2, q3, q4⟩ := ih (fuel + 1) mx1 p2 (by omega) (by omega) e2
        exact ⟨mx', q1, q2, ⟨q3.1.trans p3.1.1, q3.2.1.trans p3.1.2.1, q3.2.2.1.trans p3.1.2.2.1, fun x hx => q3.2.2.2 x (p3.1.2.2.2 x hx)⟩, q4⟩
/-- WALKS: the model finds what the class finds -/
theorem md_walks (hb : BldM mb mg K ab B T rl r) (hN : 10000 < N) (hS : SlR true K T B (Mg_targets mg) r D mt) {mx : MxS} (h0 : ∀ x ∈ pre T r, Mx_isCome mx x = 0 ∧ ∀ w, w < 134 → Mx_ended mx (134 * x + w) = 0) : ∃ mx', f_Md_walks N mb mg mx = some mx' ∧ (Mx_isReached mx' = Mx_isReached mx ∧ Mx_isComplete mx' = Mx_isComplete mx ∧ Mx_throwable mx' = Mx_throwable mx) ∧ ∀ x ∈ pre T r, Mx_isCome mx' x = bi (mt x) ∧ ∀ w, w < 134 → Mx_ended mx' (134 * x + w) = bi (mt x && wy D x w) := by
  have hb' := hb
  obtain ⟨h, hw, h60, hKI, hMk, hsh, hr, hg, hrt, hkk, hod, -⟩ := hb
  have hS' := hS
  obtain ⟨-, -, -, -, -, -, -, hM⟩ := hS'
  have hI : WI T r D mt (Mx_isReached mx, Mx_isComplete mx, Mx_throwable mx, upd (Mx_isCome mx) r 1, Mx_ended mx, 1) := by
    have hco : ∀ x, coX (Mx_isReached mx, Mx_isComplete mx, Mx_throwable mx, upd (Mx_isCome mx) r 1, Mx_ended mx, 1) x = (decide (x = r) || coX mx x) := fun x => nz_u x
    have z1 : ∀ x ∈ pre T r, coX mx x = false := fun x hx => by show nz _ _ = _; unfold nz; rw [(h0 x hx).1]; rfl
    have z2 : ∀ x ∈ pre T r, ∀ w, w < 134 → enX mx x w = false := fun x hx w hw2 => by show nz _ _ = _; unfold nz; rw [(h0 x hx).2 w hw2]; rfl
    refine ⟨fun x hx => ⟨?_, fun w hw2 => ?_⟩, fun x hx hh => ?_, fun x hx w hw2 hh => ?_, Or.inr rfl⟩
    · rw [hco]
      show upd _ _ _ _ = _
      by_cases c : x = r
      · subst c; rw [upd_s]; simp [bi]
      · rw [upd_n c, (h0 x hx).1, z1 x hx]; simp [c, bi]
    · have : enX (Mx_isReached mx, Mx_isComplete mx, Mx_throwable mx, upd (Mx_isCome mx) r 1, Mx_ended mx, 1) x w = false := z2 x hx w hw2
      rw [this]; exact (h0 x hx).2 w hw2
    · rw [hco, z1 x hx] at hh
      have : x = r := by simpa using hh
      rw [this]; exact hM.1
    · have : enX (Mx_isReached mx, Mx_isComplete mx, Mx_throwable mx, upd (Mx_isCome mx) r 1, Mx_ended mx, 1) x w = false := z2 x hx w hw2
      rw [this] at hh; cases hh
  obtain ⟨mx', q1, q2, q3, q4⟩ := wl_out hb' hN hS 8101 N _ hI (by omega) (by omega) rfl
  refine ⟨mx', ?_, ⟨q3.1, q3.2.1, q3.2.2.1⟩, ?_⟩
  · rw [f_Md_walks.eq_1, hg, if_pos (inB_nI (by omega) (by decide)), nI_clamp (by omega), nar1]
    exact q1
  have hroot : coX mx' r = true := q3.2.2.2 r (by show nz (upd _ _ _) _ = true; rw [nz_u]; simp)
  have up : ∀ n, n ∈ pre T r → coX mx' n = true → (∀ p ∈ aP T n, dO D p = true → coX mx' p = true) ∧ ∀ w, w < 134 → wy D n w = true → enX mx' n w = true := by
    intro n
    induction n using Nat.strongRecOn with
    | ind n ih =>
      intro hn hc
      have hnn := pre_lt hw hr hn
      exact q4 n hn hc (fun p hp hcp => (ih p (hw.1 n hnn p hp) (pre_dn hw r hr n hn p hp) hcp).2)
  have down : ∀ (d x : Nat), aN T - x ≤ d → x ∈ pre T r → mt x = true → coX mx' x = true := by
    intro d
    induction d with
    | zero => intro x hd hx; have := pre_lt hw hr hx; omega
    | succ d ih =>
      intro x hd hx hm
      rcases pre_up hw r hr x hx with rfl | ⟨y, hy, hxy⟩
      · exact hroot
      · have hyn := pre_lt hw hr hy
        have hxy2 := hw.1 y hyn x hxy
        obtain ⟨m1, m2⟩ := mt_dO hS hy hxy hm
        exact (up y hy (ih y (by omega) hy m1)).1 x hxy m2
  intro x hx
  have hcx : coX mx' x = mt x := by
    rw [Bool.eq_iff_iff]
    exact ⟨q2.2.1 x hx, down _ x (Nat.le_refl _) hx⟩
  refine ⟨by rw [(q2.1 x hx).1, hcx], fun w hw2 => ?_⟩
  rw [(q2.1 x hx).2 w hw2]
  congr 1
  rw [Bool.eq_iff_iff, Bool.and_eq_true]
  exact ⟨q2.2.2.1 x hx w hw2, fun hh => (up x hx (by rw [hcx]; exact hh.1)).2 w hw2 hh.2⟩
end W
