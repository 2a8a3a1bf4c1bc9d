section R
variable {mb : MbS} {mg : MgS} {K : Nat} {ab : Nat → Nat} {B : Nat → Nat → Bool} {T : AT} {rl : List Nat} {r N : Nat} {D : Dt} {mt : Nat → Bool} {k5 : MxS → Option MxS}
theorem rl_pass (hb : BldM mb mg K ab B T rl r) (hK4 : 4 ≤ K) (hN : 1000 < N) (hS : SlR false K T B (Mg_targets mg) r D mt) : ∀ (s2 s1 : List Nat) (fuel : Nat) (mx : MxS), pre T r = s1 ++ s2 → RI T r K D mt mx → s2.length < fuel → ∃ mx', lp (f_Md_rules_L19 N k5 mb mg) fuel (nI s1.length, mx) = k5 mx' ∧ RI T r K D mt mx' ∧ GrR mx mx' ∧ (mx' = mx → ∀ n ∈ s2, ClN K T B (Mg_targets mg) r mx n) := by
  have hb' := hb
  obtain ⟨h, hw, h60, hKI, hMk, hsh, hr, hg, hrt, hkk, hod, -⟩ := hb
  have hlr := pre_len hw hr
  intro s2
  induction s2 with
  | nil =>
    intro s1 fuel mx hs hI hf
    rw [List.append_nil] at hs
    match fuel, hf with
    | fuel + 1, _ =>
      refine ⟨mx, ?_, hI, GrR_rfl, fun _ n hn => by simp at hn⟩
      show f_Md_rules_L19 N k5 mb mg _ _ = _
      rw [f_Md_rules_L19.eq_1]
      show (if Mg_rooted mg ≤ nI s1.length then k5 mx else _) = _
      rw [hrt, hs, if_pos (nI_le (Nat.le_refl _) (by rw [← hs]; omega))]
  | cons n s2 ih =>
    intro s1 fuel mx hs hI hf
    have hn : n ∈ pre T r := by rw [hs]; simp
    have hnn := pre_lt hw hr hn
    have hll : s1.length < (pre T r).length := by rw [hs]; simp
    have hox : Mg_order mg s1.length = nI n := hod s1.length n (by rw [hs]; simp)
    match fuel, hf with
    | fuel + 1, hf =>
      obtain ⟨mx1, p1, p2, p3, p4⟩ := rl_node (k5 := k5) (k19 := lp (f_Md_rules_L19 N k5 mb mg) fuel) hb' hK4 hN hS hn s1.length hI
      obtain ⟨mx2, q1, q2, q3, q4⟩ := ih (s1 ++ [n]) fuel mx1 (by rw [hs]; simp) p2 (by simpa using hf)
      refine ⟨mx2, ?_, q2, GrR_tr p3 q3, fun he m hm => ?_⟩
      · rw [← q1, show (s1 ++ [n]).length = s1.length + 1 by simp, ← p1]
        show f_Md_rules_L19 N k5 mb mg _ _ = _
        rw [f_Md_rules_L19.eq_1]
        simp only [hrt, if_neg (nI_ge hll (show (pre T r).length < 2 ^ 31 by omega)), if_pos (inB_nI (show s1.length < 60 by omega) (show (60 : Nat) < 2 ^ 31 by decide)), nI_clamp (show s1.length < 2 ^ 31 by omega), hox, if_pos (inB_nI (show n < 60 by omega) (show (60 : Nat) < 2 ^ 31 by decide)), nI_clamp (show n < 2 ^ 31 by omega), nar1]
        rfl
      · have e1 := GrR_eq p3 q3 he
        subst e1
        rcases List.mem_cons.mp hm with rfl | hm
        · exact p4 rfl
        · exact q4 he m hm
def mxN (mx : MxS) (z : Int32) : MxS := (Mx_isReached mx, Mx_isComplete mx, Mx_throwable mx, Mx_isCome mx, Mx_ended mx, z)
theorem rl_out (hb : BldM mb mg K ab B T rl r) (hK4 : 4 ≤ K) (hN : 1000 < N) (hS : SlR false K T B (Mg_targets mg) r D mt) : ∀ (d fuel : Nat) (mx : MxS), RI T r K D mt mx → 841 ≤ cnR mx + d → d + 1 < fuel → Mx_isNew mx = 1 → ∃ mx', lp (f_Md_rules_L5 N mb mg) fuel mx = some mx' ∧ RI T r K D mt mx' ∧ Mx_isCome mx' = Mx_isCome mx ∧ Mx_ended mx' = Mx_ended mx ∧ ∀ n ∈ pre T r, ClN K T B (Mg_targets mg) r mx' n := by
  have hlr := pre_len hb.2.1 hb.2.2.2.2.2.2.1
  have h60 := hb.2.2.1
  intro d
  induction d with
  | zero => intro fuel mx _ hc; have := cnR_le mx; omega
  | succ d ih =>
    intro fuel mx hI hc hf hnew
    match fuel, hf with
    | fuel + 2, hf =>
      obtain ⟨mx1, p1, p2, p3, p4⟩ := rl_pass (k5 := lp (f_Md_rules_L5 N mb mg) (fuel + 1)) hb hK4 hN hS (pre T r) [] N (mxN mx 0) rfl hI (by omega)
      have e1 : lp (f_Md_rules_L5 N mb mg) (fuel + 2) mx = lp (f_Md_rules_L5 N mb mg) (fuel + 1) mx1 := by
        rw [← p1]
        show f_Md_rules_L5 N mb mg _ _ = _
        rw [f_Md_rules_L5.eq_1, hnew, if_neg (by decide)]
        rfl
      rw [e1]
      rcases p3.2.2 with e | ⟨e2, e3⟩
      · refine ⟨mx1, ?_, p2, p3.1, p3.2.1, ?_⟩
        · show f_Md_rules_L5 N mb mg _ _ = _
          rw [f_Md_rules_L5.eq_1, e]
          show (if (0 : Int32) = 0 then _ else _) = _
          rw [if_pos rfl]
        · intro n hn
          have := p4 e n hn
          rw [← e] at this
          exact this
      · have e3 : cnR mx < cnR mx1 := e3
        obtain ⟨mx', q1, q2, q3, q4, q5⟩ := ih (fuel + 1) mx1 p2 (by omega) (by omega) e2
        exact ⟨mx', q1, q2, q3.trans p3.1, q4.trans p3.2.1, q5⟩
/-- THE RULES: the model finds what the class finds -/
theorem md_rules (hb : BldM mb mg K ab B T rl r) (hK4 : 4 ≤ K) (hN : 1000 < N) (hS : SlR false K T B (Mg_targets mg) r D mt) {mx : MxS} (h0 : ∀ x ∈ pre T r, Mx_isReached mx x = 0 ∧ Mx_isComplete mx x = 0 ∧ ∀ k, k < 12 → Mx_throwable mx (12 * x + k) = 0) : ∃ mx', f_Md_rules N mb mg mx = some mx' ∧ Mx_isCome mx' = Mx_isCome mx ∧ Mx_ended mx' = Mx_ended mx ∧ ∀ x ∈ pre T r, Mx_isReached mx' x = bi (mt x) ∧ Mx_isComplete mx' x = bi (mt x && dN D x) ∧ ∀ k, k < 12 → Mx_throwable mx' (12 * x + k) = bi (mt x && dT D x k) := by
  have hK := hb.2.2.2.1.2.1
  have z1 : ∀ x ∈ pre T r, rcX mx x = false := fun x hx => by show nz _ _ = _; unfold nz; rw [(h0 x hx).1]; rfl
  have z2 : ∀ x ∈ pre T r, cmX mx x = false := fun x hx => by show nz _ _ = _; unfold nz; rw [(h0 x hx).2.1]; rfl
  have z3 : ∀ x ∈ pre T r, ∀ k, k < 12 → thX mx x k = false := fun x hx k hk => by show nz _ _ = _; unfold nz; rw [(h0 x hx).2.2 k hk]; rfl
  have hI : RI T r K D mt (mxN mx 1) := by
    refine ⟨fun x hx => ⟨?_, ?_, fun k hk => ⟨?_, fun _ => z3 x hx k hk⟩⟩, fun x hx hh => ?_, fun x hx hh => ?_, fun x hx k hk hh => ?_⟩
    · rw [show rcX (mxN mx 1) x = false from z1 x hx]; exact (h0 x hx).1
    · rw [show cmX (mxN mx 1) x = false from z2 x hx]; exact (h0 x hx).2.1
    · rw [show thX (mxN mx 1) x k = false from z3 x hx k hk]; exact (h0 x hx).2.2 k hk
    · rw [show rcX (mxN mx 1) x = false from z1 x hx] at hh; cases hh
    · rw [show cmX (mxN mx 1) x = false from z2 x hx] at hh; cases hh
    · rw [show thX (mxN mx 1) x k = false from z3 x hx k (by omega)] at hh; cases hh
  obtain ⟨mx', q1, q2, q3, q4, q5⟩ := rl_out hb hK4 hN hS 841 N (mxN mx 1) hI (by omega) (by omega) rfl
  refine ⟨mx', q1, q3, q4, ?_⟩
  have hr := hb.2.2.2.2.2.2.1
  have hw := hb.2.1
  have hC : ClsR K T B (Mg_targets mg) r (rcX mx') (cmX mx') (thX mx') := ⟨(q5 r (pre_self hw hr)).1 rfl, fun q hq n l1 l2 hP hM => (q5 n (pre_dn hw r hr q hq n (by rw [hP]; simp))).2.1 q hq l1 l2 hP hM, fun n hn hM => (q5 n hn).2.2.1 hM, fun n hn k hk hM => (q5 n hn).2.2.2 k hk hM⟩
  have heq := rules_eq hS q2.2 hC
  intro x hx
  obtain ⟨e1, e2, e3⟩ := heq x hx
  obtain ⟨f1, f2, f3⟩ := q2.1 x hx
  refine ⟨by rw [f1, e1], by rw [f2, e2], fun k hk => ?_⟩
  rw [(f3 k hk).1]
  by_cases c : k < K
  · rw [e3 k c]
  · rw [(f3 k hk).2 (by omega)]
    cases ht : dT D x k with
    | false => simp
    | true => exact absurd (dT_lt hS x hx k (by omega) ht) c
end R
