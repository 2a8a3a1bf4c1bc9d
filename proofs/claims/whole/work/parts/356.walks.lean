/-! WALKS: one NODE, all NODES, till nothing is new -/
section W
variable {mb : MbS} {mg : MgS} {K : Nat} {ab : Nat → Nat} {B : Nat → Nat → Bool} {T : AT} {rl : List Nat} {r N : Nat} {D : Dt} {mt : Nat → Bool} {mx : MxS}
theorem w_raise (hb : BldM mb mg K ab B T rl r) (hN : 1000 < N) (hS : SlR true K T B (Mg_targets mg) r D mt) {n : Nat} (hn : n ∈ pre T r) (e : aS T n = 1 ∨ aS T n = 2) (hm : mt n = true) (hI : WI T r D mt mx) : Wst (WI T r D mt) (fun m => ∀ k, k < 12 → dT D n k = true → enX m n (122 + k) = true) mx (f_Md_raises N (nI n) mb mg mx) := by
  have hb' := hb
  obtain ⟨h, hw, h60, hKI, hMk, hsh, hr, hg, -, hkk, -⟩ := hb
  have hK := hKI.2.1
  have h6 := w_60 hb'
  have hnn := pre_lt hw hr hn
  have hs := hS.2.2.2.2.2.2.1
  have hlf : lfB (aS T n) = true := by rcases e with e | e <;> rw [e] <;> decide
  have hdT : ∀ k, k < 32 → dT D n k = tA true K B (aV T n) k := by
    intro k hk
    rw [(sol_lf (hs n hn) hlf).2.2.2.2 k hk]
    rcases e with e | e <;> simp [e]
  by_cases cv : aV T n = -1
  · have hun : f_Md_raises N (nI n) mb mg mx = some mx := by
      rw [f_Md_raises.eq_1]
      match N, hN with
      | N + 1, _ =>
        show f_Md_raises_L2 (N + 1) (nI n) mb mg _ _ = _
        rw [f_Md_raises_L2.eq_1]
        show (if Mg_knownKinds mg ≤ 0 then some mx else (if inB (nI n) 60 = true then (if Mb_given mb (nI n).toNatClampNeg = -1 then some mx else _) else none)) = _
        rw [if_pos (inB_nI (show n < 60 by omega) (by decide)), nI_clamp (show n < 2 ^ 31 by omega), (h.2.1 n hnn).2.1, if_pos cv]
        by_cases c : Mg_knownKinds mg ≤ 0
        · rw [if_pos c]
        · rw [if_neg c]
    rw [hun]
    refine Wst_pure hI (fun k hk ht => ?_)
    rw [hdT k (by omega)] at ht
    unfold tA at ht
    rw [if_pos cv] at ht; cases ht
  · obtain ⟨c, hc, ec⟩ : ∃ c, c < K ∧ aV T n = nI c := by
      rcases e with e | e
      · rcases (hsh n hnn).2.2.1 e with hh | hh
        · exact absurd hh cv
        · exact hh
      · exact (hsh n hnn).2.2.2.1 e
    have hdB : ∀ k, k < 32 → dT D n k = (decide (k < K) && B k c) := by
      intro k hk
      rw [hdT k hk]
      unfold tA
      rw [if_neg cv, ec, nI_clamp (by omega)]; rfl
    have key : ∀ (d k fuel : Nat) (m : MxS), k + d = K → WI T r D mt m → d < fuel → Wst (WI T r D mt) (fun m => ∀ j, k ≤ j → j < 12 → dT D n j = true → enX m n (122 + j) = true) m (lp (f_Md_raises_L2 N (nI n) mb mg) fuel (nI k, m)) := by
      intro d
      induction d with
      | zero =>
        intro k fuel m hk hm' hf
        match fuel, hf with
        | fuel + 1, _ =>
          have hun : lp (f_Md_raises_L2 N (nI n) mb mg) (fuel + 1) (nI k, m) = _ := f_Md_raises_L2.eq_1 N (nI n) mb mg (lp (f_Md_raises_L2 N (nI n) mb mg) fuel) (nI k, m)
          rw [hkk, if_pos (nI_le (by omega) (by omega))] at hun
          rw [hun]
          refine Wst_pure hm' (fun j a1 a2 a3 => ?_)
          rw [hdB j (by omega), Bool.and_eq_true] at a3
          have : j < K := by simpa using a3.1
          omega
      | succ d ih =>
        intro k fuel m hk hm' hf
        match fuel, hf with
        | fuel + 1, hf =>
          have hun : lp (f_Md_raises_L2 N (nI n) mb mg) (fuel + 1) (nI k, m) = _ := f_Md_raises_L2.eq_1 N (nI n) mb mg (lp (f_Md_raises_L2 N (nI n) mb mg) fuel) (nI k, m)
          rw [hkk, if_neg (nI_ge (show k < K by omega) (by omega)), if_pos (inB_nI (show n < 60 by omega) (by decide)), if_pos (inB_nI (show n < 60 by omega) (by decide)), nI_clamp (show n < 2 ^ 31 by omega), (h.2.1 n hnn).2.1, if_neg cv, ec, md_isBelow hKI hMk (by omega) (show k < K by omega) hc, show (122 : Int32) = nI 122 by decide, nI_add] at hun
          simp only [Option.bind_some, b0, nI_1] at hun
          rw [hun]
          have ihm : ∀ m, WI T r D mt m → Wst (WI T r D mt) _ m (lp (f_Md_raises_L2 N (nI n) mb mg) fuel (nI (k + 1), m)) := fun m hm2 => ih (k + 1) fuel m (by omega) hm2 (by omega)
          by_cases cb : B k c = true
          · rw [if_pos cb]
            refine Wst_mono (Wst_bind (st_end h6 hm' hn (show 122 + k < 134 by omega) ⟨hm, ?_⟩) ihm) (fun hh j a1 a2 a3 => ?_)
            · rw [wy_122, hdB k (by omega), cb]
              have : k < K := by omega
              simp [this]
            · by_cases cj : j = k
              · subst cj; exact hh.1
              · exact hh.2 j (by omega) a2 a3
          · rw [if_neg cb]
            refine Wst_mono (ihm m hm') (fun hh j a1 a2 a3 => ?_)
            by_cases cj : j = k
            · subst cj
              rw [hdB j (by omega), Bool.and_eq_true] at a3
              exact absurd a3.2 cb
            · exact hh j (by omega) a2 a3
    rw [f_Md_raises.eq_1]
    exact Wst_mono (key K 0 N mx (by omega) hI (by omega)) (fun hh k hk ht => hh k (by omega) hk ht)
theorem w_leaf (hb : BldM mb mg K ab B T rl r) (hN : 1000 < N) (hS : SlR true K T B (Mg_targets mg) r D mt) {n : Nat} (hn : n ∈ pre T r) (hlf : lfB (aS T n) = true) (hm : mt n = true) (hI : WI T r D mt mx) : Wst (WI T r D mt) (GoalN T D n) mx (f_Md_walk N (nI n) mb mg mx) := by
  have hb' := hb
  obtain ⟨h, hw, h60, hKI, hMk, hsh, hr, hg, -, hkk, -, hTg⟩ := hb
  have hK := hKI.2.1
  have h6 := w_60 hb'
  have hnn := pre_lt hw hr hn
  have hs := hS.2.2.2.2.2.2.1
  obtain ⟨s1, s2, s3, s4, s5⟩ := sol_lf (hs n hn) hlf
  have hnil := lf_nil (hsh n hnn) hlf
  have goal : ∀ m, (∀ w, w < 134 → wy D n w = true → enX m n w = true) → GoalN T D n m := by
    intro m hh _
    exact ⟨fun p hp => by rw [hnil] at hp; simp at hp, hh⟩
  have hun : f_Md_walk N (nI n) mb mg mx = _ := f_Md_walk.eq_1 N (nI n) mb mg mx
  rw [if_pos (inB_nI (show n < 60 by omega) (by decide)), if_pos (inB_nI (show n < 60 by omega) (by decide)), nI_clamp (show n < 2 ^ 31 by omega), (h.2.1 n hnn).1] at hun
  have ways : ∀ w, w < 134 → wy D n w = true → (w = 0 ∧ (aS T n = 0 ∨ aS T n = 1)) ∨ (w = 1 ∧ aS T n = 3) ∨ (∃ y, y < 60 ∧ w = 2 + y ∧ aS T n = 10 ∧ Mg_targets mg n = nI y) ∨ (∃ y, y < 60 ∧ w = 62 + y ∧ aS T n = 11 ∧ Mg_targets mg n = nI y) ∨ (∃ k, k < 12 ∧ w = 122 + k ∧ (aS T n = 1 ∨ aS T n = 2) ∧ dT D n k = true) := by
    intro w hw2 hh
    rcases wyc hw2 with e | e | ⟨y, hy, e⟩ | ⟨y, hy, e⟩ | ⟨k, hk, e⟩
    · subst e
      rw [wy_0, s1] at hh
      exact Or.inl ⟨rfl, by simpa using hh⟩
    · subst e
      rw [wy_1, s2] at hh
      exact Or.inr (Or.inl ⟨rfl, by simpa using hh⟩)
    · subst e
      rw [wy_2 hy, s3 y (by omega), Bool.and_eq_true] at hh
      exact Or.inr (Or.inr (Or.inl ⟨y, hy, rfl, by simpa using hh.1, by simpa using hh.2⟩))
    · subst e
      rw [wy_62 hy, s4 y (by omega), Bool.and_eq_true] at hh
      exact Or.inr (Or.inr (Or.inr (Or.inl ⟨y, hy, rfl, by simpa using hh.1, by simpa using hh.2⟩)))
    · subst e
      rw [wy_122] at hh
      refine Or.inr (Or.inr (Or.inr (Or.inr ⟨k, hk, rfl, ?_, hh⟩)))
      rw [s5 k (by omega), Bool.and_eq_true] at hh
      simpa using hh.1
  have lit : ∀ {a c : Int32}, aS T n = a → aS T n = c → a = c := fun h1 h2 => h1.symm.trans h2
  have hcas : aS T n = 0 ∨ aS T n = 1 ∨ aS T n = 2 ∨ aS T n = 3 ∨ aS T n = 10 ∨ aS T n = 11 := by
    unfold lfB at hlf
    simp only [Bool.or_eq_true, decide_eq_true_eq] at hlf
    rcases hlf with ((((h | h) | h) | h) | h) | h
    · exact Or.inl h
    · exact Or.inr (Or.inl h)
    · exact Or.inr (Or.inr (Or.inl h))
    · exact Or.inr (Or.inr (Or.inr (Or.inl h)))
    · exact Or.inr (Or.inr (Or.inr (Or.inr (Or.inl h))))
    · exact Or.inr (Or.inr (Or.inr (Or.inr (Or.inr h))))
  rcases hcas with e | e | e | e | e | e
  · rw [e, if_pos rfl, ob_id] at hun
    rw [hun]
    refine Wst_mono (st_end h6 hI hn (show 0 < 134 by omega) ⟨hm, by rw [wy_0, s1, e]; rfl⟩) (fun hh => goal mx (fun w hw2 hx => ?_))
    rcases ways w hw2 hx with ⟨rfl, -⟩ | ⟨-, e2⟩ | ⟨y, -, -, e2, -⟩ | ⟨y, -, -, e2, -⟩ | ⟨k, -, -, e2, -⟩
    · exact hh
    · exact absurd (lit e e2) (by decide)
    · exact absurd (lit e e2) (by decide)
    · exact absurd (lit e e2) (by decide)
    · rcases e2 with e2 | e2 <;> exact absurd (lit e e2) (by decide)
  · rw [e, if_neg (by decide), if_pos rfl] at hun
    rw [hun]
    have hr2 : ∀ m, WI T r D mt m → Wst (WI T r D mt) (fun m => ∀ k, k < 12 → dT D n k = true → enX m n (122 + k) = true) m ((f_Md_raises N (nI n) mb mg m).bind fun y109 => some y109) := fun m hm2 => by
      rw [ob_id]; exact w_raise hb' hN hS hn (Or.inl e) hm hm2
    refine Wst_mono (Wst_bind (st_end h6 hI hn (show 0 < 134 by omega) ⟨hm, by rw [wy_0, s1, e]; rfl⟩) hr2) (fun hh => goal mx (fun w hw2 hx => ?_))
    rcases ways w hw2 hx with ⟨rfl, -⟩ | ⟨-, e2⟩ | ⟨y, -, -, e2, -⟩ | ⟨y, -, -, e2, -⟩ | ⟨k, hk, rfl, -, ht⟩
    · exact hh.1
    · exact absurd (lit e e2) (by decide)
    · exact absurd (lit e e2) (by decide)
    · exact absurd (lit e e2) (by decide)
    · exact hh.2 k hk ht
  · rw [e, if_neg (by decide), if_neg (by decide), if_pos rfl, ob_id] at hun
    rw [hun]
    refine Wst_mono (w_raise hb' hN hS hn (Or.inr e) hm hI) (fun hh => goal mx (fun w hw2 hx => ?_))
    rcases ways w hw2 hx with ⟨-, e2⟩ | ⟨-, e2⟩ | ⟨y, -, -, e2, -⟩ | ⟨y, -, -, e2, -⟩ | ⟨k, hk, rfl, -, ht⟩
    · rcases e2 with e2 | e2 <;> exact absurd (lit e e2) (by decide)
    · exact absurd (lit e e2) (by decide)
    · exact absurd (lit e e2) (by decide)
    · exact absurd (lit e e2) (by decide)
    · exact hh k hk ht
  · rw [e, if_neg (by decide), if_neg (by decide), if_neg (by decide), if_pos rfl, ob_id] at hun
    rw [hun]
    refine Wst_mono (st_end h6 hI hn (show 1 < 134 by omega) ⟨hm, by rw [wy_1, s2, e]; rfl⟩) (fun hh => goal mx (fun w hw2 hx => ?_))
    rcases ways w hw2 hx with ⟨-, e2⟩ | ⟨rfl, -⟩ | ⟨y, -, -, e2, -⟩ | ⟨y, -, -, e2, -⟩ | ⟨k, -, -, e2, -⟩
    · rcases e2 with e2 | e2 <;> exact absurd (lit e e2) (by decide)
    · exact hh
    · exact absurd (lit e e2) (by decide)
    · exact absurd (lit e e2) (by decide)
    · rcases e2 with e2 | e2 <;> exact absurd (lit e e2) (by decide)
  all_goals
    have hjm : jmp T n = true := by unfold jmp; simp [e]
    have hT := hTg n hn
    unfold TgP at hT
    rw [if_pos hjm] at hT
    obtain ⟨l, hpl, hx⟩ := hT
    have htt : Mg_targets mg n = -1 ∨ ∃ t, t < 60 ∧ Mg_targets mg n = nI t := by
      cases ho : tgT T n l with
      | none => left; rw [hx, ho]; rfl
      | some t =>
        right
        have hs2 : aS T n = 10 ∨ aS T n = 11 := by simpa [jmp] using hjm
        obtain ⟨l1, l2, e2, -⟩ := tgT_some hw hpl (fun q hq e => (hsh q hq).2.2.2.2.2.2.1 (by simp [e])) hs2 ho
        have := Pth_mem hw l n hpl t (by rw [e2]; simp)
        exact ⟨t, by omega, by rw [hx, ho]; rfl⟩
  · have hun2 : f_Md_walk N (nI n) mb mg mx = f_Md_walk_b132 N (nI n) mb mg mx := by rw [hun, e]; rfl
    rw [hun2, f_Md_walk_b132.eq_1, if_pos (inB_nI (show n < 60 by omega) (by decide)), if_pos (inB_nI (show n < 60 by omega) (by decide)), nI_clamp (show n < 2 ^ 31 by omega), (h.2.1 n hnn).1, e, if_pos rfl, f_Md_walk_b161.eq_1, if_pos (inB_nI (show n < 60 by omega) (by decide)), nI_clamp (show n < 2 ^ 31 by omega), ob_id]
    rcases htt with ht | ⟨t, ht, ht2⟩
    · rw [if_pos ht]
      refine Wst_pure hI (goal mx (fun w hw2 hx => ?_))
      rcases ways w hw2 hx with ⟨-, e2⟩ | ⟨-, e2⟩ | ⟨y, hy, -, -, e2⟩ | ⟨y, -, -, e2, -⟩ | ⟨k, -, -, e2, -⟩
      · rcases e2 with e2 | e2 <;> exact absurd (lit e e2) (by decide)
      · exact absurd (lit e e2) (by decide)
      · rw [ht] at e2; exact absurd e2.symm (nI_ne_m1 (by omega))
      · exact absurd (lit e e2) (by decide)
      · rcases e2 with e2 | e2 <;> exact absurd (lit e e2) (by decide)
    · rw [if_neg (by rw [ht2]; exact nI_ne_m1 (by omega)), ht2, show (2 : Int32) = nI 2 by decide, nI_add]
      refine Wst_mono (st_end h6 hI hn (show 2 + t < 134 by omega) ⟨hm, ?_⟩) (fun hh => goal mx (fun w hw2 hx => ?_))
      · rw [wy_2 ht, s3 t (by omega), e, ht2]; simp
      · rcases ways w hw2 hx with ⟨-, e2⟩ | ⟨-, e2⟩ | ⟨y, hy, rfl, -, e2⟩ | ⟨y, -, -, e2, -⟩ | ⟨k, -, -, e2, -⟩
        · rcases e2 with e2 | e2 <;> exact absurd (lit e e2) (by decide)
        · exact absurd (lit e e2) (by decide)
        · rw [ht2] at e2
          have := (nI_eq (by omega) (by omega)).mp e2
          subst this; exact hh
        · exact absurd (lit e e2) (by decide)
        · rcases e2 with e2 | e2 <;> exact absurd (lit e e2) (by decide)
  · have hun2 : f_Md_walk N (nI n) mb mg mx = f_Md_walk_b132 N (nI n) mb mg mx := by rw [hun, e]; rfl
    rw [hun2, f_Md_walk_b132.eq_1, if_pos (inB_nI (show n < 60 by omega) (by decide)), if_pos (inB_nI (show n < 60 by omega) (by decide)), nI_clamp (show n < 2 ^ 31 by omega), (h.2.1 n hnn).1, e, if_neg (show ¬ (11 : Int32) = 10 by decide), f_Md_walk_b161.eq_1, if_pos (inB_nI (show n < 60 by omega) (by decide)), nI_clamp (show n < 2 ^ 31 by omega), ob_id]
    rcases htt with ht | ⟨t, ht, ht2⟩
    · rw [if_pos ht]
      refine Wst_pure hI (goal mx (fun w hw2 hx => ?_))
      rcases ways w hw2 hx with ⟨-, e2⟩ | ⟨-, e2⟩ | ⟨y, -, -, e2, -⟩ | ⟨y, hy, -, -, e2⟩ | ⟨k, -, -, e2, -⟩
      · rcases e2 with e2 | e2 <;> exact absurd (lit e e2) (by decide)
      · exact absurd (lit e e2) (by decide)
      · exact absurd (lit e e2) (by decide)
      · rw [ht] at e2; exact absurd e2.symm (nI_ne_m1 (by omega))
      · rcases e2 with e2 | e2 <;> exact absurd (lit e e2) (by decide)
    · rw [if_neg (by rw [ht2]; exact nI_ne_m1 (by omega)), ht2, show (62 : Int32) = nI 62 by decide, nI_add]
      refine Wst_mono (st_end h6 hI hn (show 62 + t < 134 by omega) ⟨hm, ?_⟩) (fun hh => goal mx (fun w hw2 hx => ?_))
      · rw [wy_62 ht, s4 t (by omega), e, ht2]; simp
      · rcases ways w hw2 hx with ⟨-, e2⟩ | ⟨-, e2⟩ | ⟨y, -, -, e2, -⟩ | ⟨y, hy, rfl, -, e2⟩ | ⟨k, -, -, e2, -⟩
        · rcases e2 with e2 | e2 <;> exact absurd (lit e e2) (by decide)
        · exact absurd (lit e e2) (by decide)
        · exact absurd (lit e e2) (by decide)
        · rw [ht2] at e2
          have := (nI_eq (by omega) (by omega)).mp e2
          subst this; exact hh
        · rcases e2 with e2 | e2 <;> exact absurd (lit e e2) (by decide)
theorem w_walk (hb : BldM mb mg K ab B T rl r) (hN : 1000 < N) (hS : SlR true K T B (Mg_targets mg) r D mt) {n : Nat} (hn : n ∈ pre T r) (hm : mt n = true) (hI : WI T r D mt mx) : Wst (WI T r D mt) (GoalN T D n) mx (f_Md_walk N (nI n) mb mg mx) := by
  have hb' := hb
  obtain ⟨h, hw, h60, hKI, hMk, hsh, hr, hg, -, hkk, -, hTg⟩ := hb
  have h6 := w_60 hb'
  have hnn := pre_lt hw hr hn
  by_cases hlf : lfB (aS T n) = true
  · exact w_leaf hb' hN hS hn hlf hm hI
  · have hlf : lfB (aS T n) = false := by simpa using hlf
    have hun : f_Md_walk N (nI n) mb mg mx = _ := f_Md_walk.eq_1 N (nI n) mb mg mx
    rw [if_pos (inB_nI (show n < 60 by omega) (by decide)), if_pos (inB_nI (show n < 60 by omega) (by decide)), nI_clamp (show n < 2 ^ 31 by omega), (h.2.1 n hnn).1, (h.2.1 n hnn).2.1, (h.2.1 n hnn).2.2.2.2.2.1] at hun
    have hs := hsh n hnn
    have b219 : (aS T n = 9 ∨ aS T n = 12) → Wst (WI T r D mt) (GoalN T D n) mx (f_Md_walk_b219 N (nI n) mb mg mx) := by
      intro e
      obtain ⟨p, hP⟩ : ∃ p, aP T n = [p] := by
        have hl := hs.2.2.2.2.2.2.1 (by rcases e with e | e <;> simp [e])
        match hP : aP T n, hl with
        | [p], _ => exact ⟨p, rfl⟩
      rw [f_Md_walk_b219.eq_1, if_pos (inB_nI (show n < 60 by omega) (by decide)), nI_clamp (show n < 2 ^ 31 by omega), (h.2.1 n hnn).2.2.2.2.2.1, hP]
      exact w_line hb' hN hS hn (by rcases e with e | e; exact Or.inl e; exact Or.inr (Or.inl e)) hP hm hI
    rcases srt17 hs with e | e | e | e | e | e | e | e | e | e | e | e | e | e | e | e | e
    all_goals first | (exfalso; rw [e] at hlf; revert hlf; decide) | skip
    · rw [hun, e]
      show Wst _ _ _ ((f_Md_branches N (nI n) (aV T n) mb mx).bind fun y177 => some y177)
      rw [ob_id]; exact w_if hb' hN hS hn e hm hI
    · rw [hun, e]
      show Wst _ _ _ (f_Md_walk_b183 N (nI n) (aV T n) mb mg mx)
      rw [f_Md_walk_b183.eq_1, ob_id]
      have hV := hs.2.2.2.2.2.2.2.1 (Or.inr (Or.inl e))
      refine w_turn hb' hN hS hn (Or.inl e) hm hI _ ?_
      rw [if_neg (by rw [e]; decide)]
      unfold tOf
      rcases hV with hv | hv | hv <;> rw [hv] <;> rfl
    · rw [hun, e]
      show Wst _ _ _ (f_Md_walk_b183 N (nI n) (aV T n) mb mg mx)
      rw [f_Md_walk_b183.eq_1, ob_id]
      exact w_do hb' hN hS hn e hm hI
    · rw [hun, e]
      show Wst _ _ _ (if aV T n = 3 then f_Md_walk_b204 N (1 : Int32) (nI n) mb mg mx else f_Md_walk_b204 N (aV T n) (nI n) mb mg mx)
      rw [f_Md_walk_b204.eq_1, f_Md_walk_b204.eq_1, ob_id, ob_id]
      by_cases v3 : aV T n = 3
      · rw [if_pos v3]
        refine w_turn hb' hN hS hn (Or.inr (Or.inl e)) hm hI _ ?_
        rw [if_neg (by rw [e]; decide)]
        unfold tOf; rw [if_pos v3]
      · rw [if_neg v3]
        refine w_turn hb' hN hS hn (Or.inr (Or.inl e)) hm hI _ ?_
        rw [if_neg (by rw [e]; decide)]
        unfold tOf; rw [if_neg v3]
    · rw [hun, e]
      show Wst _ _ _ ((f_Md_turns N (nI n) (2 : Int32) mb mx).bind fun y213 => some y213)
      rw [ob_id]
      exact w_turn hb' hN hS hn (Or.inr (Or.inr e)) hm hI _ (by rw [if_pos e])
    · rw [hun, e]
      exact b219 (Or.inl e)
    · rw [hun, e]
      exact b219 (Or.inr e)
    · rw [hun, e]
      show Wst _ _ _ (if inB (nI n) 60 = true then (if nx (aP T n).head? = (-1 : Int32) then ((f_Md_endBy (nI n) (0 : Int32) mx).bind fun y250 => some y250) else (if inB (nI n) 60 = true then ((f_Md_come (nx (aP T n).head?) mx).bind fun y263 => ((f_Md_steps N (nI n) mb y263).bind fun y268 => some y268)) else none)) else none)
      rw [if_pos (inB_nI (show n < 60 by omega) (by decide)), if_pos (inB_nI (show n < 60 by omega) (by decide))]
      cases hP : aP T n with
      | nil =>
        rw [if_pos (show nx ([] : List Nat).head? = -1 from rfl), ob_id]
        have c2 : aS T n ≠ 16 := by rw [e]; decide
        refine Wst_mono (st_end h6 hI hn (show 0 < 134 by omega) (gp_snd hS hI hn hlf c2 hm (by unfold gpX; simp [e, hP, bfX]))) (fun hh => clw_goal hS hn hlf c2 ⟨fun p hp => ?_, fun l1 p l2 hP' => ?_, fun _ => hh⟩)
        · rw [hP] at hp; simp at hp
        · rw [hP] at hP'; simp at hP'
      | cons p ps =>
        have hpl := hw.1 n hnn p (by rw [hP]; simp)
        rw [if_neg (show ¬ nx (p :: ps).head? = -1 from nI_ne_m1 (by omega))]
        exact w_line hb' hN hS hn (Or.inr (Or.inr e)) hP hm hI
    · rw [hun, e]
      show Wst _ _ _ (f_Md_walk_b274 N (nI n) mb mg mx)
      rw [f_Md_walk_b274.eq_1, ob_id]
      exact w_switch hb' hN hS hn (Or.inl e) hm hI
    · rw [hun, e]
      show Wst _ _ _ (f_Md_walk_b274 N (nI n) mb mg mx)
      rw [f_Md_walk_b274.eq_1, ob_id]
      exact w_switch hb' hN hS hn (Or.inr e) hm hI
    · rw [hun, e]
      show Wst _ _ _ ((f_Md_tries N (nI n) mb mx).bind fun y284 => some y284)
      rw [ob_id]
      exact w_try hb' hN hS hn e hm hI
end W
