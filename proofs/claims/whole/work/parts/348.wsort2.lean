theorem ob_id (o : Option MxS) : (o.bind fun y => some y) = o := by cases o <;> rfl
section W
variable {mb : MbS} {mg : MgS} {K : Nat} {ab : Nat → Nat} {B : Nat → Nat → Bool} {T : AT} {rl : List Nat} {r N : Nat} {D : Dt} {mt : Nat → Bool} {mx : MxS}
theorem nrm_any (hS : SlR true K T B (Mg_targets mg) r D mt) {n : Nat} (hn : n ∈ pre T r) (e : aS T n = 4 ∨ aS T n = 9 ∨ aS T n = 12 ∨ aS T n = 15) (hm : mt n = true) : ∀ p ∈ aP T n, mt p = true → dN D p = true → mt n = true ∧ wy D n 0 = true := by
  intro p hp h1 h2
  obtain ⟨hw, h60, hr, hK, hsh, -, hs, -⟩ := id hS
  have c1 : lfB (aS T n) = false := by rcases e with e | e | e | e <;> rw [e] <;> decide
  have c2 : aS T n ≠ 16 := by rcases e with e | e | e | e <;> rw [e] <;> decide
  refine ⟨hm, ?_⟩
  have ha : anO D (aP T n) (dN D) = true := anO_iff.mpr ⟨p, hp, (mt_dO hS hn hp h1).2, h2⟩
  rw [wy_0, (sol_wh (hs n hn) c1 c2).2.2.2.2.2, Bool.or_eq_true]
  left
  unfold gpa
  rcases e with e | e | e | e <;> simp [e, ha]
theorem w_if (hb : BldM mb mg K ab B T rl r) (hN : 1000 < N) (hS : SlR true K T B (Mg_targets mg) r D mt) {n : Nat} (hn : n ∈ pre T r) (e : aS T n = 4) (hm : mt n = true) (hI : WI T r D mt mx) : Wst (WI T r D mt) (GoalN T D n) mx (f_Md_branches N (nI n) (aV T n) mb mx) := by
  have hb' := hb
  obtain ⟨h, hw, h60, hKI, hMk, hsh, hr, hg, -⟩ := hb
  have h6 := w_60 hb'
  have hnn := pre_lt hw hr hn
  have hs := hsh n hnn
  have c1 : lfB (aS T n) = false := by rw [e]; decide
  have c2 : aS T n ≠ 16 := by rw [e]; decide
  have hV := hs.2.2.2.2.2.2.2.1 (Or.inl e)
  have hL := w_brL (mx := mx) hb' hN hS hn c1 c2 (nrm_any hS hn (Or.inl e) hm)
  obtain ⟨a, o, hP⟩ : ∃ a, ∃ o : Option Nat, aP T n = a :: o.toList := by
    rcases hs.2.2.2.2.2.1 e with hl | hl
    · match hP : aP T n, hl with
      | [a], _ => exact ⟨a, none, rfl⟩
    · match hP : aP T n, hl with
      | [a, b], _ => exact ⟨a, some b, rfl⟩
  have haP : a ∈ aP T n := by rw [hP]; simp
  have hal := hw.1 n hnn a haP
  have hap := pre_dn hw r hr n hn a haP
  have hfst : Mb_first mb n = nI a := by rw [(h.2.1 n hnn).2.2.2.2.2.1, hP]; rfl
  have hnxt : Mb_next mb a = nx o := by
    rw [md_nextL h hnn (l1 := []) (p := a) (l2 := o.toList) (by rw [hP]; rfl)]
    cases o <;> rfl
  have hL : ∀ m, WI T r D mt m → Wst (WI T r D mt) (BrQ T n (aP T n)) m (lp (f_Md_branches_L61 N (nI n) mb) N (nI a, m)) := by
    intro m hm'
    have := w_brL (mx := m) hb' hN hS hn c1 c2 (nrm_any hS hn (Or.inl e) hm) hm'
    rw [hP] at this ⊢
    exact this
  have op : ∀ m, WI T r D mt m → ∀ l1 p l2, aP T n = l1 ++ p :: l2 → (aV T n = 2 ∨ aV T n = if l1.length = 0 then 1 else 0) → mt p = true := by
    intro m hm' l1 p l2 hP' hv
    refine open_snd hS hm' hn c1 c2 hm hP' ?_
    unfold opn
    rw [if_pos e]
    show (decide (aV T n = 2) || decide (aV T n = if l1.length = 0 then 1 else 0)) = true
    simpa using hv
  have s41 : ∀ m, WI T r D mt m → Wst (WI T r D mt) (fun m => (aV T n ≠ 1 → o = none → enX m n 0 = true) ∧ BrQ T n (aP T n) m) m (f_Md_branches_b41 N (nI n) (aV T n) (nI a) (nx o) mb m) := by
    intro m hm'
    rw [f_Md_branches_b41.eq_1]
    by_cases v1 : aV T n = 1
    · rw [if_pos v1]
      exact Wst_mono (hL m hm') (fun hh => ⟨fun hv => absurd v1 hv, hh⟩)
    · rw [if_neg v1]
      cases o with
      | none =>
        rw [nx_n, if_pos rfl]
        refine Wst_mono (Wst_bind (st_end h6 hm' hn (show 0 < 134 by omega) (gp_snd hS hm' hn c1 c2 hm ?_)) hL) (fun hh => ⟨fun _ _ => hh.1, hh.2⟩)
        unfold gpX
        rw [if_pos e, hP]; simp [v1]
      | some b =>
        have hbl := hw.1 n hnn b (by rw [hP]; simp)
        rw [nx_s, if_neg (nI_ne_m1 (by omega))]
        exact Wst_mono (hL m hm') (fun hh => ⟨(fun _ hv => by cases hv), hh⟩)
  have s24 : ∀ m, WI T r D mt m → Wst (WI T r D mt) (fun m => (aV T n ≠ 1 → ∀ b, o = some b → coX m b = true) ∧ (aV T n ≠ 1 → o = none → enX m n 0 = true) ∧ BrQ T n (aP T n) m) m (f_Md_branches_b24 N (nI n) (aV T n) (nI a) (nx o) mb m) := by
    intro m hm'
    rw [f_Md_branches_b24.eq_1]
    by_cases v1 : aV T n = 1
    · rw [if_pos v1]
      exact Wst_mono (s41 m hm') (fun hh => ⟨fun hv => absurd v1 hv, hh⟩)
    · rw [if_neg v1]
      cases o with
      | none =>
        rw [nx_n, if_pos rfl]
        exact Wst_mono (s41 m hm') (fun hh => ⟨(fun _ b hb2 => by cases hb2), hh⟩)
      | some b =>
        have hbP : b ∈ aP T n := by rw [hP]; simp
        have hbl := hw.1 n hnn b hbP
        rw [nx_s, if_neg (nI_ne_m1 (by omega))]
        refine Wst_mono (Wst_bind (st_come h6 hm' (pre_dn hw r hr n hn b hbP) (op m hm' [a] b [] (by rw [hP]; rfl) ?_)) s41) (fun hh => ⟨(fun _ b' hb2 => by cases hb2; exact hh.1), hh.2⟩)
        rcases hV with hv | hv | hv
        · right; rw [hv]; rfl
        · exact absurd hv v1
        · left; exact hv
  have fin : ∀ m, (aV T n ≠ 0 → coX m a = true) → (aV T n ≠ 1 → ∀ b, o = some b → coX m b = true) → (aV T n ≠ 1 → o = none → enX m n 0 = true) → BrQ T n (aP T n) m → GoalN T D n m := by
    intro m q1 q2 q3 q4
    refine clw_goal hS hn c1 c2 ⟨fun p hp => (q4 p hp).1, fun l1 p l2 hP' ho => ?_, fun hg2 => ?_⟩
    · unfold opn at ho
      rw [if_pos e] at ho
      have ho : (decide (aV T n = 2) || decide (aV T n = if l1.length = 0 then 1 else 0)) = true := ho
      have ho : aV T n = 2 ∨ aV T n = if l1.length = 0 then 1 else 0 := by simpa using ho
      rw [hP] at hP'
      cases l1 with
      | nil =>
        simp only [List.nil_append] at hP'
        injection hP' with e1 e2
        subst e1
        refine q1 (fun hv => ?_)
        rw [hv] at ho
        rcases ho with ho | ho
        · exact absurd ho (by decide)
        · exact absurd ho (by decide)
      | cons z l1 =>
        simp only [List.cons_append] at hP'
        injection hP' with e1 e2
        cases o with
        | none => simp at e2
        | some b =>
          have hp : l1 = [] ∧ b = p := by
            cases l1 with
            | nil => simp only [List.nil_append, Option.toList_some] at e2; injection e2 with e3 e4; exact ⟨rfl, e3⟩
            | cons y l1 =>
              simp only [List.cons_append, Option.toList_some] at e2
              injection e2 with e3 e4
              simp at e4
          rw [← hp.2]
          refine q2 (fun hv => ?_) b rfl
          rw [hv, hp.1] at ho
          rcases ho with ho | ho
          · exact absurd ho (by decide)
          · rw [if_neg (by simp)] at ho
            exact absurd ho (by decide)
    · unfold gpX at hg2
      rw [if_pos e, Bool.or_eq_true] at hg2
      rcases hg2 with hg2 | hg2
      · rw [Bool.and_eq_true] at hg2
        refine q3 (by simpa using hg2.2) ?_
        have : (aP T n).length = 1 := by simpa using hg2.1
        rw [hP] at this
        cases o with
        | none => rfl
        | some b => simp at this
      · rw [List.any_eq_true] at hg2
        obtain ⟨p, hp, hx⟩ := hg2
        exact (q4 p hp).2 hx
  rw [f_Md_branches.eq_1, if_pos (inB_nI (show n < 60 by omega) (by decide)), nI_clamp (show n < 2 ^ 31 by omega), hfst, if_pos (inB_nI (show a < 60 by omega) (by decide)), nI_clamp (show a < 2 ^ 31 by omega), hnxt]
  by_cases v0 : aV T n = 0
  · rw [if_pos v0]
    exact Wst_mono (s24 mx hI) (fun hh => fin mx (fun hv => absurd v0 hv) hh.1 hh.2.1 hh.2.2)
  · rw [if_neg v0]
    refine Wst_mono (Wst_bind (st_come h6 hI hap (op mx hI [] a o.toList (by rw [hP]; rfl) ?_)) s24) (fun hh => fin mx (fun _ => hh.1) hh.2.1 hh.2.2.1 hh.2.2.2)
    rcases hV with hv | hv | hv
    · exact absurd hv v0
    · right; rw [hv]; rfl
    · left; exact hv
theorem w_turn (hb : BldM mb mg K ab B T rl r) (hN : 1000 < N) (hS : SlR true K T B (Mg_targets mg) r D mt) {n : Nat} (hn : n ∈ pre T r) (e : aS T n = 5 ∨ aS T n = 7 ∨ aS T n = 8) (hm : mt n = true) (hI : WI T r D mt mx) (τ : Int32) (hτ : τ = if aS T n = 8 then 2 else tOf T n) : Wst (WI T r D mt) (GoalN T D n) mx (f_Md_turns N (nI n) τ mb mx) := by
  have hb' := hb
  obtain ⟨h, hw, h60, hKI, hMk, hsh, hr, hg, -⟩ := hb
  have h6 := w_60 hb'
  have hnn := pre_lt hw hr hn
  have hs := hsh n hnn
  have c1 : lfB (aS T n) = false := by rcases e with e | e | e <;> rw [e] <;> decide
  have c2 : aS T n ≠ 16 := by rcases e with e | e | e <;> rw [e] <;> decide
  have hn6 : aS T n ≠ 6 := by rcases e with e | e | e <;> rw [e] <;> decide
  obtain ⟨p, hP⟩ : ∃ p, aP T n = [p] := by
    have hl := hs.2.2.2.2.2.2.1 (by rcases e with e | e | e <;> simp [e])
    match hP : aP T n, hl with
    | [p], _ => exact ⟨p, rfl⟩
  have hpP : p ∈ aP T n := by rw [hP]; simp
  have hpl := hw.1 n hnn p hpP
  have hpp := pre_dn hw r hr n hn p hpP
  have hfst : Mb_first mb n = nI p := by rw [(h.2.1 n hnn).2.2.2.2.2.1, hP]; rfl
  have hopn : ∀ b, opn true T n 0 p b = !decide (τ = 0) := by
    intro b
    unfold opn
    rcases e with e | e | e
    · rw [hτ]; simp [e]
    · rw [hτ]; simp [e]
    · rw [hτ]; simp [e]
  have hgp : ∀ m, gpX T m n = !decide (τ = 1) := by
    intro m
    unfold gpX
    rcases e with e | e | e
    · rw [hτ]; simp [e]
    · rw [hτ]; simp [e]
    · rw [hτ]; simp [e]
  have s101 : ∀ m, WI T r D mt m → Wst (WI T r D mt) (QP T n p) m (f_Md_turns_b101 N (nI n) mb m) := by
    intro m hm'
    rw [f_Md_turns_b101.eq_1, if_pos (inB_nI (show n < 60 by omega) (by decide)), nI_clamp (show n < 2 ^ 31 by omega), hfst, ob_id]
    exact w_pass hb' hN hS hn hpP c1 c2 hm'
  have s87 : ∀ m, WI T r D mt m → Wst (WI T r D mt) (fun m => (τ ≠ 0 → coX m p = true) ∧ QP T n p m) m (f_Md_turns_b87 N (nI n) τ mb m) := by
    intro m hm'
    rw [f_Md_turns_b87.eq_1, if_pos (inB_nI (show n < 60 by omega) (by decide)), nI_clamp (show n < 2 ^ 31 by omega), hfst]
    by_cases t0 : τ = 0
    · rw [if_pos t0]
      exact Wst_mono (s101 m hm') (fun hh => ⟨fun hv => absurd t0 hv, hh⟩)
    · rw [if_neg t0]
      refine Wst_mono (Wst_bind (st_come h6 hm' hpp (open_snd hS hm' hn c1 c2 hm (l1 := []) (l2 := []) (by rw [hP]; rfl) ?_)) s101) (fun hh => ⟨fun _ => hh.1, hh.2⟩)
      show opn true T n 0 p _ = true
      rw [hopn]; simp [t0]
  have fin : ∀ m, (τ ≠ 1 → enX m n 0 = true) → (τ ≠ 0 → coX m p = true) → QP T n p m → GoalN T D n m := by
    intro m q1 q2 q3
    refine clw_goal hS hn c1 c2 ⟨fun q hq => ?_, fun l1 q l2 hP' ho => ?_, fun hg2 => ?_⟩
    · rw [hP] at hq
      have : q = p := by simpa using hq
      rw [this]; exact q3
    · rw [hP] at hP'
      cases l1 with
      | nil =>
        simp only [List.nil_append] at hP'
        injection hP' with e1 e2
        subst e1
        have ho : opn true T n 0 p _ = true := ho
        rw [hopn] at ho
        exact q2 (by simpa using ho)
      | cons z l1 =>
        simp only [List.cons_append] at hP'
        injection hP' with e1 e2
        simp at e2
    · rw [hgp] at hg2
      exact q1 (by simpa using hg2)
  rw [f_Md_turns.eq_1, if_pos (inB_nI (show n < 60 by omega) (by decide)), nI_clamp (show n < 2 ^ 31 by omega), (h.2.1 n hnn).1, if_neg hn6]
  by_cases t1 : τ = 1
  · rw [if_pos t1]
    exact Wst_mono (s87 mx hI) (fun hh => fin mx (fun hv => absurd t1 hv) hh.1 hh.2)
  · rw [if_neg t1]
    refine Wst_mono (Wst_bind (st_end h6 hI hn (show 0 < 134 by omega) (gp_snd hS hI hn c1 c2 hm ?_)) s87) (fun hh => fin mx (fun _ => hh.1) hh.2.1 hh.2.2)
    rw [hgp]; simp [t1]
theorem w_do (hb : BldM mb mg K ab B T rl r) (hN : 1000 < N) (hS : SlR true K T B (Mg_targets mg) r D mt) {n : Nat} (hn : n ∈ pre T r) (e : aS T n = 6) (hm : mt n = true) (hI : WI T r D mt mx) : Wst (WI T r D mt) (GoalN T D n) mx (f_Md_turns N (nI n) (aV T n) mb mx) := by
  have hb' := hb
  obtain ⟨h, hw, h60, hKI, hMk, hsh, hr, hg, -⟩ := hb
  have h6 := w_60 hb'
  have hnn := pre_lt hw hr hn
  have hs := hsh n hnn
  have c1 : lfB (aS T n) = false := by rw [e]; decide
  have c2 : aS T n ≠ 16 := by rw [e]; decide
  have hV := hs.2.2.2.2.2.2.2.1 (Or.inr (Or.inr e))
  have htO : tOf T n = aV T n := by
    unfold tOf
    rcases hV with hv | hv | hv <;> rw [hv] <;> rfl
  obtain ⟨p, hP⟩ : ∃ p, aP T n = [p] := by
    have hl := hs.2.2.2.2.2.2.1 (by simp [e])
    match hP : aP T n, hl with
    | [p], _ => exact ⟨p, rfl⟩
  have hpP : p ∈ aP T n := by rw [hP]; simp
  have hpl := hw.1 n hnn p hpP
  have hpp := pre_dn hw r hr n hn p hpP
  have hfst : Mb_first mb n = nI p := by rw [(h.2.1 n hnn).2.2.2.2.2.1, hP]; rfl
  have hgp : ∀ m, gpX T m n = (!decide (aV T n = 1) && (enX m p 0 || enX m p (62 + n))) := by
    intro m
    unfold gpX
    simp [e, hP, htO]
  have s101 : ∀ m, WI T r D mt m → Wst (WI T r D mt) (QP T n p) m (f_Md_turns_b101 N (nI n) mb m) := by
    intro m hm'
    rw [f_Md_turns_b101.eq_1, if_pos (inB_nI (show n < 60 by omega) (by decide)), nI_clamp (show n < 2 ^ 31 by omega), hfst, ob_id]
    exact w_pass hb' hN hS hn hpP c1 c2 hm'
  have fin : ∀ m, coX m p = true → (gpX T m n = true → enX m n 0 = true) → QP T n p m → GoalN T D n m := by
    intro m q1 q2 q3
    refine clw_goal hS hn c1 c2 ⟨fun q hq => ?_, fun l1 q l2 hP' ho => ?_, q2⟩
    · rw [hP] at hq
      have : q = p := by simpa using hq
      rw [this]; exact q3
    · rw [hP] at hP'
      cases l1 with
      | nil =>
        simp only [List.nil_append] at hP'
        injection hP' with e1 e2
        subst e1
        exact q1
      | cons z l1 =>
        simp only [List.cons_append] at hP'
        injection hP' with e1 e2
        simp at e2
  have after : ∀ m, WI T r D mt m → Wst (WI T r D mt) (fun m => (gpX T m n = true → enX m n 0 = true) ∧ QP T n p m) m ((f_Md_isEnded (nI p) (0 : Int32) m).bind fun y29 => (if y29 = 0 then ((f_Md_isEnded (nI p) ((62 : Int32) + nI n) m).bind fun y46 => (if y46 = 0 then f_Md_turns_b57 N (0 : Int32) (nI n) (aV T n) mb m else f_Md_turns_b52 N (nI n) (aV T n) mb m)) else f_Md_turns_b52 N (nI n) (aV T n) mb m)) := by
    intro m hm'
    have i0 : f_Md_isEnded (nI p) (0 : Int32) m = some (bi (enX m p 0)) := st_is h6 hm' hpp (show 0 < 134 by omega)
    have i1 : f_Md_isEnded (nI p) ((62 : Int32) + nI n) m = some (bi (enX m p (62 + n))) := by
      rw [show (62 : Int32) = nI 62 by decide, nI_add]; exact st_is h6 hm' hpp (show 62 + n < 134 by omega)
    have s57 : f_Md_turns_b57 N (0 : Int32) (nI n) (aV T n) mb m = f_Md_turns_b101 N (nI n) mb m := by
      rw [f_Md_turns_b57.eq_1, if_pos rfl, f_Md_turns_b73.eq_1]
    have s52 : f_Md_turns_b52 N (nI n) (aV T n) mb m = if aV T n = 1 then f_Md_turns_b101 N (nI n) mb m else (f_Md_endBy (nI n) (0 : Int32) m).bind fun y70 => f_Md_turns_b101 N (nI n) mb y70 := by
      rw [f_Md_turns_b52.eq_1, f_Md_turns_b57.eq_1, if_neg (by decide), f_Md_turns_b73.eq_1]
      by_cases v1 : aV T n = 1
      · rw [if_pos v1, if_pos v1]
      · rw [if_neg v1, if_neg v1]
        simp only [f_Md_turns_b73.eq_1]
    rw [i0, i1]
    simp only [Option.bind_some, b0]
    rw [s57, s52]
    by_cases cc : (enX m p 0 || enX m p (62 + n)) = true
    · have e2 : (if enX m p 0 = true then (if aV T n = 1 then f_Md_turns_b101 N (nI n) mb m else (f_Md_endBy (nI n) (0 : Int32) m).bind fun y70 => f_Md_turns_b101 N (nI n) mb y70) else (if enX m p (62 + n) = true then (if aV T n = 1 then f_Md_turns_b101 N (nI n) mb m else (f_Md_endBy (nI n) (0 : Int32) m).bind fun y70 => f_Md_turns_b101 N (nI n) mb y70) else f_Md_turns_b101 N (nI n) mb m)) = (if aV T n = 1 then f_Md_turns_b101 N (nI n) mb m else (f_Md_endBy (nI n) (0 : Int32) m).bind fun y70 => f_Md_turns_b101 N (nI n) mb y70) := by
        cases h1 : enX m p 0 <;> cases h2 : enX m p (62 + n) <;> simp_all
      rw [e2]
      by_cases v1 : aV T n = 1
      · rw [if_pos v1]
        exact Wst_mono (s101 m hm') (fun hh => ⟨(fun hg2 => by rw [hgp, v1] at hg2; simp at hg2), hh⟩)
      · rw [if_neg v1]
        refine Wst_mono (Wst_bind (st_end h6 hm' hn (show 0 < 134 by omega) (gp_snd hS hm' hn c1 c2 hm ?_)) s101) (fun hh => ⟨fun _ => hh.1, hh.2⟩)
        rw [hgp, cc]; simp [v1]
    · have cc' : (enX m p 0 || enX m p (62 + n)) = false := by simpa using cc
      rw [Bool.or_eq_false_iff] at cc'
      rw [if_neg (by rw [cc'.1]; decide), if_neg (by rw [cc'.2]; decide)]
      exact Wst_mono (s101 m hm') (fun hh => ⟨(fun hg2 => by rw [hgp, cc'.1, cc'.2] at hg2; simp at hg2), hh⟩)
  rw [f_Md_turns.eq_1, if_pos (inB_nI (show n < 60 by omega) (by decide)), nI_clamp (show n < 2 ^ 31 by omega), (h.2.1 n hnn).1, if_pos e, if_pos (inB_nI (show n < 60 by omega) (by decide)), hfst]
  simp only [if_pos (inB_nI (show n < 60 by omega) (show (60 : Nat) < 2 ^ 31 by decide))]
  refine Wst_mono (Wst_bind (st_come h6 hI hpp (open_snd hS hI hn c1 c2 hm (l1 := []) (l2 := []) (by rw [hP]; rfl) ?_)) after) (fun hh => fin mx hh.1 hh.2.1 hh.2.2)
  unfold opn
  simp [e]
end W
