section W
variable {mb : MbS} {mg : MgS} {K : Nat} {ab : Nat → Nat} {B : Nat → Nat → Bool} {T : AT} {rl : List Nat} {r N : Nat} {D : Dt} {mt : Nat → Bool} {mx : MxS}
theorem line_q (hS : SlR true K T B (Mg_targets mg) r D mt) {n : Nat} (hn : n ∈ pre T r) (e : aS T n = 13 ∨ aS T n = 14) (hm : mt n = true) : ∀ l1 p q l2, aP T n = l1 ++ p :: q :: l2 → mt p = true → dN D p = true → mt q = true := by
  intro l1 p q l2 hP h1 h2
  obtain ⟨hw, h60, hr, hK, hsh, -, hs, -⟩ := id hS
  have c1 : lfB (aS T n) = false := by rcases e with e | e <;> rw [e] <;> decide
  have c2 : aS T n ≠ 16 := by rcases e with e | e <;> rw [e] <;> decide
  have hp : p ∈ aP T n := by rw [hP]; simp
  have hq : q ∈ aP T n := by rw [hP]; simp
  have w1 := (sol_wh (hs n hn) c1 c2).1 (l1.length + 1) q (by rw [hP, show l1 ++ p :: q :: l2 = (l1 ++ [p]) ++ q :: l2 by simp, show l1.length + 1 = (l1 ++ [p]).length by simp, List.getElem?_append_right (Nat.le_refl _)]; simp)
  have hg : gob D (aP T n) (l1.length + 1) = true := by rw [hP, gob_at, (mt_dO hS hn hp h1).2, h2]; rfl
  rw [mt_dn hS hn hq, hm, w1, hg]
  unfold opn
  rcases e with e | e <;> simp [e]
theorem line_l (hS : SlR true K T B (Mg_targets mg) r D mt) {n : Nat} (hn : n ∈ pre T r) (e : aS T n = 13 ∨ aS T n = 14) (hm : mt n = true) : ∀ l1 p, aP T n = l1 ++ [p] → mt p = true → dN D p = true → mt n = true ∧ wy D n 0 = true := by
  intro l1 p hP h1 h2
  obtain ⟨hw, h60, hr, hK, hsh, -, hs, -⟩ := id hS
  have c1 : lfB (aS T n) = false := by rcases e with e | e <;> rw [e] <;> decide
  have c2 : aS T n ≠ 16 := by rcases e with e | e <;> rw [e] <;> decide
  have hp : p ∈ aP T n := by rw [hP]; simp
  have hg : gob D (aP T n) (aP T n).length = true := by
    rw [gob_end, hP, List.getLast?_concat]
    show (dO D p && dN D p) = true
    rw [(mt_dO hS hn hp h1).2, h2]; rfl
  refine ⟨hm, ?_⟩
  rw [wy_0, (sol_wh (hs n hn) c1 c2).2.2.2.2.2, Bool.or_eq_true]
  left
  unfold gpa
  rcases e with e | e <;> simp [e, hg]
theorem w_line (hb : BldM mb mg K ab B T rl r) (hN : 1000 < N) (hS : SlR true K T B (Mg_targets mg) r D mt) {n p : Nat} {ps : List Nat} (hn : n ∈ pre T r) (e : aS T n = 9 ∨ aS T n = 12 ∨ aS T n = 13) (hP : aP T n = p :: ps) (hm : mt n = true) (hI : WI T r D mt mx) : Wst (WI T r D mt) (GoalN T D n) mx ((f_Md_come (nI p) mx).bind fun y => ((f_Md_steps N (nI n) mb y).bind fun y2 => some y2)) := by
  have hb' := hb
  obtain ⟨h, hw, h60, hKI, hMk, hsh, hr, hg, -⟩ := hb
  have h6 := w_60 hb'
  have hnn := pre_lt hw hr hn
  have hs := hsh n hnn
  have c1 : lfB (aS T n) = false := by rcases e with e | e | e <;> rw [e] <;> decide
  have c2 : aS T n ≠ 16 := by rcases e with e | e | e <;> rw [e] <;> decide
  have hpP : p ∈ aP T n := by rw [hP]; simp
  have hpp := pre_dn hw r hr n hn p hpP
  have one : aS T n = 9 ∨ aS T n = 12 → ps = [] := by
    intro e2
    have hl := hs.2.2.2.2.2.2.1 (by rcases e2 with e2 | e2 <;> simp [e2])
    rw [hP] at hl
    exact List.length_eq_zero_iff.mp (by simpa using hl)
  have hq : ∀ l1 x y l2, aP T n = l1 ++ x :: y :: l2 → mt x = true → dN D x = true → mt y = true := by
    intro l1 x y l2 hP' h1 h2
    by_cases e2 : aS T n = 13
    · exact line_q hS hn (Or.inl e2) hm l1 x y l2 hP' h1 h2
    · have hnil := one (by rcases e with e | e | e; exact Or.inl e; exact Or.inr e; exact absurd e e2)
      have := congrArg List.length (hP'.symm.trans hP)
      rw [hnil] at this
      simp at this
      omega
  have hl : ∀ l1 x, aP T n = l1 ++ [x] → mt x = true → dN D x = true → mt n = true ∧ wy D n 0 = true := by
    intro l1 x hP' h1 h2
    by_cases e2 : aS T n = 13
    · exact line_l hS hn (Or.inl e2) hm l1 x hP' h1 h2
    · exact nrm_any hS hn (by rcases e with e | e | e; exact Or.inr (Or.inl e); exact Or.inr (Or.inr (Or.inl e)); exact absurd e e2) hm x (by rw [hP']; simp) h1 h2
  have s2 : ∀ m, WI T r D mt m → Wst (WI T r D mt) (StQ T n (aP T n)) m ((f_Md_steps N (nI n) mb m).bind fun y2 => some y2) := by
    intro m hm'
    rw [ob_id]
    exact w_steps hb' hN hS hn c1 c2 hq hl hm'
  refine Wst_mono (Wst_bind (st_come h6 hI hpp (open_snd hS hI hn c1 c2 hm (l1 := []) (l2 := ps) hP ?_)) s2) (fun hh => ?_)
  · unfold opn
    rcases e with e | e | e <;> simp [e, bfX]
  · obtain ⟨q1, q2, q3, q4⟩ := hh
    refine clw_goal hS hn c1 c2 ⟨q2, fun l1 x l2 hP' ho => ?_, fun hg2 => ?_⟩
    · rcases List.eq_nil_or_concat l1 with e3 | ⟨l1', z, e3⟩
      · subst e3
        rw [hP] at hP'
        simp only [List.nil_append] at hP'
        injection hP' with e4 e5
        subst e4
        exact q1
      · rw [List.concat_eq_append] at e3
        subst e3
        have hP2 : aP T n = l1' ++ z :: x :: l2 := by rw [hP']; simp
        by_cases e2 : aS T n = 13
        · unfold opn at ho
          simp [e2] at ho
          unfold bfX at ho
          rw [List.getLast?_concat] at ho
          exact q3 l1' z x l2 hP2 ho
        · have hnil := one (by rcases e with e | e | e; exact Or.inl e; exact Or.inr e; exact absurd e e2)
          have := congrArg List.length (hP2.symm.trans hP)
          rw [hnil] at this
          simp at this
          omega
    · by_cases e2 : aS T n = 13
      · unfold gpX at hg2
        simp [e2] at hg2
        rcases List.eq_nil_or_concat (aP T n) with e3 | ⟨l1', z, e3⟩
        · rw [hP] at e3; cases e3
        · rw [List.concat_eq_append] at e3
          unfold bfX at hg2
          rw [e3, List.getLast?_concat] at hg2
          exact q4 l1' z e3 hg2
      · have e9 : aS T n = 9 ∨ aS T n = 12 := by
          rcases e with e | e | e
          · exact Or.inl e
          · exact Or.inr e
          · exact absurd e e2
        have hnil := one e9
        rw [hnil] at hP
        have : (aP T n).any (fun p => enX mx p 0) = true := by
          unfold gpX at hg2
          rcases e9 with e9 | e9
          · simpa [e9] using hg2
          · simpa [e9] using hg2
        rw [hP] at this
        exact q4 [] p (by rw [hP]; rfl) (by simpa using this)
def SwQ (T : AT) (n : Nat) (fb : Bool) (l : List Nat) (m : MxS) : Prop := ∀ p ∈ l, (aM T p ≠ 0 → coX m p = true) ∧ (fb = false → QP T n p m ∧ (enX m p 0 = true → enX m n 0 = true))
theorem w_switch (hb : BldM mb mg K ab B T rl r) (hN : 1000 < N) (hS : SlR true K T B (Mg_targets mg) r D mt) {n : Nat} (hn : n ∈ pre T r) (e : aS T n = 14 ∨ aS T n = 15) (hm : mt n = true) (hI : WI T r D mt mx) : Wst (WI T r D mt) (GoalN T D n) mx (f_Md_switches N (nI n) mb mx) := by
  have hb' := hb
  obtain ⟨h, hw, h60, hKI, hMk, hsh, hr, hg, -⟩ := hb
  have h6 := w_60 hb'
  have hnn := pre_lt hw hr hn
  have hs := hsh n hnn
  have c1 : lfB (aS T n) = false := by rcases e with e | e <;> rw [e] <;> decide
  have c2 : aS T n ≠ 16 := by rcases e with e | e <;> rw [e] <;> decide
  have hlen : (aP T n).length ≤ 60 := nodup_le (hw.2.1 n hnn) (fun p hp => by have := hw.1 n hnn p hp; omega)
  have hmk : ∀ p ∈ aP T n, aM T p = 0 ∨ aM T p = 1 ∨ aM T p = 2 := by
    intro p hp
    rcases e with e | e
    · obtain ⟨i, hi⟩ := List.getElem?_of_mem hp
      exact ((hs.2.2.2.2.2.2.2.2.2.2.2.1 e).1 i p hi).1
    · exact Or.inr ((hs.2.2.2.2.2.2.2.2.2.2.2.2.1 e).1 p hp)
  have hE : aE T n = 0 ∨ aE T n = 1 ∨ aE T n = 2 := by
    rcases e with e | e
    · exact (hs.2.2.2.2.2.2.2.2.2.2.2.1 e).2
    · exact Or.inl (hs.2.2.2.2.2.2.2.2.2.2.2.2.1 e).2
  have main : ∀ fb : Bool, (fb = true ↔ aS T n = 14) → ∀ m, WI T r D mt m → Wst (WI T r D mt) (fun m => SwQ T n fb (aP T n) m ∧ (fb = true → StQ T n (aP T n) m) ∧ ((fb = true ∧ aE T n ≠ 0) ∨ dfB T n = false → enX m n 0 = true)) m (lp (f_Md_switches_L24 N (nI n) (bi fb) mb) N (nx (aP T n).head?, m)) := by
    intro fb hfb
    have s108 : ∀ m, WI T r D mt m → ((fb = true ∧ aE T n ≠ 0) ∨ dfB T n = false) → Wst (WI T r D mt) (fun m => enX m n 0 = true) m (f_Md_switches_b108 N (nI n) mb m) := by
      intro m hm' hc
      rw [f_Md_switches_b108.eq_1, ob_id]
      refine st_end h6 hm' hn (show 0 < 134 by omega) (gp_snd hS hm' hn c1 c2 hm ?_)
      unfold gpX
      rcases hc with ⟨hc1, hc2⟩ | hc
      · have e14 := hfb.mp hc1
        simp [e14, hc2]
      · rcases e with e | e <;> simp [e, hc]
    have s100 : ∀ m, WI T r D mt m → Wst (WI T r D mt) (fun m => dfB T n = false → enX m n 0 = true) m (f_Md_switches_b100 N (nI n) mb m) := by
      intro m hm'
      rw [f_Md_switches_b100.eq_1, md_whole hb' (by omega) hnn e]
      simp only [Option.bind_some, b0]
      by_cases cd : dfB T n = true
      · rw [if_pos cd]
        exact Wst_pure hm' (fun hh => by rw [cd] at hh; cases hh)
      · rw [if_neg cd]
        have cd : dfB T n = false := by simpa using cd
        exact Wst_mono (s108 m hm' (Or.inr cd)) (fun hh _ => hh)
    have s87 : ∀ m, WI T r D mt m → Wst (WI T r D mt) (fun m => ((fb = true ∧ aE T n ≠ 0) ∨ dfB T n = false → enX m n 0 = true)) m (f_Md_switches_b87 N (nI n) (bi fb) mb m) := by
      intro m hm'
      rw [f_Md_switches_b87.eq_1, if_pos (inB_nI (show n < 60 by omega) (by decide)), nI_clamp (show n < 2 ^ 31 by omega), (h.2.1 n hnn).2.2.2.1, b0]
      by_cases cf : fb = true
      · rw [if_pos cf]
        by_cases cE : aE T n = 0
        · rw [if_neg (by rw [cE]; decide)]
          exact Wst_mono (s100 m hm') (fun hh hc => by
            rcases hc with hc | hc
            · exact absurd cE hc.2
            · exact hh hc)
        · have hpos : (0 : Int32) < aE T n := by
            rcases hE with hh | hh | hh
            · exact absurd hh cE
            · rw [hh]; decide
            · rw [hh]; decide
          rw [if_pos hpos]
          exact Wst_mono (s108 m hm' (Or.inl ⟨cf, cE⟩)) (fun hh _ => hh)
      · rw [if_neg cf]
        exact Wst_mono (s100 m hm') (fun hh hc => by
          rcases hc with hc | hc
          · exact absurd hc.1 cf
          · exact hh hc)
    have key : ∀ (l2 l1 : List Nat) (fuel : Nat) (m : MxS), aP T n = l1 ++ l2 → WI T r D mt m → l2.length < fuel → Wst (WI T r D mt) (fun m => SwQ T n fb l2 m ∧ (fb = true → StQ T n (aP T n) m) ∧ ((fb = true ∧ aE T n ≠ 0) ∨ dfB T n = false → enX m n 0 = true)) m (lp (f_Md_switches_L24 N (nI n) (bi fb) mb) fuel (nx l2.head?, m)) := by
      intro l2
      induction l2 with
      | nil =>
        intro l1 fuel m hP hm' hf
        match fuel, hf with
        | fuel + 1, _ =>
          have hun : lp (f_Md_switches_L24 N (nI n) (bi fb) mb) (fuel + 1) (nx ([] : List Nat).head?, m) = (if fb = true then ((f_Md_steps N (nI n) mb m).bind fun y84 => f_Md_switches_b87 N (nI n) (bi fb) mb y84) else f_Md_switches_b87 N (nI n) (bi fb) mb m) := by
            show f_Md_switches_L24 N (nI n) (bi fb) mb _ _ = _
            rw [f_Md_switches_L24.eq_1]
            show (if (-1 : Int32) = -1 then (if bi fb = 0 then f_Md_switches_b87 N (nI n) (bi fb) mb m else ((f_Md_steps N (nI n) mb m).bind fun y84 => f_Md_switches_b87 N (nI n) (bi fb) mb y84)) else _) = _
            rw [if_pos rfl, b0]
          rw [hun]
          by_cases cf : fb = true
          · rw [if_pos cf]
            have e14 := hfb.mp cf
            refine Wst_mono (Wst_bind (w_steps hb' hN hS hn c1 c2 (line_q hS hn (Or.inr e14) hm) (line_l hS hn (Or.inr e14) hm) hm') s87) (fun hh => ⟨fun p hp => by simp at hp, fun _ => hh.1, hh.2⟩)
          · rw [if_neg cf]
            exact Wst_mono (s87 m hm') (fun hh => ⟨fun p hp => by simp at hp, fun hc => absurd hc cf, hh⟩)
      | cons p l2 ih =>
        intro l1 fuel m hP hm' hf
        have hp : p ∈ aP T n := by rw [hP]; simp
        have hpp := pre_dn hw r hr n hn p hp
        have hpl := hw.1 n hnn p hp
        match fuel, hf with
        | fuel + 1, hf =>
          have ihm : ∀ m, WI T r D mt m → Wst (WI T r D mt) (fun m => SwQ T n fb l2 m ∧ (fb = true → StQ T n (aP T n) m) ∧ ((fb = true ∧ aE T n ≠ 0) ∨ dfB T n = false → enX m n 0 = true)) m (lp (f_Md_switches_L24 N (nI n) (bi fb) mb) fuel (nx l2.head?, m)) := fun m hm2 => ih (l1 ++ [p]) fuel m (by rw [hP]; simp) hm2 (by simpa using hf)
          have s68 : ∀ m, f_Md_switches_b68 N (lp (f_Md_switches_L24 N (nI n) (bi fb) mb) fuel) (nI n) (bi fb) (nI p) mb m = lp (f_Md_switches_L24 N (nI n) (bi fb) mb) fuel (nx l2.head?, m) := by
            intro m
            rw [f_Md_switches_b68.eq_1, if_pos (inB_nI (show p < 60 by omega) (by decide)), nI_clamp (by omega), md_nextL h hnn hP]
          have s43 : ∀ m, WI T r D mt m → Wst (WI T r D mt) (fun m => (fb = false → QP T n p m ∧ (enX m p 0 = true → enX m n 0 = true)) ∧ SwQ T n fb l2 m ∧ (fb = true → StQ T n (aP T n) m) ∧ ((fb = true ∧ aE T n ≠ 0) ∨ dfB T n = false → enX m n 0 = true)) m (f_Md_switches_b43 N (lp (f_Md_switches_L24 N (nI n) (bi fb) mb) fuel) (nI n) (bi fb) (nI p) mb m) := by
            intro m hm2
            rw [f_Md_switches_b43.eq_1, b0]
            simp only [s68]
            by_cases cf : fb = true
            · rw [if_pos cf]
              exact Wst_mono (ihm m hm2) (fun hh => ⟨(fun hc => by rw [cf] at hc; cases hc), hh⟩)
            · rw [if_neg cf]
              have e15 : aS T n = 15 := by
                rcases e with e | e
                · exact absurd (hfb.mpr e) cf
                · exact e
              have s2 : ∀ m, WI T r D mt m → Wst (WI T r D mt) (fun m => (enX m p 0 = true → enX m n 0 = true) ∧ SwQ T n fb l2 m ∧ (fb = true → StQ T n (aP T n) m) ∧ ((fb = true ∧ aE T n ≠ 0) ∨ dfB T n = false → enX m n 0 = true)) m ((f_Md_isEnded (nI p) (0 : Int32) m).bind fun y56 => (if y56 = 0 then lp (f_Md_switches_L24 N (nI n) (bi fb) mb) fuel (nx l2.head?, m) else ((f_Md_endBy (nI n) (0 : Int32) m).bind fun y65 => lp (f_Md_switches_L24 N (nI n) (bi fb) mb) fuel (nx l2.head?, y65)))) := by
                intro m hm3
                have i0 : f_Md_isEnded (nI p) (0 : Int32) m = some (bi (enX m p 0)) := st_is h6 hm3 hpp (show 0 < 134 by omega)
                rw [i0]
                simp only [Option.bind_some, b0]
                by_cases ce : enX m p 0 = true
                · rw [if_pos ce]
                  obtain ⟨z1, z2⟩ := hm3.2.2.1 p hpp 0 (by omega) ce
                  exact Wst_mono (Wst_bind (st_end h6 hm3 hn (show 0 < 134 by omega) (nrm_any hS hn (Or.inr (Or.inr (Or.inr e15))) hm p hp z1 z2)) ihm) (fun hh => ⟨fun _ => hh.1, hh.2⟩)
                · rw [if_neg ce]
                  exact Wst_mono (ihm m hm3) (fun hh => ⟨fun hc => absurd hc ce, hh⟩)
              exact Wst_mono (Wst_bind (w_pass hb' hN hS hn hp c1 c2 hm2) s2) (fun hh => ⟨fun _ => ⟨hh.1, hh.2.1⟩, hh.2.2⟩)
          have fin : ∀ m, (aM T p ≠ 0 → coX m p = true) → (fb = false → QP T n p m ∧ (enX m p 0 = true → enX m n 0 = true)) → SwQ T n fb l2 m → SwQ T n fb (p :: l2) m := by
            intro m a1 a2 a3 q hq
            rcases List.mem_cons.mp hq with rfl | hq
            · exact ⟨a1, a2⟩
            · exact a3 q hq
          have hun : lp (f_Md_switches_L24 N (nI n) (bi fb) mb) (fuel + 1) (nI p, m) = _ := f_Md_switches_L24.eq_1 N (nI n) (bi fb) mb (lp (f_Md_switches_L24 N (nI n) (bi fb) mb) fuel) (nI p, m)
          simp only [if_neg (nI_ne_m1 (show p < 2 ^ 31 by omega)), if_pos (inB_nI (show p < 60 by omega) (show (60 : Nat) < 2 ^ 31 by decide)), nI_clamp (show p < 2 ^ 31 by omega), (h.2.1 p (show p < aN T by omega)).2.2.1] at hun
          show Wst _ _ m (lp (f_Md_switches_L24 N (nI n) (bi fb) mb) (fuel + 1) (nI p, m))
          rw [hun]
          by_cases c0 : aM T p = 0
          · rw [if_pos (show aM T p ≤ 0 by rw [c0]; decide)]
            exact Wst_mono (s43 m hm') (fun hh => ⟨fin m (fun hc => absurd c0 hc) hh.1 hh.2.1, hh.2.2⟩)
          · have hnp : ¬ aM T p ≤ 0 := by
              rcases hmk p hp with hh | hh | hh
              · exact absurd hh c0
              · rw [hh]; decide
              · rw [hh]; decide
            rw [if_neg hnp]
            refine Wst_mono (Wst_bind (st_come h6 hm' hpp (open_snd hS hm' hn c1 c2 hm hP ?_)) s43) (fun hh => ⟨fin m (fun _ => hh.1) hh.2.1 hh.2.2.1, hh.2.2.2⟩)
            unfold opn
            rcases e with e | e <;> simp [e, c0]
    intro m hm'
    exact key (aP T n) [] N m rfl hm' (by omega)
  have fin : ∀ (fb : Bool) (m : MxS), (fb = true ↔ aS T n = 14) → SwQ T n fb (aP T n) m → (fb = true → StQ T n (aP T n) m) → ((fb = true ∧ aE T n ≠ 0) ∨ dfB T n = false → enX m n 0 = true) → GoalN T D n m := by
    intro fb m hfb q1 q2 q3
    refine clw_goal hS hn c1 c2 ⟨fun p hp => ?_, fun l1 x l2 hP' ho => ?_, fun hg2 => ?_⟩
    · cases fb with
      | true => exact (q2 rfl).1 p hp
      | false => exact ((q1 p hp).2 rfl).1
    · by_cases c0 : aM T x = 0
      · have hx : x ∈ aP T n := by rw [hP']; simp
        rcases e with e | e
        · have hmx := ((hs.2.2.2.2.2.2.2.2.2.2.2.1 e).1 l1.length x (by rw [hP']; simp)).2
          rcases List.eq_nil_or_concat l1 with e3 | ⟨l1', z, e3⟩
          · subst e3; exact absurd c0 (hmx rfl)
          · rw [List.concat_eq_append] at e3
            subst e3
            unfold opn at ho
            simp [e, c0] at ho
            unfold bfX at ho
            rw [List.getLast?_concat] at ho
            exact (q2 (hfb.mpr e)).2.1 l1' z x l2 (by rw [hP']; simp) ho
        · have := (hs.2.2.2.2.2.2.2.2.2.2.2.2.1 e).1 x hx
          rw [c0] at this
          rcases this with hh | hh
          · exact absurd hh (by decide)
          · exact absurd hh (by decide)
      · exact (q1 x (by rw [hP']; simp)).1 c0
    · unfold gpX at hg2
      rcases e with e | e
      · have ft := hfb.mpr e
        simp [e] at hg2
        rcases hg2 with (hg2 | hg2) | hg2
        · exact q3 (Or.inr hg2)
        · exact q3 (Or.inl ⟨ft, hg2⟩)
        · rcases List.eq_nil_or_concat (aP T n) with e3 | ⟨l1', z, e3⟩
          · -- no part: no DEFAULT but at the end
            by_cases cd : dfB T n = true
            · have : aE T n = 2 := by
                unfold dfB at cd
                rw [e, e3] at cd
                simpa using cd
              exact q3 (Or.inl ⟨ft, by rw [this]; decide⟩)
            · exact q3 (Or.inr (by simpa using cd))
          · rw [List.concat_eq_append] at e3
            unfold bfX at hg2
            rw [e3, List.getLast?_concat] at hg2
            exact (q2 ft).2.2 l1' z e3 hg2
      · have ff : fb = false := by
          cases fb with
          | false => rfl
          | true => have := hfb.mp rfl; rw [e] at this; exact absurd this (by decide)
        simp [e] at hg2
        rcases hg2 with hg2 | ⟨p, hp, hx⟩
        · exact q3 (Or.inr hg2)
        · exact ((q1 p hp).2 ff).2 hx
  rw [f_Md_switches.eq_1, if_pos (inB_nI (show n < 60 by omega) (by decide)), nI_clamp (show n < 2 ^ 31 by omega), (h.2.1 n hnn).1, f_Md_switches_b16.eq_1, f_Md_switches_b16.eq_1, if_pos (inB_nI (show n < 60 by omega) (by decide)), if_pos (inB_nI (show n < 60 by omega) (by decide)), nI_clamp (show n < 2 ^ 31 by omega), (h.2.1 n hnn).2.2.2.2.2.1]
  by_cases e14 : aS T n = 14
  · rw [if_pos e14]
    exact Wst_mono (main true (by simp [e14]) mx hI) (fun hh => fin true mx (by simp [e14]) hh.1 hh.2.1 hh.2.2)
  · rw [if_neg e14]
    exact Wst_mono (main false (by simp [e14]) mx hI) (fun hh => fin false mx (by simp [e14]) hh.1 hh.2.1 hh.2.2)
end W
