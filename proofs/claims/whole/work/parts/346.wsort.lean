/-! WALKS: NODES with parts -/
section W
variable {mb : MbS} {mg : MgS} {K : Nat} {ab : Nat → Nat} {B : Nat → Nat → Bool} {T : AT} {rl : List Nat} {r N : Nat} {D : Dt} {mt : Nat → Bool} {mx : MxS}
theorem w_60 (hb : BldM mb mg K ab B T rl r) : ∀ x ∈ pre T r, x < 60 := fun x hx => by
  have := pre_lt hb.2.1 hb.2.2.2.2.2.2.1 hx
  have := hb.2.2.1
  omega
theorem w_pass (hb : BldM mb mg K ab B T rl r) (hN : 1000 < N) (hS : SlR true K T B (Mg_targets mg) r D mt) {n p : Nat} (hn : n ∈ pre T r) (hp : p ∈ aP T n) (c1 : lfB (aS T n) = false) (c2 : aS T n ≠ 16) {m : MxS} (hI : WI T r D mt m) : Wst (WI T r D mt) (QP T n p) m (f_Md_pass N (nI n) (nI p) mb m) :=
  st_pass hb.1 hb.2.2.1 (fun x hx => pre_lt hb.2.1 hb.2.2.2.2.2.2.1 hx) hN hI hn (pre_dn hb.2.1 r hb.2.2.2.2.2.2.1 n hn p hp) (pass_snd hS hn hp c1 c2)
def StQ (T : AT) (n : Nat) (l : List Nat) (m : MxS) : Prop := (∀ p ∈ l, QP T n p m) ∧ (∀ s1 p q s2, l = s1 ++ p :: q :: s2 → enX m p 0 = true → coX m q = true) ∧ (∀ s1 p, l = s1 ++ [p] → enX m p 0 = true → enX m n 0 = true)
theorem w_steps (hb : BldM mb mg K ab B T rl r) (hN : 1000 < N) (hS : SlR true K T B (Mg_targets mg) r D mt) {n : Nat} (hn : n ∈ pre T r) (c1 : lfB (aS T n) = false) (c2 : aS T n ≠ 16) (hq : ∀ l1 p q l2, aP T n = l1 ++ p :: q :: l2 → mt p = true → dN D p = true → mt q = true) (hl : ∀ l1 p, aP T n = l1 ++ [p] → mt p = true → dN D p = true → mt n = true ∧ wy D n 0 = true) (hI : WI T r D mt mx) : Wst (WI T r D mt) (StQ T n (aP T n)) mx (f_Md_steps N (nI n) mb mx) := by
  have hb' := hb
  obtain ⟨h, hw, h60, hKI, hMk, hsh, hr, hg, -⟩ := hb
  have h6 := w_60 hb'
  have hnn := pre_lt hw hr hn
  have hlen : (aP T n).length ≤ 60 := nodup_le (hw.2.1 n hnn) (fun p hp => by have := hw.1 n hnn p hp; omega)
  have key : ∀ (l2 l1 : List Nat) (fuel : Nat) (m : MxS), aP T n = l1 ++ l2 → WI T r D mt m → l2.length < fuel → Wst (WI T r D mt) (StQ T n l2) m (lp (f_Md_steps_L7 N (nI n) mb) fuel (nx l2.head?, m)) := by
    intro l2
    induction l2 with
    | nil =>
      intro l1 fuel m hP hm hf
      match fuel, hf with
      | fuel + 1, _ =>
        have hun : lp (f_Md_steps_L7 N (nI n) mb) (fuel + 1) (nx ([] : List Nat).head?, m) = some m := by
          show f_Md_steps_L7 N (nI n) mb _ _ = _
          rw [f_Md_steps_L7.eq_1]
          show (if (-1 : Int32) = -1 then some m else _) = _
          rw [if_pos rfl]
        rw [hun]
        exact Wst_pure hm ⟨by simp, by simp, by simp⟩
    | cons p l2 ih =>
      intro l1 fuel m hP hm hf
      have hp : p ∈ aP T n := by rw [hP]; simp
      have hpp := pre_dn hw r hr n hn p hp
      have hpl := hw.1 n hnn p hp
      match fuel, hf with
      | fuel + 1, hf =>
        have hun : lp (f_Md_steps_L7 N (nI n) mb) (fuel + 1) (nI p, m) = _ := f_Md_steps_L7.eq_1 N (nI n) mb (lp (f_Md_steps_L7 N (nI n) mb) fuel) (nI p, m)
        simp only [if_neg (nI_ne_m1 (show p < 2 ^ 31 by omega)), st_is h6 hm hpp (show 0 < 134 by omega), show (0 : Int32) = nI 0 from rfl, Option.bind_some, if_pos (inB_nI (show p < 60 by omega) (show (60 : Nat) < 2 ^ 31 by decide)), nI_clamp (show p < 2 ^ 31 by omega), md_nextL h hnn hP, f_Md_steps_b50.eq_1] at hun
        rw [show (nI 0 : Int32) = 0 from rfl] at hun
        simp only [b0] at hun
        show Wst _ _ m (lp (f_Md_steps_L7 N (nI n) mb) (fuel + 1) (nI p, m))
        rw [hun]
        have rest : ∀ m', WI T r D mt m' → Wst (WI T r D mt) (fun m => QP T n p m ∧ StQ T n l2 m) m' ((f_Md_pass N (nI n) (nI p) mb m').bind fun y53 => lp (f_Md_steps_L7 N (nI n) mb) fuel (nx l2.head?, y53)) := fun m' hm' => Wst_bind (w_pass hb' hN hS hn hp c1 c2 hm') (fun m2 hm2 => ih (l1 ++ [p]) fuel m2 (by rw [hP]; simp) hm2 (by simpa using hf))
        have fin : ∀ m, QP T n p m → StQ T n l2 m → (enX m p 0 = true → (∀ q s, l2 = q :: s → coX m q = true) ∧ (l2 = [] → enX m n 0 = true)) → StQ T n (p :: l2) m := by
          intro m a1 a2 a3
          refine ⟨fun q hq => ?_, fun s1 x y s2 e hx => ?_, fun s1 x e hx => ?_⟩
          · rcases List.mem_cons.mp hq with rfl | hq
            · exact a1
            · exact a2.1 q hq
          · cases s1 with
            | nil =>
              simp only [List.nil_append] at e
              injection e with e1 e2
              subst e1
              exact (a3 hx).1 y s2 e2
            | cons z s1 =>
              simp only [List.cons_append] at e
              injection e with e1 e2
              exact a2.2.1 s1 x y s2 e2 hx
          · cases s1 with
            | nil =>
              simp only [List.nil_append] at e
              injection e with e1 e2
              subst e1
              exact (a3 hx).2 e2
            | cons z s1 =>
              simp only [List.cons_append] at e
              injection e with e1 e2
              exact a2.2.2 s1 x e2 hx
        by_cases ce : enX m p 0 = true
        · rw [if_pos ce]
          obtain ⟨z1, z2⟩ := hm.2.2.1 p hpp 0 (by omega) ce
          cases l2 with
          | nil =>
            rw [if_pos (show nx ([] : List Nat).head? = -1 from rfl)]
            refine Wst_mono (Wst_bind (st_end h6 hm hn (show 0 < 134 by omega) (hl l1 p hP z1 z2)) rest) (fun hh => fin m hh.2.1 hh.2.2 (fun _ => ⟨(fun q s e => by cases e), fun _ => hh.1⟩))
          | cons q l2 =>
            have hqP : q ∈ aP T n := by rw [hP]; simp
            have hql := hw.1 n hnn q hqP
            rw [if_neg (show ¬ nx (q :: l2).head? = -1 from nI_ne_m1 (by omega))]
            refine Wst_mono (Wst_bind (st_come h6 hm (pre_dn hw r hr n hn q hqP) (hq l1 p q l2 hP z1 z2)) rest) (fun hh => fin m hh.2.1 hh.2.2 (fun _ => ⟨(fun q' s e => by injection e with e1 e2; subst e1; exact hh.1), (fun e => by cases e)⟩))
        · rw [if_neg ce]
          exact Wst_mono (rest m hm) (fun hh => fin m hh.1 hh.2 (fun hx => absurd hx ce))
  rw [f_Md_steps.eq_1, if_pos (inB_nI (by omega) (by decide)), nI_clamp (by omega), (h.2.1 n hnn).2.2.2.2.2.1]
  exact key (aP T n) [] N mx rfl hI (by omega)
def BrQ (T : AT) (n : Nat) (l : List Nat) (m : MxS) : Prop := ∀ p ∈ l, QP T n p m ∧ (enX m p 0 = true → enX m n 0 = true)
theorem w_brL (hb : BldM mb mg K ab B T rl r) (hN : 1000 < N) (hS : SlR true K T B (Mg_targets mg) r D mt) {n : Nat} (hn : n ∈ pre T r) (c1 : lfB (aS T n) = false) (c2 : aS T n ≠ 16) (hl : ∀ p ∈ aP T n, mt p = true → dN D p = true → mt n = true ∧ wy D n 0 = true) (hI : WI T r D mt mx) : Wst (WI T r D mt) (BrQ T n (aP T n)) mx (lp (f_Md_branches_L61 N (nI n) mb) N (nx (aP T n).head?, mx)) := by
  have hb' := hb
  obtain ⟨h, hw, h60, hKI, hMk, hsh, hr, hg, -⟩ := hb
  have h6 := w_60 hb'
  have hnn := pre_lt hw hr hn
  have hlen : (aP T n).length ≤ 60 := nodup_le (hw.2.1 n hnn) (fun p hp => by have := hw.1 n hnn p hp; omega)
  have key : ∀ (l2 l1 : List Nat) (fuel : Nat) (m : MxS), aP T n = l1 ++ l2 → WI T r D mt m → l2.length < fuel → Wst (WI T r D mt) (BrQ T n l2) m (lp (f_Md_branches_L61 N (nI n) mb) fuel (nx l2.head?, m)) := by
    intro l2
    induction l2 with
    | nil =>
      intro l1 fuel m hP hm hf
      match fuel, hf with
      | fuel + 1, _ =>
        have hun : lp (f_Md_branches_L61 N (nI n) mb) (fuel + 1) (nx ([] : List Nat).head?, m) = some m := by
          show f_Md_branches_L61 N (nI n) mb _ _ = _
          rw [f_Md_branches_L61.eq_1]
          show (if (-1 : Int32) = -1 then some m else _) = _
          rw [if_pos rfl]
        rw [hun]
        exact Wst_pure hm (fun p hp => by simp at hp)
    | cons p l2 ih =>
      intro l1 fuel m hP hm hf
      have hp : p ∈ aP T n := by rw [hP]; simp
      have hpp := pre_dn hw r hr n hn p hp
      have hpl := hw.1 n hnn p hp
      match fuel, hf with
      | fuel + 1, hf =>
        have hun : lp (f_Md_branches_L61 N (nI n) mb) (fuel + 1) (nI p, m) = _ := f_Md_branches_L61.eq_1 N (nI n) mb (lp (f_Md_branches_L61 N (nI n) mb) fuel) (nI p, m)
        simp only [if_neg (nI_ne_m1 (show p < 2 ^ 31 by omega)), st_is h6 hm hpp (show 0 < 134 by omega), show (0 : Int32) = nI 0 from rfl, Option.bind_some, if_pos (inB_nI (show p < 60 by omega) (show (60 : Nat) < 2 ^ 31 by decide)), nI_clamp (show p < 2 ^ 31 by omega), md_nextL h hnn hP, f_Md_branches_b83.eq_1] at hun
        rw [show (nI 0 : Int32) = 0 from rfl] at hun
        simp only [b0] at hun
        show Wst _ _ m (lp (f_Md_branches_L61 N (nI n) mb) (fuel + 1) (nI p, m))
        rw [hun]
        have rest : ∀ m', WI T r D mt m' → Wst (WI T r D mt) (fun m => QP T n p m ∧ BrQ T n l2 m) m' ((f_Md_pass N (nI n) (nI p) mb m').bind fun y87 => lp (f_Md_branches_L61 N (nI n) mb) fuel (nx l2.head?, y87)) := fun m' hm' => Wst_bind (w_pass hb' hN hS hn hp c1 c2 hm') (fun m2 hm2 => ih (l1 ++ [p]) fuel m2 (by rw [hP]; simp) hm2 (by simpa using hf))
        have fin : ∀ m, QP T n p m → BrQ T n l2 m → (enX m p 0 = true → enX m n 0 = true) → BrQ T n (p :: l2) m := by
          intro m a1 a2 a3 q hq
          rcases List.mem_cons.mp hq with rfl | hq
          · exact ⟨a1, a3⟩
          · exact a2 q hq
        by_cases ce : enX m p 0 = true
        · rw [if_pos ce]
          obtain ⟨z1, z2⟩ := hm.2.2.1 p hpp 0 (by omega) ce
          exact Wst_mono (Wst_bind (st_end h6 hm hn (show 0 < 134 by omega) (hl p hp z1 z2)) rest) (fun hh => fin m hh.2.1 hh.2.2 (fun _ => hh.1))
        · rw [if_neg ce]
          exact Wst_mono (rest m hm) (fun hh => fin m hh.1 hh.2 (fun hx => absurd hx ce))
  exact key (aP T n) [] N mx rfl hI (by omega)
end W
