/-! WALKS: the logic -/
theorem wy_0 {D : Dt} {x : Nat} : wy D x 0 = dN D x := rfl
theorem wy_1 {D : Dt} {x : Nat} : wy D x 1 = dR D x := rfl
theorem wy_2 {D : Dt} {x y : Nat} (h : y < 60) : wy D x (2 + y) = dB D x y := by
  unfold wy
  rw [if_neg (by omega), if_neg (by omega), if_pos (by omega), show 2 + y - 2 = y by omega]
theorem wy_62 {D : Dt} {x y : Nat} (h : y < 60) : wy D x (62 + y) = dC D x y := by
  unfold wy
  rw [if_neg (by omega), if_neg (by omega), if_neg (by omega), if_pos (by omega), show 62 + y - 62 = y by omega]
theorem wy_122 {D : Dt} {x k : Nat} : wy D x (122 + k) = dT D x k := by
  unfold wy
  rw [if_neg (by omega), if_neg (by omega), if_neg (by omega), if_neg (by omega), show 122 + k - 122 = k by omega]
theorem wyc {w : Nat} (h : w < 134) : w = 0 ∨ w = 1 ∨ (∃ y, y < 60 ∧ w = 2 + y) ∨ (∃ y, y < 60 ∧ w = 62 + y) ∨ ∃ k, k < 12 ∧ w = 122 + k := by
  by_cases h0 : w = 0
  · exact Or.inl h0
  · by_cases h1 : w = 1
    · exact Or.inr (Or.inl h1)
    · by_cases h2 : w < 62
      · exact Or.inr (Or.inr (Or.inl ⟨w - 2, by omega, by omega⟩))
      · by_cases h3 : w < 122
        · exact Or.inr (Or.inr (Or.inr (Or.inl ⟨w - 62, by omega, by omega⟩)))
        · exact Or.inr (Or.inr (Or.inr (Or.inr ⟨w - 122, by omega, by omega⟩)))
section L
variable {v : Bool} {K : Nat} {T : AT} {B : Nat → Nat → Bool} {tg : Nat → Int32} {r : Nat} {D : Dt} {mt : Nat → Bool} {m : MxS}
/-- a CONTINUE'S TARGET is a loop -/
theorem dC_lp (h : SlR v K T B tg r D mt) : ∀ n, n ∈ pre T r → ∀ y, y < 64 → dC D n y = true → isLp (aS T y) = true := by
  have hS := h
  obtain ⟨hw, h60, hr, hK, hsh, -, hs, -⟩ := h
  intro n
  induction n using Nat.strongRecOn with
  | ind n ih =>
    intro hn y hy hc
    have hnn := pre_lt hw hr hn
    by_cases c1 : lfB (aS T n) = true
    · rw [(sol_lf (hs n hn) c1).2.2.2.1 y hy, Bool.and_eq_true] at hc
      have e11 : aS T n = 11 := by simpa using hc.1
      exact (tg_srt hS hn (Or.inr e11) hy (by simpa using hc.2)).2 e11
    · have c1 : lfB (aS T n) = false := by simpa using c1
      have part : ∀ p ∈ aP T n, dC D p y = true → isLp (aS T y) = true := fun p hp hh => ih p (hw.1 n hnn p hp) (pre_dn hw r hr n hn p hp) y hy hh
      by_cases c2 : aS T n = 16
      · obtain ⟨b, cs, hfr, hPt, -⟩ := try_split (hsh n hnn) c2
        obtain ⟨-, -, -, -, -, -, t7, -⟩ := sol_tr (hs n hn) c2 b cs hfr
        rw [t7 y hy, Bool.or_eq_true, Bool.and_eq_true] at hc
        rcases hc with ⟨hc, -⟩ | hc
        · obtain ⟨p, hp, -, hh⟩ := anO_iff.mp hc
          exact part p (by rw [hPt]; exact List.mem_append_left _ hp) hh
        · unfold eX at hc
          cases he : enT T n with
          | none => rw [he] at hc; cases hc
          | some e =>
            rw [he] at hc
            have hc : (dO D e && dC D e y) = true := hc
            rw [Bool.and_eq_true] at hc
            exact part e (by rw [hPt, he]; simp) hc.2
      · rw [(sol_wh (hs n hn) c1 c2).2.2.2.1 y hy, Bool.and_eq_true] at hc
        obtain ⟨p, hp, -, hh⟩ := anO_iff.mp hc.2
        exact part p hp hh
theorem pass_snd (h : SlR v K T B tg r D mt) {n p : Nat} (hn : n ∈ pre T r) (hp : p ∈ aP T n) (c1 : lfB (aS T n) = false) (c2 : aS T n ≠ 16) : SP T D mt n p := by
  have hS := h
  obtain ⟨hw, h60, hr, hK, hsh, -, hs, -⟩ := h
  have hnn := pre_lt hw hr hn
  obtain ⟨w1, w2, w3, w4, w5, w6⟩ := sol_wh (hs n hn) c1 c2
  refine ⟨fun w a1 a2 hm hx b1 b2 => ?_, fun hm hx => ?_⟩
  · obtain ⟨m1, m2⟩ := mt_dO hS hn hp hm
    refine ⟨m1, ?_⟩
    rcases wyc a2 with e | e | ⟨y, hy, e⟩ | ⟨y, hy, e⟩ | ⟨k, hk, e⟩
    · omega
    · subst e
      rw [wy_1, w2]; exact anO_iff.mpr ⟨p, hp, m2, hx⟩
    · subst e
      rw [wy_2 hy] at hx ⊢
      rw [w3 y (by omega), anO_iff.mpr ⟨p, hp, m2, hx⟩]
      have : y ≠ n := by omega
      simp [this]
    · subst e
      rw [wy_62 hy] at hx ⊢
      rw [w4 y (by omega), anO_iff.mpr ⟨p, hp, m2, hx⟩]
      have : y ≠ n := by
        intro e
        subst e
        exact b2 ⟨rfl, dC_lp hS p (pre_dn hw r hr y hn p hp) y (by omega) hx⟩
      simp [this]
    · subst e
      rw [wy_122] at hx ⊢
      rw [w5 k (by omega)]; exact anO_iff.mpr ⟨p, hp, m2, hx⟩
  · obtain ⟨m1, m2⟩ := mt_dO hS hn hp hm
    refine ⟨m1, ?_⟩
    rw [wy_2 (by omega)] at hx
    rw [wy_0, w6, anO_iff.mpr ⟨p, hp, m2, hx⟩, Bool.or_true]
def GoalN (T : AT) (D : Dt) (n : Nat) (m : MxS) : Prop := (∀ p ∈ aP T n, coX m p = true → ∀ w, w < 134 → wy D p w = true → enX m p w = true) → (∀ p ∈ aP T n, dO D p = true → coX m p = true) ∧ ∀ w, w < 134 → wy D n w = true → enX m n w = true
def bfX (m : MxS) (l1 : List Nat) : Bool := match l1.getLast? with | none => true | some z => enX m z 0
def gpX (T : AT) (m : MxS) (n : Nat) : Bool :=
  if aS T n = 4 then (decide ((aP T n).length = 1) && !decide (aV T n = 1)) || (aP T n).any (fun p => enX m p 0)
  else if aS T n = 5 then !decide (tOf T n = 1)
  else if aS T n = 6 then !decide (tOf T n = 1) && ((aP T n).any (fun p => enX m p 0) || (aP T n).any (fun p => enX m p (62 + n)))
  else if aS T n = 7 then !decide (tOf T n = 1)
  else if aS T n = 8 then true
  else if aS T n = 13 then bfX m (aP T n)
  else if aS T n = 14 then !dfB T n || !decide (aE T n = 0) || bfX m (aP T n)
  else if aS T n = 15 then !dfB T n || (aP T n).any (fun p => enX m p 0)
  else (aP T n).any (fun p => enX m p 0)
def ClW (T : AT) (n : Nat) (m : MxS) : Prop := (∀ p ∈ aP T n, QP T n p m) ∧ (∀ l1 p l2, aP T n = l1 ++ p :: l2 → opn true T n l1.length p (bfX m l1) = true → coX m p = true) ∧ (gpX T m n = true → enX m n 0 = true)
theorem gob_pre {l1 l2 : List Nat} {n : Nat} : gob D (l1 ++ n :: l2) l1.length = (match l1.getLast? with | none => true | some z => dO D z && dN D z) := by
  cases hl : l1.getLast? with
  | none =>
    have : l1 = [] := List.getLast?_eq_none_iff.mp hl
    subst this; rfl
  | some z => exact gob_s hl
theorem gob_end {P : List Nat} : gob D P P.length = (match P.getLast? with | none => true | some z => dO D z && dN D z) := by
  rcases List.eq_nil_or_concat P with e | ⟨l1, w, e⟩
  · subst e; rfl
  · rw [List.concat_eq_append] at e
    subst e
    rw [List.getLast?_concat, show (l1 ++ [w]).length = l1.length + 1 by simp, show l1 ++ [w] = l1 ++ w :: [] from rfl, gob_at]
theorem opn_mono {T : AT} {x i p : Nat} (h : opn v T x i p false = true) (b : Bool) : opn v T x i p b = true := by
  cases b
  · exact h
  · unfold opn at h ⊢
    by_cases s4 : aS T x = 4
    · rw [if_pos s4] at h ⊢; exact h
    · rw [if_neg s4] at h ⊢
      by_cases s5 : aS T x = 5
      · rw [if_pos s5] at h ⊢; exact h
      · rw [if_neg s5] at h ⊢
        by_cases s7 : aS T x = 7
        · rw [if_pos s7] at h ⊢; exact h
        · rw [if_neg s7] at h ⊢
          by_cases s13 : aS T x = 13
          · rw [if_pos s13]
          · rw [if_neg s13] at h ⊢
            by_cases s14 : aS T x = 14
            · rw [if_pos s14]; rfl
            · rw [if_neg s14]
theorem clw_goal (h : SlR true K T B tg r D mt) {n : Nat} (hn : n ∈ pre T r) (c1 : lfB (aS T n) = false) (c2 : aS T n ≠ 16) (hc : ClW T n m) : GoalN T D n m := by
  have hS := h
  obtain ⟨hw, h60, hr, hK, hsh, -, hs, -⟩ := h
  have hnn := pre_lt hw hr hn
  obtain ⟨w1, w2, w3, w4, w5, w6⟩ := sol_wh (hs n hn) c1 c2
  obtain ⟨q1, q2, q3⟩ := hc
  intro hI
  have hco : ∀ p ∈ aP T n, dO D p = true → coX m p = true := by
    have key : ∀ (l2 l1 : List Nat), aP T n = l1 ++ l2 → (∀ p ∈ l1, dO D p = true → coX m p = true) → ∀ p ∈ aP T n, dO D p = true → coX m p = true := by
      intro l2
      induction l2 with
      | nil => intro l1 hl hh; rw [List.append_nil] at hl; rw [hl]; exact hh
      | cons p l2 ih2 =>
        intro l1 hl hh
        refine ih2 (l1 ++ [p]) (by rw [hl]; simp) ?_
        intro p' hp' ho
        rcases List.mem_append.mp hp' with hp' | hp'
        · exact hh p' hp' ho
        · have : p' = p := by simpa using hp'
          subst this
          refine q2 l1 p' l2 hl ?_
          have ho2 := w1 l1.length p' (by rw [hl]; simp)
          rw [ho] at ho2
          have hb : gob D (aP T n) l1.length = true → bfX m l1 = true := by
            intro hg
            rw [hl, gob_pre] at hg
            unfold bfX
            cases hz : l1.getLast? with
            | none => rfl
            | some z =>
              rw [hz] at hg
              have hg : (dO D z && dN D z) = true := hg
              rw [Bool.and_eq_true] at hg
              have hzl := List.mem_of_getLast? hz
              have hzP : z ∈ aP T n := by rw [hl]; simp [hzl]
              exact hI z hzP (hh z hzl hg.1) 0 (by omega) hg.2
          cases hg : gob D (aP T n) l1.length with
          | false => rw [hg] at ho2; exact opn_mono ho2.symm _
          | true => rw [hg] at ho2; rw [hb hg]; exact ho2.symm
    exact key (aP T n) [] rfl (by simp)
  have hen : ∀ p ∈ aP T n, dO D p = true → ∀ w, w < 134 → wy D p w = true → enX m p w = true := fun p hp ho w hw2 hh => hI p hp (hco p hp ho) w hw2 hh
  refine ⟨hco, fun w hw2 hh => ?_⟩
  rcases wyc hw2 with e | e | ⟨y, hy, e⟩ | ⟨y, hy, e⟩ | ⟨k, hk, e⟩
  · subst e
    rw [wy_0, w6, Bool.or_eq_true] at hh
    rcases hh with hh | hh
    · apply q3
      have an1 : anO D (aP T n) (dN D) = true → (aP T n).any (fun p => enX m p 0) = true := by
        intro ha
        obtain ⟨p, hp, ho, hx⟩ := anO_iff.mp ha
        rw [List.any_eq_true]
        exact ⟨p, hp, hen p hp ho 0 (by omega) hx⟩
      have an2 : anO D (aP T n) (fun p => dC D p n) = true → (aP T n).any (fun p => enX m p (62 + n)) = true := by
        intro ha
        obtain ⟨p, hp, ho, hx⟩ := anO_iff.mp ha
        rw [List.any_eq_true]
        exact ⟨p, hp, hen p hp ho (62 + n) (by omega) (by rw [wy_62 (by omega)]; exact hx)⟩
      have la : gob D (aP T n) (aP T n).length = true → bfX m (aP T n) = true := by
        intro hg
        rw [gob_end] at hg
        unfold bfX
        cases hz : (aP T n).getLast? with
        | none => rfl
        | some z =>
          rw [hz] at hg
          have hg : (dO D z && dN D z) = true := hg
          rw [Bool.and_eq_true] at hg
          exact hen z (List.mem_of_getLast? hz) hg.1 0 (by omega) hg.2
      unfold gpa at hh
      unfold gpX
      by_cases s4 : aS T n = 4
      · rw [if_pos s4] at hh ⊢
        rw [Bool.or_eq_true] at hh ⊢
        rcases hh with hh | hh
        · exact Or.inl hh
        · exact Or.inr (an1 hh)
      · rw [if_neg s4] at hh ⊢
        by_cases s5 : aS T n = 5
        · rw [if_pos s5] at hh ⊢; exact hh
        · rw [if_neg s5] at hh ⊢
          by_cases s6 : aS T n = 6
          · rw [if_pos s6] at hh ⊢
            rw [Bool.and_eq_true, Bool.or_eq_true] at hh ⊢
            refine ⟨hh.1, ?_⟩
            rcases hh.2 with h2 | h2
            · exact Or.inl (an1 h2)
            · exact Or.inr (an2 h2)
          · rw [if_neg s6] at hh ⊢
            by_cases s7 : aS T n = 7
            · rw [if_pos s7] at hh ⊢; exact hh
            · rw [if_neg s7] at hh ⊢
              by_cases s8 : aS T n = 8
              · rw [if_pos s8]
              · rw [if_neg s8] at hh ⊢
                by_cases s13 : aS T n = 13
                · rw [if_pos s13] at hh ⊢; exact la hh
                · rw [if_neg s13] at hh ⊢
                  by_cases s14 : aS T n = 14
                  · rw [if_pos s14] at hh ⊢
                    rw [Bool.or_eq_true] at hh ⊢
                    rcases hh with hh | hh
                    · exact Or.inl hh
                    · exact Or.inr (la hh)
                  · rw [if_neg s14] at hh ⊢
                    by_cases s15 : aS T n = 15
                    · rw [if_pos s15] at hh ⊢
                      rw [Bool.or_eq_true] at hh ⊢
                      rcases hh with hh | hh
                      · exact Or.inl hh
                      · exact Or.inr (an1 hh)
                    · rw [if_neg s15] at hh ⊢; exact an1 hh
    · obtain ⟨p, hp, ho, hx⟩ := anO_iff.mp hh
      exact (q1 p hp).2 (hen p hp ho (2 + n) (by omega) (by rw [wy_2 (by omega)]; exact hx))
  · subst e
    rw [wy_1, w2] at hh
    obtain ⟨p, hp, ho, hx⟩ := anO_iff.mp hh
    exact (q1 p hp).1 1 (by omega) (by omega) (hen p hp ho 1 (by omega) hx) (by omega) (by omega)
  · subst e
    rw [wy_2 hy, w3 y (by omega), Bool.and_eq_true] at hh
    obtain ⟨p, hp, ho, hx⟩ := anO_iff.mp hh.2
    have hyn : y ≠ n := by simpa using hh.1
    exact (q1 p hp).1 (2 + y) (by omega) (by omega) (hen p hp ho (2 + y) (by omega) (by rw [wy_2 hy]; exact hx)) (by omega) (by omega)
  · subst e
    rw [wy_62 hy, w4 y (by omega), Bool.and_eq_true] at hh
    obtain ⟨p, hp, ho, hx⟩ := anO_iff.mp hh.2
    have hyn : y ≠ n := by simpa using hh.1
    exact (q1 p hp).1 (62 + y) (by omega) (by omega) (hen p hp ho (62 + y) (by omega) (by rw [wy_62 hy]; exact hx)) (by omega) (by omega)
  · subst e
    rw [wy_122, w5 k (by omega)] at hh
    obtain ⟨p, hp, ho, hx⟩ := anO_iff.mp hh
    exact (q1 p hp).1 (122 + k) (by omega) (by omega) (hen p hp ho (122 + k) (by omega) (by rw [wy_122]; exact hx)) (by omega) (by omega)
/-- what the model finds of a NODE is so -/
theorem open_snd (h : SlR true K T B tg r D mt) (hI : WI T r D mt m) {n p : Nat} {l1 l2 : List Nat} (hn : n ∈ pre T r) (c1 : lfB (aS T n) = false) (c2 : aS T n ≠ 16) (hm : mt n = true) (hP : aP T n = l1 ++ p :: l2) (ho : opn true T n l1.length p (bfX m l1) = true) : mt p = true := by
  have hS := h
  obtain ⟨hw, h60, hr, hK, hsh, -, hs, -⟩ := h
  have hnn := pre_lt hw hr hn
  have hp : p ∈ aP T n := by rw [hP]; simp
  have w1 := (sol_wh (hs n hn) c1 c2).1 l1.length p (by rw [hP]; simp)
  rw [mt_dn hS hn hp, hm, w1, Bool.true_and]
  have hb : bfX m l1 = true → gob D (aP T n) l1.length = true := by
    intro hg
    rw [hP, gob_pre]
    unfold bfX at hg
    cases hz : l1.getLast? with
    | none => rfl
    | some z =>
      rw [hz] at hg
      have hzP : z ∈ aP T n := by rw [hP]; exact List.mem_append_left _ (List.mem_of_getLast? hz)
      obtain ⟨z1, z2⟩ := hI.2.2.1 z (pre_dn hw r hr n hn z hzP) 0 (by omega) hg
      show (dO D z && dN D z) = true
      rw [(mt_dO hS hn hzP z1).2]; exact z2
  cases hg : bfX m l1 with
  | false => rw [hg] at ho; exact opn_mono ho _
  | true => rw [hg] at ho; rw [hb hg]; exact ho
theorem gp_snd (h : SlR true K T B tg r D mt) (hI : WI T r D mt m) {n : Nat} (hn : n ∈ pre T r) (c1 : lfB (aS T n) = false) (c2 : aS T n ≠ 16) (hm : mt n = true) (hg : gpX T m n = true) : mt n = true ∧ wy D n 0 = true := by
  have hS := h
  obtain ⟨hw, h60, hr, hK, hsh, -, hs, -⟩ := h
  have hnn := pre_lt hw hr hn
  refine ⟨hm, ?_⟩
  rw [wy_0, (sol_wh (hs n hn) c1 c2).2.2.2.2.2, Bool.or_eq_true]
  left
  have an1 : (aP T n).any (fun p => enX m p 0) = true → anO D (aP T n) (dN D) = true := by
    intro ha
    rw [List.any_eq_true] at ha
    obtain ⟨p, hp, hx⟩ := ha
    obtain ⟨z1, z2⟩ := hI.2.2.1 p (pre_dn hw r hr n hn p hp) 0 (by omega) hx
    exact anO_iff.mpr ⟨p, hp, (mt_dO hS hn hp z1).2, z2⟩
  have an2 : (aP T n).any (fun p => enX m p (62 + n)) = true → anO D (aP T n) (fun p => dC D p n) = true := by
    intro ha
    rw [List.any_eq_true] at ha
    obtain ⟨p, hp, hx⟩ := ha
    obtain ⟨z1, z2⟩ := hI.2.2.1 p (pre_dn hw r hr n hn p hp) (62 + n) (by omega) hx
    rw [wy_62 (by omega)] at z2
    exact anO_iff.mpr ⟨p, hp, (mt_dO hS hn hp z1).2, z2⟩
  have la : bfX m (aP T n) = true → gob D (aP T n) (aP T n).length = true := by
    intro hb
    rw [gob_end]
    unfold bfX at hb
    cases hz : (aP T n).getLast? with
    | none => rfl
    | some z =>
      rw [hz] at hb
      have hzP := List.mem_of_getLast? hz
      obtain ⟨z1, z2⟩ := hI.2.2.1 z (pre_dn hw r hr n hn z hzP) 0 (by omega) hb
      show (dO D z && dN D z) = true
      rw [(mt_dO hS hn hzP z1).2]; exact z2
  unfold gpa
  unfold gpX at hg
  by_cases s4 : aS T n = 4
  · rw [if_pos s4] at hg ⊢
    rw [Bool.or_eq_true] at hg ⊢
    rcases hg with hg | hg
    · exact Or.inl hg
    · exact Or.inr (an1 hg)
  · rw [if_neg s4] at hg ⊢
    by_cases s5 : aS T n = 5
    · rw [if_pos s5] at hg ⊢; exact hg
    · rw [if_neg s5] at hg ⊢
      by_cases s6 : aS T n = 6
      · rw [if_pos s6] at hg ⊢
        rw [Bool.and_eq_true, Bool.or_eq_true] at hg ⊢
        refine ⟨hg.1, ?_⟩
        rcases hg.2 with h2 | h2
        · exact Or.inl (an1 h2)
        · exact Or.inr (an2 h2)
      · rw [if_neg s6] at hg ⊢
        by_cases s7 : aS T n = 7
        · rw [if_pos s7] at hg ⊢; exact hg
        · rw [if_neg s7] at hg ⊢
          by_cases s8 : aS T n = 8
          · rw [if_pos s8]
          · rw [if_neg s8] at hg ⊢
            by_cases s13 : aS T n = 13
            · rw [if_pos s13] at hg ⊢; exact la hg
            · rw [if_neg s13] at hg ⊢
              by_cases s14 : aS T n = 14
              · rw [if_pos s14] at hg ⊢
                rw [Bool.or_eq_true] at hg ⊢
                rcases hg with hg | hg
                · exact Or.inl hg
                · exact Or.inr (la hg)
              · rw [if_neg s14] at hg ⊢
                by_cases s15 : aS T n = 15
                · rw [if_pos s15] at hg ⊢
                  rw [Bool.or_eq_true] at hg ⊢
                  rcases hg with hg | hg
                  · exact Or.inl hg
                  · exact Or.inr (an1 hg)
                · rw [if_neg s15] at hg ⊢; exact an1 hg
end L
