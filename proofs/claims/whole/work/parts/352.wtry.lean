/-! WALKS: a TRY -/
def pw (K : Nat) (T : AT) (B : Nat → Nat → Bool) (D : Dt) (b : Nat) (cs : List Nat) (w : Nat) : Bool := if w < 122 then anO D (b :: cs) (fun p => wy D p w) else pTh K T B D b cs (w - 122)
def mtc (T : AT) (B : Nat → Nat → Bool) (w c : Nat) : Bool := decide (122 ≤ w) && B (w - 122) (mkN T c)
def ThQ (T : AT) (n w : Nat) (m : MxS) : Prop := (enT T n = none → enX m n w = true) ∧ ∀ e, enT T n = some e → coX m e = true ∧ (enX m e 0 = true → enX m n w = true) ∧ ∀ v, 1 ≤ v → v < 134 → enX m e v = true → enX m n v = true
section L
variable {v : Bool} {K : Nat} {T : AT} {B : Nat → Nat → Bool} {tg : Nat → Int32} {r : Nat} {D : Dt} {mt : Nat → Bool} {m : MxS}
theorem dBC_lt (h : SlR v K T B tg r D mt) : ∀ n, n ∈ pre T r → ∀ y, y < 64 → (dB D n y = true ∨ dC D n y = true) → y < 60 := by
  have hS := h
  obtain ⟨hw, h60, hr, hK, hsh, hT, hs, -⟩ := h
  intro n
  induction n using Nat.strongRecOn with
  | ind n ih =>
    intro hn y hy hc
    have hnn := pre_lt hw hr hn
    by_cases c1 : lfB (aS T n) = true
    · have key : (aS T n = 10 ∨ aS T n = 11) ∧ tg n = nI y := by
        rcases hc with hc | hc
        · rw [(sol_lf (hs n hn) c1).2.2.1 y hy, Bool.and_eq_true] at hc
          exact ⟨Or.inl (by simpa using hc.1), by simpa using hc.2⟩
        · rw [(sol_lf (hs n hn) c1).2.2.2.1 y hy, Bool.and_eq_true] at hc
          exact ⟨Or.inr (by simpa using hc.1), by simpa using hc.2⟩
      have := hT n hn
      unfold TgP at this
      rw [if_pos (by unfold jmp; rcases key.1 with e | e <;> simp [e]), key.2] at this
      obtain ⟨l', hp', hx⟩ := this
      cases ho : tgT T n l' with
      | none => rw [ho] at hx; exact absurd hx (nI_ne_m1 (by omega))
      | some t' =>
        rw [ho] at hx
        obtain ⟨l1, l2, e, -⟩ := tgT_some hw hp' (fun q hq e => (hsh q hq).2.2.2.2.2.2.1 (by simp [e])) key.1 ho
        have h1 := Pth_mem hw l' n hp' t' (by rw [e]; simp)
        have := (nI_eq (by omega) (by omega)).mp hx
        omega
    · have c1 : lfB (aS T n) = false := by simpa using c1
      have part : ∀ p ∈ aP T n, (dB D p y = true ∨ dC D p y = true) → y < 60 := fun p hp hh => ih p (hw.1 n hnn p hp) (pre_dn hw r hr n hn p hp) y hy hh
      by_cases c2 : aS T n = 16
      · obtain ⟨b, cs, hfr, hPt, -⟩ := try_split (hsh n hnn) c2
        obtain ⟨-, -, -, -, -, t6, t7, -⟩ := sol_tr (hs n hn) c2 b cs hfr
        have gen : ∀ X : Nat → Bool, (∀ p ∈ aP T n, X p = true → y < 60) → ((anO D (b :: cs) X && eN T D n) || eX T D n X) = true → y < 60 := by
          intro X hX hc
          rw [Bool.or_eq_true, Bool.and_eq_true] at hc
          rcases hc with ⟨hc, -⟩ | hc
          · obtain ⟨p, hp, -, hh⟩ := anO_iff.mp hc
            exact hX p (by rw [hPt]; exact List.mem_append_left _ hp) hh
          · unfold eX at hc
            cases he : enT T n with
            | none => rw [he] at hc; cases hc
            | some e =>
              rw [he] at hc
              have hc : (dO D e && X e) = true := hc
              rw [Bool.and_eq_true] at hc
              exact hX e (by rw [hPt, he]; simp) hc.2
        rcases hc with hc | hc
        · rw [t6 y hy] at hc
          exact gen _ (fun p hp hh => part p hp (Or.inl hh)) hc
        · rw [t7 y hy] at hc
          exact gen _ (fun p hp hh => part p hp (Or.inr hh)) hc
      · obtain ⟨-, -, w3, w4, -, -⟩ := sol_wh (hs n hn) c1 c2
        rcases hc with hc | hc
        · rw [w3 y hy, Bool.and_eq_true] at hc
          obtain ⟨p, hp, -, hh⟩ := anO_iff.mp hc.2
          exact part p hp (Or.inl hh)
        · rw [w4 y hy, Bool.and_eq_true] at hc
          obtain ⟨p, hp, -, hh⟩ := anO_iff.mp hc.2
          exact part p hp (Or.inr hh)
theorem anO_wy0 {l : List Nat} : anO D l (fun p => wy D p 0) = anO D l (dN D) := rfl
theorem try_wy (h : SlR true K T B tg r D mt) {n b : Nat} {cs : List Nat} (hn : n ∈ pre T r) (c2 : aS T n = 16) (hfr : frT T n = b :: cs) {w : Nat} (hw : w < 134) : wy D n w = if w = 0 then (pw K T B D b cs 0 && eN T D n) else ((pw K T B D b cs w && eN T D n) || eX T D n (fun p => wy D p w)) := by
  obtain ⟨-, -, -, -, -, -, hs, -⟩ := h
  obtain ⟨t1, t2, t3, t4, t5, t6, t7, t8⟩ := sol_tr (hs n hn) c2 b cs hfr
  have eXe : ∀ (f g : Nat → Bool), (∀ p, f p = g p) → eX T D n f = eX T D n g := fun f g hfg => by rw [show f = g from funext hfg]
  have anE : ∀ (f g : Nat → Bool), (∀ p, f p = g p) → anO D (b :: cs) f = anO D (b :: cs) g := fun f g hfg => by rw [show f = g from funext hfg]
  rcases wyc hw with e | e | ⟨y, hy, e⟩ | ⟨y, hy, e⟩ | ⟨k, hk, e⟩
  · subst e
    rw [if_pos rfl, wy_0, t4]; rfl
  · subst e
    rw [if_neg (by omega), wy_1, t5]; rfl
  · subst e
    rw [if_neg (by omega), wy_2 hy, t6 y (by omega)]
    unfold pw
    rw [if_pos (by omega), anE (fun p => wy D p (2 + y)) (fun p => dB D p y) (fun p => wy_2 hy), eXe (fun p => wy D p (2 + y)) (fun p => dB D p y) (fun p => wy_2 hy)]
  · subst e
    rw [if_neg (by omega), wy_62 hy, t7 y (by omega)]
    unfold pw
    rw [if_pos (by omega), anE (fun p => wy D p (62 + y)) (fun p => dC D p y) (fun p => wy_62 hy), eXe (fun p => wy D p (62 + y)) (fun p => dC D p y) (fun p => wy_62 hy)]
  · subst e
    rw [if_neg (by omega), wy_122, t8 k (by omega)]
    unfold pw
    rw [if_neg (by omega), show 122 + k - 122 = k by omega, eXe (fun p => wy D p (122 + k)) (fun p => dT D p k) (fun p => wy_122)]
theorem tryE_iff (h : SlR true K T B tg r D mt) {n b : Nat} {cs : List Nat} (hn : n ∈ pre T r) (hfP : ∀ p ∈ b :: cs, p ∈ aP T n) : tryE K T B D b cs = true ↔ ∃ w, w < 134 ∧ pw K T B D b cs w = true := by
  have hS := h
  obtain ⟨hw, h60, hr, hK, hsh, hT, hs, -⟩ := h
  have hpp : ∀ p ∈ b :: cs, p ∈ pre T r := fun p hp => pre_dn hw r hr n hn p (hfP p hp)
  have anE : ∀ (f g : Nat → Bool), (∀ p, f p = g p) → anO D (b :: cs) f = anO D (b :: cs) g := fun f g hfg => by rw [show f = g from funext hfg]
  unfold tryE
  simp only [Bool.or_eq_true, List.any_eq_true, List.mem_range]
  constructor
  · rintro ((((h1 | h1) | ⟨y, hy, h1⟩) | ⟨y, hy, h1⟩) | ⟨k, hk, h1⟩)
    · exact ⟨0, by omega, h1⟩
    · exact ⟨1, by omega, h1⟩
    · obtain ⟨p, hp, -, hx⟩ := anO_iff.mp h1
      have hy60 := dBC_lt hS p (hpp p hp) y hy (Or.inl hx)
      refine ⟨2 + y, by omega, ?_⟩
      unfold pw
      rw [if_pos (by omega), anE (fun p => wy D p (2 + y)) (fun p => dB D p y) (fun p => wy_2 hy60)]
      exact h1
    · obtain ⟨p, hp, -, hx⟩ := anO_iff.mp h1
      have hy60 := dBC_lt hS p (hpp p hp) y hy (Or.inr hx)
      refine ⟨62 + y, by omega, ?_⟩
      unfold pw
      rw [if_pos (by omega), anE (fun p => wy D p (62 + y)) (fun p => dC D p y) (fun p => wy_62 hy60)]
      exact h1
    · have hkK : k < K := by
        unfold pTh at h1
        rw [Bool.or_eq_true, Bool.and_eq_true] at h1
        rcases h1 with h1 | ⟨h1, -⟩
        · obtain ⟨p, hp, -, hx⟩ := anO_iff.mp h1
          exact dT_lt hS p (hpp p (List.mem_cons_of_mem _ hp)) k hk hx
        · exact dT_lt hS b (hpp b List.mem_cons_self) k hk h1
      refine ⟨122 + k, by omega, ?_⟩
      unfold pw
      rw [if_neg (by omega), show 122 + k - 122 = k by omega]
      exact h1
  · rintro ⟨w, hw2, h1⟩
    rcases wyc hw2 with e | e | ⟨y, hy, e⟩ | ⟨y, hy, e⟩ | ⟨k, hk, e⟩
    · subst e
      exact Or.inl (Or.inl (Or.inl (Or.inl h1)))
    · subst e
      exact Or.inl (Or.inl (Or.inl (Or.inr h1)))
    · subst e
      unfold pw at h1
      rw [if_pos (by omega), anE (fun p => wy D p (2 + y)) (fun p => dB D p y) (fun p => wy_2 hy)] at h1
      exact Or.inl (Or.inl (Or.inr ⟨y, by omega, h1⟩))
    · subst e
      unfold pw at h1
      rw [if_pos (by omega), anE (fun p => wy D p (62 + y)) (fun p => dC D p y) (fun p => wy_62 hy)] at h1
      exact Or.inl (Or.inr ⟨y, by omega, h1⟩)
    · subst e
      unfold pw at h1
      rw [if_neg (by omega), show 122 + k - 122 = k by omega] at h1
      exact Or.inr ⟨k, by omega, h1⟩
def ClT (T : AT) (B : Nat → Nat → Bool) (n b : Nat) (cs : List Nat) (m : MxS) : Prop := coX m b = true ∧ (∀ w, w < 134 → enX m b w = true → (∀ l1 c l2, cs = l1 ++ c :: l2 → mtc T B w c = true → (∀ d ∈ l1, mtc T B w d = false) → coX m c = true) ∧ ((∀ c ∈ cs, mtc T B w c = false) → ThQ T n w m)) ∧ ∀ w, w < 134 → ∀ c ∈ cs, enX m c w = true → ThQ T n w m
theorem clt_goal (h : SlR true K T B tg r D mt) {n b : Nat} {cs : List Nat} (hn : n ∈ pre T r) (c2 : aS T n = 16) (hfr : frT T n = b :: cs) (hPt : aP T n = (b :: cs) ++ (enT T n).toList) (hc : ClT T B n b cs m) : GoalN T D n m := by
  have hS := h
  obtain ⟨hw, h60, hr, hK, hsh, -, hs, -⟩ := h
  have hnn := pre_lt hw hr hn
  obtain ⟨t1, t2, t3, -⟩ := sol_tr (hs n hn) c2 b cs hfr
  obtain ⟨q1, q2, q3⟩ := hc
  have hfP : ∀ p ∈ b :: cs, p ∈ aP T n := fun p hp => by rw [hPt]; exact List.mem_append_left _ hp
  have heP : ∀ e, enT T n = some e → e ∈ aP T n := fun e he => by rw [hPt, he]; simp
  intro hI
  have hbE : ∀ w, w < 134 → wy D b w = true → enX m b w = true := fun w hw2 hh => hI b (hfP b List.mem_cons_self) q1 w hw2 hh
  have hcc : ∀ c ∈ cs, dO D c = true → coX m c = true := by
    intro c hcs ho
    obtain ⟨l1, l2, e⟩ := List.append_of_mem hcs
    rw [t2 l1 c l2 e] at ho
    have ho : (List.range 32).any (fun k => dT D b k && !cgt K T B l1 k && (decide (k < K) && B k (mkN T c))) = true := ho
    rw [List.any_eq_true] at ho
    obtain ⟨k, -, hh⟩ := ho
    simp only [Bool.and_eq_true, Bool.not_eq_true', decide_eq_true_eq] at hh
    obtain ⟨⟨h1, h2⟩, h3, h4⟩ := hh
    have hx := hbE (122 + k) (by omega) (by rw [wy_122]; exact h1)
    refine (q2 (122 + k) (by omega) hx).1 l1 c l2 e ?_ ?_
    · unfold mtc
      rw [show 122 + k - 122 = k by omega]; simp [h4]
    · intro d hd
      unfold mtc
      rw [show 122 + k - 122 = k by omega]
      unfold cgt at h2
      rw [List.any_eq_false] at h2
      have := h2 d hd
      simp [h3] at this
      simp [this]
  have hpw : ∀ w, w < 134 → pw K T B D b cs w = true → ThQ T n w m := by
    intro w hw2 hh
    unfold pw at hh
    by_cases c : w < 122
    · rw [if_pos c] at hh
      obtain ⟨p, hp, ho, hx⟩ := anO_iff.mp hh
      rcases List.mem_cons.mp hp with rfl | hp
      · refine (q2 w hw2 (hbE w hw2 hx)).2 (fun d _ => ?_)
        unfold mtc
        have : ¬ 122 ≤ w := by omega
        simp [this]
      · exact q3 w hw2 p hp (hI p (hfP p (List.mem_cons_of_mem _ hp)) (hcc p hp ho) w hw2 hx)
    · rw [if_neg c] at hh
      unfold pTh at hh
      rw [Bool.or_eq_true, Bool.and_eq_true] at hh
      have ew : 122 + (w - 122) = w := by omega
      rcases hh with hh | ⟨hh, h2⟩
      · obtain ⟨p, hp, ho, hx⟩ := anO_iff.mp hh
        refine q3 w hw2 p hp (hI p (hfP p (List.mem_cons_of_mem _ hp)) (hcc p hp ho) w hw2 ?_)
        rw [← ew, wy_122]; exact hx
      · have hkK := dT_lt hS b (pre_dn hw r hr n hn b (hfP b List.mem_cons_self)) (w - 122) (by omega) hh
        refine (q2 w hw2 (hbE w hw2 (by rw [← ew, wy_122]; exact hh))).2 (fun d hd => ?_)
        have h2 : cgt K T B cs (w - 122) = false := by simpa using h2
        unfold cgt at h2
        rw [List.any_eq_false] at h2
        have := h2 d hd
        simp [hkK] at this
        unfold mtc
        simp [this]
  have hce : ∀ e, enT T n = some e → dO D e = true → ∃ w, w < 134 ∧ ThQ T n w m := by
    intro e he ho
    rw [t3 e he] at ho
    have ho : tryE K T B D b cs = true := by simpa using ho
    obtain ⟨w, hw2, hh⟩ := (tryE_iff hS hn hfP).mp ho
    exact ⟨w, hw2, hpw w hw2 hh⟩
  refine ⟨fun p hp ho => ?_, fun w hw2 hh => ?_⟩
  · rcases try_in hPt hp with hpb | hpe
    · rcases List.mem_cons.mp hpb with rfl | hpb
      · exact q1
      · exact hcc p hpb ho
    · obtain ⟨w, -, hT⟩ := hce p hpe ho
      exact (hT.2 p hpe).1
  · rw [try_wy hS hn c2 hfr hw2] at hh
    have pre1 : (pw K T B D b cs w && eN T D n) = true → enX m n w = true := by
      intro h1
      rw [Bool.and_eq_true] at h1
      have hT := hpw w hw2 h1.1
      cases he : enT T n with
      | none => exact hT.1 he
      | some e =>
        have h2 := h1.2
        unfold eN at h2
        rw [he] at h2
        exact (hT.2 e he).2.1 (hI e (heP e he) (hT.2 e he).1 0 (by omega) h2)
    by_cases c : w = 0
    · subst c
      rw [if_pos rfl] at hh
      exact pre1 hh
    · rw [if_neg c, Bool.or_eq_true] at hh
      rcases hh with hh | hh
      · exact pre1 hh
      · unfold eX at hh
        cases he : enT T n with
        | none => rw [he] at hh; cases hh
        | some e =>
          rw [he] at hh
          have hh : (dO D e && wy D e w) = true := hh
          rw [Bool.and_eq_true] at hh
          obtain ⟨w0, -, hT⟩ := hce e he hh.1
          have h3 := hT.2 e he
          exact h3.2.2 w (by omega) hw2 (hI e (heP e he) h3.1 w hw2 hh.2)
end L
