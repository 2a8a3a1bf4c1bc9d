/-! THE RULES: what is closed under the model's rules holds the class's answer -/
def Esc (T : AT) (r : Nat) (tg : Nat → Int32) (rc cm : Nat → Bool) (s : Int32) (n t : Nat) : Prop := ∃ j l, Pth T j l n ∧ j ∈ pre T r ∧ aS T j = s ∧ tg j = nI t ∧ rc j = true ∧ okP T cm t j l = true
def ClsR (K : Nat) (T : AT) (B : Nat → Nat → Bool) (tg : Nat → Int32) (r : Nat) (rc cm : Nat → Bool) (th : Nat → Nat → Bool) : Prop := rc r = true ∧ (∀ q ∈ pre T r, ∀ n l1 l2, aP T q = l1 ++ n :: l2 → MrQ K T B rc cm th q l1 n → rc n = true) ∧ (∀ n ∈ pre T r, McP T r tg rc cm n → cm n = true) ∧ ∀ n ∈ pre T r, ∀ k, k < K → MtP K T B rc cm th n k → th n k = true
theorem okP_snoc {T : AT} {cm : Nat → Bool} {t : Nat} : ∀ (l : List Nat) (j p n : Nat), Pth T j l p → okP T cm t j (l ++ [n]) = (okP T cm t j l && (if n ≠ t ∧ aS T n = 16 ∧ aH T n = true ∧ enT T n ≠ some p then (match enT T n with | some e => cm e | none => true) else true)) := by
  intro l
  induction l with
  | nil =>
    intro j p n h
    cases h
    show ((if _ then _ else true) && true) = (true && _)
    rw [Bool.and_true, Bool.true_and]; rfl
  | cons q l ih =>
    intro j p n h
    show ((if _ then _ else true) && okP T cm t q (l ++ [n])) = ((if _ then _ else true) && okP T cm t q l && _)
    rw [ih q p n h.2.2, Bool.and_assoc]
section L
variable {v : Bool} {K : Nat} {T : AT} {B : Nat → Nat → Bool} {tg : Nat → Int32} {r : Nat} {D : Dt} {mt rc cm : Nat → Bool} {th : Nat → Nat → Bool}
/-- KINDS that are thrown are known -/
theorem dT_lt (h : SlR v K T B tg r D mt) : ∀ n, n ∈ pre T r → ∀ k, k < 32 → dT D n k = true → k < K := by
  obtain ⟨hw, h60, hr, hK, hsh, -, hs, -⟩ := h
  intro n
  induction n using Nat.strongRecOn with
  | ind n ih =>
    intro hn k hk ht
    have hnn := pre_lt hw hr hn
    by_cases c1 : lfB (aS T n) = true
    · rw [(sol_lf (hs n hn) c1).2.2.2.2 k hk, Bool.and_eq_true, Bool.or_eq_true] at ht
      obtain ⟨h12, ht⟩ := ht
      unfold tA at ht
      by_cases cv : aV T n = -1
      · rw [if_pos cv] at ht; cases ht
      · rw [if_neg cv] at ht
        obtain ⟨c, hc, e⟩ : ∃ c, c < K ∧ aV T n = nI c := by
          rcases h12 with h1 | h2
          · rcases (hsh n hnn).2.2.1 (by simpa using h1) with hh | hh
            · exact absurd hh cv
            · exact hh
          · exact (hsh n hnn).2.2.2.1 (by simpa using h2)
        cases v
        · have ht : decide (k = (aV T n).toNatClampNeg) = true := ht
          rw [e, nI_clamp (by omega)] at ht
          have : k = c := by simpa using ht
          omega
        · have ht : (decide (k < K) && _) = true := ht
          rw [Bool.and_eq_true] at ht
          simpa using ht.1
    · have c1 : lfB (aS T n) = false := by simpa using c1
      have part : ∀ p ∈ aP T n, dT D p k = true → k < K := fun p hp hh => ih p (hw.1 n hnn p hp) (pre_dn hw r hr n hn p hp) k hk hh
      by_cases c2 : aS T n = 16
      · obtain ⟨b, cs, hfr, hPt, -⟩ := try_split (hsh n hnn) c2
        obtain ⟨-, -, -, -, -, -, -, t8⟩ := sol_tr (hs n hn) c2 b cs hfr
        rw [t8 k hk, Bool.or_eq_true, Bool.and_eq_true] at ht
        rcases ht with ⟨ht, -⟩ | ht
        · unfold pTh at ht
          rw [Bool.or_eq_true, Bool.and_eq_true] at ht
          rcases ht with ht | ⟨ht, -⟩
          · obtain ⟨p, hp, -, hh⟩ := anO_iff.mp ht
            exact part p (by rw [hPt]; simp [hp]) hh
          · exact part b (by rw [hPt]; simp) ht
        · unfold eX at ht
          cases he : enT T n with
          | none => rw [he] at ht; cases ht
          | some e =>
            rw [he] at ht
            have ht : (dO D e && dT D e k) = true := ht
            rw [Bool.and_eq_true] at ht
            exact part e (by rw [hPt, he]; simp) ht.2
      · rw [(sol_wh (hs n hn) c1 c2).2.2.2.2.1 k hk] at ht
        obtain ⟨p, hp, -, hh⟩ := anO_iff.mp ht
        exact part p hp hh
/-- what a jump's TARGET can be -/
theorem tg_srt (h : SlR v K T B tg r D mt) {j t : Nat} (hj : j ∈ pre T r) (hs : aS T j = 10 ∨ aS T j = 11) (ht : t < 64) (htg : tg j = nI t) : (aS T j = 10 → (isLp (aS T t) = true ∨ aS T t = 12 ∨ aS T t = 14 ∨ aS T t = 15)) ∧ (aS T j = 11 → isLp (aS T t) = true) := by
  obtain ⟨hw, h60, hr, hK, hsh, hT, -, -⟩ := h
  have hjn := pre_lt hw hr hj
  have := hT j hj
  unfold TgP at this
  rw [if_pos (by unfold jmp; rcases hs with e | e <;> simp [e]), htg] at this
  obtain ⟨l', hp', hx⟩ := this
  cases ho : tgT T j l' with
  | none => rw [ho] at hx; exact absurd hx (nI_ne_m1 (by omega))
  | some t' =>
    rw [ho] at hx
    obtain ⟨l1, l2, e, q1, q2⟩ := tgT_some hw hp' (fun q hq e => (hsh q hq).2.2.2.2.2.2.1 (by simp [e])) hs ho
    have h1 := Pth_mem hw l' j hp' t' (by rw [e]; simp)
    have := (nI_eq (by omega) (by omega)).mp hx
    rw [this]
    exact ⟨q1, q2⟩
/-- what leaves a NODE comes from a jump inside it -/
theorem esc_part (h : SlR v K T B tg r D mt) {s : Int32} {n p t : Nat} (hn : n ∈ pre T r) (hp : p ∈ aP T n) (hE : Esc T r tg rc cm s p t) (hc : ∀ e, aS T n = 16 → enT T n = some e → e ≠ p → cm e = true) : ∃ j l, Pth T j (l ++ [n]) n ∧ j ∈ pre T r ∧ aS T j = s ∧ tg j = nI t ∧ rc j = true ∧ okP T cm t j (l ++ [n]) = true := by
  obtain ⟨hw, h60, hr, hK, hsh, -⟩ := h
  obtain ⟨j, l, hP, hj, e1, e2, e3, hok⟩ := hE
  have hnn := pre_lt hw hr hn
  refine ⟨j, l, (Pth_split _ _ _ _).mpr ⟨p, hP, hnn, hp, rfl⟩, hj, e1, e2, e3, ?_⟩
  rw [okP_snoc l j p n hP, hok, Bool.true_and]
  by_cases c : n ≠ t ∧ aS T n = 16 ∧ aH T n = true ∧ enT T n ≠ some p
  · rw [if_pos c]
    cases he : enT T n with
    | none => rfl
    | some e => exact hc e c.2.1 he (fun hh => c.2.2.2 (by rw [he, hh]))
  · rw [if_neg c]
theorem cpl (h : SlR false K T B tg r D mt) (hC : ClsR K T B tg r rc cm th) : ∀ n, n ∈ pre T r → rc n = true → (dN D n = true → cm n = true) ∧ (∀ k, k < 32 → dT D n k = true → th n k = true) ∧ (∀ t, t < 64 → dB D n t = true → Esc T r tg rc cm 10 n t) ∧ (∀ t, t < 64 → dC D n t = true → Esc T r tg rc cm 11 n t) ∧ ∀ p ∈ aP T n, dO D p = true → rc p = true := by
  have hS := h
  obtain ⟨hw, h60, hr, hK, hsh, -, hs, -⟩ := h
  obtain ⟨g0, gR, gC, gT⟩ := hC
  intro n
  induction n using Nat.strongRecOn with
  | ind n ih =>
    intro hn hrn
    have hnn := pre_lt hw hr hn
    have hsn := hsh n hnn
    have ihp : ∀ p ∈ aP T n, rc p = true → _ := fun p hp hh => ih p (hw.1 n hnn p hp) (pre_dn hw r hr n hn p hp) hh
    by_cases c1 : lfB (aS T n) = true
    · -- a leaf
      obtain ⟨s1, s2, s3, s4, s5⟩ := sol_lf (hs n hn) c1
      have hnil := lf_nil hsn c1
      refine ⟨?_, ?_, ?_, ?_, fun p hp => by rw [hnil] at hp; simp at hp⟩
      · intro hN
        rw [s1, Bool.or_eq_true] at hN
        refine gC n hn ⟨hrn, Or.inl ?_⟩
        rcases hN with hN | hN
        · exact Or.inl (by simpa using hN)
        · exact Or.inr (Or.inl (by simpa using hN))
      · intro k hk ht
        have hkK := dT_lt hS n hn k hk ht
        rw [s5 k hk, Bool.and_eq_true, Bool.or_eq_true] at ht
        obtain ⟨h12, ht⟩ := ht
        refine gT n hn k hkK ⟨hrn, Or.inl ⟨?_, ?_⟩⟩
        · rcases h12 with hh | hh
          · exact Or.inl (by simpa using hh)
          · exact Or.inr (by simpa using hh)
        · unfold tA at ht
          by_cases cv : aV T n = -1
          · rw [if_pos cv] at ht; cases ht
          · rw [if_neg cv] at ht
            have ht : k = (aV T n).toNatClampNeg := by simpa using ht
            obtain ⟨c, hc, e⟩ : ∃ c, c < K ∧ aV T n = nI c := by
              rcases h12 with h1 | h2
              · rcases hsn.2.2.1 (by simpa using h1) with hh | hh
                · exact absurd hh cv
                · exact hh
              · exact hsn.2.2.2.1 (by simpa using h2)
            rw [e, nI_clamp (by omega)] at ht
            rw [e, ht]
      · intro t ht hB
        rw [s3 t ht, Bool.and_eq_true] at hB
        exact ⟨n, [], rfl, hn, by simpa using hB.1, by simpa using hB.2, hrn, rfl⟩
      · intro t ht hB
        rw [s4 t ht, Bool.and_eq_true] at hB
        exact ⟨n, [], rfl, hn, by simpa using hB.1, by simpa using hB.2, hrn, rfl⟩
    · have c1 : lfB (aS T n) = false := by simpa using c1
      by_cases c2 : aS T n = 16
      · -- a TRY
        obtain ⟨b, cs, hfr, hPt, hmk, -⟩ := try_split hsn c2
        obtain ⟨t1, t2, t3, t4, t5, t6, t7, t8⟩ := sol_tr (hs n hn) c2 b cs hfr
        have hbP : b ∈ aP T n := by rw [hPt]; simp
        have hrb : rc b = true := gR n hn b [] (cs ++ (enT T n).toList) (by rw [hPt]; rfl) ⟨hrn, by simp [c2], by simp [c2], by simp [c2], fun _ b' l' e => by cases e⟩
        have hrc : ∀ l1 c l2, cs = l1 ++ c :: l2 → dO D c = true → rc c = true := by
          intro l1 c l2 hcs ho
          rw [t2 l1 c l2 hcs] at ho
          have ho : (!cgt K T B l1 (mkN T c) && (nnt B (mkN T c) || (List.range 32).any (fun k => dT D b k && ((decide (k < K) && B k (mkN T c)) || B (mkN T c) k)))) = true := ho
          rw [Bool.and_eq_true, Bool.or_eq_true] at ho
          obtain ⟨kd, hkd, hmc⟩ := hmk c (by rw [hcs]; simp)
          have hmkc : mkN T c = kd := by unfold mkN; rw [hmc, nI_clamp (by omega)]
          refine gR n hn c (b :: l1) (l2 ++ (enT T n).toList) (by rw [hPt, hcs]; simp) ⟨hrn, by simp [c2], by simp [c2], by simp [c2], fun _ b' l' e _ => ?_⟩
          injection e with e1 e2
          subst e1; subst e2
          refine ⟨?_, ?_⟩
          · intro d hd
            have hcg : cgt K T B l1 (mkN T c) = false := by simpa using ho.1
            unfold cgt at hcg
            rw [List.any_eq_false] at hcg
            have := hcg d hd
            rw [hmkc] at this ⊢
            simpa [hkd] using this
          · rcases ho.2 with hh | hh
            · exact Or.inl hh
            · right
              rw [List.any_eq_true] at hh
              obtain ⟨k, hk, hh⟩ := hh
              have hk := List.mem_range.mp hk
              rw [Bool.and_eq_true, Bool.or_eq_true, Bool.and_eq_true] at hh
              have hkK := dT_lt hS b (pre_dn hw r hr n hn b hbP) k hk hh.1
              refine ⟨k, hkK, (ihp b hbP hrb).2.1 k hk hh.1, ?_⟩
              rcases hh.2 with h3 | h3
              · exact Or.inl h3.2
              · exact Or.inr h3
        have hre : ∀ e, enT T n = some e → rc e = true := by
          intro e he
          refine gR n hn e (b :: cs) [] (by rw [hPt, he]; simp) ⟨hrn, by simp [c2], by simp [c2], by simp [c2], fun _ b' l' _ hne => absurd he hne⟩
        have hrfr : ∀ p ∈ b :: cs, dO D p = true → rc p = true := by
          intro p hp ho
          rcases List.mem_cons.mp hp with rfl | hp
          · exact hrb
          · obtain ⟨l1, l2, hcs⟩ := List.append_of_mem hp
            exact hrc l1 p l2 hcs ho
        have hfrP : ∀ p ∈ b :: cs, p ∈ aP T n := fun p hp => by rw [hPt]; exact List.mem_append_left _ hp
        have heP : ∀ e, enT T n = some e → e ∈ aP T n := fun e he => by rw [hPt, he]; simp
        have hcmE : eN T D n = true → ∀ e, enT T n = some e → cm e = true := by
          intro hh e he
          unfold eN at hh
          rw [he] at hh
          exact (ihp e (heP e he) (hre e he)).1 hh
        have esc : ∀ (s : Int32) (t : Nat) (X : Nat → Bool), (∀ p ∈ aP T n, rc p = true → X p = true → Esc T r tg rc cm s p t) → ((anO D (b :: cs) X && eN T D n) || eX T D n X) = true → Esc T r tg rc cm s n t := by
          intro s t X hX hh
          rw [Bool.or_eq_true, Bool.and_eq_true] at hh
          rcases hh with ⟨h1, h2⟩ | h1
          · obtain ⟨p, hp, ho, hx⟩ := anO_iff.mp h1
            obtain ⟨j, l, q1, q2, q3, q4, q5, q6⟩ := esc_part hS (s := s) hn (hfrP p hp) (hX p (hfrP p hp) (hrfr p hp ho) hx) (fun e _ he _ => hcmE h2 e he)
            exact ⟨j, _, q1, q2, q3, q4, q5, q6⟩
          · unfold eX at h1
            cases he : enT T n with
            | none => rw [he] at h1; cases h1
            | some e =>
              rw [he] at h1
              have h1 : (dO D e && X e) = true := h1
              rw [Bool.and_eq_true] at h1
              obtain ⟨j, l, q1, q2, q3, q4, q5, q6⟩ := esc_part hS (s := s) hn (heP e he) (hX e (heP e he) (hre e he) h1.2) (fun e' _ he' hne => by rw [he] at he'; exact absurd (Option.some.inj he').symm hne)
              exact ⟨j, _, q1, q2, q3, q4, q5, q6⟩
        refine ⟨?_, ?_, ?_, ?_, ?_⟩
        · intro hN
          rw [t4, Bool.and_eq_true] at hN
          obtain ⟨p, hp, ho, hx⟩ := anO_iff.mp hN.1
          refine gC n hn ⟨hrn, ?_⟩
          simp only [c2]
          simp
          refine ⟨b, cs, hfr, ?_, hcmE hN.2⟩
          have := (ihp p (hfrP p hp) (hrfr p hp ho)).1 hx
          rcases List.mem_cons.mp hp with rfl | hp
          · exact Or.inl this
          · exact Or.inr ⟨p, hp, this⟩
        · intro k hk ht
          have hkK := dT_lt hS n hn k hk ht
          rw [t8 k hk] at ht
          refine gT n hn k hkK ⟨hrn, Or.inr (Or.inr ⟨c2, b, cs, hfr, ?_⟩)⟩
          have hpt : pTh K T B D b cs k = true → (cs.any (fun p => th p k) || (th b k && !cs.any (fun c => B k (mkN T c)))) = true := by
            intro hh
            unfold pTh at hh
            rw [Bool.or_eq_true] at hh ⊢
            rcases hh with hh | hh
            · left
              obtain ⟨p, hp, ho, hx⟩ := anO_iff.mp hh
              rw [List.any_eq_true]
              exact ⟨p, hp, (ihp p (hfrP p (List.mem_cons_of_mem _ hp)) (hrfr p (List.mem_cons_of_mem _ hp) ho)).2.1 k hk hx⟩
            · right
              rw [Bool.and_eq_true] at hh ⊢
              refine ⟨(ihp b hbP hrb).2.1 k hk hh.1, ?_⟩
              have : cgt K T B cs k = cs.any (fun c => B k (mkN T c)) := by
                unfold cgt
                exact any_cg (fun c _ => by simp [hkK])
              rw [← this]; exact hh.2
          unfold thT
          cases he : enT T n with
          | none =>
            rw [Bool.or_eq_true, Bool.and_eq_true] at ht
            rcases ht with ⟨ht, -⟩ | ht
            · exact hpt ht
            · unfold eX at ht; rw [he] at ht; cases ht
          | some e =>
            show (((cs.any (fun p => th p k) || (th b k && !cs.any (fun c => B k (mkN T c)))) && cm e) || th e k) = true
            rw [Bool.or_eq_true, Bool.and_eq_true] at ht ⊢
            rcases ht with ⟨ht, hN⟩ | ht
            · exact Or.inl ⟨hpt ht, hcmE hN e he⟩
            · right
              unfold eX at ht
              rw [he] at ht
              have ht : (dO D e && dT D e k) = true := ht
              rw [Bool.and_eq_true] at ht
              exact (ihp e (heP e he) (hre e he)).2.1 k hk ht.2
        · intro t ht hB
          rw [t6 t ht] at hB
          exact esc 10 t _ (fun p hp hh hx => (ihp p hp hh).2.2.1 t ht hx) hB
        · intro t ht hB
          rw [t7 t ht] at hB
          exact esc 11 t _ (fun p hp hh hx => (ihp p hp hh).2.2.2.1 t ht hx) hB
        · intro p hp ho
          rcases try_in hPt hp with hh | hh
          · exact hrfr p hh ho
          · exact hre p hh
      · -- a NODE with parts
        obtain ⟨w1, w2, w3, w4, w5, w6⟩ := sol_wh (hs n hn) c1 c2
        have hro : ∀ p ∈ aP T n, dO D p = true → rc p = true := by
          have key : ∀ (l2 l1 : List Nat), aP T n = l1 ++ l2 → (∀ p ∈ l1, dO D p = true → rc p = true) → ∀ p ∈ aP T n, dO D p = true → rc p = true := by
            intro l2
            induction l2 with
            | nil => intro l1 hl hh; rw [List.append_nil] at hl; rw [hl]; exact hh
            | cons p l2 ih2 =>
              intro l1 hl hh
              refine ih2 (l1 ++ [p]) (by rw [hl]; simp) ?_
              intro p' hp' ho
              rcases List.mem_append.mp hp' with hp' | hp'
              · exact hh p' hp' ho
              · have : p' = p := by simpa using hp'
                subst this
                have ho2 := w1 l1.length p' (by rw [hl]; simp)
                rw [ho] at ho2
                have hgo : gob D (aP T n) l1.length = true → ∀ z, l1.getLast? = some z → cm z = true := by
                  intro hg z hz
                  rw [hl, gob_s hz, Bool.and_eq_true] at hg
                  have hzl := List.mem_of_getLast? hz
                  have hzP : z ∈ aP T n := by rw [hl]; simp [hzl]
                  exact (ihp z hzP (hh z hzl hg.1)).1 hg.2
                refine gR n hn p' l1 l2 hl ⟨hrn, ?_, ?_, ?_, fun e => absurd e c2⟩
                · intro e hv
                  have : opn false T n l1.length p' (gob D (aP T n) l1.length) = false := by
                    unfold opn
                    have : tOf T n = 0 := by unfold tOf; rw [hv]; rfl
                    rcases e with e | e <;> simp [e, this]
                  rw [this] at ho2; cases ho2
                · intro e
                  refine hgo ?_
                  rw [ho2]; unfold opn; simp [e]
                · intro e
                  have : opn false T n l1.length p' (gob D (aP T n) l1.length) = (gob D (aP T n) l1.length || !decide (aM T p' = 0)) := by unfold opn; simp [e]
                  rw [this] at ho2
                  by_cases cm0 : aM T p' = 0
                  · right
                    have hg : gob D (aP T n) l1.length = true := by rw [cm0] at ho2; simpa using ho2.symm
                    have hm := ((hsn.2.2.2.2.2.2.2.2.2.2.2.1 e).1 l1.length p' (by rw [hl]; simp)).2
                    cases hz : l1.getLast? with
                    | none =>
                      have : l1 = [] := List.getLast?_eq_none_iff.mp hz
                      subst this
                      exact absurd cm0 (hm rfl)
                    | some z => exact ⟨z, rfl, hgo hg z hz⟩
                  · exact Or.inl cm0
          exact key (aP T n) [] rfl (by simp)
        have esc : ∀ (s : Int32) (t : Nat) (X : Nat → Bool), (∀ p ∈ aP T n, rc p = true → X p = true → Esc T r tg rc cm s p t) → anO D (aP T n) X = true → ∃ j l, Pth T j (l ++ [n]) n ∧ j ∈ pre T r ∧ aS T j = s ∧ tg j = nI t ∧ rc j = true ∧ okP T cm t j (l ++ [n]) = true := by
          intro s t X hX h1
          obtain ⟨p, hp, ho, hx⟩ := anO_iff.mp h1
          exact esc_part hS (s := s) hn hp (hX p hp (hro p hp ho) hx) (fun e e16 _ _ => absurd e16 c2)
        have x10 : anO D (aP T n) (fun p => dB D p n) = true → ExP T r tg rc cm 10 n ∧ (isLp (aS T n) = true ∨ aS T n = 12 ∨ aS T n = 14 ∨ aS T n = 15) := by
          intro hh
          obtain ⟨j, l, q1, q2, q3, q4, q5, q6⟩ := esc 10 n _ (fun p hp h1 hx => (ihp p hp h1).2.2.1 n (by omega) hx) hh
          exact ⟨⟨j, q2, q3, q4, q5, _, q1, q6⟩, (tg_srt hS q2 (Or.inl q3) (by omega) q4).1 q3⟩
        have x11 : anO D (aP T n) (fun p => dC D p n) = true → ExP T r tg rc cm 11 n := by
          intro hh
          obtain ⟨j, l, q1, q2, q3, q4, q5, q6⟩ := esc 11 n _ (fun p hp h1 hx => (ihp p hp h1).2.2.2.1 n (by omega) hx) hh
          exact ⟨j, q2, q3, q4, q5, _, q1, q6⟩
        have any1 : anO D (aP T n) (dN D) = true → ∃ p ∈ aP T n, cm p = true := by
          intro hh
          obtain ⟨p, hp, ho, hx⟩ := anO_iff.mp hh
          exact ⟨p, hp, (ihp p hp (hro p hp ho)).1 hx⟩
        have last1 : gob D (aP T n) (aP T n).length = true → ∀ q, (aP T n).getLast? = some q → cm q = true := by
          intro hg q hq
          rcases List.eq_nil_or_concat (aP T n) with e | ⟨l1, w, e⟩
          · rw [e] at hq; simp at hq
          · rw [List.concat_eq_append] at e
            have hwP : w ∈ aP T n := by rw [e]; simp
            rw [e, List.getLast?_concat] at hq
            have : w = q := by simpa using hq
            subst this
            rw [e, show (l1 ++ [w]).length = l1.length + 1 by simp, show l1 ++ [w] = l1 ++ w :: [] from rfl, gob_at, Bool.and_eq_true] at hg
            exact (ihp w hwP (hro w hwP hg.1)).1 hg.2
        refine ⟨?_, ?_, ?_, ?_, hro⟩
        · intro hN
          rw [w6, Bool.or_eq_true] at hN
          refine gC n hn ⟨hrn, ?_⟩
          unfold gpa at hN
          rcases srt17 hsn with e | e | e | e | e | e | e | e | e | e | e | e | e | e | e | e | e
          all_goals first | (exfalso; rw [e] at c1; revert c1; decide) | skip
          · -- 4
            simp only [e] at hN ⊢
            simp at hN ⊢
            rcases hN with (hN | hN) | hN
            · exact Or.inl hN.1
            · exact Or.inr (any1 hN)
            · have := (x10 hN).2; rw [e] at this; simp [isLp] at this
          · -- 5
            simp only [e] at hN ⊢
            simp at hN ⊢
            have hv := hsn.2.2.2.2.2.2.2.1 (by simp [e])
            rcases hN with hN | hN
            · unfold tOf at hN
              rcases hv with hv | hv | hv
              · exact Or.inl hv
              · rw [hv] at hN; exact absurd rfl hN
              · exact Or.inr (Or.inl hv)
            · exact Or.inr (Or.inr (x10 hN).1)
          · -- 6
            simp only [e] at hN ⊢
            simp at hN ⊢
            rcases hN with ⟨hv, hN⟩ | hN
            · left
              refine ⟨?_, ?_⟩
              · intro hv1; unfold tOf at hv; rw [hv1] at hv; exact hv rfl
              · rcases hN with hN | hN
                · exact Or.inl (any1 hN)
                · exact Or.inr (x11 hN)
            · exact Or.inr (x10 hN).1
          · -- 7
            simp only [e] at hN ⊢
            simp at hN ⊢
            have hv := hsn.2.2.2.2.2.2.2.2.1 e
            rcases hN with hN | hN
            · unfold tOf at hN
              rcases hv with hv | hv | hv | hv
              · exact Or.inl hv
              · rw [hv] at hN; exact absurd rfl hN
              · exact Or.inr (Or.inl hv)
              · rw [hv] at hN; exact absurd rfl hN
            · exact Or.inr (Or.inr (x10 hN).1)
          · -- 8
            simp [e]
          · -- 9
            simp only [e] at hN ⊢
            simp at hN ⊢
            rcases hN with hN | hN
            · exact any1 hN
            · have := (x10 hN).2; rw [e] at this; simp [isLp] at this
          · -- 12
            simp only [e] at hN ⊢
            simp at hN ⊢
            rcases hN with hN | hN
            · exact Or.inl (any1 hN)
            · exact Or.inr (x10 hN).1
          · -- 13
            simp only [e] at hN ⊢
            simp at hN ⊢
            rcases hN with hN | hN
            · exact last1 hN
            · have := (x10 hN).2; rw [e] at this; simp [isLp] at this
          · -- 14
            simp only [e] at hN ⊢
            simp at hN ⊢
            rcases hN with ((hN | hN) | hN) | hN
            · exact Or.inl hN
            · exact Or.inr (Or.inl hN)
            · exact Or.inr (Or.inr (Or.inl (last1 hN)))
            · exact Or.inr (Or.inr (Or.inr (x10 hN).1))
          · -- 15
            simp only [e] at hN ⊢
            simp at hN ⊢
            rcases hN with (hN | hN) | hN
            · exact Or.inl hN
            · exact Or.inr (Or.inl (any1 hN))
            · exact Or.inr (Or.inr (x10 hN).1)
          · exact absurd e c2
        · intro k hk ht
          have hkK := dT_lt hS n hn k hk ht
          rw [w5 k hk] at ht
          obtain ⟨p, hp, ho, hx⟩ := anO_iff.mp ht
          have hnl : aS T n ≠ 1 ∧ aS T n ≠ 2 := by
            constructor
            · intro e; rw [e] at c1; revert c1; decide
            · intro e; rw [e] at c1; revert c1; decide
          exact gT n hn k hkK ⟨hrn, Or.inr (Or.inl ⟨hnl.1, hnl.2, c2, p, hp, (ihp p hp (hro p hp ho)).2.1 k hk hx⟩)⟩
        · intro t ht hB
          rw [w3 t ht, Bool.and_eq_true] at hB
          obtain ⟨j, l, q1, q2, q3, q4, q5, q6⟩ := esc 10 t _ (fun p hp h1 hx => (ihp p hp h1).2.2.1 t ht hx) hB.2
          exact ⟨j, _, q1, q2, q3, q4, q5, q6⟩
        · intro t ht hB
          rw [w4 t ht, Bool.and_eq_true] at hB
          obtain ⟨j, l, q1, q2, q3, q4, q5, q6⟩ := esc 11 t _ (fun p hp h1 hx => (ihp p hp h1).2.2.2.1 t ht hx) hB.2
          exact ⟨j, _, q1, q2, q3, q4, q5, q6⟩
/-- both answers are one -/
theorem rules_eq (h : SlR false K T B tg r D mt) (hI : SubR T r K D mt rc cm th) (hC : ClsR K T B tg r rc cm th) : ∀ x ∈ pre T r, rc x = mt x ∧ cm x = (mt x && dN D x) ∧ ∀ k, k < K → th x k = (mt x && dT D x k) := by
  have hS := h
  obtain ⟨hw, h60, hr, hK, hsh, -, hs, -⟩ := h
  have down : ∀ (d x : Nat), aN T - x ≤ d → x ∈ pre T r → mt x = true → rc x = true := by
    intro d
    induction d with
    | zero => intro x hd hx; have := pre_lt hw hr hx; omega
    | succ d ih =>
      intro x hd hx hm
      rcases pre_up hw r hr x hx with rfl | ⟨y, hy, hxy⟩
      · exact hC.1
      · have hyn := pre_lt hw hr hy
        have hxy2 := hw.1 y hyn x hxy
        obtain ⟨m1, m2⟩ := mt_dO hS hy hxy hm
        exact (cpl hS hC y hy (ih y (by omega) hy m1)).2.2.2.2 x hxy m2
  intro x hx
  have h1 : mt x = true → rc x = true := down _ x (Nat.le_refl _) hx
  refine ⟨?_, ?_, fun k hk => ?_⟩
  · rw [Bool.eq_iff_iff]; exact ⟨hI.1 x hx, h1⟩
  · rw [Bool.eq_iff_iff, Bool.and_eq_true]
    exact ⟨hI.2.1 x hx, fun hh => (cpl hS hC x hx (h1 hh.1)).1 hh.2⟩
  · rw [Bool.eq_iff_iff, Bool.and_eq_true]
    exact ⟨hI.2.2 x hx k hk, fun hh => (cpl hS hC x hx (h1 hh.1)).2.1 k (by omega) hh.2⟩
end L
