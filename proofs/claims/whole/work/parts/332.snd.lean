/-! THE RULES: what the class finds is closed under the model's rules -/
/-- the class's answer -/
def SlR (v : Bool) (K : Nat) (T : AT) (B : Nat → Nat → Bool) (tg : Nat → Int32) (r : Nat) (D : Dt) (mt : Nat → Bool) : Prop := WT T ∧ aN T ≤ 60 ∧ r < aN T ∧ K ≤ 12 ∧ (∀ m, m < aN T → shp T K m) ∧ (∀ x ∈ pre T r, TgP T r x (tg x)) ∧ (∀ x ∈ pre T r, SolAt v K T B tg D x) ∧ MtR T r D mt
theorem sol_wh {v : Bool} {K : Nat} {T : AT} {B : Nat → Nat → Bool} {tg : Nat → Int32} {D : Dt} {x : Nat} (h : SolAt v K T B tg D x) (h1 : lfB (aS T x) = false) (h2 : aS T x ≠ 16) : WhAt v T D x := by
  unfold SolAt at h
  rw [if_neg (by rw [h1]; decide), if_neg h2] at h; exact h
theorem sol_tr {v : Bool} {K : Nat} {T : AT} {B : Nat → Nat → Bool} {tg : Nat → Int32} {D : Dt} {x : Nat} (h : SolAt v K T B tg D x) (h2 : aS T x = 16) : TrAt v K T B D x := by
  unfold SolAt at h
  rw [if_neg (by rw [h2]; decide), if_pos h2] at h; exact h
theorem sol_lf {v : Bool} {K : Nat} {T : AT} {B : Nat → Nat → Bool} {tg : Nat → Int32} {D : Dt} {x : Nat} (h : SolAt v K T B tg D x) (h1 : lfB (aS T x) = true) : LfAt v K T B tg D x := by
  unfold SolAt at h
  rw [if_pos h1] at h; exact h
theorem lf_nil {T : AT} {K x : Nat} (hs : shp T K x) (h : lfB (aS T x) = true) : aP T x = [] := by
  apply hs.2.1
  unfold lfB at h
  simp only [Bool.or_eq_true, decide_eq_true_eq] at h
  rcases h with ((((h | h) | h) | h) | h) | h
  · exact Or.inl h
  · exact Or.inr (Or.inl h)
  · exact Or.inr (Or.inr (Or.inl h))
  · exact Or.inr (Or.inr (Or.inr (Or.inl h)))
  · exact Or.inr (Or.inr (Or.inr (Or.inr (Or.inl h))))
  · exact Or.inr (Or.inr (Or.inr (Or.inr (Or.inr h))))
section L
variable {v : Bool} {K : Nat} {T : AT} {B : Nat → Nat → Bool} {tg : Nat → Int32} {r : Nat} {D : Dt} {mt : Nat → Bool}
theorem mt_dn (h : SlR v K T B tg r D mt) {q p : Nat} (hq : q ∈ pre T r) (hp : p ∈ aP T q) : mt p = (mt q && dO D p) := by
  obtain ⟨hw, h60, hr, -, -, -, -, hM⟩ := h
  have hqn := pre_lt hw hr hq
  have h1 := hw.1 q hqn p hp
  have h2 := pre_le hw r hr q hq
  exact hM.2.1 p (pre_dn hw r hr q hq p hp) (by omega) q hqn hp
theorem mt_dO (h : SlR v K T B tg r D mt) {q p : Nat} (hq : q ∈ pre T r) (hp : p ∈ aP T q) (hm : mt p = true) : mt q = true ∧ dO D p = true := by
  rw [mt_dn h hq hp, Bool.and_eq_true] at hm; exact hm
/-- a way that leaves a part leaves the whole, unless it ends there -/
def StepX (T : AT) (r : Nat) (D : Dt) (t : Nat) (X : Nat → Bool) : Prop := ∀ q p, q ∈ pre T r → p ∈ aP T q → dO D p = true → X p = true → q ≠ t → (∀ e, aS T q = 16 → enT T q = some e → e ≠ p → dN D e = true) → X q = true
theorem try_in {T : AT} {q p b : Nat} {cs : List Nat} (hP : aP T q = (b :: cs) ++ (enT T q).toList) (hp : p ∈ aP T q) : p ∈ b :: cs ∨ enT T q = some p := by
  rw [hP] at hp
  rcases List.mem_append.mp hp with hp | hp
  · exact Or.inl hp
  · cases he : enT T q with
    | none => rw [he] at hp; simp at hp
    | some e => rw [he] at hp; simp at hp; exact Or.inr (by rw [hp])
theorem try_ne {T : AT} (hw : WT T) {q b e : Nat} {cs : List Nat} (hq : q < aN T) (hP : aP T q = (b :: cs) ++ (enT T q).toList) (he : enT T q = some e) : ∀ p ∈ b :: cs, p ≠ e := by
  intro p hp e1
  have := hw.2.1 q hq
  rw [hP, he, List.nodup_append] at this
  exact this.2.2 p hp e (by simp) e1
theorem step_gen (h : SlR v K T B tg r D mt) {t : Nat} {X : Nat → Bool} (hwh : ∀ q ∈ pre T r, lfB (aS T q) = false → aS T q ≠ 16 → q ≠ t → anO D (aP T q) X = true → X q = true) (htr : ∀ q ∈ pre T r, aS T q = 16 → ∀ b cs, frT T q = b :: cs → ((anO D (b :: cs) X && eN T D q) || eX T D q X) = true → X q = true) : StepX T r D t X := by
  obtain ⟨hw, h60, hr, -, hsh, -, -, -⟩ := h
  intro q p hq hp ho hx hqt he
  have hqn := pre_lt hw hr hq
  by_cases c1 : lfB (aS T q) = true
  · rw [lf_nil (hsh q hqn) c1] at hp; simp at hp
  · have c1 : lfB (aS T q) = false := by simpa using c1
    by_cases c2 : aS T q = 16
    · obtain ⟨b, cs, hfr, hP, -⟩ := try_split (hsh q hqn) c2
      apply htr q hq c2 b cs hfr
      rw [Bool.or_eq_true, Bool.and_eq_true]
      rcases try_in hP hp with hpb | hpe
      · refine Or.inl ⟨anO_iff.mpr ⟨p, hpb, ho, hx⟩, ?_⟩
        unfold eN
        cases hen : enT T q with
        | none => rfl
        | some e => exact he e c2 hen (Ne.symm (try_ne hw hqn hP hen p hpb))
      · right
        unfold eX
        rw [hpe]
        show (dO D p && X p) = true
        rw [ho, hx]; rfl
    · exact hwh q hq c1 c2 hqt (anO_iff.mpr ⟨p, hp, ho, hx⟩)
theorem step_B (h : SlR v K T B tg r D mt) {t : Nat} (ht : t < 64) : StepX T r D t (fun p => dB D p t) := by
  have hs := h.2.2.2.2.2.2.1
  refine step_gen h (fun q hq c1 c2 hqt ha => ?_) (fun q hq c2 b cs hfr ha => ?_)
  · show dB D q t = true
    rw [(sol_wh (hs q hq) c1 c2).2.2.1 t ht, ha]; simp [Ne.symm hqt]
  · show dB D q t = true
    rw [((sol_tr (hs q hq) c2) b cs hfr).2.2.2.2.2.1 t ht]; exact ha
theorem step_C (h : SlR v K T B tg r D mt) {t : Nat} (ht : t < 64) : StepX T r D t (fun p => dC D p t) := by
  have hs := h.2.2.2.2.2.2.1
  refine step_gen h (fun q hq c1 c2 hqt ha => ?_) (fun q hq c2 b cs hfr ha => ?_)
  · show dC D q t = true
    rw [(sol_wh (hs q hq) c1 c2).2.2.2.1 t ht, ha]; simp [Ne.symm hqt]
  · show dC D q t = true
    rw [((sol_tr (hs q hq) c2) b cs hfr).2.2.2.2.2.2.1 t ht]; exact ha
theorem ex_up (h : SlR v K T B tg r D mt) {t : Nat} {X cm : Nat → Bool} (htr : t ≤ r) (hX : StepX T r D t X) (hcm : ∀ x ∈ pre T r, cm x = true → mt x = true ∧ dN D x = true) : ∀ (l : List Nat) (p : Nat), l ≠ [] → p ∈ pre T r → mt p = true → X p = true → Pth T p l t → okP T cm t p l = true → ∃ q ∈ aP T t, dO D q = true ∧ X q = true := by
  have hS := h
  obtain ⟨hw, h60, hr, -, hsh, -, -, -⟩ := h
  intro l
  induction l with
  | nil => intro p hl; exact absurd rfl hl
  | cons q l ih =>
    intro p _ hp hm hx hP hok
    obtain ⟨hq, hpq, hP2⟩ := hP
    have h1 := hw.1 q hq p hpq
    have h2 := Pth_len hw l q hP2
    have hqp : q ∈ pre T r := Pth_pre hw hr [q] p q hp ⟨hq, hpq, rfl⟩ (by omega) (Or.inl (by omega))
    obtain ⟨m1, m2⟩ := mt_dO hS hqp hpq hm
    have hok2 : ((if q ≠ t ∧ aS T q = 16 ∧ aH T q = true ∧ enT T q ≠ some p then (match enT T q with | some e => cm e | none => true) else true) && okP T cm t q l) = true := hok
    rw [Bool.and_eq_true] at hok2
    by_cases ct : q = t
    · subst ct; exact ⟨p, hpq, m2, hx⟩
    · have hl : l ≠ [] := by
        intro e
        subst e
        exact ct hP2
      refine ih q hl hqp m1 (hX q p hqp hpq m2 hx ct ?_) hP2 hok2.2
      intro e c16 hen hne
      have hH : aH T q = true := by
        unfold enT at hen
        by_cases cH : aH T q = true
        · exact cH
        · rw [if_neg cH] at hen; cases hen
      have := hok2.1
      rw [if_pos ⟨ct, c16, hH, by rw [hen]; exact fun hh => hne (Option.some.inj hh)⟩, hen] at this
      have heP : e ∈ aP T q := by
        unfold enT at hen
        rw [if_pos hH] at hen
        exact List.mem_of_getLast? hen
      exact (hcm e (pre_dn hw r hr q hqp e heP) this).2
theorem ex_sound10 (h : SlR v K T B tg r D mt) {t : Nat} {rc cm : Nat → Bool} (htp : t ∈ pre T r) (hrc : ∀ x ∈ pre T r, rc x = true → mt x = true) (hcm : ∀ x ∈ pre T r, cm x = true → mt x = true ∧ dN D x = true) (hE : ExP T r tg rc cm 10 t) : anO D (aP T t) (fun p => dB D p t) = true := by
  have hS := h
  obtain ⟨hw, h60, hr, -, hsh, -, hs, -⟩ := h
  obtain ⟨j, hj, e10, htg, hrj, l, hP, hok⟩ := hE
  have htn := pre_lt hw hr htp
  have htr := pre_le hw r hr t htp
  have hjn := pre_lt hw hr hj
  have hlf : lfB (aS T j) = true := by rw [e10]; decide
  have hB : dB D j t = true := by
    rw [(sol_lf (hs j hj) hlf).2.2.1 t (by omega), htg, e10]; simp
  have hl : l ≠ [] := by
    intro e
    subst e
    have hP : j = t := hP
    subst hP
    -- a jump is no TARGET: it has no parts, but its TARGET is around it
    obtain ⟨-, -, -, -, -, hT, -⟩ := hS
    have := hT j hj
    unfold TgP at this
    rw [if_pos (by simp [jmp, e10]), htg] at this
    obtain ⟨l', hp', hx⟩ := this
    cases ho : tgT T j l' with
    | none => rw [ho] at hx; exact nI_ne_m1 (by omega) hx
    | some t' =>
      rw [ho] at hx
      obtain ⟨l1, l2, e, -⟩ := tgT_some hw hp' (fun q hq e => (hsh q hq).2.2.2.2.2.2.1 (by simp [e])) (Or.inl e10) ho
      have h1 := Pth_mem hw l' j hp' t' (by rw [e]; simp)
      have := (nI_eq (by omega) (by omega)).mp hx
      omega
  obtain ⟨q, hq, ho, hx⟩ := ex_up hS htr (step_B hS (by omega)) hcm l j hl hj (hrc j hj hrj) hB hP hok
  exact anO_iff.mpr ⟨q, hq, ho, hx⟩
theorem ex_sound11 (h : SlR v K T B tg r D mt) {t : Nat} {rc cm : Nat → Bool} (htp : t ∈ pre T r) (hrc : ∀ x ∈ pre T r, rc x = true → mt x = true) (hcm : ∀ x ∈ pre T r, cm x = true → mt x = true ∧ dN D x = true) (hE : ExP T r tg rc cm 11 t) : anO D (aP T t) (fun p => dC D p t) = true := by
  have hS := h
  obtain ⟨hw, h60, hr, -, hsh, -, hs, -⟩ := h
  obtain ⟨j, hj, e10, htg, hrj, l, hP, hok⟩ := hE
  have htn := pre_lt hw hr htp
  have htr := pre_le hw r hr t htp
  have hjn := pre_lt hw hr hj
  have hlf : lfB (aS T j) = true := by rw [e10]; decide
  have hB : dC D j t = true := by
    rw [(sol_lf (hs j hj) hlf).2.2.2.1 t (by omega), htg, e10]; simp
  have hl : l ≠ [] := by
    intro e
    subst e
    have hP : j = t := hP
    subst hP
    obtain ⟨-, -, -, -, -, hT, -⟩ := hS
    have := hT j hj
    unfold TgP at this
    rw [if_pos (by simp [jmp, e10]), htg] at this
    obtain ⟨l', hp', hx⟩ := this
    cases ho : tgT T j l' with
    | none => rw [ho] at hx; exact nI_ne_m1 (by omega) hx
    | some t' =>
      rw [ho] at hx
      obtain ⟨l1, l2, e, -⟩ := tgT_some hw hp' (fun q hq e => (hsh q hq).2.2.2.2.2.2.1 (by simp [e])) (Or.inr e10) ho
      have h1 := Pth_mem hw l' j hp' t' (by rw [e]; simp)
      have := (nI_eq (by omega) (by omega)).mp hx
      omega
  obtain ⟨q, hq, ho, hx⟩ := ex_up hS htr (step_C hS (by omega)) hcm l j hl hj (hrc j hj hrj) hB hP hok
  exact anO_iff.mpr ⟨q, hq, ho, hx⟩
end L
