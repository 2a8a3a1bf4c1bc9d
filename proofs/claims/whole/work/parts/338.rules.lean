/-! the model's rules: the loop -/
theorem cP_le {p q : Nat → Bool} : ∀ {l : List Nat}, (∀ x ∈ l, p x = true → q x = true) → l.countP p ≤ l.countP q := by
  intro l
  induction l with
  | nil => intro _; exact Nat.le_refl _
  | cons a l ih =>
    intro h
    have h1 := ih (fun x hx => h x (List.mem_cons_of_mem _ hx))
    rw [List.countP_cons, List.countP_cons]
    by_cases c : p a = true
    · rw [if_pos c, if_pos (h a List.mem_cons_self c)]; omega
    · rw [if_neg c]; omega
theorem cP_lt {p q : Nat → Bool} {y : Nat} (hp : p y = false) (hq : q y = true) : ∀ {l : List Nat}, (∀ x ∈ l, p x = true → q x = true) → y ∈ l → l.countP p < l.countP q := by
  intro l
  induction l with
  | nil => intro _ hy; simp at hy
  | cons a l ih =>
    intro h hy
    rw [List.countP_cons, List.countP_cons]
    rcases List.mem_cons.mp hy with rfl | hy
    · have h1 := cP_le (p := p) (q := q) (l := l) (fun x hx => h x (List.mem_cons_of_mem _ hx))
      rw [if_neg (by rw [hp]; decide), if_pos hq]; omega
    · have h1 := ih (fun x hx => h x (List.mem_cons_of_mem _ hx)) hy
      by_cases c : p a = true
      · rw [if_pos c, if_pos (h a List.mem_cons_self c)]; omega
      · rw [if_neg c]; omega
def nz (f : Nat → Int32) (i : Nat) : Bool := !decide (f i = 0)
theorem nz_u {f : Nat → Int32} {k : Nat} (i : Nat) : nz (upd f k 1) i = (decide (i = k) || nz f i) := by
  unfold nz
  by_cases e : i = k
  · subst e; rw [upd_s]; simp
  · rw [upd_n e]; simp [e]
theorem cn_u {f : Nat → Int32} {k n : Nat} (hk : k < n) (h0 : nz f k = false) : (List.range n).countP (nz f) < (List.range n).countP (nz (upd f k 1)) :=
  cP_lt (y := k) h0 (by rw [nz_u]; simp) (fun x _ hx => by rw [nz_u, hx]; simp) (List.mem_range.mpr hk)
def cnR (mx : MxS) : Nat := (List.range 60).countP (nz (Mx_isReached mx)) + (List.range 60).countP (nz (Mx_isComplete mx)) + (List.range 720).countP (nz (Mx_throwable mx))
theorem cnR_le (mx : MxS) : cnR mx ≤ 840 := by
  have h1 := List.countP_le_length (p := nz (Mx_isReached mx)) (l := List.range 60)
  have h2 := List.countP_le_length (p := nz (Mx_isComplete mx)) (l := List.range 60)
  have h3 := List.countP_le_length (p := nz (Mx_throwable mx)) (l := List.range 720)
  rw [List.length_range] at h1 h2 h3
  unfold cnR
  omega
def rcX (mx : MxS) : Nat → Bool := nz (Mx_isReached mx)
def cmX (mx : MxS) : Nat → Bool := nz (Mx_isComplete mx)
def thX (mx : MxS) (x k : Nat) : Bool := nz (Mx_throwable mx) (12 * x + k)
def GrR (mx mx' : MxS) : Prop := Mx_isCome mx' = Mx_isCome mx ∧ Mx_ended mx' = Mx_ended mx ∧ (mx' = mx ∨ (Mx_isNew mx' = 1 ∧ cnR mx < cnR mx'))
theorem GrR_rfl {mx : MxS} : GrR mx mx := ⟨rfl, rfl, Or.inl rfl⟩
theorem GrR_le {a b : MxS} (h : GrR a b) : cnR a ≤ cnR b := by
  rcases h.2.2 with h | h
  · rw [h]; exact Nat.le_refl _
  · omega
theorem GrR_tr {a b c : MxS} (h1 : GrR a b) (h2 : GrR b c) : GrR a c := by
  refine ⟨h2.1.trans h1.1, h2.2.1.trans h1.2.1, ?_⟩
  rcases h2.2.2 with e | ⟨e1, e2⟩
  · subst e; exact h1.2.2
  · right
    refine ⟨e1, ?_⟩
    have := GrR_le h1
    omega
theorem GrR_eq {a b c : MxS} (h1 : GrR a b) (h2 : GrR b c) (e : c = a) : b = a := by
  rcases h1.2.2 with h | h
  · exact h
  · have := GrR_le h2
    rw [e] at this
    omega
def RI (T : AT) (r K : Nat) (D : Dt) (mt : Nat → Bool) (mx : MxS) : Prop := (∀ x ∈ pre T r, Mx_isReached mx x = bi (rcX mx x) ∧ Mx_isComplete mx x = bi (cmX mx x) ∧ ∀ k, k < 12 → Mx_throwable mx (12 * x + k) = bi (thX mx x k) ∧ (K ≤ k → thX mx x k = false)) ∧ SubR T r K D mt (rcX mx) (cmX mx) (thX mx)
theorem RI_rd {T : AT} {r K : Nat} {D : Dt} {mt : Nat → Bool} {mx : MxS} (h : RI T r K D mt mx) : RdR mx T r (rcX mx) (cmX mx) (thX mx) := fun x hx => ⟨(h.1 x hx).1, (h.1 x hx).2.1, fun k hk => ((h.1 x hx).2.2 k hk).1⟩
def stR (mx : MxS) (n : Nat) : MxS := (upd (Mx_isReached mx) n 1, Mx_isComplete mx, Mx_throwable mx, Mx_isCome mx, Mx_ended mx, 1)
def stC (mx : MxS) (n : Nat) : MxS := (Mx_isReached mx, upd (Mx_isComplete mx) n 1, Mx_throwable mx, Mx_isCome mx, Mx_ended mx, 1)
def stT (mx : MxS) (i : Nat) : MxS := (Mx_isReached mx, Mx_isComplete mx, upd (Mx_throwable mx) i 1, Mx_isCome mx, Mx_ended mx, 1)
section S
variable {T : AT} {r K : Nat} {D : Dt} {mt : Nat → Bool} {mx : MxS}
theorem set_r (h : RI T r K D mt mx) {n : Nat} (hn : n < 60) (h0 : rcX mx n = false) (hm : mt n = true) : RI T r K D mt (stR mx n) ∧ GrR mx (stR mx n) := by
  obtain ⟨h1, h2, h3, h4⟩ := h
  have e : ∀ x, rcX (stR mx n) x = (decide (x = n) || rcX mx x) := fun x => nz_u x
  refine ⟨⟨fun x hx => ⟨?_, (h1 x hx).2⟩, fun x hx hh => ?_, h3, h4⟩, rfl, rfl, Or.inr ⟨rfl, ?_⟩⟩
  · rw [e]
    show upd _ _ _ _ = _
    by_cases c : x = n
    · subst c; rw [upd_s]; simp [bi]
    · rw [upd_n c, (h1 x hx).1]; simp [c]
  · rw [e, Bool.or_eq_true] at hh
    rcases hh with hh | hh
    · have : x = n := by simpa using hh
      rw [this]; exact hm
    · exact h2 x hx hh
  · have := cn_u (f := Mx_isReached mx) hn h0
    show _ < (List.range 60).countP (nz (upd (Mx_isReached mx) n 1)) + (List.range 60).countP (nz (Mx_isComplete mx)) + (List.range 720).countP (nz (Mx_throwable mx))
    unfold cnR
    omega
theorem set_c (h : RI T r K D mt mx) {n : Nat} (hn : n < 60) (h0 : cmX mx n = false) (hm : mt n = true ∧ dN D n = true) : RI T r K D mt (stC mx n) ∧ GrR mx (stC mx n) := by
  obtain ⟨h1, h2, h3, h4⟩ := h
  have e : ∀ x, cmX (stC mx n) x = (decide (x = n) || cmX mx x) := fun x => nz_u x
  refine ⟨⟨fun x hx => ⟨(h1 x hx).1, ?_, (h1 x hx).2.2⟩, h2, fun x hx hh => ?_, h4⟩, rfl, rfl, Or.inr ⟨rfl, ?_⟩⟩
  · rw [e]
    show upd _ _ _ _ = _
    by_cases c : x = n
    · subst c; rw [upd_s]; simp [bi]
    · rw [upd_n c, (h1 x hx).2.1]; simp [c]
  · rw [e, Bool.or_eq_true] at hh
    rcases hh with hh | hh
    · have : x = n := by simpa using hh
      rw [this]; exact hm
    · exact h3 x hx hh
  · have := cn_u (f := Mx_isComplete mx) hn h0
    show _ < (List.range 60).countP (nz (Mx_isReached mx)) + (List.range 60).countP (nz (upd (Mx_isComplete mx) n 1)) + (List.range 720).countP (nz (Mx_throwable mx))
    unfold cnR
    omega
theorem set_t (hK : K ≤ 12) (h : RI T r K D mt mx) {n k : Nat} (hn : n < 60) (hk : k < K) (h0 : thX mx n k = false) (hm : mt n = true ∧ dT D n k = true) : RI T r K D mt (stT mx (12 * n + k)) ∧ GrR mx (stT mx (12 * n + k)) := by
  obtain ⟨h1, h2, h3, h4⟩ := h
  have e : ∀ x j, j < 12 → thX (stT mx (12 * n + k)) x j = (decide (x = n ∧ j = k) || thX mx x j) := fun x j hj => by
    show nz (upd _ _ _) (12 * x + j) = _
    rw [nz_u]
    have : (12 * x + j = 12 * n + k) ↔ (x = n ∧ j = k) := by omega
    rw [decide_eq_decide.mpr this]; rfl
  refine ⟨⟨fun x hx => ⟨(h1 x hx).1, (h1 x hx).2.1, fun j hj => ⟨?_, fun hKj => ?_⟩⟩, h2, h3, fun x hx j hj hh => ?_⟩, rfl, rfl, Or.inr ⟨rfl, ?_⟩⟩
  · rw [e x j hj]
    show upd _ _ _ _ = _
    by_cases c : x = n ∧ j = k
    · rw [c.1, c.2, upd_s]; simp [bi]
    · rw [upd_n (by omega), ((h1 x hx).2.2 j hj).1]; simp [c]
  · rw [e x j hj, ((h1 x hx).2.2 j hj).2 hKj]
    have : ¬ (x = n ∧ j = k) := by omega
    simp [this]
  · rw [e x j (by omega), Bool.or_eq_true] at hh
    rcases hh with hh | hh
    · have : x = n ∧ j = k := by simpa using hh
      rw [this.1, this.2]; exact hm
    · exact h4 x hx j hj hh
  · have := cn_u (f := Mx_throwable mx) (show 12 * n + k < 720 by omega) h0
    show _ < (List.range 60).countP (nz (Mx_isReached mx)) + (List.range 60).countP (nz (Mx_isComplete mx)) + (List.range 720).countP (nz (upd (Mx_throwable mx) (12 * n + k) 1))
    unfold cnR
    omega
end S
section R
variable {mb : MbS} {mg : MgS} {K : Nat} {ab : Nat → Nat} {B : Nat → Nat → Bool} {T : AT} {rl : List Nat} {r N : Nat} {D : Dt} {mt : Nat → Bool} {k5 : MxS → Option MxS} {k19 : Int32 × MxS → Option MxS}
theorem rl_th (hb : BldM mb mg K ab B T rl r) (hN : 1000 < N) (hS : SlR false K T B (Mg_targets mg) r D mt) {n : Nat} (hn : n ∈ pre T r) (i : Nat) : ∀ (m e fuel : Nat) (mx : MxS), e + m = K → RI T r K D mt mx → m < fuel → ∃ mx', lp (f_Md_rules_L94 N k5 k19 (nI i) (nI n) mb mg) fuel (nI e, mx) = k19 (nI (i + 1), mx') ∧ RI T r K D mt mx' ∧ GrR mx mx' ∧ (mx' = mx → ∀ k, e ≤ k → k < K → MtP K T B (rcX mx) (cmX mx) (thX mx) n k → thX mx n k = true) := by
  have hb' := hb
  obtain ⟨h, hw, h60, hKI, hMk, hsh, hr, hg, -, hkk, -⟩ := hb
  have hK := hKI.2.1
  have hnn := pre_lt hw hr hn
  intro m
  induction m with
  | zero =>
    intro e fuel mx he hI hf
    match fuel, hf with
    | fuel + 1, _ =>
      refine ⟨mx, ?_, hI, GrR_rfl, fun _ k h1 h2 => by omega⟩
      show f_Md_rules_L94 N k5 k19 (nI i) (nI n) mb mg _ _ = _
      rw [f_Md_rules_L94.eq_1]
      show (if Mg_knownKinds mg ≤ nI e then k19 (nI i + 1, mx) else _) = _
      rw [hkk, if_pos (nI_le (by omega) (by omega)), nI_1]
  | succ m ih =>
    intro e fuel mx he hI hf
    match fuel, hf with
    | fuel + 1, hf =>
      obtain ⟨z, z1, z2⟩ := md_mustThrow (N := N) hb' (by omega) (RI_rd hI) hn (show e < K by omega)
      have hth := ((hI.1 n hn).2.2 e (by omega)).1
      have hun : lp (f_Md_rules_L94 N k5 k19 (nI i) (nI n) mb mg) (fuel + 1) (nI e, mx) = _ := f_Md_rules_L94.eq_1 N k5 k19 (nI i) (nI n) mb mg (lp (f_Md_rules_L94 N k5 k19 (nI i) (nI n) mb mg) fuel) (nI e, mx)
      simp only [hkk, if_neg (nI_ge (show e < K by omega) (show K < 2 ^ 31 by omega)), th_idx (show n < 60 by omega) (show e < 12 by omega), if_pos (inB_nI (show 12 * n + e < 720 by omega) (show (720 : Nat) < 2 ^ 31 by decide)), nI_clamp (show 12 * n + e < 2 ^ 31 by omega), hth, z1, Option.bind_some, b0, nar1, nI_1] at hun
      rw [hun]
      have skip : (MtP K T B (rcX mx) (cmX mx) (thX mx) n e → thX mx n e = true) → ∃ mx', lp (f_Md_rules_L94 N k5 k19 (nI i) (nI n) mb mg) fuel (nI (e + 1), mx) = k19 (nI (i + 1), mx') ∧ RI T r K D mt mx' ∧ GrR mx mx' ∧ (mx' = mx → ∀ k, e ≤ k → k < K → MtP K T B (rcX mx) (cmX mx) (thX mx) n k → thX mx n k = true) := by
        intro hc
        obtain ⟨mx', q1, q2, q3, q4⟩ := ih (e + 1) fuel mx (by omega) hI (by omega)
        refine ⟨mx', q1, q2, q3, fun he2 k h1 h2 h3 => ?_⟩
        by_cases c : k = e
        · subst c; exact hc h3
        · exact q4 he2 k (by omega) h2 h3
      by_cases c : thX mx n e = true
      · rw [if_pos c]
        exact skip (fun _ => c)
      · rw [if_neg c]
        by_cases cz : z = true
        · rw [if_pos cz]
          have c : thX mx n e = false := by simpa using c
          obtain ⟨s1, s2⟩ := set_t hK hI (show n < 60 by omega) (show e < K by omega) c (snd_throw hS hI.2 hn (by omega) (z2.mp cz))
          obtain ⟨mx', q1, q2, q3, q4⟩ := ih (e + 1) fuel (stT mx (12 * n + e)) (by omega) s1 (by omega)
          refine ⟨mx', q1, q2, GrR_tr s2 q3, fun he2 => ?_⟩
          have := GrR_eq s2 q3 he2
          exfalso
          rcases s2.2.2 with h1 | h1
          · have h2 : thX (stT mx (12 * n + e)) n e = true := by
              show nz (upd _ _ _) _ = true
              rw [nz_u]; simp
            rw [h1, c] at h2; cases h2
          · rw [this] at h1; omega
        · rw [if_neg cz]
          exact skip (fun hh => absurd (z2.mpr hh) cz)
def ClN (K : Nat) (T : AT) (B : Nat → Nat → Bool) (tg : Nat → Int32) (r : Nat) (mx : MxS) (n : Nat) : Prop := (n = r → rcX mx n = true) ∧ (∀ q ∈ pre T r, ∀ l1 l2, aP T q = l1 ++ n :: l2 → MrQ K T B (rcX mx) (cmX mx) (thX mx) q l1 n → rcX mx n = true) ∧ (McP T r tg (rcX mx) (cmX mx) n → cmX mx n = true) ∧ ∀ k, k < K → MtP K T B (rcX mx) (cmX mx) (thX mx) n k → thX mx n k = true
theorem rl_b63 (hb : BldM mb mg K ab B T rl r) (hN : 1000 < N) (hS : SlR false K T B (Mg_targets mg) r D mt) {n : Nat} (hn : n ∈ pre T r) (i : Nat) {mx : MxS} (hI : RI T r K D mt mx) : ∃ mx', f_Md_rules_b63 N k5 k19 (nI i) (nI n) mb mg mx = k19 (nI (i + 1), mx') ∧ RI T r K D mt mx' ∧ GrR mx mx' ∧ (mx' = mx → (McP T r (Mg_targets mg) (rcX mx) (cmX mx) n → cmX mx n = true) ∧ ∀ k, k < K → MtP K T B (rcX mx) (cmX mx) (thX mx) n k → thX mx n k = true) := by
  have hb' := hb
  obtain ⟨h, hw, h60, hKI, hMk, hsh, hr, hg, -, hkk, -⟩ := hb
  have hK := hKI.2.1
  have hnn := pre_lt hw hr hn
  obtain ⟨z, z1, z2⟩ := md_mustComplete (N := N) hb' (by omega) (RI_rd hI) hn
  have hcm := (hI.1 n hn).2.1
  have hun : f_Md_rules_b63 N k5 k19 (nI i) (nI n) mb mg mx = _ := f_Md_rules_b63.eq_1 N k5 k19 (nI i) (nI n) mb mg mx
  simp only [if_pos (inB_nI (show n < 60 by omega) (show (60 : Nat) < 2 ^ 31 by decide)), nI_clamp (show n < 2 ^ 31 by omega), hcm, z1, Option.bind_some, b0, nar1] at hun
  rw [hun]
  have skip : (McP T r (Mg_targets mg) (rcX mx) (cmX mx) n → cmX mx n = true) → ∃ mx', lp (f_Md_rules_L94 N k5 k19 (nI i) (nI n) mb mg) N (0, mx) = k19 (nI (i + 1), mx') ∧ RI T r K D mt mx' ∧ GrR mx mx' ∧ (mx' = mx → (McP T r (Mg_targets mg) (rcX mx) (cmX mx) n → cmX mx n = true) ∧ ∀ k, k < K → MtP K T B (rcX mx) (cmX mx) (thX mx) n k → thX mx n k = true) := by
    intro hc
    obtain ⟨mx', q1, q2, q3, q4⟩ := rl_th (k5 := k5) (k19 := k19) hb' hN hS hn i K 0 N mx (by omega) hI (by omega)
    exact ⟨mx', q1, q2, q3, fun he => ⟨hc, fun k h1 h2 => q4 he k (by omega) h1 h2⟩⟩
  by_cases c : cmX mx n = true
  · rw [if_pos c]
    exact skip (fun _ => c)
  · rw [if_neg c]
    by_cases cz : z = true
    · rw [if_pos cz]
      have c : cmX mx n = false := by simpa using c
      obtain ⟨s1, s2⟩ := set_c hI (show n < 60 by omega) c (snd_comp hS hI.2 hn (z2.mp cz))
      obtain ⟨mx', q1, q2, q3, q4⟩ := rl_th (k5 := k5) (k19 := k19) hb' hN hS hn i K 0 N (stC mx n) (by omega) s1 (by omega)
      refine ⟨mx', q1, q2, GrR_tr s2 q3, fun he2 => ?_⟩
      have := GrR_eq s2 q3 he2
      exfalso
      rcases s2.2.2 with h1 | h1
      · have h2 : cmX (stC mx n) n = true := by
          show nz (upd _ _ _) _ = true
          rw [nz_u]; simp
        rw [h1, c] at h2; cases h2
      · rw [this] at h1; omega
    · rw [if_neg cz]
      exact skip (fun hh => absurd (z2.mpr hh) cz)
theorem split_uq {l1 l2 s1 s2 : List Nat} {n : Nat} (e : l1 ++ n :: l2 = s1 ++ n :: s2) (hd : (l1 ++ n :: l2).Nodup) : l1 = s1 := by
  have key : ∀ (a c : List Nat) (x y : List Nat), a ++ n :: x = c ++ n :: y → n ∉ a → n ∉ c → a = c := by
    intro a
    induction a with
    | nil =>
      intro c x y e _ hc
      cases c with
      | nil => rfl
      | cons z c => simp only [List.nil_append, List.cons_append] at e; injection e with e1 e2; subst e1; exact absurd List.mem_cons_self hc
    | cons w a ih =>
      intro c x y e ha hc
      cases c with
      | nil => simp only [List.nil_append, List.cons_append] at e; injection e with e1 e2; subst e1; exact absurd List.mem_cons_self ha
      | cons z c =>
        simp only [List.cons_append] at e
        injection e with e1 e2
        subst e1
        rw [ih c x y e2 (fun hh => ha (List.mem_cons_of_mem _ hh)) (fun hh => hc (List.mem_cons_of_mem _ hh))]
  refine key l1 s1 _ _ e ?_ ?_
  · intro hh
    rw [List.nodup_append] at hd
    exact hd.2.2 n hh n List.mem_cons_self rfl
  · intro hh
    rw [e, List.nodup_append] at hd
    exact hd.2.2 n hh n List.mem_cons_self rfl
theorem rl_node (hb : BldM mb mg K ab B T rl r) (hK4 : 4 ≤ K) (hN : 1000 < N) (hS : SlR false K T B (Mg_targets mg) r D mt) {n : Nat} (hn : n ∈ pre T r) (i : Nat) {mx : MxS} (hI : RI T r K D mt mx) : ∃ mx', (if Mx_isReached mx n = 0 then ((f_Md_mustReach N (nI n) mb mg mx).bind fun y45 => (if y45 = 0 then f_Md_rules_b63 N k5 k19 (nI i) (nI n) mb mg mx else f_Md_rules_b63 N k5 k19 (nI i) (nI n) mb mg (stR mx n))) else f_Md_rules_b63 N k5 k19 (nI i) (nI n) mb mg mx) = k19 (nI (i + 1), mx') ∧ RI T r K D mt mx' ∧ GrR mx mx' ∧ (mx' = mx → ClN K T B (Mg_targets mg) r mx n) := by
  have hb' := hb
  obtain ⟨h, hw, h60, hKI, hMk, hsh, hr, hg, -, hkk, -⟩ := hb
  have hK := hKI.2.1
  have hnn := pre_lt hw hr hn
  rw [(hI.1 n hn).1, b0]
  have skip : (n = r → rcX mx n = true) → (∀ q ∈ pre T r, ∀ l1 l2, aP T q = l1 ++ n :: l2 → MrQ K T B (rcX mx) (cmX mx) (thX mx) q l1 n → rcX mx n = true) → ∃ mx', f_Md_rules_b63 N k5 k19 (nI i) (nI n) mb mg mx = k19 (nI (i + 1), mx') ∧ RI T r K D mt mx' ∧ GrR mx mx' ∧ (mx' = mx → ClN K T B (Mg_targets mg) r mx n) := by
    intro h1 h2
    obtain ⟨mx', q1, q2, q3, q4⟩ := rl_b63 (k5 := k5) (k19 := k19) hb' hN hS hn i hI
    exact ⟨mx', q1, q2, q3, fun he => ⟨h1, h2, (q4 he).1, (q4 he).2⟩⟩
  have set : rcX mx n = false → mt n = true → ∃ mx', f_Md_rules_b63 N k5 k19 (nI i) (nI n) mb mg (stR mx n) = k19 (nI (i + 1), mx') ∧ RI T r K D mt mx' ∧ GrR mx mx' ∧ (mx' = mx → ClN K T B (Mg_targets mg) r mx n) := by
    intro c hm
    obtain ⟨s1, s2⟩ := set_r hI (show n < 60 by omega) c hm
    obtain ⟨mx', q1, q2, q3, q4⟩ := rl_b63 (k5 := k5) (k19 := k19) hb' hN hS hn i s1
    refine ⟨mx', q1, q2, GrR_tr s2 q3, fun he2 => ?_⟩
    have := GrR_eq s2 q3 he2
    exfalso
    rcases s2.2.2 with h1 | h1
    · have h2 : rcX (stR mx n) n = true := by
        show nz (upd _ _ _) _ = true
        rw [nz_u]; simp
      rw [h1, c] at h2; cases h2
    · rw [this] at h1; omega
  by_cases c : rcX mx n = true
  · rw [if_pos c]
    exact skip (fun _ => c) (fun _ _ _ _ _ _ => c)
  · rw [if_neg c]
    have c : rcX mx n = false := by simpa using c
    by_cases cr : n = r
    · subst cr
      rw [md_reach_r hb']
      simp only [Option.bind_some]
      rw [if_neg (by decide)]
      exact set c hS.2.2.2.2.2.2.2.1
    · rcases pre_up hw r hr n hn with e | ⟨q, hq, hnq⟩
      · exact absurd e cr
      · obtain ⟨l1, l2, hP⟩ := List.append_of_mem hnq
        obtain ⟨z, z1, z2⟩ := md_mustReach (N := N) hb' hK4 (by omega) (RI_rd hI) hq hP cr
        rw [z1]
        simp only [Option.bind_some, b0]
        by_cases cz : z = true
        · rw [if_pos cz]
          exact set c (snd_reach hS hI.2 hq hP (z2.mp cz))
        · rw [if_neg cz]
          refine skip (fun e => absurd e cr) ?_
          intro q' hq' l1' l2' hP' hM
          have e1 := hw.2.2 q q' n (pre_lt hw hr hq) (pre_lt hw hr hq') hnq (by rw [hP']; simp)
          subst e1
          have e2 : l1 = l1' := split_uq (hP.symm.trans hP') (by rw [← hP]; exact hw.2.1 q (pre_lt hw hr hq))
          subst e2
          exact absurd (z2.mpr hM) cz
end R
