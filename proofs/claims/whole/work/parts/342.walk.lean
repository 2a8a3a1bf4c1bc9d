/-! WALKS: the model's loop -/
def wy (D : Dt) (x w : Nat) : Bool := if w = 0 then dN D x else if w = 1 then dR D x else if w < 62 then dB D x (w - 2) else if w < 122 then dC D x (w - 62) else dT D x (w - 122)
def coX (mx : MxS) : Nat → Bool := nz (Mx_isCome mx)
def enX (mx : MxS) (x w : Nat) : Bool := nz (Mx_ended mx) (134 * x + w)
def cnW (mx : MxS) : Nat := (List.range 60).countP (nz (Mx_isCome mx)) + (List.range 8040).countP (nz (Mx_ended mx))
theorem cnW_le (mx : MxS) : cnW mx ≤ 8100 := by
  have h1 := List.countP_le_length (p := nz (Mx_isCome mx)) (l := List.range 60)
  have h2 := List.countP_le_length (p := nz (Mx_ended mx)) (l := List.range 8040)
  rw [List.length_range] at h1 h2
  unfold cnW
  omega
def GrW (mx mx' : MxS) : Prop := (Mx_isReached mx' = Mx_isReached mx ∧ Mx_isComplete mx' = Mx_isComplete mx ∧ Mx_throwable mx' = Mx_throwable mx ∧ ∀ x, coX mx x = true → coX mx' x = true) ∧ (mx' = mx ∨ (Mx_isNew mx' = 1 ∧ cnW mx < cnW mx'))
theorem GrW_rfl {mx : MxS} : GrW mx mx := ⟨⟨rfl, rfl, rfl, fun _ hx => hx⟩, Or.inl rfl⟩
theorem GrW_le {a b : MxS} (h : GrW a b) : cnW a ≤ cnW b := by
  rcases h.2 with h | h
  · rw [h]; exact Nat.le_refl _
  · omega
theorem GrW_tr {a b c : MxS} (h1 : GrW a b) (h2 : GrW b c) : GrW a c := by
  refine ⟨⟨h2.1.1.trans h1.1.1, h2.1.2.1.trans h1.1.2.1, h2.1.2.2.1.trans h1.1.2.2.1, fun x hx => h2.1.2.2.2 x (h1.1.2.2.2 x hx)⟩, ?_⟩
  rcases h2.2 with e | ⟨e1, e2⟩
  · subst e; exact h1.2
  · right
    refine ⟨e1, ?_⟩
    have := GrW_le h1
    omega
theorem GrW_eq {a b c : MxS} (h1 : GrW a b) (h2 : GrW b c) (e : c = a) : b = a := by
  rcases h1.2 with h | h
  · exact h
  · have := GrW_le h2
    rw [e] at this
    omega
def WI (T : AT) (r : Nat) (D : Dt) (mt : Nat → Bool) (mx : MxS) : Prop := (∀ x ∈ pre T r, Mx_isCome mx x = bi (coX mx x) ∧ ∀ w, w < 134 → Mx_ended mx (134 * x + w) = bi (enX mx x w)) ∧ (∀ x ∈ pre T r, coX mx x = true → mt x = true) ∧ (∀ x ∈ pre T r, ∀ w, w < 134 → enX mx x w = true → mt x = true ∧ wy D x w = true) ∧ (Mx_isNew mx = 0 ∨ Mx_isNew mx = 1)
def Wst (I Q : MxS → Prop) (mx : MxS) (o : Option MxS) : Prop := ∃ mx', o = some mx' ∧ I mx' ∧ GrW mx mx' ∧ (mx' = mx → Q mx)
theorem Wst_pure {I Q : MxS → Prop} {mx : MxS} (hI : I mx) (hQ : Q mx) : Wst I Q mx (some mx) := ⟨mx, rfl, hI, GrW_rfl, fun _ => hQ⟩
theorem Wst_mono {I Q Q' : MxS → Prop} {mx : MxS} {o : Option MxS} (h : Wst I Q mx o) (hQ : Q mx → Q' mx) : Wst I Q' mx o := by
  obtain ⟨m, h1, h2, h3, h4⟩ := h
  exact ⟨m, h1, h2, h3, fun e => hQ (h4 e)⟩
theorem Wst_bind {I Q1 Q2 : MxS → Prop} {mx : MxS} {o : Option MxS} {f : MxS → Option MxS} (h1 : Wst I Q1 mx o) (h2 : ∀ m, I m → Wst I Q2 m (f m)) : Wst I (fun m => Q1 m ∧ Q2 m) mx (o.bind f) := by
  obtain ⟨m1, a1, a2, a3, a4⟩ := h1
  obtain ⟨m2, b1, b2, b3, b4⟩ := h2 m1 a2
  refine ⟨m2, by rw [a1]; exact b1, b2, GrW_tr a3 b3, fun e => ?_⟩
  have e1 := GrW_eq a3 b3 e
  subst e1
  exact ⟨a4 rfl, b4 e⟩
/-- two steps, one behind the other -/
theorem Wst_seq {I Q1 Q2 : MxS → Prop} {mx m1 : MxS} {o : Option MxS} (a2 : I m1) (a3 : GrW mx m1) (a4 : m1 = mx → Q1 mx) (h2 : Wst I Q2 m1 o) : Wst I (fun m => Q1 m ∧ Q2 m) mx o := by
  obtain ⟨m2, b1, b2, b3, b4⟩ := h2
  refine ⟨m2, b1, b2, GrW_tr a3 b3, fun e => ?_⟩
  have e1 := GrW_eq a3 b3 e
  subst e1
  exact ⟨a4 rfl, b4 e⟩
theorem upd_same {f : Nat → Int32} {k : Nat} {x : Int32} (h : f k = x) : upd f k x = f := by
  funext j
  by_cases e : j = k
  · subst e; rw [upd_s, h]
  · rw [upd_n e]
theorem en_idx {x w : Nat} : (134 : Int32) * nI x + nI w = nI (134 * x + w) := by
  rw [show (134 : Int32) = nI 134 by decide, pk_mul, nI_add]
section W
variable {T : AT} {r : Nat} {D : Dt} {mt : Nat → Bool} {mx : MxS}
theorem st_come (h60 : ∀ x ∈ pre T r, x < 60) (hI : WI T r D mt mx) {p : Nat} (hp : p ∈ pre T r) (hm : mt p = true) : Wst (WI T r D mt) (fun m => coX m p = true) mx (f_Md_come (nI p) mx) := by
  have hI' := hI
  obtain ⟨i1, i2, i3, i4⟩ := hI
  have hp60 := h60 p hp
  have hc := (i1 p hp).1
  have e22 : ∀ z : Bool, f_Md_come_b22 (bi z) (nI p) mx = some (Mx_isReached mx, Mx_isComplete mx, Mx_throwable mx, upd (Mx_isCome mx) p 1, Mx_ended mx, bi z) := fun z => by
    rw [f_Md_come_b22.eq_1, b0', if_pos (inB_nI hp60 (by decide)), nI_clamp (by omega), nar1]
  have hun : f_Md_come (nI p) mx = some (Mx_isReached mx, Mx_isComplete mx, Mx_throwable mx, upd (Mx_isCome mx) p 1, Mx_ended mx, if Mx_isNew mx = 0 then bi (!coX mx p) else 1) := by
    rw [f_Md_come.eq_1, if_pos (inB_nI hp60 (by decide)), nI_clamp (by omega), hc, b0, f_Md_come_b17.eq_1, show (1 : Int32) = bi true from rfl, show (0 : Int32) = bi false from rfl, e22, e22]
    by_cases c : Mx_isNew mx = bi false
    · rw [if_pos c, if_pos c]
      cases coX mx p <;> rfl
    · rw [if_neg c, if_neg c]; rfl
  by_cases c : coX mx p = true
  · have e : f_Md_come (nI p) mx = some mx := by
      rw [hun, upd_same (by rw [hc, c]; rfl), c]
      have : (if Mx_isNew mx = 0 then bi (!true) else 1) = Mx_isNew mx := by
        rcases i4 with e | e
        · rw [if_pos e, e]; rfl
        · rw [if_neg (by rw [e]; decide), e]
      rw [this]
    rw [e]
    exact Wst_pure hI' c
  · have c : coX mx p = false := by simpa using c
    have e1 : (if Mx_isNew mx = 0 then bi (!coX mx p) else 1) = 1 := by
      by_cases c2 : Mx_isNew mx = 0
      · rw [if_pos c2, c]; rfl
      · rw [if_neg c2]
    rw [e1] at hun
    have hco : ∀ x, coX (Mx_isReached mx, Mx_isComplete mx, Mx_throwable mx, upd (Mx_isCome mx) p 1, Mx_ended mx, 1) x = (decide (x = p) || coX mx x) := fun x => nz_u x
    refine ⟨_, hun, ⟨fun x hx => ⟨?_, (i1 x hx).2⟩, fun x hx hh => ?_, i3, Or.inr rfl⟩, ⟨⟨rfl, rfl, rfl, fun x hx => by rw [hco, hx]; simp⟩, Or.inr ⟨rfl, ?_⟩⟩, fun e => ?_⟩
    · rw [hco]
      show upd _ _ _ _ = _
      by_cases e : x = p
      · subst e; rw [upd_s]; simp [bi]
      · rw [upd_n e, (i1 x hx).1]; simp [e]
    · rw [hco, Bool.or_eq_true] at hh
      rcases hh with hh | hh
      · have : x = p := by simpa using hh
        rw [this]; exact hm
      · exact i2 x hx hh
    · have := cn_u (f := Mx_isCome mx) hp60 c
      show _ < (List.range 60).countP (nz (upd (Mx_isCome mx) p 1)) + (List.range 8040).countP (nz (Mx_ended mx))
      unfold cnW
      omega
    · have := hco p
      rw [e, c] at this
      simp at this
theorem st_end (h60 : ∀ x ∈ pre T r, x < 60) (hI : WI T r D mt mx) {p w : Nat} (hp : p ∈ pre T r) (hw : w < 134) (hm : mt p = true ∧ wy D p w = true) : Wst (WI T r D mt) (fun m => enX m p w = true) mx (f_Md_endBy (nI p) (nI w) mx) := by
  have hI' := hI
  obtain ⟨i1, i2, i3, i4⟩ := hI
  have hp60 := h60 p hp
  have hc := (i1 p hp).2 w hw
  have e22 : ∀ z : Bool, f_Md_endBy_b28 (bi z) (nI p) (nI w) mx = some (Mx_isReached mx, Mx_isComplete mx, Mx_throwable mx, Mx_isCome mx, upd (Mx_ended mx) (134 * p + w) 1, bi z) := fun z => by
    rw [f_Md_endBy_b28.eq_1, b0', en_idx, if_pos (inB_nI (show 134 * p + w < 8040 by omega) (by decide)), nI_clamp (by omega), nar1]
  have hun : f_Md_endBy (nI p) (nI w) mx = some (Mx_isReached mx, Mx_isComplete mx, Mx_throwable mx, Mx_isCome mx, upd (Mx_ended mx) (134 * p + w) 1, if Mx_isNew mx = 0 then bi (!enX mx p w) else 1) := by
    rw [f_Md_endBy.eq_1, en_idx, if_pos (inB_nI (show 134 * p + w < 8040 by omega) (by decide)), nI_clamp (by omega), hc, b0, f_Md_endBy_b23.eq_1, show (1 : Int32) = bi true from rfl, show (0 : Int32) = bi false from rfl, e22, e22]
    by_cases c : Mx_isNew mx = bi false
    · rw [if_pos c, if_pos c]
      cases enX mx p w <;> rfl
    · rw [if_neg c, if_neg c]; rfl
  by_cases c : enX mx p w = true
  · have e : f_Md_endBy (nI p) (nI w) mx = some mx := by
      rw [hun, upd_same (by rw [hc, c]; rfl), c]
      have : (if Mx_isNew mx = 0 then bi (!true) else 1) = Mx_isNew mx := by
        rcases i4 with e | e
        · rw [if_pos e, e]; rfl
        · rw [if_neg (by rw [e]; decide), e]
      rw [this]
    rw [e]
    exact Wst_pure hI' c
  · have c : enX mx p w = false := by simpa using c
    have e1 : (if Mx_isNew mx = 0 then bi (!enX mx p w) else 1) = 1 := by
      by_cases c2 : Mx_isNew mx = 0
      · rw [if_pos c2, c]; rfl
      · rw [if_neg c2]
    rw [e1] at hun
    have hco : ∀ x y, y < 134 → enX (Mx_isReached mx, Mx_isComplete mx, Mx_throwable mx, Mx_isCome mx, upd (Mx_ended mx) (134 * p + w) 1, 1) x y = (decide (x = p ∧ y = w) || enX mx x y) := fun x y hy => by
      show nz (upd _ _ _) _ = _
      rw [nz_u]
      have : (134 * x + y = 134 * p + w) ↔ (x = p ∧ y = w) := by omega
      rw [decide_eq_decide.mpr this]; rfl
    refine ⟨_, hun, ⟨fun x hx => ⟨(i1 x hx).1, fun y hy => ?_⟩, i2, fun x hx y hy hh => ?_, Or.inr rfl⟩, ⟨⟨rfl, rfl, rfl, fun x hx => hx⟩, Or.inr ⟨rfl, ?_⟩⟩, fun e => ?_⟩
    · rw [hco x y hy]
      show upd _ _ _ _ = _
      by_cases e : x = p ∧ y = w
      · rw [e.1, e.2, upd_s]; simp [bi]
      · rw [upd_n (by omega), (i1 x hx).2 y hy]; simp [e]
    · rw [hco x y hy, Bool.or_eq_true] at hh
      rcases hh with hh | hh
      · have : x = p ∧ y = w := by simpa using hh
        rw [this.1, this.2]; exact hm
      · exact i3 x hx y hy hh
    · have := cn_u (f := Mx_ended mx) (show 134 * p + w < 8040 by omega) c
      show _ < (List.range 60).countP (nz (Mx_isCome mx)) + (List.range 8040).countP (nz (upd (Mx_ended mx) (134 * p + w) 1))
      unfold cnW
      omega
    · have := hco p w hw
      rw [e, c] at this
      simp at this
theorem st_is (h60 : ∀ x ∈ pre T r, x < 60) (hI : WI T r D mt mx) {p w : Nat} (hp : p ∈ pre T r) (hw : w < 134) : f_Md_isEnded (nI p) (nI w) mx = some (bi (enX mx p w)) := by
  have hp60 := h60 p hp
  rw [f_Md_isEnded.eq_1, en_idx, if_pos (inB_nI (show 134 * p + w < 8040 by omega) (by decide)), nI_clamp (by omega), (hI.1 p hp).2 w hw, b0']
/-- what a part's ways become -/
def QP (T : AT) (n p : Nat) (m : MxS) : Prop := (∀ w, 1 ≤ w → w < 134 → enX m p w = true → w ≠ 2 + n → ¬ (w = 62 + n ∧ isLp (aS T n) = true) → enX m n w = true) ∧ (enX m p (2 + n) = true → enX m n 0 = true)
def SP (T : AT) (D : Dt) (mt : Nat → Bool) (n p : Nat) : Prop := (∀ w, 1 ≤ w → w < 134 → mt p = true → wy D p w = true → w ≠ 2 + n → ¬ (w = 62 + n ∧ isLp (aS T n) = true) → mt n = true ∧ wy D n w = true) ∧ (mt p = true → wy D p (2 + n) = true → mt n = true ∧ wy D n 0 = true)
theorem st_pass {mb : MbS} {rl : List Nat} (h : MbR mb T rl) (hn60 : aN T ≤ 60) (hlt : ∀ x ∈ pre T r, x < aN T) {N n p : Nat} (hN : 1000 < N) (hI : WI T r D mt mx) (hn : n ∈ pre T r) (hp : p ∈ pre T r) (hs : SP T D mt n p) : Wst (WI T r D mt) (QP T n p) mx (f_Md_pass N (nI n) (nI p) mb mx) := by
  have h60 : ∀ x ∈ pre T r, x < 60 := fun x hx => by have := hlt x hx; omega
  have hnn := hlt n hn
  have hend : ∀ m, WI T r D mt m → Wst (WI T r D mt) (fun m => enX m p (2 + n) = true → enX m n 0 = true) m ((f_Md_isEnded (nI p) ((2 : Int32) + nI n) m).bind fun y58 => (if y58 = 0 then some m else ((f_Md_endBy (nI n) (0 : Int32) m).bind fun y67 => some y67))) := by
    intro m hm
    rw [show (2 : Int32) = nI 2 by decide, nI_add, st_is h60 hm hp (show 2 + n < 134 by omega)]
    simp only [Option.bind_some, b0]
    by_cases c : enX m p (2 + n) = true
    · rw [if_pos c]
      obtain ⟨q1, q2⟩ := hm.2.2.1 p hp (2 + n) (by omega) c
      obtain ⟨m', e1, e2, e3, e4⟩ := st_end h60 hm hn (show 0 < 134 by omega) (hs.2 q1 q2)
      have e1 : f_Md_endBy (nI n) 0 m = some m' := e1
      refine ⟨m', by rw [e1]; rfl, e2, e3, fun e _ => e4 e⟩
    · rw [if_neg c]
      exact Wst_pure hm (fun hh => absurd hh c)
  have key : ∀ (d w fuel : Nat) (m : MxS), w + d = 134 → 1 ≤ w → WI T r D mt m → d < fuel → Wst (WI T r D mt) (fun m => (∀ v, w ≤ v → v < 134 → enX m p v = true → v ≠ 2 + n → ¬ (v = 62 + n ∧ isLp (aS T n) = true) → enX m n v = true) ∧ (enX m p (2 + n) = true → enX m n 0 = true)) m (lp (f_Md_pass_L2 N (nI n) (nI p) mb) fuel (nI w, m)) := by
    intro d
    induction d with
    | zero =>
      intro w fuel m hw h1 hm hf
      match fuel, hf with
      | fuel + 1, _ =>
        have hun : lp (f_Md_pass_L2 N (nI n) (nI p) mb) (fuel + 1) (nI w, m) = _ := f_Md_pass_L2.eq_1 N (nI n) (nI p) mb (lp (f_Md_pass_L2 N (nI n) (nI p) mb) fuel) (nI w, m)
        rw [if_pos (show (134 : Int32) ≤ nI w by rw [show (134 : Int32) = nI 134 by decide]; exact nI_le (by omega) (by omega))] at hun
        rw [hun]
        exact Wst_mono (hend m hm) (fun hq => ⟨fun v a1 a2 => by omega, hq⟩)
    | succ d ih =>
      intro w fuel m hw h1 hm hf
      match fuel, hf with
      | fuel + 1, hf =>
        have hun : lp (f_Md_pass_L2 N (nI n) (nI p) mb) (fuel + 1) (nI w, m) = _ := f_Md_pass_L2.eq_1 N (nI n) (nI p) mb (lp (f_Md_pass_L2 N (nI n) (nI p) mb) fuel) (nI w, m)
        rw [if_neg (show ¬ (134 : Int32) ≤ nI w by rw [show (134 : Int32) = nI 134 by decide]; exact nI_ge (by omega) (by omega))] at hun
        simp only [st_is h60 hm hp (show w < 134 by omega), md_isLoop h hn60 hnn, Option.bind_some, b0, f_Md_pass_b41.eq_1, nI_1] at hun
        rw [hun]
        have skip : (enX m p w = true → w ≠ 2 + n → ¬ (w = 62 + n ∧ isLp (aS T n) = true) → enX m n w = true) → Wst (WI T r D mt) (fun m => (∀ v, w ≤ v → v < 134 → enX m p v = true → v ≠ 2 + n → ¬ (v = 62 + n ∧ isLp (aS T n) = true) → enX m n v = true) ∧ (enX m p (2 + n) = true → enX m n 0 = true)) m (lp (f_Md_pass_L2 N (nI n) (nI p) mb) fuel (nI (w + 1), m)) := by
          intro hq
          refine Wst_mono (ih (w + 1) fuel m (by omega) (by omega) hm (by omega)) (fun hh => ⟨fun v a1 a2 => ?_, hh.2⟩)
          by_cases c : v = w
          · subst c; exact hq
          · exact hh.1 v (by omega) a2
        have e2 : nI w = (2 : Int32) + nI n ↔ w = 2 + n := by rw [show (2 : Int32) = nI 2 by decide, nI_add, nI_eq (by omega) (by omega)]
        have e62 : nI w = (62 : Int32) + nI n ↔ w = 62 + n := by rw [show (62 : Int32) = nI 62 by decide, nI_add, nI_eq (by omega) (by omega)]
        have doit : enX m p w = true → w ≠ 2 + n → ¬ (w = 62 + n ∧ isLp (aS T n) = true) → Wst (WI T r D mt) (fun m => (∀ v, w ≤ v → v < 134 → enX m p v = true → v ≠ 2 + n → ¬ (v = 62 + n ∧ isLp (aS T n) = true) → enX m n v = true) ∧ (enX m p (2 + n) = true → enX m n 0 = true)) m ((f_Md_endBy (nI n) (nI w) m).bind fun y44 => lp (f_Md_pass_L2 N (nI n) (nI p) mb) fuel (nI (w + 1), y44)) := by
          intro c1 c2 c3
          obtain ⟨q1, q2⟩ := hm.2.2.1 p hp w (by omega) c1
          refine Wst_mono (Wst_bind (st_end h60 hm hn (show w < 134 by omega) (hs.1 w h1 (by omega) q1 q2 c2 c3)) (fun m' hm' => ih (w + 1) fuel m' (by omega) (by omega) hm' (by omega))) (fun hh => ⟨fun v a1 a2 => ?_, hh.2.2⟩)
          by_cases c : v = w
          · subst c; exact fun _ _ _ => hh.1
          · exact hh.2.1 v (by omega) a2
        by_cases c1 : enX m p w = true
        · rw [if_pos c1]
          by_cases c2 : w = 2 + n
          · rw [if_pos (e2.mpr c2)]
            exact skip (fun _ hh => absurd c2 hh)
          · rw [if_neg (fun hh => c2 (e2.mp hh))]
            by_cases c3 : w = 62 + n
            · rw [if_pos (e62.mpr c3)]
              by_cases c4 : isLp (aS T n) = true
              · rw [if_pos c4]
                exact skip (fun _ _ hh => absurd ⟨c3, c4⟩ hh)
              · rw [if_neg c4]
                exact doit c1 c2 (fun hh => c4 hh.2)
            · rw [if_neg (fun hh => c3 (e62.mp hh))]
              exact doit c1 c2 (fun hh => c3 hh.1)
        · rw [if_neg c1]
          exact skip (fun hh => absurd hh c1)
  rw [f_Md_pass.eq_1]
  exact key 133 1 N mx (by omega) (by omega) hI (by omega)
end W
