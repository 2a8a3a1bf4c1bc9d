/-! the class's settle: one NODE with parts -/
def flW (fl : FlS) (x : Nat) : FlS := (Fl_open fl, Fl_met fl, Fl_normal fl &&& (lbit x ^^^ (-1)), Fl_returning fl &&& (lbit x ^^^ (-1)), vp_updL (Fl_breaks fl) x 0, vp_updL (Fl_continues fl) x 0, upd (Fl_thrown fl) x 0)
def flC (fl : FlS) (x p : Nat) : FlS := (Fl_open fl ||| lbit p, Fl_met fl, Fl_normal fl, (if lb (Fl_returning fl) p = true then Fl_returning fl ||| lbit x else Fl_returning fl), vp_updL (Fl_breaks fl) x (Fl_breaks fl x ||| Fl_breaks fl p), vp_updL (Fl_continues fl) x (Fl_continues fl x ||| Fl_continues fl p), upd (Fl_thrown fl) x (Fl_thrown fl x ||| Fl_thrown fl p))
theorem fl_wipe {fl : FlS} {x : Nat} (hx : x < 60) : f_Fl_wipe (nI x) fl = some (flW fl x) := by
  rw [f_Fl_wipe.eq_1, if_pos (inB_nI hx (by decide)), if_pos (inB_nI hx (by decide)), if_pos (inB_nI hx (by decide)), nI_clamp (by omega)]; rfl
theorem fl_comeTo {fl : FlS} {x p : Nat} (hx : x < 60) (hp : p < 60) : f_Fl_comeTo (nI x) (nI p) fl = some (flC fl x p) := by
  rw [f_Fl_comeTo.eq_1, isIn_eq _ (by omega)]
  simp only [Option.bind_some, b0, f_Fl_comeTo_b35.eq_1, if_pos (inB_nI hx (show (60 : Nat) < 2 ^ 31 by decide)), if_pos (inB_nI hp (show (60 : Nat) < 2 ^ 31 by decide)), nI_clamp (show x < 2 ^ 31 by omega), nI_clamp (show p < 2 ^ 31 by omega)]
  by_cases c : lb (Fl_returning fl) p = true
  · rw [if_pos c]; unfold flC; rw [if_pos c]; rfl
  · rw [if_neg c]; unfold flC; rw [if_neg c]; rfl
/-- what may have changed while NODE x is settled: x, and what is open of l -/
def Frm (x : Nat) (l : List Nat) (fl fl' : FlS) : Prop := Fl_met fl' = Fl_met fl ∧ (∀ y, y < 64 → y ∉ l → lb (Fl_open fl') y = lb (Fl_open fl) y) ∧ (∀ y, y < 64 → y ≠ x → lb (Fl_normal fl') y = lb (Fl_normal fl) y ∧ lb (Fl_returning fl') y = lb (Fl_returning fl) y) ∧ ∀ y, y ≠ x → Fl_breaks fl' y = Fl_breaks fl y ∧ Fl_continues fl' y = Fl_continues fl y ∧ Fl_thrown fl' y = Fl_thrown fl y
theorem Frm_rfl {x : Nat} {l : List Nat} {fl : FlS} : Frm x l fl fl := ⟨rfl, fun _ _ _ => rfl, fun _ _ _ => ⟨rfl, rfl⟩, fun _ _ => ⟨rfl, rfl, rfl⟩⟩
theorem Frm_trans {x : Nat} {l1 l2 l : List Nat} {a b c : FlS} (h1 : Frm x l1 a b) (h2 : Frm x l2 b c) (e1 : ∀ y ∈ l1, y ∈ l) (e2 : ∀ y ∈ l2, y ∈ l) : Frm x l a c := by
  obtain ⟨a1, a2, a3, a4⟩ := h1
  obtain ⟨b1, b2, b3, b4⟩ := h2
  refine ⟨b1.trans a1, fun y hy hn => (b2 y hy (fun h => hn (e2 y h))).trans (a2 y hy (fun h => hn (e1 y h))), fun y hy hn => ⟨(b3 y hy hn).1.trans (a3 y hy hn).1, (b3 y hy hn).2.trans (a3 y hy hn).2⟩, fun y hn => ⟨(b4 y hn).1.trans (a4 y hn).1, (b4 y hn).2.1.trans (a4 y hn).2.1, (b4 y hn).2.2.trans (a4 y hn).2.2⟩⟩
theorem Frm_W {fl : FlS} {x : Nat} (hx : x < 60) : Frm x [] fl (flW fl x) := by
  refine ⟨rfl, fun _ _ _ => rfl, fun y hy hn => ⟨?_, ?_⟩, fun y hn => ⟨?_, ?_, ?_⟩⟩
  · show lb (Fl_normal fl &&& (lbit x ^^^ (-1))) y = _
    rw [lb_and, lb_not hy, lbit_lb (by omega)]; simp [hn]
  · show lb (Fl_returning fl &&& (lbit x ^^^ (-1))) y = _
    rw [lb_and, lb_not hy, lbit_lb (by omega)]; simp [hn]
  · show vp_updL _ _ _ _ = _; rw [updL_a, if_neg hn]
  · show vp_updL _ _ _ _ = _; rw [updL_a, if_neg hn]
  · show upd _ _ _ _ = _; rw [upd_n hn]
theorem Frm_C {fl : FlS} {x p : Nat} (hx : x < 60) (hp : p < 60) : Frm x [p] fl (flC fl x p) := by
  refine ⟨rfl, fun y hy hn => ?_, fun y hy hn => ⟨rfl, ?_⟩, fun y hn => ⟨?_, ?_, ?_⟩⟩
  · show lb (Fl_open fl ||| lbit p) y = _
    rw [lb_or, lbit_lb (by omega)]
    have : y ≠ p := fun e => hn (by simp [e])
    simp [this]
  · show lb (if lb (Fl_returning fl) p = true then Fl_returning fl ||| lbit x else Fl_returning fl) y = _
    by_cases c : lb (Fl_returning fl) p = true
    · rw [if_pos c, lb_or, lbit_lb (by omega)]; simp [hn]
    · rw [if_neg c]
  · show vp_updL _ _ _ _ = _; rw [updL_a, if_neg hn]
  · show vp_updL _ _ _ _ = _; rw [updL_a, if_neg hn]
  · show upd _ _ _ _ = _; rw [upd_n hn]
def AccD (D : Dt) (x : Nat) (l lt : List Nat) : Prop := dR D x = anO D l (dR D) ∧ (∀ t, t < 64 → dB D x t = anO D l (fun p => dB D p t)) ∧ (∀ t, t < 64 → dC D x t = anO D l (fun p => dC D p t)) ∧ ∀ k, k < 32 → dT D x k = anO D lt (fun p => dT D p k)
theorem Acc_W {fl : FlS} {x : Nat} (hx : x < 60) : AccD (flD (flW fl x)) x [] [] ∧ dN (flD (flW fl x)) x = false := by
  refine ⟨⟨?_, fun t ht => ?_, fun t ht => ?_, fun k hk => ?_⟩, ?_⟩
  · show lb (Fl_returning fl &&& (lbit x ^^^ (-1))) x = _
    rw [lb_and, lb_not (by omega), lbit_lb (by omega)]; simp [anO]
  · show lb (vp_updL _ _ _ _) t = _; rw [updL_a, if_pos rfl, lb_0]; rfl
  · show lb (vp_updL _ _ _ _) t = _; rw [updL_a, if_pos rfl, lb_0]; rfl
  · show bt (upd _ _ _ _) k = _; rw [upd_s, b_0]; rfl
  · show lb (Fl_normal fl &&& (lbit x ^^^ (-1))) x = _
    rw [lb_and, lb_not (by omega), lbit_lb (by omega)]; simp
theorem anO_snoc {D : Dt} {l : List Nat} {p : Nat} {f : Nat → Bool} : anO D (l ++ [p]) f = (anO D l f || (dO D p && f p)) := by
  unfold anO; rw [List.any_append]; simp
theorem Acc_C {fl : FlS} {x p : Nat} {l lt : List Nat} (hx : x < 60) (hp : p < 60) (hpx : p ≠ x) (hpl : p ∉ l) (hxl : x ∉ l) (hlt : ∀ q ∈ lt, q ∈ l) (h60 : ∀ q ∈ l, q < 60) (h : AccD (flD fl) x l lt) : AccD (flD (flC fl x p)) x (l ++ [p]) (lt ++ [p]) ∧ dO (flD (flC fl x p)) p = true := by
  obtain ⟨f1, f2, f3, f4⟩ := Frm_C (fl := fl) hx hp
  obtain ⟨a1, a2, a3, a4⟩ := h
  have ho : ∀ q ∈ l, dO (flD (flC fl x p)) q = dO (flD fl) q := fun q hq => f2 q (by have := h60 q hq; omega) (fun e => hpl (by simp at e; rw [← e]; exact hq))
  have hop : dO (flD (flC fl x p)) p = true := by
    show lb (Fl_open fl ||| lbit p) p = true
    rw [lb_or, lbit_lb (by omega)]; simp
  have hne : ∀ q ∈ l, q ≠ x := fun q hq e => hxl (e ▸ hq)
  refine ⟨⟨?_, fun t ht => ?_, fun t ht => ?_, fun k hk => ?_⟩, hop⟩
  · rw [anO_snoc, hop, anO_cg (D' := flD (flC fl x p)) (D := flD fl) (f := dR (flD (flC fl x p))) (g := dR (flD fl)) ho (fun q hq => (f3 q (by have := h60 q hq; omega) (hne q hq)).2), ← a1]
    show lb (if lb (Fl_returning fl) p = true then Fl_returning fl ||| lbit x else Fl_returning fl) x = (lb (Fl_returning fl) x || (true && lb (Fl_returning (flC fl x p)) p))
    rw [(f3 p (by omega) hpx).2]
    by_cases c : lb (Fl_returning fl) p = true
    · rw [if_pos c, lb_or, lbit_lb (by omega), c]; simp
    · rw [if_neg c]
      have c : lb (Fl_returning fl) p = false := by simpa using c
      rw [c]; simp
  · rw [anO_snoc, hop, anO_cg (D' := flD (flC fl x p)) (D := flD fl) (g := fun p => dB (flD fl) p t) ho (fun q hq => by show lb (Fl_breaks (flC fl x p) q) t = _; rw [(f4 q (hne q hq)).1]; rfl), ← a2 t ht]
    show lb (vp_updL _ _ _ _) t = (_ || (true && lb (Fl_breaks (flC fl x p) p) t))
    rw [(f4 p hpx).1, updL_a, if_pos rfl, lb_or]; rfl
  · rw [anO_snoc, hop, anO_cg (D' := flD (flC fl x p)) (D := flD fl) (g := fun p => dC (flD fl) p t) ho (fun q hq => by show lb (Fl_continues (flC fl x p) q) t = _; rw [(f4 q (hne q hq)).2.1]; rfl), ← a3 t ht]
    show lb (vp_updL _ _ _ _) t = (_ || (true && lb (Fl_continues (flC fl x p) p) t))
    rw [(f4 p hpx).2.1, updL_a, if_pos rfl, lb_or]; rfl
  · rw [anO_snoc, hop, anO_cg (D' := flD (flC fl x p)) (D := flD fl) (g := fun p => dT (flD fl) p k) (fun q hq => ho q (hlt q hq)) (fun q hq => by show bt (Fl_thrown (flC fl x p) q) k = _; rw [(f4 q (hne q (hlt q hq))).2.2]; rfl), ← a4 k hk]
    show bt (upd _ _ _ _) k = (_ || (true && bt (Fl_thrown (flC fl x p) p) k))
    rw [(f4 p hpx).2.2, upd_s, b_or]; rfl
theorem Acc_skip {D : Dt} {x p : Nat} {l lt : List Nat} (h : AccD D x l lt) (hp : dO D p = false) : AccD D x (l ++ [p]) (lt ++ [p]) := by
  obtain ⟨a1, a2, a3, a4⟩ := h
  refine ⟨?_, fun t ht => ?_, fun t ht => ?_, fun k hk => ?_⟩
  · rw [anO_snoc, hp, a1]; simp
  · rw [anO_snoc, hp, a2 t ht]; simp
  · rw [anO_snoc, hp, a3 t ht]; simp
  · rw [anO_snoc, hp, a4 k hk]; simp
theorem srt17 {T : AT} {K m : Nat} (h : shp T K m) : aS T m = 0 ∨ aS T m = 1 ∨ aS T m = 2 ∨ aS T m = 3 ∨ aS T m = 4 ∨ aS T m = 5 ∨ aS T m = 6 ∨ aS T m = 7 ∨ aS T m = 8 ∨ aS T m = 9 ∨ aS T m = 10 ∨ aS T m = 11 ∨ aS T m = 12 ∨ aS T m = 13 ∨ aS T m = 14 ∨ aS T m = 15 ∨ aS T m = 16 := by
  obtain ⟨s, hs, e⟩ := h.1
  rw [e]
  exact (by decide +kernel : ∀ s, s < 17 → (nI s = 0 ∨ nI s = 1 ∨ nI s = 2 ∨ nI s = 3 ∨ nI s = 4 ∨ nI s = 5 ∨ nI s = 6 ∨ nI s = 7 ∨ nI s = 8 ∨ nI s = 9 ∨ nI s = 10 ∨ nI s = 11 ∨ nI s = 12 ∨ nI s = 13 ∨ nI s = 14 ∨ nI s = 15 ∨ nI s = 16)) s (by omega)
theorem fl_test {tr : TrS} {T : AT} {ks : List Nat} {fs : Nat → Nat} {rl : List Nat} (h : TrR tr T ks fs rl) {x : Nat} (hx : x < aN T) (v : Bool) : (bif v then f_Bw_testOfIf (nI x) tr else f_Br_testOfIf (nI x)) = some (tIf v T x) := by
  have hn := h.2.1
  cases v
  · rfl
  · show f_Bw_testOfIf (nI x) tr = some (aV T x)
    rw [f_Bw_testOfIf.eq_1, if_pos (inB_nI (by omega) (by decide)), nI_clamp (by omega), (h.2.2.2.1 x hx).2.1]
theorem tr_testOf {tr : TrS} {T : AT} {ks : List Nat} {fs : Nat → Nat} {rl : List Nat} (h : TrR tr T ks fs rl) {x : Nat} (hx : x < aN T) : f_Tr_testOf (nI x) tr = some (tOf T x) := by
  have hn := h.2.1
  rw [f_Tr_testOf.eq_1, if_pos (inB_nI (by omega) (by decide)), if_pos (inB_nI (by omega) (by decide)), nI_clamp (by omega), (h.2.2.2.1 x hx).2.1]
  unfold tOf
  by_cases c : aV T x = 3
  · rw [if_pos c, if_pos c]
  · rw [if_neg c, if_neg c]
theorem nI_z {i : Nat} (h : i < 2 ^ 31) : nI i = 0 ↔ i = 0 := by rw [show (0 : Int32) = nI 0 by decide, nI_eq h (by decide)]
theorem fl_opens {tr : TrS} {T : AT} {ks : List Nat} {fs : Nat → Nat} {rl : List Nat} (h : TrR tr T ks fs rl) {K x p i : Nat} (hx : x < aN T) (hs : shp T K x) (hp : p < aN T) (hi : i < 60) (v b : Bool) : f_Fl_opensPart v (nI x) (nI p) (nI i) (bi b) tr = some (bi (opn v T x i p b)) := by
  have hn := h.2.1
  rw [f_Fl_opensPart.eq_1, if_pos (inB_nI (by omega) (by decide)), if_pos (inB_nI (by omega) (by decide)), nI_clamp (show x < 2 ^ 31 by omega), nI_clamp (show p < 2 ^ 31 by omega), (h.2.2.2.1 x hx).1, (h.2.2.2.1 p hp).2.2.1, fl_test h hx, f_Fl_opensPart_b100.eq_1, tr_testOf h hx]
  simp only [Option.bind_some, b0, b0', f_Fl_opensPart_b91.eq_1]
  unfold opn
  rcases srt17 hs with e | e | e | e | e | e | e | e | e | e | e | e | e | e | e | e | e
  case inr.inr.inr.inr.inl =>
    simp only [e, if_true]
    by_cases c2 : tIf v T x = 2
    · rw [if_pos c2]; simp [c2, bi]
    · rw [if_neg c2]
      by_cases c0 : i = 0
      · rw [if_pos ((nI_z (by omega)).mpr c0)]
        by_cases c1 : tIf v T x = 1 <;> simp [c0, c1, bi]
        exact c2
      · rw [if_neg (fun e => c0 ((nI_z (by omega)).mp e))]
        by_cases c1 : tIf v T x = 0 <;> simp [c0, c1, bi]
        exact c2
  case inr.inr.inr.inr.inr.inl => simp [e, bi]; by_cases c : tOf T x = 0 <;> simp [c]
  case inr.inr.inr.inr.inr.inr.inr.inl => simp [e, bi]; by_cases c : tOf T x = 0 <;> simp [c]
  case inr.inr.inr.inr.inr.inr.inr.inr.inr.inr.inr.inr.inr.inr.inl =>
    simp only [e]
    cases b <;> by_cases c : aM T p = 0 <;> simp [c, bi]
  all_goals simp [e, bi]
theorem fl_some {tr : TrS} {T : AT} {ks : List Nat} {fs : Nat → Nat} {rl : List Nat} (h : TrR tr T ks fs rl) (hw : WT T) {x : Nat} (hx : x < aN T) (fl : FlS) : f_Fl_somePartGoesOn (nI x) fl tr = some (bi (anO (flD fl) (aP T x) (dN (flD fl)))) := by
  have hn := h.2.1
  have a6 := (h.2.2.2.1 x hx).2.2.2.2.2.1
  rw [f_Fl_somePartGoesOn.eq_1, if_pos (inB_nI (by omega) (by decide)), nI_clamp (by omega)]
  by_cases c : anO (flD fl) (aP T x) (dN (flD fl)) = true
  · rw [if_neg, c]
    · rfl
    · intro hh
      rw [nl_0] at hh
      obtain ⟨p, hp, ho, hN⟩ := anO_iff.mp c
      have hp2 := hw.1 x hx p hp
      have := hh p (by omega)
      rw [lb_and, lb_and, a6 p (by omega), decide_eq_true hp] at this
      have ho : lb (Fl_open fl) p = true := ho
      have hN : lb (Fl_normal fl) p = true := hN
      rw [ho, hN] at this
      cases this
  · have c' : anO (flD fl) (aP T x) (dN (flD fl)) = false := by simpa using c
    rw [if_pos, c']
    · rfl
    · rw [nl_0]
      intro i hi
      rw [lb_and, lb_and, a6 i hi]
      by_cases hm : i ∈ aP T x
      · by_cases ho : lb (Fl_open fl) i = true
        · by_cases hN : lb (Fl_normal fl) i = true
          · exact absurd (anO_iff.mpr ⟨i, hm, ho, hN⟩) c
          · simp [hN]
        · simp [ho]
      · simp [hm]
theorem tr_hasDefault {tr : TrS} {x : Nat} (hx : x < 60) : f_Tr_hasDefault (nI x) tr = some (bi (lb (Tr_defaults tr) x)) := by
  rw [f_Tr_hasDefault.eq_1, isIn_eq _ (by omega)]; exact b0'
theorem fl_past {tr : TrS} {T : AT} {ks : List Nat} {fs : Nat → Nat} {rl : List Nat} (h : TrR tr T ks fs rl) (hw : WT T) {K x : Nat} (hx : x < aN T) (hs : shp T K x) (hdf : lb (Tr_defaults tr) x = dfB T x) (htl : tlR T x (Tr_tail tr x)) (v : Bool) (fl : FlS) (hC : dC (flD fl) x x = anO (flD fl) (aP T x) (fun p => dC (flD fl) p x)) : f_Fl_goesPast v (nI x) (bi (gob (flD fl) (aP T x) (aP T x).length)) fl tr = some (bi (gpa v T (flD fl) x)) := by
  have hn := h.2.1
  have hlen : (aP T x).length ≤ 60 := nodup_le (hw.2.1 x hx) (fun p hp => by have := hw.1 x hx p hp; omega)
  have hC : lb (Fl_continues fl x) x = _ := hC
  have a5 := (h.2.2.2.1 x hx).2.2.2.2.1
  have e1 : nI (aP T x).length = 1 ↔ (aP T x).length = 1 := by rw [show (1 : Int32) = nI 1 by decide, nI_eq (by omega) (by decide)]
  rw [f_Fl_goesPast.eq_1, if_pos (inB_nI (by omega) (by decide)), if_pos (inB_nI (by omega) (by decide)), if_pos (inB_nI (by omega) (by decide)), if_pos (inB_nI (by omega) (by decide)), nI_clamp (show x < 2 ^ 31 by omega), (h.2.2.2.1 x hx).1, a5, fl_test h hx, f_Fl_goesPast_b94.eq_1, f_Fl_goesPast_b108.eq_1, f_Fl_goesPast_b227.eq_1, tr_testOf h hx, fl_some h hw hx, tr_hasDefault (by omega), hdf, isIn_eq _ (by omega), hC]
  simp only [Option.bind_some, b0, b0']
  unfold gpa
  rcases srt17 hs with e | e | e | e | e | e | e | e | e | e | e | e | e | e | e | e | e
  case inr.inr.inr.inr.inl =>
    simp only [e, if_true]
    by_cases c1 : (aP T x).length = 1
    · rw [if_pos (e1.mpr c1)]
      by_cases c2 : tIf v T x = 1
      · rw [if_pos c2]; cases anO (flD fl) (aP T x) (dN (flD fl)) <;> simp [c1, c2, bi]
      · rw [if_neg c2]; simp [c1, c2, bi]
    · rw [if_neg (fun hh => c1 (e1.mp hh))]; cases anO (flD fl) (aP T x) (dN (flD fl)) <;> simp [c1, bi]
  case inr.inr.inr.inr.inr.inl => simp [e]; by_cases c : tOf T x = 1 <;> simp [c, bi]
  case inr.inr.inr.inr.inr.inr.inl =>
    simp [e]
    by_cases c : tOf T x = 1
    · simp [c, bi]
    · cases anO (flD fl) (aP T x) (dN (flD fl)) <;> cases anO (flD fl) (aP T x) (fun p => dC (flD fl) p x) <;> simp [c, bi]
  case inr.inr.inr.inr.inr.inr.inr.inl => simp [e]; by_cases c : tOf T x = 1 <;> simp [c, bi]
  case inr.inr.inr.inr.inr.inr.inr.inr.inr.inr.inr.inr.inr.inr.inl =>
    rw [htl.1 e]
    simp [e]
    cases dfB T x <;> by_cases c : aE T x = 0 <;> cases gob (flD fl) (aP T x) (aP T x).length <;> simp [c, bi]
  case inr.inr.inr.inr.inr.inr.inr.inr.inr.inr.inr.inr.inr.inr.inr.inl =>
    simp [e]
    cases dfB T x <;> cases anO (flD fl) (aP T x) (dN (flD fl)) <;> simp [bi]
  all_goals simp [e, bi]
/-- the end of a NODE with parts -/
def flE (fl : FlS) (x : Nat) (n : Bool) : FlS := (Fl_open fl, Fl_met fl, (if n = true then Fl_normal fl ||| lbit x else Fl_normal fl), Fl_returning fl, vp_updL (Fl_breaks fl) x (Fl_breaks fl x &&& (lbit x ^^^ (-1))), vp_updL (Fl_continues fl) x (Fl_continues fl x &&& (lbit x ^^^ (-1))), Fl_thrown fl)
theorem Frm_E {fl : FlS} {x : Nat} {n : Bool} (hx : x < 60) : Frm x [] fl (flE fl x n) := by
  refine ⟨rfl, fun _ _ _ => rfl, fun y hy hn => ⟨?_, rfl⟩, fun y hn => ⟨?_, ?_, rfl⟩⟩
  · show lb (if n = true then Fl_normal fl ||| lbit x else Fl_normal fl) y = _
    cases n
    · rfl
    · show lb (Fl_normal fl ||| lbit x) y = _
      rw [lb_or, lbit_lb (by omega)]; simp [hn]
  · show vp_updL _ _ _ _ = _; rw [updL_a, if_neg hn]
  · show vp_updL _ _ _ _ = _; rw [updL_a, if_neg hn]
theorem fl_b111 {fl : FlS} {tr : TrS} {v : Bool} {N x : Nat} (hx : x < 60) : f_Fl_settleWhole_b111 v N (nI x) fl tr = some (flE fl x false) := by
  rw [f_Fl_settleWhole_b111.eq_1, if_pos (inB_nI hx (by decide)), if_pos (inB_nI hx (by decide)), if_pos (inB_nI hx (by decide)), if_pos (inB_nI hx (by decide)), nI_clamp (by omega)]; rfl
theorem fl_b99 {fl : FlS} {tr : TrS} {v : Bool} {N x : Nat} (hx : x < 60) : f_Fl_settleWhole_b99 v N (nI x) fl tr = some (flE fl x true) := by
  rw [f_Fl_settleWhole_b99.eq_1, fl_b111 hx]; rfl
theorem gob_le {D D' : Dt} {l s : List Nat} (c0 : ∀ p ∈ l, dO D' p = dO D p) (c1 : ∀ p ∈ l, dN D' p = dN D p) (i : Nat) (hi : i ≤ l.length) : gob D' (l ++ s) i = gob D (l ++ s) i := by
  cases i with
  | zero => rfl
  | succ i =>
    show (match (l ++ s)[i]? with | none => true | some q => dO D' q && dN D' q) = (match (l ++ s)[i]? with | none => true | some q => dO D q && dN D q)
    rw [List.getElem?_append_left (by omega)]
    cases hg : l[i]? with
    | none => rfl
    | some q =>
      have hq := List.mem_of_getElem? hg
      show (dO D' q && dN D' q) = _
      rw [c0 q hq, c1 q hq]
theorem gob_at {D : Dt} {l s : List Nat} {p : Nat} : gob D (l ++ p :: s) (l.length + 1) = (dO D p && dN D p) := by
  show (match (l ++ p :: s)[l.length]? with | none => true | some q => dO D q && dN D q) = _
  rw [List.getElem?_append_right (Nat.le_refl _)]; simp
theorem fl_loop {tr : TrS} {T : AT} {ks : List Nat} {fs : Nat → Nat} {rl : List Nat} (h : TrR tr T ks fs rl) (hw : WT T) {K N x : Nat} (hx : x < aN T) (hs : shp T K x) (hdf : lb (Tr_defaults tr) x = dfB T x) (htl : tlR T x (Tr_tail tr x)) {v : Bool} : ∀ (s l : List Nat) (fl : FlS) (fuel : Nat), aP T x = l ++ s → AccD (flD fl) x l l → (∀ (i p : Nat), l[i]? = some p → dO (flD fl) p = opn v T x i p (gob (flD fl) (aP T x) i)) → (∀ p ∈ s, dO (flD fl) p = false) → dN (flD fl) x = false → s.length < fuel →
    ∃ fl', lp (f_Fl_settleWhole_L4 v N (nI x) tr) fuel (bi (gob (flD fl) (aP T x) l.length), nI l.length, fl) = some fl' ∧ WhAt v T (flD fl') x ∧ Frm x (aP T x) fl fl' := by
  have hn := h.2.1
  have hlen : (aP T x).length ≤ 60 := nodup_le (hw.2.1 x hx) (fun p hp => by have := hw.1 x hx p hp; omega)
  have a5 := (h.2.2.2.1 x hx).2.2.2.2.1
  have hpx : ∀ p ∈ aP T x, p ≠ x ∧ p < 60 := fun p hp => by have := hw.1 x hx p hp; omega
  intro s
  induction s with
  | nil =>
    intro l fl fuel hl hA hO _ hN hf
    rw [List.append_nil] at hl
    subst hl
    match fuel, hf with
    | fuel + 1, _ =>
      have hgp := fl_past h hw hx hs hdf htl v fl (hA.2.2.1 x (by omega))
      have hbx : lb (Fl_breaks fl x) x = anO (flD fl) (aP T x) (fun p => dB (flD fl) p x) := hA.2.1 x (by omega)
      have key : f_Fl_settleWhole_L4 v N (nI x) tr (lp (f_Fl_settleWhole_L4 v N (nI x) tr) fuel) (bi (gob (flD fl) (aP T x) (aP T x).length), nI (aP T x).length, fl) = some (flE fl x (gpa v T (flD fl) x || anO (flD fl) (aP T x) (fun p => dB (flD fl) p x))) := by
        rw [f_Fl_settleWhole_L4.eq_1]
        show (if inB (nI x) 60 = true then (if Tr_count tr (nI x).toNatClampNeg ≤ nI (aP T x).length then ((f_Fl_goesPast v (nI x) (bi (gob (flD fl) (aP T x) (aP T x).length)) fl tr).bind fun y80 => (if y80 = 0 then (if inB (nI x) 60 = true then ((f_Rf_isIn (Fl_breaks fl (nI x).toNatClampNeg) (nI x)).bind fun y93 => (if y93 = 0 then f_Fl_settleWhole_b111 v N (nI x) fl tr else f_Fl_settleWhole_b99 v N (nI x) fl tr)) else none) else f_Fl_settleWhole_b99 v N (nI x) fl tr)) else _) else none) = _
        rw [if_pos (inB_nI (by omega) (by decide)), if_pos (inB_nI (by omega) (by decide)), nI_clamp (by omega), a5, if_pos (nI_le (Nat.le_refl _) (by omega)), hgp, isIn_eq _ (by omega), hbx, fl_b111 (by omega), fl_b99 (by omega)]
        simp only [Option.bind_some, b0]
        cases gpa v T (flD fl) x <;> cases anO (flD fl) (aP T x) (fun p => dB (flD fl) p x) <;> rfl
      refine ⟨_, key, ?_, Frm_trans (Frm_rfl (l := [])) (Frm_E (by omega)) (by simp) (by simp)⟩
      obtain ⟨f1, f2, f3, f4⟩ := Frm_E (fl := fl) (x := x) (n := gpa v T (flD fl) x || anO (flD fl) (aP T x) (fun p => dB (flD fl) p x)) (by omega)
      obtain ⟨a1, a2, a3, a4⟩ := hA
      have c0 : ∀ p ∈ aP T x, dO (flD (flE fl x (gpa v T (flD fl) x || anO (flD fl) (aP T x) (fun p => dB (flD fl) p x)))) p = dO (flD fl) p := fun p _ => rfl
      have c1 : ∀ p ∈ aP T x, dN (flD (flE fl x (gpa v T (flD fl) x || anO (flD fl) (aP T x) (fun p => dB (flD fl) p x)))) p = dN (flD fl) p := fun p hp => (f3 p (by have := hpx p hp; omega) (hpx p hp).1).1
      have c3 : ∀ p ∈ aP T x, ∀ y, dB (flD (flE fl x (gpa v T (flD fl) x || anO (flD fl) (aP T x) (fun p => dB (flD fl) p x)))) p y = dB (flD fl) p y := fun p hp y => by
        show lb (Fl_breaks (flE fl x _) p) y = lb (Fl_breaks fl p) y
        rw [(f4 p (hpx p hp).1).1]
      have c4 : ∀ p ∈ aP T x, ∀ y, dC (flD (flE fl x (gpa v T (flD fl) x || anO (flD fl) (aP T x) (fun p => dB (flD fl) p x)))) p y = dC (flD fl) p y := fun p hp y => by
        show lb (Fl_continues (flE fl x _) p) y = lb (Fl_continues fl p) y
        rw [(f4 p (hpx p hp).1).2.1]
      refine ⟨?_, ?_, ?_, ?_, ?_, ?_⟩
      · intro i p hp
        rw [gob_cg c0 c1]; exact hO i p hp
      · exact a1
      · intro y hy
        rw [anO_cg c0 (fun p hp => c3 p hp y), ← a2 y hy]
        show lb (vp_updL _ _ _ _) y = _
        rw [updL_a, if_pos rfl, lb_and, lb_not hy, lbit_lb (by omega), Bool.and_comm]; rfl
      · intro y hy
        rw [anO_cg c0 (fun p hp => c4 p hp y), ← a3 y hy]
        show lb (vp_updL _ _ _ _) y = _
        rw [updL_a, if_pos rfl, lb_and, lb_not hy, lbit_lb (by omega), Bool.and_comm]; rfl
      · exact a4
      · rw [gpa_cg c0 c1 (fun p hp => c4 p hp x), anO_cg c0 (fun p hp => c3 p hp x)]
        show lb (if (gpa v T (flD fl) x || anO (flD fl) (aP T x) (fun p => dB (flD fl) p x)) = true then Fl_normal fl ||| lbit x else Fl_normal fl) x = _
        have hN : lb (Fl_normal fl) x = false := hN
        by_cases c : (gpa v T (flD fl) x || anO (flD fl) (aP T x) (fun p => dB (flD fl) p x)) = true
        · rw [if_pos c, c, lb_or, lbit_lb (by omega)]; simp
        · rw [if_neg c, hN]; simpa using c
  | cons p s ih =>
    intro l fl fuel hl hA hO hS hN hf
    have hp : p ∈ aP T x := by rw [hl]; simp
    have hll : l.length < (aP T x).length := by rw [hl]; simp
    have hpl : p ∉ l := by
      have := hw.2.1 x hx
      rw [hl, List.nodup_append] at this
      intro hh; exact this.2.2 p hh p List.mem_cons_self rfl
    have hps : p ∉ s := by
      have := hw.2.1 x hx
      rw [hl, List.nodup_append] at this
      exact (List.nodup_cons.mp this.2.1).1
    have hlx : ∀ q ∈ l, q ≠ x ∧ q < 60 := fun q hq => hpx q (by rw [hl]; simp [hq])
    have hl2 : aP T x = (l ++ [p]) ++ s := by rw [hl]; simp
    have e1 : (l ++ [p]).length = l.length + 1 := by simp
    match fuel, hf with
    | fuel + 1, hf =>
      rw [show lp (f_Fl_settleWhole_L4 v N (nI x) tr) (fuel + 1) (bi (gob (flD fl) (aP T x) l.length), nI l.length, fl) = f_Fl_settleWhole_L4 v N (nI x) tr (lp (f_Fl_settleWhole_L4 v N (nI x) tr) fuel) (bi (gob (flD fl) (aP T x) l.length), nI l.length, fl) from rfl, f_Fl_settleWhole_L4.eq_1]
      show ∃ fl', (if inB (nI x) 60 = true then (if Tr_count tr (nI x).toNatClampNeg ≤ nI l.length then _ else ((f_Tr_kid (nI x) (nI l.length) tr).bind fun y23 => ((f_Fl_opensPart v (nI x) y23 (nI l.length) (bi (gob (flD fl) (aP T x) l.length)) tr).bind fun y34 => (if y34 = 0 then f_Fl_settleWhole_b51 v N (lp (f_Fl_settleWhole_L4 v N (nI x) tr) fuel) (nI x) (nI l.length) y23 y34 fl tr else ((f_Fl_comeTo (nI x) y23 fl).bind fun y48 => f_Fl_settleWhole_b51 v N (lp (f_Fl_settleWhole_L4 v N (nI x) tr) fuel) (nI x) (nI l.length) y23 y34 y48 tr))))) else none) = _ ∧ _
      rw [if_pos (inB_nI (by omega) (by decide)), nI_clamp (by omega), a5, if_neg (nI_ge hll (by omega)), tr_kid h hx (i := l.length) (p := p) (by rw [hl]; simp)]
      simp only [Option.bind_some]
      rw [fl_opens h hx hs (by have := hw.1 x hx p hp; omega) (by omega), fl_comeTo (by omega) (hpx p hp).2]
      simp only [Option.bind_some, b0]
      by_cases co : opn v T x l.length p (gob (flD fl) (aP T x) l.length) = true
      · rw [if_pos co, co, f_Fl_settleWhole_b51.eq_1, if_neg (by decide), fl_normal _ (hpx p hp).2]
        simp only [Option.bind_some, b0, f_Fl_settleWhole_b69.eq_1, f_Fl_settleWhole_b70.eq_1]
        obtain ⟨f1, f2, f3, f4⟩ := Frm_C (fl := fl) (x := x) (p := p) (by omega) (hpx p hp).2
        obtain ⟨A1, A2⟩ := Acc_C (fl := fl) (x := x) (p := p) (l := l) (lt := l) (by omega) (hpx p hp).2 (hpx p hp).1 hpl (fun hh => (hlx x hh).1 rfl) (fun q hq => hq) (fun q hq => (hlx q hq).2) hA
        have c0 : ∀ q ∈ l, dO (flD (flC fl x p)) q = dO (flD fl) q := fun q hq => f2 q (by have := (hlx q hq).2; omega) (fun e => hpl (by simp at e; rw [← e]; exact hq))
        have c1 : ∀ q ∈ l, dN (flD (flC fl x p)) q = dN (flD fl) q := fun q hq => rfl
        obtain ⟨fl', g1, g2, g3⟩ := ih (l ++ [p]) (flC fl x p) fuel hl2 A1 (by
          intro i q hq
          by_cases hi : i < l.length
          · rw [List.getElem?_append_left hi] at hq
            have hql := List.mem_of_getElem? hq
            rw [c0 q hql, hO i q hq, hl, gob_le c0 c1 i (by omega)]
          · rw [List.getElem?_append_right (by omega)] at hq
            have hlt := (List.getElem?_eq_some_iff.mp hq).1
            simp at hlt
            have hi2 : i = l.length := by omega
            subst hi2
            simp at hq
            subst hq
            rw [A2, ← co, hl, gob_le c0 c1 l.length (Nat.le_refl _)]) (by
          intro q hq
          have hqs : q ∈ aP T x := by rw [hl]; simp [hq]
          rw [show dO (flD (flC fl x p)) q = dO (flD fl) q from f2 q (by have := (hpx q hqs).2; omega) (fun e => by simp at e; subst e; exact hps hq)]
          exact hS q (List.mem_cons_of_mem _ hq)) hN (by simpa using hf)
        refine ⟨fl', ?_, g2, Frm_trans (Frm_C (by omega) (hpx p hp).2) g3 (fun y hy => by simp at hy; subst hy; exact hp) (fun y hy => hy)⟩
        rw [← g1, e1, nI_1, hl, gob_at, A2]
        show (if lb (Fl_normal (flC fl x p)) p = true then _ else _) = lp _ fuel (bi (true && lb (Fl_normal (flC fl x p)) p), _)
        rw [Bool.true_and]
        cases lb (Fl_normal (flC fl x p)) p <;> rfl
      · have co' : opn v T x l.length p (gob (flD fl) (aP T x) l.length) = false := by simpa using co
        rw [if_neg co, co', f_Fl_settleWhole_b51.eq_1, if_pos (by decide), f_Fl_settleWhole_b69.eq_1, f_Fl_settleWhole_b70.eq_1]
        have hop := hS p List.mem_cons_self
        obtain ⟨fl', g1, g2, g3⟩ := ih (l ++ [p]) fl fuel hl2 (Acc_skip hA hop) (by
          intro i q hq
          by_cases hi : i < l.length
          · rw [List.getElem?_append_left hi] at hq
            exact hO i q hq
          · rw [List.getElem?_append_right (by omega)] at hq
            have hlt := (List.getElem?_eq_some_iff.mp hq).1
            simp at hlt
            have hi2 : i = l.length := by omega
            subst hi2
            simp at hq
            subst hq
            rw [hop, co']) (fun q hq => hS q (List.mem_cons_of_mem _ hq)) hN (by simpa using hf)
        refine ⟨fl', ?_, g2, g3⟩
        rw [← g1, e1, nI_1, hl, gob_at, hop]; rfl
theorem fl_settleWhole {tr : TrS} {T : AT} {ks : List Nat} {fs : Nat → Nat} {rl : List Nat} (h : TrR tr T ks fs rl) (hw : WT T) {K N x : Nat} (hN : 100 < N) (hx : x < aN T) (hs : shp T K x) (hdf : lb (Tr_defaults tr) x = dfB T x) (htl : tlR T x (Tr_tail tr x)) {v : Bool} {fl : FlS} (hO : ∀ p ∈ aP T x, lb (Fl_open fl) p = false) : ∃ fl', f_Fl_settleWhole v N (nI x) (flW fl x) tr = some fl' ∧ WhAt v T (flD fl') x ∧ Frm x (aP T x) fl fl' := by
  have hn := h.2.1
  have hlen : (aP T x).length ≤ 60 := nodup_le (hw.2.1 x hx) (fun p hp => by have := hw.1 x hx p hp; omega)
  obtain ⟨A1, A2⟩ := Acc_W (fl := fl) (x := x) (by omega)
  obtain ⟨fl', g1, g2, g3⟩ := fl_loop h hw (N := N) hx hs hdf htl (v := v) (aP T x) [] (flW fl x) N rfl A1 (fun i p hp => by simp at hp) (fun p hp => hO p hp) A2 (by omega)
  refine ⟨fl', ?_, g2, Frm_trans (Frm_W (by omega)) g3 (by simp) (fun y hy => hy)⟩
  rw [f_Fl_settleWhole.eq_1, ← g1]; rfl
