theorem fl_somehow {fl : FlS} {x : Nat} (hx : x < 60) : f_Fl_endsSomehow (nI x) fl = some (bi (dN (flD fl) x || dR (flD fl) x || (List.range 64).any (fun y => dB (flD fl) x y) || (List.range 64).any (fun y => dC (flD fl) x y) || (List.range 32).any (fun k => dT (flD fl) x k))) := by
  rw [f_Fl_endsSomehow.eq_1, isIn_eq _ (by omega), lb_or]
  simp only [Option.bind_some, b0, if_pos (inB_nI hx (show (60 : Nat) < 2 ^ 31 by decide)), nI_clamp (show x < 2 ^ 31 by omega)]
  show (if (dN (flD fl) x || dR (flD fl) x) = true then _ else _) = _
  have hz : lg_cmp ((Fl_breaks fl x ||| Fl_continues fl x) ||| (Fl_thrown fl x).toInt64) 0 = 0 ↔ ((List.range 64).any (fun y => dB (flD fl) x y) || (List.range 64).any (fun y => dC (flD fl) x y) || (List.range 32).any (fun k => dT (flD fl) x k)) = false := by
    rw [nl_0, Bool.or_eq_false_iff, Bool.or_eq_false_iff, List.any_eq_false, List.any_eq_false, List.any_eq_false]
    constructor
    · intro hh
      refine ⟨⟨fun y hy => ?_, fun y hy => ?_⟩, fun k hk => ?_⟩
      · have := hh y (List.mem_range.mp hy)
        rw [lb_or, lb_or, Bool.or_eq_false_iff, Bool.or_eq_false_iff] at this
        show ¬ lb (Fl_breaks fl x) y = true
        rw [this.1.1]; decide
      · have := hh y (List.mem_range.mp hy)
        rw [lb_or, lb_or, Bool.or_eq_false_iff, Bool.or_eq_false_iff] at this
        show ¬ lb (Fl_continues fl x) y = true
        rw [this.1.2]; decide
      · have hk := List.mem_range.mp hk
        have := hh k (by omega)
        rw [lb_or, lb_or, Bool.or_eq_false_iff, Bool.or_eq_false_iff, lb_int _ hk] at this
        show ¬ bt (Fl_thrown fl x) k = true
        rw [this.2]; decide
    · intro ⟨⟨h1, h2⟩, h3⟩ i hi
      have e3 : ∀ k, k < 32 → dT (flD fl) x k = false := fun k hk => by simpa using h3 k (List.mem_range.mpr hk)
      have e : Fl_thrown fl x = 0 := i_0.mpr e3
      have q1 := h1 i (List.mem_range.mpr hi)
      have q2 := h2 i (List.mem_range.mpr hi)
      have q1' : dB (flD fl) x i = false := by simpa using q1
      have q1 : lb (Fl_breaks fl x) i = false := q1'
      have q2' : dC (flD fl) x i = false := by simpa using q2
      have q2 : lb (Fl_continues fl x) i = false := q2'
      rw [lb_or, lb_or, q1, q2, e, show (0 : Int32).toInt64 = 0 by decide, lb_0]; rfl
  cases hnr : (dN (flD fl) x || dR (flD fl) x)
  · by_cases c : ((List.range 64).any (fun y => dB (flD fl) x y) || (List.range 64).any (fun y => dC (flD fl) x y) || (List.range 32).any (fun k => dT (flD fl) x k)) = true
    · rw [if_neg (by decide), if_neg (fun hh => by rw [hz.mp hh] at c; cases c), Bool.false_or, c]; rfl
    · have c : ((List.range 64).any (fun y => dB (flD fl) x y) || (List.range 64).any (fun y => dC (flD fl) x y) || (List.range 32).any (fun k => dT (flD fl) x k)) = false := by simpa using c
      rw [if_neg (by decide), if_pos (hz.mpr c), Bool.false_or, c]; rfl
  · simp [bi]
/-- BODY and CATCHES are settled: how the TRY ends till now -/
def PreT (K : Nat) (T : AT) (B : Nat → Nat → Bool) (D : Dt) (x b : Nat) (cs : List Nat) : Prop := dN D x = anO D (b :: cs) (dN D) ∧ dR D x = anO D (b :: cs) (dR D) ∧ (∀ t, t < 64 → dB D x t = anO D (b :: cs) (fun p => dB D p t)) ∧ (∀ t, t < 64 → dC D x t = anO D (b :: cs) (fun p => dC D p t)) ∧ ∀ k, k < 32 → dT D x k = pTh K T B D b cs k
theorem tryE_pre {K : Nat} {T : AT} {B : Nat → Nat → Bool} {D : Dt} {x b : Nat} {cs : List Nat} (h : PreT K T B D x b cs) : (dN D x || dR D x || (List.range 64).any (fun y => dB D x y) || (List.range 64).any (fun y => dC D x y) || (List.range 32).any (fun k => dT D x k)) = tryE K T B D b cs := by
  obtain ⟨h1, h2, h3, h4, h5⟩ := h
  unfold tryE
  rw [h1, h2, any_cg (l := List.range 64) (fun y hy => h3 y (List.mem_range.mp hy)), any_cg (l := List.range 64) (fun y hy => h4 y (List.mem_range.mp hy)), any_cg (l := List.range 32) (fun k hk => h5 k (List.mem_range.mp hk))]
theorem fl_b146 {tr : TrS} {T : AT} {ks : List Nat} {fs : Nat → Nat} {rl : List Nat} (h : TrR tr T ks fs rl) (hw : WT T) {kn : KnS} {K : Nat} {B : Nat → Nat → Bool} {N x b : Nat} {cs : List Nat} (hx : x < aN T) (hfr : frT T x = b :: cs) (htl : Tr_tail tr x = nx (enT T x)) (hP : aP T x = (b :: cs) ++ (enT T x).toList) {v : Bool} {fl : FlS} (hb : dO (flD fl) b = true) (hO : ∀ l1 c l2, cs = l1 ++ c :: l2 → dO (flD fl) c = oC v K T B (dT (flD fl) b) l1 c) (hpr : PreT K T B (flD fl) x b cs) (heo : ∀ e, enT T x = some e → dO (flD fl) e = false) : ∃ fl', f_Fl_settleTry_b146 v N (nI x) fl tr kn = some fl' ∧ TrAt v K T B (flD fl') x ∧ Frm x (aP T x) fl fl' := by
  have hn := h.2.1
  have hpx : ∀ p ∈ aP T x, p ≠ x ∧ p < 60 := fun p hp => by have := hw.1 x hx p hp; omega
  have hcons : ∀ {b' : Nat} {cs' : List Nat}, frT T x = b' :: cs' → b' = b ∧ cs' = cs := fun {b' cs'} e => by
    rw [hfr] at e; injection e with e1 e2; exact ⟨e1.symm, e2.symm⟩
  rw [f_Fl_settleTry_b146.eq_1, if_pos (inB_nI (by omega) (by decide)), nI_clamp (by omega), htl]
  cases he : enT T x with
  | none =>
    rw [nx_n, if_pos rfl]
    refine ⟨fl, rfl, ?_, Frm_rfl⟩
    intro b' cs' e
    obtain ⟨rfl, rfl⟩ := hcons e
    obtain ⟨p1, p2, p3, p4, p5⟩ := hpr
    have eN1 : eN T (flD fl) x = true := by unfold eN; rw [he]
    have eX1 : ∀ f, eX T (flD fl) x f = false := fun f => by unfold eX; rw [he]
    refine ⟨hb, hO, (fun e he2 => by rw [he] at he2; cases he2), ?_, ?_, fun y hy => ?_, fun y hy => ?_, fun k hk => ?_⟩
    · rw [eN1, p1, Bool.and_true]
    · rw [eN1, eX1, p2, Bool.and_true, Bool.or_false]
    · rw [eN1, eX1, p3 y hy, Bool.and_true, Bool.or_false]
    · rw [eN1, eX1, p4 y hy, Bool.and_true, Bool.or_false]
    · rw [eN1, eX1, p5 k hk, Bool.and_true, Bool.or_false]
  | some e =>
    have heP : e ∈ aP T x := by rw [hP, he]; simp
    have hex := hpx e heP
    have hbcs : ∀ p ∈ b :: cs, p ∈ aP T x ∧ p ≠ e := by
      intro p hp
      refine ⟨by rw [hP]; exact List.mem_append_left _ hp, fun e1 => ?_⟩
      have := hw.2.1 x hx
      rw [hP, he, List.nodup_append] at this
      exact this.2.2 p hp e (by simp) e1
    have hop : (bif v then f_Bw_opensEnding (nI x) fl else f_Br_opensEnding (nI x)) = some (bi (!v || tryE K T B (flD fl) b cs)) := by
      cases v
      · rfl
      · show f_Bw_opensEnding (nI x) fl = _
        rw [f_Bw_opensEnding.eq_1, fl_somehow (by omega), tryE_pre hpr]
        exact b0'
    rw [nx_s, if_neg (nI_ne_m1 (by omega)), hop, fl_normal _ hex.2, fl_wipe (by omega)]
    simp only [Option.bind_some, b0, f_Fl_settleTry_b185.eq_1]
    rw [fl_comeTo (by omega) hex.2, fl_comeTo (by omega) hex.2]
    simp only [Option.bind_some]
    by_cases co : (!v || tryE K T B (flD fl) b cs) = true
    · rw [if_pos co]
      -- the ENDING is open
      have key : ∀ fl5 : FlS, Frm x [] fl fl5 → dN (flD fl5) x = (dN (flD fl) x && dN (flD fl) e) → dR (flD fl5) x = (dR (flD fl) x && dN (flD fl) e) → (∀ y, y < 64 → dB (flD fl5) x y = (dB (flD fl) x y && dN (flD fl) e)) → (∀ y, y < 64 → dC (flD fl5) x y = (dC (flD fl) x y && dN (flD fl) e)) → (∀ k, k < 32 → dT (flD fl5) x k = (dT (flD fl) x k && dN (flD fl) e)) → TrAt v K T B (flD (flC fl5 x e)) x ∧ Frm x (aP T x) fl (flC fl5 x e) := by
        intro fl5 F5 n1 n2 n3 n4 n5
        have FC := Frm_C (fl := fl5) (x := x) (p := e) (by omega) hex.2
        have F6 : Frm x [e] fl (flC fl5 x e) := Frm_trans F5 FC (by simp) (by simp)
        refine ⟨?_, Frm_trans F5 FC (by simp) (by intro y hy; simp at hy; subst hy; exact heP)⟩
        obtain ⟨f1, f2, f3, f4⟩ := F6
        obtain ⟨g1, g2, g3, g4⟩ := FC
        obtain ⟨k1, k2, k3, k4⟩ := F5
        intro b' cs' e'
        obtain ⟨rfl, rfl⟩ := hcons e'
        obtain ⟨p1, p2, p3, p4, p5⟩ := hpr
        have c0 : ∀ p ∈ b' :: cs', dO (flD (flC fl5 x e)) p = dO (flD fl) p := fun p hp => f2 p (by have := (hpx p (hbcs p hp).1).2; omega) (by simp [(hbcs p hp).2])
        have c1 : ∀ p ∈ aP T x, dN (flD (flC fl5 x e)) p = dN (flD fl) p := fun p hp => (f3 p (by have := (hpx p hp).2; omega) (hpx p hp).1).1
        have c2 : ∀ p ∈ aP T x, dR (flD (flC fl5 x e)) p = dR (flD fl) p := fun p hp => (f3 p (by have := (hpx p hp).2; omega) (hpx p hp).1).2
        have c3 : ∀ p ∈ aP T x, ∀ y, dB (flD (flC fl5 x e)) p y = dB (flD fl) p y := fun p hp y => by
          show lb (Fl_breaks (flC fl5 x e) p) y = lb (Fl_breaks fl p) y
          rw [(f4 p (hpx p hp).1).1]
        have c4 : ∀ p ∈ aP T x, ∀ y, dC (flD (flC fl5 x e)) p y = dC (flD fl) p y := fun p hp y => by
          show lb (Fl_continues (flC fl5 x e) p) y = lb (Fl_continues fl p) y
          rw [(f4 p (hpx p hp).1).2.1]
        have c5 : ∀ p ∈ aP T x, ∀ k, dT (flD (flC fl5 x e)) p k = dT (flD fl) p k := fun p hp k => by
          show bt (Fl_thrown (flC fl5 x e) p) k = bt (Fl_thrown fl p) k
          rw [(f4 p (hpx p hp).1).2.2]
        have hbP := (hbcs b' List.mem_cons_self).1
        have hoe : dO (flD (flC fl5 x e)) e = true := by
          show lb (Fl_open fl5 ||| lbit e) e = true
          rw [lb_or, lbit_lb (by omega)]; simp
        have an : ∀ (f g : Nat → Bool), (∀ p ∈ aP T x, f p = g p) → anO (flD (flC fl5 x e)) (b' :: cs') f = anO (flD fl) (b' :: cs') g := fun f g hfg => anO_cg c0 (fun p hp => hfg p (hbcs p hp).1)
        have pTc : ∀ k, pTh K T B (flD (flC fl5 x e)) b' cs' k = pTh K T B (flD fl) b' cs' k := by
          intro k
          unfold pTh
          rw [anO_cg (D' := flD (flC fl5 x e)) (D := flD fl) (g := fun p => dT (flD fl) p k) (fun p hp => c0 p (List.mem_cons_of_mem _ hp)) (fun p hp => c5 p (hbcs p (List.mem_cons_of_mem _ hp)).1 k), c5 b' hbP k]
        have eN1 : eN T (flD (flC fl5 x e)) x = dN (flD fl) e := by unfold eN; rw [he]; exact c1 e heP
        have eX1 : ∀ (f g : Nat → Bool), (∀ p ∈ aP T x, f p = g p) → eX T (flD (flC fl5 x e)) x f = g e := fun f g hfg => by
          unfold eX; rw [he]
          show (dO (flD (flC fl5 x e)) e && f e) = _
          rw [hoe, hfg e heP]; rfl
        refine ⟨?_, ?_, ?_, ?_, ?_, fun y hy => ?_, fun y hy => ?_, fun k hk => ?_⟩
        · rw [c0 b' List.mem_cons_self]; exact hb
        · intro l1 c l2 hc
          rw [c0 c (by rw [hc]; simp), show dT (flD (flC fl5 x e)) b' = dT (flD fl) b' from funext (fun k => c5 b' hbP k)]
          exact hO l1 c l2 hc
        · intro e2 he2
          rw [he] at he2
          cases he2
          rw [hoe]
          have : tryE K T B (flD (flC fl5 x e)) b' cs' = tryE K T B (flD fl) b' cs' := by
            unfold tryE
            rw [an _ _ c1, an _ _ c2, any_cg (l := List.range 64) (fun y hy => an (fun p => dB (flD (flC fl5 x e)) p y) (fun p => dB (flD fl) p y) (fun p hp => c3 p hp y)), any_cg (l := List.range 64) (fun y hy => an (fun p => dC (flD (flC fl5 x e)) p y) (fun p => dC (flD fl) p y) (fun p hp => c4 p hp y)), any_cg (l := List.range 32) (fun k _ => pTc k)]
          rw [this, co]
        · rw [an _ _ c1, eN1, ← p1, ← n1]; rfl
        · rw [an _ _ c2, eN1, eX1 _ _ c2, ← p2, ← n2]
          show lb (if lb (Fl_returning fl5) e = true then Fl_returning fl5 ||| lbit x else Fl_returning fl5) x = (lb (Fl_returning fl5) x || lb (Fl_returning fl) e)
          rw [← (k3 e (by omega) hex.1).2]
          by_cases c : lb (Fl_returning fl5) e = true
          · rw [if_pos c, lb_or, lbit_lb (by omega), c]; simp
          · rw [if_neg c]
            have c : lb (Fl_returning fl5) e = false := by simpa using c
            rw [c]; simp
        · rw [an _ _ (fun p hp => c3 p hp y), eN1, eX1 _ _ (fun p hp => c3 p hp y), ← p3 y hy, ← n3 y hy]
          show lb (vp_updL _ _ _ _) y = (lb (Fl_breaks fl5 x) y || lb (Fl_breaks fl e) y)
          rw [updL_a, if_pos rfl, lb_or, (k4 e hex.1).1]
        · rw [an _ _ (fun p hp => c4 p hp y), eN1, eX1 _ _ (fun p hp => c4 p hp y), ← p4 y hy, ← n4 y hy]
          show lb (vp_updL _ _ _ _) y = (lb (Fl_continues fl5 x) y || lb (Fl_continues fl e) y)
          rw [updL_a, if_pos rfl, lb_or, (k4 e hex.1).2.1]
        · rw [pTc k, eN1, eX1 _ _ (fun p hp => c5 p hp k), ← p5 k hk, ← n5 k hk]
          show bt (upd _ _ _ _) k = (bt (Fl_thrown fl5 x) k || bt (Fl_thrown fl e) k)
          rw [upd_s, b_or, (k4 e hex.1).2.2]
      have hne : dN (flD fl) e = lb (Fl_normal fl) e := rfl
      by_cases ce : lb (Fl_normal fl) e = true
      · rw [if_pos ce]
        obtain ⟨q1, q2⟩ := key fl Frm_rfl (by rw [hne, ce, Bool.and_true]) (by rw [hne, ce, Bool.and_true]) (fun y _ => by rw [hne, ce, Bool.and_true]) (fun y _ => by rw [hne, ce, Bool.and_true]) (fun y _ => by rw [hne, ce, Bool.and_true])
        exact ⟨_, rfl, q1, q2⟩
      · rw [if_neg ce]
        have ce : lb (Fl_normal fl) e = false := by simpa using ce
        obtain ⟨A1, A2⟩ := Acc_W (fl := fl) (x := x) (by omega)
        obtain ⟨a1, a2, a3, a4⟩ := A1
        obtain ⟨q1, q2⟩ := key (flW fl x) (Frm_W (by omega)) (by rw [hne, ce, Bool.and_false]; exact A2) (by rw [hne, ce, Bool.and_false, a1]; rfl) (fun y hy => by rw [hne, ce, Bool.and_false, a2 y hy]; rfl) (fun y hy => by rw [hne, ce, Bool.and_false, a3 y hy]; rfl) (fun k hk => by rw [hne, ce, Bool.and_false, a4 k hk]; rfl)
        exact ⟨_, rfl, q1, q2⟩
    · rw [if_neg co]
      have co' : (!v || tryE K T B (flD fl) b cs) = false := by simpa using co
      have ht := (Bool.or_eq_false_iff.mp co').2
      rw [← tryE_pre hpr] at ht
      simp only [Bool.or_eq_false_iff, List.any_eq_false, List.mem_range] at ht
      obtain ⟨⟨⟨⟨t1, t2⟩, t3⟩, t4⟩, t5⟩ := ht
      refine ⟨fl, rfl, ?_, Frm_rfl⟩
      intro b' cs' e'
      obtain ⟨rfl, rfl⟩ := hcons e'
      obtain ⟨p1, p2, p3, p4, p5⟩ := hpr
      have eX1 : ∀ f, eX T (flD fl) x f = false := fun f => by
        unfold eX; rw [he]
        show (dO (flD fl) e && f e) = false
        rw [heo e he]; rfl
      have t3 : ∀ y, y < 64 → dB (flD fl) x y = false := fun y hy => by simpa using t3 y hy
      have t4 : ∀ y, y < 64 → dC (flD fl) x y = false := fun y hy => by simpa using t4 y hy
      have t5 : ∀ y, y < 32 → dT (flD fl) x y = false := fun y hy => by simpa using t5 y hy
      refine ⟨hb, hO, ?_, ?_, ?_, fun y hy => ?_, fun y hy => ?_, fun k hk => ?_⟩
      · intro e2 he2
        rw [he] at he2
        cases he2
        rw [heo e he, co']
      · rw [← p1, t1]; rfl
      · rw [← p2, t2, eX1]; rfl
      · rw [← p3 y hy, t3 y hy, eX1]; rfl
      · rw [← p4 y hy, t4 y hy, eX1]; rfl
      · rw [← p5 k hk, t5 k hk, eX1]; rfl
theorem fl_settleTry {tr : TrS} {T : AT} {ks : List Nat} {fs : Nat → Nat} {rl : List Nat} (h : TrR tr T ks fs rl) (hw : WT T) {kn : KnS} {K : Nat} {B : Nat → Nat → Bool} (hk : KnR kn K B) (hK : K ≤ 12) {N x : Nat} (hN : 100 < N) (hx : x < aN T) (hs : shp T K x) (h16 : aS T x = 16) (htl : tlR T x (Tr_tail tr x)) {v : Bool} {fl : FlS} (hO : ∀ p ∈ aP T x, lb (Fl_open fl) p = false) : ∃ fl', f_Fl_settleTry v N (nI x) (flW fl x) tr kn = some fl' ∧ TrAt v K T B (flD fl') x ∧ Frm x (aP T x) fl fl' := by
  have hn := h.2.1
  have hpx : ∀ p ∈ aP T x, p ≠ x ∧ p < 60 := fun p hp => by have := hw.1 x hx p hp; omega
  have hlen : (aP T x).length ≤ 60 := nodup_le (hw.2.1 x hx) (fun p hp => by have := hw.1 x hx p hp; omega)
  obtain ⟨b, cs, hfr, hP, hmk, -, -, -⟩ := try_split hs h16
  obtain ⟨-, htl2⟩ := tr_catchCount h hw hx h16 htl hP
  have hbP : b ∈ aP T x := by rw [hP]; simp
  have hcl : cs.length + 1 ≤ (aP T x).length := by rw [hP]; simp
  have hnd : (b :: cs).Nodup := by
    have := hw.2.1 x hx
    rw [hP, List.nodup_append] at this
    exact this.1
  have hcb : ∀ c ∈ cs, c ≠ b := fun c hc e => by subst e; exact (List.nodup_cons.mp hnd).1 hc
  obtain ⟨A1, A2⟩ := Acc_W (fl := fl) (x := x) (by omega)
  obtain ⟨C1, C2⟩ := Acc_C (fl := flW fl x) (x := x) (p := b) (l := []) (lt := []) (by omega) (hpx b hbP).2 (hpx b hbP).1 (by simp) (by simp) (by simp) (by simp) A1
  -- thrown 0 again
  have D0 : ∀ q, q ≠ x → Fl_thrown (flZ (flC (flW fl x) x b) x) q = Fl_thrown (flC (flW fl x) x b) q := fun q hq => upd_n hq
  have F0 : Frm x [] (flC (flW fl x) x b) (flZ (flC (flW fl x) x b) x) := ⟨rfl, fun _ _ _ => rfl, fun _ _ _ => ⟨rfl, rfl⟩, fun y hy => ⟨rfl, rfl, D0 y hy⟩⟩
  have hc0 : AccD (flD (flZ (flC (flW fl x) x b) x)) x [b] [] := by
    obtain ⟨c1, c2, c3, c4⟩ := C1
    refine ⟨c1, c2, c3, fun k hk => ?_⟩
    show bt (upd _ _ _ _) k = _
    rw [upd_s, b_0]; rfl
  have FW : Frm x [b] fl (flZ (flC (flW fl x) x b) x) := Frm_trans (Frm_trans (Frm_W (by omega)) (Frm_C (by omega) (hpx b hbP).2) (l := [b]) (by simp) (by simp)) F0 (by simp) (by simp)
  obtain ⟨cg', fl', g1, g2, g3, g4, g5, g6, g7⟩ := fl_catches h hw hk hK (N := N) hx h16 htl hP hmk (v := v) cs [] (flZ (flC (flW fl x) x b) x) 0 N rfl (fun k _ => by rw [b_0]; rfl) hc0 C2 (fun l1 c l2 hc => by simp at hc) (fun p hp => by
    have hpP : p ∈ aP T x := by rw [hP]; simp [hp]
    rw [show dO (flD (flZ (flC (flW fl x) x b) x)) p = dO (flD fl) p from FW.2.1 p (by have := (hpx p hpP).2; omega) (by simp [hcb p hp])]
    exact hO p hpP) A2 (by omega)
  have e1 : f_Fl_settleTry v N (nI x) (flW fl x) tr kn = trEnd v N x b cg' fl' tr kn := by
    rw [f_Fl_settleTry.eq_1, show (0 : Int32) = nI 0 by decide, tr_kid h hx (i := 0) (p := b) (by rw [hP]; rfl)]
    simp only [Option.bind_some]
    rw [fl_comeTo (by omega) (hpx b hbP).2]
    simp only [Option.bind_some]
    rw [if_pos (inB_nI (show x < 60 by omega) (by decide)), nI_clamp (by omega)]
    exact g1
  have FH : Frm x [] fl' (flH fl' x b cg') := ⟨rfl, fun _ _ _ => rfl, fun _ _ _ => ⟨rfl, rfl⟩, fun y hy => ⟨rfl, rfl, upd_n hy⟩⟩
  have F1 : Frm x (b :: cs) fl (flH fl' x b cg') := Frm_trans (Frm_trans FW g7 (l := b :: cs) (by simp) (fun y hy => List.mem_cons_of_mem _ hy)) FH (fun y hy => hy) (by simp)
  have heo : ∀ e, enT T x = some e → dO (flD (flH fl' x b cg')) e = false := by
    intro e he
    have heP : e ∈ aP T x := by rw [hP, he]; simp
    have hne : e ∉ b :: cs := by
      intro hh
      have := hw.2.1 x hx
      rw [hP, he, List.nodup_append] at this
      exact this.2.2 e hh e (by simp) rfl
    rw [show dO (flD (flH fl' x b cg')) e = dO (flD fl) e from F1.2.1 e (by have := (hpx e heP).2; omega) hne]
    exact hO e heP
  have hbcx : ∀ p ∈ b :: cs, p ≠ x := fun p hp => (hpx p (by rw [hP]; exact List.mem_append_left _ hp)).1
  have ebit : bt (Fl_thrown fl' b &&& (cg' ^^^ (-1))) = bt (Fl_thrown fl' b &&& (cg' ^^^ (-1))) := rfl
  obtain ⟨a1, a2, a3, a4⟩ := g3
  have hthq : ∀ q, q ≠ x → dT (flD (flH fl' x b cg')) q = dT (flD fl') q := fun q hq => by
    show (fun k => bt (upd _ _ _ q) k) = _
    rw [upd_n hq]; rfl
  have hth : ∀ k, k < 32 → dT (flD (flH fl' x b cg')) x k = pTh K T B (flD (flH fl' x b cg')) b cs k := by
    intro k hk2
    unfold pTh
    rw [hthq b (hbcx b List.mem_cons_self), anO_cg (D' := flD (flH fl' x b cg')) (D := flD fl') (g := fun p => dT (flD fl') p k) (fun _ _ => rfl) (fun p hp => by rw [hthq p (hbcx p (List.mem_cons_of_mem _ hp))]), ← a4 k hk2]
    show bt (upd _ _ _ x) k = _
    rw [upd_s, b_or, b_and, b_not hk2, g2 k hk2]; rfl
  have hany : anO (flD (flH fl' x b cg')) (aP T x) (dN (flD (flH fl' x b cg'))) = anO (flD fl') (b :: cs) (dN (flD fl')) := by
    rw [hP]
    cases he : enT T x with
    | none => simp; rfl
    | some e =>
      rw [show (some e).toList = [e] from rfl, anO_snoc, heo e he]
      simp; rfl
  rw [e1]
  unfold trEnd
  rw [fl_some h hw hx, hany]
  simp only [Option.bind_some, b0]
  by_cases cn : anO (flD fl') (b :: cs) (dN (flD fl')) = true
  · rw [if_pos cn]
    have FN : Frm x [] (flH fl' x b cg') (flN (flH fl' x b cg') x) := ⟨rfl, fun _ _ _ => rfl, fun y hy hne => ⟨by
      show lb (_ ||| lbit x) y = _
      rw [lb_or, lbit_lb (by omega)]; simp [hne], rfl⟩, fun y hy => ⟨rfl, rfl, rfl⟩⟩
    have cN : ∀ p ∈ b :: cs, dN (flD (flN (flH fl' x b cg') x)) p = dN (flD fl') p := fun p hp => (FN.2.2.1 p (by have := (hpx p (by rw [hP]; exact List.mem_append_left _ hp)).2; omega) (hbcx p hp)).1
    obtain ⟨fl2, q1, q2, q3⟩ := fl_b146 h hw (kn := kn) (K := K) (B := B) (N := N) hx hfr htl2 hP (v := v) (fl := flN (flH fl' x b cg') x) g4 (fun l1 c l2 hc => by
      rw [show dT (flD (flN (flH fl' x b cg') x)) b = dT (flD fl') b from hthq b (hbcx b List.mem_cons_self)]
      exact g5 l1 c l2 hc) ⟨by
      rw [anO_cg (D' := flD (flN (flH fl' x b cg') x)) (D := flD fl') (g := dN (flD fl')) (fun _ _ => rfl) cN, cn]
      show lb (_ ||| lbit x) x = true
      rw [lb_or, lbit_lb (by omega)]; simp, a1, a2, a3, hth⟩ heo
    exact ⟨fl2, q1, q2, Frm_trans (Frm_trans F1 FN (l := aP T x) (fun y hy => by rw [hP]; exact List.mem_append_left _ hy) (by simp)) q3 (fun y hy => hy) (fun y hy => hy)⟩
  · rw [if_neg cn]
    have cn : anO (flD fl') (b :: cs) (dN (flD fl')) = false := by simpa using cn
    obtain ⟨fl2, q1, q2, q3⟩ := fl_b146 h hw (kn := kn) (K := K) (B := B) (N := N) hx hfr htl2 hP (v := v) (fl := flH fl' x b cg') g4 (fun l1 c l2 hc => by
      rw [hthq b (hbcx b List.mem_cons_self)]
      exact g5 l1 c l2 hc) ⟨by
      show dN (flD fl') x = anO (flD fl') (b :: cs) (dN (flD fl'))
      rw [g6, cn], a1, a2, a3, hth⟩ heo
    exact ⟨fl2, q1, q2, Frm_trans F1 q3 (fun y hy => by rw [hP]; exact List.mem_append_left _ hy) (fun y hy => hy)⟩
