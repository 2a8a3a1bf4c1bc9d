/-! the class's settle and flow -/
theorem lf_settle {tr : TrS} {T : AT} {ks : List Nat} {fs : Nat → Nat} {rl : List Nat} (h : TrR tr T ks fs rl) {kn : KnS} {K : Nat} {B : Nat → Nat → Bool} (hk : KnR kn K B) (hK : K ≤ 12) {x : Nat} (hx : x < aN T) (hs : shp T K x) {v : Bool} (hv : aV T x ≠ -1) (h12 : aS T x = 1 ∨ aS T x = 2) : ∃ z, (bif v then f_Bw_thrownAs (aV T x) kn else f_Br_thrownAs (aV T x)) = some z ∧ ∀ k, k < 32 → bt z k = tA v K B (aV T x) k := by
  obtain ⟨c, hc, e⟩ : ∃ c, c < K ∧ aV T x = nI c := by
    rcases h12 with h1 | h2
    · rcases hs.2.2.1 h1 with hh | hh
      · exact absurd hh hv
      · exact hh
    · exact hs.2.2.2.1 h2
  have htA : ∀ k, tA v K B (aV T x) k = (bif v then decide (k < K) && B k c else decide (k = c)) := by
    intro k
    unfold tA
    rw [if_neg hv, e, nI_clamp (by omega)]
  cases v
  · refine ⟨_, rfl, fun k hk2 => ?_⟩
    rw [htA, e, b_one (by omega)]; rfl
  · refine ⟨Kn_below kn c, ?_, fun k hk2 => ?_⟩
    · show f_Bw_thrownAs (aV T x) kn = _
      rw [f_Bw_thrownAs.eq_1, e, if_pos (inB_nI (by omega) (by decide)), nI_clamp (by omega)]
    · rw [htA, hk.2.2 c k hc hk2]; rfl
theorem fl_settle {tr : TrS} {T : AT} {ks : List Nat} {fs : Nat → Nat} {rl : List Nat} (h : TrR tr T ks fs rl) (hw : WT T) {kn : KnS} {K : Nat} {B : Nat → Nat → Bool} (hk : KnR kn K B) (hK : K ≤ 12) {N x : Nat} (hN : 100 < N) (hx : x < aN T) (hs : shp T K x) (hdf : lb (Tr_defaults tr) x = dfB T x) (htl : tlR T x (Tr_tail tr x)) {tg : Nat → Int32} (htg : tg x = -1 ∨ ∃ t, t < 60 ∧ tg x = nI t) {v : Bool} {fl : FlS} (hO : ∀ p ∈ aP T x, lb (Fl_open fl) p = false) : ∃ fl', f_Fl_settle v N (nI x) (tg x) fl tr kn = some fl' ∧ SolAt v K T B tg (flD fl') x ∧ Frm x (aP T x) fl fl' := by
  have hn := h.2.1
  obtain ⟨⟨w1, w2, w3, w4⟩, w5⟩ := Acc_W (fl := fl) (x := x) (by omega)
  have w1 : lb (Fl_returning (flW fl x)) x = false := w1
  have w2 : ∀ t, t < 64 → lb (Fl_breaks (flW fl x) x) t = false := w2
  have w3 : ∀ t, t < 64 → lb (Fl_continues (flW fl x) x) t = false := w3
  have w4 : ∀ k, k < 32 → bt (Fl_thrown (flW fl x) x) k = false := w4
  have w5 : lb (Fl_normal (flW fl x)) x = false := w5
  have FW : Frm x (aP T x) fl (flW fl x) := Frm_trans (Frm_rfl (l := [])) (Frm_W (by omega)) (by simp) (by simp)
  have bitx : ∀ (z : Int64), lb (z ||| lbit x) x = true := fun z => by rw [lb_or, lbit_lb (by omega)]; simp
  have bity : ∀ (z : Int64) (y : Nat), y ≠ x → lb (z ||| lbit x) y = lb z y := fun z y hy => by rw [lb_or, lbit_lb (by omega)]; simp [hy]
  have whole : ∀ s : Int32, aS T x = s → lfB s = false → s ≠ 16 → f_Fl_settle v N (nI x) (tg x) fl tr kn = f_Fl_settle_b249 v N (nI x) (flW fl x) tr kn → ∃ fl', f_Fl_settle v N (nI x) (tg x) fl tr kn = some fl' ∧ SolAt v K T B tg (flD fl') x ∧ Frm x (aP T x) fl fl' := by
    intro s e1 e2 e3 e4
    obtain ⟨fl', g1, g2, g3⟩ := fl_settleWhole h hw hN hx hs hdf htl (v := v) hO
    refine ⟨fl', ?_, ?_, g3⟩
    · rw [e4, f_Fl_settle_b249.eq_1, g1]; rfl
    · unfold SolAt
      rw [e1, if_neg (by rw [e2]; decide), if_neg e3]; exact g2
  have hun : f_Fl_settle v N (nI x) (tg x) fl tr kn = _ := f_Fl_settle.eq_1 v N (nI x) (tg x) fl tr kn
  rw [fl_wipe (by omega), Option.bind_some, if_pos (inB_nI (by omega) (by decide)), if_pos (inB_nI (by omega) (by decide)), if_pos (inB_nI (by omega) (by decide)), if_pos (inB_nI (by omega) (by decide)), nI_clamp (by omega), (h.2.2.2.1 x hx).1, (h.2.2.2.1 x hx).2.1] at hun
  rcases srt17 hs with e | e | e | e | e | e | e | e | e | e | e | e | e | e | e | e | e
  case inl =>
    rw [e, if_pos rfl] at hun
    refine ⟨_, hun, ?_, Frm_trans FW (b := flW fl x) (l2 := []) ⟨rfl, fun _ _ _ => rfl, fun y hy hne => ⟨bity _ y hne, rfl⟩, fun _ _ => ⟨rfl, rfl, rfl⟩⟩ (fun y hy => hy) (by simp)⟩
    unfold SolAt
    rw [e, if_pos (by decide)]
    unfold LfAt
    simp only [e]
    exact ⟨bitx _, w1, fun y hy => w2 y hy, fun y hy => w3 y hy, fun k hk => w4 k hk⟩
  case inr.inl =>
    by_cases hv : aV T x = -1
    · rw [e, if_neg (by decide), if_pos rfl, if_pos hv, f_Fl_settle_b158.eq_1, if_pos (inB_nI (by omega) (by decide)), nI_clamp (by omega)] at hun
      refine ⟨_, hun, ?_, Frm_trans FW (b := flW fl x) (l2 := []) ⟨rfl, fun _ _ _ => rfl, fun y hy hne => ⟨bity _ y hne, rfl⟩, fun y hne => ⟨rfl, rfl, upd_n hne⟩⟩ (fun y hy => hy) (by simp)⟩
      unfold SolAt
      rw [e, if_pos (by decide)]
      unfold LfAt
      simp only [e]
      refine ⟨bitx _, w1, fun y hy => w2 y hy, fun y hy => w3 y hy, fun k hk => ?_⟩
      show bt (upd _ _ _ _) k = _
      rw [upd_s, b_0]; unfold tA; rw [if_pos hv]; rfl
    · obtain ⟨z, z1, z2⟩ := lf_settle h hk hK hx hs (v := v) hv (Or.inl e)
      rw [e, if_neg (by decide), if_pos rfl, if_neg hv, z1, Option.bind_some, f_Fl_settle_b158.eq_1, if_pos (inB_nI (by omega) (by decide)), nI_clamp (by omega)] at hun
      refine ⟨_, hun, ?_, Frm_trans FW (b := flW fl x) (l2 := []) ⟨rfl, fun _ _ _ => rfl, fun y hy hne => ⟨bity _ y hne, rfl⟩, fun y hne => ⟨rfl, rfl, upd_n hne⟩⟩ (fun y hy => hy) (by simp)⟩
      unfold SolAt
      rw [e, if_pos (by decide)]
      unfold LfAt
      simp only [e]
      refine ⟨bitx _, w1, fun y hy => w2 y hy, fun y hy => w3 y hy, fun k hk => ?_⟩
      show bt (upd _ _ _ _) k = _
      rw [upd_s, z2 k hk]; rfl
  case inr.inr.inl =>
    have hv : aV T x ≠ -1 := by
      obtain ⟨c, hc, e2⟩ := hs.2.2.2.1 e
      rw [e2]; exact nI_ne_m1 (by omega)
    obtain ⟨z, z1, z2⟩ := lf_settle h hk hK hx hs (v := v) hv (Or.inr e)
    rw [e, if_neg (by decide), if_neg (by decide), if_pos rfl, z1, Option.bind_some, if_pos (inB_nI (by omega) (by decide))] at hun
    refine ⟨_, hun, ?_, Frm_trans FW (b := flW fl x) (l2 := []) ⟨rfl, fun _ _ _ => rfl, fun y hy hne => ⟨rfl, rfl⟩, fun y hne => ⟨rfl, rfl, upd_n hne⟩⟩ (fun y hy => hy) (by simp)⟩
    unfold SolAt
    rw [e, if_pos (by decide)]
    unfold LfAt
    simp only [e]
    refine ⟨w5, w1, fun y hy => w2 y hy, fun y hy => w3 y hy, fun k hk => ?_⟩
    show bt (upd _ _ _ _) k = _
    rw [upd_s, z2 k hk]; rfl
  case inr.inr.inr.inl =>
    rw [e, if_neg (by decide), if_neg (by decide), if_neg (by decide), if_pos rfl] at hun
    refine ⟨_, hun, ?_, Frm_trans FW (b := flW fl x) (l2 := []) ⟨rfl, fun _ _ _ => rfl, fun y hy hne => ⟨rfl, bity _ y hne⟩, fun y hne => ⟨rfl, rfl, rfl⟩⟩ (fun y hy => hy) (by simp)⟩
    unfold SolAt
    rw [e, if_pos (by decide)]
    unfold LfAt
    simp only [e]
    exact ⟨w5, bitx _, fun y hy => w2 y hy, fun y hy => w3 y hy, fun k hk => w4 k hk⟩
  case inr.inr.inr.inr.inr.inr.inr.inr.inr.inr.inl =>
    rw [e, if_neg (by decide), if_neg (by decide), if_neg (by decide), if_neg (by decide), if_neg (by decide), if_neg (by decide), if_neg (by decide), if_neg (by decide), if_neg (by decide), if_neg (by decide), if_pos rfl, f_Fl_settle_b216.eq_1, f_Fl_settle_b216.eq_1, if_pos (inB_nI (by omega) (by decide)), if_pos (inB_nI (by omega) (by decide)), nI_clamp (by omega)] at hun
    have key : ∀ z : Int64, (∀ y, y < 64 → lb z y = decide (tg x = nI y)) → SolAt v K T B tg (flD (Fl_open (flW fl x), Fl_met (flW fl x), Fl_normal (flW fl x), Fl_returning (flW fl x), vp_updL (Fl_breaks (flW fl x)) x z, Fl_continues (flW fl x), Fl_thrown (flW fl x))) x ∧ Frm x (aP T x) fl (Fl_open (flW fl x), Fl_met (flW fl x), Fl_normal (flW fl x), Fl_returning (flW fl x), vp_updL (Fl_breaks (flW fl x)) x z, Fl_continues (flW fl x), Fl_thrown (flW fl x)) := by
      intro z hz
      refine ⟨?_, Frm_trans FW (b := flW fl x) (l2 := []) ⟨rfl, fun _ _ _ => rfl, fun y hy hne => ⟨rfl, rfl⟩, fun y hne => ⟨by show vp_updL _ _ _ _ = _; rw [updL_a, if_neg hne], rfl, rfl⟩⟩ (fun y hy => hy) (by simp)⟩
      unfold SolAt
      rw [e, if_pos (by decide)]
      unfold LfAt
      simp only [e]
      refine ⟨w5, w1, fun y hy => ?_, fun y hy => w3 y hy, fun k hk => w4 k hk⟩
      show lb (vp_updL _ _ _ _) y = _
      rw [updL_a, if_pos rfl, hz y hy]; rfl
    rcases htg with ht | ⟨t, ht, ht2⟩
    · rw [if_pos ht] at hun
      obtain ⟨k1, k2⟩ := key 0 (fun y hy => by rw [lb_0, ht, decide_eq_false (fun hh => nI_ne_m1 (by omega) hh.symm)])
      exact ⟨_, hun, k1, k2⟩
    · rw [if_neg (by rw [ht2]; exact nI_ne_m1 (by omega))] at hun
      obtain ⟨k1, k2⟩ := key ((1 : Int64) <<< ((tg x).toInt64 &&& 63)) (fun y hy => by
        rw [ht2, lb_one (by omega)]
        by_cases c : y = t
        · subst c; simp
        · rw [decide_eq_false c, decide_eq_false (fun hh => c ((nI_eq (by omega) (by omega)).mp hh).symm)])
      exact ⟨_, hun, k1, k2⟩
  case inr.inr.inr.inr.inr.inr.inr.inr.inr.inr.inr.inl =>
    rw [e, if_neg (by decide), if_neg (by decide), if_neg (by decide), if_neg (by decide), if_neg (by decide), if_neg (by decide), if_neg (by decide), if_neg (by decide), if_neg (by decide), if_neg (by decide), if_neg (by decide), if_pos rfl, f_Fl_settle_b237.eq_1, f_Fl_settle_b237.eq_1, if_pos (inB_nI (by omega) (by decide)), if_pos (inB_nI (by omega) (by decide)), nI_clamp (by omega)] at hun
    have key : ∀ z : Int64, (∀ y, y < 64 → lb z y = decide (tg x = nI y)) → SolAt v K T B tg (flD (Fl_open (flW fl x), Fl_met (flW fl x), Fl_normal (flW fl x), Fl_returning (flW fl x), Fl_breaks (flW fl x), vp_updL (Fl_continues (flW fl x)) x z, Fl_thrown (flW fl x))) x ∧ Frm x (aP T x) fl (Fl_open (flW fl x), Fl_met (flW fl x), Fl_normal (flW fl x), Fl_returning (flW fl x), Fl_breaks (flW fl x), vp_updL (Fl_continues (flW fl x)) x z, Fl_thrown (flW fl x)) := by
      intro z hz
      refine ⟨?_, Frm_trans FW (b := flW fl x) (l2 := []) ⟨rfl, fun _ _ _ => rfl, fun y hy hne => ⟨rfl, rfl⟩, fun y hne => ⟨rfl, by show vp_updL _ _ _ _ = _; rw [updL_a, if_neg hne], rfl⟩⟩ (fun y hy => hy) (by simp)⟩
      unfold SolAt
      rw [e, if_pos (by decide)]
      unfold LfAt
      simp only [e]
      refine ⟨w5, w1, fun y hy => w2 y hy, fun y hy => ?_, fun k hk => w4 k hk⟩
      show lb (vp_updL _ _ _ _) y = _
      rw [updL_a, if_pos rfl, hz y hy]; rfl
    rcases htg with ht | ⟨t, ht, ht2⟩
    · rw [if_pos ht] at hun
      obtain ⟨k1, k2⟩ := key 0 (fun y hy => by rw [lb_0, ht, decide_eq_false (fun hh => nI_ne_m1 (by omega) hh.symm)])
      exact ⟨_, hun, k1, k2⟩
    · rw [if_neg (by rw [ht2]; exact nI_ne_m1 (by omega))] at hun
      obtain ⟨k1, k2⟩ := key ((1 : Int64) <<< ((tg x).toInt64 &&& 63)) (fun y hy => by
        rw [ht2, lb_one (by omega)]
        by_cases c : y = t
        · subst c; simp
        · rw [decide_eq_false c, decide_eq_false (fun hh => c ((nI_eq (by omega) (by omega)).mp hh).symm)])
      exact ⟨_, hun, k1, k2⟩
  case inr.inr.inr.inr.inr.inr.inr.inr.inr.inr.inr.inr.inr.inr.inr.inr =>
    obtain ⟨fl', g1, g2, g3⟩ := fl_settleTry h hw hk hK hN hx hs e htl (v := v) hO
    refine ⟨fl', ?_, ?_, g3⟩
    · rw [hun, e, g1]; rfl
    · unfold SolAt
      rw [e, if_neg (by decide), if_pos rfl]; exact g2
  all_goals (refine whole _ e (by decide) (by decide) ?_; rw [hun, e]; rfl)
