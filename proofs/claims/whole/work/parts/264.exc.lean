/-! exception(), jump() -/
theorem shp_congr {T T' : AT} {K K' m : Nat} (h : shp T K m) (hK : K ≤ K') (e1 : aS T' m = aS T m) (e2 : aV T' m = aV T m) (e3 : aP T' m = aP T m) (e4 : aE T' m = aE T m) (e5 : aH T' m = aH T m) (e6 : ∀ p ∈ aP T m, aM T' p = aM T p) : shp T' K' m := by
  unfold shp at *
  rw [e1, e2, e3, e4, e5]
  obtain ⟨a1, a2, a3, a4, a5, a6, a7, a8, a9, a10, a11, a12, a13, a14, a15, a16⟩ := h
  refine ⟨a1, a2, ?_, ?_, a5, a6, a7, a8, a9, a10, a11, ?_, ?_, ?_, a15, ?_⟩
  · intro h
    rcases a3 h with h | ⟨k, hk, e⟩
    · exact Or.inl h
    · exact Or.inr ⟨k, by omega, e⟩
  · intro h
    obtain ⟨k, hk, e⟩ := a4 h
    exact ⟨k, by omega, e⟩
  · intro h
    refine ⟨fun i p hp => ?_, (a12 h).2⟩
    rw [e6 p (List.mem_of_getElem? hp)]
    exact (a12 h).1 i p hp
  · intro h
    refine ⟨fun p hp => ?_, (a13 h).2⟩
    rw [e6 p hp]
    exact (a13 h).1 p hp
  · intro h
    refine ⟨(a14 h).1, fun i p hp => ?_⟩
    rw [e6 p (List.mem_of_getElem? hp)]
    have := (a14 h).2 i p hp
    by_cases c : i = 0 ∨ (aH T m = true ∧ i + 1 = (aP T m).length)
    · rw [if_pos c] at this ⊢; exact this
    · rw [if_neg c] at this ⊢
      obtain ⟨k, hk, e⟩ := this
      exact ⟨k, by omega, e⟩
  · intro h1 h2 h3 p hp
    rw [e6 p hp]
    exact a16 h1 h2 h3 p hp
theorem RowR_congr {rw : RwS} {mb mb' : MbS} {T T' : AT} {K K' : Nat} {rk : Option Nat} {rl : List Nat} (h : RowR rw mb T K rk rl) (hK : K ≤ K') (e6 : ∀ p ∈ rl, aM T' p = aM T p) (m1 : Mb_rowKind mb' = Mb_rowKind mb) (m2 : Mb_rowCount mb' = Mb_rowCount mb) (m3 : Mb_rowFirst mb' = Mb_rowFirst mb) (m4 : Mb_rowLast mb' = Mb_rowLast mb) : RowR rw mb' T' K' rk rl := by
  cases rk with
  | none =>
    obtain ⟨a1, a2, a3, a4, a5⟩ := h
    exact ⟨a1, a2, a3, m1.trans a4, a5⟩
  | some k =>
    obtain ⟨a1, a2, a3, a4, a5, a6, a7, a8, a9, b0, b1, b2, b3⟩ := h
    refine ⟨a1, a2, a3, a4, ?_, m1.trans a6, m2.trans a7, m3.trans a8, m4.trans a9, ?_, ?_, ?_, ?_⟩
    · rw [a5]
      have : rl.any (fun p => decide (aM T p = 2)) = rl.any (fun p => decide (aM T' p = 2)) := by
        rw [Bool.eq_iff_iff, List.any_eq_true, List.any_eq_true]
        constructor
        · intro ⟨p, hp, hh⟩; exact ⟨p, hp, by rw [e6 p hp]; exact hh⟩
        · intro ⟨p, hp, hh⟩; exact ⟨p, hp, by rw [← e6 p hp]; exact hh⟩
      rw [this]
    · intro hk p hp; rw [e6 p hp]; exact b0 hk p hp
    · intro hk i p hp; rw [e6 p (List.mem_of_getElem? hp)]; exact b1 hk i p hp
    · intro hk p hp; rw [e6 p hp]; exact b2 hk p hp
    · intro hk i p hp
      rw [e6 p (List.mem_of_getElem? hp)]
      have := b3 hk i p hp
      by_cases c : i = 0
      · rw [if_pos c] at this ⊢; exact this
      · rw [if_neg c] at this ⊢
        obtain ⟨q, hq, e⟩ := this
        exact ⟨q, by omega, e⟩
theorem s_exception {N : Nat} (hN : 100 < N) : S_exception N Rel := by
  intro kn tr rw lk f0 f1 mb mg mx mf x hR
  have hR' := hR
  obtain ⟨K, ab, B, T, ks, fs, rk, rl, hB, hL⟩ := hR
  obtain ⟨b1, b2, b3, b4, b5, b6, b7, b8, b9, b10, b11, b12, b13⟩ := hB
  rw [rf_exception b1 b3 (by omega), md_exception b1.2.1 b4]
  by_cases hx : inB x K = true
  · simp only [if_pos hx]
    by_cases h12 : K < 12
    · simp only [if_pos h12]
      obtain ⟨a, ha, rfl⟩ := inB_of hx (by omega)
      rw [nI_clamp (by omega)]
      refine ⟨_, _, rfl, rfl, rfl, K + 1, abU ab K a, BU B K a, T, ks, fs, rk, rl, ⟨KI_add b1 ha h12, by omega, KnR_add b1 b3 h12 ha, MkR_add (by omega) b4 ha, b5, b6, b7, b8, fun m hm => shp_congr (b9 m hm) (by omega) rfl rfl rfl rfl rfl (fun _ _ => rfl), b10, b11, b12, RowR_congr b13 (by omega) (fun _ _ => rfl) rfl rfl rfl rfl⟩, hL⟩
    · simp only [if_neg h12]
      exact ⟨_, _, rfl, rfl, rfl, hR'⟩
  · simp only [if_neg hx]
    exact ⟨_, _, rfl, rfl, rfl, hR'⟩
/-- what was looked at stays, when a NODE is made -/
theorem LkR_add {n : Nat} {lk : LkS} {f0 f1 : FlS} {mg : MgS} {mx : MxS} {mf : MfS} (h : LkR n lk f0 f1 mg mx mf) (hn : n < 60) : LkR (n + 1) lk f0 f1 (mgA mg n) mx mf := by
  obtain ⟨h1, ir, rc, cm, th, co, en, tg, F, G, hA, hM⟩ := h
  refine ⟨h1, ir, rc, cm, th, co, en, tg, F, G, ?_, ?_⟩
  · obtain ⟨a1, a2, a3, a4, a5, a6, a7, a8⟩ := hA
    exact ⟨a1, a2, a3, a4, a5, a6, fun x h1 h2 => a7 x h1 (by omega), a8⟩
  · rcases hM with hM | ⟨h2, c1, c2, c3, c4, c5⟩
    · exact Or.inl hM
    · refine Or.inr ⟨h2, c1, c2, c3, c4, fun x hx => ?_⟩
      have hir : ir n = false := hA.2.2.2.2.2.2.1 n hn (Nat.le_refl _)
      by_cases e : x = n
      · subst e
        refine ⟨?_, fun hi => by rw [hir] at hi; cases hi⟩
        show upd (Mg_inRoot mg) x 0 x = _
        rw [upd_s, hir]; rfl
      · obtain ⟨d1, d2⟩ := c5 x (by omega)
        refine ⟨?_, d2⟩
        show upd (Mg_inRoot mg) n 0 x = _
        rw [upd_n e]; exact d1
/-- a NODE without parts more, on both sides -/
theorem Bld_add {kn : KnS} {tr : TrS} {rw : RwS} {mb : MbS} {K : Nat} {ab : Nat → Nat} {B : Nat → Nat → Bool} {T : AT} {ks : List Nat} {fs : Nat → Nat} {rk : Option Nat} {rl : List Nat} (h : Bld kn tr rw mb K ab B T ks fs rk rl) (hn : aN T < 60) {s v : Int32} (hs : shp (addT T s v) K (aN T)) (h14 : s ≠ 14) (h15 : s ≠ 15) (h16 : s ≠ 16) :
    Bld kn (trA tr (aN T) s v) rw (mbA mb (aN T) s v) K ab B (addT T s v) ks (va_up fs (aN T) ks.length) rk rl := by
  obtain ⟨b1, b2, b3, b4, b5, b6, b7, b8, b9, b10, b11, b12, b13⟩ := h
  have lt : ∀ {m}, m < aN (addT T s v) → m ≠ aN T → m < aN T := fun {m} hm e => by
    have : m < aN T + 1 := hm
    omega
  have sN : aS (addT T s v) (aN T) = s := upd_s
  have old : ∀ {m}, m ≠ aN T → aS (addT T s v) m = aS T m ∧ aV (addT T s v) m = aV T m ∧ aM (addT T s v) m = aM T m ∧ aP (addT T s v) m = aP T m ∧ aE (addT T s v) m = aE T m ∧ aH (addT T s v) m = aH T m := fun {m} e => ⟨upd_n e, upd_n e, upd_n e, up_n e, upd_n e, up_n e⟩
  have mk : ∀ {p}, p < aN T → aM (addT T s v) p = aM T p := fun {p} hp => upd_n (by omega)
  refine ⟨b1, b2, b3, b4, TrR_add b5 hn s v, MbR_add b6 b7 (fun p hp => (b8.2 p hp).1) s v, WT_add b7 s v, ⟨b8.1, fun p hp => ⟨by have := (b8.2 p hp).1; show p < aN T + 1; omega, (b8.2 p hp).2⟩⟩, ?_, ?_, ?_, ?_, ?_⟩
  · intro m hm
    by_cases e : m = aN T
    · subst e; exact hs
    · have hm2 := lt hm e
      obtain ⟨o1, o2, o3, o4, o5, o6⟩ := old e
      exact shp_congr (b9 m hm2) (Nat.le_refl _) o1 o2 o4 o5 o6 (fun p hp => mk (by have := b7.1 m hm2 p hp; omega))
  · intro m hm
    by_cases e : m = aN T
    · subst e
      exact ⟨fun h => absurd (sN.symm.trans h) h14, fun h => absurd (sN.symm.trans h) h16⟩
    · have hm2 := lt hm e
      obtain ⟨o1, o2, o3, o4, o5, o6⟩ := old e
      have ht := b10 m hm2
      unfold tlR at *
      rw [o1, o4, o5, o6]
      show (_ → upd (Tr_tail tr) (aN T) (-1) m = _) ∧ (_ → upd (Tr_tail tr) (aN T) (-1) m = _)
      rw [upd_n e]
      exact ht
  · intro m hm
    show lb (Tr_defaults tr) m = _
    rw [b11 m hm]
    show _ = (decide (m < aN T + 1) && dfB (addT T s v) m)
    by_cases e : m = aN T
    · subst e
      have : dfB (addT T s v) (aN T) = false := by
        unfold dfB
        rw [sN]
        simp [h14, h15]
      rw [this]; simp
    · obtain ⟨o1, o2, o3, o4, o5, o6⟩ := old e
      by_cases hm2 : m < aN T
      · have e1 : decide (m < aN T) = true := by simp [hm2]
        have e2 : decide (m < aN T + 1) = true := by simp; omega
        rw [e1, e2]
        unfold dfB
        rw [o1, o4, o5]
        have : (aP T m).any (fun p => decide (aM T p = 2)) = (aP T m).any (fun p => decide (aM (addT T s v) p = 2)) := by
          rw [Bool.eq_iff_iff, List.any_eq_true, List.any_eq_true]
          constructor
          · intro ⟨p, hp, hh⟩; exact ⟨p, hp, by rw [mk (by have := b7.1 m hm2 p hp; omega)]; exact hh⟩
          · intro ⟨p, hp, hh⟩; exact ⟨p, hp, by rw [mk (by have := b7.1 m hm2 p hp; omega)] at hh; exact hh⟩
        rw [this]
      · have e1 : decide (m < aN T) = false := by simp; omega
        have e2 : decide (m < aN T + 1) = false := by simp; omega
        rw [e1, e2]; rfl
  · intro p hp hk hr
    by_cases e : p = aN T
    · subst e; exact upd_s
    · rw [(old e).2.2.1]; exact b12 p (lt hp e) hk hr
  · exact RowR_congr b13 (Nat.le_refl _) (fun p hp => mk (b8.2 p hp).1) rfl rfl rfl rfl
