/-! a NODE with parts more -/
theorem any_congr {l : List Nat} {f g : Nat → Int32} (h : ∀ p ∈ l, f p = g p) : l.any (fun p => decide (f p = 2)) = l.any (fun p => decide (g p = 2)) := by
  rw [Bool.eq_iff_iff, List.any_eq_true, List.any_eq_true]
  constructor
  · intro ⟨p, hp, hh⟩; exact ⟨p, hp, by rw [← h p hp]; exact hh⟩
  · intro ⟨p, hp, hh⟩; exact ⟨p, hp, by rw [h p hp]; exact hh⟩
theorem Bld_fin {kn : KnS} {tr tr' : TrS} {rw rw' : RwS} {mb mb' : MbS} {K : Nat} {ab : Nat → Nat} {B : Nat → Nat → Bool} {T T' : AT} {ks ks' : List Nat} {fs fs' : Nat → Nat} {rk rk' : Option Nat} {rl rl' : List Nat} (h : Bld kn tr rw mb K ab B T ks fs rk rl) (n1 : aN T' = aN T + 1) (old : ∀ m, m < aN T → aS T' m = aS T m ∧ aV T' m = aV T m ∧ aM T' m = aM T m ∧ aP T' m = aP T m ∧ aE T' m = aE T m ∧ aH T' m = aH T m) (ht : TrR tr' T' ks' fs' rl') (hm : MbR mb' T' rl') (hw : WT T') (hk : MkR mb' K ab) (hr : rl'.Nodup ∧ ∀ p ∈ rl', p < aN T' ∧ p ∉ ks') (hs : shp T' K (aN T)) (htl : ∀ m, m < aN T → Tr_tail tr' m = Tr_tail tr m) (htn : tlR T' (aN T) (Tr_tail tr' (aN T))) (hdf : ∀ m, m < 64 → lb (Tr_defaults tr') m = if m = aN T then dfB T' (aN T) else lb (Tr_defaults tr) m) (hfm : ∀ p, p < aN T' → p ∉ ks' → p ∉ rl' → aM T' p = -1) (hrow : RowR rw' mb' T' K rk' rl') : Bld kn tr' rw' mb' K ab B T' ks' fs' rk' rl' := by
  obtain ⟨b1, b2, b3, b4, b5, b6, b7, b8, b9, b10, b11, b12, b13⟩ := h
  refine ⟨b1, b2, b3, hk, ht, hm, hw, hr, ?_, ?_, ?_, hfm, hrow⟩
  · intro m hm
    by_cases e : m = aN T
    · subst e; exact hs
    · have hm2 : m < aN T := by omega
      obtain ⟨o1, o2, o3, o4, o5, o6⟩ := old m hm2
      exact shp_congr (b9 m hm2) (Nat.le_refl _) o1 o2 o4 o5 o6 (fun p hp => (old p (by have := b7.1 m hm2 p hp; omega)).2.2.1)
  · intro m hm
    by_cases e : m = aN T
    · subst e; exact htn
    · have hm2 : m < aN T := by omega
      obtain ⟨o1, o2, o3, o4, o5, o6⟩ := old m hm2
      have := b10 m hm2
      unfold tlR at *
      rw [o1, o4, o5, o6, htl m hm2]
      exact this
  · intro m hm
    rw [hdf m hm]
    by_cases e : m = aN T
    · rw [if_pos e, e]
      have : decide (aN T < aN T') = true := by simp; omega
      rw [this]; simp
    · rw [if_neg e, b11 m hm]
      by_cases hm2 : m < aN T
      · obtain ⟨o1, o2, o3, o4, o5, o6⟩ := old m hm2
        have e1 : decide (m < aN T) = true := by simp [hm2]
        have e2 : decide (m < aN T') = true := by simp; omega
        rw [e1, e2]
        unfold dfB
        rw [o1, o4, o5, any_congr (fun p hp => (old p (by have := b7.1 m hm2 p hp; omega)).2.2.1)]
      · have e1 : decide (m < aN T) = false := by simp; omega
        have e2 : decide (m < aN T') = false := by simp; omega
        rw [e1, e2]; rfl
theorem frB_of {T : AT} {ks rl : List Nat} {x : Int32} (h : frB T ks rl x = true) (hn : aN T ≤ 60) : ∃ p, p < aN T ∧ x = nI p ∧ p ∉ ks ∧ p ∉ rl := by
  unfold frB at h
  rw [Bool.and_eq_true] at h
  obtain ⟨p, hp, rfl⟩ := inB_of h.1 (by omega)
  have h2 := h.2
  rw [nI_clamp (by omega)] at h2
  simp at h2
  exact ⟨p, hp, rfl, h2.1, h2.2⟩
/-- the shape of a NODE with one part or two, that is no row -/
theorem shp_part {T : AT} {K m : Nat} {s v : Int32} (eS : aS T m = s) (eV : aV T m = v) (eH : aH T m = false) (hM : ∀ p ∈ aP T m, aM T p = -1)
    (h : (s = 4 ∧ ((aP T m).length = 1 ∨ (aP T m).length = 2) ∧ (v = 0 ∨ v = 1 ∨ v = 2)) ∨ ((s = 5 ∨ s = 6) ∧ (aP T m).length = 1 ∧ (v = 0 ∨ v = 1 ∨ v = 2)) ∨ (s = 7 ∧ (aP T m).length = 1 ∧ (v = 0 ∨ v = 1 ∨ v = 2 ∨ v = 3)) ∨ ((s = 8 ∨ s = 9) ∧ (aP T m).length = 1) ∨ (s = 12 ∧ (aP T m).length = 1 ∧ ∃ j, j < 6 ∧ v = nI j)) : shp T K m := by
  unfold shp
  rw [eS, eV, eH]
  rcases h with ⟨rfl, h1, h2⟩ | ⟨rfl | rfl, h1, h2⟩ | ⟨rfl, h1, h2⟩ | ⟨rfl | rfl, h1⟩ | ⟨rfl, h1, h2⟩
  · refine ⟨⟨4, by omega, by decide⟩, ?_, ?_, ?_, ?_, fun _ => h1, ?_, fun _ => h2, ?_, ?_, ?_, ?_, ?_, ?_, ?_, fun _ _ _ => hM⟩ <;> simp
  · refine ⟨⟨5, by omega, by decide⟩, ?_, ?_, ?_, ?_, ?_, fun _ => h1, fun _ => h2, ?_, ?_, ?_, ?_, ?_, ?_, ?_, fun _ _ _ => hM⟩ <;> simp
  · refine ⟨⟨6, by omega, by decide⟩, ?_, ?_, ?_, ?_, ?_, fun _ => h1, fun _ => h2, ?_, ?_, ?_, ?_, ?_, ?_, ?_, fun _ _ _ => hM⟩ <;> simp
  · refine ⟨⟨7, by omega, by decide⟩, ?_, ?_, ?_, ?_, ?_, fun _ => h1, ?_, fun _ => h2, ?_, ?_, ?_, ?_, ?_, ?_, fun _ _ _ => hM⟩ <;> simp
  · refine ⟨⟨8, by omega, by decide⟩, ?_, ?_, ?_, ?_, ?_, fun _ => h1, ?_, ?_, ?_, ?_, ?_, ?_, ?_, ?_, fun _ _ _ => hM⟩ <;> simp
  · refine ⟨⟨9, by omega, by decide⟩, ?_, ?_, ?_, ?_, ?_, fun _ => h1, ?_, ?_, ?_, ?_, ?_, ?_, ?_, ?_, fun _ _ _ => hM⟩ <;> simp
  · refine ⟨⟨12, by omega, by decide⟩, ?_, ?_, ?_, ?_, ?_, fun _ => h1, ?_, ?_, ?_, fun _ => h2, ?_, ?_, ?_, ?_, fun _ _ _ => hM⟩ <;> simp
/-- one part -/
theorem one_part {kn : KnS} {tr : TrS} {rw : RwS} {mb : MbS} {K : Nat} {ab : Nat → Nat} {B : Nat → Nat → Bool} {T : AT} {ks : List Nat} {fs : Nat → Nat} {rk : Option Nat} {rl : List Nat} (h : Bld kn tr rw mb K ab B T ks fs rk rl) (hn : aN T < 60) {s v : Int32} {p : Nat} (hp : p < aN T) (hk : p ∉ ks) (hr : p ∉ rl) (h14 : s ≠ 14) (h15 : s ≠ 15) (h16 : s ≠ 16)
    (hs : ((s = 4 ∨ s = 5 ∨ s = 6) ∧ (v = 0 ∨ v = 1 ∨ v = 2)) ∨ (s = 7 ∧ (v = 0 ∨ v = 1 ∨ v = 2 ∨ v = 3)) ∨ (s = 8 ∨ s = 9) ∨ (s = 12 ∧ ∃ j, j < 6 ∧ v = nI j)) :
    f_Tr_adopt (nI (aN T)) (nI p) (trA tr (aN T) s v) = some (trD (trA tr (aN T) s v) (aN T) p ks.length) ∧ f_Md_join (nI (aN T)) (nI p) (mbA mb (aN T) s v) = some (mbJ (mbA mb (aN T) s v) (aN T) p none) ∧
    Bld kn (trD (trA tr (aN T) s v) (aN T) p ks.length) rw (mbJ (mbA mb (aN T) s v) (aN T) p none) K ab B (adT (addT T s v) (aN T) p) (ks ++ [p]) (va_up fs (aN T) ks.length) rk rl := by
  have hB := h
  obtain ⟨b1, b2, b3, b4, b5, b6, b7, b8, b9, b10, b11, b12, b13⟩ := h
  have t1 := TrR_add b5 hn s v
  have m1 := MbR_add b6 b7 (fun p hp => (b8.2 p hp).1) s v
  have w1 := WT_add b7 s v
  have eP0 : aP (addT T s v) (aN T) = [] := up_s
  have hf : ∀ q, q < aN (addT T s v) → p ∉ aP (addT T s v) q := by
    intro q hq hpq
    have hpq : p ∈ va_up (aP T) (aN T) [] q := hpq
    have hq : q < aN T + 1 := hq
    by_cases e : q = aN T
    · subst e; rw [up_s] at hpq; exact absurd hpq (by simp)
    · rw [up_n e] at hpq; exact hk (TrR_sub b5 q (by omega) p hpq)
  have hlen := TrR_len b5
  have t2 := (TrR_ad (m := aN T) (p := p) t1 rfl (by show p < aN T + 1; omega) hk (by rw [up_s, eP0]; simp)).1
  have m2 := MbR_ad (m := aN T) (p := p) (rl' := rl) m1 w1 (by show aN T < aN T + 1; omega) (by show p < aN T + 1; omega) hf hr (fun _ _ _ => Iff.rfl) m1.2.2.2.2 (fun x hx q hq hxq => by
    have hxq : x ∈ va_up (aP T) (aN T) [] q := hxq
    have hq : q < aN T + 1 := hq
    by_cases e : q = aN T
    · subst e; rw [up_s] at hxq; exact absurd hxq (by simp)
    · rw [up_n e] at hxq; exact (b8.2 x hx).2 (TrR_sub b5 q (by omega) x hxq))
  have w2 := WT_ad (m := aN T) (p := p) w1 (by show aN T < aN T + 1; omega) hp hf
  rw [eP0] at m2
  have eP : aP (adT (addT T s v) (aN T) p) (aN T) = [p] := by
    show va_up (aP (addT T s v)) (aN T) (aP (addT T s v) (aN T) ++ [p]) (aN T) = _
    rw [up_s, eP0]; rfl
  have eS : aS (adT (addT T s v) (aN T) p) (aN T) = s := upd_s
  have eV : aV (adT (addT T s v) (aN T) p) (aN T) = v := upd_s
  have eH : aH (adT (addT T s v) (aN T) p) (aN T) = false := up_s
  have eM : aM (adT (addT T s v) (aN T) p) p = -1 := by
    show upd (aM T) (aN T) (-1) p = -1
    rw [upd_n (by omega)]; exact b12 p hp hk hr
  have old : ∀ m, m < aN T → aS (adT (addT T s v) (aN T) p) m = aS T m ∧ aV (adT (addT T s v) (aN T) p) m = aV T m ∧ aM (adT (addT T s v) (aN T) p) m = aM T m ∧ aP (adT (addT T s v) (aN T) p) m = aP T m ∧ aE (adT (addT T s v) (aN T) p) m = aE T m ∧ aH (adT (addT T s v) (aN T) p) m = aH T m := by
    intro m hm
    have e : m ≠ aN T := by omega
    refine ⟨upd_n e, upd_n e, upd_n e, ?_, upd_n e, up_n e⟩
    show va_up (aP (addT T s v)) (aN T) _ m = _
    rw [up_n e]
    exact up_n e
  refine ⟨tr_adopt b5.2.2.1 (by omega) hn (by omega), md_join (o := none) ?_ (fun q hq => by cases hq) hn (by omega), ?_⟩
  · show upd (Mb_last mb) (aN T) (-1) (aN T) = _
    rw [upd_s]; rfl
  · refine Bld_fin hB rfl old t2 m2 w2 b4 ⟨b8.1, fun x hx => ⟨by have := (b8.2 x hx).1; show x < aN T + 1; omega, ?_⟩⟩ ?_ ?_ ?_ ?_ ?_ ?_
    · intro hxk
      rcases List.mem_append.mp hxk with hxk | hxk
      · exact (b8.2 x hx).2 hxk
      · simp at hxk; subst hxk; exact hr hx
    · refine shp_part eS eV eH (fun q hq => by rw [eP] at hq; simp at hq; subst hq; exact eM) ?_
      rw [eP]
      rcases hs with ⟨rfl | rfl | rfl, hv⟩ | ⟨rfl, hv⟩ | (rfl | rfl) | ⟨rfl, hv⟩
      · exact Or.inl ⟨rfl, Or.inl rfl, hv⟩
      · exact Or.inr (Or.inl ⟨Or.inl rfl, rfl, hv⟩)
      · exact Or.inr (Or.inl ⟨Or.inr rfl, rfl, hv⟩)
      · exact Or.inr (Or.inr (Or.inl ⟨rfl, rfl, hv⟩))
      · exact Or.inr (Or.inr (Or.inr (Or.inl ⟨Or.inl rfl, rfl⟩)))
      · exact Or.inr (Or.inr (Or.inr (Or.inl ⟨Or.inr rfl, rfl⟩)))
      · exact Or.inr (Or.inr (Or.inr (Or.inr ⟨rfl, rfl, hv⟩)))
    · intro m hm
      show upd (Tr_tail tr) (aN T) (-1) m = _
      rw [upd_n (by omega)]
    · exact ⟨fun h => absurd (eS.symm.trans h) h14, fun h => absurd (eS.symm.trans h) h16⟩
    · intro m hm
      show lb (Tr_defaults tr) m = _
      by_cases e : m = aN T
      · rw [if_pos e, e, b11 _ (by omega)]
        have : dfB (adT (addT T s v) (aN T) p) (aN T) = false := by
          unfold dfB; rw [eS]; simp [h14, h15]
        rw [this]; simp
      · rw [if_neg e]
    · intro q hq hqk hqr
      have hq : q < aN T + 1 := hq
      show upd (aM T) (aN T) (-1) q = -1
      by_cases e : q = aN T
      · subst e; rw [upd_s]
      · rw [upd_n e]; exact b12 q (by omega) (fun h => hqk (List.mem_append_left _ h)) hqr
    · exact RowR_congr b13 (Nat.le_refl _) (fun q hq => (old q (b8.2 q hq).1).2.2.1) rfl rfl rfl rfl
theorem s_label (N : Nat) : S_label N Rel := by
  intro kn tr rw lk f0 f1 mb mg mx mf x y hR
  have hR' := hR
  obtain ⟨K, ab, B, T, ks, fs, rk, rl, hB, hL⟩ := hR
  have ht := hB.2.2.2.2.1
  have hm := hB.2.2.2.2.2.1
  have hn := ht.2.1
  rw [f_Rf_label.eq_1, f_Md_label.eq_1, rf_isName, md_tI, tr_isFree ht, md_isFree hm hn (ks_iff ht), tr_isFull ht.1 hn]
  simp only [Option.bind_some, b0]
  by_cases hx : tI x 0 5 = true
  · by_cases hy : frB T ks rl y = true
    · simp only [if_pos hx]
      unfold frB at hy
      simp only [if_pos hy]
      obtain ⟨p, hp, rfl, hk, hr⟩ := frB_of (T := T) (ks := ks) (rl := rl) hy hn
      by_cases h60 : aN T = 60
      · rw [if_pos ((nodes60 hm.1 hn).mpr h60), if_pos (by simp; omega)]
        exact ⟨_, _, rfl, rfl, rfl, hR'⟩
      · obtain ⟨j, hj, rfl⟩ := tI_mem (n := 5) (by omega) hx
        obtain ⟨e1, e2, e3⟩ := one_part (s := 12) (v := nI j) hB (by omega) hp hk hr (by decide) (by decide) (by decide) (Or.inr (Or.inr (Or.inr ⟨rfl, j, by omega, rfl⟩)))
        rw [if_neg (fun c => h60 ((nodes60 hm.1 hn).mp c)), if_neg (by simp; omega), tr_add ht.1 (by omega), md_make hm.1 (by omega)]
        simp only [Option.bind_some]
        rw [e1, e2]
        exact ⟨_, _, rfl, rfl, rfl, K, ab, B, _, _, _, rk, rl, e3, LkR_add hL (by omega)⟩
    · unfold frB at hy
      simp only [if_pos hx, if_neg hy]
      exact ⟨_, _, rfl, rfl, rfl, hR'⟩
  · simp only [if_neg hx]
    exact ⟨_, _, rfl, rfl, rfl, hR'⟩
