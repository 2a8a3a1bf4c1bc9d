/-! node() -/
theorem second_part {kn : KnS} {tr : TrS} {rw : RwS} {mb : MbS} {K : Nat} {ab : Nat → Nat} {B : Nat → Nat → Bool} {T : AT} {ks : List Nat} {fs : Nat → Nat} {rk : Option Nat} {rl : List Nat} (h : Bld kn tr rw mb K ab B T ks fs rk rl) {n a b : Nat} {v : Int32} (hn : n < 60) (n1 : aN T = n + 1) (eP : aP T n = [a]) (eS : aS T n = 4) (eV : aV T n = v) (hv : v = 0 ∨ v = 1 ∨ v = 2) (hb : b < n) (hk : b ∉ ks) (hr : b ∉ rl) (hfs : fs n + 1 = ks.length) :
    f_Tr_adopt (nI n) (nI b) tr = some (trD tr n b ks.length) ∧ f_Md_join (nI n) (nI b) mb = some (mbJ mb n b (some a)) ∧ Bld kn (trD tr n b ks.length) rw (mbJ mb n b (some a)) K ab B (adT T n b) (ks ++ [b]) fs rk rl := by
  obtain ⟨b1, b2, b3, b4, b5, b6, b7, b8, b9, b10, b11, b12, b13⟩ := h
  have hlen := TrR_len b5
  have hnk : n ∉ ks := fun hh => by
    obtain ⟨m, hm, hp⟩ := b5.2.2.2.2.2.2.2.2.2.1 n hh
    have := b7.1 m hm n hp
    omega
  have hlt : ks.length < 60 := by
    have h1 : (n :: b :: ks).Nodup := by
      rw [List.nodup_cons, List.nodup_cons]
      refine ⟨?_, hk, b5.2.2.2.2.2.1⟩
      intro hh
      rcases List.mem_cons.mp hh with hh | hh
      · omega
      · exact hnk hh
    have h2 := nodup_le (n := aN T) h1 (fun p hp => by
      rcases List.mem_cons.mp hp with rfl | hp
      · omega
      · rcases List.mem_cons.mp hp with rfl | hp
        · omega
        · exact b5.2.2.2.2.2.2.1 p hp)
    have h3 := b5.2.1
    simp at h2
    omega
  have ha : a < n := b7.1 n (by omega) a (by rw [eP]; simp)
  have hf : ∀ q, q < aN T → b ∉ aP T q := fun q hq hbq => hk (TrR_sub b5 q hq b hbq)
  have t2 := (TrR_ad (m := n) (p := b) b5 (by omega) (by omega) hk (by rw [eP]; exact hfs)).1
  have m2 := MbR_ad (m := n) (p := b) (rl' := rl) b6 b7 (by omega) (by omega) hf hr (fun _ _ _ => Iff.rfl) b6.2.2.2.2 (fun x hx q hq hxq => (b8.2 x hx).2 (TrR_sub b5 q hq x hxq))
  have w2 := WT_ad (m := n) (p := b) b7 (by omega) hb hf
  rw [eP] at m2
  have eP2 : aP (adT T n b) n = [a, b] := by
    show va_up (aP T) n (aP T n ++ [b]) n = _
    rw [up_s, eP]; rfl
  have old : ∀ m, m ≠ n → aP (adT T n b) m = aP T m := fun m hm => up_n hm
  have eM : ∀ p ∈ [a, b], aM T p = -1 := by
    intro p hp
    have h16 := (b9 n (by omega)).2.2.2.2.2.2.2.2.2.2.2.2.2.2.2 (by rw [eS]; decide) (by rw [eS]; decide) (by rw [eS]; decide)
    rcases List.mem_cons.mp hp with rfl | hp
    · exact h16 p (by rw [eP]; simp)
    · simp at hp; subst hp; exact b12 p (by omega) hk hr
  refine ⟨tr_adopt b5.2.2.1 hlt hn (by omega), md_join (o := some a) ?_ (fun q hq => by cases hq; omega) hn (by omega), b1, b2, b3, b4, t2, m2, w2, ⟨b8.1, fun x hx => ⟨(b8.2 x hx).1, ?_⟩⟩, ?_, ?_, ?_, ?_, ?_⟩
  · rw [(b6.2.1 n (by omega)).2.2.2.2.2.2.1, eP]; rfl
  · intro hxk
    rcases List.mem_append.mp hxk with hxk | hxk
    · exact (b8.2 x hx).2 hxk
    · simp at hxk; subst hxk; exact hr hx
  · intro m hm
    by_cases e : m = n
    · subst e
      refine shp_part (s := 4) (v := v) eS eV ((b9 m hm).2.2.2.2.2.2.2.2.2.2.2.2.2.2.1 (by rw [eS]; decide)) (fun p hp => by rw [eP2] at hp; exact eM p hp) (Or.inl ⟨rfl, ?_, hv⟩)
      rw [eP2]; exact Or.inr rfl
    · exact shp_congr (b9 m hm) (Nat.le_refl _) rfl rfl (old m e) rfl rfl (fun _ _ => rfl)
  · intro m hm
    have := b10 m hm
    by_cases e : m = n
    · subst e
      exact ⟨fun h => absurd (eS.symm.trans h) (by decide), fun h => absurd (eS.symm.trans h) (by decide)⟩
    · unfold tlR at *
      rw [old m e]
      exact this
  · intro m hm
    show lb (Tr_defaults tr) m = _
    rw [b11 m hm]
    show (decide (m < aN T) && _) = (decide (m < aN T) && _)
    by_cases e : m = n
    · subst e
      unfold dfB
      rw [show aS (adT T m b) m = aS T m from rfl, eS]; rfl
    · unfold dfB
      rw [old m e]; rfl
  · intro p hp hpk hpr
    exact b12 p hp (fun hh => hpk (List.mem_append_left _ hh)) hpr
  · exact RowR_congr b13 (Nat.le_refl _) (fun _ _ => rfl) rfl rfl rfl rfl
theorem tI_02 {v : Int32} (h : tI v 0 2 = true) : v = 0 ∨ v = 1 ∨ v = 2 := by
  obtain ⟨j, hj, rfl⟩ := tI_mem (n := 2) (by omega) h
  have : j = 0 ∨ j = 1 ∨ j = 2 := by omega
  rcases this with rfl | rfl | rfl <;> decide
theorem tI_03 {v : Int32} (h : tI v 0 3 = true) : v = 0 ∨ v = 1 ∨ v = 2 ∨ v = 3 := by
  obtain ⟨j, hj, rfl⟩ := tI_mem (n := 3) (by omega) h
  have : j = 0 ∨ j = 1 ∨ j = 2 ∨ j = 3 := by omega
  rcases this with rfl | rfl | rfl | rfl <;> decide
/-- what a fitting NODE is: a leaf; or one part; or an IF with two -/
theorem fN_cases {K : Nat} {fr bl : Int32 → Bool} (hbl : ∀ x, bl x = true → fr x = true) {x1 x2 x3 x4 : Int32} (h : fN (fun x => inB x K) fr bl x1 x2 x3 x4 = true) (hK : K ≤ 12) :
    (x1 < 4 ∧ ¬ (4 : Int32) ≤ x1 ∧ x4 = -1 ∧ (x1 = 0 ∨ (x1 = 1 ∧ (x3 = -1 ∨ ∃ k, k < K ∧ x3 = nI k)) ∨ (x1 = 2 ∧ ∃ k, k < K ∧ x3 = nI k) ∨ (x1 = 3 ∧ (x3 = 0 ∨ x3 = 1)))) ∨
    (¬ x1 < 4 ∧ (4 : Int32) ≤ x1 ∧ fr x3 = true ∧ (((x1 = 4 ∨ x1 = 5 ∨ x1 = 6) ∧ (x2 = 0 ∨ x2 = 1 ∨ x2 = 2)) ∨ (x1 = 7 ∧ (x2 = 0 ∨ x2 = 1 ∨ x2 = 2 ∨ x2 = 3)) ∨ (x1 = 8 ∨ x1 = 9)) ∧ x1 ≠ 14 ∧ x1 ≠ 15 ∧ x1 ≠ 16 ∧ x1 ≠ 0 ∧ (x4 = -1 ∨ (x1 = 4 ∧ x4 ≠ -1 ∧ fr x4 = true ∧ x3 ≠ x4))) := by
  have h9 : tI x1 0 9 = true := by
    cases hh : tI x1 0 9
    · rw [fN_out hh] at h; cases h
    · rfl
  unfold fN at h
  rcases sort10 h9 with rfl | rfl | rfl | rfl | rfl | rfl | rfl | rfl | rfl | rfl
  · left; simp at h; exact ⟨by decide, by decide, h.1, Or.inl rfl⟩
  · left; simp at h
    refine ⟨by decide, by decide, h.1, Or.inr (Or.inl ⟨rfl, ?_⟩)⟩
    rcases h.2.2 with h | h
    · exact Or.inl h
    · obtain ⟨k, hk, e⟩ := inB_of h (by omega); exact Or.inr ⟨k, hk, e⟩
  · left; simp at h
    obtain ⟨k, hk, e⟩ := inB_of h.2.2 (by omega)
    exact ⟨by decide, by decide, h.1, Or.inr (Or.inr (Or.inl ⟨rfl, k, hk, e⟩))⟩
  · left; simp at h; exact ⟨by decide, by decide, h.1, Or.inr (Or.inr (Or.inr ⟨rfl, h.2.2⟩))⟩
  · right; simp at h
    refine ⟨by decide, by decide, h.1.2, Or.inl ⟨Or.inl rfl, tI_02 h.1.1⟩, by decide, by decide, by decide, by decide, ?_⟩
    by_cases c : x4 = -1
    · exact Or.inl c
    · rcases h.2 with h' | h'
      · exact absurd h' c
      · exact Or.inr ⟨rfl, c, h'.1, h'.2⟩
  · right; simp at h; exact ⟨by decide, by decide, h.2.2, Or.inl ⟨Or.inr (Or.inl rfl), tI_02 h.2.1⟩, by decide, by decide, by decide, by decide, Or.inl h.1⟩
  · right; simp at h; exact ⟨by decide, by decide, h.2.2, Or.inl ⟨Or.inr (Or.inr rfl), tI_02 h.2.1⟩, by decide, by decide, by decide, by decide, Or.inl h.1⟩
  · right; simp at h; exact ⟨by decide, by decide, h.2.2, Or.inr (Or.inl ⟨rfl, tI_03 h.2.1⟩), by decide, by decide, by decide, by decide, Or.inl h.1⟩
  · right; simp at h; exact ⟨by decide, by decide, h.2.2, Or.inr (Or.inr (Or.inl rfl)), by decide, by decide, by decide, by decide, Or.inl h.1⟩
  · right; simp at h; exact ⟨by decide, by decide, hbl _ h.2.2, Or.inr (Or.inr (Or.inr rfl)), by decide, by decide, by decide, by decide, Or.inl h.1⟩
