theorem blB_of {T : AT} {ks rl : List Nat} {x : Int32} (h : blB T ks rl x = true) (hn : aN T ≤ 60) : ∃ p, p < aN T ∧ x = nI p ∧ p ∉ ks ∧ p ∉ rl := by
  unfold blB at h
  rw [Bool.and_eq_true] at h
  exact frB_of h.1 hn
theorem MbR_C {mb : MbS} {T : AT} {rl : List Nat} (h : MbR mb T rl) : MbR (mbC mb) T rl := by
  obtain ⟨h1, h2, h3, h4, h5⟩ := h
  exact ⟨h1, h2, h3, h4, h5⟩
theorem MkR_C {mb : MbS} {K : Nat} {ab : Nat → Nat} (h : MkR mb K ab) : MkR (mbC mb) K ab := by
  obtain ⟨h1, h2, h3⟩ := h
  exact ⟨h1, h2, h3⟩
theorem MkR_E {mb : MbS} {K : Nat} {ab : Nat → Nat} (h : MkR mb K ab) (m : Nat) (x : Int32) : MkR (mbE mb m x) K ab := by
  obtain ⟨h1, h2, h3⟩ := h
  exact ⟨h1, h2, h3⟩
theorem MkR_H {mb : MbS} {K : Nat} {ab : Nat → Nat} (h : MkR mb K ab) (m : Nat) : MkR (mbH mb m) K ab := by
  obtain ⟨h1, h2, h3⟩ := h
  exact ⟨h1, h2, h3⟩
theorem MkR_J {mb : MbS} {K : Nat} {ab : Nat → Nat} (h : MkR mb K ab) (m p : Nat) (o : Option Nat) : MkR (mbJ mb m p o) K ab := by
  obtain ⟨h1, h2, h3⟩ := h
  exact ⟨h1, h2, h3⟩
theorem TrR_ex {tr : TrS} {T : AT} {ks : List Nat} {fs : Nat → Nat} {rl : List Nat} (h : TrR tr T ks fs rl) (m : Nat) (x : Int32) : TrR tr (exT T m x) ks fs rl := by
  obtain ⟨h1, h2, h3, h4, h5, h6, h7, h8, h9, h10, h11⟩ := h
  exact ⟨h1, h2, h3, h4, h5, h6, h7, h8, h9, h10, h11⟩
theorem TrR_eh {tr : TrS} {T : AT} {ks : List Nat} {fs : Nat → Nat} {rl : List Nat} (h : TrR tr T ks fs rl) (m : Nat) : TrR tr (ehT T m) ks fs rl := by
  obtain ⟨h1, h2, h3, h4, h5, h6, h7, h8, h9, h10, h11⟩ := h
  exact ⟨h1, h2, h3, h4, h5, h6, h7, h8, h9, h10, h11⟩
theorem WT_ex {T : AT} (h : WT T) (m : Nat) (x : Int32) : WT (exT T m x) := by
  obtain ⟨h1, h2, h3⟩ := h
  exact ⟨h1, h2, h3⟩
theorem WT_eh {T : AT} (h : WT T) (m : Nat) : WT (ehT T m) := by
  obtain ⟨h1, h2, h3⟩ := h
  exact ⟨h1, h2, h3⟩
theorem end_close {kn : KnS} {tr tr2 : TrS} {rw : RwS} {mb mb2 : MbS} {mg : MgS} {K N : Nat} {ab : Nat → Nat} {B : Nat → Nat → Bool} {T T2 : AT} {ks : List Nat} {fs fs2 : Nat → Nat} {k : Nat} {rl : List Nat} {x : Int32} (hB : Bld kn tr rw mb K ab B T ks fs (some k) rl) (hlt : aN T < 60) (hf : fE T ks rl k x = true)
    (n1 : aN T2 = aN T + 1) (old : ∀ m, m < aN T → aS T2 m = aS T m ∧ aV T2 m = aV T m ∧ aM T2 m = aM T m ∧ aP T2 m = aP T m ∧ aE T2 m = aE T m ∧ aH T2 m = aH T m)
    (sS : aS T2 (aN T) = nI (13 + k)) (sM : aM T2 (aN T) = -1) (sE : aE T2 (aN T) = 0) (sH : aH T2 (aN T) = false) (p1 : aP T2 (aN T) = rl)
    (t3 : TrR tr2 T2 (ks ++ rl) fs2 []) (e3 : fs2 (aN T) + (aP T2 (aN T)).length = (ks ++ rl).length) (g2 : MbR mb2 T2 []) (g3 : WT T2) (g4 : Mb_rowKind mb2 = nI k) (hmk : MkR mb2 K ab) (e4 : ∀ m, m < aN T → Tr_tail tr2 m = Tr_tail tr m) (e5 : Tr_defaults tr2 = Tr_defaults tr) :
    ∃ tr' mb' T' ks', f_Tr_closeRow (nI (aN T)) x (Rw_hasDefault rw) tr2 = some tr' ∧ mdE N x (aN T) mb2 mg = some (nI (aN T), mb', mg) ∧ aN T' = aN T + 1 ∧ Bld kn tr' (-1, 0, 0, Rw_parts rw) mb' K ab B T' ks' fs2 none [] := by
  obtain ⟨b1, b2, b3, b4, b5, b6, b7, b8, b9, b10, b11, b12, b13⟩ := hB
  have hB : Bld kn tr rw mb K ab B T ks fs (some k) rl := ⟨b1, b2, b3, b4, b5, b6, b7, b8, b9, b10, b11, b12, b13⟩
  obtain ⟨a0, a1, a2, a3, a4, a5, a6, a7, a8, -⟩ := b13
  have hn := b5.2.1
  have tl : ∀ (y : Int32) (d : Int64) (m : Nat), m < aN T → Tr_tail (trT tr2 (aN T) y d) m = Tr_tail tr m := by
    intro y d m hm'
    show upd (Tr_tail tr2) (aN T) y m = _
    rw [upd_n (by omega)]; exact e4 m hm'
  have tln : ∀ (y : Int32) (d : Int64), Tr_tail (trT tr2 (aN T) y d) (aN T) = y := fun y d => upd_s
  have hst : Tr_sort tr2 (aN T) = nI (13 + k) := by
    rw [(t3.2.2.2.1 (aN T) (by omega)).1]; exact sS
  have d1 : nI k = 1 ↔ k = 1 := by rw [show (1 : Int32) = nI 1 by decide, nI_eq (by omega) (by omega)]
  have d3 : nI k = 3 ↔ k = 3 := by rw [show (3 : Int32) = nI 3 by decide, nI_eq (by omega) (by omega)]
  have d16 : nI (13 + k) = 16 ↔ k = 3 := by rw [show (16 : Int32) = nI 16 by decide, nI_eq (by omega) (by omega)]; omega
  rw [a4]
  unfold fE at hf
  by_cases c1 : k = 1
  · rw [if_pos c1] at hf
    have hx : x = 0 ∨ x = 1 ∨ x = 2 := by
      simp at hf
      rcases hf with (hf | hf) | hf
      · exact Or.inl hf
      · exact Or.inr (Or.inl hf)
      · exact Or.inr (Or.inr hf.1)
    refine ⟨_, mbC (mbE mb2 (aN T) x), exT T2 (aN T) x, ks ++ rl, tr_closeRow hlt (by rw [hst]; intro hh; have := d16.mp hh; omega), mdE_1 (by rw [g4]; exact d1.mpr c1), n1, ?_⟩
    refine Bld_row (o := none) (x := x) hB hlt n1 ?_ sS ?_ ?_ sH sM (fun _ => hx) (fun e => by omega) (fun _ => rfl) (fun e => by omega) (fun p hp => by cases hp) ?_ (TrR_ex (TrR_T t3 _ _ _) _ _) ?_ (WT_ex g3 _ _) (MkR_C (MkR_E hmk _ _)) (tl _ _) ?_ ?_ rfl
    · intro m hm'
      obtain ⟨o1, o2, o3, o4, o5, o6⟩ := old m hm'
      refine ⟨o1, o2, o3, o4, ?_, o6⟩
      show upd _ _ _ _ = _
      rw [upd_n (by omega)]; exact o5
    · rw [show aP (exT T2 (aN T) x) (aN T) = rl from p1]; simp
    · rw [if_pos c1]; exact upd_s
    · simp
    · exact MbR_C (MbR_E g2 _ _)
    · rw [if_neg (show ¬ k = 3 by omega)]; exact tln _ _
    · show (if _ then Tr_defaults tr2 ||| lbit (aN T) else Tr_defaults tr2) = _
      rw [e5, c1]; simp
  · rw [if_neg c1] at hf
    by_cases c3 : k = 3
    · rw [if_pos c3] at hf
      rw [Bool.and_eq_true] at hf
      have hl0 : rl.length ≠ 0 := by simpa using hf.1
      have hne : rl ≠ [] := fun e => hl0 (by rw [e]; rfl)
      have hf2 := hf.2
      by_cases cx : x = -1
      · rw [if_pos cx] at hf2
        have hl1 : 2 ≤ rl.length := by
          have : ¬ rl.length ≤ 1 := by simpa using hf2
          omega
        subst cx
        refine ⟨_, mbC mb2, T2, ks ++ rl, tr_closeTry hlt (by rw [hst]; exact d16.mpr c3), mdE_3 (by rw [g4]; exact d3.mpr c3), n1, ?_⟩
        refine Bld_row (o := none) (x := -1) hB hlt n1 old sS ?_ ?_ sH sM (fun e => by omega) (fun _ => ⟨hne, by simpa using hl1⟩) (fun _ => rfl) (fun e => by omega) (fun p hp => by cases hp) ?_ (TrR_T t3 _ _ _) (MbR_C g2) g3 (MkR_C hmk) (tl _ _) ?_ ?_ rfl
        · rw [p1]; simp
        · rw [if_neg c1]; exact sE
        · simp
        · rw [if_pos c3]; exact tln _ _
        · show Tr_defaults tr2 = _
          rw [e5, c3]; simp
      · rw [if_neg cx] at hf2
        obtain ⟨p, hp, rfl, hpk, hpr⟩ := blB_of hf2 hn
        have hnk : aN T ∉ ks := fun hh => by have := b5.2.2.2.2.2.2.1 _ hh; omega
        have hkl : (ks ++ rl).length < 60 := by
          have h1 : (aN T :: p :: (ks ++ rl)).Nodup := by
            rw [List.nodup_cons, List.nodup_cons]
            refine ⟨?_, ?_, t3.2.2.2.2.2.1⟩
            · intro hh
              rcases List.mem_cons.mp hh with hh | hh
              · omega
              · rcases List.mem_append.mp hh with hh | hh
                · exact hnk hh
                · have := (b8.2 _ hh).1; omega
            · intro hh
              rcases List.mem_append.mp hh with hh | hh
              · exact hpk hh
              · exact hpr hh
          have h2 := nodup_le (n := aN T + 1) h1 (fun q hq => by
            rcases List.mem_cons.mp hq with rfl | hq
            · omega
            · rcases List.mem_cons.mp hq with rfl | hq
              · omega
              · rcases List.mem_append.mp hq with hq | hq
                · have := b5.2.2.2.2.2.2.1 q hq; omega
                · have := (b8.2 q hq).1; omega)
          simp at h2 ⊢
          omega
        have hpn : p ∉ ks ++ rl := fun hh => by
          rcases List.mem_append.mp hh with hh | hh
          · exact hpk hh
          · exact hpr hh
        have hfp : ∀ q, q < aN T2 → p ∉ aP T2 q := fun q hq hh => hpn (TrR_sub t3 q hq p hh)
        have t4 := (TrR_ad (m := aN T) (p := p) (TrR_T t3 (aN T) (nI p) (Tr_defaults tr2)) n1.symm (by omega) hpn e3).1
        have m4 := MbR_ad (m := aN T) (p := p) (rl' := []) g2 g3 (by omega) (by omega) hfp (by simp) (fun _ _ _ => Iff.rfl) (fun i y hy => by simp at hy) (fun y hy => by simp at hy)
        have w4 := WT_ad (m := aN T) (p := p) g3 (by omega) hp hfp
        have hlast : Mb_last mb2 (aN T) = nx (aP T2 (aN T)).getLast? := (g2.2.1 (aN T) (by omega)).2.2.2.2.2.2.1
        refine ⟨trD (trT tr2 (aN T) (nI p) (Tr_defaults tr2)) (aN T) p (ks ++ rl).length, mbC (mbH (mbJ mb2 (aN T) p (aP T2 (aN T)).getLast?) (aN T)), ehT (adT T2 (aN T) p) (aN T), ks ++ rl ++ [p], ?_, ?_, n1, ?_⟩
        · rw [tr_closeTry2 hlt (by omega) (by rw [hst]; exact d16.mpr c3)]
          exact tr_adopt (c := (ks ++ rl).length) (TrR_T t3 (aN T) (nI p) (Tr_defaults tr2)).2.2.1 hkl hlt (by omega)
        · exact mdE_3p (p := p) (by rw [g4]; exact d3.mpr c3) hlt (by omega) hlast (fun q hq => by
            have := g3.1 (aN T) (by omega) q (List.mem_of_getLast? hq); omega)
        · refine Bld_row (o := some p) (x := nI p) hB hlt n1 ?_ sS ?_ ?_ ?_ sM (fun e => by omega) (fun _ => ⟨hne, ?_⟩) (fun e => absurd c3 e) (fun e => by omega) (fun q hq => by cases hq; exact ⟨hp, hpk, hpr⟩) rfl (TrR_eh t4 _) ?_ (WT_eh w4 _) ?_ (fun m hm' => tl (nI p) (Tr_defaults tr2) m hm') ?_ ?_ rfl
          · intro m hm'
            obtain ⟨o1, o2, o3, o4, o5, o6⟩ := old m hm'
            refine ⟨o1, o2, o3, ?_, o5, ?_⟩
            · show va_up _ _ _ m = _
              rw [up_n (by omega)]; exact o4
            · show va_up _ _ _ m = _
              rw [up_n (by omega)]; exact o6
          · show va_up _ (aN T) _ (aN T) = _
            rw [up_s, p1]; rfl
          · rw [if_neg c1]; exact sE
          · show va_up _ (aN T) true (aN T) = _
            rw [up_s]; rfl
          · simp; omega
          · exact MbR_C (MbR_H m4 _)
          · exact MkR_C (MkR_H (MkR_J hmk _ _ _) _)
          · rw [if_pos c3]; exact tln (nI p) (Tr_defaults tr2)
          · show Tr_defaults tr2 = _
            rw [e5, c3]; simp
    · rw [if_neg c3] at hf
      have hx : x = 0 := by simpa using hf
      subst hx
      refine ⟨_, mbC mb2, T2, ks ++ rl, tr_closeRow hlt (by rw [hst]; exact fun hh => c3 (d16.mp hh)), mdE_0 (by rw [g4]; exact fun hh => c1 (d1.mp hh)) (by rw [g4]; exact fun hh => c3 (d3.mp hh)), n1, ?_⟩
      refine Bld_row (o := none) (x := 0) hB hlt n1 old sS ?_ ?_ sH sM (fun e => by omega) (fun e => absurd e c3) (fun _ => rfl) (fun _ => rfl) (fun p hp => by cases hp) ?_ (TrR_T t3 _ _ _) (MbR_C g2) g3 (MkR_C hmk) (tl _ _) ?_ ?_ rfl
      · rw [p1]; simp
      · rw [if_neg c1]; exact sE
      · simp
      · rw [if_neg c3]; exact tln _ _
      · show (if _ then Tr_defaults tr2 ||| lbit (aN T) else Tr_defaults tr2) = _
        rw [e5]; simp [c3]
