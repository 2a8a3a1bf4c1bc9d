theorem rw_add {rw : RwS} {T : AT} {k p len : Nat} {rl : List Nat} {y : Int32} (hk : k ≤ 3) (h1 : Rw_sort rw = nI (13 + k)) (h2 : Rw_size rw = nI len) (hl : len < 60) (h3 : Rw_hasDefault rw = bi (!decide (k = 3) && anyD T rl)) (hy : k = 0 → y ≠ 2) : ∃ rw', f_Rw_add (nI p) y rw = some rw' ∧ Rw_sort rw' = Rw_sort rw ∧ Rw_size rw' = nI (len + 1) ∧ Rw_parts rw' = upd (Rw_parts rw) len (nI p) ∧ Rw_hasDefault rw' = bi (!decide (k = 3) && (anyD T rl || decide ((if k = 0 then (-1 : Int32) else y) = 2))) := by
  have h16 : Rw_sort rw = 16 ↔ k = 3 := by
    rw [h1, show (16 : Int32) = nI 16 by decide, nI_eq (by omega) (by omega)]; omega
  rw [f_Rw_add.eq_1, h2, if_pos (inB_nI hl (by decide)), nI_clamp (by omega), nI_1]
  by_cases c3 : k = 3
  · rw [if_pos (h16.mpr c3)]
    refine ⟨_, rfl, rfl, rfl, rfl, ?_⟩
    show Rw_hasDefault rw = _
    rw [h3]; simp [c3]
  · rw [if_neg (fun h => c3 (h16.mp h))]
    by_cases c2 : y = 2
    · rw [if_pos c2]
      refine ⟨_, rfl, rfl, rfl, rfl, ?_⟩
      show (1 : Int32) = _
      have c0 : k ≠ 0 := fun e => hy e c2
      simp [c3, c0, c2, bi]
    · rw [if_neg c2]
      refine ⟨_, rfl, rfl, rfl, rfl, ?_⟩
      show Rw_hasDefault rw = _
      rw [h3]
      by_cases c0 : k = 0
      · simp [c0]
      · simp [c0, c2]
theorem fR_ok {T : AT} {ks rl : List Nat} {K k : Nat} {x y : Int32} (hK : K ≤ 12) (hk : k ≤ 3) (h : fR T ks rl K k x y = true) : frB T ks rl x = true ∧ mkOK K k rl.length (if k = 0 then -1 else y) ∧ (k = 0 → y ≠ 2) := by
  unfold fR at h
  rw [Bool.and_eq_true] at h
  refine ⟨h.1, ?_, ?_⟩
  · have h2 := h.2
    have hk : k = 0 ∨ k = 1 ∨ k = 2 ∨ k = 3 := by omega
    rcases hk with rfl | rfl | rfl | rfl
    · exact ⟨fun _ => rfl, fun e => by omega, fun e => by omega, fun e => by omega⟩
    · refine ⟨fun e => by omega, fun _ => ?_, fun e => by omega, fun e => by omega⟩
      simp at h2
      show (y = 0 ∨ y = 1 ∨ y = 2) ∧ (rl.length = 0 → y ≠ 0)
      rcases h2 with (⟨rfl, hne⟩ | rfl) | ⟨rfl, -⟩
      · exact ⟨Or.inl rfl, fun e => by simp at e; exact absurd e hne⟩
      · exact ⟨Or.inr (Or.inl rfl), fun _ => by decide⟩
      · exact ⟨Or.inr (Or.inr rfl), fun _ => by decide⟩
    · refine ⟨fun e => by omega, fun e => by omega, fun _ => ?_, fun e => by omega⟩
      simp at h2
      show y = 1 ∨ y = 2
      rcases h2.1 with rfl | ⟨rfl, -⟩
      · exact Or.inl rfl
      · exact Or.inr rfl
    · refine ⟨fun e => by omega, fun e => by omega, fun e => by omega, fun _ => ?_⟩
      show if rl.length = 0 then y = -1 else _
      rw [if_neg (by decide), if_neg (by decide), if_neg (by decide), Bool.and_eq_true] at h2
      by_cases c : rl.length = 0
      · rw [if_pos c] at h2 ⊢
        simpa using h2.2
      · rw [if_neg c] at h2 ⊢
        exact inB_of h2.2 (by omega)
  · intro e
    have h2 := h.2
    rw [if_pos e] at h2
    have : y = 0 := by simpa using h2
    rw [this]; decide
theorem s_put {N : Nat} (hN : 100 < N) : S_put N Rel := by
  intro kn tr rw lk f0 f1 mb mg mx mf x y hR
  have hR' := hR
  obtain ⟨K, ab, B, T, ks, fs, rk, rl, hB, hL⟩ := hR
  have hrow := hB.2.2.2.2.2.2.2.2.2.2.2.2
  have hn := hB.2.2.2.2.1.2.1
  rw [f_Rf_put.eq_1, f_Md_put.eq_1, f_Rw_isOpen.eq_1]
  cases rk with
  | none =>
    obtain ⟨a1, a2, a3, a4, a5⟩ := hrow
    rw [a1, a4, if_pos rfl, if_pos rfl]
    exact ⟨_, _, rfl, rfl, rfl, hR'⟩
  | some k =>
    obtain ⟨a0, a1, a2, a3, a4, a5, a6, a7, a8, -⟩ := hrow
    rw [rf_fitsRow hB, md_mayPut hB hN]
    rw [if_neg (show ¬ Rw_sort rw = -1 by rw [a1]; exact nI_ne_m1 (by omega)), if_neg (show ¬ Mb_rowKind mb = -1 by rw [a5]; exact nI_ne_m1 (by omega))]
    simp only [Option.bind_some, b0]
    rw [if_neg (show ¬ (1 : Int32) = 0 by decide)]
    by_cases hf : fR T ks rl K k x y = true
    · simp only [if_pos hf]
      obtain ⟨hfr, hz, hy⟩ := fR_ok hB.1.2.1 a0 hf
      obtain ⟨p, hp, rfl, hpk, hpr⟩ := frB_of hfr hn
      have b8 := hB.2.2.2.2.2.2.2.1
      have hlen : rl.length < 60 := by
        have h1 : (p :: rl).Nodup := List.nodup_cons.mpr ⟨hpr, b8.1⟩
        have h2 := nodup_le (n := aN T) h1 (fun q hq => by
          rcases List.mem_cons.mp hq with rfl | hq
          · exact hp
          · exact (b8.2 q hq).1)
        simp at h2; omega
      obtain ⟨rw', e1, e2, e3, e4, e5⟩ := rw_add (p := p) (T := T) (rl := rl) (y := y) a0 a1 a2 hlen a4 hy
      have hB2 := Bld_put hB hp hpk hpr hz e2 e3 e4 e5
      have hq : ∀ q, rl.getLast? = some q → q < 60 := fun q hq => by
        have := (b8.2 q (List.mem_of_getLast? hq)).1; omega
      have hm47 : ∀ z, f_Md_put_b47 N z (nI p) (nI p) _ = _ := fun z => md_put47 (mb := mb) (mb0 := mb) (o := rl.getLast?) (by omega) a8 hq z
      have hc47 : ∀ z, f_Rf_put_b47 z (nI p) (nI p) y kn tr rw = some (nI (rl.length + 1), trP tr p z, rw') := fun z => by
        rw [f_Rf_put_b47.eq_1, tr_take (by omega)]
        simp only [Option.bind_some]
        rw [e1]
        simp only [Option.bind_some]
        rw [e3]
      rw [if_pos (inB_nI (by omega) (by decide)), nI_clamp (by omega), nar1, a1, a5, hc47, hc47]
      have d13 : nI (13 + k) = 13 ↔ k = 0 := by
        rw [show (13 : Int32) = nI 13 by decide, nI_eq (by omega) (by omega)]; omega
      have d0 : nI k = 0 ↔ k = 0 := by
        rw [show (0 : Int32) = nI 0 by decide, nI_eq (by omega) (by omega)]
      have h1 := hm47 (-1)
      have h2 := hm47 y
      rw [a5] at h1 h2
      rw [h1, h2, a6, nI_1]
      by_cases c0 : k = 0
      · rw [if_pos (d13.mpr c0), if_pos (d0.mpr c0)]
        rw [if_pos c0] at hB2
        exact ⟨_, _, rfl, rfl, rfl, K, ab, B, _, ks, fs, some k, _, hB2, hL⟩
      · rw [if_neg (fun c => c0 (d13.mp c)), if_neg (fun c => c0 (d0.mp c))]
        rw [if_neg c0] at hB2
        exact ⟨_, _, rfl, rfl, rfl, K, ab, B, _, ks, fs, some k, _, hB2, hL⟩
    · simp only [if_neg hf]
      exact ⟨_, _, rfl, rfl, rfl, hR'⟩
