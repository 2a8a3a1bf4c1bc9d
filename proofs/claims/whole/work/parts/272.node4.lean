theorem s_node (N : Nat) : S_node N Rel := by
  intro kn tr rw lk f0 f1 mb mg mx mf x1 x2 x3 x4 hR
  have hR' := hR
  obtain ⟨K, ab, B, T, ks, fs, rk, rl, hB, hL⟩ := hR
  have ht := hB.2.2.2.2.1
  have hm := hB.2.2.2.2.2.1
  have hn := ht.2.1
  rw [f_Rf_node.eq_1, f_Md_node.eq_1, rf_fitsNode hB.2.2.1 hB.1.2.1 ht, md_mayBe hB.2.2.2.1 hB.1.2.1 hm hn (ks_iff ht), tr_isFull ht.1 hn]
  simp only [Option.bind_some, b0]
  by_cases hf : fN (fun x => inB x K) (frB T ks rl) (blB T ks rl) x1 x2 x3 x4 = true
  · simp only [if_pos hf]
    by_cases h60 : aN T = 60
    · rw [if_pos ((nodes60 hm.1 hn).mpr h60), if_pos (by simp; omega)]
      exact ⟨_, _, rfl, rfl, rfl, hR'⟩
    · rw [if_neg (fun c => h60 ((nodes60 hm.1 hn).mp c)), if_neg (by simp; omega)]
      have hlt : aN T < 60 := by omega
      have hbl : ∀ x, blB T ks rl x = true → frB T ks rl x = true := fun x hb => by unfold blB at hb; rw [Bool.and_eq_true] at hb; exact hb.1
      rcases fN_cases hbl hf hB.1.2.1 with ⟨c1, c2, rfl, hs⟩ | ⟨c1, c2, hfr, hs, h14, h15, h16, h0, h4⟩
      · -- a leaf
        rw [if_pos c1, if_neg c2]
        have leaf : ∀ v, (x1 = 0 ∨ (x1 = 1 ∧ (v = -1 ∨ ∃ k, k < K ∧ v = nI k)) ∨ (x1 = 2 ∧ ∃ k, k < K ∧ v = nI k) ∨ (x1 = 3 ∧ (v = 0 ∨ v = 1)) ∨ ((x1 = 10 ∨ x1 = 11) ∧ (v = -1 ∨ ∃ j, j < 6 ∧ v = nI j))) → ∃ (r1 : Int32 × TrS) (r2 : Int32 × MbS × MgS), f_Rf_node_b47 v x1 kn tr = some r1 ∧ f_Md_node_b47 v x1 x1 x3 (-1) mb mg = some r2 ∧ r1.1 = r2.1 ∧ Rel kn r1.2 rw lk f0 f1 r2.2.1 r2.2.2 mx mf := by
          intro v hv
          rw [f_Rf_node_b47.eq_1, f_Md_node_b47.eq_1, tr_add ht.1 hlt, md_make hm.1 hlt]
          simp only [Option.bind_some]
          rw [if_pos c1, f_Md_node_b64.eq_1, if_pos rfl]
          refine ⟨_, _, rfl, rfl, rfl, K, ab, B, _, ks, _, rk, rl, Bld_add hB hlt (shp_leaf hv) ?_ ?_ ?_, LkR_add hL hlt⟩
          · rintro rfl; exact absurd c1 (by decide)
          · rintro rfl; exact absurd c1 (by decide)
          · rintro rfl; exact absurd c1 (by decide)
        by_cases c0 : x1 = 0
        · simp only [if_pos c0]
          exact leaf 0 (Or.inl c0)
        · simp only [if_neg c0]
          refine leaf x3 ?_
          rcases hs with h | h | h | h
          · exact Or.inl h
          · exact Or.inr (Or.inl h)
          · exact Or.inr (Or.inr (Or.inl h))
          · exact Or.inr (Or.inr (Or.inr (Or.inl h)))
      · -- with parts
        rw [if_neg c1, if_pos c2, f_Md_node_b47.eq_1, tr_add ht.1 hlt, md_make hm.1 hlt]
        simp only [Option.bind_some]
        rw [if_neg c1]
        obtain ⟨a, ha, rfl, hak, har⟩ := frB_of hfr hn
        obtain ⟨e1, e2, e3⟩ := one_part (s := x1) (v := x2) hB hlt ha hak har h14 h15 h16 (by
          rcases hs with h | h | h
          · exact Or.inl h
          · exact Or.inr (Or.inl h)
          · exact Or.inr (Or.inr (Or.inl h)))
        rw [e1, e2]
        simp only [Option.bind_some]
        rw [f_Md_node_b64.eq_1]
        rcases h4 with rfl | ⟨rfl, h4, hfb, hab⟩
        · rw [if_pos rfl, if_pos rfl]
          exact ⟨_, _, rfl, rfl, rfl, K, ab, B, _, _, _, rk, rl, e3, LkR_add hL hlt⟩
        · rw [if_neg h4, if_neg h4]
          obtain ⟨b, hb, rfl, hbk, hbr⟩ := frB_of hfb hn
          have hne : b ≠ a := fun e => by subst e; exact hab rfl
          have hv : x2 = 0 ∨ x2 = 1 ∨ x2 = 2 := by
            rcases hs with ⟨-, h⟩ | ⟨h, -⟩ | (h | h)
            · exact h
            · exact absurd h (by decide)
            · exact absurd h (by decide)
            · exact absurd h (by decide)
          have eP0 : aP (addT T 4 x2) (aN T) = [] := up_s
          obtain ⟨g1, g2, g3⟩ := second_part (n := aN T) (a := a) (b := b) (v := x2) e3 hlt rfl (by
            show va_up (aP (addT T 4 x2)) (aN T) (aP (addT T 4 x2) (aN T) ++ [a]) (aN T) = _
            rw [up_s, eP0]; rfl) upd_s upd_s hv hb (fun hh => by
              rcases List.mem_append.mp hh with hh | hh
              · exact hbk hh
              · simp at hh; exact hne hh) hbr (by rw [up_s]; simp)
          rw [g1, g2]
          exact ⟨_, _, rfl, rfl, rfl, K, ab, B, _, _, _, rk, rl, g3, LkR_add hL hlt⟩
  · simp only [if_neg hf]
    exact ⟨_, _, rfl, rfl, rfl, hR'⟩
