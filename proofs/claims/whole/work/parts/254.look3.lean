section Q3
variable {n K : Nat} {tr : TrS} {mb : MbS} {kn : KnS} {B : Nat → Nat → Bool} {ab : Nat → Nat} {lk : LkS} {f0 f1 : FlS} {mg : MgS} {mx : MxS} {mf : MfS}
/-- which of ends() fits -/
def fW (n K : Nat) (y z : Int32) : Bool := if y = 0 then decide (z = 0) else if y = 1 then decide (z = 0) else if y = 2 then inB z n else if y = 3 then inB z n else if y = 4 then inB z K else false
theorem rf_fitsWhich (hK : K ≤ 12) (hkn : KnR kn K B) (ht : Tr_size tr = nI n) (hn : n ≤ 60) (y z : Int32) : f_Rf_fitsWhich y z kn tr = some (bi (fW n K y z)) := by
  rw [f_Rf_fitsWhich.eq_1, f_Rf_fitsWhich_b36.eq_1, f_Rf_fitsWhich_b46.eq_1, tr_has ht hn, kn_has hkn hK]
  simp only [Option.bind_some, b0']
  unfold fW
  by_cases c0 : y = 0
  · simp only [c0, if_true]; by_cases d : z = 0 <;> simp [d, bi]
  · simp only [c0, if_false]
    by_cases c1 : y = 1
    · simp only [c1, if_true]; by_cases d : z = 0 <;> simp [d, bi]
    · simp only [c1, if_false]
      by_cases c2 : y = 2
      · simp only [c2, if_true]
      · simp only [c2, if_false]
        by_cases c3 : y = 3
        · simp only [c3, if_true]
        · simp only [c3, if_false]
          by_cases c4 : y = 4
          · simp only [c4, if_true]
          · simp only [c4, if_false]; rfl
theorem way5 {y : Int32} (h : tI y 0 4 = true) : y = 0 ∨ y = 1 ∨ y = 2 ∨ y = 3 ∨ y = 4 := by
  obtain ⟨j, hj, rfl⟩ := tI_mem (n := 4) (by omega) h
  have : j = 0 ∨ j = 1 ∨ j = 2 ∨ j = 3 ∨ j = 4 := by omega
  rcases this with rfl | rfl | rfl | rfl | rfl <;> decide
theorem fW_out {y z : Int32} (h : tI y 0 4 = false) : fW n K y z = false := by
  have ne : ∀ k : Int32, tI k 0 4 = true → y ≠ k := fun k hk e => by subst e; rw [hk] at h; cases h
  unfold fW
  rw [if_neg (ne 0 (by decide)), if_neg (ne 1 (by decide)), if_neg (ne 2 (by decide)), if_neg (ne 3 (by decide)), if_neg (ne 4 (by decide))]
theorem fW_0 {z : Int32} : fW n K 0 z = decide (z = 0) := by unfold fW; rw [if_pos rfl]
theorem fW_1 {z : Int32} : fW n K 1 z = decide (z = 0) := by unfold fW; rw [if_neg (by decide), if_pos rfl]
theorem fW_2 {z : Int32} : fW n K 2 z = inB z n := by unfold fW; rw [if_neg (by decide), if_neg (by decide), if_pos rfl]
theorem fW_3 {z : Int32} : fW n K 3 z = inB z n := by unfold fW; rw [if_neg (by decide), if_neg (by decide), if_neg (by decide), if_pos rfl]
theorem fW_4 {z : Int32} : fW n K 4 z = inB z K := by unfold fW; rw [if_neg (by decide), if_neg (by decide), if_neg (by decide), if_neg (by decide), if_pos rfl]
/-- a bit of an answer that isn't looked at unless the NODE is met -/
theorem q_two {a b c : Bool} (h : (a && b) = c) : (if a = true then (if b = true then some (1 : Int32) else some (0 : Int32)) else some (0 : Int32)) = some (bi c) := by
  subst h; cases a <;> cases b <;> rfl
set_option maxHeartbeats 1000000 in
theorem q_ends (hK : K ≤ 12) (hkn : KnR kn K B) (hmk : MkR mb K ab) (ht : Tr_size tr = nI n) (hm : Mb_nodes mb = nI n) (hn : n ≤ 60) (h : LkR n lk f0 f1 mg mx mf) (x y z : Int32) : ∃ r, f_Rf_ends x y z kn tr f1 = some r ∧ f_Md_ends x y z mb mg mx = some r := by
  obtain ⟨-, ir, rc, cm, th, co, en, tg, F, G, hA, hM⟩ := h
  rw [f_Rf_ends.eq_1, tr_has ht hn, rf_fitsWhich hK hkn ht hn, f_Md_ends.eq_1, md_isNode hm hn]
  simp only [Option.bind_some, b0]
  have bad : ∀ x y z, f_Md_ends_b21 x y z mb mg mx = some (-2) := fun x y z => by
    rw [f_Md_ends_b21.eq_1, f_Md_ends_b22.eq_1, if_pos rfl, f_Md_ends_b69.eq_1, f_Md_ends_b70.eq_1, if_pos rfl]
  have bad2 : ∀ x y z, f_Md_ends_b69 x y z mb mg mx = some (-2) := fun x y z => by
    rw [f_Md_ends_b69.eq_1, f_Md_ends_b70.eq_1, if_pos rfl]
  by_cases hx : inB x n = true
  · rw [if_pos hx, if_pos hx, md_tI]
    simp only [Option.bind_some, b0]
    by_cases hy : tI y 0 4 = true
    · rw [if_pos hy]
      obtain ⟨a, ha, rfl⟩ := inB_of hx (by omega)
      obtain ⟨-, -, -, -, -, e0, e1, e2, e4⟩ := hA.2.2.2.2.2.2.2 a (by omega)
      rw [fl_meets f1 (by omega), f_Md_ends_b22.eq_1, if_neg (show ¬ (1 : Int32) = 0 by decide), md_isKind hmk hK, md_isNode hm hn]
      simp only [Option.bind_some, b0, bad2]
      have z0 : (0 : Int32) = nI 0 := by decide
      have z1 : (1 : Int32) = nI 1 := by decide
      rcases way5 hy with rfl | rfl | rfl | rfl | rfl
      · rw [fW_0, if_neg (show ¬ (2 : Int32) ≤ 0 by decide)]
        by_cases hz : z = 0
        · subst hz
          rw [if_pos rfl]
          refine ⟨bi (ir a && en a 0), ?_, ?_⟩
          · rw [if_pos (show decide ((0 : Int32) = 0) = true from rfl), f_Fl_endsBy.eq_1, if_pos rfl, isIn_eq _ (by omega)]
            simp only [Option.bind_some, b0', b0]
            exact q_two e0
          · rw [f_Md_ends_b65.eq_1, f_Md_ends_b70.eq_1, if_neg (show ¬ (1 : Int32) = 0 by decide), if_pos rfl]
            exact md_ends120 (w := 0) hm hn hM ha (by omega)
        · rw [if_neg hz]
          refine ⟨-2, ?_, rfl⟩
          rw [if_neg (by simpa using hz)]
      · rw [fW_1, if_neg (show ¬ (2 : Int32) ≤ 1 by decide)]
        by_cases hz : z = 0
        · subst hz
          rw [if_pos rfl]
          refine ⟨bi (ir a && en a 1), ?_, ?_⟩
          · rw [if_pos (show decide ((0 : Int32) = 0) = true from rfl), f_Fl_endsBy.eq_1, if_neg (show ¬ (1 : Int32) = 0 by decide), if_pos rfl, isIn_eq _ (by omega)]
            simp only [Option.bind_some, b0', b0]
            exact q_two e1
          · rw [f_Md_ends_b65.eq_1, f_Md_ends_b70.eq_1, if_neg (show ¬ (1 : Int32) = 0 by decide), if_neg (show ¬ (1 : Int32) = 0 by decide), if_pos rfl]
            exact md_ends120 (w := 1) hm hn hM ha (by omega)
        · rw [if_neg hz]
          refine ⟨-2, ?_, rfl⟩
          rw [if_neg (by simpa using hz)]
      · rw [fW_2, if_pos (show (2 : Int32) ≤ 2 by decide), if_neg (show ¬ (4 : Int32) ≤ 2 by decide)]
        by_cases hz : inB z n = true
        · rw [if_pos hz, if_pos hz]
          obtain ⟨w, hw, rfl⟩ := inB_of hz (by omega)
          refine ⟨bi (ir a && en a (2 + w)), ?_, ?_⟩
          · rw [f_Fl_endsBy.eq_1, if_neg (show ¬ (2 : Int32) = 0 by decide), if_neg (show ¬ (2 : Int32) = 1 by decide), if_pos rfl, if_pos (inB_nI (by omega) (by decide)), nI_clamp (by omega), isIn_eq _ (by omega)]
            simp only [Option.bind_some, b0', b0]
            exact q_two (e2 w (by omega)).1
          · have e : (2 : Int32) + nI w = nI (2 + w) := nI_add 2 w
            rw [f_Md_ends_b65.eq_1, f_Md_ends_b70.eq_1, if_neg (show ¬ (1 : Int32) = 0 by decide), if_neg (show ¬ (2 : Int32) = 0 by decide), if_neg (show ¬ (2 : Int32) = 1 by decide), if_pos rfl, f_Md_ends_b118.eq_1, e]
            exact md_ends120 hm hn hM ha (by omega)
        · rw [if_neg hz, if_neg hz]
          exact ⟨-2, rfl, rfl⟩
      · rw [fW_3, if_pos (show (2 : Int32) ≤ 3 by decide), if_neg (show ¬ (4 : Int32) ≤ 3 by decide)]
        by_cases hz : inB z n = true
        · rw [if_pos hz, if_pos hz]
          obtain ⟨w, hw, rfl⟩ := inB_of hz (by omega)
          refine ⟨bi (ir a && en a (62 + w)), ?_, ?_⟩
          · rw [f_Fl_endsBy.eq_1, if_neg (show ¬ (3 : Int32) = 0 by decide), if_neg (show ¬ (3 : Int32) = 1 by decide), if_neg (show ¬ (3 : Int32) = 2 by decide), if_pos rfl, if_pos (inB_nI (by omega) (by decide)), nI_clamp (by omega), isIn_eq _ (by omega)]
            simp only [Option.bind_some, b0', b0]
            exact q_two (e2 w (by omega)).2
          · have e : (62 : Int32) + nI w = nI (62 + w) := nI_add 62 w
            rw [f_Md_ends_b65.eq_1, f_Md_ends_b70.eq_1, if_neg (show ¬ (1 : Int32) = 0 by decide), if_neg (show ¬ (3 : Int32) = 0 by decide), if_neg (show ¬ (3 : Int32) = 1 by decide), if_neg (show ¬ (3 : Int32) = 2 by decide), if_pos rfl, f_Md_ends_b118.eq_1, e]
            exact md_ends120 hm hn hM ha (by omega)
        · rw [if_neg hz, if_neg hz]
          exact ⟨-2, rfl, rfl⟩
      · rw [fW_4, if_pos (show (2 : Int32) ≤ 4 by decide), if_pos (show (4 : Int32) ≤ 4 by decide)]
        by_cases hz : inB z K = true
        · rw [if_pos hz, if_pos hz]
          obtain ⟨w, hw, rfl⟩ := inB_of hz (by omega)
          refine ⟨bi (ir a && en a (122 + w)), ?_, ?_⟩
          · rw [f_Fl_endsBy.eq_1, if_neg (show ¬ (4 : Int32) = 0 by decide), if_neg (show ¬ (4 : Int32) = 1 by decide), if_neg (show ¬ (4 : Int32) = 2 by decide), if_neg (show ¬ (4 : Int32) = 3 by decide), if_pos (inB_nI (by omega) (by decide)), nI_clamp (by omega), isIn_eq _ (by omega), lb_int _ (by omega)]
            simp only [Option.bind_some, b0', b0]
            exact q_two (e4 w (by omega))
          · have e : (122 : Int32) + nI w = nI (122 + w) := nI_add 122 w
            rw [f_Md_ends_b65.eq_1, f_Md_ends_b70.eq_1, if_neg (show ¬ (1 : Int32) = 0 by decide), if_neg (show ¬ (4 : Int32) = 0 by decide), if_neg (show ¬ (4 : Int32) = 1 by decide), if_neg (show ¬ (4 : Int32) = 2 by decide), if_neg (show ¬ (4 : Int32) = 3 by decide), f_Md_ends_b118.eq_1, e]
            exact md_ends120 hm hn hM ha (by omega)
        · rw [if_neg hz, if_neg hz]
          exact ⟨-2, rfl, rfl⟩
    · rw [if_neg hy, bad]
      refine ⟨-2, ?_, rfl⟩
      rw [fW_out (by simpa using hy)]; rfl
  · rw [if_neg hx, if_neg hx, bad]
    exact ⟨-2, rfl, rfl⟩
end Q3
