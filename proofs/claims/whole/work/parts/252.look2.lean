section Q2
variable {n K : Nat} {tr : TrS} {mb : MbS} {kn : KnS} {B : Nat → Nat → Bool} {ab : Nat → Nat} {lk : LkS} {f0 f1 : FlS} {mg : MgS} {mx : MxS} {mf : MfS}
theorem q_notes (h : LkR n lk f0 f1 mg mx mf) : ∃ r, f_Rf_notes lk = some r ∧ f_Md_notes mg mf = some r := by
  obtain ⟨-, ir, rc, cm, th, co, en, tg, F, G, hA, hM⟩ := h
  rw [f_Rf_notes.eq_1, f_Md_notes.eq_1]
  refine ⟨_, rfl, ?_⟩
  rw [hA.2.2.2.2.1]
  rcases hM with ⟨h1, -, h2, -⟩ | ⟨h1, h2⟩
  · rw [if_pos h1, h2]; rfl
  · rw [if_neg h1, h2.2.2.1]
theorem q_note (h : LkR n lk f0 f1 mg mx mf) (x : Int32) : ∃ r, f_Rf_note x lk = some r ∧ f_Md_note x mg mf = some r := by
  obtain ⟨-, ir, rc, cm, th, co, en, tg, F, G, hA, hM⟩ := h
  obtain ⟨-, hG, -, -, a1, a2, -⟩ := hA
  rw [f_Rf_note.eq_1, f_Md_note.eq_1, a1]
  by_cases hx : inB x G.length = true
  · obtain ⟨i, hi, rfl⟩ := inB_of hx (by omega)
    rw [if_neg (nI_pos (by omega)), if_pos (nI_lt hi (by omega)), if_pos (inB_nI (by omega) (by decide)), nI_clamp (by omega)]
    have hg : G[i]? = some G[i] := List.getElem?_eq_getElem hi
    rcases hM with ⟨-, -, h2, -⟩ | ⟨h1, h2⟩
    · rw [h2] at hi; exact absurd hi (by simp)
    · refine ⟨_, rfl, ?_⟩
      rw [if_neg h1, h2.2.2.1, md_isInn _ (by omega)]
      show (if bi _ = 0 then _ else _) = _
      rw [b0, if_pos hx, if_pos (inB_nI (by omega) (by decide)), a2 i _ hg, h2.2.2.2.1 i _ hg]
  · refine ⟨-2, ?_, ?_⟩
    · by_cases c1 : x < 0
      · rw [if_pos c1]
      · rw [if_neg c1, if_neg (fun c2 => hx ((inB_iff (by omega)).mpr ⟨c1, fun c3 => by
          rw [Int32.lt_iff_toInt_lt] at c2; rw [Int32.le_iff_toInt_le] at c3; omega⟩))]
    · rcases hM with ⟨h1, -, -, -⟩ | ⟨h1, h2⟩
      · rw [if_pos h1]
      · rw [if_neg h1, h2.2.2.1, md_isInn _ (by omega)]
        show (if bi _ = 0 then _ else _) = _
        rw [b0, if_neg hx]
theorem q_fault (h : LkR n lk f0 f1 mg mx mf) (x y : Int32) : ∃ r, f_Rf_fault x y lk = some r ∧ f_Md_fault x y mg mf = some r := by
  obtain ⟨-, ir, rc, cm, th, co, en, tg, F, G, hA, hM⟩ := h
  obtain ⟨hF, -, a1, a2, -⟩ := hA
  rw [f_Rf_fault.eq_1, f_Md_fault.eq_1, a1]
  by_cases hx : inB x F.length = true
  · obtain ⟨i, hi, rfl⟩ := inB_of hx (by omega)
    obtain ⟨c1, c2⟩ := (inB_iff (by omega)).mp hx
    rw [if_neg c1, if_neg c2]
    have hg : F[i]? = some F[i] := List.getElem?_eq_getElem hi
    rcases hM with ⟨-, h2, -, -⟩ | ⟨h1, h2⟩
    · rw [h2] at hi; exact absurd hi (by simp)
    · rw [if_neg h1, h2.1, md_isInn _ (by omega)]
      show ∃ r, _ ∧ (if bi _ = 0 then _ else _) = _
      rw [b0, if_pos hx, md_tI]
      show ∃ r, _ ∧ (if bi _ = 0 then _ else _) = _
      rw [b0]
      by_cases hy : tI y 0 1 = true
      · rw [if_pos hy]
        have d1 : ¬ y < 0 := fun c => by unfold tI at hy; rw [if_pos c] at hy; cases hy
        have d2 : y ≤ 1 := by
          unfold tI at hy; rw [if_neg d1] at hy
          by_cases c : 1 < y
          · rw [if_pos c] at hy; cases hy
          · rw [Int32.lt_iff_toInt_lt] at c; rw [Int32.le_iff_toInt_le]; omega
        rw [if_neg d1, if_pos d2, if_pos (inB_nI (by omega) (by decide)), if_pos (inB_nI (by omega) (by decide)), if_pos (inB_nI (by omega) (by decide)), if_pos (inB_nI (by omega) (by decide)), nI_clamp (by omega), (a2 i _ hg).1, (a2 i _ hg).2, (h2.2.1 i _ hg).1, (h2.2.1 i _ hg).2]
        by_cases c : y = 0
        · rw [if_pos c]; exact ⟨_, rfl, rfl⟩
        · rw [if_neg c]; exact ⟨_, rfl, rfl⟩
      · rw [if_neg hy]
        refine ⟨-2, ?_, rfl⟩
        by_cases c : y < 0
        · rw [if_pos c]
        · rw [if_neg c, if_neg]
          intro c2
          apply hy
          unfold tI
          rw [if_neg c, if_neg]
          rw [Int32.lt_iff_toInt_lt]; rw [Int32.le_iff_toInt_le] at c2; omega
  · refine ⟨-2, ?_, ?_⟩
    · by_cases c1 : x < 0
      · rw [if_pos c1]
      · rw [if_neg c1, if_pos (by
          by_cases c2 : nI F.length ≤ x
          · exact c2
          · exact absurd ((inB_iff (by omega)).mpr ⟨c1, c2⟩) hx)]
    · rcases hM with ⟨h1, -, -, -⟩ | ⟨h1, h2⟩
      · rw [if_pos h1]
      · rw [if_neg h1, h2.1, md_isInn _ (by omega)]
        show (if bi _ = 0 then _ else _) = _
        rw [b0, if_neg hx]
theorem md_isEnded {ir rc cm : Nat → Bool} {th : Nat → Nat → Bool} {co : Nat → Bool} {en : Nat → Nat → Bool} {tg : Nat → Int32} {F : List (Int32 × Int32)} {G : List Int32} (h : LkM n mg mx mf ir rc cm th co en tg F G) (hn : n ≤ 60) {x w : Nat} (hx : x < n) (hi : ir x = true) (hw : w < 134) : f_Md_isEnded (nI x) (nI w) mx = some (bi (en x w)) := by
  rw [f_Md_isEnded.eq_1]
  have e : (134 : Int32) = nI 134 := by decide
  rw [e, pk_mul, nI_add, if_pos (inB_nI (by omega) (by decide)), nI_clamp (by omega), ((h.2.2.2.2 x hx).2 hi).2.2.2.2.1 w hw, b0']
/-- the model's tail of ends() -/
theorem md_ends120 (hm : Mb_nodes mb = nI n) (hn : n ≤ 60) {ir rc cm : Nat → Bool} {th : Nat → Nat → Bool} {co : Nat → Bool} {en : Nat → Nat → Bool} {tg : Nat → Int32} {F : List (Int32 × Int32)} {G : List Int32} (h : (Mg_root mg = -1 ∧ F = [] ∧ G = [] ∧ ∀ x, ir x = false) ∨ (Mg_root mg ≠ -1 ∧ LkM n mg mx mf ir rc cm th co en tg F G)) {x w : Nat} (hx : x < n) (hw : w < 134) : f_Md_ends_b120 (nI w) (nI x) mb mg mx = some (bi (ir x && en x w)) := by
  rw [f_Md_ends_b120.eq_1, md_isAsked hm hn h hx]
  show (if bi _ = 0 then _ else _) = _
  rw [b0]
  by_cases hi : ir x = true
  · rw [if_pos hi]
    rcases h with ⟨-, -, -, h2⟩ | ⟨-, h2⟩
    · rw [h2 x] at hi; cases hi
    · rw [md_isEnded h2 hn hx hi hw]
      show (if bi _ = 0 then _ else _) = _
      rw [b0, hi]; cases en x w <;> rfl
  · rw [if_neg hi]
    have hi : ir x = false := by simpa using hi
    rw [hi]; rfl
end Q2
