/-! WHAT WAS LOOKED AT: both sides by what they tell of it. ir: in THE ROOT; rc: REACHED; cm: COMPLETES; th: CAN THROW; co: come to; en: ended by a way (0 NORMALLY, 1 RETURN, 2 + y BREAK, 62 + y CONTINUE, 122 + k KIND); tg: TARGETS; F: FAULTS; G: NOTES -/
def LkA (n : Nat) (lk : LkS) (f0 f1 : FlS) (ir rc cm : Nat → Bool) (th : Nat → Nat → Bool) (co : Nat → Bool) (en : Nat → Nat → Bool) (tg : Nat → Int32) (F : List (Int32 × Int32)) (G : List Int32) : Prop :=
  F.length ≤ 120 ∧ G.length ≤ 60 ∧ Lk_faultCount lk = nI F.length ∧ (∀ i p, F[i]? = some p → Lk_faultSort lk i = p.1 ∧ Lk_faultNode lk i = p.2) ∧ Lk_noteCount lk = nI G.length ∧ (∀ i p, G[i]? = some p → Lk_noteNode lk i = p) ∧
  (∀ x, x < 60 → n ≤ x → ir x = false) ∧
  (∀ x, x < 60 → lb (Fl_met f0) x = (ir x && rc x) ∧ (lb (Fl_met f0) x && lb (Fl_normal f0) x) = (ir x && cm x) ∧ (∀ k, k < 12 → (lb (Fl_met f0) x && bt (Fl_thrown f0 x) k) = (ir x && th x k)) ∧ Lk_targets lk x = (if ir x = true then tg x else -1) ∧
    lb (Fl_met f1) x = (ir x && co x) ∧ (lb (Fl_met f1) x && lb (Fl_normal f1) x) = (ir x && en x 0) ∧ (lb (Fl_met f1) x && lb (Fl_returning f1) x) = (ir x && en x 1) ∧ (∀ y, y < 60 → (lb (Fl_met f1) x && lb (Fl_breaks f1 x) y) = (ir x && en x (2 + y)) ∧ (lb (Fl_met f1) x && lb (Fl_continues f1 x) y) = (ir x && en x (62 + y))) ∧ ∀ k, k < 12 → (lb (Fl_met f1) x && bt (Fl_thrown f1 x) k) = (ir x && en x (122 + k)))
def LkM (n : Nat) (mg : MgS) (mx : MxS) (mf : MfS) (ir rc cm : Nat → Bool) (th : Nat → Nat → Bool) (co : Nat → Bool) (en : Nat → Nat → Bool) (tg : Nat → Int32) (F : List (Int32 × Int32)) (G : List Int32) : Prop :=
  Mf_faults mf = nI F.length ∧ (∀ i p, F[i]? = some p → Mf_faultKind mf i = p.1 ∧ Mf_faultNode mf i = p.2) ∧ Mf_noted mf = nI G.length ∧ (∀ i p, G[i]? = some p → Mf_notes mf i = p) ∧
  ∀ x, x < n → Mg_inRoot mg x = bi (ir x) ∧ (ir x = true → Mx_isReached mx x = bi (rc x) ∧ Mx_isComplete mx x = bi (cm x) ∧ (∀ k, k < 12 → Mx_throwable mx (12 * x + k) = bi (th x k)) ∧ Mx_isCome mx x = bi (co x) ∧ (∀ w, w < 134 → Mx_ended mx (134 * x + w) = bi (en x w)) ∧ Mg_targets mg x = tg x)
def LkR (n : Nat) (lk : LkS) (f0 f1 : FlS) (mg : MgS) (mx : MxS) (mf : MfS) : Prop :=
  Lk_root lk = Mg_root mg ∧ ∃ (ir rc cm : Nat → Bool) (th : Nat → Nat → Bool) (co : Nat → Bool) (en : Nat → Nat → Bool) (tg : Nat → Int32) (F : List (Int32 × Int32)) (G : List Int32), LkA n lk f0 f1 ir rc cm th co en tg F G ∧
    ((Mg_root mg = -1 ∧ F = [] ∧ G = [] ∧ ∀ x, ir x = false) ∨ (Mg_root mg ≠ -1 ∧ LkM n mg mx mf ir rc cm th co en tg F G))
section Q
variable {n K : Nat} {tr : TrS} {mb : MbS} {kn : KnS} {B : Nat → Nat → Bool} {ab : Nat → Nat} {lk : LkS} {f0 f1 : FlS} {mg : MgS} {mx : MxS} {mf : MfS}
theorem b0' {b : Bool} {α : Type} {x y : α} : (if bB (bi b) = true then x else y) = x := by rw [if_pos (bi_bB b)]
theorem fl_meets (f : FlS) {x : Nat} (h : x < 60) : f_Fl_meets (nI x) f = some (bi (lb (Fl_met f) x)) := by
  rw [f_Fl_meets.eq_1, isIn_eq _ (by omega)]; exact b0'
theorem fl_normal (f : FlS) {x : Nat} (h : x < 60) : f_Fl_endsNormally (nI x) f = some (bi (lb (Fl_normal f) x)) := by
  rw [f_Fl_endsNormally.eq_1, isIn_eq _ (by omega)]; exact b0'
/-- isAsked -/
theorem md_isAsked (hm : Mb_nodes mb = nI n) (hn : n ≤ 60) {ir rc cm : Nat → Bool} {th : Nat → Nat → Bool} {co : Nat → Bool} {en : Nat → Nat → Bool} {tg : Nat → Int32} {F : List (Int32 × Int32)} {G : List Int32} (h : (Mg_root mg = -1 ∧ F = [] ∧ G = [] ∧ ∀ x, ir x = false) ∨ (Mg_root mg ≠ -1 ∧ LkM n mg mx mf ir rc cm th co en tg F G)) {x : Nat} (hx : x < n) : f_Md_isAsked (nI x) mb mg = some (bi (ir x)) := by
  rw [f_Md_isAsked.eq_1]
  rcases h with ⟨h1, -, -, h2⟩ | ⟨h1, h2⟩
  · rw [if_pos h1, h2]; rfl
  · rw [if_neg h1, md_isNode hm hn]
    show (if bi (inB (nI x) n) = 0 then _ else _) = _
    rw [b0, if_pos (inB_nI hx (by omega)), if_pos (inB_nI (by omega) (by decide)), nI_clamp (by omega), (h2.2.2.2.2 x hx).1, b0]
    cases ir x <;> rfl
theorem q_reached (ht : Tr_size tr = nI n) (hm : Mb_nodes mb = nI n) (hn : n ≤ 60) (h : LkR n lk f0 f1 mg mx mf) (x : Int32) : ∃ r, f_Rf_reached x tr f0 = some r ∧ f_Md_reached x mb mg mx = some r := by
  obtain ⟨-, ir, rc, cm, th, co, en, tg, F, G, hA, hM⟩ := h
  rw [f_Rf_reached.eq_1, tr_has ht hn, f_Md_reached.eq_1]
  show ∃ r, (if bi _ = 0 then _ else _) = some r ∧ _
  rw [b0]
  by_cases hx : inB x n = true
  · obtain ⟨a, ha, rfl⟩ := inB_of hx (by omega)
    rw [if_pos hx, fl_meets f0 (by omega), md_isAsked hm hn hM ha]
    obtain ⟨e1, -⟩ := hA.2.2.2.2.2.2.2 a (by omega)
    rw [e1]
    refine ⟨bi (ir a && rc a), ?_, ?_⟩
    · show (if bi _ = 0 then _ else _) = _
      rw [b0]; cases ir a <;> cases rc a <;> rfl
    · show (if bi _ = 0 then _ else _) = _
      rw [b0]
      by_cases hi : ir a = true
      · rw [if_pos hi, if_pos (inB_nI (by omega) (by decide)), nI_clamp (by omega)]
        rcases hM with ⟨-, -, -, h2⟩ | ⟨-, h2⟩
        · rw [h2 a] at hi; cases hi
        · rw [((h2.2.2.2.2 a ha).2 hi).1, b0, hi]; cases rc a <;> rfl
      · have hi : ir a = false := by simpa using hi
        rw [hi]; rfl
  · rw [if_neg hx]
    refine ⟨0, rfl, ?_⟩
    rw [f_Md_isAsked.eq_1, md_isNode hm hn]
    have hf : inB x n = false := by simpa using hx
    rw [hf]
    by_cases h0 : Mg_root mg = -1
    · rw [if_pos h0]; rfl
    · rw [if_neg h0]; rfl
theorem md_askedF (hm : Mb_nodes mb = nI n) (hn : n ≤ 60) {x : Int32} (hx : inB x n = false) : f_Md_isAsked x mb mg = some 0 := by
  rw [f_Md_isAsked.eq_1, md_isNode hm hn, hx]
  by_cases h0 : Mg_root mg = -1
  · rw [if_pos h0]
  · rw [if_neg h0]; rfl
theorem q_completes (ht : Tr_size tr = nI n) (hm : Mb_nodes mb = nI n) (hn : n ≤ 60) (h : LkR n lk f0 f1 mg mx mf) (x : Int32) : ∃ r, f_Rf_completes x tr f0 = some r ∧ f_Md_completes x mb mg mx = some r := by
  obtain ⟨-, ir, rc, cm, th, co, en, tg, F, G, hA, hM⟩ := h
  rw [f_Rf_completes.eq_1, tr_has ht hn, f_Md_completes.eq_1]
  show ∃ r, (if bi _ = 0 then _ else _) = some r ∧ _
  rw [b0]
  by_cases hx : inB x n = true
  · obtain ⟨a, ha, rfl⟩ := inB_of hx (by omega)
    rw [if_pos hx, fl_meets f0 (by omega), fl_normal f0 (by omega), md_isAsked hm hn hM ha]
    obtain ⟨-, e2, -⟩ := hA.2.2.2.2.2.2.2 a (by omega)
    refine ⟨bi (ir a && cm a), ?_, ?_⟩
    · rw [← e2]
      show (if bi _ = 0 then _ else (if bi _ = 0 then _ else _)) = _
      rw [b0, b0]; cases lb (Fl_met f0) a <;> cases lb (Fl_normal f0) a <;> rfl
    · show (if bi _ = 0 then _ else _) = _
      rw [b0]
      by_cases hi : ir a = true
      · rw [if_pos hi, if_pos (inB_nI (by omega) (by decide)), nI_clamp (by omega)]
        rcases hM with ⟨-, -, -, h2⟩ | ⟨-, h2⟩
        · rw [h2 a] at hi; cases hi
        · rw [((h2.2.2.2.2 a ha).2 hi).2.1, b0, hi]; cases cm a <;> rfl
      · have hi : ir a = false := by simpa using hi
        rw [hi]; rfl
  · rw [if_neg hx, md_askedF hm hn (by simpa using hx)]
    exact ⟨0, rfl, rfl⟩
theorem q_walked (ht : Tr_size tr = nI n) (hm : Mb_nodes mb = nI n) (hn : n ≤ 60) (h : LkR n lk f0 f1 mg mx mf) (x : Int32) : ∃ r, f_Rf_walked x tr f1 = some r ∧ f_Md_walked x mb mg mx = some r := by
  obtain ⟨-, ir, rc, cm, th, co, en, tg, F, G, hA, hM⟩ := h
  rw [f_Rf_walked.eq_1, tr_has ht hn, f_Md_walked.eq_1]
  show ∃ r, (if bi _ = 0 then _ else _) = some r ∧ _
  rw [b0]
  by_cases hx : inB x n = true
  · obtain ⟨a, ha, rfl⟩ := inB_of hx (by omega)
    rw [if_pos hx, fl_meets f1 (by omega), md_isAsked hm hn hM ha]
    obtain ⟨-, -, -, -, e1, -⟩ := hA.2.2.2.2.2.2.2 a (by omega)
    rw [e1]
    refine ⟨bi (ir a && co a), ?_, ?_⟩
    · show (if bi _ = 0 then _ else _) = _
      rw [b0]; cases ir a <;> cases co a <;> rfl
    · show (if bi _ = 0 then _ else _) = _
      rw [b0]
      by_cases hi : ir a = true
      · rw [if_pos hi, if_pos (inB_nI (by omega) (by decide)), nI_clamp (by omega)]
        rcases hM with ⟨-, -, -, h2⟩ | ⟨-, h2⟩
        · rw [h2 a] at hi; cases hi
        · rw [((h2.2.2.2.2 a ha).2 hi).2.2.2.1, b0, hi]; cases co a <;> rfl
      · have hi : ir a = false := by simpa using hi
        rw [hi]; rfl
  · rw [if_neg hx, md_askedF hm hn (by simpa using hx)]
    exact ⟨0, rfl, rfl⟩
theorem q_target (ht : Tr_size tr = nI n) (hm : Mb_nodes mb = nI n) (hn : n ≤ 60) (h : LkR n lk f0 f1 mg mx mf) (x : Int32) : ∃ r, f_Rf_target x tr lk = some r ∧ f_Md_target x mb mg = some r := by
  obtain ⟨-, ir, rc, cm, th, co, en, tg, F, G, hA, hM⟩ := h
  rw [f_Rf_target.eq_1, tr_has ht hn, f_Md_target.eq_1, md_isNode hm hn]
  show ∃ r, (if bi _ = 0 then _ else _) = some r ∧ (if bi _ = 0 then _ else _) = _
  rw [b0, b0]
  by_cases hx : inB x n = true
  · obtain ⟨a, ha, rfl⟩ := inB_of hx (by omega)
    rw [if_pos hx, if_pos hx, md_isAsked hm hn hM ha]
    obtain ⟨-, -, -, e1, -⟩ := hA.2.2.2.2.2.2.2 a (by omega)
    refine ⟨Lk_targets lk a, ?_, ?_⟩
    · rw [if_pos (inB_nI (by omega) (by decide)), nI_clamp (by omega)]
    · show (if bi _ = 0 then _ else _) = _
      rw [b0, e1]
      by_cases hi : ir a = true
      · rw [if_pos hi, if_pos hi, if_pos (inB_nI (by omega) (by decide)), nI_clamp (by omega)]
        rcases hM with ⟨-, -, -, h2⟩ | ⟨-, h2⟩
        · rw [h2 a] at hi; cases hi
        · rw [((h2.2.2.2.2 a ha).2 hi).2.2.2.2.2]
      · rw [if_neg hi, if_neg hi]
  · rw [if_neg hx, if_neg hx]
    exact ⟨-2, rfl, rfl⟩
theorem q_can (hK : K ≤ 12) (hkn : KnR kn K B) (hmk : MkR mb K ab) (ht : Tr_size tr = nI n) (hm : Mb_nodes mb = nI n) (hn : n ≤ 60) (h : LkR n lk f0 f1 mg mx mf) (x y : Int32) : ∃ r, f_Rf_can x y kn tr f0 = some r ∧ f_Md_can x y mb mg mx = some r := by
  obtain ⟨-, ir, rc, cm, th, co, en, tg, F, G, hA, hM⟩ := h
  rw [f_Rf_can.eq_1, tr_has ht hn, kn_has hkn hK, f_Md_can.eq_1, md_isNode hm hn, md_isKind hmk hK]
  show ∃ r, (if bi _ = 0 then _ else (if bi _ = 0 then _ else _)) = some r ∧ (if bi _ = 0 then _ else (if bi _ = 0 then _ else _)) = _
  simp only [b0]
  by_cases hx : inB x n = true
  · by_cases hy : inB y K = true
    · obtain ⟨a, ha, rfl⟩ := inB_of hx (by omega)
      obtain ⟨k, hk, rfl⟩ := inB_of hy (by omega)
      simp only [if_pos hx, if_pos hy]
      rw [fl_meets f0 (by omega), md_isAsked hm hn hM ha]
      obtain ⟨-, -, e1, -⟩ := hA.2.2.2.2.2.2.2 a (by omega)
      refine ⟨bi (ir a && th a k), ?_, ?_⟩
      · rw [← e1 k (by omega)]
        show (if bi _ = 0 then _ else _) = _
        rw [b0]
        by_cases hb : lb (Fl_met f0) a = true
        · rw [if_pos hb, if_pos (inB_nI (by omega) (by decide)), nI_clamp (by omega), isIn_eq _ (by omega), lb_int _ (by omega), hb]
          show (if bi _ = 0 then _ else _) = _
          rw [b0]; cases bt (Fl_thrown f0 a) k <;> rfl
        · rw [if_neg hb]
          have hb : lb (Fl_met f0) a = false := by simpa using hb
          rw [hb]; rfl
      · show (if bi _ = 0 then _ else _) = _
        rw [b0]
        by_cases hi : ir a = true
        · have e12 : (12 : Int32) = nI 12 := by decide
          rw [if_pos hi, e12, pk_mul, nI_add, if_pos (inB_nI (by omega) (by decide)), nI_clamp (by omega)]
          rcases hM with ⟨-, -, -, h2⟩ | ⟨-, h2⟩
          · rw [h2 a] at hi; cases hi
          · rw [((h2.2.2.2.2 a ha).2 hi).2.2.1 k (by omega), b0, hi]; cases th a k <;> rfl
        · have hi : ir a = false := by simpa using hi
          rw [hi]; rfl
    · simp only [if_neg hy, if_pos hx]
      exact ⟨-2, rfl, rfl⟩
  · simp only [if_neg hx]
    exact ⟨-2, rfl, rfl⟩
end Q
