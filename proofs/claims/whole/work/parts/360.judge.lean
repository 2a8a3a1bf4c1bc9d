/-! FAULTS and NOTES, NODE by NODE -/
def plc (T : AT) (B : Nat → Nat → Bool) (mt : Nat → Bool) (q n : Nat) (l1 : List Nat) : Option Int32 :=
  if (decide (aS T q = 16) && !decide (l1 = []) && !decide (enT T q = some n)) = true then (if l1.tail.any (fun c => B (mkN T n) (mkN T c)) = true then some 3 else if (!mt n && mt q) = true then some 4 else none)
  else if (!mt n && mt q && (match l1.getLast? with | none => true | some z => mt z)) = true then some 1 else none
def opA (o : Option Int32) (n : Nat) (lk : LkS) : Option LkS := match o with | none => some lk | some k => f_Lk_addFault k (nI n) lk
def opM (o : Option Int32) (n : Nat) (mf : MfS) : Option MfS := match o with | none => some mf | some k => f_Md_tell k (nI n) 1 mf
section C
variable {kn : KnS} {tr : TrS} {K : Nat} {B : Nat → Nat → Bool} {T : AT} {ks : List Nat} {fs : Nat → Nat} {rl : List Nat} {N r : Nat} {f0 : FlS} {lk : LkS}
/-- which mark a part of a TRY has -/
theorem try_mark {q n : Nat} {l1 l2 : List Nat} (hK : K ≤ 12) (hw : WT T) (hq : q < aN T) (hs : shp T K q) (h16 : aS T q = 16) (hP : aP T q = l1 ++ n :: l2) : aM T n = -1 ↔ (l1 = [] ∨ enT T q = some n) := by
  obtain ⟨h1, h2⟩ := hs.2.2.2.2.2.2.2.2.2.2.2.2.2.1 h16
  have hm := h2 l1.length n (by rw [hP]; simp)
  have hen : enT T q = some n ↔ (aH T q = true ∧ l1.length + 1 = (aP T q).length) := by
    unfold enT
    by_cases cH : aH T q = true
    · rw [if_pos cH, hP]
      cases l2 with
      | nil => simp [cH]
      | cons z l2 =>
        constructor
        · intro hh
          have hnd := hw.2.1 q hq
          rw [hP, List.nodup_append] at hnd
          have hin : n ∈ z :: l2 := by
            rw [List.getLast?_append, List.getLast?_cons_cons] at hh
            cases hz : (z :: l2).getLast? with
            | none => simp at hz
            | some w => rw [hz] at hh; simp at hh; rw [← hh]; exact List.mem_of_getLast? hz
          exact absurd hin (List.nodup_cons.mp hnd.2.1).1
        · rintro ⟨-, hh⟩
          simp at hh
    · rw [if_neg cH]
      constructor
      · intro hh; cases hh
      · intro hh; exact absurd hh.1 cH
  have hlz : l1.length = 0 ↔ l1 = [] := List.length_eq_zero_iff
  by_cases c : l1.length = 0 ∨ (aH T q = true ∧ l1.length + 1 = (aP T q).length)
  · rw [if_pos c] at hm
    rw [hen, ← hlz]
    exact ⟨fun _ => c, fun _ => hm⟩
  · rw [if_neg c] at hm
    rw [hen, ← hlz]
    obtain ⟨k, hk, e⟩ := hm
    constructor
    · intro hh
      rw [hh] at e
      exact absurd e.symm (nI_ne_m1 (by omega))
    · intro hh; exact absurd hh c
theorem tr_isCatch (h : TrR tr T ks fs rl) (hw : WT T) (hK : K ≤ 12) (hsh : ∀ m, m < aN T → shp T K m) {q n : Nat} {l1 l2 : List Nat} (hq : q < aN T) (hP : aP T q = l1 ++ n :: l2) : f_Tr_isCatch (nI n) tr = some (bi (decide (aS T q = 16) && !decide (l1 = []) && !decide (enT T q = some n))) := by
  have hn60 := h.2.1
  have hn : n ∈ aP T q := by rw [hP]; simp
  have hnl := hw.1 q hq n hn
  rw [f_Tr_isCatch.eq_1, if_pos (inB_nI (by omega) (by decide)), if_pos (inB_nI (by omega) (by decide)), if_pos (inB_nI (by omega) (by decide)), nI_clamp (by omega), tr_par h hq hn, if_neg (nI_ne_m1 (by omega)), if_pos (inB_nI (by omega) (by decide)), nI_clamp (by omega), (h.2.2.2.1 q hq).1, (h.2.2.2.1 n (by omega)).2.2.1]
  by_cases c16 : aS T q = 16
  · rw [if_pos c16]
    have hm := try_mark hK hw hq (hsh q hq) c16 hP
    by_cases cm : aM T n = -1
    · rw [if_pos cm]
      rcases hm.mp cm with e | e
      · simp [e, bi]
      · simp [e, bi]
    · rw [if_neg cm]
      have h1 : l1 ≠ [] := fun e => cm (hm.mpr (Or.inl e))
      have h2 : enT T q ≠ some n := fun e => cm (hm.mpr (Or.inr e))
      simp [c16, h1, h2, bi]
  · rw [if_neg c16]; simp [c16, bi]
theorem tr_before (h : TrR tr T ks fs rl) (hw : WT T) {q n : Nat} {l1 l2 : List Nat} (hq : q < aN T) (hP : aP T q = l1 ++ n :: l2) : f_Tr_kidBefore (nI n) tr = some (nx l1.getLast?) := by
  have hn60 := h.2.1
  have hn : n ∈ aP T q := by rw [hP]; simp
  have hnl := hw.1 q hq n hn
  obtain ⟨-, -, -, b4, -, -, b7⟩ := h.2.2.2.1 q hq
  have hk := b7 l1.length (by rw [hP]; simp)
  have hg : (aP T q)[l1.length]? = some n := by rw [hP]; simp
  rw [hg] at hk
  have hsp := (h.2.2.2.2.1 _ _ hk).2
  have hl2 := TrR_len h
  have hlt := (List.getElem?_eq_some_iff.mp hk).1
  rw [f_Tr_kidBefore.eq_1, if_pos (inB_nI (by omega) (by decide)), if_pos (inB_nI (by omega) (by decide)), if_pos (inB_nI (by omega) (by decide)), nI_clamp (by omega), tr_par h hq hn, if_pos (inB_nI (by omega) (by decide)), nI_clamp (by omega), hsp, b4]
  rcases List.eq_nil_or_concat l1 with e | ⟨l1', z, e⟩
  · subst e
    rw [if_pos (by simp)]; rfl
  · rw [List.concat_eq_append] at e
    subst e
    have hll : (l1' ++ [z]).length = l1'.length + 1 := by simp
    rw [hll] at hlt
    have hk2 := b7 l1'.length (by rw [hP]; simp)
    have hg2 : (aP T q)[l1'.length]? = some z := by rw [hP]; simp
    rw [hg2] at hk2
    rw [hll, if_neg (fun hh => by have := (nI_eq (by omega) (by omega)).mp hh; omega), show (1 : Int32) = nI 1 by decide, pk_sub (by omega), show fs q + (l1'.length + 1) - 1 = fs q + l1'.length by omega, if_pos (inB_nI (by omega) (by decide)), nI_clamp (by omega), (h.2.2.2.2.1 _ _ hk2).1, List.getLast?_concat]
    rfl
theorem cl_caught (h : TrR tr T ks fs rl) (hw : WT T) (hk : KnR kn K B) (hK : K ≤ 12) (hN : 100 < N) (hsh : ∀ m, m < aN T → shp T K m) (htl : ∀ m, m < aN T → tlR T m (Tr_tail tr m)) {q n b : Nat} {l1 l2 : List Nat} (hq : q < aN T) (h16 : aS T q = 16) (hP : aP T q = (b :: l1) ++ n :: l2) (hne : enT T q ≠ some n) : f_Lk_isCaughtBefore N (nI n) tr kn = some (bi (l1.any (fun c => B (mkN T n) (mkN T c)))) := by
  have hn60 := h.2.1
  have hnP : n ∈ aP T q := by rw [hP]; simp
  have hnl := hw.1 q hq n hnP
  have hlen : (aP T q).length ≤ 60 := nodup_le (hw.2.1 q hq) (fun p hp => by have := hw.1 q hq p hp; omega)
  obtain ⟨b', cs, hfr, hPt, hmk, -⟩ := try_split (hsh q hq) h16
  obtain ⟨hcc, -⟩ := tr_catchCount h hw hq h16 (htl q hq) hPt
  have hcs : ∃ s2, cs = l1 ++ n :: s2 := by
    have e : b :: (l1 ++ n :: l2) = b' :: (cs ++ (enT T q).toList) := by rw [← List.cons_append, ← List.cons_append, ← hP, hPt]
    injection e with e1 e2
    cases he : enT T q with
    | none => rw [he] at e2; exact ⟨l2, by simpa using e2.symm⟩
    | some z =>
      rw [he] at e2 hne
      have e2 : l1 ++ n :: l2 = cs ++ [z] := e2
      rcases List.eq_nil_or_concat l2 with e3 | ⟨l2', w, e3⟩
      · subst e3
        have := List.append_inj' e2 (by simp)
        have hnz : n = z := by simpa using this.2
        exact absurd (by rw [hnz]) hne
      · rw [List.concat_eq_append] at e3
        subst e3
        have e4 : (l1 ++ n :: l2') ++ [w] = cs ++ [z] := by rw [← e2]; simp
        have := List.append_inj' e4 (by simp)
        exact ⟨l2', this.1.symm⟩
  obtain ⟨s2, hcs⟩ := hcs
  have hcl : cs.length = l1.length + 1 + s2.length := by rw [hcs]; simp; omega
  have hcsl : cs.length + 1 ≤ (aP T q).length := by rw [hPt]; simp
  obtain ⟨kd, hkd, hmn⟩ := hmk n (by rw [hcs]; simp)
  have hmkn : mkN T n = kd := by unfold mkN; rw [hmn, nI_clamp (by omega)]
  have key : ∀ (s t : List Nat) (fuel : Nat), l1 = t ++ s → (∀ c ∈ t, B kd (mkN T c) = false) → s.length < fuel → lp (f_Lk_isCaughtBefore_L31 N (nI n) (Kn_over kn kd) (nI q) tr kn) fuel (nI (1 + t.length)) = some (bi (s.any (fun c => B kd (mkN T c)))) := by
    intro s
    induction s with
    | nil =>
      intro t fuel hl hno hf
      rw [List.append_nil] at hl
      match fuel, hf with
      | fuel + 1, _ =>
        show f_Lk_isCaughtBefore_L31 N _ _ _ tr kn _ _ = _
        rw [f_Lk_isCaughtBefore_L31.eq_1, hcc]
        simp only [Option.bind_some]
        rw [if_neg (nI_nlt (by rw [← hl]; omega) (by omega)), tr_kid h hq (i := 1 + t.length) (p := n) (by rw [hP, ← hl]; simp [Nat.add_comm])]
        simp only [Option.bind_some]
        rw [if_pos trivial]; rfl
    | cons c s ih =>
      intro t fuel hl hno hf
      have hcP : c ∈ aP T q := by rw [hP, hl]; simp
      have hcl2 := hw.1 q hq c hcP
      have hcn : nI c ≠ nI n := by
        intro hh
        have := (nI_eq (by omega) (by omega)).mp hh
        subst this
        have hnd := hw.2.1 q hq
        rw [hP, hl, List.nodup_append] at hnd
        exact hnd.2.2 c (by simp) c List.mem_cons_self rfl
      obtain ⟨kc, hkc, hmc⟩ := hmk c (by rw [hcs, hl]; simp)
      have hmkc : mkN T c = kc := by unfold mkN; rw [hmc, nI_clamp (by omega)]
      have htl2 : t.length < l1.length := by rw [hl]; simp
      match fuel, hf with
      | fuel + 1, hf =>
        show f_Lk_isCaughtBefore_L31 N _ _ _ tr kn _ _ = _
        have hkid : f_Tr_kid (nI q) (nI (1 + t.length)) tr = some (nI c) := tr_kid h hq (i := 1 + t.length) (p := c) (by rw [hP, hl]; simp [Nat.add_comm]; rw [List.getElem?_append_right (Nat.le_refl _)]; simp)
        rw [f_Lk_isCaughtBefore_L31.eq_1, hcc, hkid]
        simp only [Option.bind_some]
        rw [if_neg (nI_nlt (by omega) (by omega)), if_neg hcn, if_pos (inB_nI (show c < 60 by omega) (by decide)), nI_clamp (by omega), (h.2.2.2.1 c (by omega)).2.2.1, hmc, isIn_eq _ (by omega), lb_int _ (by omega), hk.2.1 kd kc hkd (by omega)]
        simp only [Option.bind_some, b0]
        by_cases cb : B kd kc = true
        · rw [if_pos cb]; simp [hmkc, cb, bi]
        · rw [if_neg cb, nI_1, show 1 + t.length + 1 = 1 + (t ++ [c]).length by simp; omega, ih (t ++ [c]) fuel (by rw [hl]; simp) (fun d hd => by
            rcases List.mem_append.mp hd with hd | hd
            · exact hno d hd
            · have : d = c := by simpa using hd
              rw [this, hmkc]; simpa using cb) (by simpa using hf)]
          have cb : B kd kc = false := by simpa using cb
          simp [hmkc, cb]
  rw [f_Lk_isCaughtBefore.eq_1, if_pos (inB_nI (by omega) (by decide)), if_pos (inB_nI (by omega) (by decide)), nI_clamp (by omega), (h.2.2.2.1 n (by omega)).2.2.1, hmn, if_pos (inB_nI (by omega) (by decide)), nI_clamp (by omega), tr_par h hq hnP, hmkn]
  exact key l1 [] N rfl (by simp) (by omega)
theorem ol_id (o : Option LkS) : (o.bind fun y => some y) = o := by cases o <;> rfl
theorem cl_place (hb : BldC kn tr K B T ks fs rl) (hN : 100 < N) {q n : Nat} {l1 l2 : List Nat} (hq : q < aN T) (hP : aP T q = l1 ++ n :: l2) : f_Lk_listPlaceFault N (nI n) lk f0 tr kn = opA (plc T B (lb (Fl_met f0)) q n l1) n lk := by
  obtain ⟨h, hw, hk, hK, hsh, htl, hdf⟩ := hb
  have hn60 := h.2.1
  have hnP : n ∈ aP T q := by rw [hP]; simp
  have hnl := hw.1 q hq n hnP
  have e35 : ∀ z : Bool, f_Lk_listPlaceFault_b35 N (bi z) (nI n) lk f0 tr kn = opA (if (decide (aS T q = 16) && !decide (l1 = []) && !decide (enT T q = some n)) = true then (if l1.tail.any (fun c => B (mkN T n) (mkN T c)) = true then some 3 else if z = true then some 4 else none) else if (z && (match l1.getLast? with | none => true | some z => lb (Fl_met f0) z)) = true then some 1 else none) n lk := by
    intro z
    rw [f_Lk_listPlaceFault_b35.eq_1, tr_isCatch h hw hK hsh hq hP]
    simp only [Option.bind_some, b0]
    by_cases cc : (decide (aS T q = 16) && !decide (l1 = []) && !decide (enT T q = some n)) = true
    · rw [if_pos cc, if_pos cc]
      simp only [Bool.and_eq_true, Bool.not_eq_true', decide_eq_true_eq, decide_eq_false_iff_not] at cc
      obtain ⟨⟨c16, c1⟩, ce⟩ := cc
      cases l1 with
      | nil => exact absurd rfl c1
      | cons b l =>
        rw [cl_caught h hw hk hK hN hsh htl hq c16 hP ce]
        simp only [Option.bind_some, b0]
        show _ = opA (if l.any (fun c => B (mkN T n) (mkN T c)) = true then some 3 else if z = true then some 4 else none) n lk
        by_cases cs : l.any (fun c => B (mkN T n) (mkN T c)) = true
        · rw [if_pos cs, if_pos cs, ol_id]; rfl
        · rw [if_neg cs, if_neg cs]
          cases z
          · rfl
          · rw [if_pos rfl, if_pos rfl, ol_id]; rfl
    · rw [if_neg cc, if_neg cc, tr_before h hw hq hP]
      simp only [Option.bind_some]
      cases z
      · rfl
      · rw [if_pos rfl, f_Lk_listPlaceFault_b76.eq_1, ol_id]
        cases hl : l1.getLast? with
        | none =>
          rw [nx_n, if_pos rfl]; rfl
        | some w =>
          have hwP : w ∈ aP T q := by rw [hP]; exact List.mem_append_left _ (List.mem_of_getLast? hl)
          have hwl := hw.1 q hq w hwP
          rw [nx_s, if_neg (nI_ne_m1 (by omega)), fl_meets _ (by omega)]
          simp only [Option.bind_some, b0]
          show _ = opA (if (true && lb (Fl_met f0) w) = true then some 1 else none) n lk
          cases lb (Fl_met f0) w <;> rfl
  rw [f_Lk_listPlaceFault.eq_1, fl_meets _ (by omega), if_pos (inB_nI (by omega) (by decide)), nI_clamp (by omega), tr_par h hq hnP, fl_meets _ (by omega), f_Lk_listPlaceFault_b34.eq_1]
  simp only [Option.bind_some, b0]
  rw [show (1 : Int32) = bi true from rfl, show (0 : Int32) = bi false from rfl, e35, e35]
  unfold plc
  cases h1 : lb (Fl_met f0) n <;> cases h2 : lb (Fl_met f0) q <;> simp
end C
