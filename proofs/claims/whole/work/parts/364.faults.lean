/-! FAULTS and NOTES: the lists -/
def lkF (lk : LkS) (c : Int32) (s d : ArS) : LkS := (Lk_root lk, Lk_length lk, Lk_order lk, Lk_waiting lk, Lk_targets lk, c, s, d, Lk_noteCount lk, Lk_noteNode lk)
def lkN (lk : LkS) (c : Int32) (g : ArS) : LkS := (Lk_root lk, Lk_length lk, Lk_order lk, Lk_waiting lk, Lk_targets lk, Lk_faultCount lk, Lk_faultSort lk, Lk_faultNode lk, c, g)
def FaR (s d : ArS) (F : List (Int32 × Int32)) : Prop := ∀ i p, F[i]? = some p → s i = p.1 ∧ d i = p.2
def GaR (g : ArS) (G : List Int32) : Prop := ∀ i p, G[i]? = some p → g i = p
def MfR (mf : MfS) (F : List (Int32 × Int32)) (G : List Int32) : Prop := Mf_faults mf = nI F.length ∧ FaR (Mf_faultKind mf) (Mf_faultNode mf) F ∧ Mf_noted mf = nI G.length ∧ GaR (Mf_notes mf) G
def opL (o : Option Int32) (n : Nat) : List (Int32 × Int32) := match o with | none => [] | some k => [(k, nI n)]
theorem FaR_snoc {s d : ArS} {F : List (Int32 × Int32)} (h : FaR s d F) (a b : Int32) : FaR (upd s F.length a) (upd d F.length b) (F ++ [(a, b)]) := by
  intro i p hp
  by_cases hi : i < F.length
  · rw [List.getElem?_append_left hi] at hp
    rw [upd_n (by omega), upd_n (by omega)]; exact h i p hp
  · rw [List.getElem?_append_right (by omega)] at hp
    have hl := (List.getElem?_eq_some_iff.mp hp).1
    simp at hl
    have e : i = F.length := by omega
    subst e
    simp at hp
    rw [upd_s, upd_s, ← hp]; exact ⟨rfl, rfl⟩
theorem GaR_snoc {g : ArS} {G : List Int32} (h : GaR g G) (a : Int32) : GaR (upd g G.length a) (G ++ [a]) := by
  intro i p hp
  by_cases hi : i < G.length
  · rw [List.getElem?_append_left hi] at hp
    rw [upd_n (by omega)]; exact h i p hp
  · rw [List.getElem?_append_right (by omega)] at hp
    have hl := (List.getElem?_eq_some_iff.mp hp).1
    simp at hl
    have e : i = G.length := by omega
    subst e
    simp at hp
    rw [upd_s, hp]
theorem opA_F {lk : LkS} {s d : ArS} {F : List (Int32 × Int32)} {o : Option Int32} {n : Nat} (h : FaR s d F) (hl : F.length < 120) : ∃ s' d', opA o n (lkF lk (nI F.length) s d) = some (lkF lk (nI (F ++ opL o n).length) s' d') ∧ FaR s' d' (F ++ opL o n) := by
  cases o with
  | none => exact ⟨s, d, by rw [show opL none n = [] from rfl, List.append_nil]; rfl, by rw [show opL none n = [] from rfl, List.append_nil]; exact h⟩
  | some k =>
    refine ⟨upd s F.length k, upd d F.length (nI n), ?_, FaR_snoc h k (nI n)⟩
    show f_Lk_addFault k (nI n) (lkF lk (nI F.length) s d) = _
    rw [f_Lk_addFault.eq_1]
    show (if inB (nI F.length) 120 = true then (if inB (nI F.length) 120 = true then some (lkF lk (nI F.length + 1) (upd s (nI F.length).toNatClampNeg k) (upd d (nI F.length).toNatClampNeg (nI n))) else none) else none) = _
    rw [if_pos (inB_nI hl (by decide)), if_pos (inB_nI hl (by decide)), nI_clamp (by omega), nI_1]
    rw [show (F ++ opL (some k) n).length = F.length + 1 by simp [opL]]
theorem opM_F {mf : MfS} {F : List (Int32 × Int32)} {G : List Int32} {o : Option Int32} {n : Nat} (h : MfR mf F G) (hl : F.length < 120) : ∃ mf', opM o n mf = some mf' ∧ MfR mf' (F ++ opL o n) G := by
  cases o with
  | none => exact ⟨mf, rfl, by rw [show opL none n = [] from rfl, List.append_nil]; exact h⟩
  | some k =>
    obtain ⟨h1, h2, h3, h4⟩ := h
    refine ⟨(nI (F.length + 1), upd (Mf_faultKind mf) F.length k, upd (Mf_faultNode mf) F.length (nI n), Mf_noted mf, Mf_notes mf), ?_, ?_, FaR_snoc h2 k (nI n), h3, h4⟩
    · show f_Md_tell k (nI n) 1 mf = _
      rw [f_Md_tell.eq_1, if_neg (by decide), h1, if_pos (inB_nI (show F.length < 180 by omega) (by decide)), if_pos (inB_nI (show F.length < 180 by omega) (by decide)), nI_clamp (by omega), show nI F.length + (1 : Int32) = nI (F.length + 1) from nI_1 _]
    · show nI (F.length + 1) = _
      rw [show (F ++ opL (some k) n).length = F.length + 1 by simp [opL]]
theorem ntM_F {mf : MfS} {F : List (Int32 × Int32)} {G : List Int32} {c : Bool} {n : Nat} (h : MfR mf F G) (hl : G.length < 60) : ∃ mf', ntM c n mf = some mf' ∧ MfR mf' F (G ++ (if c = true then [nI n] else [])) := by
  obtain ⟨h1, h2, h3, h4⟩ := h
  cases c
  · exact ⟨mf, rfl, by rw [if_neg (by decide), List.append_nil]; exact ⟨h1, h2, h3, h4⟩⟩
  · refine ⟨(Mf_faults mf, Mf_faultKind mf, Mf_faultNode mf, nI (G.length + 1), upd (Mf_notes mf) G.length (nI n)), ?_, h1, h2, ?_, ?_⟩
    · unfold ntM
      rw [if_pos rfl, h3, if_pos (inB_nI hl (by decide)), nI_clamp (by omega), show nI G.length + (1 : Int32) = nI (G.length + 1) from nI_1 _]
    · show nI (G.length + 1) = _
      rw [if_pos rfl]; simp
    · rw [if_pos rfl]; exact GaR_snoc h4 (nI n)
def pqB (tr : TrS) (r : Nat) (mt1 : Nat → Bool) (n : Nat) : Bool := !decide (n = r) && mt1 (Tr_parent tr n).toNatClampNeg
def ntB (tr : TrS) (r : Nat) (mt mt1 : Nat → Bool) (n : Nat) : Bool := mt n && !mt1 n && pqB tr r mt1 n
section J
variable {kn : KnS} {tr : TrS} {mb : MbS} {mg : MgS} {K : Nat} {ab : Nat → Nat} {B : Nat → Nat → Bool} {T : AT} {ks : List Nat} {fs : Nat → Nat} {rl : List Nat} {r N : Nat} {mx : MxS} {f0 f1 : FlS} {lk : LkS} {D : Dt} {mt1 : Nat → Bool}
theorem find_any (T : AT) (n : Nat) (l : List Nat) : nx (l.find? (fun q => decide (aS T q = 12) && decide (aV T q = aV T n))) = -1 ∨ nst T n l = true := by
  unfold nst
  cases hf : l.find? (fun q => decide (aS T q = 12) && decide (aV T q = aV T n)) with
  | none => exact Or.inl rfl
  | some q =>
    right
    rw [List.any_eq_true]
    have h2 := List.find?_some hf
    exact ⟨q, List.mem_of_find?_eq_some hf, h2⟩
/-- jumps without TARGETS, LABELS in LABELS, in the class -/
theorem cl_b35 (hb : BldC kn tr K B T ks fs rl) (hN : 100 < N) (hr : r < aN T) (hk : Lk_root lk = nI r) {n : Nat} {l : List Nat} (hp : Pth T n l r) (hn : n < aN T) {k7 : Int32 × LkS → Option LkS} {i : Nat} {s d : ArS} {F : List (Int32 × Int32)} (hF : FaR s d F) (hl : F.length < 120) : ∃ s' d', f_Lk_listFaults_b35 N k7 (nI i) (nI n) (lkF lk (nI F.length) s d) f0 tr kn = k7 (nI (i + 1), lkF lk (nI (F ++ opL (if (jmp T n && decide (Lk_targets lk n = -1)) = true then some 2 else none) n ++ opL (if (decide (aS T n = 12) && nst T n l) = true then some 5 else none) n).length) s' d') ∧ FaR s' d' (F ++ opL (if (jmp T n && decide (Lk_targets lk n = -1)) = true then some 2 else none) n ++ opL (if (decide (aS T n = 12) && nst T n l) = true then some 5 else none) n) := by
  obtain ⟨h, hw, hkn, hK, hsh, htl, hdf⟩ := hb
  have hn60 := h.2.1
  have e59 : ∀ (s d : ArS) (F : List (Int32 × Int32)), FaR s d F → (aS T n = 12 → F.length < 120) → ∃ s' d', f_Lk_listFaults_b59 N k7 (nI i) (nI n) (lkF lk (nI F.length) s d) f0 tr kn = k7 (nI (i + 1), lkF lk (nI (F ++ opL (if (decide (aS T n = 12) && nst T n l) = true then some 5 else none) n).length) s' d') ∧ FaR s' d' (F ++ opL (if (decide (aS T n = 12) && nst T n l) = true then some 5 else none) n) := by
    intro s d F hF hl
    rw [f_Lk_listFaults_b59.eq_1, if_pos (inB_nI (by omega) (by decide)), if_pos (inB_nI (by omega) (by decide)), nI_clamp (by omega), (h.2.2.2.1 n hn).1, (h.2.2.2.1 n hn).2.1, cl_around h hw hN hr (lk := lkF lk (nI F.length) s d) hk hp]
    simp only [Option.bind_some]
    by_cases c12 : aS T n = 12
    · rw [if_pos c12]
      by_cases cn : nst T n l = true
      · have hne : ¬ nx (l.find? (fun q => decide (aS T q = 12) && decide (aV T q = aV T n))) = -1 := by
          intro hh
          unfold nst at cn
          rw [List.any_eq_true] at cn
          obtain ⟨q, hq, hc⟩ := cn
          cases hf : l.find? (fun q => decide (aS T q = 12) && decide (aV T q = aV T n)) with
          | none =>
            rw [List.find?_eq_none] at hf
            exact absurd hc (hf q hq)
          | some q' =>
            rw [hf] at hh
            have := Pth_mem hw l n hp q' (List.mem_of_find?_eq_some hf)
            exact nI_ne_m1 (by omega) hh
        rw [if_neg hne]
        obtain ⟨s', d', a1, a2⟩ := opA_F (lk := lk) (o := some 5) (n := n) hF (hl c12)
        have a1 : f_Lk_addFault 5 (nI n) (lkF lk (nI F.length) s d) = _ := a1
        rw [a1]
        simp only [Option.bind_some]
        rw [if_pos (by simp [c12, cn]), nI_1]
        exact ⟨s', d', rfl, a2⟩
      · rcases find_any T n l with hh | hh
        · rw [if_pos hh, if_neg (by simp [cn]), show opL none n = [] from rfl, List.append_nil, nI_1]
          exact ⟨s, d, rfl, hF⟩
        · exact absurd hh cn
    · rw [if_neg c12, if_neg (by simp [c12]), show opL none n = [] from rfl, List.append_nil, nI_1]
      exact ⟨s, d, rfl, hF⟩
  rw [f_Lk_listFaults_b35.eq_1, lk_isJump h hn]
  simp only [Option.bind_some, b0]
  by_cases cj : jmp T n = true
  · rw [if_pos cj, if_pos (inB_nI (show n < 60 by omega) (by decide)), nI_clamp (show n < 2 ^ 31 by omega)]
    show ∃ s' d', (if Lk_targets lk n = -1 then _ else _) = _ ∧ _
    by_cases ct : Lk_targets lk n = -1
    · rw [if_pos ct]
      obtain ⟨s', d', a1, a2⟩ := opA_F (lk := lk) (o := some 2) (n := n) hF (by omega)
      have a1 : f_Lk_addFault 2 (nI n) (lkF lk (nI F.length) s d) = _ := a1
      rw [a1]
      simp only [Option.bind_some]
      rw [if_pos (by simp [cj, ct])]
      exact e59 s' d' _ a2 (fun c12 => by unfold jmp at cj; simp [c12] at cj)
    · rw [if_neg ct, if_neg (by simp [ct]), show opL none n = [] from rfl, List.append_nil]
      exact e59 s d F hF (fun _ => hl)
  · rw [if_neg cj, if_neg (by simp [cj]), show opL none n = [] from rfl, List.append_nil]
    exact e59 s d F hF (fun _ => hl)
theorem opL_le (o : Option Int32) (n : Nat) : (opL o n).length ≤ 1 := by cases o <;> simp [opL]
/-- both lists of FAULTS, and the model's NOTES -/
theorem jn_faults (hb : BldC kn tr K B T ks fs rl) (hm : BldM mb mg K ab B T rl r) (hN : 1000 < N) (hk : Lk_root lk = nI r) (hl : Lk_length lk = nI (pre T r).length) (hod : OdR (Lk_order lk) (pre T r)) (htg : ∀ x ∈ pre T r, Lk_targets lk x = Mg_targets mg x) (hS : SlR false K T B (Mg_targets mg) r D (lb (Fl_met f0))) (h0 : ∀ x ∈ pre T r, Mx_isReached mx x = bi (lb (Fl_met f0) x)) (h1 : ∀ x ∈ pre T r, Mx_isCome mx x = bi (mt1 x)) : ∀ (S O : List Nat) (F : List (Int32 × Int32)) (G : List Int32) (s d : ArS) (mf : MfS) (fc fm : Nat), pre T r = O ++ S → F.length ≤ 2 * O.length → FaR s d F → MfR mf F G → G.length ≤ O.length → S.length < fc → S.length < fm →
    ∃ F' s' d' mf', lp (f_Lk_listFaults_L7 N f0 tr kn) fc (nI O.length, lkF lk (nI F.length) s d) = some (lkF lk (nI F'.length) s' d') ∧ FaR s' d' F' ∧ F'.length ≤ 120 ∧ lp (f_Md_look_L178 N mb) fm (nI O.length, mg, mx, mf) = some (mg, mx, mf') ∧ MfR mf' F' (G ++ (S.filter (ntB tr r (lb (Fl_met f0)) mt1)).map nI) := by
  have hb' := hb
  have hm' := hm
  obtain ⟨h, hw, hkn, hK, hsh, htl, hdf⟩ := hb
  obtain ⟨hMb, -, h60, hKI, hMk, -, hr, hg, hrt, hkk, hod2, hTg⟩ := hm
  have hlr := pre_len hw hr
  intro S
  induction S with
  | nil =>
    intro O F G s d mf fc fm hO hFl hF hM hG hfc hfm
    rw [List.append_nil] at hO
    match fc, fm, hfc, hfm with
    | fc + 1, fm + 1, _, _ =>
      refine ⟨F, s, d, mf, ?_, hF, by rw [← hO] at hFl; omega, ?_, by simpa using hM⟩
      · show f_Lk_listFaults_L7 N f0 tr kn _ _ = _
        rw [f_Lk_listFaults_L7.eq_1]
        show (if Lk_length lk ≤ nI O.length then _ else _) = _
        rw [hl, hO, if_pos (nI_le (Nat.le_refl _) (by rw [← hO]; omega))]
      · show f_Md_look_L178 N mb _ _ = _
        rw [f_Md_look_L178.eq_1]
        show (if Mg_rooted mg ≤ nI O.length then _ else _) = _
        rw [hrt, hO, if_pos (nI_le (Nat.le_refl _) (by rw [← hO]; omega))]
  | cons n S ih =>
    intro O F G s d mf fc fm hO hFl hF hM hG hfc hfm
    have hn : n ∈ pre T r := by rw [hO]; simp
    have hnn := pre_lt hw hr hn
    have hOl : O.length < (pre T r).length := by rw [hO]; simp
    have hox : Lk_order lk O.length = nI n := hod O.length n (by rw [hO]; simp)
    have hox2 : Mg_order mg O.length = nI n := hod2 O.length n (by rw [hO]; simp)
    obtain ⟨l, hpl⟩ := Pth_ex hw hr _ n (Nat.le_refl _) hn
    match fc, fm, hfc, hfm with
    | fc + 1, fm + 1, hfc, hfm =>
      have ec : lp (f_Lk_listFaults_L7 N f0 tr kn) (fc + 1) (nI O.length, lkF lk (nI F.length) s d) = (if n = r then f_Lk_listFaults_b35 N (lp (f_Lk_listFaults_L7 N f0 tr kn) fc) (nI O.length) (nI n) (lkF lk (nI F.length) s d) f0 tr kn else ((f_Lk_listPlaceFault N (nI n) (lkF lk (nI F.length) s d) f0 tr kn).bind fun y32 => f_Lk_listFaults_b35 N (lp (f_Lk_listFaults_L7 N f0 tr kn) fc) (nI O.length) (nI n) y32 f0 tr kn)) := by
        show f_Lk_listFaults_L7 N f0 tr kn _ _ = _
        rw [f_Lk_listFaults_L7.eq_1]
        show (if Lk_length lk ≤ nI O.length then _ else (if inB (nI O.length) 60 = true then (if Lk_order lk (nI O.length).toNatClampNeg = Lk_root lk then f_Lk_listFaults_b35 N (lp (f_Lk_listFaults_L7 N f0 tr kn) fc) (nI O.length) (Lk_order lk (nI O.length).toNatClampNeg) (lkF lk (nI F.length) s d) f0 tr kn else ((f_Lk_listPlaceFault N (Lk_order lk (nI O.length).toNatClampNeg) (lkF lk (nI F.length) s d) f0 tr kn).bind fun y32 => f_Lk_listFaults_b35 N (lp (f_Lk_listFaults_L7 N f0 tr kn) fc) (nI O.length) (Lk_order lk (nI O.length).toNatClampNeg) y32 f0 tr kn)) else none)) = _
        rw [hl, if_neg (nI_ge hOl (by omega)), if_pos (inB_nI (by omega) (by decide)), nI_clamp (show O.length < 2 ^ 31 by omega), hox, hk]
        by_cases c : n = r
        · rw [if_pos c, if_pos (by rw [c])]
        · rw [if_neg c, if_neg (fun e => c ((nI_eq (by omega) (by omega)).mp e))]
      have em : lp (f_Md_look_L178 N mb) (fm + 1) (nI O.length, mg, mx, mf) = ((f_Md_judge N (nI n) mb mg mx mf).bind fun y193 => lp (f_Md_look_L178 N mb) fm (nI (O.length + 1), mg, mx, y193)) := by
        show f_Md_look_L178 N mb _ _ = _
        rw [f_Md_look_L178.eq_1]
        show (if Mg_rooted mg ≤ nI O.length then _ else (if inB (nI O.length) 60 = true then ((f_Md_judge N (Mg_order mg (nI O.length).toNatClampNeg) mb mg mx mf).bind fun y193 => lp (f_Md_look_L178 N mb) fm (nI O.length + 1, mg, mx, y193)) else none)) = _
        rw [hrt, if_neg (nI_ge hOl (by omega)), if_pos (inB_nI (by omega) (by decide)), nI_clamp (show O.length < 2 ^ 31 by omega), hox2, nI_1]
      -- the place, as a list
      have place : ∃ o : Option Int32, (n = r → o = none) ∧ (n ≠ r → f_Lk_listPlaceFault N (nI n) (lkF lk (nI F.length) s d) f0 tr kn = opA o n (lkF lk (nI F.length) s d)) ∧ ∃ xq, ((xq = -1 ∧ pqB tr r mt1 n = false) ∨ ∃ q ∈ pre T r, xq = nI q ∧ pqB tr r mt1 n = mt1 q) ∧ f_Md_judge N (nI n) mb mg mx mf = ((opM o n mf).bind fun y => f_Md_judge_b170 N (nI n) xq mb mg mx y) := by
        by_cases c : n = r
        · refine ⟨none, fun _ => rfl, fun hh => absurd c hh, -1, Or.inl ⟨rfl, by unfold pqB; simp [c]⟩, ?_⟩
          rw [c, md_judge_r hm']; rfl
        · rcases pre_up hw r hr n hn with e | ⟨q, hq, hnq⟩
          · exact absurd e c
          · obtain ⟨l1, l2, hP⟩ := List.append_of_mem hnq
            have hqn := pre_lt hw hr hq
            refine ⟨plc T B (lb (Fl_met f0)) q n l1, fun hh => absurd hh c, fun _ => cl_place hb' (by omega) hqn hP, nI q, Or.inr ⟨q, hq, rfl, ?_⟩, md_judge_n hm' (by omega) hS hq hP c h0⟩
            unfold pqB
            rw [tr_par h hqn hnq, nI_clamp (by omega)]; simp [c]
      obtain ⟨o, hor, hoc, xq, hxq, hmj⟩ := place
      obtain ⟨s1, d1, a1, a2⟩ := opA_F (lk := lk) (o := o) (n := n) hF (by omega)
      obtain ⟨mf1, m1, m2⟩ := opM_F (o := o) (n := n) hM (by omega)
      have o1 := opL_le o n
      -- two at most
      have two : (opL o n).length + (opL (if (jmp T n && decide (Lk_targets lk n = -1)) = true then some 2 else none) n).length + (opL (if (decide (aS T n = 12) && nst T n l) = true then some 5 else none) n).length ≤ 2 := by
        by_cases c12 : aS T n = 12
        · have : jmp T n = false := by unfold jmp; simp [c12]
          rw [if_neg (by simp [this]), show (opL none n).length = 0 from rfl]
          have := opL_le (if (decide (aS T n = 12) && nst T n l) = true then some 5 else none) n
          omega
        · rw [if_neg (show ¬ (decide (aS T n = 12) && nst T n l) = true by simp [c12])]
          rw [show (opL none n).length = 0 from rfl]
          have := opL_le (if (jmp T n && decide (Lk_targets lk n = -1)) = true then some 2 else none) n
          omega
      have hcap : (F ++ opL o n).length < 120 := by rw [List.length_append]; omega
      obtain ⟨s2, d2, b1, b2⟩ := cl_b35 (N := N) hb' (by omega) hr hk hpl hnn (f0 := f0) (k7 := lp (f_Lk_listFaults_L7 N f0 tr kn) fc) (i := O.length) a2 hcap
      rw [htg n hn] at b1 b2 two
      -- the model's
      have cap2 : (F ++ opL o n ++ opL (if (jmp T n && decide (Mg_targets mg n = -1)) = true then some 2 else none) n).length < 120 ∨ (if (decide (aS T n = 12) && nst T n l) = true then some (5 : Int32) else none) = none := by
        by_cases c12 : aS T n = 12
        · left
          have : jmp T n = false := by unfold jmp; simp [c12]
          rw [if_neg (show ¬ (jmp T n && decide (Mg_targets mg n = -1)) = true by simp [this]), show opL none n = [] from rfl, List.append_nil]
          exact hcap
        · right; rw [if_neg (by simp [c12])]
      obtain ⟨mf2, n1, n2⟩ := opM_F (o := if (jmp T n && decide (Mg_targets mg n = -1)) = true then some 2 else none) (n := n) m2 hcap
      obtain ⟨mf3, p1, p2⟩ : ∃ mf3, opM (if (decide (aS T n = 12) && nst T n l) = true then some 5 else none) n mf2 = some mf3 ∧ MfR mf3 (F ++ opL o n ++ opL (if (jmp T n && decide (Mg_targets mg n = -1)) = true then some 2 else none) n ++ opL (if (decide (aS T n = 12) && nst T n l) = true then some 5 else none) n) G := by
        rcases cap2 with hc | hc
        · exact opM_F n2 hc
        · rw [hc]
          exact ⟨mf2, rfl, by rw [show opL none n = [] from rfl, List.append_nil]; exact n2⟩
      obtain ⟨mf4, q1, q2⟩ := ntM_F (c := lb (Fl_met f0) n && !mt1 n && pqB tr r mt1 n) (n := n) p2 (by omega)
      have hjudge : f_Md_judge N (nI n) mb mg mx mf = some mf4 := by
        rw [hmj, m1]
        simp only [Option.bind_some]
        rw [md_b170 hm' (by omega) hpl hn h0 h1 xq (pqB tr r mt1 n) hxq, n1]
        simp only [Option.bind_some]
        rw [p1]
        simp only [Option.bind_some]
        exact q1
      have hstep : lp (f_Lk_listFaults_L7 N f0 tr kn) (fc + 1) (nI O.length, lkF lk (nI F.length) s d) = lp (f_Lk_listFaults_L7 N f0 tr kn) fc (nI (O.length + 1), lkF lk (nI (F ++ opL o n ++ opL (if (jmp T n && decide (Mg_targets mg n = -1)) = true then some 2 else none) n ++ opL (if (decide (aS T n = 12) && nst T n l) = true then some 5 else none) n).length) s2 d2) := by
        rw [ec, ← b1]
        by_cases c : n = r
        · rw [if_pos c]
          have := hor c
          subst this
          have a1 : some (lkF lk (nI F.length) s d) = some (lkF lk (nI (F ++ opL none n).length) s1 d1) := a1
          rw [Option.some.inj a1]
        · rw [if_neg c, hoc c, a1]; rfl
      obtain ⟨F', s', d', mf', r1, r2, r3, r4, r5⟩ := ih (O ++ [n]) (F ++ opL o n ++ opL (if (jmp T n && decide (Mg_targets mg n = -1)) = true then some 2 else none) n ++ opL (if (decide (aS T n = 12) && nst T n l) = true then some 5 else none) n) (G ++ (if (lb (Fl_met f0) n && !mt1 n && pqB tr r mt1 n) = true then [nI n] else [])) s2 d2 mf4 fc fm (by rw [hO]; simp) (by simp only [List.length_append, List.length_cons, List.length_nil] at two ⊢; omega) b2 q2 (by
        rw [List.length_append, List.length_append]
        by_cases cc : (lb (Fl_met f0) n && !mt1 n && pqB tr r mt1 n) = true
        · rw [if_pos cc]; simp; omega
        · rw [if_neg cc]; simp; omega) (by simpa using hfc) (by simpa using hfm)
      rw [show (O ++ [n]).length = O.length + 1 by simp] at r1 r4
      refine ⟨F', s', d', mf', by rw [hstep]; exact r1, r2, r3, ?_, ?_⟩
      · rw [em, hjudge]; exact r4
      · rw [List.append_assoc] at r5
        have : (if (lb (Fl_met f0) n && !mt1 n && pqB tr r mt1 n) = true then [nI n] else []) ++ (S.filter (ntB tr r (lb (Fl_met f0)) mt1)).map nI = ((n :: S).filter (ntB tr r (lb (Fl_met f0)) mt1)).map nI := by
          rw [List.filter_cons]
          by_cases cc : (lb (Fl_met f0) n && !mt1 n && pqB tr r mt1 n) = true
          · rw [if_pos cc, if_pos (show ntB tr r (lb (Fl_met f0)) mt1 n = true from cc)]; rfl
          · rw [if_neg cc, if_neg (show ¬ ntB tr r (lb (Fl_met f0)) mt1 n = true from cc)]; rfl
        rw [this] at r5
        exact r5
/-- the class's NOTES -/
theorem cl_notes (hb : BldC kn tr K B T ks fs rl) (hr : r < aN T) (hl : Lk_length lk = nI (pre T r).length) (hod : OdR (Lk_order lk) (pre T r)) : ∀ (S O : List Nat) (G : List Int32) (g : ArS) (fuel : Nat), pre T r = O ++ S → O ≠ [] → GaR g G → G.length ≤ O.length → S.length < fuel → ∃ g', lp (f_Lk_listNotes_L7 N f0 f1 tr) fuel (nI O.length, lkN lk (nI G.length) g) = some (lkN lk (nI (G ++ (S.filter (ntB tr r (lb (Fl_met f0)) (lb (Fl_met f1)))).map nI).length) g') ∧ GaR g' (G ++ (S.filter (ntB tr r (lb (Fl_met f0)) (lb (Fl_met f1)))).map nI) := by
  obtain ⟨h, hw, hkn, hK, hsh, htl, hdf⟩ := hb
  have hn60 := h.2.1
  have hlr := pre_len hw hr
  have hnd := pre_nodup hw hr
  intro S
  induction S with
  | nil =>
    intro O G g fuel hO _ hG _ hf
    rw [List.append_nil] at hO
    match fuel, hf with
    | fuel + 1, _ =>
      refine ⟨g, ?_, by simpa using hG⟩
      show f_Lk_listNotes_L7 N f0 f1 tr _ _ = _
      rw [f_Lk_listNotes_L7.eq_1]
      show (if Lk_length lk ≤ nI O.length then _ else _) = _
      rw [hl, hO, if_pos (nI_le (Nat.le_refl _) (by rw [← hO]; omega))]
      simp
  | cons n S ih =>
    intro O G g fuel hO hne hG hGl hf
    have hn : n ∈ pre T r := by rw [hO]; simp
    have hnn := pre_lt hw hr hn
    have hOl : O.length < (pre T r).length := by rw [hO]; simp
    have hox : Lk_order lk O.length = nI n := hod O.length n (by rw [hO]; simp)
    have hnr : n ≠ r := by
      intro e
      cases O with
      | nil => exact hne rfl
      | cons z zs =>
        have hz := pre_hd hw hr (x := z) (l := zs ++ n :: S) (by rw [hO]; rfl)
        have hnd2 := hnd
        rw [hO, List.nodup_append] at hnd2
        exact hnd2.2.2 z List.mem_cons_self n List.mem_cons_self (by rw [hz, e])
    rcases pre_up hw r hr n hn with e | ⟨q, hq, hnq⟩
    · exact absurd e hnr
    · have hqn := pre_lt hw hr hq
      have hpq : pqB tr r (lb (Fl_met f1)) n = lb (Fl_met f1) q := by
        unfold pqB
        rw [tr_par h hqn hnq, nI_clamp (by omega)]; simp [hnr]
      match fuel, hf with
      | fuel + 1, hf =>
        have hun : lp (f_Lk_listNotes_L7 N f0 f1 tr) (fuel + 1) (nI O.length, lkN lk (nI G.length) g) = (if ntB tr r (lb (Fl_met f0)) (lb (Fl_met f1)) n = true then lp (f_Lk_listNotes_L7 N f0 f1 tr) fuel (nI (O.length + 1), lkN lk (nI (G.length + 1)) (upd g G.length (nI n))) else lp (f_Lk_listNotes_L7 N f0 f1 tr) fuel (nI (O.length + 1), lkN lk (nI G.length) g)) := by
          show f_Lk_listNotes_L7 N f0 f1 tr _ _ = _
          rw [f_Lk_listNotes_L7.eq_1]
          show (if Lk_length lk ≤ nI O.length then _ else (if inB (nI O.length) 60 = true then ((f_Fl_meets (Lk_order lk (nI O.length).toNatClampNeg) f0).bind fun y27 => (if y27 = 0 then lp (f_Lk_listNotes_L7 N f0 f1 tr) fuel (nI O.length + 1, lkN lk (nI G.length) g) else ((f_Fl_meets (Lk_order lk (nI O.length).toNatClampNeg) f1).bind fun y38 => (if y38 = 0 then (if inB (Lk_order lk (nI O.length).toNatClampNeg) 60 = true then ((f_Fl_meets (Tr_parent tr (Lk_order lk (nI O.length).toNatClampNeg).toNatClampNeg) f1).bind fun y57 => (if y57 = 0 then lp (f_Lk_listNotes_L7 N f0 f1 tr) fuel (nI O.length + 1, lkN lk (nI G.length) g) else (if inB (nI G.length) 60 = true then lp (f_Lk_listNotes_L7 N f0 f1 tr) fuel (nI O.length + 1, lkN lk (nI G.length + 1) (upd g (nI G.length).toNatClampNeg (Lk_order lk (nI O.length).toNatClampNeg))) else none))) else none) else lp (f_Lk_listNotes_L7 N f0 f1 tr) fuel (nI O.length + 1, lkN lk (nI G.length) g))))) else none)) = _
          rw [hl, if_neg (nI_ge hOl (by omega)), if_pos (inB_nI (by omega) (by decide)), nI_clamp (show O.length < 2 ^ 31 by omega), hox, nI_clamp (show n < 2 ^ 31 by omega), tr_par h hqn hnq, fl_meets f0 (by omega), fl_meets f1 (by omega), fl_meets f1 (by omega), nI_clamp (show G.length < 2 ^ 31 by omega), nI_1, nI_1]
          simp only [Option.bind_some, b0, if_pos (inB_nI (show n < 60 by omega) (show (60 : Nat) < 2 ^ 31 by decide)), if_pos (inB_nI (show G.length < 60 by omega) (show (60 : Nat) < 2 ^ 31 by decide))]
          unfold ntB
          rw [hpq]
          cases lb (Fl_met f0) n <;> cases lb (Fl_met f1) n <;> cases lb (Fl_met f1) q <;> simp
        rw [hun]
        by_cases cc : ntB tr r (lb (Fl_met f0)) (lb (Fl_met f1)) n = true
        · rw [if_pos cc, List.filter_cons, if_pos cc]
          obtain ⟨g', k1, k2⟩ := ih (O ++ [n]) (G ++ [nI n]) (upd g G.length (nI n)) fuel (by rw [hO]; simp) (by simp) (GaR_snoc hG (nI n)) (by simp; omega) (by simpa using hf)
          rw [show (O ++ [n]).length = O.length + 1 by simp, show (G ++ [nI n]).length = G.length + 1 by simp] at k1
          rw [List.append_assoc, show [nI n] ++ (S.filter (ntB tr r (lb (Fl_met f0)) (lb (Fl_met f1)))).map nI = (n :: S.filter (ntB tr r (lb (Fl_met f0)) (lb (Fl_met f1)))).map nI from rfl] at k1 k2
          exact ⟨g', k1, k2⟩
        · rw [if_neg cc, List.filter_cons, if_neg cc]
          obtain ⟨g', k1, k2⟩ := ih (O ++ [n]) G g fuel (by rw [hO]; simp) (by simp) hG (by simp; omega) (by simpa using hf)
          rw [show (O ++ [n]).length = O.length + 1 by simp] at k1
          exact ⟨g', k1, k2⟩
end J
