/-! the model's order: along first, next, up -/
def Chn (T : AT) (r : Nat) (x : Nat) (L : List (List Nat)) : Prop := match L with
  | [] => x = r
  | l :: L' => x ≠ r ∧ ∃ m i, m < aN T ∧ (aP T m)[i]? = some x ∧ l = (aP T m).drop (i + 1) ∧ Chn T r m L'
theorem Chn_le {T : AT} (hw : WT T) {r : Nat} : ∀ (L : List (List Nat)) (x : Nat), Chn T r x L → x ≤ r := by
  intro L
  induction L with
  | nil => intro x h; exact Nat.le_of_eq h
  | cons l L ih =>
    intro x h
    obtain ⟨-, m, i, hm, hi, -, h2⟩ := h
    have h3 := ih m h2
    have h4 := hw.1 m hm x (List.mem_of_getElem? hi)
    omega
theorem md_up_r {mb : MbS} {mg : MgS} {r : Nat} (hg : Mg_root mg = nI r) : f_Md_up (nI r) mb mg = some (-1) := by
  rw [f_Md_up.eq_1, hg, if_pos rfl]
theorem md_up_n {mb : MbS} {T : AT} {rl : List Nat} (h : MbR mb T rl) {mg : MgS} {r m x : Nat} (hg : Mg_root mg = nI r) (hr : r < 60) (hm : m < aN T) (hx : x ∈ aP T m) (hx60 : x < 60) (hne : x ≠ r) : f_Md_up (nI x) mb mg = some (nI m) := by
  obtain ⟨i, hi⟩ := List.getElem?_of_mem hx
  rw [f_Md_up.eq_1, hg, if_neg (fun e => hne ((nI_eq (by omega) (by omega)).mp e)), if_pos (inB_nI hx60 (by decide)), nI_clamp (by omega), (h.2.2.1 m hm i x hi).1]
theorem md_climb {mb : MbS} {T : AT} {rl : List Nat} (h : MbR mb T rl) (hw : WT T) (hn : aN T ≤ 60) {N r : Nat} (hr : r < aN T) {k33 : Int32 × MgS → Option MgS} {mg : MgS} (hg : Mg_root mg = nI r) : ∀ (L : List (List Nat)) (x fuel : Nat), Chn T r x L → L.length + 1 < fuel →
    lp (f_Md_line_L85 N k33 mb) fuel (nI x, mg) = k33 (nx L.flatten.head?, mg) ∧ ∀ y ys, L.flatten = y :: ys → ∃ L', Chn T r y L' ∧ L'.flatten = ys := by
  intro L
  induction L with
  | nil =>
    intro x fuel hc hf
    have hc : x = r := hc
    subst hc
    match fuel, hf with
    | fuel + 2, hf =>
      refine ⟨?_, fun y ys hy => by simp at hy⟩
      show f_Md_line_L85 N k33 mb _ _ = _
      rw [f_Md_line_L85.eq_1]
      show (if nI x = -1 then _ else (if nI x = Mg_root mg then f_Md_line_b108 N k33 (lp (f_Md_line_L85 N k33 mb) (fuel + 1)) (nI x) mb mg else _)) = _
      rw [if_neg (nI_ne_m1 (by omega)), if_pos hg.symm, f_Md_line_b108.eq_1, md_up_r hg]
      show f_Md_line_L85 N k33 mb (lp (f_Md_line_L85 N k33 mb) fuel) (-1, mg) = _
      rw [f_Md_line_L85.eq_1]
      show (if (-1 : Int32) = -1 then f_Md_line_b117 N k33 (-1) mb mg else _) = _
      rw [if_pos rfl, f_Md_line_b117.eq_1, if_pos rfl]
      rfl
  | cons l L ih =>
    intro x fuel hc hf
    obtain ⟨hne, m, i, hm, hi, hl, h2⟩ := hc
    have hxm := hw.1 m hm x (List.mem_of_getElem? hi)
    match fuel, hf with
    | fuel + 1, hf =>
      have hnx := (h.2.2.1 m hm i x hi).2.1
      have hmr := Chn_le hw L m h2
      rw [show lp (f_Md_line_L85 N k33 mb) (fuel + 1) (nI x, mg) = f_Md_line_L85 N k33 mb (lp (f_Md_line_L85 N k33 mb) fuel) (nI x, mg) from rfl, f_Md_line_L85.eq_1]
      show (if nI x = -1 then _ else (if nI x = Mg_root mg then _ else (if inB (nI x) 60 = true then (if Mb_next mb (nI x).toNatClampNeg = -1 then f_Md_line_b108 N k33 (lp (f_Md_line_L85 N k33 mb) fuel) (nI x) mb mg else f_Md_line_b117 N k33 (nI x) mb mg) else none))) = _ ∧ _
      rw [if_neg (nI_ne_m1 (by omega)), if_neg (by rw [hg]; exact fun e => hne ((nI_eq (by omega) (by omega)).mp e)), if_pos (inB_nI (by omega) (by decide)), nI_clamp (by omega), hnx]
      cases hg1 : (aP T m)[i + 1]? with
      | none =>
        have hl0 : l = [] := by
          rw [hl, List.drop_eq_nil_iff]
          exact List.getElem?_eq_none_iff.mp hg1
        rw [nx_n, if_pos rfl, f_Md_line_b108.eq_1, md_up_n h hg (by omega) hm (List.mem_of_getElem? hi) (by omega) hne, hl0]
        exact ih m fuel h2 (by simpa using hf)
      | some y =>
        have hy : y < aN T := pt_lt hw hm hg1
        have hym := hw.1 m hm y (List.mem_of_getElem? hg1)
        have hlt := (List.getElem?_eq_some_iff.mp hg1).1
        have hl1 : l = y :: (aP T m).drop (i + 1 + 1) := by
          rw [hl, List.drop_eq_getElem_cons hlt, (List.getElem?_eq_some_iff.mp hg1).2]
        rw [nx_s, if_neg (nI_ne_m1 (by omega)), f_Md_line_b117.eq_1, if_neg (nI_ne_m1 (by omega)), if_pos (inB_nI (by omega) (by decide)), nI_clamp (by omega), hnx, hg1]
        refine ⟨by rw [hl1]; rfl, ?_⟩
        intro z zs hz
        rw [hl1] at hz
        simp only [List.flatten_cons, List.cons_append, List.cons.injEq] at hz
        obtain ⟨rfl, rfl⟩ := hz
        exact ⟨(aP T m).drop (i + 1 + 1) :: L, ⟨by omega, m, i + 1, hm, hg1, rfl, h2⟩, rfl⟩
def mgO (mg : MgS) (n : Nat) (od ir : ArS) : MgS := (Mg_root mg, nI n, Mg_knownKinds mg, od, ir, Mg_targets mg)
theorem Chn_len {T : AT} (hw : WT T) (hn : aN T ≤ 60) {r : Nat} (hr : r < aN T) : ∀ (L : List (List Nat)) (x : Nat), Chn T r x L → x + L.length ≤ r := by
  intro L
  induction L with
  | nil => intro x h; exact Nat.le_of_eq h
  | cons l L ih =>
    intro x h
    obtain ⟨-, m, i, hm, hi, -, h2⟩ := h
    have h3 := ih m h2
    have h4 := hw.1 m hm x (List.mem_of_getElem? hi)
    simp only [List.length_cons]
    omega
theorem md_go {mb : MbS} {T : AT} {rl : List Nat} (h : MbR mb T rl) (hw : WT T) (hn : aN T ≤ 60) {N r : Nat} (hN : 100 < N) (hr : r < aN T) {mg : MgS} (hg : Mg_root mg = nI r) : ∀ (fuel x : Nat) (L : List (List Nat)) (O : List Nat) (od ir : ArS), Chn T r x L → O ++ (pre T x ++ L.flatten.flatMap (pre T)) = pre T r → OdR od O → (∀ y, y < aN T → ir y = bi (decide (y ∈ O))) → (pre T r).length - O.length + 1 < fuel →
    ∃ od' ir', lp (f_Md_line_L33 N mb) fuel (nI x, mgO mg O.length od ir) = some (mgO mg (pre T r).length od' ir') ∧ OdR od' (pre T r) ∧ ∀ y, y < aN T → ir' y = bi (decide (y ∈ pre T r)) := by
  have hlr := pre_len hw hr
  intro fuel
  induction fuel with
  | zero => intro x L O od ir _ _ _ _ hf; omega
  | succ fuel ih =>
    intro x L O od ir hc hO hod hir hf
    have hxr := Chn_le hw L x hc
    have hll := Chn_len hw hn hr L x hc
    have hxn : x < aN T := by omega
    have hlen : O.length + ((pre T x).length + (L.flatten.flatMap (pre T)).length) = (pre T r).length := by rw [← hO]; simp
    have hpl : (pre T x).length = ((aP T x).flatMap (pre T)).length + 1 := by rw [pre_eq hw hxn]; simp
    have hir2 : ∀ y, y < aN T → upd ir x 1 y = bi (decide (y ∈ O ++ [x])) := by
      intro y hy
      by_cases e : y = x
      · subst e; rw [upd_s]; simp [bi]
      · rw [upd_n e, hir y hy]; simp [e]
    have hod2 := OdR_snoc hod x
    have e1 : (O ++ [x]).length = O.length + 1 := by simp
    have hfst := (h.2.1 x hxn).2.2.2.2.2.1
    rw [show lp (f_Md_line_L33 N mb) (fuel + 1) (nI x, mgO mg O.length od ir) = f_Md_line_L33 N mb (lp (f_Md_line_L33 N mb) fuel) (nI x, mgO mg O.length od ir) from rfl, f_Md_line_L33.eq_1]
    show ∃ od' ir', (if nI x = -1 then _ else (if inB (nI O.length) 60 = true then (if inB (nI x) 60 = true then (if inB (nI x) 60 = true then (if Mb_first mb (nI x).toNatClampNeg = -1 then lp (f_Md_line_L85 N (lp (f_Md_line_L33 N mb) fuel) mb) N (nI x, (Mg_root mg, nI O.length + 1, Mg_knownKinds mg, upd od (nI O.length).toNatClampNeg (nI x), upd ir (nI x).toNatClampNeg (vp_nar .boolean 1), Mg_targets mg)) else (if inB (nI x) 60 = true then lp (f_Md_line_L33 N mb) fuel (Mb_first mb (nI x).toNatClampNeg, (Mg_root mg, nI O.length + 1, Mg_knownKinds mg, upd od (nI O.length).toNatClampNeg (nI x), upd ir (nI x).toNatClampNeg (vp_nar .boolean 1), Mg_targets mg)) else none)) else none) else none) else none)) = _ ∧ _
    rw [if_neg (nI_ne_m1 (by omega)), if_pos (inB_nI (show O.length < 60 by omega) (by decide)), if_pos (inB_nI (show x < 60 by omega) (by decide)), if_pos (inB_nI (show x < 60 by omega) (by decide)), if_pos (inB_nI (show x < 60 by omega) (by decide)), nI_clamp (show x < 2 ^ 31 by omega), nI_clamp (show O.length < 2 ^ 31 by omega), hfst, nar1, nI_1]
    cases hp : aP T x with
    | nil =>
      rw [hp] at hpl
      have hpx : pre T x = [x] := by rw [pre_eq hw hxn, hp]; rfl
      show ∃ od' ir', (if (-1 : Int32) = -1 then lp (f_Md_line_L85 N (lp (f_Md_line_L33 N mb) fuel) mb) N (nI x, mgO mg (O.length + 1) (upd od O.length (nI x)) (upd ir x 1)) else _) = _ ∧ _
      rw [if_pos rfl]
      obtain ⟨c1, c2⟩ := md_climb h hw hn (N := N) hr (k33 := lp (f_Md_line_L33 N mb) fuel) (mg := mgO mg (O.length + 1) (upd od O.length (nI x)) (upd ir x 1)) hg L x N hc (by omega)
      rw [c1]
      cases hfl : L.flatten with
      | nil =>
        have hO2 : O ++ [x] = pre T r := by rw [← hO, hpx, hfl]; simp
        match fuel, hf with
        | fuel + 1, _ =>
          refine ⟨upd od O.length (nI x), upd ir x 1, ?_, hO2 ▸ hod2, fun y hy => by rw [hir2 y hy, hO2]⟩
          show f_Md_line_L33 N mb _ (-1, _) = _
          rw [f_Md_line_L33.eq_1]
          show (if (-1 : Int32) = -1 then _ else _) = _
          rw [if_pos rfl, ← hO2, e1]
      | cons y ys =>
        obtain ⟨L', d1, d2⟩ := c2 y ys hfl
        have := ih y L' (O ++ [x]) (upd od O.length (nI x)) (upd ir x 1) d1 (by rw [← hO, hpx, hfl, d2]; simp) hod2 hir2 (by rw [e1]; omega)
        rw [e1] at this
        exact this
    | cons c cs =>
      have hcn : c < aN T := by
        have := hw.1 x hxn c (by rw [hp]; simp); omega
      have hcr : c ≠ r := by
        have := hw.1 x hxn c (by rw [hp]; simp); omega
      show ∃ od' ir', (if nI c = -1 then _ else lp (f_Md_line_L33 N mb) fuel (nI c, mgO mg (O.length + 1) (upd od O.length (nI x)) (upd ir x 1))) = _ ∧ _
      rw [if_neg (nI_ne_m1 (by omega))]
      have := ih c (cs :: L) (O ++ [x]) (upd od O.length (nI x)) (upd ir x 1) ⟨hcr, x, 0, hxn, by rw [hp]; rfl, by rw [hp]; rfl, hc⟩ (by rw [← hO, pre_eq hw hxn, hp]; simp) hod2 hir2 (by rw [e1]; omega)
      rw [e1] at this
      exact this
theorem md_line {mb : MbS} {T : AT} {rl : List Nat} (h : MbR mb T rl) (hw : WT T) (hn : aN T ≤ 60) {N r : Nat} (hN : 100 < N) (hr : r < aN T) {mg : MgS} (hg : Mg_root mg = nI r) : ∃ od ir, f_Md_line N mb mg = some (mgO mg (pre T r).length od ir) ∧ OdR od (pre T r) ∧ ∀ y, y < aN T → ir y = bi (decide (y ∈ pre T r)) := by
  have hlr := pre_len hw hr
  have key : ∀ (n i : Nat) (ir : ArS), i + n = aN T → (∀ y, y < i → ir y = 0) → ∀ fuel, n < fuel → ∃ ir', (∀ y, y < aN T → ir' y = 0) ∧ lp (f_Md_line_L2 N mb) fuel (nI i, (Mg_root mg, Mg_rooted mg, Mg_knownKinds mg, Mg_order mg, ir, Mg_targets mg)) = lp (f_Md_line_L33 N mb) N (nI r, mgO mg 0 (Mg_order mg) ir') := by
    intro n
    induction n with
    | zero =>
      intro i ir hi h0 fuel hf
      match fuel, hf with
      | fuel + 1, _ =>
        have e : i = aN T := by omega
        subst e
        refine ⟨ir, h0, ?_⟩
        show f_Md_line_L2 N mb _ _ = _
        rw [f_Md_line_L2.eq_1]
        show (if Mb_nodes mb ≤ nI (aN T) then lp (f_Md_line_L33 N mb) N (Mg_root mg, _) else _) = _
        rw [h.1, if_pos (nI_le (Nat.le_refl _) (by omega)), hg]
        rw [show mgO mg 0 (Mg_order mg) ir = (Mg_root mg, (0 : Int32), Mg_knownKinds mg, Mg_order mg, ir, Mg_targets mg) from rfl, hg]
    | succ n ih =>
      intro i ir hi h0 fuel hf
      match fuel, hf with
      | fuel + 1, hf =>
        obtain ⟨ir', q1, q2⟩ := ih (i + 1) (upd ir i 0) (by omega) (fun y hy => by
          by_cases e : y = i
          · subst e; exact upd_s
          · rw [upd_n e]; exact h0 y (by omega)) fuel (by omega)
        refine ⟨ir', q1, ?_⟩
        rw [← q2]
        show f_Md_line_L2 N mb _ _ = _
        rw [f_Md_line_L2.eq_1]
        show (if Mb_nodes mb ≤ nI i then _ else (if inB (nI i) 60 = true then lp (f_Md_line_L2 N mb) fuel (nI i + 1, (Mg_root mg, Mg_rooted mg, Mg_knownKinds mg, Mg_order mg, upd ir (nI i).toNatClampNeg (vp_nar .boolean 0), Mg_targets mg)) else none)) = _
        rw [h.1, if_neg (nI_ge (by omega) (by omega)), if_pos (inB_nI (by omega) (by decide)), nI_clamp (by omega), nar0, nI_1]
  obtain ⟨ir', q1, q2⟩ := key (aN T) 0 (Mg_inRoot mg) (by omega) (fun y hy => by omega) N (by omega)
  obtain ⟨od, ir, p1, p2, p3⟩ := md_go h hw hn hN hr hg N r [] [] (Mg_order mg) ir' rfl (by simp) (by intro i p hp; simp at hp) (fun y hy => by rw [q1 y hy]; rfl) (by simp; omega)
  refine ⟨od, ir, ?_, p2, p3⟩
  rw [f_Md_line.eq_1, ← p1]
  exact q2
