/-! the model's look: all is forgotten first, and TARGETS are found -/
def zf (f : ArS) (a e : Nat) : ArS := fun j => if a ≤ j ∧ j < a + e then 0 else f j
theorem zf_0 (f : ArS) (a : Nat) : zf f a 0 = f := by
  funext j
  unfold zf
  rw [if_neg (by omega)]
theorem zf_s (f : ArS) (a e : Nat) : upd (zf f a e) (a + e) 0 = zf f a (e + 1) := by
  funext j
  by_cases c : j = a + e
  · subst c
    rw [upd_s]
    unfold zf
    rw [if_pos (by omega)]
  · rw [upd_n c]
    unfold zf
    by_cases c2 : a ≤ j ∧ j < a + e
    · rw [if_pos c2, if_pos (by omega)]
    · rw [if_neg c2, if_neg (by omega)]
def mxT2 (mx : MxS) (f : ArS) : MxS := (Mx_isReached mx, Mx_isComplete mx, f, Mx_isCome mx, Mx_ended mx, Mx_isNew mx)
def mxE2 (mx : MxS) (f : ArS) : MxS := (Mx_isReached mx, Mx_isComplete mx, Mx_throwable mx, Mx_isCome mx, f, Mx_isNew mx)
def mgT (mg : MgS) (g : ArS) : MgS := (Mg_root mg, Mg_rooted mg, Mg_knownKinds mg, Mg_order mg, Mg_inRoot mg, g)
section Z
variable {mb : MbS} {mg : MgS} {T : AT} {rl : List Nat} {r N : Nat} {mx : MxS} {mf : MfS} {k19 : Int32 × MgS × MxS × MfS → Option (MgS × MxS × MfS)}
theorem md_l58 {n i : Nat} (hn : n < 60) (hN : 1000 < N) : lp (f_Md_look_L58 N k19 (nI i) (nI n) mb) N (0, mg, mx, mf) = lp (f_Md_look_L87 N k19 (nI i) (nI n) mb) N (0, mg, mxT2 mx (zf (Mx_throwable mx) (12 * n) 12), mf) := by
  have hs := lp_up (b := f_Md_look_L58 N k19 (nI i) (nI n) mb) (e := 12) (st := fun e => (nI e, mg, mxT2 mx (zf (Mx_throwable mx) (12 * n) e), mf)) (r := lp (f_Md_look_L87 N k19 (nI i) (nI n) mb) N (0, mg, mxT2 mx (zf (Mx_throwable mx) (12 * n) 12), mf)) (by
    intro e he k
    rw [f_Md_look_L58.eq_1]
    show (if (12 : Int32) ≤ nI e then _ else (if inB ((12 : Int32) * nI n + nI e) 720 = true then k (nI e + 1, mg, mxT2 mx (upd (zf (Mx_throwable mx) (12 * n) e) ((12 : Int32) * nI n + nI e).toNatClampNeg (vp_nar .boolean 0)), mf) else none)) = _
    rw [if_neg (show ¬ (12 : Int32) ≤ nI e by rw [show (12 : Int32) = nI 12 by decide]; exact nI_ge he (by decide)), th_idx hn he, if_pos (inB_nI (show 12 * n + e < 720 by omega) (by decide)), nI_clamp (by omega), nar0, zf_s, nI_1]) (by
    intro k
    rw [f_Md_look_L58.eq_1]
    show (if (12 : Int32) ≤ nI 12 then _ else _) = _
    rw [if_pos (by decide)]) N 0 (by omega) (by omega)
  rw [← hs, zf_0]
  rfl
theorem md_l87 (h : MbR mb T rl) (hw : WT T) (hn60 : aN T ≤ 60) (hN : 1000 < N) (hr : r < aN T) (hg : Mg_root mg = nI r) (h12 : ∀ q, q < aN T → aS T q = 12 → (aP T q).length = 1) {n i : Nat} {l : List Nat} (hp : Pth T n l r) (hn : n < aN T) : lp (f_Md_look_L87 N k19 (nI i) (nI n) mb) N (0, mg, mx, mf) = k19 (nI (i + 1), mgT mg (upd (Mg_targets mg) n (if jmp T n = true then nx (tgT T n l) else -1)), mxE2 mx (zf (Mx_ended mx) (134 * n) 134), mf) := by
  have e151 : ∀ (z : Int32) (mx : MxS), f_Md_look_b151 N k19 z (nI n) (nI i) mb mg mx mf = k19 (nI (i + 1), mgT mg (upd (Mg_targets mg) n z), mx, mf) := by
    intro z mx
    rw [f_Md_look_b151.eq_1, if_pos (inB_nI (by omega) (by decide)), nI_clamp (by omega), nI_1]
    rfl
  have e142 : ∀ mx, f_Md_look_b142 N k19 (nI n) (nI i) (nI n) mb mg mx mf = k19 (nI (i + 1), mgT mg (upd (Mg_targets mg) n (nx (tgT T n l))), mx, mf) := by
    intro mx
    rw [f_Md_look_b142.eq_1, md_targetOf h hw hn60 (by omega) hr hg h12 hp hn]
    simp only [Option.bind_some]
    exact e151 _ mx
  have hs := lp_up (b := f_Md_look_L87 N k19 (nI i) (nI n) mb) (e := 134) (st := fun e => (nI e, mg, mxE2 mx (zf (Mx_ended mx) (134 * n) e), mf)) (r := k19 (nI (i + 1), mgT mg (upd (Mg_targets mg) n (if jmp T n = true then nx (tgT T n l) else -1)), mxE2 mx (zf (Mx_ended mx) (134 * n) 134), mf)) (by
    intro e he k
    rw [f_Md_look_L87.eq_1]
    show (if (134 : Int32) ≤ nI e then _ else (if inB ((134 : Int32) * nI n + nI e) 8040 = true then k (nI e + 1, mg, mxE2 mx (upd (zf (Mx_ended mx) (134 * n) e) ((134 : Int32) * nI n + nI e).toNatClampNeg (vp_nar .boolean 0)), mf) else none)) = _
    rw [if_neg (show ¬ (134 : Int32) ≤ nI e by rw [show (134 : Int32) = nI 134 by decide]; exact nI_ge he (by decide)), en_idx, if_pos (inB_nI (show 134 * n + e < 8040 by omega) (by decide)), nI_clamp (by omega), nar0, zf_s, nI_1]) (by
    intro k
    rw [f_Md_look_L87.eq_1]
    show (if (134 : Int32) ≤ nI 134 then (if inB (nI n) 60 = true then (if Mb_sort mb (nI n).toNatClampNeg = 10 then f_Md_look_b142 N k19 (nI n) (nI i) (nI n) mb mg (mxE2 mx (zf (Mx_ended mx) (134 * n) 134)) mf else (if inB (nI n) 60 = true then (if Mb_sort mb (nI n).toNatClampNeg = 11 then f_Md_look_b142 N k19 (nI n) (nI i) (nI n) mb mg (mxE2 mx (zf (Mx_ended mx) (134 * n) 134)) mf else f_Md_look_b151 N k19 (-1) (nI n) (nI i) mb mg (mxE2 mx (zf (Mx_ended mx) (134 * n) 134)) mf) else none)) else none) else _) = _
    rw [if_pos (by decide), if_pos (inB_nI (show n < 60 by omega) (by decide)), if_pos (inB_nI (show n < 60 by omega) (by decide)), nI_clamp (by omega), (h.2.1 n hn).1, e142, e151]
    unfold jmp
    by_cases c10 : aS T n = 10
    · rw [if_pos c10, if_pos (by simp [c10])]
    · rw [if_neg c10]
      by_cases c11 : aS T n = 11
      · rw [if_pos c11, if_pos (by simp [c11])]
      · rw [if_neg c11, if_neg (by simp [c10, c11])]) N 0 (by omega) (by omega)
  rw [← hs, zf_0]
  rfl
def ZR (mx : MxS) (O : List Nat) : Prop := ∀ x ∈ O, Mx_isReached mx x = 0 ∧ Mx_isComplete mx x = 0 ∧ (∀ k, k < 12 → Mx_throwable mx (12 * x + k) = 0) ∧ Mx_isCome mx x = 0 ∧ ∀ w, w < 134 → Mx_ended mx (134 * x + w) = 0
def mxR (mx : MxS) (n : Nat) : MxS := (upd (Mx_isReached mx) n 0, upd (Mx_isComplete mx) n 0, zf (Mx_throwable mx) (12 * n) 12, upd (Mx_isCome mx) n 0, zf (Mx_ended mx) (134 * n) 134, Mx_isNew mx)
theorem ZR_s {mx : MxS} {O : List Nat} (h : ZR mx O) (n : Nat) : ZR (mxR mx n) (O ++ [n]) := by
  intro x hx
  have uz : ∀ f : ArS, (x ∈ O → f x = 0) → upd f n 0 x = 0 := by
    intro f hf
    by_cases e : x = n
    · subst e; exact upd_s
    · rw [upd_n e]
      rcases List.mem_append.mp hx with hx | hx
      · exact hf hx
      · exact absurd (by simpa using hx) e
  have zz : ∀ (f : ArS) (c e : Nat), e < c → (x ∈ O → f (c * x + e) = 0) → zf f (c * n) c (c * x + e) = 0 := by
    intro f c e he hf
    unfold zf
    by_cases e2 : x = n
    · subst e2; rw [if_pos (by omega)]
    · rcases List.mem_append.mp hx with hx | hx
      · by_cases c2 : c * n ≤ c * x + e ∧ c * x + e < c * n + c
        · rw [if_pos c2]
        · rw [if_neg c2]; exact hf hx
      · exact absurd (by simpa using hx) e2
  exact ⟨uz _ (fun hO => (h x hO).1), uz _ (fun hO => (h x hO).2.1), fun k hk => zz _ 12 k hk (fun hO => (h x hO).2.2.1 k hk), uz _ (fun hO => (h x hO).2.2.2.1), fun w hw => zz _ 134 w hw (fun hO => (h x hO).2.2.2.2 w hw)⟩
theorem md_reset (h : MbR mb T rl) (hw : WT T) (hn60 : aN T ≤ 60) (hN : 1000 < N) (hr : r < aN T) (hg : Mg_root mg = nI r) (hrt : Mg_rooted mg = nI (pre T r).length) (hod : OdR (Mg_order mg) (pre T r)) (h12 : ∀ q, q < aN T → aS T q = 12 → (aP T q).length = 1) : ∀ (S O : List Nat) (g : ArS) (mx : MxS) (fuel : Nat), pre T r = O ++ S → (∀ x ∈ O, TgP T r x (g x)) → ZR mx O → S.length < fuel →
    ∃ g' mx', lp (f_Md_look_L19 N mb) fuel (nI O.length, mgT mg g, mx, mf) = ((f_Md_rules N mb (mgT mg g') mx').bind fun y159 => ((f_Md_walks N mb (mgT mg g') y159).bind fun y163 => lp (f_Md_look_L178 N mb) N ((0 : Int32), mgT mg g', y163, ((0 : Int32), Mf_faultKind mf, Mf_faultNode mf, (0 : Int32), Mf_notes mf)))) ∧ (∀ x ∈ pre T r, TgP T r x (g' x)) ∧ ZR mx' (pre T r) := by
  have hlr := pre_len hw hr
  intro S
  induction S with
  | nil =>
    intro O g mx fuel hO h1 h2 hf
    rw [List.append_nil] at hO
    match fuel, hf with
    | fuel + 1, _ =>
      refine ⟨g, mx, ?_, by rw [hO]; exact h1, by rw [hO]; exact h2⟩
      show f_Md_look_L19 N mb _ _ = _
      rw [f_Md_look_L19.eq_1]
      show (if Mg_rooted mg ≤ nI O.length then _ else _) = _
      rw [hrt, hO, if_pos (nI_le (Nat.le_refl _) (by rw [← hO]; omega))]
  | cons n S ih =>
    intro O g mx fuel hO h1 h2 hf
    have hn : n ∈ pre T r := by rw [hO]; simp
    have hnn := pre_lt hw hr hn
    have hOl : O.length < (pre T r).length := by rw [hO]; simp
    have hox : Mg_order mg O.length = nI n := hod O.length n (by rw [hO]; simp)
    have hnO : n ∉ O := by
      have := pre_nodup hw hr
      rw [hO, List.nodup_append] at this
      intro hh
      exact this.2.2 n hh n List.mem_cons_self rfl
    obtain ⟨l, hpl⟩ := Pth_ex hw hr _ n (Nat.le_refl _) hn
    match fuel, hf with
    | fuel + 1, hf =>
      have hun : lp (f_Md_look_L19 N mb) (fuel + 1) (nI O.length, mgT mg g, mx, mf) = lp (f_Md_look_L58 N (lp (f_Md_look_L19 N mb) fuel) (nI O.length) (nI n) mb) N ((0 : Int32), mgT mg g, (upd (Mx_isReached mx) n 0, upd (Mx_isComplete mx) n 0, Mx_throwable mx, upd (Mx_isCome mx) n 0, Mx_ended mx, Mx_isNew mx), mf) := by
        show f_Md_look_L19 N mb _ _ = _
        rw [f_Md_look_L19.eq_1]
        show (if Mg_rooted mg ≤ nI O.length then _ else (if inB (nI O.length) 60 = true then (if inB (Mg_order mg (nI O.length).toNatClampNeg) 60 = true then (if inB (Mg_order mg (nI O.length).toNatClampNeg) 60 = true then (if inB (Mg_order mg (nI O.length).toNatClampNeg) 60 = true then lp (f_Md_look_L58 N (lp (f_Md_look_L19 N mb) fuel) (nI O.length) (Mg_order mg (nI O.length).toNatClampNeg) mb) N ((0 : Int32), mgT mg g, (upd (Mx_isReached mx) (Mg_order mg (nI O.length).toNatClampNeg).toNatClampNeg (vp_nar .boolean 0), upd (Mx_isComplete mx) (Mg_order mg (nI O.length).toNatClampNeg).toNatClampNeg (vp_nar .boolean 0), Mx_throwable mx, upd (Mx_isCome mx) (Mg_order mg (nI O.length).toNatClampNeg).toNatClampNeg (vp_nar .boolean 0), Mx_ended mx, Mx_isNew mx), mf) else none) else none) else none) else none)) = _
        rw [hrt, if_neg (nI_ge hOl (by omega)), if_pos (inB_nI (show O.length < 60 by omega) (by decide)), nI_clamp (show O.length < 2 ^ 31 by omega), hox, if_pos (inB_nI (show n < 60 by omega) (by decide)), if_pos (inB_nI (show n < 60 by omega) (by decide)), if_pos (inB_nI (show n < 60 by omega) (by decide)), nI_clamp (show n < 2 ^ 31 by omega), nar0]
      rw [hun, md_l58 (by omega) hN, md_l87 (mg := mgT mg g) h hw hn60 hN hr hg h12 hpl hnn]
      have := ih (O ++ [n]) (upd g n (if jmp T n = true then nx (tgT T n l) else -1)) (mxR mx n) fuel (by rw [hO]; simp) (by
        intro x hx
        by_cases e : x = n
        · subst e
          rw [upd_s]
          unfold TgP
          by_cases cj : jmp T x = true
          · rw [if_pos cj, if_pos cj]; exact ⟨l, hpl, rfl⟩
          · rw [if_neg cj, if_neg cj]
        · rw [upd_n e]
          rcases List.mem_append.mp hx with hx | hx
          · exact h1 x hx
          · exact absurd (by simpa using hx) e) (ZR_s h2 n) (by simpa using hf)
      rw [show (O ++ [n]).length = O.length + 1 by simp] at this
      exact this
end Z
