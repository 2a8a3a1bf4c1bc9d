/-! drop() -/
def drT (T : AT) (l : List Nat) : AT := l.foldl (fun T p => puT T p (-1)) T
theorem drT_N (l : List Nat) : ∀ T : AT, aN (drT T l) = aN T ∧ aS (drT T l) = aS T ∧ aV (drT T l) = aV T ∧ aP (drT T l) = aP T ∧ aE (drT T l) = aE T ∧ aH (drT T l) = aH T := by
  induction l with
  | nil => intro T; exact ⟨rfl, rfl, rfl, rfl, rfl, rfl⟩
  | cons p l ih => intro T; exact ih (puT T p (-1))
theorem drT_M (l : List Nat) : ∀ (T : AT) (x : Nat), aM (drT T l) x = if x ∈ l then -1 else aM T x := by
  induction l with
  | nil => intro T x; simp [drT]
  | cons p l ih =>
    intro T x
    show aM (drT (puT T p (-1)) l) x = _
    rw [ih]
    by_cases hx : x ∈ l
    · simp [hx]
    · rw [if_neg hx]
      show upd (aM T) p (-1) x = _
      by_cases e : x = p
      · subst e; rw [upd_s]; simp
      · rw [upd_n e]; simp [hx, e]
def trX (tr : TrS) (p : Nat) : TrS := (Tr_size tr, Tr_kidCount tr, Tr_taken tr &&& (lbit p ^^^ (-1)), Tr_defaults tr, Tr_sort tr, Tr_value tr, upd (Tr_mark tr) p (-1), Tr_parent tr, Tr_count tr, Tr_tail tr, Tr_partBits tr, Tr_kids tr, Tr_first tr, Tr_spot tr)
theorem tr_release {tr : TrS} {p : Nat} (hp : p < 60) : f_Tr_release (nI p) tr = some (trX tr p) := by
  rw [f_Tr_release.eq_1, if_pos (inB_nI hp (by decide)), nI_clamp (by omega)]; rfl
theorem TrR_rel {tr : TrS} {T : AT} {ks : List Nat} {fs : Nat → Nat} {rl : List Nat} {p : Nat} (h : TrR tr T ks fs (p :: rl)) (hp : p < aN T) (hk : p ∉ ks) (hr : p ∉ rl) : TrR (trX tr p) (puT T p (-1)) ks fs rl := by
  obtain ⟨h1, h2, h3, h4, h5, h6, h7, h8, h9, h10, h11⟩ := h
  refine ⟨h1, h2, h3, ?_, h5, h6, h7, h8, h9, h10, ?_⟩
  · intro m hm
    obtain ⟨a1, a2, a3, a4, a5, a6, a7⟩ := h4 m hm
    refine ⟨a1, a2, ?_, a4, a5, a6, a7⟩
    show upd (Tr_mark tr) p (-1) m = upd (aM T) p (-1) m
    by_cases e : m = p
    · subst e; rw [upd_s, upd_s]
    · rw [upd_n e, upd_n e]; exact a3
  · intro x hx
    show lb (Tr_taken tr &&& (lbit p ^^^ (-1))) x = _
    rw [lb_and, h11 x hx, lb_not hx, lbit_lb (by omega)]
    by_cases e : x = p
    · subst e; simp [hk, hr]
    · simp [e]
theorem cl_drop {ks : List Nat} {fs : Nat → Nat} {rw : RwS} {N len : Nat} (hlen : len ≤ 60) : ∀ (l : List Nat) (i n : Nat) (tr : TrS) (T : AT), TrR tr T ks fs l → l.Nodup → (∀ p ∈ l, p < aN T ∧ p ∉ ks) → i + l.length = len → (∀ (j p : Nat), l[j]? = some p → Rw_parts rw (i + j) = nI p) → l.length < n →
    ∃ tr', lp (f_Rf_drop_L23 N (nI len)) n (nI i, tr, rw) = some (nI len, tr', (-1, 0, 0, Rw_parts rw)) ∧ TrR tr' (drT T l) ks fs [] ∧ Tr_tail tr' = Tr_tail tr ∧ Tr_defaults tr' = Tr_defaults tr := by
  intro l
  induction l with
  | nil =>
    intro i n tr T h1 h2 h3 h4 h5 h6
    match n, h6 with
    | n + 1, _ =>
      have e : i = len := by simpa using h4
      subst e
      refine ⟨tr, ?_, h1, rfl, rfl⟩
      show f_Rf_drop_L23 N (nI i) (lp (f_Rf_drop_L23 N (nI i)) n) (nI i, tr, rw) = _
      rw [f_Rf_drop_L23.eq_1]
      show (if nI i ≤ nI i then _ else _) = _
      rw [if_pos (nI_le (Nat.le_refl _) (by omega)), f_Rw_close.eq_1]
      rfl
  | cons p l ih =>
    intro i n tr T h1 h2 h3 h4 h5 h6
    match n, h6 with
    | n + 1, h6 =>
      have hpr := List.nodup_cons.mp h2
      obtain ⟨hp, hk⟩ := h3 p List.mem_cons_self
      have hn := h1.2.1
      have h4 : i + (l.length + 1) = len := by simpa using h4
      have t2 := TrR_rel h1 hp hk hpr.1
      obtain ⟨tr', e1, e2, e3, e4⟩ := ih (i + 1) n (trX tr p) (puT T p (-1)) t2 hpr.2 (fun q hq => h3 q (List.mem_cons_of_mem _ hq)) (by omega) (fun j q hq => by
        rw [show i + 1 + j = i + (j + 1) by omega]
        exact h5 (j + 1) q (by simpa using hq)) (by simpa using h6)
      refine ⟨tr', ?_, e2, e3, e4⟩
      show f_Rf_drop_L23 N (nI len) (lp (f_Rf_drop_L23 N (nI len)) n) (nI i, tr, rw) = _
      rw [f_Rf_drop_L23.eq_1]
      show (if nI len ≤ nI i then _ else (if inB (nI i) 60 = true then (f_Tr_release (Rw_parts rw (nI i).toNatClampNeg) tr).bind _ else none)) = _
      have h50 := h5 0 p rfl
      rw [if_neg (nI_ge (by omega) (by omega)), if_pos (inB_nI (by omega) (by decide)), nI_clamp (by omega), show i = i + 0 by omega, h50, tr_release (by omega)]
      show lp (f_Rf_drop_L23 N (nI len)) n (nI (i + 0) + 1, trX tr p, rw) = _
      rw [nI_1]
      exact e1
def mbX2 (mb : MbS) (p : Nat) : MbS := (Mb_kinds mb, Mb_above mb, Mb_nodes mb, Mb_sort mb, Mb_given mb, Mb_partOf mb, upd (Mb_mark mb) p (-1), Mb_first mb, Mb_last mb, Mb_next mb, Mb_before mb, Mb_hasEnding mb, Mb_endMark mb, upd (Mb_inRow mb) p 0, Mb_rowKind mb, Mb_rowFirst mb, Mb_rowLast mb, Mb_rowCount mb)
theorem MbR_rel {mb : MbS} {T : AT} {rl : List Nat} {p : Nat} (h : MbR mb T (p :: rl)) (hr : p ∉ rl) : MbR (mbX2 mb p) (puT T p (-1)) rl := by
  obtain ⟨h1, h2, h3, h4, h5⟩ := h
  refine ⟨h1, ?_, h3, h4, ?_⟩
  · intro m hm
    obtain ⟨a1, a2, a3, a4, a5, a6, a7, a8⟩ := h2 m hm
    refine ⟨a1, a2, ?_, a4, a5, a6, a7, ?_⟩
    · show upd _ _ _ _ = upd _ _ _ _
      by_cases e : m = p
      · subst e; rw [upd_s, upd_s]
      · rw [upd_n e, upd_n e]; exact a3
    · show upd _ _ _ _ = _
      by_cases e : m = p
      · subst e; rw [upd_s, decide_eq_false hr]; rfl
      · rw [upd_n e, a8]; simp [e]
  · intro i x hx
    have := h5 (i + 1) x (by simpa using hx)
    rw [show (p :: rl)[i + 1 + 1]? = rl[i + 1]? by simp] at this
    exact this
def mbC (mb : MbS) : MbS := (Mb_kinds mb, Mb_above mb, Mb_nodes mb, Mb_sort mb, Mb_given mb, Mb_partOf mb, Mb_mark mb, Mb_first mb, Mb_last mb, Mb_next mb, Mb_before mb, Mb_hasEnding mb, Mb_endMark mb, Mb_inRow mb, -1, Mb_rowFirst mb, Mb_rowLast mb, Mb_rowCount mb)
theorem md_dropL {N : Nat} : ∀ (l : List Nat) (n : Nat) (mb : MbS) (T : AT), MbR mb T l → aN T ≤ 60 → l.Nodup → (∀ p ∈ l, p < aN T) → l.length < n →
    ∃ mb', lp (f_Md_drop_L16 N) n (nx l.head?, mb) = some (Mb_rowCount mb, mb') ∧ MbR mb' (drT T l) [] ∧ Mb_rowKind mb' = -1 ∧ Mb_kinds mb' = Mb_kinds mb ∧ Mb_above mb' = Mb_above mb := by
  intro l
  induction l with
  | nil =>
    intro n mb T h1 hn h2 h3 h6
    match n, h6 with
    | n + 1, _ =>
      refine ⟨mbC mb, ?_, h1, rfl, rfl, rfl⟩
      show f_Md_drop_L16 N (lp (f_Md_drop_L16 N) n) (-1, mb) = _
      rw [f_Md_drop_L16.eq_1]
      show (if (-1 : Int32) = -1 then some (Mb_rowCount mb, mbC mb) else _) = _
      rw [if_pos rfl]
  | cons p l ih =>
    intro n mb T h1 hn h2 h3 h6
    match n, h6 with
    | n + 1, h6 =>
      have hpr := List.nodup_cons.mp h2
      have hp := h3 p List.mem_cons_self
      obtain ⟨mb', e1, e2, e3, e4, e5⟩ := ih n (mbX2 mb p) (puT T p (-1)) (MbR_rel h1 hpr.1) hn hpr.2 (fun q hq => h3 q (List.mem_cons_of_mem _ hq)) (by simpa using h6)
      refine ⟨mb', ?_, e2, e3, e4, e5⟩
      show f_Md_drop_L16 N (lp (f_Md_drop_L16 N) n) (nI p, mb) = _
      rw [f_Md_drop_L16.eq_1]
      show (if nI p = -1 then _ else _) = _
      have hnext : Mb_next mb p = nx l.head? := by
        rw [h1.2.2.2.2 0 p rfl, head0]; rfl
      rw [if_neg (nI_ne_m1 (by omega))]
      show (if inB (nI p) 60 = true then (if inB (nI p) 60 = true then (if inB (nI p) 60 = true then _ else none) else none) else none) = _
      rw [if_pos (inB_nI (by omega) (by decide)), if_pos (inB_nI (by omega) (by decide)), if_pos (inB_nI (by omega) (by decide)), nI_clamp (by omega), nar0]
      show lp (f_Md_drop_L16 N) n (Mb_next mb p, mbX2 mb p) = _
      rw [hnext]
      exact e1
theorem s_drop {N : Nat} (hN : 100 < N) : S_drop N Rel := by
  intro kn tr rw lk f0 f1 mb mg mx mf hR
  have hR' := hR
  obtain ⟨K, ab, B, T, ks, fs, rk, rl, hB, hL⟩ := hR
  obtain ⟨b1, b2, b3, b4, b5, b6, b7, b8, b9, b10, b11, b12, b13⟩ := hB
  have hn := b5.2.1
  rw [f_Rf_drop.eq_1, f_Md_drop.eq_1, f_Rw_isOpen.eq_1]
  cases rk with
  | none =>
    obtain ⟨a1, a2, a3, a4, a5⟩ := b13
    rw [a1, a4, if_pos rfl, if_pos rfl]
    exact ⟨_, _, rfl, rfl, rfl, hR'⟩
  | some k =>
    obtain ⟨a0, a1, a2, a3, a4, a5, a6, a7, -⟩ := b13
    have hlen : rl.length ≤ 60 := Nat.le_trans (nodup_le b8.1 (fun p hp => (b8.2 p hp).1)) hn
    obtain ⟨tr', e1, e2, e3, e4⟩ := cl_drop (ks := ks) (fs := fs) (rw := rw) (N := N) hlen rl 0 N tr T b5 b8.1 b8.2 (by omega) (fun j p hp => by rw [Nat.zero_add]; exact a3 j p hp) (by omega)
    obtain ⟨mb', m1, m2, m3, m4, m5⟩ := md_dropL (N := N) rl N mb T b6 hn b8.1 (fun p hp => (b8.2 p hp).1) (by omega)
    rw [if_neg (show ¬ Rw_sort rw = -1 by rw [a1]; exact nI_ne_m1 (by omega)), if_neg (show ¬ Mb_rowKind mb = -1 by rw [a5]; exact nI_ne_m1 (by omega)), a7, m1, a2]
    simp only [Option.bind_some]
    rw [if_neg (show ¬ (1 : Int32) = 0 by decide)]
    have e1 : lp (f_Rf_drop_L23 N (nI rl.length)) N (0, tr, rw) = some (nI rl.length, tr', (-1, 0, 0, Rw_parts rw)) := e1
    rw [e1]
    obtain ⟨n1, n2, n3, n4, n5, n6⟩ := drT_N rl T
    have mo : ∀ m, m < aN T → ∀ x ∈ aP T m, aM (drT T rl) x = aM T x := fun m hm x hx => by
      rw [drT_M, if_neg (fun hh => (b8.2 x hh).2 (TrR_sub b5 m hm x hx))]
    refine ⟨_, _, rfl, rfl, a6.symm, K, ab, B, drT T rl, ks, fs, none, [], ⟨b1, b2, b3, ?_, e2, m2, ?_, ⟨by simp, by simp⟩, ?_, ?_, ?_, ?_, ⟨rfl, rfl, rfl, m3, rfl⟩⟩, ?_⟩
    · show MkR mb' K ab
      unfold MkR at *
      rw [m4, m5]; exact b4
    · unfold WT at *
      rw [n1, n4]; exact b7
    · intro m hm
      rw [n1] at hm
      exact shp_congr (b9 m hm) (Nat.le_refl _) (by rw [n2]) (by rw [n3]) (by rw [n4]) (by rw [n5]) (by rw [n6]) (mo m hm)
    · intro m hm
      rw [n1] at hm
      have := b10 m hm
      unfold tlR at *
      show (_ → Tr_tail tr' m = _) ∧ (_ → Tr_tail tr' m = _)
      rw [n2, n4, n5, n6, e3]; exact this
    · intro m hm
      show lb (Tr_defaults tr') m = _
      rw [e4, b11 m hm, n1]
      by_cases hm2 : m < aN T
      · unfold dfB
        rw [n2, n4, n5, any_congr (mo m hm2)]
      · simp [hm2]
    · intro x hx hxk _
      rw [n1] at hx
      rw [drT_M]
      by_cases hh : x ∈ rl
      · rw [if_pos hh]
      · rw [if_neg hh]; exact b12 x hx hxk hh
    · rw [n1]; exact hL
