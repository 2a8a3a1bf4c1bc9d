theorem nI_dec (n : Nat) : nI (n + 1) + (-1) = nI n := by rw [← Int32.sub_eq_add_neg, ← nI_1]; simp
/-! the class's order: a stack -/
def lkO2 (lk : LkS) (n : Int32) (od wt : ArS) : LkS := (Lk_root lk, n, od, wt, Lk_targets lk, Lk_faultCount lk, Lk_faultSort lk, Lk_faultNode lk, Lk_noteCount lk, Lk_noteNode lk)
def lkO (lk : LkS) (n : Nat) (od wt : ArS) : LkS := (Lk_root lk, nI n, od, wt, Lk_targets lk, Lk_faultCount lk, Lk_faultSort lk, Lk_faultNode lk, Lk_noteCount lk, Lk_noteNode lk)
theorem cl_push {tr : TrS} {T : AT} {ks : List Nat} {fs : Nat → Nat} {rl : List Nat} (h : TrR tr T ks fs rl) {N n b len : Nat} {k17 : Int32 × LkS → Option LkS} {lk : LkS} {od : ArS} (hn : n < aN T) (hb : b + (aP T n).length ≤ 60) : ∀ (m fuel : Nat) (W : ArS), m ≤ (aP T n).length → m < fuel →
    ∃ W' : ArS, lp (f_Lk_orderText_L72 N k17 (nI n) tr) fuel (nI (b + ((aP T n).length - m)), nI m - 1, lkO lk len od W) = k17 (nI (b + (aP T n).length), lkO lk len od W') ∧ (∀ i, i < b + ((aP T n).length - m) → W' i = W i) ∧ ∀ t p, t < m → (aP T n)[m - 1 - t]? = some p → W' (b + ((aP T n).length - m) + t) = nI p := by
  intro m
  induction m with
  | zero =>
    intro fuel W _ hf
    match fuel, hf with
    | fuel + 1, _ =>
      refine ⟨W, ?_, fun _ _ => rfl, fun t p ht _ => by omega⟩
      show f_Lk_orderText_L72 N k17 (nI n) tr _ _ = _
      rw [f_Lk_orderText_L72.eq_1]
      show (if nI 0 - 1 < 0 then _ else _) = _
      rw [if_pos (by decide)]
      rfl
  | succ m ih =>
    intro fuel W hm hf
    match fuel, hf with
    | fuel + 1, hf =>
      have hg : (aP T n)[m]? = some (aP T n)[m] := List.getElem?_eq_getElem (by omega)
      have e1 : nI (m + 1) - 1 = nI m := by rw [← nI_1]; simp
      obtain ⟨W', q1, q2, q3⟩ := ih fuel (upd W (b + ((aP T n).length - (m + 1))) (nI (aP T n)[m])) (by omega) (by omega)
      have e2 : b + ((aP T n).length - (m + 1)) + 1 = b + ((aP T n).length - m) := by omega
      refine ⟨W', ?_, ?_, ?_⟩
      · show f_Lk_orderText_L72 N k17 (nI n) tr _ _ = _
        rw [f_Lk_orderText_L72.eq_1]
        show (if nI (m + 1) - 1 < 0 then _ else ((f_Tr_kid (nI n) (nI (m + 1) - 1) tr).bind _)) = _
        rw [e1, if_neg (nI_pos (by omega)), tr_kid h hn hg]
        show (if inB (nI (b + ((aP T n).length - (m + 1)))) 60 = true then lp _ fuel (nI (b + ((aP T n).length - (m + 1))) + 1, nI m + (-1), lkO lk len od (upd W (nI (b + ((aP T n).length - (m + 1)))).toNatClampNeg (nI (aP T n)[m]))) else none) = _
        rw [if_pos (inB_nI (by omega) (by decide)), nI_clamp (by omega), nI_1, e2, ← q1, Int32.sub_eq_add_neg]
      · intro i hi
        rw [q2 i (by omega), upd_n (by omega)]
      · intro t p ht hp
        by_cases e : t = 0
        · subst e
          have : p = (aP T n)[m] := by
            have : (aP T n)[m]? = some p := by simpa using hp
            rw [hg] at this; exact (Option.some.inj this).symm
          rw [q2 _ (by omega), this]
          exact upd_s
        · have := q3 (t - 1) p (by omega) (by rw [← hp]; congr 1; omega)
          rw [← this]; congr 1; omega
def StR (W : ArS) (S : List Nat) : Prop := ∀ (i p : Nat), S[i]? = some p → W (S.length - 1 - i) = nI p
def OdR (od : ArS) (O : List Nat) : Prop := ∀ (i p : Nat), O[i]? = some p → od i = nI p
theorem OdR_snoc {od : ArS} {O : List Nat} (h : OdR od O) (p : Nat) : OdR (upd od O.length (nI p)) (O ++ [p]) := by
  intro i q hq
  by_cases hi : i < O.length
  · rw [List.getElem?_append_left hi] at hq
    rw [upd_n (by omega)]; exact h i q hq
  · rw [List.getElem?_append_right (by omega)] at hq
    have hl := (List.getElem?_eq_some_iff.mp hq).1
    simp at hl
    have e : i = O.length := by omega
    subst e
    simp at hq
    subst hq
    exact upd_s
theorem cl_stack {tr : TrS} {T : AT} {ks : List Nat} {fs : Nat → Nat} {rl : List Nat} (h : TrR tr T ks fs rl) (hw : WT T) {N r : Nat} (hN : 100 < N) (hr : r < aN T) {lk : LkS} : ∀ (fuel : Nat) (S O : List Nat) (od W : ArS), O ++ S.flatMap (pre T) = pre T r → (∀ p ∈ S, p < aN T) → StR W S → OdR od O → (S.flatMap (pre T)).length < fuel →
    ∃ od' W', lp (f_Lk_orderText_L17 N tr) fuel (nI S.length, lkO lk O.length od W) = some (lkO lk (pre T r).length od' W') ∧ OdR od' (pre T r) := by
  have hlr := pre_len hw hr
  have hn := h.2.1
  intro fuel
  induction fuel with
  | zero => intro S O od W _ _ _ _ hf; omega
  | succ fuel ih =>
    intro S O od W hO hS hW hod hf
    show ∃ od' W', f_Lk_orderText_L17 N tr _ _ = _ ∧ _
    rw [f_Lk_orderText_L17.eq_1]
    show ∃ od' W', (if nI S.length ≤ 0 then some (lkO lk O.length od W) else _) = _ ∧ _
    cases S with
    | nil =>
      have hO : O = pre T r := by simpa using hO
      subst hO
      rw [if_pos (show nI ([] : List Nat).length ≤ 0 by decide)]
      exact ⟨od, W, rfl, hod⟩
    | cons n S =>
      have hnl := hS n List.mem_cons_self
      have hlen : O.length + ((pre T n).length + (S.flatMap (pre T)).length) = (pre T r).length := by
        rw [← hO]; simp
      have hpl : (pre T n).length = ((aP T n).flatMap (pre T)).length + 1 := by rw [pre_eq hw hnl]; simp
      have hlow : ∀ l : List Nat, (∀ p ∈ l, p < aN T) → l.length ≤ (l.flatMap (pre T)).length := by
        intro l
        induction l with
        | nil => intro _; simp
        | cons a l ih2 =>
          intro hl
          have h1 := ih2 (fun p hp => hl p (List.mem_cons_of_mem _ hp))
          have h2 : (pre T a).length = ((aP T a).flatMap (pre T)).length + 1 := by rw [pre_eq hw (hl a List.mem_cons_self)]; simp
          simp only [List.flatMap_cons, List.length_append, List.length_cons]
          omega
      have l1 := hlow S (fun p hp => hS p (List.mem_cons_of_mem _ hp))
      have l2 := hlow (aP T n) (fun p hp => by have := hw.1 n hnl p hp; omega)
      have ec : nI (n :: S).length + (-1) = nI S.length := by
        exact nI_dec S.length
      have hWn : W S.length = nI n := by
        have := hW 0 n rfl
        simpa using this
      rw [if_neg (by intro hh; rw [nI_le0 (by simp; omega)] at hh; simp at hh)]
      show ∃ od' W', (if (60 : Int32) ≤ nI O.length then _ else (if inB (nI (n :: S).length + (-1)) 60 = true then (if inB (nI O.length) 60 = true then (if inB (W (nI (n :: S).length + (-1)).toNatClampNeg) 60 = true then lp (f_Lk_orderText_L72 N (lp (f_Lk_orderText_L17 N tr) fuel) (W (nI (n :: S).length + (-1)).toNatClampNeg) tr) N (nI (n :: S).length + (-1), Tr_count tr (W (nI (n :: S).length + (-1)).toNatClampNeg).toNatClampNeg - 1, lkO2 lk (nI O.length + 1) (upd od (nI O.length).toNatClampNeg (W (nI (n :: S).length + (-1)).toNatClampNeg)) W) else none) else none) else none)) = _ ∧ _
      rw [ec, nI_clamp (show S.length < 2 ^ 31 by omega), hWn, nI_clamp (show n < 2 ^ 31 by omega), nI_clamp (show O.length < 2 ^ 31 by omega), if_neg (show ¬ (60 : Int32) ≤ nI O.length by rw [show (60 : Int32) = nI 60 by decide]; exact nI_ge (by omega) (by omega)), if_pos (inB_nI (by omega) (by decide)), if_pos (inB_nI (by omega) (by decide)), if_pos (inB_nI (by omega) (by decide)), (h.2.2.2.1 n hnl).2.2.2.2.1, nI_1]
      obtain ⟨W', q1, q2, q3⟩ := cl_push h (N := N) (n := n) (b := S.length) (len := O.length + 1) (k17 := lp (f_Lk_orderText_L17 N tr) fuel) (lk := lk) (od := upd od O.length (nI n)) hnl (by omega) (aP T n).length N W (Nat.le_refl _) (by omega)
      rw [Nat.sub_self, Nat.add_zero] at q1 q2 q3
      have q1' : lp (f_Lk_orderText_L72 N (lp (f_Lk_orderText_L17 N tr) fuel) (nI n) tr) N (nI S.length, nI (aP T n).length - 1, lkO2 lk (nI (O.length + 1)) (upd od O.length (nI n)) W) = _ := q1
      rw [q1']
      have := ih (aP T n ++ S) (O ++ [n]) (upd od O.length (nI n)) W' (by rw [← hO, List.flatMap_cons, pre_eq hw hnl, List.flatMap_append]; simp) (fun p hp => by
        rcases List.mem_append.mp hp with hp | hp
        · have := hw.1 n hnl p hp; omega
        · exact hS p (List.mem_cons_of_mem _ hp)) ?_ (OdR_snoc hod n) (by
        rw [List.flatMap_cons, List.length_append] at hf
        rw [List.flatMap_append, List.length_append]; omega)
      · rw [show (aP T n ++ S).length = S.length + (aP T n).length by simp; omega, show (O ++ [n]).length = O.length + 1 by simp] at this
        exact this
      · intro i p hp
        by_cases hi : i < (aP T n).length
        · rw [List.getElem?_append_left hi] at hp
          have := q3 ((aP T n).length - 1 - i) p (by omega) (by rw [← hp]; congr 1; omega)
          rw [← this]; congr 1; simp; omega
        · rw [List.getElem?_append_right (by omega)] at hp
          have hl := (List.getElem?_eq_some_iff.mp hp).1
          have := hW (i - (aP T n).length + 1) p (by simpa using hp)
          rw [q2 _ (by simp; omega), ← this]; congr 1; simp; omega
theorem cl_orderText {tr : TrS} {T : AT} {ks : List Nat} {fs : Nat → Nat} {rl : List Nat} (h : TrR tr T ks fs rl) (hw : WT T) {N r : Nat} (hN : 100 < N) (hr : r < aN T) {lk : LkS} (hk : Lk_root lk = nI r) : ∃ od W, f_Lk_orderText N lk tr = some (lkO lk (pre T r).length od W) ∧ OdR od (pre T r) := by
  have hlr := pre_len hw hr
  have hn := h.2.1
  rw [f_Lk_orderText.eq_1, if_pos (by decide), hk]
  have := cl_stack h hw hN hr (lk := lk) N [r] [] (Lk_order lk) (upd (Lk_waiting lk) 0 (nI r)) (by simp) (by simpa using hr) (by
    intro i p hp
    have hl := (List.getElem?_eq_some_iff.mp hp).1
    simp at hl
    subst hl
    simp at hp
    subst hp
    exact upd_s) (by intro i p hp; simp at hp) (by simp; omega)
  obtain ⟨od, W, e1, e2⟩ := this
  refine ⟨od, W, ?_, e2⟩
  rw [← e1]
  show lp _ N (1, (nI r, (0 : Int32), Lk_order lk, upd (Lk_waiting lk) (0 : Int32).toNatClampNeg (nI r), _)) = lp _ N (nI 1, (Lk_root lk, nI 0, Lk_order lk, upd (Lk_waiting lk) 0 (nI r), _))
  rw [hk]
  rfl
