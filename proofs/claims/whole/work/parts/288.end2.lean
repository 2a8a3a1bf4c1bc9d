/-! end(): the parts of the row become parts -/
def adL (T : AT) (m : Nat) (l : List Nat) : AT := l.foldl (fun T p => adT T m p) T
theorem adL_N (m : Nat) (l : List Nat) : ∀ T : AT, aN (adL T m l) = aN T ∧ aS (adL T m l) = aS T ∧ aV (adL T m l) = aV T ∧ aM (adL T m l) = aM T ∧ aE (adL T m l) = aE T ∧ aH (adL T m l) = aH T := by
  induction l with
  | nil => intro T; exact ⟨rfl, rfl, rfl, rfl, rfl, rfl⟩
  | cons p l ih => intro T; exact ih (adT T m p)
theorem adL_P (m : Nat) (l : List Nat) : ∀ T : AT, aP (adL T m l) m = aP T m ++ l ∧ ∀ q, q ≠ m → aP (adL T m l) q = aP T q := by
  induction l with
  | nil => intro T; exact ⟨by simp [adL], fun q _ => rfl⟩
  | cons p l ih =>
    intro T
    obtain ⟨h1, h2⟩ := ih (adT T m p)
    refine ⟨?_, fun q hq => ?_⟩
    · show aP (adL (adT T m p) m l) m = _
      rw [h1]
      show va_up (aP T) m (aP T m ++ [p]) m ++ l = _
      rw [up_s]; simp
    · show aP (adL (adT T m p) m l) q = _
      rw [h2 q hq]
      exact up_n hq
theorem cl_end {fs : Nat → Nat} {rw : RwS} {rl : List Nat} {N len m : Nat} {x : Int32} (hlen : len ≤ 60) (hm60 : m < 60) (hsz : Rw_size rw = nI len) : ∀ (l : List Nat) (i n : Nat) (tr : TrS) (T : AT) (ks : List Nat), TrR tr T ks fs rl → m + 1 = aN T → fs m + (aP T m).length = ks.length → l.Nodup → (∀ p ∈ l, p < m ∧ p ∉ ks) → m ∉ ks → i + l.length = len → (∀ (j p : Nat), l[j]? = some p → Rw_parts rw (i + j) = nI p) → l.length < n →
    ∃ tr', lp (f_Rf_end_L55 N x (nI m)) n (nI i, tr, rw) = ((f_Tr_closeRow (nI m) x (Rw_hasDefault rw) tr').bind fun y => (f_Rw_close rw).bind fun z => some (nI m, y, z)) ∧ TrR tr' (adL T m l) (ks ++ l) fs rl ∧ fs m + (aP (adL T m l) m).length = (ks ++ l).length ∧ Tr_tail tr' = Tr_tail tr ∧ Tr_defaults tr' = Tr_defaults tr := by
  intro l
  induction l with
  | nil =>
    intro i n tr T ks h1 hm he h2 h3 hmk h4 h5 h6
    match n, h6 with
    | n + 1, _ =>
      have e : i = len := by simpa using h4
      subst e
      refine ⟨tr, ?_, by rw [List.append_nil]; exact h1, by rw [List.append_nil]; exact he, rfl, rfl⟩
      show f_Rf_end_L55 N x (nI m) (lp (f_Rf_end_L55 N x (nI m)) n) (nI i, tr, rw) = _
      rw [f_Rf_end_L55.eq_1]
      show (if Rw_size rw ≤ nI i then _ else _) = _
      rw [hsz, if_pos (nI_le (Nat.le_refl _) (by omega))]
  | cons p l ih =>
    intro i n tr T ks h1 hm he h2 h3 hmk h4 h5 h6
    match n, h6 with
    | n + 1, h6 =>
      have hpr := List.nodup_cons.mp h2
      obtain ⟨hp, hk⟩ := h3 p List.mem_cons_self
      have hn := h1.2.1
      have h4 : i + (l.length + 1) = len := by simpa using h4
      have hlt : ks.length < 60 := by
        have d1 : (m :: p :: ks).Nodup := by
          rw [List.nodup_cons, List.nodup_cons]
          refine ⟨?_, hk, h1.2.2.2.2.2.1⟩
          intro hh
          rcases List.mem_cons.mp hh with hh | hh
          · omega
          · exact hmk hh
        have d2 := nodup_le (n := aN T) d1 (fun q hq => by
          rcases List.mem_cons.mp hq with rfl | hq
          · omega
          · rcases List.mem_cons.mp hq with rfl | hq
            · omega
            · exact h1.2.2.2.2.2.2.1 q hq)
        simp at d2
        omega
      obtain ⟨t2, he2⟩ := TrR_ad (m := m) (p := p) h1 hm (by omega) hk he
      obtain ⟨tr', e1, e2, e3, e4, e5⟩ := ih (i + 1) n (trD tr m p ks.length) (adT T m p) (ks ++ [p]) t2 hm he2 hpr.2 (fun q hq => ⟨(h3 q (List.mem_cons_of_mem _ hq)).1, fun hh => by
        rcases List.mem_append.mp hh with hh | hh
        · exact (h3 q (List.mem_cons_of_mem _ hq)).2 hh
        · simp at hh; subst hh; exact hpr.1 hq⟩) (fun hh => by
        rcases List.mem_append.mp hh with hh | hh
        · exact hmk hh
        · simp at hh; omega) (by omega) (fun j q hq => by
        rw [show i + 1 + j = i + (j + 1) by omega]
        exact h5 (j + 1) q (by simpa using hq)) (by simpa using h6)
      rw [List.append_assoc] at e2 e3
      refine ⟨tr', ?_, e2, e3, e4, e5⟩
      show f_Rf_end_L55 N x (nI m) (lp (f_Rf_end_L55 N x (nI m)) n) (nI i, tr, rw) = _
      rw [f_Rf_end_L55.eq_1]
      show (if Rw_size rw ≤ nI i then _ else (if inB (nI i) 60 = true then (f_Tr_adopt (nI m) (Rw_parts rw (nI i).toNatClampNeg) tr).bind _ else none)) = _
      have h50 := h5 0 p rfl
      rw [hsz, if_neg (nI_ge (by omega) (by omega)), if_pos (inB_nI (by omega) (by decide)), nI_clamp (by omega), show i = i + 0 by omega, h50, tr_adopt h1.2.2.1 hlt hm60 (by omega)]
      show lp (f_Rf_end_L55 N x (nI m)) n (nI (i + 0) + 1, trD tr m p ks.length, rw) = _
      rw [nI_1]
      exact e1
