/-! THE TREE in the model -/
def WT (T : AT) : Prop := (∀ m, m < aN T → ∀ p ∈ aP T m, p < m) ∧ (∀ m, m < aN T → (aP T m).Nodup) ∧ ∀ m1 m2 p, m1 < aN T → m2 < aN T → p ∈ aP T m1 → p ∈ aP T m2 → m1 = m2
theorem WT_add {T : AT} (h : WT T) (s v : Int32) : WT (addT T s v) := by
  obtain ⟨h1, h2, h3⟩ := h
  have lt : ∀ m, m < aN (addT T s v) → m ≠ aN T → m < aN T := fun m hm e => by
    have : m < aN T + 1 := hm
    omega
  refine ⟨?_, ?_, ?_⟩
  · intro m hm p hp
    have hp : p ∈ va_up (aP T) (aN T) [] m := hp
    by_cases e : m = aN T
    · subst e; rw [up_s] at hp; exact absurd hp (by simp)
    · rw [up_n e] at hp; exact h1 m (lt m hm e) p hp
  · intro m hm
    show (va_up (aP T) (aN T) [] m).Nodup
    by_cases e : m = aN T
    · subst e; rw [up_s]; simp
    · rw [up_n e]; exact h2 m (lt m hm e)
  · intro m1 m2 p hm1 hm2 hp1 hp2
    have hp1 : p ∈ va_up (aP T) (aN T) [] m1 := hp1
    have hp2 : p ∈ va_up (aP T) (aN T) [] m2 := hp2
    by_cases e1 : m1 = aN T
    · subst e1; rw [up_s] at hp1; exact absurd hp1 (by simp)
    · by_cases e2 : m2 = aN T
      · subst e2; rw [up_s] at hp2; exact absurd hp2 (by simp)
      · rw [up_n e1] at hp1; rw [up_n e2] at hp2
        exact h3 m1 m2 p (lt m1 hm1 e1) (lt m2 hm2 e2) hp1 hp2
theorem WT_ad {T : AT} (h : WT T) {m p : Nat} (hm : m < aN T) (hp : p < m) (hf : ∀ q, q < aN T → p ∉ aP T q) : WT (adT T m p) := by
  obtain ⟨h1, h2, h3⟩ := h
  have cases : ∀ q x, x ∈ va_up (aP T) m (aP T m ++ [p]) q → x ∈ aP T q ∨ (q = m ∧ x = p) := by
    intro q x hx
    by_cases e : q = m
    · subst e; rw [up_s] at hx
      rcases List.mem_append.mp hx with h | h
      · exact Or.inl h
      · simp at h; exact Or.inr ⟨rfl, h⟩
    · rw [up_n e] at hx; exact Or.inl hx
  refine ⟨?_, ?_, ?_⟩
  · intro q hq x hx
    have hq : q < aN T := hq
    rcases cases q x hx with h | ⟨rfl, rfl⟩
    · exact h1 q hq x h
    · exact hp
  · intro q hq
    have hq : q < aN T := hq
    show (va_up (aP T) m (aP T m ++ [p]) q).Nodup
    by_cases e : q = m
    · subst e; rw [up_s, List.nodup_append]
      refine ⟨h2 q hq, by simp, ?_⟩
      intro a ha b hb
      simp at hb; subst hb
      intro e; subst e; exact hf q hq ha
    · rw [up_n e]; exact h2 q hq
  · intro m1 m2 x hm1 hm2 hx1 hx2
    have hm1 : m1 < aN T := hm1
    have hm2 : m2 < aN T := hm2
    rcases cases m1 x hx1 with h | ⟨rfl, rfl⟩
    · rcases cases m2 x hx2 with h' | ⟨rfl, rfl⟩
      · exact h3 m1 m2 x hm1 hm2 h h'
      · exact absurd h (hf m1 hm1)
    · rcases cases m2 x hx2 with h' | ⟨e, -⟩
      · exact absurd h' (hf m2 hm2)
      · exact e.symm
/-- the model's arrays hold T; rl: the row that is being made -/
def MbR (mb : MbS) (T : AT) (rl : List Nat) : Prop :=
  Mb_nodes mb = nI (aN T) ∧
  (∀ m, m < aN T → Mb_sort mb m = aS T m ∧ Mb_given mb m = aV T m ∧ Mb_mark mb m = aM T m ∧ Mb_endMark mb m = aE T m ∧ Mb_hasEnding mb m = bi (aH T m) ∧ Mb_first mb m = nx (aP T m).head? ∧ Mb_last mb m = nx (aP T m).getLast? ∧ Mb_inRow mb m = bi (decide (m ∈ rl))) ∧
  (∀ m, m < aN T → ∀ i p, (aP T m)[i]? = some p → Mb_partOf mb p = nI m ∧ Mb_next mb p = nx (aP T m)[i + 1]? ∧ Mb_before mb p = nx (if i = 0 then none else (aP T m)[i - 1]?)) ∧
  (∀ p, p < aN T → (∀ m, m < aN T → p ∉ aP T m) → Mb_partOf mb p = -1) ∧
  ∀ i p, rl[i]? = some p → Mb_next mb p = nx rl[i + 1]?
def mbA (mb : MbS) (n : Nat) (s v : Int32) : MbS := (Mb_kinds mb, Mb_above mb, nI (n + 1), upd (Mb_sort mb) n s, upd (Mb_given mb) n v, upd (Mb_partOf mb) n (-1), upd (Mb_mark mb) n (-1), upd (Mb_first mb) n (-1), upd (Mb_last mb) n (-1), upd (Mb_next mb) n (-1), upd (Mb_before mb) n (-1), upd (Mb_hasEnding mb) n 0, upd (Mb_endMark mb) n 0, upd (Mb_inRow mb) n 0, Mb_rowKind mb, Mb_rowFirst mb, Mb_rowLast mb, Mb_rowCount mb)
def mgA (mg : MgS) (n : Nat) : MgS := (Mg_root mg, Mg_rooted mg, Mg_knownKinds mg, Mg_order mg, upd (Mg_inRoot mg) n 0, Mg_targets mg)
theorem nar0 : vp_nar .boolean (0 : Int32) = 0 := by decide +kernel
theorem nar1 : vp_nar .boolean (1 : Int32) = 1 := by decide +kernel
theorem narb (b : Bool) : vp_nar .boolean (bi b) = bi b := by cases b <;> decide +kernel
theorem md_make {mb : MbS} {mg : MgS} {n : Nat} (h : Mb_nodes mb = nI n) (hn : n < 60) (s v : Int32) : f_Md_make s v mb mg = some (nI n, mbA mb n s v, mgA mg n) := by
  rw [f_Md_make.eq_1, h]
  simp only [inB_nI hn (by decide : (60 : Nat) < 2 ^ 31), if_true, nI_clamp (show n < 2 ^ 31 by omega), nI_1, nar0]
  rfl
theorem MbR_add {mb : MbS} {T : AT} {rl : List Nat} (h : MbR mb T rl) (hw : WT T) (hr : ∀ p ∈ rl, p < aN T) (s v : Int32) : MbR (mbA mb (aN T) s v) (addT T s v) rl := by
  obtain ⟨h1, h2, h3, h4, h5⟩ := h
  have lt : ∀ {m}, m < aN (addT T s v) → m ≠ aN T → m < aN T := fun {m} hm e => by
    have : m < aN T + 1 := hm
    omega
  refine ⟨rfl, ?_, ?_, ?_, ?_⟩
  · intro m hm
    by_cases e : m = aN T
    · subst e
      refine ⟨?_, ?_, ?_, ?_, ?_, ?_, ?_, ?_⟩
      · show upd _ _ _ _ = upd _ _ _ _; rw [upd_s, upd_s]
      · show upd _ _ _ _ = upd _ _ _ _; rw [upd_s, upd_s]
      · show upd _ _ _ _ = upd _ _ _ _; rw [upd_s, upd_s]
      · show upd _ _ _ _ = upd _ _ _ _; rw [upd_s, upd_s]
      · show upd _ _ _ _ = bi (va_up (aH T) (aN T) false (aN T)); rw [upd_s, up_s]; rfl
      · show upd _ _ _ _ = nx (va_up (aP T) (aN T) [] (aN T)).head?; rw [upd_s, up_s]; rfl
      · show upd _ _ _ _ = nx (va_up (aP T) (aN T) [] (aN T)).getLast?; rw [upd_s, up_s]; rfl
      · show upd _ _ _ _ = _
        rw [upd_s, decide_eq_false (fun hh => by have := hr _ hh; omega)]; rfl
    · obtain ⟨a1, a2, a3, a4, a5, a6, a7, a8⟩ := h2 m (lt hm e)
      refine ⟨?_, ?_, ?_, ?_, ?_, ?_, ?_, ?_⟩
      · show upd _ _ _ _ = upd _ _ _ _; rw [upd_n e, upd_n e]; exact a1
      · show upd _ _ _ _ = upd _ _ _ _; rw [upd_n e, upd_n e]; exact a2
      · show upd _ _ _ _ = upd _ _ _ _; rw [upd_n e, upd_n e]; exact a3
      · show upd _ _ _ _ = upd _ _ _ _; rw [upd_n e, upd_n e]; exact a4
      · show upd _ _ _ _ = bi (va_up (aH T) (aN T) false m); rw [upd_n e, up_n e]; exact a5
      · show upd _ _ _ _ = nx (va_up (aP T) (aN T) [] m).head?; rw [upd_n e, up_n e]; exact a6
      · show upd _ _ _ _ = nx (va_up (aP T) (aN T) [] m).getLast?; rw [upd_n e, up_n e]; exact a7
      · show upd _ _ _ _ = _; rw [upd_n e]; exact a8
  · intro m hm i p hp
    have hp : (va_up (aP T) (aN T) [] m)[i]? = some p := hp
    by_cases e : m = aN T
    · subst e; rw [up_s] at hp; simp at hp
    · rw [up_n e] at hp
      have hpl := hw.1 m (lt hm e) p (List.mem_of_getElem? hp)
      have hml := lt hm e
      have hpn : p ≠ aN T := by omega
      obtain ⟨a1, a2, a3⟩ := h3 m (lt hm e) i p hp
      refine ⟨?_, ?_, ?_⟩
      · show upd _ _ _ _ = _; rw [upd_n hpn]; exact a1
      · show upd _ _ _ _ = nx (va_up (aP T) (aN T) [] m)[i + 1]?; rw [upd_n hpn, up_n e]; exact a2
      · show upd _ _ _ _ = nx (if i = 0 then none else (va_up (aP T) (aN T) [] m)[i - 1]?); rw [upd_n hpn, up_n e]; exact a3
  · intro p hp hf
    show upd _ _ _ _ = _
    by_cases e : p = aN T
    · subst e; rw [upd_s]
    · rw [upd_n e]
      refine h4 p (lt hp e) (fun m hm hpm => hf m (by show m < aN T + 1; omega) ?_)
      show p ∈ va_up (aP T) (aN T) [] m
      rw [up_n (by omega)]; exact hpm
  · intro i p hp
    have := hr p (List.mem_of_getElem? hp)
    show upd _ _ _ _ = _
    rw [upd_n (by omega)]; exact h5 i p hp
theorem md_isFree {mb : MbS} {T : AT} {ks rl : List Nat} (h : MbR mb T rl) (hn : aN T ≤ 60) (hk : ∀ p, p < aN T → (p ∈ ks ↔ ∃ m, m < aN T ∧ p ∈ aP T m)) (x : Int32) : f_Md_isFree x mb = some (bi (inB x (aN T) && !(decide (x.toNatClampNeg ∈ ks) || decide (x.toNatClampNeg ∈ rl)))) := by
  rw [f_Md_isFree.eq_1, md_isNode h.1 hn]
  show (if bi _ = 0 then _ else _) = _
  rw [b0]
  by_cases hx : inB x (aN T) = true
  · rw [if_pos hx, hx]
    obtain ⟨a, ha, rfl⟩ := inB_of hx (by omega)
    rw [if_pos (inB_nI (by omega) (by decide)), nI_clamp (by omega)]
    by_cases hak : a ∈ ks
    · obtain ⟨m, hm, hpm⟩ := (hk a ha).mp hak
      obtain ⟨i, hi⟩ := List.getElem?_of_mem hpm
      rw [(h.2.2.1 m hm i a hi).1, if_neg (nI_ne_m1 (by omega))]
      simp [hak, bi]
    · rw [h.2.2.2.1 a ha (fun m hm hpm => hak ((hk a ha).mpr ⟨m, hm, hpm⟩)), if_pos rfl, if_pos (inB_nI (by omega) (by decide)), (h.2.1 a ha).2.2.2.2.2.2.2, b0]
      by_cases har : a ∈ rl
      · simp [hak, har, bi]
      · simp [hak, har, bi]
  · rw [if_neg hx]
    have hf : inB x (aN T) = false := by simpa using hx
    rw [hf]; rfl
