/-! THE TREE, as a mathematical value: how many NODES, sort, value, mark, parts, mark of the end, whether there is an ENDING -/
abbrev AT : Type := Nat × (Nat → Int32) × (Nat → Int32) × (Nat → Int32) × (Nat → List Nat) × (Nat → Int32) × (Nat → Bool)
abbrev aN (T : AT) : Nat := T.1
abbrev aS (T : AT) : Nat → Int32 := T.2.1
abbrev aV (T : AT) : Nat → Int32 := T.2.2.1
abbrev aM (T : AT) : Nat → Int32 := T.2.2.2.1
abbrev aP (T : AT) : Nat → List Nat := T.2.2.2.2.1
abbrev aE (T : AT) : Nat → Int32 := T.2.2.2.2.2.1
abbrev aH (T : AT) : Nat → Bool := T.2.2.2.2.2.2
def nx (o : Option Nat) : Int32 := match o with
  | none => -1
  | some p => nI p
theorem nx_n : nx none = -1 := rfl
theorem nx_s (p : Nat) : nx (some p) = nI p := rfl
/-- a NODE more, without parts -/
def addT (T : AT) (s v : Int32) : AT := (aN T + 1, upd (aS T) (aN T) s, upd (aV T) (aN T) v, upd (aM T) (aN T) (-1), va_up (aP T) (aN T) [], upd (aE T) (aN T) 0, va_up (aH T) (aN T) false)
/-- a part more -/
def adT (T : AT) (m p : Nat) : AT := (aN T, aS T, aV T, aM T, va_up (aP T) m (aP T m ++ [p]), aE T, aH T)
theorem up_s {α : Type} {f : Nat → α} {k : Nat} {v : α} : va_up f k v k = v := by unfold va_up; rw [if_pos rfl]
theorem up_n {α : Type} {f : Nat → α} {k j : Nat} {v : α} (h : j ≠ k) : va_up f k v j = f j := by unfold va_up; rw [if_neg h]
theorem nodup_le {n : Nat} : ∀ {l : List Nat}, l.Nodup → (∀ p ∈ l, p < n) → l.length ≤ n := by
  induction n with
  | zero =>
    intro l _ h
    cases l with
    | nil => simp
    | cons a l => exact absurd (h a List.mem_cons_self) (by omega)
  | succ n ih =>
    intro l hd h
    by_cases hm : n ∈ l
    · have h1 := ih (hd.erase n) (fun p hp => by
        have h2 := h p (List.mem_of_mem_erase hp)
        have h3 : p ≠ n := fun e => by subst e; exact hd.not_mem_erase hp
        omega)
      rw [List.length_erase_of_mem hm] at h1
      omega
    · have h1 := ih hd (fun p hp => by
        have h2 := h p hp
        have h3 : p ≠ n := fun e => by subst e; exact hm hp
        omega)
      omega
/-- the class's tail: the mark of a SWITCH'S end, the ENDING of a TRY -/
def tlR (T : AT) (m : Nat) (x : Int32) : Prop := (aS T m = 14 → x = aE T m) ∧ (aS T m = 16 → x = if aH T m = true then nx (aP T m).getLast? else -1)
/-- the class's tree holds T; ks: all parts in one list, those of m from fs m on; rl: what stands in the row -/
def TrR (tr : TrS) (T : AT) (ks : List Nat) (fs : Nat → Nat) (rl : List Nat) : Prop :=
  Tr_size tr = nI (aN T) ∧ aN T ≤ 60 ∧ Tr_kidCount tr = nI ks.length ∧
  (∀ m, m < aN T → Tr_sort tr m = aS T m ∧ Tr_value tr m = aV T m ∧ Tr_mark tr m = aM T m ∧ Tr_first tr m = nI (fs m) ∧ Tr_count tr m = nI (aP T m).length ∧ (∀ p, p < 64 → lb (Tr_partBits tr m) p = decide (p ∈ aP T m)) ∧ (∀ i, i < (aP T m).length → ks[fs m + i]? = (aP T m)[i]?)) ∧
  (∀ j p, ks[j]? = some p → Tr_kids tr j = nI p ∧ Tr_spot tr p = nI j) ∧
  ks.Nodup ∧ (∀ p ∈ ks, p < aN T) ∧
  (∀ m, m < aN T → ∀ p ∈ aP T m, Tr_parent tr p = nI m) ∧ (∀ p, p < aN T → p ∉ ks → Tr_parent tr p = -1) ∧ (∀ p ∈ ks, ∃ m, m < aN T ∧ p ∈ aP T m) ∧
  (∀ p, p < 64 → lb (Tr_taken tr) p = (decide (p ∈ ks) || decide (p ∈ rl)))
theorem TrR_sub {tr : TrS} {T : AT} {ks : List Nat} {fs : Nat → Nat} {rl : List Nat} (h : TrR tr T ks fs rl) : ∀ m, m < aN T → ∀ p ∈ aP T m, p ∈ ks := by
  intro m hm p hp
  obtain ⟨i, hi⟩ := List.getElem?_of_mem hp
  have h1 := (h.2.2.2.1 m hm).2.2.2.2.2.2 i (List.getElem?_eq_some_iff.mp hi).1
  rw [hi] at h1
  exact List.mem_of_getElem? h1
theorem TrR_len {tr : TrS} {T : AT} {ks : List Nat} {fs : Nat → Nat} {rl : List Nat} (h : TrR tr T ks fs rl) : ks.length ≤ aN T := nodup_le h.2.2.2.2.2.1 h.2.2.2.2.2.2.1
/-- the class's add -/
def trA (tr : TrS) (n : Nat) (s v : Int32) : TrS := (nI (n + 1), Tr_kidCount tr, Tr_taken tr, Tr_defaults tr, upd (Tr_sort tr) n s, upd (Tr_value tr) n v, upd (Tr_mark tr) n (-1), upd (Tr_parent tr) n (-1), upd (Tr_count tr) n 0, upd (Tr_tail tr) n (-1), vp_updL (Tr_partBits tr) n 0, Tr_kids tr, upd (Tr_first tr) n (Tr_kidCount tr), Tr_spot tr)
theorem tr_add {tr : TrS} {n : Nat} (h : Tr_size tr = nI n) (hn : n < 60) (s v : Int32) : f_Tr_add s v tr = some (nI n, trA tr n s v) := by
  rw [f_Tr_add.eq_1, h]
  simp only [inB_nI hn (by decide : (60 : Nat) < 2 ^ 31), if_true, nI_clamp (show n < 2 ^ 31 by omega), nI_1]
  rfl
theorem TrR_add {tr : TrS} {T : AT} {ks : List Nat} {fs : Nat → Nat} {rl : List Nat} (h : TrR tr T ks fs rl) (hn : aN T < 60) (s v : Int32) : TrR (trA tr (aN T) s v) (addT T s v) ks (va_up fs (aN T) ks.length) rl := by
  obtain ⟨h1, h2, h3, h4, h5, h6, h7, h8, h9, h10, h11⟩ := h
  have hne : ∀ {m : Nat}, m < aN T → m ≠ aN T := fun h => by omega
  refine ⟨rfl, by show aN T + 1 ≤ 60; omega, h3, ?_, ?_, h6, ?_, ?_, ?_, ?_, h11⟩
  · intro m hm
    have hm : m < aN T + 1 := hm
    by_cases e : m = aN T
    · subst e
      refine ⟨?_, ?_, ?_, ?_, ?_, ?_, ?_⟩
      · show upd (Tr_sort tr) (aN T) s (aN T) = upd (aS T) (aN T) s (aN T); rw [upd_s, upd_s]
      · show upd (Tr_value tr) (aN T) v (aN T) = upd (aV T) (aN T) v (aN T); rw [upd_s, upd_s]
      · show upd (Tr_mark tr) (aN T) (-1) (aN T) = upd (aM T) (aN T) (-1) (aN T); rw [upd_s, upd_s]
      · show upd (Tr_first tr) (aN T) (Tr_kidCount tr) (aN T) = nI (va_up fs (aN T) ks.length (aN T)); rw [upd_s, up_s]; exact h3
      · show upd (Tr_count tr) (aN T) 0 (aN T) = nI (va_up (aP T) (aN T) [] (aN T)).length; rw [upd_s, up_s]; rfl
      · intro p hp
        show lb (vp_updL (Tr_partBits tr) (aN T) 0 (aN T)) p = decide (p ∈ va_up (aP T) (aN T) [] (aN T))
        rw [updL_a, if_pos rfl, up_s, lb_0]; simp
      · intro i hi
        have hi : i < (va_up (aP T) (aN T) [] (aN T)).length := hi
        rw [up_s] at hi
        exact absurd hi (by simp)
    · have hm2 : m < aN T := by omega
      obtain ⟨a1, a2, a3, a4, a5, a6, a7⟩ := h4 m hm2
      refine ⟨?_, ?_, ?_, ?_, ?_, ?_, ?_⟩
      · show upd (Tr_sort tr) (aN T) s m = upd (aS T) (aN T) s m; rw [upd_n e, upd_n e]; exact a1
      · show upd (Tr_value tr) (aN T) v m = upd (aV T) (aN T) v m; rw [upd_n e, upd_n e]; exact a2
      · show upd (Tr_mark tr) (aN T) (-1) m = upd (aM T) (aN T) (-1) m; rw [upd_n e, upd_n e]; exact a3
      · show upd (Tr_first tr) (aN T) (Tr_kidCount tr) m = nI (va_up fs (aN T) ks.length m); rw [upd_n e, up_n e]; exact a4
      · show upd (Tr_count tr) (aN T) 0 m = nI (va_up (aP T) (aN T) [] m).length; rw [upd_n e, up_n e]; exact a5
      · intro p hp
        show lb (vp_updL (Tr_partBits tr) (aN T) 0 m) p = decide (p ∈ va_up (aP T) (aN T) [] m)
        rw [updL_a, if_neg e, up_n e]; exact a6 p hp
      · intro i hi
        show ks[va_up fs (aN T) ks.length m + i]? = (va_up (aP T) (aN T) [] m)[i]?
        have hi : i < (va_up (aP T) (aN T) [] m).length := hi
        rw [up_n e] at hi
        rw [up_n e, up_n e]; exact a7 i hi
  · exact h5
  · intro p hp; have := h7 p hp; show p < aN T + 1; omega
  · intro m hm p hp
    have hm : m < aN T + 1 := hm
    have hp : p ∈ va_up (aP T) (aN T) [] m := hp
    by_cases e : m = aN T
    · subst e; rw [up_s] at hp; exact absurd hp (by simp)
    · rw [up_n e] at hp
      have hpk : p < aN T := h7 p (by
        obtain ⟨i, hi⟩ := List.getElem?_of_mem hp
        have h1 := (h4 m (by omega)).2.2.2.2.2.2 i (List.getElem?_eq_some_iff.mp hi).1
        rw [hi] at h1
        exact List.mem_of_getElem? h1)
      show upd (Tr_parent tr) (aN T) (-1) p = nI m
      rw [upd_n (hne hpk)]; exact h8 m (by omega) p hp
  · intro p hp hk
    have hp : p < aN T + 1 := hp
    show upd (Tr_parent tr) (aN T) (-1) p = -1
    by_cases e : p = aN T
    · subst e; rw [upd_s]
    · rw [upd_n e]; exact h9 p (by omega) hk
  · intro p hp
    obtain ⟨m, hm, hpm⟩ := h10 p hp
    refine ⟨m, by show m < aN T + 1; omega, ?_⟩
    show p ∈ va_up (aP T) (aN T) [] m
    rw [up_n (hne hm)]; exact hpm
