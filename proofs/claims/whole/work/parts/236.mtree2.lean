/-! a part more, in the model -/
def mbJ (mb : MbS) (m p : Nat) (o : Option Nat) : MbS := (Mb_kinds mb, Mb_above mb, Mb_nodes mb, Mb_sort mb, Mb_given mb, upd (Mb_partOf mb) p (nI m), Mb_mark mb, (match o with | none => upd (Mb_first mb) m (nI p) | some _ => Mb_first mb), upd (Mb_last mb) m (nI p), (match o with | none => upd (Mb_next mb) p (-1) | some q => upd (upd (Mb_next mb) p (-1)) q (nI p)), upd (Mb_before mb) p (nx o), Mb_hasEnding mb, Mb_endMark mb, upd (Mb_inRow mb) p 0, Mb_rowKind mb, Mb_rowFirst mb, Mb_rowLast mb, Mb_rowCount mb)
theorem md_join {mb : MbS} {m p : Nat} {o : Option Nat} (hl : Mb_last mb m = nx o) (ho : ∀ q, o = some q → q < 60) (hm : m < 60) (hp : p < 60) : f_Md_join (nI m) (nI p) mb = some (mbJ mb m p o) := by
  rw [f_Md_join.eq_1]
  simp only [inB_nI hm (by decide : (60 : Nat) < 2 ^ 31), inB_nI hp (by decide : (60 : Nat) < 2 ^ 31), if_true, nI_clamp (show m < 2 ^ 31 by omega), nI_clamp (show p < 2 ^ 31 by omega), hl, nar0]
  cases o with
  | none =>
    rw [nx_n, if_pos rfl, f_Md_join_b65.eq_1, if_pos (inB_nI hm (by decide)), nI_clamp (show m < 2 ^ 31 by omega)]
    rfl
  | some q =>
    have hq := ho q rfl
    rw [nx_s, if_neg (nI_ne_m1 (by omega)), if_pos (inB_nI hq (by decide)), f_Md_join_b65.eq_1, if_pos (inB_nI hm (by decide)), nI_clamp (show m < 2 ^ 31 by omega), nI_clamp (show q < 2 ^ 31 by omega)]
    rfl
theorem MbR_ad {mb : MbS} {T : AT} {rl rl' : List Nat} {m p : Nat} (h : MbR mb T rl) (hw : WT T) (hm : m < aN T) (hp : p < aN T) (hf : ∀ q, q < aN T → p ∉ aP T q) (hr0 : p ∉ rl') (hr1 : ∀ x, x < aN T → x ≠ p → (x ∈ rl' ↔ x ∈ rl)) (hr2 : ∀ i x, rl'[i]? = some x → Mb_next mb x = nx rl'[i + 1]?) (hr3 : ∀ x ∈ rl', ∀ q, q < aN T → x ∉ aP T q) : MbR (mbJ mb m p (aP T m).getLast?) (adT T m p) rl' := by
  obtain ⟨h1, h2, h3, h4, h5⟩ := h
  have hlast : ∀ q0, (aP T m).getLast? = some q0 → q0 ∈ aP T m := fun q0 h => List.mem_of_getLast? h
  -- next of what isn't p nor the last part of m
  have hnx : ∀ x, x ≠ p → (∀ q0, (aP T m).getLast? = some q0 → x ≠ q0) → Mb_next (mbJ mb m p (aP T m).getLast?) x = Mb_next mb x := by
    intro x hx hq
    show (match (aP T m).getLast? with | none => upd (Mb_next mb) p (-1) | some q => upd (upd (Mb_next mb) p (-1)) q (nI p)) x = _
    cases hg : (aP T m).getLast? with
    | none => show upd _ _ _ _ = _; rw [upd_n hx]
    | some q0 => show upd _ _ _ _ = _; rw [upd_n (hq q0 hg), upd_n hx]
  refine ⟨h1, ?_, ?_, ?_, ?_⟩
  · intro q hq
    have hq : q < aN T := hq
    obtain ⟨a1, a2, a3, a4, a5, a6, a7, a8⟩ := h2 q hq
    refine ⟨a1, a2, a3, a4, a5, ?_, ?_, ?_⟩
    · show (match (aP T m).getLast? with | none => upd (Mb_first mb) m (nI p) | some _ => Mb_first mb) q = nx (va_up (aP T) m (aP T m ++ [p]) q).head?
      by_cases e : q = m
      · subst e
        rw [up_s]
        cases hg : (aP T q) with
        | nil => show upd _ _ _ _ = _; rw [upd_s]; rfl
        | cons y ys =>
          have : (y :: ys).getLast? ≠ none := by simp
          cases hh : (y :: ys).getLast? with
          | none => exact absurd hh this
          | some z => show Mb_first mb q = _; rw [a6, hg]; rfl
      · rw [up_n e]
        cases hg : (aP T m).getLast? with
        | none => show upd _ _ _ _ = _; rw [upd_n e]; exact a6
        | some z => exact a6
    · show upd _ _ _ _ = nx (va_up (aP T) m (aP T m ++ [p]) q).getLast?
      by_cases e : q = m
      · subst e; rw [upd_s, up_s, List.getLast?_concat]; rfl
      · rw [upd_n e, up_n e]; exact a7
    · show upd _ _ _ _ = _
      by_cases e : q = p
      · subst e; rw [upd_s, decide_eq_false hr0]; rfl
      · rw [upd_n e, a8]
        have := hr1 q hq e
        by_cases hh : q ∈ rl
        · rw [decide_eq_true hh, decide_eq_true (this.mpr hh)]
        · rw [decide_eq_false hh, decide_eq_false (fun h => hh (this.mp h))]
  · intro q hq i x hx
    have hq : q < aN T := hq
    have hx : (va_up (aP T) m (aP T m ++ [p]) q)[i]? = some x := hx
    by_cases e : q = m
    · subst e
      rw [up_s] at hx
      by_cases hi : i < (aP T q).length
      · rw [List.getElem?_append_left hi] at hx
        have hxm := List.mem_of_getElem? hx
        have hxp : x ≠ p := fun e => by subst e; exact hf q hq hxm
        obtain ⟨b1, b2, b3⟩ := h3 q hq i x hx
        refine ⟨?_, ?_, ?_⟩
        · show upd _ _ _ _ = _; rw [upd_n hxp]; exact b1
        · show _ = nx (va_up (aP T) q (aP T q ++ [p]) q)[i + 1]?
          rw [up_s]
          by_cases hl : i + 1 < (aP T q).length
          · rw [List.getElem?_append_left hl, ← b2]
            refine hnx x hxp (fun q0 hq0 e => ?_)
            subst e
            rw [List.getLast?_eq_getElem?] at hq0
            have := (List.getElem?_inj hi (hw.2.1 q hq)).mp (hx.trans hq0.symm)
            omega
          · have hl2 : i + 1 = (aP T q).length := by omega
            rw [hl2, List.getElem?_append_right (Nat.le_refl _), Nat.sub_self]
            have hg : (aP T q).getLast? = some x := by
              rw [List.getLast?_eq_getElem?, ← hl2]; simpa using hx
            show (match (aP T q).getLast? with | none => upd (Mb_next mb) p (-1) | some q => upd (upd (Mb_next mb) p (-1)) q (nI p)) x = _
            rw [hg]
            show upd _ _ _ _ = _
            rw [upd_s]; rfl
        · show upd _ _ _ _ = nx (if i = 0 then none else (va_up (aP T) q (aP T q ++ [p]) q)[i - 1]?)
          rw [upd_n hxp, up_s, b3, List.getElem?_append_left (by omega)]
      · rw [List.getElem?_append_right (by omega)] at hx
        have hi2 : i = (aP T q).length := by
          have := (List.getElem?_eq_some_iff.mp hx).1
          simp at this; omega
        subst hi2
        simp at hx
        subst hx
        refine ⟨?_, ?_, ?_⟩
        · show upd _ _ _ _ = _; rw [upd_s]
        · show _ = nx (va_up (aP T) q (aP T q ++ [p]) q)[(aP T q).length + 1]?
          rw [up_s, List.getElem?_eq_none (by simp)]
          show (match (aP T q).getLast? with | none => upd (Mb_next mb) p (-1) | some q => upd (upd (Mb_next mb) p (-1)) q (nI p)) p = _
          cases hg : (aP T q).getLast? with
          | none => show upd _ _ _ _ = _; rw [upd_s]; rfl
          | some z =>
            have hz : p ≠ z := fun e => by subst e; exact hf q hq (hlast p hg)
            show upd _ _ _ _ = _; rw [upd_n hz, upd_s]; rfl
        · show upd _ _ _ _ = nx (if (aP T q).length = 0 then none else (va_up (aP T) q (aP T q ++ [p]) q)[(aP T q).length - 1]?)
          rw [upd_s, up_s, List.getLast?_eq_getElem?]
          by_cases h0 : (aP T q).length = 0
          · rw [if_pos h0, h0, List.getElem?_eq_none (by omega)]
          · rw [if_neg h0, List.getElem?_append_left (by omega)]
    · rw [up_n e] at hx
      have hxm := List.mem_of_getElem? hx
      have hxp : x ≠ p := fun e => by subst e; exact hf q hq hxm
      obtain ⟨b1, b2, b3⟩ := h3 q hq i x hx
      refine ⟨?_, ?_, ?_⟩
      · show upd _ _ _ _ = _; rw [upd_n hxp]; exact b1
      · show _ = nx (va_up (aP T) m (aP T m ++ [p]) q)[i + 1]?
        rw [up_n e, ← b2]
        exact hnx x hxp (fun q0 hq0 e2 => by subst e2; exact e (hw.2.2 q m x hq hm hxm (hlast x hq0)))
      · show upd _ _ _ _ = nx (if i = 0 then none else (va_up (aP T) m (aP T m ++ [p]) q)[i - 1]?)
        rw [upd_n hxp, up_n e]; exact b3
  · intro x hx hxf
    have hx : x < aN T := hx
    have hxp : x ≠ p := fun e => by
      subst e
      refine hxf m hm ?_
      show x ∈ va_up (aP T) m (aP T m ++ [x]) m
      rw [up_s]; simp
    show upd _ _ _ _ = _
    rw [upd_n hxp]
    refine h4 x hx (fun q hq hxq => hxf q hq ?_)
    show x ∈ va_up (aP T) m (aP T m ++ [p]) q
    by_cases e : q = m
    · subst e; rw [up_s]; exact List.mem_append_left _ hxq
    · rw [up_n e]; exact hxq
  · intro i x hx
    have hxr := List.mem_of_getElem? hx
    rw [← hr2 i x hx]
    exact hnx x (fun e => by subst e; exact hr0 hxr) (fun q0 hq0 e => by subst e; exact hr3 x hxr m hm (hlast x hq0))
