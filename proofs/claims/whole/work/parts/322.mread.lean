/-! the model's rules: what each question answers -/
def BldM (mb : MbS) (mg : MgS) (K : Nat) (ab : Nat → Nat) (B : Nat → Nat → Bool) (T : AT) (rl : List Nat) (r : Nat) : Prop := MbR mb T rl ∧ WT T ∧ aN T ≤ 60 ∧ KI K ab B ∧ MkR mb K ab ∧ (∀ m, m < aN T → shp T K m) ∧ r < aN T ∧ Mg_root mg = nI r ∧ Mg_rooted mg = nI (pre T r).length ∧ Mg_knownKinds mg = nI K ∧ OdR (Mg_order mg) (pre T r) ∧ ∀ x ∈ pre T r, TgP T r x (Mg_targets mg x)
def RdR (mx : MxS) (T : AT) (r : Nat) (rc cm : Nat → Bool) (th : Nat → Nat → Bool) : Prop := ∀ x ∈ pre T r, Mx_isReached mx x = bi (rc x) ∧ Mx_isComplete mx x = bi (cm x) ∧ ∀ k, k < 12 → Mx_throwable mx (12 * x + k) = bi (th x k)
theorem md_nextL {mb : MbS} {T : AT} {rl : List Nat} (h : MbR mb T rl) {m p : Nat} {l1 l2 : List Nat} (hm : m < aN T) (hP : aP T m = l1 ++ p :: l2) : Mb_next mb p = nx l2.head? := by
  have hi : (aP T m)[l1.length]? = some p := by rw [hP]; simp
  rw [(h.2.2.1 m hm l1.length p hi).2.1, hP, List.getElem?_append_right (by omega), head0]
  congr 1
  rw [show l1.length + 1 - l1.length = 1 by omega]; rfl
theorem md_before {mb : MbS} {T : AT} {rl : List Nat} (h : MbR mb T rl) {m p : Nat} {l1 l2 : List Nat} (hm : m < aN T) (hP : aP T m = l1 ++ p :: l2) : Mb_before mb p = nx l1.getLast? := by
  have hi : (aP T m)[l1.length]? = some p := by rw [hP]; simp
  rw [(h.2.2.1 m hm l1.length p hi).2.2]
  by_cases c : l1.length = 0
  · have : l1 = [] := List.length_eq_zero_iff.mp c
    subst this; rfl
  · rw [if_neg c, List.getLast?_eq_getElem?, hP, List.getElem?_append_left (by omega)]
theorem th_idx {x k : Nat} (hx : x < 60) (hk : k < 12) : (12 : Int32) * nI x + nI k = nI (12 * x + k) := by
  rw [show (12 : Int32) = nI 12 by decide, pk_mul, nI_add]
section R
variable {mb : MbS} {mg : MgS} {K : Nat} {ab : Nat → Nat} {B : Nat → Nat → Bool} {T : AT} {rl : List Nat} {r N : Nat} {mx : MxS} {rc cm : Nat → Bool} {th : Nat → Nat → Bool}
theorem md_any (hb : BldM mb mg K ab B T rl r) (hN : 100 < N) (hd : RdR mx T r rc cm th) {n : Nat} (hn : n ∈ pre T r) : f_Md_anyComplete N (nI n) mb mx = some (bi ((aP T n).any cm)) := by
  obtain ⟨h, hw, h60, -, -, -, hr, -⟩ := hb
  have hnn := pre_lt hw hr hn
  have hlen : (aP T n).length ≤ 60 := nodup_le (hw.2.1 n hnn) (fun p hp => by have := hw.1 n hnn p hp; omega)
  have key : ∀ (l2 l1 : List Nat) (a : Bool) (fuel : Nat), aP T n = l1 ++ l2 → l2.length < fuel → lp (f_Md_anyComplete_L9 N mb mx) fuel (bi a, nx l2.head?) = some (bi (a || l2.any cm)) := by
    intro l2
    induction l2 with
    | nil =>
      intro l1 a fuel _ hf
      match fuel, hf with
      | fuel + 1, _ =>
        show f_Md_anyComplete_L9 N mb mx _ _ = _
        rw [f_Md_anyComplete_L9.eq_1]
        show (if (-1 : Int32) = -1 then (if bB (bi a) = true then some (bi a) else none) else _) = _
        rw [if_pos rfl, b0']; simp
    | cons p l2 ih =>
      intro l1 a fuel hP hf
      have hp : p ∈ aP T n := by rw [hP]; simp
      have hpl := hw.1 n hnn p hp
      match fuel, hf with
      | fuel + 1, hf =>
        have ih1 := fun a => ih (l1 ++ [p]) a fuel (by rw [hP]; simp) (by simpa using hf)
        have e32 : ∀ z, f_Md_anyComplete_b32 N (lp (f_Md_anyComplete_L9 N mb mx) fuel) z (nI p) mb mx = lp (f_Md_anyComplete_L9 N mb mx) fuel (z, nx l2.head?) := fun z => by
          rw [f_Md_anyComplete_b32.eq_1, if_pos (inB_nI (by omega) (by decide)), nI_clamp (by omega), md_nextL h hnn hP]
        show f_Md_anyComplete_L9 N mb mx _ _ = _
        rw [f_Md_anyComplete_L9.eq_1]
        simp only [List.head?_cons, nx_s, f_Md_anyComplete_b27.eq_1, e32]
        rw [if_neg (nI_ne_m1 (by omega)), if_pos (inB_nI (show p < 60 by omega) (by decide)), nI_clamp (by omega), (hd p (pre_dn hw r hr n hn p hp)).2.1]
        simp only [b0]
        rw [show (1 : Int32) = bi true from rfl, show (0 : Int32) = bi false from rfl, ih1, ih1]
        cases a <;> cases hc : cm p <;> simp [hc]
  rw [f_Md_anyComplete.eq_1, if_pos (inB_nI (by omega) (by decide)), nI_clamp (by omega), (h.2.1 n hnn).2.2.2.2.2.1, show (0 : Int32) = bi false from rfl, key (aP T n) [] false N rfl (by omega)]
  simp
theorem md_whole (hb : BldM mb mg K ab B T rl r) (hN : 100 < N) {n : Nat} (hnn : n < aN T) (hs : aS T n = 14 ∨ aS T n = 15) : f_Md_isWhole N (nI n) mb = some (bi (dfB T n)) := by
  obtain ⟨h, hw, h60, -, -, -, hr, -⟩ := hb
  have hlen : (aP T n).length ≤ 60 := nodup_le (hw.2.1 n hnn) (fun p hp => by have := hw.1 n hnn p hp; omega)
  have key : ∀ (l2 l1 : List Nat) (a : Bool) (fuel : Nat), aP T n = l1 ++ l2 → l2.length < fuel → lp (f_Md_isWhole_L23 N mb) fuel (bi a, nx l2.head?) = some (bi (a || l2.any (fun p => decide (aM T p = 2)))) := by
    intro l2
    induction l2 with
    | nil =>
      intro l1 a fuel _ hf
      match fuel, hf with
      | fuel + 1, _ =>
        show f_Md_isWhole_L23 N mb _ _ = _
        rw [f_Md_isWhole_L23.eq_1]
        show (if (-1 : Int32) = -1 then (if bB (bi a) = true then some (bi a) else none) else _) = _
        rw [if_pos rfl, b0']; simp
    | cons p l2 ih =>
      intro l1 a fuel hP hf
      have hp : p ∈ aP T n := by rw [hP]; simp
      have hpl := hw.1 n hnn p hp
      match fuel, hf with
      | fuel + 1, hf =>
        have ih1 := fun a => ih (l1 ++ [p]) a fuel (by rw [hP]; simp) (by simpa using hf)
        have e32 : ∀ z, f_Md_isWhole_b47 N (lp (f_Md_isWhole_L23 N mb) fuel) z (nI p) mb = lp (f_Md_isWhole_L23 N mb) fuel (z, nx l2.head?) := fun z => by
          rw [f_Md_isWhole_b47.eq_1, if_pos (inB_nI (by omega) (by decide)), nI_clamp (by omega), md_nextL h hnn hP]
        show f_Md_isWhole_L23 N mb _ _ = _
        rw [f_Md_isWhole_L23.eq_1]
        simp only [List.head?_cons, nx_s, f_Md_isWhole_b42.eq_1, e32]
        rw [if_neg (nI_ne_m1 (by omega)), if_pos (inB_nI (show p < 60 by omega) (by decide)), nI_clamp (by omega), (h.2.1 p (by omega)).2.2.1]
        simp only [b0]
        rw [show (1 : Int32) = bi true from rfl, show (0 : Int32) = bi false from rfl, ih1, ih1]
        cases a <;> by_cases hc : aM T p = 2 <;> simp [hc]
  have hd : dfB T n = (decide (aE T n = 2) || (aP T n).any (fun p => decide (aM T p = 2))) := by
    unfold dfB
    rcases hs with e | e <;> simp [e]
  rw [f_Md_isWhole.eq_1, if_pos (inB_nI (by omega) (by decide)), nI_clamp (by omega), (h.2.1 n hnn).2.2.2.1, f_Md_isWhole_b15.eq_1, f_Md_isWhole_b15.eq_1, if_pos (inB_nI (by omega) (by decide)), if_pos (inB_nI (by omega) (by decide)), nI_clamp (by omega), (h.2.1 n hnn).2.2.2.2.2.1, show (1 : Int32) = bi true from rfl, show (0 : Int32) = bi false from rfl, key (aP T n) [] false N rfl (by omega), key (aP T n) [] true N rfl (by omega), hd]
  by_cases c : aE T n = 2
  · rw [if_pos c]; simp [c]
  · rw [if_neg c]; simp [c]
/-- a walk along linked parts up to the ENDING -/
theorem md_tries (hb : BldM mb mg K ab B T rl r) (hN : 100 < N) (hd : RdR mx T r rc cm th) {n b : Nat} {cs : List Nat} (hn : n ∈ pre T r) (hP : aP T n = (b :: cs) ++ (enT T n).toList) (hH : (enT T n).isSome = aH T n) : f_Md_triesComplete N (nI n) mb mx = some (bi ((b :: cs).any cm && (match enT T n with | none => true | some e => cm e))) := by
  obtain ⟨h, hw, h60, -, -, -, hr, -⟩ := hb
  have hnn := pre_lt hw hr hn
  have hlen : (aP T n).length ≤ 60 := nodup_le (hw.2.1 n hnn) (fun p hp => by have := hw.1 n hnn p hp; omega)
  have hnd := hw.2.1 n hnn
  have hcl : (b :: cs).length ≤ (aP T n).length := by rw [hP]; simp
  have key : ∀ (l2 l1 : List Nat) (a : Bool) (fuel : Nat), b :: cs = l1 ++ l2 → l2.length < fuel → lp (f_Md_triesComplete_L30 N (nx (enT T n)) mb mx) fuel (bi a, nx (l2 ++ (enT T n).toList).head?) = some (bi ((a || l2.any cm) && (match enT T n with | none => true | some e => cm e))) := by
    intro l2
    induction l2 with
    | nil =>
      intro l1 a fuel _ hf
      match fuel, hf with
      | fuel + 1, _ =>
        show f_Md_triesComplete_L30 N _ mb mx _ _ = _
        rw [f_Md_triesComplete_L30.eq_1]
        cases he : enT T n with
        | none =>
          show (if (-1 : Int32) = -1 then (if bi a = 0 then some 0 else (if (-1 : Int32) = -1 then some 1 else _)) else _) = _
          rw [if_pos rfl, if_pos rfl, b0]; cases a <;> simp [bi]
        | some e =>
          have heP : e ∈ aP T n := by rw [hP, he]; simp
          have hel := hw.1 n hnn e heP
          show (if nI e = nI e then (if bi a = 0 then some 0 else (if nI e = -1 then some 1 else (if inB (nI e) 60 = true then (if Mx_isComplete mx (nI e).toNatClampNeg = 0 then some 0 else some 1) else none))) else _) = _
          rw [if_pos rfl, if_neg (nI_ne_m1 (by omega)), if_pos (inB_nI (by omega) (by decide)), nI_clamp (by omega), (hd e (pre_dn hw r hr n hn e heP)).2.1, b0, b0]
          cases a <;> cases hc : cm e <;> simp [bi, hc]
    | cons p l2 ih =>
      intro l1 a fuel hl hf
      have hP2 : aP T n = l1 ++ p :: (l2 ++ (enT T n).toList) := by rw [hP, hl]; simp
      have hp : p ∈ aP T n := by rw [hP2]; simp
      have hpl := hw.1 n hnn p hp
      have hpe : nI p ≠ nx (enT T n) := by
        cases he : enT T n with
        | none => exact nI_ne_m1 (by omega)
        | some e =>
          rw [he] at hP2
          have heP : e ∈ aP T n := by rw [hP2]; simp
          have hel := hw.1 n hnn e heP
          intro hh
          have := (nI_eq (by omega) (by omega)).mp hh
          subst this
          rw [hP2, List.nodup_append] at hnd
          exact (List.nodup_cons.mp hnd.2.1).1 (by simp)
      match fuel, hf with
      | fuel + 1, hf =>
        have ih1 := fun a => ih (l1 ++ [p]) a fuel (by rw [hl]; simp) (by simpa using hf)
        have e32 : ∀ z, f_Md_triesComplete_b55 N (lp (f_Md_triesComplete_L30 N (nx (enT T n)) mb mx) fuel) z (nx (enT T n)) (nI p) mb mx = lp (f_Md_triesComplete_L30 N (nx (enT T n)) mb mx) fuel (z, nx (l2 ++ (enT T n).toList).head?) := fun z => by
          rw [f_Md_triesComplete_b55.eq_1, if_pos (inB_nI (by omega) (by decide)), nI_clamp (by omega), md_nextL h hnn hP2]
        show f_Md_triesComplete_L30 N _ mb mx _ _ = _
        rw [f_Md_triesComplete_L30.eq_1]
        simp only [List.cons_append, List.head?_cons, nx_s, f_Md_triesComplete_b50.eq_1, e32]
        rw [if_neg hpe, if_pos (inB_nI (show p < 60 by omega) (by decide)), nI_clamp (by omega), (hd p (pre_dn hw r hr n hn p hp)).2.1]
        simp only [b0]
        rw [show (1 : Int32) = bi true from rfl, show (0 : Int32) = bi false from rfl, ih1, ih1]
        cases a <;> cases hc : cm p <;> simp [hc]
  have hfst : Mb_first mb n = nx ((b :: cs) ++ (enT T n).toList).head? := by rw [(h.2.1 n hnn).2.2.2.2.2.1, hP]
  have hlst : aH T n = true → Mb_last mb n = nx (enT T n) := by
    intro hh
    rw [(h.2.1 n hnn).2.2.2.2.2.2.1]
    unfold enT
    rw [if_pos hh]
  rw [f_Md_triesComplete.eq_1, if_pos (inB_nI (by omega) (by decide)), if_pos (inB_nI (by omega) (by decide)), nI_clamp (by omega), (h.2.1 n hnn).2.2.2.2.1, b0, f_Md_triesComplete_b19.eq_1, f_Md_triesComplete_b19.eq_1, if_pos (inB_nI (by omega) (by decide)), if_pos (inB_nI (by omega) (by decide)), nI_clamp (by omega), hfst]
  have k1 := key (b :: cs) [] false N rfl (by omega)
  by_cases c : aH T n = true
  · rw [if_pos c, hlst c, show (0 : Int32) = bi false from rfl, k1]; simp
  · have hno : enT T n = none := by unfold enT; rw [if_neg c]
    rw [if_neg c]
    rw [hno] at k1 ⊢
    rw [show (0 : Int32) = bi false from rfl, show (-1 : Int32) = nx none from rfl, k1]; simp
end R
