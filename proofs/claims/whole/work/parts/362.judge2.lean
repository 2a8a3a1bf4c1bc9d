def nst (T : AT) (n : Nat) (l : List Nat) : Bool := l.any (fun p => decide (aS T p = 12) && decide (aV T p = aV T n))
def ntM (c : Bool) (n : Nat) (mf : MfS) : Option MfS := if c = true then (if inB (Mf_noted mf) 60 = true then some (Mf_faults mf, Mf_faultKind mf, Mf_faultNode mf, Mf_noted mf + (1 : Int32), upd (Mf_notes mf) (Mf_noted mf).toNatClampNeg (nI n)) else none) else some mf
theorem tell_b (k : Int32) (n : Nat) (b : Bool) (mf : MfS) : f_Md_tell k (nI n) (bi b) mf = opM (if b = true then some k else none) n mf := by
  cases b
  · rw [f_Md_tell.eq_1, if_pos (show bi false = 0 from rfl)]; rfl
  · rfl
section M
variable {mb : MbS} {mg : MgS} {K : Nat} {ab : Nat → Nat} {B : Nat → Nat → Bool} {T : AT} {rl : List Nat} {r N : Nat} {mx : MxS} {mf : MfS} {D : Dt} {mt mt1 : Nat → Bool}
theorem md_shadow (hb : BldM mb mg K ab B T rl r) (hN : 100 < N) {q n b : Nat} {l1 l2 : List Nat} (hq : q < aN T) (hP : aP T q = (b :: l1) ++ n :: l2) (hmk : ∀ c ∈ l1 ++ [n], ∃ k, k < K ∧ aM T c = nI k) : f_Md_isShadowed N (nI n) mb = some (bi (l1.any (fun c => B (mkN T n) (mkN T c)))) := by
  obtain ⟨h, hw, h60, hKI, hMk, hsh, hr, hg, -⟩ := hb
  have hK := hKI.2.1
  have hnP : n ∈ aP T q := by rw [hP]; simp
  have hnl := hw.1 q hq n hnP
  have hbP : b ∈ aP T q := by rw [hP]; simp
  have hbl := hw.1 q hq b hbP
  have hlen : (aP T q).length ≤ 60 := nodup_le (hw.2.1 q hq) (fun p hp => by have := hw.1 q hq p hp; omega)
  have hll : l1.length ≤ (aP T q).length := by rw [hP]; simp; omega
  obtain ⟨kd, hkd, hmn⟩ := hmk n (by simp)
  have hmkn : mkN T n = kd := by unfold mkN; rw [hmn, nI_clamp (by omega)]
  have hpar : Mb_partOf mb n = nI q := by
    obtain ⟨i, hi⟩ := List.getElem?_of_mem hnP
    exact (h.2.2.1 q hq i n hi).1
  have hfst : Mb_first mb q = nI b := by rw [(h.2.1 q hq).2.2.2.2.2.1, hP]; rfl
  have key : ∀ (s t : List Nat) (a : Bool) (fuel : Nat), l1 = t ++ s → s.length < fuel → lp (f_Md_isShadowed_L19 N (nI n) mb) fuel (bi a, nx (s ++ n :: l2).head?) = some (bi (a || s.any (fun c => B kd (mkN T c)))) := by
    intro s
    induction s with
    | nil =>
      intro t a fuel hl hf
      match fuel, hf with
      | fuel + 1, _ =>
        show f_Md_isShadowed_L19 N (nI n) mb _ _ = _
        rw [f_Md_isShadowed_L19.eq_1]
        show (if nI n = nI n then (if bB (bi a) = true then some (bi a) else none) else _) = _
        rw [if_pos rfl, b0']; simp
    | cons c s ih =>
      intro t a fuel hl hf
      have hP2 : aP T q = (b :: t) ++ c :: (s ++ n :: l2) := by rw [hP, hl]; simp
      have hcP : c ∈ aP T q := by rw [hP2]; simp
      have hcl := hw.1 q hq c hcP
      have hcn : nI c ≠ nI n := by
        intro hh
        have := (nI_eq (by omega) (by omega)).mp hh
        subst this
        have hnd := hw.2.1 q hq
        rw [hP2, List.nodup_append] at hnd
        exact (List.nodup_cons.mp hnd.2.1).1 (by simp)
      obtain ⟨kc, hkc, hmc⟩ := hmk c (by rw [hl]; simp)
      have hmkc : mkN T c = kc := by unfold mkN; rw [hmc, nI_clamp (by omega)]
      match fuel, hf with
      | fuel + 1, hf =>
        have ih1 := fun a => ih (t ++ [c]) a fuel (by rw [hl]; simp) (by simpa using hf)
        have hun : lp (f_Md_isShadowed_L19 N (nI n) mb) (fuel + 1) (bi a, nI c) = _ := f_Md_isShadowed_L19.eq_1 N (nI n) mb (lp (f_Md_isShadowed_L19 N (nI n) mb) fuel) (bi a, nI c)
        simp only [if_neg hcn, if_pos (inB_nI (show n < 60 by omega) (show (60 : Nat) < 2 ^ 31 by decide)), if_pos (inB_nI (show c < 60 by omega) (show (60 : Nat) < 2 ^ 31 by decide)), nI_clamp (show n < 2 ^ 31 by omega), nI_clamp (show c < 2 ^ 31 by omega), (h.2.1 n (show n < aN T by omega)).2.2.1, (h.2.1 c (show c < aN T by omega)).2.2.1, hmn, hmc, md_isBelow hKI hMk (show 20 < N by omega) hkd hkc, Option.bind_some, b0, f_Md_isShadowed_b47.eq_1, f_Md_isShadowed_b52.eq_1, md_nextL h hq hP2] at hun
        show lp (f_Md_isShadowed_L19 N (nI n) mb) (fuel + 1) (bi a, nI c) = _
        rw [hun, show (1 : Int32) = bi true from rfl, show (0 : Int32) = bi false from rfl, ih1, ih1]
        cases a <;> cases hB : B kd kc <;> simp [hmkc, hB]
  rw [f_Md_isShadowed.eq_1, if_pos (inB_nI (by omega) (by decide)), nI_clamp (show n < 2 ^ 31 by omega), hpar, if_pos (inB_nI (by omega) (by decide)), nI_clamp (show q < 2 ^ 31 by omega), hfst, if_pos (inB_nI (show b < 60 by omega) (by decide)), nI_clamp (show b < 2 ^ 31 by omega), md_nextL h hq (l1 := []) (p := b) (l2 := l1 ++ n :: l2) (by rw [hP]; rfl), hmkn]
  exact key l1 [] false N rfl (by omega)
theorem md_nested (hb : BldM mb mg K ab B T rl r) (hN : 100 < N) {n : Nat} {l : List Nat} (hp : Pth T n l r) (hn : n < aN T) : f_Md_isNested N (nI n) mb mg = some (bi (nst T n l)) := by
  obtain ⟨h, hw, h60, hKI, hMk, hsh, hr, hg, -⟩ := hb
  have hl := Pth_len hw l n hp
  have key : ∀ (s : List Nat) (x : Nat) (a : Bool) (fuel : Nat), Pth T x s r → s.length < fuel → lp (f_Md_isNested_L8 N (nI n) mb mg) fuel (bi a, nx s.head?) = some (bi (a || nst T n s)) := by
    intro s
    induction s with
    | nil =>
      intro x a fuel _ hf
      match fuel, hf with
      | fuel + 1, _ =>
        show f_Md_isNested_L8 N (nI n) mb mg _ _ = _
        rw [f_Md_isNested_L8.eq_1]
        show (if (-1 : Int32) = -1 then (if bB (bi a) = true then some (bi a) else none) else _) = _
        rw [if_pos rfl, b0']; simp [nst]
    | cons y s ih =>
      intro x a fuel hx hf
      obtain ⟨hy, hxy, hp2⟩ := hx
      match fuel, hf with
      | fuel + 1, hf =>
        have ih1 := fun a => ih y a fuel hp2 (by simpa using hf)
        have hun : lp (f_Md_isNested_L8 N (nI n) mb mg) (fuel + 1) (bi a, nI y) = _ := f_Md_isNested_L8.eq_1 N (nI n) mb mg (lp (f_Md_isNested_L8 N (nI n) mb mg) fuel) (bi a, nI y)
        simp only [if_neg (nI_ne_m1 (show y < 2 ^ 31 by omega)), if_pos (inB_nI (show n < 60 by omega) (show (60 : Nat) < 2 ^ 31 by decide)), if_pos (inB_nI (show y < 60 by omega) (show (60 : Nat) < 2 ^ 31 by decide)), nI_clamp (show n < 2 ^ 31 by omega), nI_clamp (show y < 2 ^ 31 by omega), (h.2.1 y hy).1, (h.2.1 y hy).2.1, (h.2.1 n hn).2.1, b0, f_Md_isNested_b43.eq_1, f_Md_isNested_b47.eq_1, f_Md_isNested_b48.eq_1, md_upP h hw (show r < 60 by omega) hg hp2, Option.bind_some] at hun
        show lp (f_Md_isNested_L8 N (nI n) mb mg) (fuel + 1) (bi a, nI y) = _
        rw [hun, show (1 : Int32) = bi true from rfl, show (0 : Int32) = bi false from rfl, ih1, ih1]
        unfold nst
        by_cases c1 : aS T y = 12
        · by_cases c3 : aV T y = aV T n
          · cases a <;> simp [c1, c3]
          · cases a <;> simp [c1, c3]
        · cases a <;> simp [c1]
  rw [f_Md_isNested.eq_1, md_upP h hw (by omega) hg hp]
  simp only [Option.bind_some]
  exact key l n false N hp (by omega)
theorem om_id (o : Option MfS) : (o.bind fun y => some y) = o := by cases o <;> rfl
theorem md_b170 (hb : BldM mb mg K ab B T rl r) (hN : 100 < N) {n : Nat} {l : List Nat} (hp : Pth T n l r) (hn : n ∈ pre T r) (h0 : ∀ x ∈ pre T r, Mx_isReached mx x = bi (mt x)) (h1 : ∀ x ∈ pre T r, Mx_isCome mx x = bi (mt1 x)) (xq : Int32) (cq : Bool) (hxq : (xq = -1 ∧ cq = false) ∨ ∃ q ∈ pre T r, xq = nI q ∧ cq = mt1 q) : f_Md_judge_b170 N (nI n) xq mb mg mx mf = ((opM (if (jmp T n && decide (Mg_targets mg n = -1)) = true then some 2 else none) n mf).bind fun y => ((opM (if (decide (aS T n = 12) && nst T n l) = true then some 5 else none) n y).bind fun z => ntM (mt n && !mt1 n && cq) n z)) := by
  have hb' := hb
  obtain ⟨h, hw, h60, hKI, hMk, hsh, hr, hg, -⟩ := hb
  have hnn := pre_lt hw hr hn
  have e240 : ∀ (z : Bool) (mf : MfS), f_Md_judge_b240 N (bi z) (nI n) 5 (nI n) xq mb mg mx mf = ((opM (if z = true then some 5 else none) n mf).bind fun z => ntM (mt n && !mt1 n && cq) n z) := by
    intro z mf
    rw [f_Md_judge_b240.eq_1, tell_b]
    congr 1
    funext y
    rw [if_pos (inB_nI (show n < 60 by omega) (by decide)), if_pos (inB_nI (show n < 60 by omega) (by decide)), nI_clamp (show n < 2 ^ 31 by omega), h0 n hn, h1 n hn, b0, b0]
    unfold ntM
    rcases hxq with ⟨e1, e2⟩ | ⟨q, hq, e1, e2⟩
    · rw [e1, e2, if_pos rfl]
      cases mt n <;> cases mt1 n <;> simp
    · have hqn := pre_lt hw hr hq
      rw [e1, e2, if_neg (nI_ne_m1 (by omega)), if_pos (inB_nI (show q < 60 by omega) (by decide)), nI_clamp (show q < 2 ^ 31 by omega), h1 q hq, b0]
      cases mt n <;> cases mt1 n <;> cases mt1 q <;> simp
  have e210 : ∀ (z : Bool) (mf : MfS), f_Md_judge_b210 N (bi z) (nI n) 2 (nI n) xq mb mg mx mf = ((opM (if z = true then some 2 else none) n mf).bind fun y => ((opM (if (decide (aS T n = 12) && nst T n l) = true then some 5 else none) n y).bind fun z => ntM (mt n && !mt1 n && cq) n z)) := by
    intro z mf
    rw [f_Md_judge_b210.eq_1, tell_b]
    congr 1
    funext y
    rw [if_pos (inB_nI (show n < 60 by omega) (by decide)), nI_clamp (show n < 2 ^ 31 by omega), (h.2.1 n hnn).1, md_nested hb' hN hp hnn, f_Md_judge_b239.eq_1]
    simp only [Option.bind_some, b0]
    have g1 : f_Md_judge_b240 N (1 : Int32) (nI n) 5 (nI n) xq mb mg mx y = _ := e240 true y
    have g0 : f_Md_judge_b240 N (0 : Int32) (nI n) 5 (nI n) xq mb mg mx y = _ := e240 false y
    rw [g1, g0]
    by_cases c12 : aS T n = 12
    · rw [if_pos c12]
      cases nst T n l <;> simp [c12]
    · rw [if_neg c12]; simp [c12]
  rw [f_Md_judge_b170.eq_1, if_pos (inB_nI (show n < 60 by omega) (by decide)), if_pos (inB_nI (show n < 60 by omega) (by decide)), nI_clamp (show n < 2 ^ 31 by omega), (h.2.1 n hnn).1, f_Md_judge_b195.eq_1, if_pos (inB_nI (show n < 60 by omega) (by decide)), nI_clamp (show n < 2 ^ 31 by omega), f_Md_judge_b209.eq_1]
  have g1 : f_Md_judge_b210 N (1 : Int32) (nI n) 2 (nI n) xq mb mg mx mf = _ := e210 true mf
  have g0 : f_Md_judge_b210 N (0 : Int32) (nI n) 2 (nI n) xq mb mg mx mf = _ := e210 false mf
  rw [g1, g0]
  unfold jmp
  by_cases c10 : aS T n = 10
  · rw [if_pos c10]
    by_cases ct : Mg_targets mg n = -1
    · rw [if_pos ct]; simp [c10, ct]
    · rw [if_neg ct]; simp [c10, ct]
  · rw [if_neg c10]
    by_cases c11 : aS T n = 11
    · rw [if_pos c11]
      by_cases ct : Mg_targets mg n = -1
      · rw [if_pos ct]; simp [c11, ct]
      · rw [if_neg ct]; simp [c11, ct]
    · rw [if_neg c11]; simp [c10, c11]
theorem md_judge_r (hb : BldM mb mg K ab B T rl r) : f_Md_judge N (nI r) mb mg mx mf = f_Md_judge_b170 N (nI r) (-1) mb mg mx mf := by
  obtain ⟨h, hw, h60, hKI, hMk, hsh, hr, hg, -⟩ := hb
  have hc : f_Md_isCatch (nI r) mb mg = some 0 := by rw [f_Md_isCatch.eq_1, hg, if_pos rfl]
  rw [f_Md_judge.eq_1, md_up_r hg, hc]
  simp only [Option.bind_some]
  rw [if_pos trivial, if_pos trivial, f_Md_judge_b94.eq_1, f_Md_judge_b95.eq_1, if_pos rfl, f_Md_judge_b124.eq_1, f_Md_judge_b129.eq_1, if_pos rfl, f_Md_judge_b166.eq_1, f_Md_judge_b167.eq_1, f_Md_tell.eq_1, if_pos rfl]
  rfl
theorem md_judge_n (hb : BldM mb mg K ab B T rl r) (hN : 100 < N) (hS : SlR false K T B (Mg_targets mg) r D mt) {q n : Nat} {l1 l2 : List Nat} (hq : q ∈ pre T r) (hP : aP T q = l1 ++ n :: l2) (hnr : n ≠ r) (h0 : ∀ x ∈ pre T r, Mx_isReached mx x = bi (mt x)) : f_Md_judge N (nI n) mb mg mx mf = ((opM (plc T B mt q n l1) n mf).bind fun y => f_Md_judge_b170 N (nI n) (nI q) mb mg mx y) := by
  have hb' := hb
  obtain ⟨h, hw, h60, hKI, hMk, hsh, hr, hg, -⟩ := hb
  have hqn := pre_lt hw hr hq
  have hnP : n ∈ aP T q := by rw [hP]; simp
  have hnl := hw.1 q hqn n hnP
  have hnp := pre_dn hw r hr q hq n hnP
  have h57 : ∀ (z : Bool) (mf : MfS), f_Md_judge_b57 N (bi z) (nI n) 4 (nI n) (nI q) mb mg mx mf = ((opM (if z = true then some 4 else none) n mf).bind fun y => f_Md_judge_b170 N (nI n) (nI q) mb mg mx y) := by
    intro z mf
    rw [f_Md_judge_b57.eq_1, tell_b]
  have h167 : ∀ (z : Bool) (mf : MfS), f_Md_judge_b167 N (bi z) (nI n) 1 (nI n) (nI q) mb mg mx mf = ((opM (if z = true then some 1 else none) n mf).bind fun y => f_Md_judge_b170 N (nI n) (nI q) mb mg mx y) := by
    intro z mf
    rw [f_Md_judge_b167.eq_1, tell_b]
  have h129 : ∀ (z : Bool) (mf : MfS), f_Md_judge_b129 N (bi z) (nI n) (nI q) mb mg mx mf = ((opM (if (!mt n && mt q && z) = true then some 1 else none) n mf).bind fun y => f_Md_judge_b170 N (nI n) (nI q) mb mg mx y) := by
    intro z mf
    rw [f_Md_judge_b129.eq_1, if_neg (nI_ne_m1 (by omega)), if_pos (inB_nI (show n < 60 by omega) (by decide)), if_pos (inB_nI (show q < 60 by omega) (by decide)), nI_clamp (show n < 2 ^ 31 by omega), nI_clamp (show q < 2 ^ 31 by omega), h0 n hnp, h0 q hq, b0, b0, b0, f_Md_judge_b166.eq_1]
    have g1 : f_Md_judge_b167 N (1 : Int32) (nI n) 1 (nI n) (nI q) mb mg mx mf = _ := h167 true mf
    have g0 : f_Md_judge_b167 N (0 : Int32) (nI n) 1 (nI n) (nI q) mb mg mx mf = _ := h167 false mf
    rw [g1, g0]
    cases mt n <;> cases mt q <;> cases z <;> simp
  rw [f_Md_judge.eq_1, md_up_n h hg (by omega) hqn hnP (by omega) hnr, md_isCatch hb' hqn hP hnr]
  simp only [Option.bind_some, b0]
  unfold plc
  by_cases cc : (decide (aS T q = 16) && !decide (l1 = []) && !decide (enT T q = some n)) = true
  · rw [if_pos cc, if_pos cc]
    simp only [Bool.and_eq_true, Bool.not_eq_true', decide_eq_true_eq, decide_eq_false_iff_not] at cc
    obtain ⟨⟨c16, c1⟩, ce⟩ := cc
    obtain ⟨b', cs, hfr, hPt, hmk, -⟩ := try_split (hsh q hqn) c16
    cases l1 with
    | nil => exact absurd rfl c1
    | cons b l =>
      have hmk2 : ∀ c ∈ l ++ [n], ∃ k, k < K ∧ aM T c = nI k := by
        intro c hc
        have hm := (try_mark (K := K) hKI.2.1 hw hqn (hsh q hqn) c16 hP)
        obtain ⟨hh1, hh2⟩ := (hsh q hqn).2.2.2.2.2.2.2.2.2.2.2.2.2.1 c16
        obtain ⟨s1, s2, hs⟩ := List.append_of_mem hc
        have hPc : aP T q = (b :: s1) ++ c :: (s2 ++ l2) := by
          rw [hP, show b :: l ++ n :: l2 = b :: ((l ++ [n]) ++ l2) by simp, hs]; simp
        have hi := hh2 (b :: s1).length c (by rw [hPc]; simp)
        have hmc := try_mark (K := K) hKI.2.1 hw hqn (hsh q hqn) c16 hPc
        by_cases cnd : (b :: s1).length = 0 ∨ (aH T q = true ∧ (b :: s1).length + 1 = (aP T q).length)
        · rw [if_pos cnd] at hi
          rcases hmc.mp hi with hh | hh
          · cases hh
          · -- c is the ENDING: it stands last, so it is n
            exfalso
            rcases List.mem_append.mp hc with hc2 | hc2
            · have hH : aH T q = true := by
                unfold enT at hh
                by_cases cH : aH T q = true
                · exact cH
                · rw [if_neg cH] at hh; cases hh
              have hlast2 : (aP T q).getLast? = some c := by unfold enT at hh; rw [if_pos hH] at hh; exact hh
              have hnd := hw.2.1 q hqn
              rw [hP] at hlast2 hnd
              have hin : c ∈ n :: l2 := by
                rw [List.getLast?_append] at hlast2
                cases hz : (n :: l2).getLast? with
                | none => simp at hz
                | some w => rw [hz] at hlast2; simp at hlast2; rw [← hlast2]; exact List.mem_of_getLast? hz
              rw [List.nodup_append] at hnd
              exact hnd.2.2 c (List.mem_cons_of_mem _ hc2) c hin rfl
            · have : c = n := by simpa using hc2
              rw [this] at hh; exact ce hh
        · rw [if_neg cnd] at hi; exact hi
      rw [md_shadow hb' hN hqn hP hmk2]
      simp only [Option.bind_some]
      rw [tell_b]
      show _ = ((opM (if l.any (fun c => B (mkN T n) (mkN T c)) = true then some 3 else if (!mt n && mt q) = true then some 4 else none) n mf).bind _)
      have g1 : ∀ y, f_Md_judge_b57 N (1 : Int32) (nI n) 4 (nI n) (nI q) mb mg mx y = _ := fun y => h57 true y
      have g0 : ∀ y, f_Md_judge_b57 N (0 : Int32) (nI n) 4 (nI n) (nI q) mb mg mx y = _ := fun y => h57 false y
      simp only [if_pos (inB_nI (show n < 60 by omega) (show (60 : Nat) < 2 ^ 31 by decide)), if_pos (inB_nI (show q < 60 by omega) (show (60 : Nat) < 2 ^ 31 by decide)), nI_clamp (show n < 2 ^ 31 by omega), nI_clamp (show q < 2 ^ 31 by omega), h0 n hnp, h0 q hq, f_Md_judge_b56.eq_1, g1, g0, b0]
      cases hs : l.any (fun c => B (mkN T n) (mkN T c))
      · cases mt n <;> cases mt q <;> simp [opM]
      · simp [opM]
  · rw [if_neg cc, if_neg cc, if_neg (nI_ne_m1 (by omega)), if_pos (inB_nI (show q < 60 by omega) (by decide)), if_pos (inB_nI (show q < 60 by omega) (by decide)), nI_clamp (show q < 2 ^ 31 by omega), (h.2.1 q hqn).1, f_Md_judge_b90.eq_1, f_Md_judge_b94.eq_1]
    have e95t : f_Md_judge_b95 N (1 : Int32) (nI n) (nI q) mb mg mx mf = ((opM (if (!mt n && mt q && (match l1.getLast? with | none => true | some z => mt z)) = true then some 1 else none) n mf).bind fun y => f_Md_judge_b170 N (nI n) (nI q) mb mg mx y) := by
      rw [f_Md_judge_b95.eq_1, if_neg (by decide), if_pos (inB_nI (show n < 60 by omega) (by decide)), if_pos (inB_nI (show n < 60 by omega) (by decide)), nI_clamp (show n < 2 ^ 31 by omega), md_before h hqn hP, f_Md_judge_b124.eq_1]
      have g1 : f_Md_judge_b129 N (1 : Int32) (nI n) (nI q) mb mg mx mf = _ := h129 true mf
      have g0 : f_Md_judge_b129 N (0 : Int32) (nI n) (nI q) mb mg mx mf = _ := h129 false mf
      rw [g1, g0]
      cases hl : l1.getLast? with
      | none => rw [nx_n, if_pos rfl]
      | some z =>
        have hzP : z ∈ aP T q := by rw [hP]; exact List.mem_append_left _ (List.mem_of_getLast? hl)
        have hzl := hw.1 q hqn z hzP
        rw [nx_s, if_neg (nI_ne_m1 (by omega)), if_pos (inB_nI (show z < 60 by omega) (by decide)), nI_clamp (by omega), h0 z (pre_dn hw r hr q hq z hzP), b0]
        show _ = ((opM (if (!mt n && mt q && mt z) = true then some 1 else none) n mf).bind fun y => f_Md_judge_b170 N (nI n) (nI q) mb mg mx y)
        cases mt z <;> rfl
    have e95f : f_Md_judge_b95 N (0 : Int32) (nI n) (nI q) mb mg mx mf = ((opM (if (!mt n && mt q && true) = true then some 1 else none) n mf).bind fun y => f_Md_judge_b170 N (nI n) (nI q) mb mg mx y) := by
      rw [f_Md_judge_b95.eq_1, if_pos rfl, f_Md_judge_b124.eq_1]
      exact h129 true mf
    rw [e95t, e95f]
    by_cases c13 : aS T q = 13
    · rw [if_pos c13]; rfl
    · rw [if_neg c13]
      by_cases c14 : aS T q = 14
      · rw [if_pos c14]; rfl
      · rw [if_neg c14]
        -- no line: a part that is not the first is open
        have hopen : l1 ≠ [] → (!mt n && mt q) = false := by
          intro hne
          have hs := hS.2.2.2.2.2.2.1
          have hdO : dO D n = true := by
            by_cases cl : lfB (aS T q) = true
            · rw [lf_nil (hsh q hqn) cl] at hnP; simp at hnP
            · have cl : lfB (aS T q) = false := by simpa using cl
              by_cases c16 : aS T q = 16
              · have ce : enT T q = some n := by
                  simp [c16, hne] at cc
                  exact cc
                obtain ⟨b', cs, hfr, hPt, -⟩ := try_split (hsh q hqn) c16
                rw [(sol_tr (hs q hq) c16 b' cs hfr).2.2.1 n ce]; rfl
              · rw [(sol_wh (hs q hq) cl c16).1 l1.length n (by rw [hP]; simp)]
                have h57 : aS T q ≠ 5 ∧ aS T q ≠ 7 := by
                  have hone : (aS T q = 5 ∨ aS T q = 7) → False := by
                    intro e
                    have hl := (hsh q hqn).2.2.2.2.2.2.1 (by rcases e with e | e <;> simp [e])
                    rw [hP] at hl
                    simp only [List.length_append, List.length_cons] at hl
                    exact hne (List.length_eq_zero_iff.mp (by omega))
                  exact ⟨fun e => hone (Or.inl e), fun e => hone (Or.inr e)⟩
                unfold opn
                by_cases c4 : aS T q = 4
                · rw [if_pos c4]; simp [tIf]
                · rw [if_neg c4, if_neg h57.1, if_neg h57.2, if_neg c13, if_neg c14]
          rw [mt_dn hS hq hnP, hdO]
          cases mt q <;> rfl
        cases hl : l1.getLast? with
        | none => rfl
        | some z =>
          have hne : l1 ≠ [] := fun e => by rw [e] at hl; simp at hl
          rw [hopen hne]; rfl
end M
