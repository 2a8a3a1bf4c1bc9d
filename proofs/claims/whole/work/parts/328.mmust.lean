/-! mustReach, mustComplete -/
section R
variable {mb : MbS} {mg : MgS} {K : Nat} {ab : Nat → Nat} {B : Nat → Nat → Bool} {T : AT} {rl : List Nat} {r N : Nat} {mx : MxS} {rc cm : Nat → Bool} {th : Nat → Nat → Bool}
theorem md_isCatch (hb : BldM mb mg K ab B T rl r) {n q : Nat} {l1 l2 : List Nat} (hq : q < aN T) (hP : aP T q = l1 ++ n :: l2) (hnr : n ≠ r) : f_Md_isCatch (nI n) mb mg = some (bi (decide (aS T q = 16) && !decide (l1 = []) && !decide (enT T q = some n))) := by
  have hb' := hb
  obtain ⟨h, hw, h60, -, -, -, hr, hg, -⟩ := hb
  have hn : n ∈ aP T q := by rw [hP]; simp
  have hnl := hw.1 q hq n hn
  have hpar : Mb_partOf mb n = nI q := by
    obtain ⟨i, hi⟩ := List.getElem?_of_mem hn
    exact (h.2.2.1 q hq i n hi).1
  rw [f_Md_isCatch.eq_1, hg, if_neg (fun e => hnr ((nI_eq (by omega) (by omega)).mp e)), if_pos (inB_nI (by omega) (by decide)), if_pos (inB_nI (by omega) (by decide)), nI_clamp (by omega), hpar, if_pos (inB_nI (by omega) (by decide)), nI_clamp (by omega), (h.2.1 q hq).1, md_before h hq hP, md_isEnding hb' hq hn hnr]
  simp only [Option.bind_some, b0]
  by_cases c16 : aS T q = 16
  · rw [if_pos c16]
    rcases List.eq_nil_or_concat l1 with e | ⟨l1', z, e⟩
    · subst e
      rw [show ([] : List Nat).getLast? = none from rfl, nx_n, if_pos rfl]; simp [bi]
    · rw [List.concat_eq_append] at e
      have hz := hw.1 q hq z (by rw [hP, e]; simp)
      rw [e, List.getLast?_concat, nx_s, if_neg (nI_ne_m1 (by omega))]
      by_cases ce : enT T q = some n
      · simp [c16, ce, bi]
      · simp [c16, ce, bi]
  · rw [if_neg c16]; simp [c16, bi]
def CtP (K : Nat) (T : AT) (B : Nat → Nat → Bool) (th : Nat → Nat → Bool) (b n : Nat) (l : List Nat) : Prop := (∀ c ∈ l, B (mkN T n) (mkN T c) = false) ∧ (nnt B (mkN T n) = true ∨ ∃ k, k < K ∧ th b k = true ∧ (B k (mkN T n) = true ∨ B (mkN T n) k = true))
theorem md_catches (hb : BldM mb mg K ab B T rl r) (hK4 : 4 ≤ K) (hN : 100 < N) (hd : RdR mx T r rc cm th) {q b n : Nat} {l1 l2 : List Nat} (hq : q ∈ pre T r) (hP : aP T q = b :: l1 ++ n :: l2) (hmk : ∀ c ∈ l1 ++ [n], ∃ k, k < K ∧ aM T c = nI k) : ∃ z, f_Md_catches N (nI q) (nI n) mb mg mx = some (bi z) ∧ (z = true ↔ CtP K T B th b n l1) := by
  obtain ⟨h, hw, h60, hKI, hMk, -, hr, -, -, hkk, -⟩ := hb
  have hK := hKI.2.1
  have hqn := pre_lt hw hr hq
  have hlen : (aP T q).length ≤ 60 := nodup_le (hw.2.1 q hqn) (fun p hp => by have := hw.1 q hqn p hp; omega)
  have hll : l1.length + 2 ≤ (aP T q).length := by rw [hP]; simp
  have hnd := hw.2.1 q hqn
  obtain ⟨kd, hkd, hmn⟩ := hmk n (by simp)
  have hmkn : mkN T n = kd := by unfold mkN; rw [hmn, nI_clamp (by omega)]
  have hnP : n ∈ aP T q := by rw [hP]; simp
  have hnl := hw.1 q hqn n hnP
  have hbP : b ∈ aP T q := by rw [hP]; simp
  have hbl := hw.1 q hqn b hbP
  have hfst : Mb_first mb q = nI b := by rw [(h.2.1 q hqn).2.2.2.2.2.1, hP]; rfl
  have hbth := (hd b (pre_dn hw r hr q hq b hbP)).2.2
  -- the KINDS
  have kinds : ∀ (m k fuel : Nat) (a : Bool), k + m = K → m + 1 < fuel → ∃ z, lp (f_Md_catches_L88 N (nI q) (nI kd) mb mg mx) fuel (bi a, nI k) = some (bi z) ∧ (z = true ↔ a = true ∨ ∃ j, k ≤ j ∧ j < K ∧ th b j = true ∧ (B j kd = true ∨ B kd j = true)) := by
    intro m
    induction m with
    | zero =>
      intro k fuel a hk hf
      match fuel, hf with
      | fuel + 1, _ =>
        refine ⟨a, ?_, ?_⟩
        · show f_Md_catches_L88 N _ _ mb mg mx _ _ = _
          rw [f_Md_catches_L88.eq_1]
          show (if Mg_knownKinds mg ≤ nI k then (if bB (bi a) = true then some (bi a) else none) else _) = _
          rw [hkk, if_pos (nI_le (by omega) (by omega)), b0']
        · constructor
          · intro h1; exact Or.inl h1
          · rintro (h1 | ⟨j, h1, h2, -⟩)
            · exact h1
            · omega
    | succ m ih =>
      intro k fuel a hk hf
      match fuel, hf with
      | fuel + 1, hf =>
        cases a with
        | true =>
          refine ⟨true, ?_, by simp⟩
          show f_Md_catches_L88 N _ _ mb mg mx _ _ = _
          rw [f_Md_catches_L88.eq_1]
          show (if Mg_knownKinds mg ≤ nI k then _ else (if (1 : Int32) = 0 then _ else (if bB (1 : Int32) = true then some 1 else none))) = _
          rw [hkk, if_neg (nI_ge (by omega) (by omega)), if_neg (by decide), if_pos (by decide)]; rfl
        | false =>
          have ih1 := fun a => ih (k + 1) fuel a (by omega) (by omega)
          have hsp : (∃ j, k ≤ j ∧ j < K ∧ th b j = true ∧ (B j kd = true ∨ B kd j = true)) ↔ (th b k = true ∧ (B k kd = true ∨ B kd k = true)) ∨ ∃ j, k + 1 ≤ j ∧ j < K ∧ th b j = true ∧ (B j kd = true ∨ B kd j = true) := by
            constructor
            · rintro ⟨j, h1, h2, h3⟩
              by_cases e : j = k
              · subst e; exact Or.inl h3
              · exact Or.inr ⟨j, by omega, h2, h3⟩
            · rintro (h3 | ⟨j, h1, h2, h3⟩)
              · exact ⟨k, Nat.le_refl _, by omega, h3⟩
              · exact ⟨j, by omega, h2, h3⟩
          obtain ⟨z0, k0, i0⟩ := ih1 false
          obtain ⟨z1, k1, i1⟩ := ih1 true
          have hun : lp (f_Md_catches_L88 N (nI q) (nI kd) mb mg mx) (fuel + 1) (bi false, nI k) = _ := f_Md_catches_L88.eq_1 N (nI q) (nI kd) mb mg mx (lp (f_Md_catches_L88 N (nI q) (nI kd) mb mg mx) fuel) (bi false, nI k)
          simp only [f_Md_catches_b146.eq_1, f_Md_catches_b142.eq_1, f_Md_catches_b147.eq_1] at hun
          rw [hkk, if_neg (nI_ge (by omega) (by omega)), if_pos (show bi false = 0 from rfl), if_pos (inB_nI (show q < 60 by omega) (by decide)), nI_clamp (show q < 2 ^ 31 by omega), hfst, th_idx (by omega) (by omega), if_pos (inB_nI (show 12 * b + k < 720 by omega) (by decide)), nI_clamp (by omega), hbth k (by omega), md_isBelow hKI hMk (by omega) (show k < K by omega) hkd, md_isBelow hKI hMk (by omega) hkd (show k < K by omega), nI_1] at hun
          simp only [Option.bind_some, b0] at hun
          rw [show (1 : Int32) = bi true from rfl, show (0 : Int32) = bi false from rfl, k0, k1] at hun
          rw [hun, hsp]
          rw [Bool.false_eq_true, false_or] at i0
          have i1 : z1 = true := i1.mpr (Or.inl rfl)
          cases ht : th b k
          · exact ⟨z0, by simp, by rw [i0]; simp⟩
          · cases h1 : B k kd
            · cases h2 : B kd k
              · exact ⟨z0, by simp, by rw [i0]; simp⟩
              · exact ⟨true, by simp [i1], by simp⟩
            · exact ⟨true, by simp [i1], by simp⟩
  have walk : ∀ (s2 s1 : List Nat) (fuel : Nat), l1 = s1 ++ s2 → s2.length < fuel → (∀ c ∈ s1, B kd (mkN T c) = false) → ∃ z, lp (f_Md_catches_L20 N (nI q) (nI n) (nI kd) mb mg mx) fuel (nx (s2 ++ n :: l2).head?) = some (bi z) ∧ (z = true ↔ CtP K T B th b n l1) := by
    intro s2
    induction s2 with
    | nil =>
      intro s1 fuel hl hf hs
      rw [List.append_nil] at hl
      subst hl
      match fuel, hf with
      | fuel + 1, _ =>
        obtain ⟨z0, k0, i0⟩ := kinds K 0 N false (by omega) (by omega)
        obtain ⟨z1, k1, i1⟩ := kinds K 0 N true (by omega) (by omega)
        have k0 : lp (f_Md_catches_L88 N (nI q) (nI kd) mb mg mx) N (0, 0) = some (bi z0) := k0
        have k1 : lp (f_Md_catches_L88 N (nI q) (nI kd) mb mg mx) N (1, 0) = some (bi z1) := k1
        have i1 : z1 = true := i1.mpr (Or.inl rfl)
        rw [Bool.false_eq_true, false_or] at i0
        have b2 : f_Md_isBelow N (nI kd) 2 mb = some (bi (B kd 2)) := md_isBelow hKI hMk (by omega) hkd (show 2 < K by omega)
        have b3 : f_Md_isBelow N (nI kd) 3 mb = some (bi (B kd 3)) := md_isBelow hKI hMk (by omega) hkd (show 3 < K by omega)
        have hun : lp (f_Md_catches_L20 N (nI q) (nI n) (nI kd) mb mg mx) (fuel + 1) (nI n) = _ := f_Md_catches_L20.eq_1 N (nI q) (nI n) (nI kd) mb mg mx (lp (f_Md_catches_L20 N (nI q) (nI n) (nI kd) mb mg mx) fuel) (nI n)
        simp only [f_Md_catches_b78.eq_1, f_Md_catches_b83.eq_1, k0, k1, b2, b3, Option.bind_some, b0] at hun
        rw [if_pos trivial] at hun
        show ∃ z, lp (f_Md_catches_L20 N (nI q) (nI n) (nI kd) mb mg mx) (fuel + 1) (nI n) = _ ∧ _
        rw [hun]
        have hC : CtP K T B th b n l1 ↔ (nnt B kd = true ∨ ∃ j, 0 ≤ j ∧ j < K ∧ th b j = true ∧ (B j kd = true ∨ B kd j = true)) := by
          unfold CtP
          rw [hmkn]
          constructor
          · rintro ⟨-, h2⟩
            rcases h2 with h2 | ⟨k, h3, h4⟩
            · exact Or.inl h2
            · exact Or.inr ⟨k, by omega, h3, h4⟩
          · rintro (h2 | ⟨k, -, h3, h4⟩)
            · exact ⟨hs, Or.inl h2⟩
            · exact ⟨hs, Or.inr ⟨k, h3, h4⟩⟩
        rw [hC]
        unfold nnt
        by_cases c2 : kd < 2
        · have h22 : nI kd < nI 2 := nI_lt c2 (by decide)
          rw [if_pos (show nI kd < 2 from h22)]
          refine ⟨z1, rfl, ?_⟩
          have : kd ≤ 1 := by omega
          simp [this, i1]
        · have h22 : ¬ nI kd < nI 2 := nI_nlt (by omega) (by omega)
          rw [if_neg (show ¬ nI kd < 2 from h22)]
          have c2' : ¬ kd ≤ 1 := by omega
          cases h2 : B kd 2
          · cases h3 : B kd 3
            · refine ⟨z0, by simp, ?_⟩
              rw [i0]; simp [c2']
            · refine ⟨z1, by simp, ?_⟩
              simp [i1]
          · refine ⟨z1, by simp, ?_⟩
            simp [i1]
    | cons c s2 ih =>
      intro s1 fuel hl hf hs
      have hP2 : aP T q = (b :: s1) ++ c :: (s2 ++ n :: l2) := by rw [hP, hl]; simp
      have hcP : c ∈ aP T q := by rw [hP2]; simp
      have hcl := hw.1 q hqn c hcP
      have hcn : nI c ≠ nI n := by
        intro hh
        have := (nI_eq (by omega) (by omega)).mp hh
        subst this
        rw [hP2, List.nodup_append] at hnd
        exact (List.nodup_cons.mp hnd.2.1).1 (by simp)
      obtain ⟨kc, hkc, hmc⟩ := hmk c (by rw [hl]; simp)
      have hmkc : mkN T c = kc := by unfold mkN; rw [hmc, nI_clamp (by omega)]
      match fuel, hf with
      | fuel + 1, hf =>
        have hun : lp (f_Md_catches_L20 N (nI q) (nI n) (nI kd) mb mg mx) (fuel + 1) (nI c) = _ := f_Md_catches_L20.eq_1 N (nI q) (nI n) (nI kd) mb mg mx (lp (f_Md_catches_L20 N (nI q) (nI n) (nI kd) mb mg mx) fuel) (nI c)
        rw [if_neg hcn, if_pos (inB_nI (show c < 60 by omega) (by decide)), if_pos (inB_nI (show c < 60 by omega) (by decide)), nI_clamp (show c < 2 ^ 31 by omega), (h.2.1 c (by omega)).2.2.1, hmc, md_isBelow hKI hMk (by omega) hkd hkc, md_nextL h hqn hP2] at hun
        simp only [Option.bind_some, b0] at hun
        show ∃ z, lp (f_Md_catches_L20 N (nI q) (nI n) (nI kd) mb mg mx) (fuel + 1) (nI c) = _ ∧ _
        rw [hun]
        by_cases cb : B kd kc = true
        · rw [if_pos cb]
          refine ⟨false, rfl, ?_⟩
          constructor
          · intro hh; cases hh
          · intro hh
            have := hh.1 c (by rw [hl]; simp)
            rw [hmkn, hmkc, cb] at this; cases this
        · rw [if_neg cb]
          exact ih (s1 ++ [c]) fuel (by rw [hl]; simp) (by simpa using hf) (fun d hd2 => by
            rcases List.mem_append.mp hd2 with hd2 | hd2
            · exact hs d hd2
            · have : d = c := by simpa using hd2
              subst this; rw [hmkc]; simpa using cb)
  rw [f_Md_catches.eq_1, if_pos (inB_nI (by omega) (by decide)), if_pos (inB_nI (by omega) (by decide)), nI_clamp (show n < 2 ^ 31 by omega), nI_clamp (show q < 2 ^ 31 by omega), (h.2.1 n (by omega)).2.2.1, hmn, hfst, if_pos (inB_nI (show b < 60 by omega) (by decide)), nI_clamp (show b < 2 ^ 31 by omega), md_nextL h hqn (l1 := []) (p := b) (l2 := l1 ++ n :: l2) (by rw [hP]; rfl)]
  exact walk l1 [] N rfl (by omega) (by simp)
end R
