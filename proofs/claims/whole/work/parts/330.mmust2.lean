def MrQ (K : Nat) (T : AT) (B : Nat → Nat → Bool) (rc cm : Nat → Bool) (th : Nat → Nat → Bool) (p : Nat) (l1 : List Nat) (n : Nat) : Prop := rc p = true ∧ ((aS T p = 5 ∨ aS T p = 7) → aV T p ≠ 0) ∧ (aS T p = 13 → ∀ q, l1.getLast? = some q → cm q = true) ∧ (aS T p = 14 → aM T n ≠ 0 ∨ ∃ q, l1.getLast? = some q ∧ cm q = true) ∧ (aS T p = 16 → ∀ b l, l1 = b :: l → enT T p ≠ some n → CtP K T B th b n l)
def McP (T : AT) (r : Nat) (tg : Nat → Int32) (rc cm : Nat → Bool) (n : Nat) : Prop := rc n = true ∧ ((aS T n = 0 ∨ aS T n = 1 ∨ aS T n = 8) ∨ (aS T n = 4 ∧ ((aP T n).length = 1 ∨ ∃ p ∈ aP T n, cm p = true)) ∨ ((aS T n = 5 ∨ aS T n = 7) ∧ (aV T n = 0 ∨ aV T n = 2 ∨ ExP T r tg rc cm 10 n)) ∨ (aS T n = 6 ∧ ((aV T n ≠ 1 ∧ ((∃ p ∈ aP T n, cm p = true) ∨ ExP T r tg rc cm 11 n)) ∨ ExP T r tg rc cm 10 n)) ∨ (aS T n = 9 ∧ ∃ p ∈ aP T n, cm p = true) ∨ (aS T n = 12 ∧ ((∃ p ∈ aP T n, cm p = true) ∨ ExP T r tg rc cm 10 n)) ∨ (aS T n = 13 ∧ ∀ q, (aP T n).getLast? = some q → cm q = true) ∨ (aS T n = 14 ∧ (dfB T n = false ∨ aE T n ≠ 0 ∨ (∀ q, (aP T n).getLast? = some q → cm q = true) ∨ ExP T r tg rc cm 10 n)) ∨ (aS T n = 15 ∧ (dfB T n = false ∨ (∃ p ∈ aP T n, cm p = true) ∨ ExP T r tg rc cm 10 n)) ∨ (aS T n = 16 ∧ ∃ b cs, frT T n = b :: cs ∧ (∃ p ∈ b :: cs, cm p = true) ∧ ∀ e, enT T n = some e → cm e = true))
section R
variable {mb : MbS} {mg : MgS} {K : Nat} {ab : Nat → Nat} {B : Nat → Nat → Bool} {T : AT} {rl : List Nat} {r N : Nat} {mx : MxS} {rc cm : Nat → Bool} {th : Nat → Nat → Bool}
theorem md_reach_r (hb : BldM mb mg K ab B T rl r) : f_Md_mustReach N (nI r) mb mg mx = some (bi true) := by
  obtain ⟨-, -, -, -, -, -, -, hg, -⟩ := hb
  rw [f_Md_mustReach.eq_1, hg, if_pos rfl]; rfl
theorem md_mustReach (hb : BldM mb mg K ab B T rl r) (hK4 : 4 ≤ K) (hN : 100 < N) (hd : RdR mx T r rc cm th) {n q : Nat} {l1 l2 : List Nat} (hq : q ∈ pre T r) (hP : aP T q = l1 ++ n :: l2) (hnr : n ≠ r) : ∃ z, f_Md_mustReach N (nI n) mb mg mx = some (bi z) ∧ (z = true ↔ MrQ K T B rc cm th q l1 n) := by
  have hb' := hb
  obtain ⟨h, hw, h60, hKI, hMk, hsh, hr, hg, -⟩ := hb
  have hK := hKI.2.1
  have hqn := pre_lt hw hr hq
  have hnP : n ∈ aP T q := by rw [hP]; simp
  have hnl := hw.1 q hqn n hnP
  have hpar : Mb_partOf mb n = nI q := by
    obtain ⟨i, hi⟩ := List.getElem?_of_mem hnP
    exact (h.2.2.1 q hqn i n hi).1
  have hun : f_Md_mustReach N (nI n) mb mg mx = _ := f_Md_mustReach.eq_1 N (nI n) mb mg mx
  rw [hg, if_neg (fun e => hnr ((nI_eq (by omega) (by omega)).mp e)), if_pos (inB_nI (show n < 60 by omega) (by decide)), nI_clamp (show n < 2 ^ 31 by omega), hpar, if_pos (inB_nI (show q < 60 by omega) (by decide)), if_pos (inB_nI (show q < 60 by omega) (by decide)), nI_clamp (show q < 2 ^ 31 by omega), (hd q hq).1, b0, (h.2.1 q hqn).1, f_Md_mustReach_b96.eq_1, if_pos (inB_nI (show q < 60 by omega) (by decide)), nI_clamp (show q < 2 ^ 31 by omega), (h.2.1 q hqn).2.1, (h.2.1 n (by omega)).2.2.1, md_before h hqn hP, md_isCatch hb' hqn hP hnr] at hun
  simp only [if_pos (inB_nI (show n < 60 by omega) (show (60 : Nat) < 2 ^ 31 by decide)), Option.bind_some, b0] at hun
  rw [hun]
  by_cases c0 : rc q = true
  · rw [if_pos c0]
    have hlast : ∀ z, l1.getLast? = some z → z < 60 ∧ Mx_isComplete mx z = bi (cm z) := by
      intro z hz
      have hzP : z ∈ aP T q := by rw [hP]; exact List.mem_append_left _ (List.mem_of_getLast? hz)
      have := hw.1 q hqn z hzP
      exact ⟨by omega, (hd z (pre_dn hw r hr q hq z hzP)).2.1⟩
    rcases srt17 (hsh q hqn) with e | e | e | e | e | e | e | e | e | e | e | e | e | e | e | e | e
    case inr.inr.inr.inr.inr.inl =>
      rw [e]
      by_cases cv : aV T q = 0
      · refine ⟨false, ?_, by simp [MrQ, e, cv]⟩
        rw [if_pos rfl, if_pos cv]; rfl
      · refine ⟨true, ?_, by simp [MrQ, e, cv, c0]⟩
        rw [if_pos rfl, if_neg cv]; rfl
    case inr.inr.inr.inr.inr.inr.inr.inl =>
      rw [e]
      by_cases cv : aV T q = 0
      · refine ⟨false, ?_, by simp [MrQ, e, cv]⟩
        rw [if_neg (by decide), if_neg (by decide), if_pos rfl, if_pos cv]; rfl
      · refine ⟨true, ?_, by simp [MrQ, e, cv, c0]⟩
        rw [if_neg (by decide), if_neg (by decide), if_pos rfl, if_neg cv]; rfl
    case inr.inr.inr.inr.inr.inr.inr.inr.inr.inr.inr.inr.inr.inl =>
      rw [e, if_neg (by decide), if_neg (by decide), if_neg (by decide), if_neg (by decide), if_neg (by decide), if_neg (by decide), if_neg (by decide), if_neg (by decide), if_pos rfl]
      cases hl : l1.getLast? with
      | none =>
        refine ⟨true, by rw [nx_n, if_pos rfl]; rfl, by simp [MrQ, e, c0, hl]⟩
      | some z =>
        obtain ⟨z1, z2⟩ := hlast z hl
        rw [nx_s, if_neg (nI_ne_m1 (by omega)), if_pos (inB_nI z1 (by decide)), nI_clamp (by omega), z2, b0]
        cases hc : cm z
        · exact ⟨false, rfl, by simp [MrQ, e, hl, hc]⟩
        · exact ⟨true, rfl, by simp [MrQ, e, c0, hl, hc]⟩
    case inr.inr.inr.inr.inr.inr.inr.inr.inr.inr.inr.inr.inr.inr.inl =>
      rw [e, if_neg (by decide), if_neg (by decide), if_neg (by decide), if_neg (by decide), if_neg (by decide), if_neg (by decide), if_neg (by decide), if_neg (by decide), if_neg (by decide), if_pos rfl]
      have hm := ((hsh q hqn).2.2.2.2.2.2.2.2.2.2.2.1 e).1 l1.length n (by rw [hP]; simp)
      by_cases cm0 : aM T n = 0
      · rw [if_neg (by rw [cm0]; decide)]
        cases hl : l1.getLast? with
        | none =>
          have : l1 = [] := List.getLast?_eq_none_iff.mp hl
          subst this
          exact absurd cm0 (hm.2 rfl)
        | some z =>
          obtain ⟨z1, z2⟩ := hlast z hl
          rw [nx_s, if_pos (inB_nI z1 (by decide)), nI_clamp (by omega), z2, b0]
          cases hc : cm z
          · exact ⟨false, rfl, by simp [MrQ, e, hl, hc, cm0]⟩
          · exact ⟨true, rfl, by simp [MrQ, e, c0, hl, hc]⟩
      · rw [if_pos (by
          rcases hm.1 with hh | hh | hh
          · exact absurd hh cm0
          · rw [hh]; decide
          · rw [hh]; decide)]
        exact ⟨true, rfl, by simp [MrQ, e, c0, cm0]⟩
    case inr.inr.inr.inr.inr.inr.inr.inr.inr.inr.inr.inr.inr.inr.inr.inr =>
      rw [e, if_neg (by decide), if_neg (by decide), if_neg (by decide), if_neg (by decide), if_neg (by decide), if_neg (by decide), if_neg (by decide), if_neg (by decide), if_neg (by decide), if_neg (by decide), if_neg (by decide), if_pos rfl]
      obtain ⟨b, cs, hfr, hPt, hmk, -, -, -⟩ := try_split (hsh q hqn) e
      cases l1 with
      | nil => exact ⟨true, rfl, by simp [MrQ, e, c0]⟩
      | cons b' l =>
        by_cases ce : enT T q = some n
        · exact ⟨true, by simp [ce]; rfl, by simp [MrQ, e, c0, ce]⟩
        · have hcs : ∀ c ∈ l ++ [n], ∃ k, k < K ∧ aM T c = nI k := by
            have hnd := hw.2.1 q hqn
            intro c hc
            rw [hP] at hPt
            have hb2 : b' = b ∧ l ++ n :: l2 = cs ++ (enT T q).toList := by
              simp only [List.cons_append] at hPt
              injection hPt with h1 h2
              exact ⟨h1, h2⟩
            have hcc : c ∈ cs ∨ enT T q = some c := by
              have : c ∈ l ++ n :: l2 := by
                rcases List.mem_append.mp hc with hc | hc
                · simp [hc]
                · have : c = n := by simpa using hc
                  simp [this]
              rw [hb2.2] at this
              rcases List.mem_append.mp this with hh | hh
              · exact Or.inl hh
              · cases he : enT T q with
                | none => rw [he] at hh; simp at hh
                | some e2 => rw [he] at hh; simp at hh; exact Or.inr (by rw [hh])
            rcases hcc with hcc | hcc
            · exact hmk c hcc
            · -- the ENDING stands last
              have hH : aH T q = true := by
                unfold enT at hcc
                by_cases cH : aH T q = true
                · exact cH
                · rw [if_neg cH] at hcc; cases hcc
              have hlast2 : (aP T q).getLast? = some c := by unfold enT at hcc; rw [if_pos hH] at hcc; exact hcc
              rcases List.mem_append.mp hc with hc2 | hc2
              · rw [hP] at hlast2 hnd
                have hin : c ∈ n :: l2 := by
                  rw [List.getLast?_append] at hlast2
                  cases hz : (n :: l2).getLast? with
                  | none => simp at hz
                  | some w => rw [hz] at hlast2; simp at hlast2; rw [← hlast2]; exact List.mem_of_getLast? hz
                rw [List.nodup_append] at hnd
                exact absurd rfl (hnd.2.2 c (List.mem_cons_of_mem _ hc2) c hin)
              · have : c = n := by simpa using hc2
                subst this
                exact absurd hcc ce
          obtain ⟨z, z1, z2⟩ := md_catches hb' hK4 hN hd hq hP hcs
          rw [z1]
          refine ⟨z, ?_, ?_⟩
          · simp [ce]; cases z <;> rfl
          · rw [z2]
            constructor
            · intro hh
              refine ⟨c0, by simp [e], by simp [e], by simp [e], fun _ b2 l3 hbl _ => ?_⟩
              injection hbl with h1 h2
              subst h1; subst h2; exact hh
            · intro hh
              exact hh.2.2.2.2 e b' l rfl ce
    all_goals exact ⟨true, by rw [e]; rfl, by simp [MrQ, e, c0]⟩
  · rw [if_neg c0]
    exact ⟨false, rfl, by simp [MrQ, c0]⟩
theorem md_mustComplete (hb : BldM mb mg K ab B T rl r) (hN : 100 < N) (hd : RdR mx T r rc cm th) {n : Nat} (hn : n ∈ pre T r) : ∃ z, f_Md_mustComplete N (nI n) mb mg mx = some (bi z) ∧ (z = true ↔ McP T r (Mg_targets mg) rc cm n) := by
  have hb' := hb
  obtain ⟨h, hw, h60, hKI, hMk, hsh, hr, hg, -⟩ := hb
  have hnn := pre_lt hw hr hn
  have hun : f_Md_mustComplete N (nI n) mb mg mx = _ := f_Md_mustComplete.eq_1 N (nI n) mb mg mx
  obtain ⟨x10, a10, b10⟩ := md_isExit hb' hN hd (Or.inl rfl) (show n < 60 by omega)
  obtain ⟨x11, a11, b11⟩ := md_isExit hb' hN hd (Or.inr rfl) (show n < 60 by omega)
  have hany := md_any hb' hN hd hn
  obtain ⟨m1, m2, m3, m4, m5, m6, m7, m8⟩ := h.2.1 n hnn
  simp only [if_pos (inB_nI (show n < 60 by omega) (show (60 : Nat) < 2 ^ 31 by decide)), nI_clamp (show n < 2 ^ 31 by omega), (hd n hn).1, b0, m1, m2, m4, m6, m7, a10, a11, hany, f_Md_mustComplete_b139.eq_1, f_Md_mustComplete_b193.eq_1, Option.bind_some] at hun
  rw [hun]
  have hcmP : ∀ p ∈ aP T n, p < 60 ∧ Mx_isComplete mx p = bi (cm p) := fun p hp => by
    have := hw.1 n hnn p hp
    exact ⟨by omega, (hd p (pre_dn hw r hr n hn p hp)).2.1⟩
  have one : (aP T n).length = 1 → ∃ p, aP T n = [p] := fun hl => by
    match hP : aP T n, hl with
    | [p], _ => exact ⟨p, rfl⟩
  have anyiff : (aP T n).any cm = true ↔ ∃ p ∈ aP T n, cm p = true := List.any_eq_true
  by_cases c0 : rc n = true
  · rw [if_pos c0]
    have hs := hsh n hnn
    rcases srt17 hs with e | e | e | e | e | e | e | e | e | e | e | e | e | e | e | e | e
    · exact ⟨true, by rw [e]; rfl, by simp [McP, e, c0]⟩
    · exact ⟨true, by rw [e]; rfl, by simp [McP, e, c0]⟩
    · exact ⟨false, by rw [e]; rfl, by simp [McP, e]⟩
    · exact ⟨false, by rw [e]; rfl, by simp [McP, e]⟩
    · -- IF
      rw [e, if_neg (by decide), if_neg (by decide), if_neg (by decide), if_neg (by decide), if_pos rfl]
      rcases hs.2.2.2.2.2.1 e with hl | hl
      · obtain ⟨p, hP⟩ := one hl
        have hp := hcmP p (by rw [hP]; simp)
        rw [hP, show ([p] : List Nat).head? = some p from rfl, nx_s, if_pos (inB_nI hp.1 (by decide)), nI_clamp (by omega), md_nextL h hnn (l1 := []) (p := p) (l2 := []) (by rw [hP]; rfl)]
        exact ⟨true, rfl, by simp [McP, e, c0, hP]⟩
      · match hP : aP T n, hl with
        | [p, q], _ =>
          have hp := hcmP p (by rw [hP]; simp)
          have hq := hcmP q (by rw [hP]; simp)
          rw [show ([p, q] : List Nat).head? = some p from rfl, nx_s, if_pos (inB_nI hp.1 (by decide)), nI_clamp (by omega), md_nextL h hnn (l1 := []) (p := p) (l2 := [q]) (by rw [hP]; rfl), show ([q] : List Nat).head? = some q from rfl, nx_s, if_neg (nI_ne_m1 (by omega))]
          refine ⟨[p, q].any cm, ?_, ?_⟩
          · cases [p, q].any cm <;> rfl
          · rw [List.any_eq_true]; simp [McP, e, c0, hP]
    · rw [e, if_neg (by decide), if_neg (by decide), if_neg (by decide), if_neg (by decide), if_neg (by decide), if_pos rfl]
      by_cases v0 : aV T n = 0
      · exact ⟨true, by rw [if_pos v0]; rfl, by simp [McP, e, c0, v0]⟩
      · by_cases v2 : aV T n = 2
        · exact ⟨true, by rw [if_neg v0, if_pos v2]; rfl, by simp [McP, e, c0, v2]⟩
        · refine ⟨x10, by rw [if_neg v0, if_neg v2]; cases x10 <;> rfl, ?_⟩
          rw [b10]; simp [McP, e, c0, v0, v2]
    · -- DO
      rw [e, if_neg (by decide), if_neg (by decide), if_neg (by decide), if_neg (by decide), if_neg (by decide), if_neg (by decide), if_pos rfl]
      obtain ⟨p, hP⟩ := one (hs.2.2.2.2.2.2.1 (by simp [e]))
      have hp := hcmP p (by rw [hP]; simp)
      rw [hP, show ([p] : List Nat).head? = some p from rfl, nx_s, if_pos (inB_nI hp.1 (by decide)), nI_clamp (by omega), hp.2, b0]
      by_cases v1 : aV T n = 1
      · refine ⟨x10, by rw [if_pos v1]; cases x10 <;> rfl, ?_⟩
        rw [b10]; simp [McP, e, c0, v1]
      · rw [if_neg v1]
        cases hc : cm p
        · refine ⟨x11 || x10, by cases x11 <;> cases x10 <;> rfl, ?_⟩
          rw [Bool.or_eq_true, b10, b11]; simp [McP, e, c0, v1, hP, hc]
        · exact ⟨true, rfl, by simp [McP, e, c0, v1, hP, hc]⟩
    · rw [e, if_neg (by decide), if_neg (by decide), if_neg (by decide), if_neg (by decide), if_neg (by decide), if_neg (by decide), if_neg (by decide), if_pos rfl]
      by_cases v0 : aV T n = 0
      · exact ⟨true, by rw [if_pos v0]; rfl, by simp [McP, e, c0, v0]⟩
      · by_cases v2 : aV T n = 2
        · exact ⟨true, by rw [if_neg v0, if_pos v2]; rfl, by simp [McP, e, c0, v2]⟩
        · refine ⟨x10, by rw [if_neg v0, if_neg v2]; cases x10 <;> rfl, ?_⟩
          rw [b10]; simp [McP, e, c0, v0, v2]
    · exact ⟨true, by rw [e]; rfl, by simp [McP, e, c0]⟩
    · -- LOCK
      rw [e, if_neg (by decide), if_neg (by decide), if_neg (by decide), if_neg (by decide), if_neg (by decide), if_neg (by decide), if_neg (by decide), if_neg (by decide), if_neg (by decide), if_pos rfl]
      obtain ⟨p, hP⟩ := one (hs.2.2.2.2.2.2.1 (by simp [e]))
      have hp := hcmP p (by rw [hP]; simp)
      rw [hP, show ([p] : List Nat).head? = some p from rfl, nx_s, if_pos (inB_nI hp.1 (by decide)), nI_clamp (by omega), hp.2, b0']
      exact ⟨cm p, rfl, by simp [McP, e, c0, hP]⟩
    · exact ⟨false, by rw [e]; rfl, by simp [McP, e]⟩
    · exact ⟨false, by rw [e]; rfl, by simp [McP, e]⟩
    · -- LABEL
      rw [e, if_neg (by decide), if_neg (by decide), if_neg (by decide), if_neg (by decide), if_neg (by decide), if_neg (by decide), if_neg (by decide), if_neg (by decide), if_neg (by decide), if_neg (by decide), if_neg (by decide), if_neg (by decide), if_pos rfl]
      obtain ⟨p, hP⟩ := one (hs.2.2.2.2.2.2.1 (by simp [e]))
      have hp := hcmP p (by rw [hP]; simp)
      rw [hP, show ([p] : List Nat).head? = some p from rfl, nx_s, if_pos (inB_nI hp.1 (by decide)), nI_clamp (by omega), hp.2, b0]
      cases hc : cm p
      · refine ⟨x10, by cases x10 <;> rfl, ?_⟩
        rw [b10]; simp [McP, e, c0, hP, hc]
      · exact ⟨true, rfl, by simp [McP, e, c0, hP, hc]⟩
    · -- BLOCK
      rw [e, if_neg (by decide), if_neg (by decide), if_neg (by decide), if_neg (by decide), if_neg (by decide), if_neg (by decide), if_neg (by decide), if_neg (by decide), if_neg (by decide), if_neg (by decide), if_neg (by decide), if_neg (by decide), if_neg (by decide), if_pos rfl]
      cases hl : (aP T n).getLast? with
      | none => exact ⟨true, by rw [nx_n, if_pos rfl]; rfl, by simp [McP, e, c0, hl]⟩
      | some z =>
        have hz := hcmP z (List.mem_of_getLast? hl)
        rw [nx_s, if_neg (nI_ne_m1 (by omega)), if_pos (inB_nI hz.1 (by decide)), nI_clamp (by omega), hz.2, b0]
        exact ⟨cm z, by cases cm z <;> rfl, by simp [McP, e, c0, hl]⟩
    · -- SWITCH
      rw [e, if_neg (by decide), if_neg (by decide), if_neg (by decide), if_neg (by decide), if_neg (by decide), if_neg (by decide), if_neg (by decide), if_neg (by decide), if_neg (by decide), if_neg (by decide), if_neg (by decide), if_neg (by decide), if_neg (by decide), if_neg (by decide), if_pos rfl, md_whole hb' hN hnn (Or.inl e)]
      simp only [Option.bind_some, b0]
      have hE := (hs.2.2.2.2.2.2.2.2.2.2.2.1 e).2
      cases hdf : dfB T n
      · exact ⟨true, rfl, by simp [McP, e, c0, hdf]⟩
      · cases hl : (aP T n).getLast? with
        | none => exact ⟨true, by rw [nx_n]; rfl, by simp [McP, e, c0, hl]⟩
        | some z =>
          have hz := hcmP z (List.mem_of_getLast? hl)
          rw [nx_s, if_neg (nI_ne_m1 (by omega)), if_pos (inB_nI hz.1 (by decide)), nI_clamp (by omega), hz.2, b0]
          by_cases cE : aE T n = 0
          · rw [if_neg (show ¬ (0 : Int32) < aE T n by rw [cE]; decide)]
            cases hc : cm z
            · refine ⟨x10, by cases x10 <;> rfl, ?_⟩
              rw [b10]; simp [McP, e, c0, hdf, hl, hc, cE]
            · exact ⟨true, rfl, by simp [McP, e, c0, hl, hc]⟩
          · have hpos : (0 : Int32) < aE T n := by
              rcases hE with hh | hh | hh
              · exact absurd hh cE
              · rw [hh]; decide
              · rw [hh]; decide
            rw [if_pos hpos]
            exact ⟨true, rfl, by simp [McP, e, c0, cE]⟩
    · -- RULES
      rw [e, if_neg (by decide), if_neg (by decide), if_neg (by decide), if_neg (by decide), if_neg (by decide), if_neg (by decide), if_neg (by decide), if_neg (by decide), if_neg (by decide), if_neg (by decide), if_neg (by decide), if_neg (by decide), if_neg (by decide), if_neg (by decide), if_neg (by decide), if_pos rfl, md_whole hb' hN hnn (Or.inr e)]
      simp only [Option.bind_some, b0]
      cases hdf : dfB T n
      · exact ⟨true, rfl, by simp [McP, e, c0, hdf]⟩
      · cases hc : (aP T n).any cm
        · refine ⟨x10, by cases x10 <;> rfl, ?_⟩
          have : ¬ ∃ p ∈ aP T n, cm p = true := fun hh => by rw [anyiff.mpr hh] at hc; cases hc
          rw [b10]; simp [McP, e, c0, hdf]
          intro p hp hcp
          exact absurd ⟨p, hp, hcp⟩ this
        · refine ⟨true, rfl, ?_⟩
          have := anyiff.mp hc
          simp [McP, e, c0]
          exact Or.inr (Or.inl this)
    · -- TRY
      rw [e, if_neg (by decide), if_neg (by decide), if_neg (by decide), if_neg (by decide), if_neg (by decide), if_neg (by decide), if_neg (by decide), if_neg (by decide), if_neg (by decide), if_neg (by decide), if_neg (by decide), if_neg (by decide), if_neg (by decide), if_neg (by decide), if_neg (by decide), if_neg (by decide), if_pos rfl]
      obtain ⟨b, cs, hfr, hPt, -, -, hH, -⟩ := try_split hs e
      rw [md_tries hb' hN hd hn hPt hH]
      simp only [Option.bind_some, b0']
      refine ⟨_, rfl, ?_⟩
      rw [Bool.and_eq_true, List.any_eq_true]
      constructor
      · rintro ⟨h1, h2⟩
        refine ⟨c0, ?_⟩
        simp only [e]
        simp
        refine ⟨b, cs, hfr, ?_, ?_⟩
        · simpa using h1
        · intro e2 he2; rw [he2] at h2; exact h2
      · rintro ⟨-, h1⟩
        simp only [e] at h1
        simp at h1
        obtain ⟨b', cs', hfr', h2, h3⟩ := h1
        rw [hfr] at hfr'
        injection hfr' with e1 e2
        subst e1; subst e2
        refine ⟨by simpa using h2, ?_⟩
        cases he : enT T n with
        | none => rfl
        | some e2 => exact h3 e2 he
  · rw [if_neg c0]
    exact ⟨false, rfl, by simp [McP, c0]⟩
end R
