section W
variable {mb : MbS} {mg : MgS} {K : Nat} {ab : Nat → Nat} {B : Nat → Nat → Bool} {T : AT} {rl : List Nat} {r N : Nat} {D : Dt} {mt : Nat → Bool} {mx : MxS}
theorem w_thr (hb : BldM mb mg K ab B T rl r) (hN : 1000 < N) (hS : SlR true K T B (Mg_targets mg) r D mt) {n b : Nat} {cs : List Nat} (hn : n ∈ pre T r) (c2 : aS T n = 16) (hfr : frT T n = b :: cs) (hPt : aP T n = (b :: cs) ++ (enT T n).toList) (hH : (enT T n).isSome = aH T n) (hm : mt n = true) {w : Nat} (hw134 : w < 134) (hpw : pw K T B D b cs w = true) {m : MxS} (hI : WI T r D mt m) : Wst (WI T r D mt) (ThQ T n w) m (f_Md_through N (nI n) (nI w) mb m) := by
  have hb' := hb
  obtain ⟨h, hw, h60, hKI, hMk, hsh, hr, hg, -⟩ := hb
  have h6 := w_60 hb'
  have hnn := pre_lt hw hr hn
  have hs := hS.2.2.2.2.2.2.1
  obtain ⟨t1, t2, t3, -⟩ := sol_tr (hs n hn) c2 b cs hfr
  have hfP : ∀ p ∈ b :: cs, p ∈ aP T n := fun p hp => by rw [hPt]; exact List.mem_append_left _ hp
  rw [f_Md_through.eq_1, if_pos (inB_nI (show n < 60 by omega) (by decide)), nI_clamp (show n < 2 ^ 31 by omega), (h.2.1 n hnn).2.2.2.2.1, b0, ob_id]
  have wyn : eN T D n = true → wy D n w = true := by
    intro he
    rw [try_wy hS hn c2 hfr hw134]
    by_cases c : w = 0
    · subst c; rw [if_pos rfl, hpw, he]; rfl
    · rw [if_neg c, hpw, he]; rfl
  cases hen : enT T n with
  | none =>
    rw [hen] at hH
    rw [if_neg (by rw [← hH]; decide)]
    refine Wst_mono (st_end h6 hI hn hw134 ⟨hm, wyn ?_⟩) (fun hh => ⟨fun _ => hh, fun e he => ?_⟩)
    · unfold eN; rw [hen]
    · rw [hen] at he; cases he
  | some e =>
    rw [hen] at hH
    have hHt : aH T n = true := hH.symm
    rw [if_pos hHt]
    have hlst : Mb_last mb n = nI e := by
      rw [(h.2.1 n hnn).2.2.2.2.2.2.1]
      have : (aP T n).getLast? = some e := by
        unfold enT at hen
        rw [if_pos hHt] at hen
        exact hen
      rw [this]; rfl
    have heP : e ∈ aP T n := by rw [hPt, hen]; simp
    have hep := pre_dn hw r hr n hn e heP
    have hel := hw.1 n hnn e heP
    rw [if_pos (inB_nI (show n < 60 by omega) (by decide)), hlst]
    have hoe : dO D e = true := by
      rw [t3 e hen, (tryE_iff hS hn hfP).mpr ⟨w, hw134, hpw⟩]; rfl
    have hme : mt e = true := by rw [mt_dn hS hn heP, hm, hoe]; rfl
    have loop : ∀ (d v fuel : Nat) (m : MxS), v + d = 134 → 1 ≤ v → WI T r D mt m → d < fuel → Wst (WI T r D mt) (fun m => ∀ u, v ≤ u → u < 134 → enX m e u = true → enX m n u = true) m (lp (f_Md_through_L46 N (nI n) (nI e) mb) fuel (nI v, m)) := by
      intro d
      induction d with
      | zero =>
        intro v fuel m hv h1 hm' hf
        match fuel, hf with
        | fuel + 1, _ =>
          have hun : lp (f_Md_through_L46 N (nI n) (nI e) mb) (fuel + 1) (nI v, m) = _ := f_Md_through_L46.eq_1 N (nI n) (nI e) mb (lp (f_Md_through_L46 N (nI n) (nI e) mb) fuel) (nI v, m)
          rw [if_pos (show (134 : Int32) ≤ nI v by rw [show (134 : Int32) = nI 134 by decide]; exact nI_le (by omega) (by omega))] at hun
          rw [hun]
          exact Wst_pure hm' (fun u a1 a2 => by omega)
      | succ d ih =>
        intro v fuel m hv h1 hm' hf
        match fuel, hf with
        | fuel + 1, hf =>
          have hun : lp (f_Md_through_L46 N (nI n) (nI e) mb) (fuel + 1) (nI v, m) = _ := f_Md_through_L46.eq_1 N (nI n) (nI e) mb (lp (f_Md_through_L46 N (nI n) (nI e) mb) fuel) (nI v, m)
          rw [if_neg (show ¬ (134 : Int32) ≤ nI v by rw [show (134 : Int32) = nI 134 by decide]; exact nI_ge (by omega) (by omega))] at hun
          simp only [st_is h6 hm' hep (show v < 134 by omega), Option.bind_some, b0, nI_1] at hun
          rw [hun]
          have ihm : ∀ m, WI T r D mt m → Wst (WI T r D mt) (fun m => ∀ u, v + 1 ≤ u → u < 134 → enX m e u = true → enX m n u = true) m (lp (f_Md_through_L46 N (nI n) (nI e) mb) fuel (nI (v + 1), m)) := fun m hm2 => ih (v + 1) fuel m (by omega) (by omega) hm2 (by omega)
          by_cases cv : enX m e v = true
          · rw [if_pos cv]
            obtain ⟨z1, z2⟩ := hm'.2.2.1 e hep v (by omega) cv
            refine Wst_mono (Wst_bind (st_end h6 hm' hn (show v < 134 by omega) ⟨hm, ?_⟩) ihm) (fun hh u a1 a2 => ?_)
            · rw [try_wy hS hn c2 hfr (show v < 134 by omega), if_neg (by omega), Bool.or_eq_true]
              right
              unfold eX
              rw [hen]
              show (dO D e && wy D e v) = true
              rw [hoe, z2]; rfl
            · by_cases c : u = v
              · subst c; exact fun _ => hh.1
              · exact hh.2 u (by omega) a2
          · rw [if_neg cv]
            refine Wst_mono (ihm m hm') (fun hh u a1 a2 => ?_)
            by_cases c : u = v
            · subst c; exact fun hx => absurd hx cv
            · exact hh u (by omega) a2
    have after : ∀ m, WI T r D mt m → Wst (WI T r D mt) (fun m => (enX m e 0 = true → enX m n w = true) ∧ ∀ u, 1 ≤ u → u < 134 → enX m e u = true → enX m n u = true) m ((f_Md_isEnded (nI e) (0 : Int32) m).bind fun y31 => (if y31 = 0 then lp (f_Md_through_L46 N (nI n) (nI e) mb) N ((1 : Int32), m) else ((f_Md_endBy (nI n) (nI w) m).bind fun y40 => lp (f_Md_through_L46 N (nI n) (nI e) mb) N ((1 : Int32), y40)))) := by
      intro m hm'
      have i0 : f_Md_isEnded (nI e) (0 : Int32) m = some (bi (enX m e 0)) := st_is h6 hm' hep (show 0 < 134 by omega)
      have lp1 : ∀ m, WI T r D mt m → Wst (WI T r D mt) (fun m => ∀ u, 1 ≤ u → u < 134 → enX m e u = true → enX m n u = true) m (lp (f_Md_through_L46 N (nI n) (nI e) mb) N ((1 : Int32), m)) := fun m hm2 => loop 133 1 N m (by omega) (by omega) hm2 (by omega)
      rw [i0]
      simp only [Option.bind_some, b0]
      by_cases ce : enX m e 0 = true
      · rw [if_pos ce]
        obtain ⟨z1, z2⟩ := hm'.2.2.1 e hep 0 (by omega) ce
        refine Wst_mono (Wst_bind (st_end h6 hm' hn hw134 ⟨hm, wyn ?_⟩) lp1) (fun hh => ⟨fun _ => hh.1, hh.2⟩)
        unfold eN; rw [hen]; exact z2
      · rw [if_neg ce]
        exact Wst_mono (lp1 m hm') (fun hh => ⟨fun hx => absurd hx ce, hh⟩)
    refine Wst_mono (Wst_bind (st_come h6 hI hep hme) after) (fun hh => ⟨fun hx => ?_, fun e2 he2 => ?_⟩)
    · rw [hen] at hx; cases hx
    · rw [hen] at he2
      cases he2
      exact ⟨hh.1, hh.2.1, hh.2.2⟩
theorem w_try (hb : BldM mb mg K ab B T rl r) (hN : 1000 < N) (hS : SlR true K T B (Mg_targets mg) r D mt) {n : Nat} (hn : n ∈ pre T r) (c2 : aS T n = 16) (hm : mt n = true) (hI : WI T r D mt mx) : Wst (WI T r D mt) (GoalN T D n) mx (f_Md_tries N (nI n) mb mx) := by
  have hb' := hb
  obtain ⟨h, hw, h60, hKI, hMk, hsh, hr, hg, -⟩ := hb
  have hK := hKI.2.1
  have h6 := w_60 hb'
  have hnn := pre_lt hw hr hn
  have hs := hS.2.2.2.2.2.2.1
  obtain ⟨b, cs, hfr, hPt, hmk, -, hH, -⟩ := try_split (hsh n hnn) c2
  obtain ⟨t1, t2, t3, -⟩ := sol_tr (hs n hn) c2 b cs hfr
  have hfP : ∀ p ∈ b :: cs, p ∈ aP T n := fun p hp => by rw [hPt]; exact List.mem_append_left _ hp
  have hbP := hfP b List.mem_cons_self
  have hbl := hw.1 n hnn b hbP
  have hbp := pre_dn hw r hr n hn b hbP
  have hmb : mt b = true := by rw [mt_dn hS hn hbP, hm, t1]; rfl
  have hlen : (aP T n).length ≤ 60 := nodup_le (hw.2.1 n hnn) (fun p hp => by have := hw.1 n hnn p hp; omega)
  have hcl : cs.length + 1 ≤ (aP T n).length := by rw [hPt]; simp
  have hfst : Mb_first mb n = nI b := by rw [(h.2.1 n hnn).2.2.2.2.2.1, hPt]; rfl
  have hnb : Mb_next mb b = nx (cs ++ (enT T n).toList).head? := md_nextL h hnn (l1 := []) (p := b) (l2 := cs ++ (enT T n).toList) (by rw [hPt]; rfl)
  -- a catch is none of the ends of the loops
  have hce : ∀ l1 c l2, cs = l1 ++ c :: l2 → c < 60 ∧ c ∈ pre T r ∧ c ∈ aP T n ∧ nI c ≠ nx (enT T n) ∧ Mb_next mb c = nx (l2 ++ (enT T n).toList).head? ∧ Mb_mark mb c = nI (mkN T c) ∧ mkN T c < K := by
    intro l1 c l2 e
    have hcs : c ∈ cs := by rw [e]; simp
    have hcP := hfP c (List.mem_cons_of_mem _ hcs)
    have hcl := hw.1 n hnn c hcP
    obtain ⟨kd, hkd, hmc⟩ := hmk c hcs
    have hmkc : mkN T c = kd := by unfold mkN; rw [hmc, nI_clamp (by omega)]
    refine ⟨by omega, pre_dn hw r hr n hn c hcP, hcP, ?_, md_nextL h hnn (l1 := b :: l1) (p := c) (l2 := l2 ++ (enT T n).toList) (by rw [hPt, e]; simp), by rw [(h.2.1 c (by omega)).2.2.1, hmc, hmkc], by omega⟩
    cases he : enT T n with
    | none => exact nI_ne_m1 (by omega)
    | some e2 =>
      have he2P : e2 ∈ aP T n := by rw [hPt, he]; simp
      have := hw.1 n hnn e2 he2P
      intro hh
      have := (nI_eq (by omega) (by omega)).mp hh
      exact try_ne hw hnn hPt he c (List.mem_cons_of_mem _ hcs) this
  have hlastE : nx (([] : List Nat) ++ (enT T n).toList).head? = nx (enT T n) := by cases enT T n <;> rfl
  have pwC : ∀ c ∈ cs, ∀ w, w < 134 → mt c = true → wy D c w = true → pw K T B D b cs w = true := by
    intro c hc w hw2 h1 h2
    have ho := (mt_dO hS hn (hfP c (List.mem_cons_of_mem _ hc)) h1).2
    unfold pw
    by_cases c122 : w < 122
    · rw [if_pos c122]
      exact anO_iff.mpr ⟨c, List.mem_cons_of_mem _ hc, ho, h2⟩
    · rw [if_neg c122]
      unfold pTh
      rw [Bool.or_eq_true]
      left
      refine anO_iff.mpr ⟨c, hc, ho, ?_⟩
      rw [← wy_122 (D := D), show 122 + (w - 122) = w by omega]; exact h2
  have pwB : ∀ w, w < 134 → wy D b w = true → (∀ c ∈ cs, mtc T B w c = false) → pw K T B D b cs w = true := by
    intro w hw2 h2 hno
    unfold pw
    by_cases c122 : w < 122
    · rw [if_pos c122]
      exact anO_iff.mpr ⟨b, List.mem_cons_self, t1, h2⟩
    · rw [if_neg c122]
      have h3 : dT D b (w - 122) = true := by
        rw [← wy_122 (D := D), show 122 + (w - 122) = w by omega]; exact h2
      unfold pTh
      rw [Bool.or_eq_true, Bool.and_eq_true]
      right
      refine ⟨h3, ?_⟩
      have : cgt K T B cs (w - 122) = false := by
        unfold cgt
        rw [List.any_eq_false]
        intro c hc
        have h4 := hno c hc
        unfold mtc at h4
        have h5 : (122 ≤ w) := by omega
        simp [h5] at h4
        simp [h4]
      rw [this]; rfl
  -- the loop over the CATCHES
  have l135 : ∀ (w : Nat), w < 134 → ∀ (k35 : Int32 × MxS → Option MxS) (Q' : MxS → Prop), (∀ m, WI T r D mt m → Wst (WI T r D mt) Q' m (k35 (nI (w + 1), m))) → ∀ (s2 s1 : List Nat) (fuel : Nat) (m : MxS), cs = s1 ++ s2 → WI T r D mt m → s2.length < fuel → Wst (WI T r D mt) (fun m => (∀ c ∈ s2, enX m c w = true → ThQ T n w m) ∧ Q' m) m (lp (f_Md_tries_L135 N k35 (nI n) (nI b) (nx (enT T n)) (nI w) mb) fuel (nx (s2 ++ (enT T n).toList).head?, m)) := by
    intro w hw2 k35 Q' hk s2
    induction s2 with
    | nil =>
      intro s1 fuel m hsp hm' hf
      match fuel, hf with
      | fuel + 1, _ =>
        have hun : lp (f_Md_tries_L135 N k35 (nI n) (nI b) (nx (enT T n)) (nI w) mb) (fuel + 1) (nx (enT T n), m) = k35 (nI (w + 1), m) := by
          show f_Md_tries_L135 N k35 _ _ _ _ mb _ _ = _
          rw [f_Md_tries_L135.eq_1]
          show (if nx (enT T n) = nx (enT T n) then k35 (nI w + 1, m) else _) = _
          rw [if_pos rfl, nI_1]
        rw [hlastE, hun]
        exact Wst_mono (hk m hm') (fun hh => ⟨fun c hc => by simp at hc, hh⟩)
    | cons c s2 ih =>
      intro s1 fuel m hsp hm' hf
      obtain ⟨x1, x2, x3, x4, x5, x6, x7⟩ := hce s1 c s2 hsp
      match fuel, hf with
      | fuel + 1, hf =>
        have hun : lp (f_Md_tries_L135 N k35 (nI n) (nI b) (nx (enT T n)) (nI w) mb) (fuel + 1) (nI c, m) = _ := f_Md_tries_L135.eq_1 N k35 (nI n) (nI b) (nx (enT T n)) (nI w) mb (lp (f_Md_tries_L135 N k35 (nI n) (nI b) (nx (enT T n)) (nI w) mb) fuel) (nI c, m)
        simp only [if_neg x4, st_is h6 hm' x2 hw2, Option.bind_some, b0, f_Md_tries_b159.eq_1, if_pos (inB_nI x1 (show (60 : Nat) < 2 ^ 31 by decide)), nI_clamp (show c < 2 ^ 31 by omega), x5] at hun
        show Wst _ _ m (lp (f_Md_tries_L135 N k35 (nI n) (nI b) (nx (enT T n)) (nI w) mb) (fuel + 1) (nI c, m))
        rw [hun]
        have ihm : ∀ m, WI T r D mt m → Wst (WI T r D mt) (fun m => (∀ c ∈ s2, enX m c w = true → ThQ T n w m) ∧ Q' m) m (lp (f_Md_tries_L135 N k35 (nI n) (nI b) (nx (enT T n)) (nI w) mb) fuel (nx (s2 ++ (enT T n).toList).head?, m)) := fun m hm2 => ih (s1 ++ [c]) fuel m (by rw [hsp]; simp) hm2 (by simpa using hf)
        by_cases ce : enX m c w = true
        · rw [if_pos ce]
          obtain ⟨z1, z2⟩ := hm'.2.2.1 c x2 w hw2 ce
          refine Wst_mono (Wst_bind (w_thr hb' hN hS hn c2 hfr hPt hH hm hw2 (pwC c (by rw [hsp]; simp) w hw2 z1 z2) hm') ihm) (fun hh => ⟨fun d hd => ?_, hh.2.2⟩)
          intro _
          exact hh.1
        · rw [if_neg ce]
          refine Wst_mono (ihm m hm') (fun hh => ⟨fun d hd hx => ?_, hh.2⟩)
          rcases List.mem_cons.mp hd with rfl | hd
          · exact absurd hx ce
          · exact hh.1 d hd hx
  -- what a way of the BODY becomes
  have l61 : ∀ (w : Nat), w < 134 → ∀ (k35 : Int32 × MxS → Option MxS) (Q' : MxS → Prop), (∀ m, WI T r D mt m → Wst (WI T r D mt) Q' m (f_Md_tries_b127 N k35 (nI n) (nI b) (nx (enT T n)) (nI w) mb m)) → ∀ (s2 s1 : List Nat) (fuel : Nat) (m : MxS), cs = s1 ++ s2 → (∀ d ∈ s1, mtc T B w d = false) → WI T r D mt m → enX m b w = true → s2.length < fuel → Wst (WI T r D mt) (fun m => ((∀ u1 c u2, s2 = u1 ++ c :: u2 → mtc T B w c = true → (∀ d ∈ u1, mtc T B w d = false) → coX m c = true) ∧ ((∀ c ∈ s2, mtc T B w c = false) → ThQ T n w m)) ∧ Q' m) m (lp (f_Md_tries_L61 N k35 (nI n) (nI b) (nx (enT T n)) (nI w) mb) fuel (nx (s2 ++ (enT T n).toList).head?, m)) := by
    intro w hw2 k35 Q' hk s2
    induction s2 with
    | nil =>
      intro s1 fuel m hsp hno hm' hx hf
      rw [List.append_nil] at hsp
      match fuel, hf with
      | fuel + 1, _ =>
        have hun : lp (f_Md_tries_L61 N k35 (nI n) (nI b) (nx (enT T n)) (nI w) mb) (fuel + 1) (nx (enT T n), m) = ((f_Md_through N (nI n) (nI w) mb m).bind fun y124 => f_Md_tries_b127 N k35 (nI n) (nI b) (nx (enT T n)) (nI w) mb y124) := by
          show f_Md_tries_L61 N k35 _ _ _ _ mb _ _ = _
          rw [f_Md_tries_L61.eq_1]
          show (if nx (enT T n) = nx (enT T n) then f_Md_tries_b105 N k35 (nI n) (nI b) (nx (enT T n)) (nI w) (nx (enT T n)) mb m else _) = _
          rw [if_pos rfl, f_Md_tries_b105.eq_1, if_pos rfl]
        rw [hlastE, hun]
        obtain ⟨z1, z2⟩ := hm'.2.2.1 b hbp w hw2 hx
        refine Wst_mono (Wst_bind (w_thr hb' hN hS hn c2 hfr hPt hH hm hw2 (pwB w hw2 z2 (fun c hc => hno c (by rw [← hsp]; exact hc))) hm') hk) (fun hh => ⟨⟨fun u1 c u2 e => by simp at e, fun _ => hh.1⟩, hh.2⟩)
    | cons c s2 ih =>
      intro s1 fuel m hsp hno hm' hx hf
      obtain ⟨x1, x2, x3, x4, x5, x6, x7⟩ := hce s1 c s2 hsp
      obtain ⟨z1, z2⟩ := hm'.2.2.1 b hbp w hw2 hx
      match fuel, hf with
      | fuel + 1, hf =>
        have hun : lp (f_Md_tries_L61 N k35 (nI n) (nI b) (nx (enT T n)) (nI w) mb) (fuel + 1) (nI c, m) = (if mtc T B w c = true then f_Md_tries_b105 N k35 (nI n) (nI b) (nx (enT T n)) (nI w) (nI c) mb m else lp (f_Md_tries_L61 N k35 (nI n) (nI b) (nx (enT T n)) (nI w) mb) fuel (nx (s2 ++ (enT T n).toList).head?, m)) := by
          show f_Md_tries_L61 N k35 _ _ _ _ mb _ _ = _
          rw [f_Md_tries_L61.eq_1]
          show (if nI c = nx (enT T n) then _ else (if nI w < (122 : Int32) then f_Md_tries_b93 N k35 (lp (f_Md_tries_L61 N k35 (nI n) (nI b) (nx (enT T n)) (nI w) mb) fuel) (nI n) (nI b) (nx (enT T n)) (nI w) (nI c) mb m else (if inB (nI c) 60 = true then ((f_Md_isBelow N (nI w - (122 : Int32)) (Mb_mark mb (nI c).toNatClampNeg) mb).bind fun y87 => (if y87 = 0 then f_Md_tries_b93 N k35 (lp (f_Md_tries_L61 N k35 (nI n) (nI b) (nx (enT T n)) (nI w) mb) fuel) (nI n) (nI b) (nx (enT T n)) (nI w) (nI c) mb m else f_Md_tries_b105 N k35 (nI n) (nI b) (nx (enT T n)) (nI w) (nI c) mb m)) else none))) = _
          have e93 : f_Md_tries_b93 N k35 (lp (f_Md_tries_L61 N k35 (nI n) (nI b) (nx (enT T n)) (nI w) mb) fuel) (nI n) (nI b) (nx (enT T n)) (nI w) (nI c) mb m = lp (f_Md_tries_L61 N k35 (nI n) (nI b) (nx (enT T n)) (nI w) mb) fuel (nx (s2 ++ (enT T n).toList).head?, m) := by
            rw [f_Md_tries_b93.eq_1, if_pos (inB_nI x1 (by decide)), nI_clamp (by omega), x5]
          rw [if_neg x4, e93]
          by_cases c122 : w < 122
          · have h22 : nI w < nI 122 := nI_lt c122 (by decide)
            rw [if_pos (show nI w < 122 from h22), if_neg]
            unfold mtc
            have : ¬ 122 ≤ w := by omega
            simp [this]
          · have h22 : ¬ nI w < nI 122 := nI_nlt (by omega) (by omega)
            have hkK : w - 122 < K := by
              refine dT_lt hS b hbp (w - 122) (by omega) ?_
              rw [← wy_122 (D := D), show 122 + (w - 122) = w by omega]; exact z2
            rw [if_neg (show ¬ nI w < 122 from h22), if_pos (inB_nI x1 (by decide)), nI_clamp (show c < 2 ^ 31 by omega), x6, show (122 : Int32) = nI 122 by decide, pk_sub (by omega), md_isBelow hKI hMk (by omega) hkK x7]
            simp only [Option.bind_some, b0]
            unfold mtc
            have : 122 ≤ w := by omega
            simp [this]
        show Wst _ _ m (lp (f_Md_tries_L61 N k35 (nI n) (nI b) (nx (enT T n)) (nI w) mb) (fuel + 1) (nI c, m))
        rw [hun]
        by_cases cm : mtc T B w c = true
        · rw [if_pos cm, f_Md_tries_b105.eq_1, if_neg x4]
          have hmc : mt c = true := by
            rw [mt_dn hS hn x3, hm, Bool.true_and, t2 s1 c s2 hsp]
            show (List.range 32).any (fun k => dT D b k && !cgt K T B s1 k && (decide (k < K) && B k (mkN T c))) = true
            have c122 : 122 ≤ w ∧ B (w - 122) (mkN T c) = true := by unfold mtc at cm; simpa using cm
            have h3 : dT D b (w - 122) = true := by
              rw [← wy_122 (D := D), show 122 + (w - 122) = w by omega]; exact z2
            have hkK := dT_lt hS b hbp (w - 122) (by omega) h3
            rw [List.any_eq_true]
            refine ⟨w - 122, List.mem_range.mpr (by omega), ?_⟩
            have : cgt K T B s1 (w - 122) = false := by
              unfold cgt
              rw [List.any_eq_false]
              intro d hd
              have h4 := hno d hd
              unfold mtc at h4
              simp [c122.1] at h4
              simp [h4]
            rw [h3, this, c122.2]; simp [hkK]
          refine Wst_mono (Wst_bind (st_come h6 hm' x2 hmc) hk) (fun hh => ⟨⟨fun u1 d u2 e hd1 hd2 => ?_, fun hall => ?_⟩, hh.2⟩)
          · cases u1 with
            | nil =>
              simp only [List.nil_append] at e
              injection e with e1 e2
              subst e1; exact hh.1
            | cons z u1 =>
              simp only [List.cons_append] at e
              injection e with e1 e2
              subst e1
              have := hd2 c List.mem_cons_self
              rw [cm] at this; cases this
          · have := hall c List.mem_cons_self
            rw [cm] at this; cases this
        · rw [if_neg cm]
          have cm : mtc T B w c = false := by simpa using cm
          refine Wst_mono (ih (s1 ++ [c]) fuel m (by rw [hsp]; simp) (fun d hd => by
            rcases List.mem_append.mp hd with hd | hd
            · exact hno d hd
            · have : d = c := by simpa using hd
              rw [this]; exact cm) hm' hx (by simpa using hf)) (fun hh => ⟨⟨fun u1 d u2 e hd1 hd2 => ?_, fun hall => hh.1.2 (fun d hd => hall d (List.mem_cons_of_mem _ hd))⟩, hh.2⟩)
          cases u1 with
          | nil =>
            simp only [List.nil_append] at e
            injection e with e1 e2
            subst e1
            rw [cm] at hd1; cases hd1
          | cons z u1 =>
            simp only [List.cons_append] at e
            injection e with e1 e2
            exact hh.1.1 u1 d u2 e2 hd1 (fun y hy => hd2 y (List.mem_cons_of_mem _ hy))
  -- all ways
  have l35 : ∀ (d w fuel : Nat) (m : MxS), w + d = 134 → WI T r D mt m → d < fuel → Wst (WI T r D mt) (fun m => (∀ u, w ≤ u → u < 134 → enX m b u = true → (∀ l1 c l2, cs = l1 ++ c :: l2 → mtc T B u c = true → (∀ d ∈ l1, mtc T B u d = false) → coX m c = true) ∧ ((∀ c ∈ cs, mtc T B u c = false) → ThQ T n u m)) ∧ ∀ u, w ≤ u → u < 134 → ∀ c ∈ cs, enX m c u = true → ThQ T n u m) m (lp (f_Md_tries_L35 N (nI n) (nI b) (nx (enT T n)) mb) fuel (nI w, m)) := by
    intro d
    induction d with
    | zero =>
      intro w fuel m hw2 hm' hf
      match fuel, hf with
      | fuel + 1, _ =>
        have hun : lp (f_Md_tries_L35 N (nI n) (nI b) (nx (enT T n)) mb) (fuel + 1) (nI w, m) = _ := f_Md_tries_L35.eq_1 N (nI n) (nI b) (nx (enT T n)) mb (lp (f_Md_tries_L35 N (nI n) (nI b) (nx (enT T n)) mb) fuel) (nI w, m)
        rw [if_pos (show (134 : Int32) ≤ nI w by rw [show (134 : Int32) = nI 134 by decide]; exact nI_le (by omega) (by omega))] at hun
        rw [hun]
        exact Wst_pure hm' ⟨fun u a1 a2 => by omega, fun u a1 a2 => by omega⟩
    | succ d ih =>
      intro w fuel m hw2 hm' hf
      match fuel, hf with
      | fuel + 1, hf =>
        have hun : lp (f_Md_tries_L35 N (nI n) (nI b) (nx (enT T n)) mb) (fuel + 1) (nI w, m) = _ := f_Md_tries_L35.eq_1 N (nI n) (nI b) (nx (enT T n)) mb (lp (f_Md_tries_L35 N (nI n) (nI b) (nx (enT T n)) mb) fuel) (nI w, m)
        rw [if_neg (show ¬ (134 : Int32) ≤ nI w by rw [show (134 : Int32) = nI 134 by decide]; exact nI_ge (by omega) (by omega))] at hun
        simp only [if_pos (inB_nI (show b < 60 by omega) (show (60 : Nat) < 2 ^ 31 by decide)), nI_clamp (show b < 2 ^ 31 by omega), st_is h6 hm' hbp (show w < 134 by omega), hnb, Option.bind_some, b0] at hun
        rw [hun]
        have ihm : ∀ m, WI T r D mt m → Wst (WI T r D mt) _ m (lp (f_Md_tries_L35 N (nI n) (nI b) (nx (enT T n)) mb) fuel (nI (w + 1), m)) := fun m hm2 => ih (w + 1) fuel m (by omega) hm2 (by omega)
        have s127 : ∀ m, WI T r D mt m → Wst (WI T r D mt) _ m (f_Md_tries_b127 N (lp (f_Md_tries_L35 N (nI n) (nI b) (nx (enT T n)) mb) fuel) (nI n) (nI b) (nx (enT T n)) (nI w) mb m) := fun m hm2 => by
          rw [f_Md_tries_b127.eq_1, if_pos (inB_nI (show b < 60 by omega) (by decide)), nI_clamp (show b < 2 ^ 31 by omega), hnb]
          exact l135 w (by omega) _ _ ihm cs [] N m rfl hm2 (by omega)
        by_cases cx : enX m b w = true
        · rw [if_pos cx]
          refine Wst_mono (l61 w (by omega) _ _ s127 cs [] N m rfl (by simp) hm' cx (by omega)) (fun hh => ⟨fun u a1 a2 a3 => ?_, fun u a1 a2 => ?_⟩)
          · by_cases c : u = w
            · subst c; exact hh.1
            · exact hh.2.2.1 u (by omega) a2 a3
          · by_cases c : u = w
            · subst c; exact hh.2.1
            · exact hh.2.2.2 u (by omega) a2
        · rw [if_neg cx]
          refine Wst_mono (s127 m hm') (fun hh => ⟨fun u a1 a2 a3 => ?_, fun u a1 a2 => ?_⟩)
          · by_cases c : u = w
            · subst c; exact absurd a3 cx
            · exact hh.2.1 u (by omega) a2 a3
          · by_cases c : u = w
            · subst c; exact hh.1
            · exact hh.2.2 u (by omega) a2
  have s26 : Wst (WI T r D mt) (GoalN T D n) mx (f_Md_tries_b26 N (nx (enT T n)) (nI n) (nI b) mb mx) := by
    rw [f_Md_tries_b26.eq_1]
    refine Wst_mono (Wst_bind (st_come h6 hI hbp hmb) (fun m hm2 => l35 134 0 N m (by omega) hm2 (by omega))) (fun hh => ?_)
    exact clt_goal hS hn c2 hfr hPt ⟨hh.1, fun w hw2 hx => hh.2.1 w (by omega) hw2 hx, fun w hw2 c hc hx => hh.2.2 w (by omega) hw2 c hc hx⟩
  rw [f_Md_tries.eq_1, if_pos (inB_nI (show n < 60 by omega) (by decide)), if_pos (inB_nI (show n < 60 by omega) (by decide)), if_pos (inB_nI (show n < 60 by omega) (by decide)), nI_clamp (show n < 2 ^ 31 by omega), (h.2.1 n hnn).2.2.2.2.1, b0, hfst]
  by_cases cH : aH T n = true
  · rw [if_pos cH]
    have : Mb_last mb n = nx (enT T n) := by
      rw [(h.2.1 n hnn).2.2.2.2.2.2.1]
      unfold enT
      rw [if_pos cH]
    rw [this]; exact s26
  · rw [if_neg cH]
    have : enT T n = none := by unfold enT; rw [if_neg cH]
    rw [this] at s26
    exact s26
end W
