/-! the class's settle: a TRY -/
theorem try_split {T : AT} {K x : Nat} (hs : shp T K x) (h16 : aS T x = 16) : ∃ b cs, frT T x = b :: cs ∧ aP T x = (b :: cs) ++ (enT T x).toList ∧ (∀ c ∈ cs, ∃ k, k < K ∧ aM T c = nI k) ∧ aM T b = -1 ∧ (enT T x).isSome = aH T x ∧ ∀ e, enT T x = some e → aM T e = -1 := by
  obtain ⟨h1, h2⟩ := hs.2.2.2.2.2.2.2.2.2.2.2.2.2.1 h16
  unfold frT enT
  by_cases c : aH T x = true
  · rw [if_pos c, if_pos c]
    have hne : aP T x ≠ [] := fun e => by rw [e] at h1; simp at h1
    have hsp : aP T x = (aP T x).dropLast ++ [(aP T x).getLast hne] := (List.dropLast_concat_getLast hne).symm
    have hgl : (aP T x).getLast? = some ((aP T x).getLast hne) := List.getLast?_eq_getLast hne
    have hld : (aP T x).dropLast.length = (aP T x).length - 1 := List.length_dropLast
    cases hd : (aP T x).dropLast with
    | nil => rw [hd] at hld; simp at hld; omega
    | cons b cs =>
      rw [hd] at hsp hld
      have hld : cs.length + 1 = (aP T x).length - 1 := by simpa using hld
      refine ⟨b, cs, rfl, by rw [hgl]; exact hsp, ?_, ?_, by rw [hgl, c]; rfl, ?_⟩
      · intro d hd2
        obtain ⟨i, hi⟩ := List.getElem?_of_mem hd2
        have hil := (List.getElem?_eq_some_iff.mp hi).1
        have := h2 (i + 1) d (by rw [hsp, List.getElem?_append_left (by simp; omega)]; simpa using hi)
        rw [if_neg (by intro hh; rcases hh with hh | hh; omega; have := hh.2; omega)] at this
        exact this
      · have := h2 0 b (by rw [hsp]; rfl)
        rw [if_pos (Or.inl rfl)] at this; exact this
      · intro e he
        rw [hgl] at he
        cases he
        have := h2 ((aP T x).length - 1) ((aP T x).getLast hne) (by rw [← List.getLast?_eq_getElem?]; exact hgl)
        rw [if_pos (Or.inr ⟨c, by omega⟩)] at this; exact this
  · rw [if_neg c, if_neg c]
    cases hd : aP T x with
    | nil => rw [hd] at h1; simp at h1
    | cons b cs =>
      refine ⟨b, cs, rfl, by simp, ?_, ?_, by simpa using c, fun e he => by cases he⟩
      · intro d hd2
        obtain ⟨i, hi⟩ := List.getElem?_of_mem hd2
        have := h2 (i + 1) d (by rw [hd]; simpa using hi)
        rw [if_neg (by intro hh; rcases hh with hh | hh; omega; exact c hh.1)] at this
        exact this
      · have := h2 0 b (by rw [hd]; rfl)
        rw [if_pos (Or.inl rfl)] at this; exact this
theorem i_0 {x : Int32} : x = 0 ↔ ∀ i, i < 32 → bt x i = false := by
  constructor
  · intro h i _; rw [h, b_0]
  · intro h; exact b_ext (fun i hi => by rw [h i hi, b_0])
theorem bt12 : ∀ i, i < 32 → bt 12 i = (decide (i = 2) || decide (i = 3)) := by decide +kernel
theorem any32 {x : Int32} {f : Nat → Bool} (h : ∀ i, i < 32 → bt x i = f i) : (x = 0 ↔ (List.range 32).any f = false) := by
  rw [i_0, List.any_eq_false]
  constructor
  · intro hh i hi; have := List.mem_range.mp hi; rw [← h i this, hh i this]; decide
  · intro hh i hi; rw [h i hi]; simpa using hh i (List.mem_range.mpr hi)
theorem fl_oC {kn : KnS} {K : Nat} {B : Nat → Nat → Bool} (hk : KnR kn K B) (hK : K ≤ 12) {T : AT} {c kd : Nat} (hm : aM T c = nI kd) (hkd : kd < K) {th cg : Int32} {l1 : List Nat} (hcg : ∀ k, k < 32 → bt cg k = cgt K T B l1 k) (v : Bool) : (bif v then f_Bw_opensCatch (nI kd) th cg kn else f_Br_opensCatch (nI kd) th cg kn) = some (bi (oC v K T B (bt th) l1 c)) := by
  have hmk : mkN T c = kd := by unfold mkN; rw [hm, nI_clamp (by omega)]
  unfold oC
  rw [hmk]
  cases v
  · show f_Br_opensCatch (nI kd) th cg kn = some (bi (!cgt K T B l1 kd && (nnt B kd || (List.range 32).any (fun k => bt th k && ((decide (k < K) && B k kd) || B kd k)))))
    have e1 : f_Kn_needsNoThrower (nI kd) kn = some (bi (nnt B kd)) := by
      rw [f_Kn_needsNoThrower.eq_1]
      unfold nnt
      by_cases c1 : kd ≤ 1
      · rw [if_pos ((nI_le1 (by omega)).mpr c1)]; simp [c1, bi]
      · rw [if_neg (fun hh => c1 ((nI_le1 (by omega)).mp hh)), if_pos (inB_nI (by omega) (by decide)), nI_clamp (by omega)]
        have hz := any32 (x := Kn_over kn kd &&& 12) (f := fun i => B kd i && (decide (i = 2) || decide (i = 3))) (fun i hi => by rw [b_and, hk.2.1 kd i hkd hi, bt12 i hi])
        by_cases c2 : (B kd 2 || B kd 3) = true
        · rw [if_neg]
          · simp [c1] at c2 ⊢; rw [show (B kd 2 || B kd 3) = true by simpa using c2]; rfl
          · intro hh
            have := hz.mp hh
            rw [List.any_eq_false] at this
            rw [Bool.or_eq_true] at c2
            rcases c2 with c2 | c2
            · have := this 2 (by simp); simp [c2] at this
            · have := this 3 (by simp); simp [c2] at this
        · have c2' : (B kd 2 || B kd 3) = false := by simpa using c2
          rw [Bool.or_eq_false_iff] at c2'
          rw [if_pos]
          · simp [c1, c2'.1, c2'.2, bi]
          · rw [hz, List.any_eq_false]
            intro i _
            by_cases i2 : i = 2
            · subst i2; simp [c2'.1]
            · by_cases i3 : i = 3
              · subst i3; simp [c2'.2]
              · simp [i2, i3]
    rw [f_Br_opensCatch.eq_1, if_pos (inB_nI (by omega) (by decide)), if_pos (inB_nI (by omega) (by decide)), isIn_eq _ (by omega), lb_int _ (by omega), hcg kd (by omega), e1, nI_clamp (by omega)]
    simp only [Option.bind_some, b0]
    have hz := any32 (x := th &&& (Kn_below kn kd ||| Kn_over kn kd)) (f := fun k => bt th k && ((decide (k < K) && B k kd) || B kd k)) (fun i hi => by rw [b_and, b_or, hk.2.1 kd i hkd hi, hk.2.2 kd i hkd hi])
    cases cgt K T B l1 kd
    · cases nnt B kd
      · by_cases c3 : (List.range 32).any (fun k => bt th k && ((decide (k < K) && B k kd) || B kd k)) = true
        · rw [if_neg (by decide), if_neg (by decide), if_neg (fun hh => by rw [hz.mp hh] at c3; cases c3), c3]; rfl
        · have c3 : (List.range 32).any (fun k => bt th k && ((decide (k < K) && B k kd) || B kd k)) = false := by simpa using c3
          rw [if_neg (by decide), if_neg (by decide), if_pos (hz.mpr c3), c3]; rfl
      · rfl
    · rfl
  · show f_Bw_opensCatch (nI kd) th cg kn = some (bi ((List.range 32).any (fun k => bt th k && !cgt K T B l1 k && (decide (k < K) && B k kd))))
    rw [f_Bw_opensCatch.eq_1, if_pos (inB_nI (by omega) (by decide)), nI_clamp (by omega)]
    have hz := any32 (x := (th &&& (cg ^^^ (-1))) &&& Kn_below kn kd) (f := fun k => bt th k && !cgt K T B l1 k && (decide (k < K) && B k kd)) (fun i hi => by rw [b_and, b_and, b_not hi, hcg i hi, hk.2.2 kd i hkd hi])
    by_cases c3 : (List.range 32).any (fun k => bt th k && !cgt K T B l1 k && (decide (k < K) && B k kd)) = true
    · rw [if_neg (fun hh => by rw [hz.mp hh] at c3; cases c3), c3]; rfl
    · have c3 : (List.range 32).any (fun k => bt th k && !cgt K T B l1 k && (decide (k < K) && B k kd)) = false := by simpa using c3
      rw [if_pos (hz.mpr c3), c3]; rfl
def flH (fl : FlS) (x b : Nat) (cg : Int32) : FlS := (Fl_open fl, Fl_met fl, Fl_normal fl, Fl_returning fl, Fl_breaks fl, Fl_continues fl, upd (Fl_thrown fl) x (Fl_thrown fl x ||| (Fl_thrown fl b &&& (cg ^^^ (-1)))))
def flN (fl : FlS) (x : Nat) : FlS := (Fl_open fl, Fl_met fl, Fl_normal fl ||| lbit x, Fl_returning fl, Fl_breaks fl, Fl_continues fl, Fl_thrown fl)
def flZ (fl : FlS) (x : Nat) : FlS := (Fl_open fl, Fl_met fl, Fl_normal fl, Fl_returning fl, Fl_breaks fl, Fl_continues fl, upd (Fl_thrown fl) x 0)
def trEnd (v : Bool) (N x b : Nat) (cg : Int32) (fl : FlS) (tr : TrS) (kn : KnS) : Option FlS := (f_Fl_somePartGoesOn (nI x) (flH fl x b cg) tr).bind fun y => (if y = 0 then f_Fl_settleTry_b146 v N (nI x) (flH fl x b cg) tr kn else f_Fl_settleTry_b146 v N (nI x) (flN (flH fl x b cg) x) tr kn)
theorem tr_catchCount {tr : TrS} {T : AT} {ks : List Nat} {fs : Nat → Nat} {rl : List Nat} (h : TrR tr T ks fs rl) (hw : WT T) {x b : Nat} {cs : List Nat} (hx : x < aN T) (h16 : aS T x = 16) (htl : tlR T x (Tr_tail tr x)) (hP : aP T x = (b :: cs) ++ (enT T x).toList) : f_Tr_catchCount (nI x) tr = some (nI cs.length) ∧ Tr_tail tr x = nx (enT T x) := by
  have hn := h.2.1
  have hlen : (aP T x).length ≤ 60 := nodup_le (hw.2.1 x hx) (fun p hp => by have := hw.1 x hx p hp; omega)
  have ht : Tr_tail tr x = nx (enT T x) := by
    rw [htl.2 h16]
    unfold enT
    by_cases c : aH T x = true
    · rw [if_pos c, if_pos c]
    · rw [if_neg c, if_neg c]; rfl
  refine ⟨?_, ht⟩
  rw [f_Tr_catchCount.eq_1, if_pos (inB_nI (by omega) (by decide)), if_pos (inB_nI (by omega) (by decide)), if_pos (inB_nI (by omega) (by decide)), nI_clamp (by omega), ht, (h.2.2.2.1 x hx).2.2.2.2.1]
  cases he : enT T x with
  | none =>
    have hl : (aP T x).length = cs.length + 1 := by rw [hP, he]; simp
    rw [nx_n, if_pos rfl, hl, show (1 : Int32) = nI 1 by decide, pk_sub (by omega)]; rfl
  | some e =>
    have hl : (aP T x).length = cs.length + 2 := by rw [hP, he]; simp
    have hex := hw.1 x hx e (by rw [hP, he]; simp)
    rw [nx_s, if_neg (nI_ne_m1 (by omega)), hl, show (2 : Int32) = nI 2 by decide, pk_sub (by omega)]; rfl
theorem cgt_snoc {K : Nat} {T : AT} {B : Nat → Nat → Bool} {l : List Nat} {c k : Nat} : cgt K T B (l ++ [c]) k = (cgt K T B l k || (decide (k < K) && B k (mkN T c))) := by
  unfold cgt; rw [List.any_append]; simp
theorem fl_catches {tr : TrS} {T : AT} {ks : List Nat} {fs : Nat → Nat} {rl : List Nat} (h : TrR tr T ks fs rl) (hw : WT T) {kn : KnS} {K : Nat} {B : Nat → Nat → Bool} (hk : KnR kn K B) (hK : K ≤ 12) {N x b : Nat} {cs : List Nat} (hx : x < aN T) (h16 : aS T x = 16) (htl : tlR T x (Tr_tail tr x)) (hP : aP T x = (b :: cs) ++ (enT T x).toList) (hmk : ∀ c ∈ cs, ∃ k, k < K ∧ aM T c = nI k) {v : Bool} : ∀ (s l : List Nat) (fl : FlS) (cg : Int32) (fuel : Nat), cs = l ++ s → (∀ k, k < 32 → bt cg k = cgt K T B l k) → AccD (flD fl) x (b :: l) l → dO (flD fl) b = true → (∀ l1 c l2, l = l1 ++ c :: l2 → dO (flD fl) c = oC v K T B (dT (flD fl) b) l1 c) → (∀ p ∈ s, dO (flD fl) p = false) → dN (flD fl) x = false → s.length < fuel →
    ∃ cg' fl', lp (f_Fl_settleTry_L28 v N (nI x) (nI b) tr kn) fuel (cg, nI (1 + l.length), fl) = trEnd v N x b cg' fl' tr kn ∧ (∀ k, k < 32 → bt cg' k = cgt K T B cs k) ∧ AccD (flD fl') x (b :: cs) cs ∧ dO (flD fl') b = true ∧ (∀ l1 c l2, cs = l1 ++ c :: l2 → dO (flD fl') c = oC v K T B (dT (flD fl') b) l1 c) ∧ dN (flD fl') x = false ∧ Frm x cs fl fl' := by
  have hn := h.2.1
  have hlen : (aP T x).length ≤ 60 := nodup_le (hw.2.1 x hx) (fun p hp => by have := hw.1 x hx p hp; omega)
  have hpx : ∀ p ∈ aP T x, p ≠ x ∧ p < 60 := fun p hp => by have := hw.1 x hx p hp; omega
  obtain ⟨hcc, -⟩ := tr_catchCount h hw hx h16 htl hP
  have hcl : cs.length + 1 ≤ (aP T x).length := by rw [hP]; simp
  have hbP : b ∈ aP T x := by rw [hP]; simp
  have hnd : (b :: cs).Nodup := by
    have := hw.2.1 x hx
    rw [hP, List.nodup_append] at this
    exact this.1
  have hcP : ∀ c ∈ cs, c ∈ aP T x := fun c hc => by rw [hP]; simp [hc]
  intro s
  induction s with
  | nil =>
    intro l fl cg fuel hl hcg hA hb hO _ hN hf
    rw [List.append_nil] at hl
    subst hl
    match fuel, hf with
    | fuel + 1, _ =>
      refine ⟨cg, fl, ?_, hcg, hA, hb, hO, hN, Frm_rfl⟩
      show f_Fl_settleTry_L28 v N (nI x) (nI b) tr kn _ _ = _
      rw [f_Fl_settleTry_L28.eq_1, hcc]
      simp only [Option.bind_some]
      rw [if_pos (nI_lt (by omega) (by omega)), if_pos (inB_nI (show x < 60 by omega) (by decide)), if_pos (inB_nI (hpx b hbP).2 (by decide)), if_pos (inB_nI (show x < 60 by omega) (by decide)), nI_clamp (show x < 2 ^ 31 by omega), nI_clamp (show b < 2 ^ 31 by have := (hpx b hbP).2; omega)]
      rfl
  | cons c s ih =>
    intro l fl cg fuel hl hcg hA hb hO hS hN hf
    have hc : c ∈ cs := by rw [hl]; simp
    have hcx := hpx c (hcP c hc)
    have hll : l.length < cs.length := by rw [hl]; simp
    have hnd2 := hnd
    rw [hl] at hnd2
    have hcb : c ≠ b := fun e => by subst e; exact (List.nodup_cons.mp hnd).1 hc
    have hncs := (List.nodup_cons.mp hnd).2
    rw [hl, List.nodup_append] at hncs
    have hcl2 : c ∉ l := fun hh => hncs.2.2 c hh c List.mem_cons_self rfl
    have hcs : c ∉ s := (List.nodup_cons.mp hncs.2.1).1
    have hlP : ∀ q ∈ l, q ∈ aP T x := fun q hq => hcP q (by rw [hl]; simp [hq])
    have hl2 : cs = (l ++ [c]) ++ s := by rw [hl]; simp
    obtain ⟨kd, hkd, hmc⟩ := hmk c hc
    have hmkc : mkN T c = kd := by unfold mkN; rw [hmc, nI_clamp (by omega)]
    match fuel, hf with
    | fuel + 1, hf =>
      rw [show lp (f_Fl_settleTry_L28 v N (nI x) (nI b) tr kn) (fuel + 1) (cg, nI (1 + l.length), fl) = f_Fl_settleTry_L28 v N (nI x) (nI b) tr kn (lp (f_Fl_settleTry_L28 v N (nI x) (nI b) tr kn) fuel) (cg, nI (1 + l.length), fl) from rfl, f_Fl_settleTry_L28.eq_1, hcc]
      simp only [Option.bind_some]
      rw [if_neg (nI_nlt (by omega) (by omega)), tr_kid h hx (i := 1 + l.length) (p := c) (by rw [hP, hl]; simp [Nat.add_comm]; rw [List.getElem?_append_right (Nat.le_refl _)]; simp)]
      simp only [Option.bind_some]
      rw [if_pos (inB_nI hcx.2 (by decide)), if_pos (inB_nI (hpx b hbP).2 (by decide)), nI_clamp (show c < 2 ^ 31 by omega), nI_clamp (show b < 2 ^ 31 by have := (hpx b hbP).2; omega), (h.2.2.2.1 c (by have := hw.1 x hx c (hcP c hc); omega)).2.2.1, hmc, fl_oC hk hK hmc hkd hcg v, fl_comeTo (by omega) hcx.2]
      simp only [Option.bind_some, b0, f_Fl_settleTry_b88.eq_1]
      simp only [if_pos (inB_nI (show kd < 12 by omega) (show (12 : Nat) < 2 ^ 31 by decide)), nI_clamp (show kd < 2 ^ 31 by omega)]
      rw [nI_1, show 1 + l.length + 1 = 1 + (l ++ [c]).length by simp; omega]
      have hcg2 : ∀ k, k < 32 → bt (cg ||| Kn_below kn kd) k = cgt K T B (l ++ [c]) k := fun k hk2 => by
        rw [b_or, hcg k hk2, hk.2.2 kd k hkd hk2, cgt_snoc, hmkc]
      by_cases co : oC v K T B (bt (Fl_thrown fl b)) l c = true
      · rw [if_pos co]
        obtain ⟨f1, f2, f3, f4⟩ := Frm_C (fl := fl) (x := x) (p := c) (by omega) hcx.2
        obtain ⟨A1, A2⟩ := Acc_C (fl := fl) (x := x) (p := c) (l := b :: l) (lt := l) (by omega) hcx.2 hcx.1 (by simp [hcb, hcl2]) (by
          intro hh
          rcases List.mem_cons.mp hh with hh | hh
          · exact (hpx b hbP).1 hh.symm
          · exact (hpx x (hlP x hh)).1 rfl) (fun q hq => List.mem_cons_of_mem _ hq) (by
          intro q hq
          rcases List.mem_cons.mp hq with rfl | hq
          · exact (hpx q hbP).2
          · exact (hpx q (hlP q hq)).2) hA
        have same : ∀ q, q ∈ aP T x → q ≠ c → dO (flD (flC fl x c)) q = dO (flD fl) q := fun q hq hne => f2 q (by have := (hpx q hq).2; omega) (by simp [hne])
        have hth : dT (flD (flC fl x c)) b = dT (flD fl) b := by
          show (fun k => bt (Fl_thrown (flC fl x c) b) k) = fun k => bt (Fl_thrown fl b) k
          rw [(f4 b (hpx b hbP).1).2.2]
        obtain ⟨cg', fl', g1, g2, g3, g4, g5, g6, g7⟩ := ih (l ++ [c]) (flC fl x c) (cg ||| Kn_below kn kd) fuel hl2 hcg2 (by rw [← List.cons_append]; exact A1) (by rw [same b hbP (Ne.symm hcb)]; exact hb) (by
          intro l1 d l2 hd
          rw [hth]
          rcases List.eq_nil_or_concat l2 with e2 | ⟨l2', z, e2⟩
          · subst e2
            have : l = l1 ∧ c = d := by
              have := List.append_inj' hd (by simp)
              exact ⟨this.1, by simpa using this.2⟩
            rw [← this.1, ← this.2, A2]; exact co.symm
          · rw [List.concat_eq_append] at e2
            subst e2
            have h3 : l ++ [c] = (l1 ++ d :: l2') ++ [z] := by rw [hd]; simp
            have := List.append_inj' h3 (by simp)
            have hdl : d ∈ l := by rw [this.1]; simp
            rw [same d (hlP d hdl) (fun e => by subst e; exact hcl2 hdl)]
            exact hO l1 d l2' this.1) (by
          intro q hq
          rw [same q (hcP q (by rw [hl]; simp [hq])) (fun e => by subst e; exact hcs hq)]
          exact hS q (List.mem_cons_of_mem _ hq)) hN (by simpa using hf)
        exact ⟨cg', fl', g1, g2, g3, g4, g5, g6, Frm_trans (Frm_C (by omega) hcx.2) g7 (fun y hy => by simp at hy; subst hy; exact hc) (fun y hy => hy)⟩
      · rw [if_neg co]
        have co' : oC v K T B (bt (Fl_thrown fl b)) l c = false := by simpa using co
        have hop := hS c List.mem_cons_self
        obtain ⟨cg', fl', g1, g2, g3, g4, g5, g6, g7⟩ := ih (l ++ [c]) fl (cg ||| Kn_below kn kd) fuel hl2 hcg2 (by rw [← List.cons_append]; exact Acc_skip hA hop) hb (by
          intro l1 d l2 hd
          rcases List.eq_nil_or_concat l2 with e2 | ⟨l2', z, e2⟩
          · subst e2
            have : l = l1 ∧ c = d := by
              have := List.append_inj' hd (by simp)
              exact ⟨this.1, by simpa using this.2⟩
            rw [← this.1, ← this.2, hop]; exact co'.symm
          · rw [List.concat_eq_append] at e2
            subst e2
            have h3 : l ++ [c] = (l1 ++ d :: l2') ++ [z] := by rw [hd]; simp
            have := List.append_inj' h3 (by simp)
            exact hO l1 d l2' this.1) (fun q hq => hS q (List.mem_cons_of_mem _ hq)) hN (by simpa using hf)
        exact ⟨cg', fl', g1, g2, g3, g4, g5, g6, g7⟩
