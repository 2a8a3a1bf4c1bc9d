/-- NODES are come to from THE ROOT down -/
def MtR (T : AT) (r : Nat) (D : Dt) (mt : Nat → Bool) : Prop := mt r = true ∧ (∀ x ∈ pre T r, x ≠ r → ∀ p, p < aN T → x ∈ aP T p → mt x = (mt p && dO D x)) ∧ ∀ y, y < 64 → y ∉ pre T r → mt y = false
def flM (fl : FlS) (m : Int64) : FlS := (Fl_open fl, m, Fl_normal fl, Fl_returning fl, Fl_breaks fl, Fl_continues fl, Fl_thrown fl)
theorem pre_hd {T : AT} (hw : WT T) {r : Nat} (hr : r < aN T) {l : List Nat} {x : Nat} (h : pre T r = x :: l) : x = r := by
  rw [pre_eq hw hr] at h
  injection h with h1 h2
  exact h1.symm
theorem fl_met {tr : TrS} {T : AT} {ks : List Nat} {fs : Nat → Nat} {rl : List Nat} (h : TrR tr T ks fs rl) (hw : WT T) {kn : KnS} {N r : Nat} (hr : r < aN T) {od tg : ArS} (hod : OdR od (pre T r)) {v : Bool} {fl : FlS} : ∀ (l2 l1 : List Nat) (m : Int64) (fuel : Nat), pre T r = l1 ++ l2 → (∀ y, y < 64 → y ∉ l1 → lb m y = false) → (r ∈ l1 → lb m r = true) → (∀ x ∈ l1, x ≠ r → ∀ p, p < aN T → x ∈ aP T p → lb m x = (lb m p && dO (flD fl) x)) → l2.length < fuel →
    ∃ m', lp (f_Fl_flow_L37 v N (nI (pre T r).length) tr kn od tg) fuel (nI l1.length, flM fl m) = some (flM fl m') ∧ MtR T r (flD fl) (lb m') := by
  have hn := h.2.1
  have hlr := pre_len hw hr
  have hnd := pre_nodup hw hr
  intro l2
  induction l2 with
  | nil =>
    intro l1 m fuel hl h1 h2 h3 hf
    rw [List.append_nil] at hl
    subst hl
    match fuel, hf with
    | fuel + 1, _ =>
      refine ⟨m, ?_, h2 (pre_self hw hr), h3, h1⟩
      show f_Fl_flow_L37 v N _ tr kn od tg _ _ = _
      rw [f_Fl_flow_L37.eq_1]
      show (if nI (pre T r).length ≤ nI (pre T r).length then _ else _) = _
      rw [if_pos (nI_le (Nat.le_refl _) (by omega))]
  | cons x l2 ih =>
    intro l1 m fuel hl h1 h2 h3 hf
    have hx : x ∈ pre T r := by rw [hl]; simp
    have hxn := pre_lt hw hr hx
    have hll : l1.length < (pre T r).length := by rw [hl]; simp
    have hox : od l1.length = nI x := hod l1.length x (by rw [hl]; simp)
    have hnd2 := hnd
    rw [hl, List.nodup_append] at hnd2
    have hxl1 : x ∉ l1 := fun hh => hnd2.2.2 x hh x List.mem_cons_self rfl
    have hl' : pre T r = (l1 ++ [x]) ++ l2 := by rw [hl]; simp
    have e1 : (l1 ++ [x]).length = l1.length + 1 := by simp
    have npar : ∀ y ∈ l1, ∀ p, p < aN T → y ∈ aP T p → p ≠ x := by
      intro y hy p hp hyp e
      subst e
      have := ord_dn hw hr hl hyp
      exact hnd2.2.2 y hy y (List.mem_cons_of_mem _ this) rfl
    match fuel, hf with
    | fuel + 1, hf =>
      -- set
      have hset : (x = r ∨ ∀ p, p < aN T → x ∈ aP T p → (lb m p && dO (flD fl) x) = true) → ∃ m', lp (f_Fl_flow_L37 v N (nI (pre T r).length) tr kn od tg) fuel (nI l1.length + 1, flM fl (m ||| lbit x)) = some (flM fl m') ∧ MtR T r (flD fl) (lb m') := by
        intro hc
        have := ih (l1 ++ [x]) (m ||| lbit x) fuel hl' (by
          intro y hy hyn
          rw [lb_or, lbit_lb (by omega), h1 y hy (fun hh => hyn (List.mem_append_left _ hh))]
          have : y ≠ x := fun e => hyn (by simp [e])
          simp [this]) (by
          intro hrl
          rw [lb_or, lbit_lb (by omega)]
          rcases List.mem_append.mp hrl with hrl | hrl
          · rw [h2 hrl]; rfl
          · have : r = x := by simpa using hrl
            simp [this]) (by
          intro y hy hyr p hp hyp
          rcases List.mem_append.mp hy with hy | hy
          · have hyx : y ≠ x := fun e => hxl1 (e ▸ hy)
            rw [lb_or, lb_or, lbit_lb (by omega), lbit_lb (by omega), h3 y hy hyr p hp hyp]
            simp [hyx, npar y hy p hp hyp]
          · have : y = x := by simpa using hy
            subst this
            rcases hc with hc | hc
            · exact absurd hc hyr
            · have hpy : p ≠ y := fun e => by subst e; have := hw.1 p hp p hyp; omega
              have := hc p hp hyp
              rw [lb_or, lb_or, lbit_lb (by omega), lbit_lb (by omega)]
              simp [hpy]
              simpa using this) (by simpa using hf)
        rw [e1, ← nI_1] at this
        exact this
      have hskip : x ≠ r → (∀ p, p < aN T → x ∈ aP T p → (lb m p && dO (flD fl) x) = false) → ∃ m', lp (f_Fl_flow_L37 v N (nI (pre T r).length) tr kn od tg) fuel (nI l1.length + 1, flM fl m) = some (flM fl m') ∧ MtR T r (flD fl) (lb m') := by
        intro hxr hc
        have := ih (l1 ++ [x]) m fuel hl' (fun y hy hyn => h1 y hy (fun hh => hyn (List.mem_append_left _ hh))) (by
          intro hrl
          rcases List.mem_append.mp hrl with hrl | hrl
          · exact h2 hrl
          · have : r = x := by simpa using hrl
            exact absurd this.symm hxr) (by
          intro y hy hyr p hp hyp
          rcases List.mem_append.mp hy with hy | hy
          · exact h3 y hy hyr p hp hyp
          · have : y = x := by simpa using hy
            subst this
            rw [h1 y (by omega) hxl1, hc p hp hyp]) (by simpa using hf)
        rw [e1, ← nI_1] at this
        exact this
      rw [show lp (f_Fl_flow_L37 v N (nI (pre T r).length) tr kn od tg) (fuel + 1) (nI l1.length, flM fl m) = f_Fl_flow_L37 v N (nI (pre T r).length) tr kn od tg (lp (f_Fl_flow_L37 v N (nI (pre T r).length) tr kn od tg) fuel) (nI l1.length, flM fl m) from rfl, f_Fl_flow_L37.eq_1]
      simp only [f_Fl_flow_b86.eq_1]
      show ∃ m', (if nI (pre T r).length ≤ nI l1.length then _ else (if inB (nI l1.length) 60 = true then (if nI l1.length = 0 then lp (f_Fl_flow_L37 v N (nI (pre T r).length) tr kn od tg) fuel (nI l1.length + 1, flM fl (m ||| ((1 : Int64) <<< ((od (nI l1.length).toNatClampNeg).toInt64 &&& 63)))) else (if inB (od (nI l1.length).toNatClampNeg) 60 = true then ((f_Rf_isIn m (Tr_parent tr (od (nI l1.length).toNatClampNeg).toNatClampNeg)).bind fun y68 => (if y68 = 0 then lp (f_Fl_flow_L37 v N (nI (pre T r).length) tr kn od tg) fuel (nI l1.length + 1, flM fl m) else ((f_Rf_isIn (Fl_open fl) (od (nI l1.length).toNatClampNeg)).bind fun y80 => (if y80 = 0 then lp (f_Fl_flow_L37 v N (nI (pre T r).length) tr kn od tg) fuel (nI l1.length + 1, flM fl m) else lp (f_Fl_flow_L37 v N (nI (pre T r).length) tr kn od tg) fuel (nI l1.length + 1, flM fl (m ||| ((1 : Int64) <<< ((od (nI l1.length).toNatClampNeg).toInt64 &&& 63)))))))) else none)) else none)) = _ ∧ _
      rw [if_neg (nI_ge hll (by omega)), if_pos (inB_nI (by omega) (by decide)), nI_clamp (show l1.length < 2 ^ 31 by omega), hox, nI_clamp (show x < 2 ^ 31 by omega)]
      by_cases c0 : l1.length = 0
      · have : l1 = [] := List.length_eq_zero_iff.mp c0
        rw [if_pos ((nI_z (by omega)).mpr c0)]
        exact hset (Or.inl (pre_hd hw hr (by rw [hl, this]; rfl)))
      · rw [if_neg (fun hh => c0 ((nI_z (by omega)).mp hh)), if_pos (inB_nI (by omega) (by decide))]
        have hxr : x ≠ r := by
          intro e
          subst e
          cases l1 with
          | nil => exact c0 rfl
          | cons z zs =>
            have := pre_hd hw hr (x := z) (l := zs ++ x :: l2) (by rw [hl]; rfl)
            exact hxl1 (by rw [this]; simp)
        obtain ⟨q, hq, hxq⟩ := ord_up hw hr hl hxr
        have hqn : q < aN T := pre_lt hw hr (by rw [hl]; exact List.mem_append_left _ hq)
        have uq : ∀ p, p < aN T → x ∈ aP T p → p = q := fun p hp hxp => hw.2.2 p q x hp hqn hxp hxq
        rw [tr_par h hqn hxq, isIn_eq _ (by omega), isIn_eq _ (by omega)]
        simp only [Option.bind_some, b0]
        by_cases c1 : lb m q = true
        · rw [if_pos c1]
          by_cases c2 : lb (Fl_open fl) x = true
          · rw [if_pos c2]
            exact hset (Or.inr (fun p hp hxp => by rw [uq p hp hxp, c1]; exact c2))
          · rw [if_neg c2]
            exact hskip hxr (fun p hp hxp => by
              have c2' : lb (Fl_open fl) x = false := by simpa using c2
              have c2 : dO (flD fl) x = false := c2'
              rw [c2, Bool.and_false])
        · rw [if_neg c1]
          exact hskip hxr (fun p hp hxp => by
            have c1 : lb m q = false := by simpa using c1
            rw [uq p hp hxp, c1, Bool.false_and])
/-- all that the class's flow stands on -/
def BldC (kn : KnS) (tr : TrS) (K : Nat) (B : Nat → Nat → Bool) (T : AT) (ks : List Nat) (fs : Nat → Nat) (rl : List Nat) : Prop := TrR tr T ks fs rl ∧ WT T ∧ KnR kn K B ∧ K ≤ 12 ∧ (∀ m, m < aN T → shp T K m) ∧ (∀ m, m < aN T → tlR T m (Tr_tail tr m)) ∧ ∀ m, m < aN T → lb (Tr_defaults tr) m = dfB T m
theorem fl_back {kn : KnS} {tr : TrS} {K : Nat} {B : Nat → Nat → Bool} {T : AT} {ks : List Nat} {fs : Nat → Nat} {rl : List Nat} (hb : BldC kn tr K B T ks fs rl) {N r : Nat} (hN : 100 < N) (hr : r < aN T) {od tg : ArS} (hod : OdR od (pre T r)) (htg : ∀ x ∈ pre T r, tg x = -1 ∨ ∃ t, t < 60 ∧ tg x = nI t) {v : Bool} : ∀ (n : Nat) (l1 l2 : List Nat) (fl : FlS) (fuel : Nat), l1.length = n → pre T r = l1 ++ l2 → (∀ x ∈ l2, SolAt v K T B tg (flD fl) x) → (∀ p, p < 64 → dO (flD fl) p = true → ∃ x ∈ l2, p ∈ aP T x) → Fl_met fl = 0 → n < fuel →
    ∃ fl', lp (f_Fl_flow_L9 v N (nI (pre T r).length) tr kn od tg) fuel (nI n - 1, fl) = some fl' ∧ (∀ x ∈ pre T r, SolAt v K T B tg (flD fl') x) ∧ MtR T r (flD fl') (lb (Fl_met fl')) := by
  obtain ⟨h, hw, hk, hK, hsh, htl, hdf⟩ := hb
  have hn := h.2.1
  have hlr := pre_len hw hr
  have hnd := pre_nodup hw hr
  intro n
  induction n with
  | zero =>
    intro l1 l2 fl fuel hl0 hl hS hO hm hf
    have : l1 = [] := List.length_eq_zero_iff.mp hl0
    subst this
    match fuel, hf with
    | fuel + 1, _ =>
      obtain ⟨m', g1, g2⟩ := fl_met h hw (kn := kn) (N := N) hr hod (tg := tg) (v := v) (fl := fl) (pre T r) [] 0 N rfl (fun y _ _ => lb_0 y) (fun hh => by simp at hh) (fun x hx => by simp at hx) (by omega)
      refine ⟨flM fl m', ?_, fun x hx => hS x (by rw [List.nil_append] at hl; rw [← hl]; exact hx), g2⟩
      show f_Fl_flow_L9 v N _ tr kn od tg _ _ = _
      rw [f_Fl_flow_L9.eq_1]
      show (if nI 0 - 1 < 0 then lp (f_Fl_flow_L37 v N (nI (pre T r).length) tr kn od tg) N (0, fl) else _) = _
      rw [if_pos (by decide), ← g1]
      have e : flM fl 0 = fl := by
        unfold flM
        rw [← hm]
      rw [e]; rfl
  | succ n ih =>
    intro l1 l2 fl fuel hl0 hl hS hO hm hf
    rcases List.eq_nil_or_concat l1 with e | ⟨l1', x, e⟩
    · subst e; simp at hl0
    · rw [List.concat_eq_append] at e
      subst e
      have hl0 : l1'.length = n := by simpa using hl0
      have hl' : pre T r = l1' ++ x :: l2 := by rw [hl]; simp
      have hx : x ∈ pre T r := by rw [hl']; simp
      have hxn := pre_lt hw hr hx
      have hll : l1'.length < (pre T r).length := by rw [hl']; simp
      have hox : od l1'.length = nI x := hod l1'.length x (by rw [hl']; simp)
      have hnd2 := hnd
      rw [hl', List.nodup_append] at hnd2
      have hxl2 : x ∉ l2 := (List.nodup_cons.mp hnd2.2.1).1
      have hpw := pre_pw hw r hr
      rw [hl'] at hpw
      have hxpw := (List.pairwise_cons.mp (List.pairwise_append.mp hpw).2.1).1
      have hop : ∀ p ∈ aP T x, lb (Fl_open fl) p = false := by
        intro p hp
        have hp60 := hw.1 x hxn p hp
        by_cases c : lb (Fl_open fl) p = true
        · obtain ⟨y, hy, hpy⟩ := hO p (by omega) c
          have := hw.2.2 x y p hxn (pre_lt hw hr (by rw [hl']; simp [hy])) hp hpy
          subst this
          exact absurd hy hxl2
        · simpa using c
      obtain ⟨fl1, g1, g2, g3⟩ := fl_settle h hw hk hK hN hxn (hsh x hxn) (hdf x hxn) (htl x hxn) (tg := tg) (htg x hx) (v := v) (fl := fl) hop
      obtain ⟨f1, f2, f3, f4⟩ := g3
      match fuel, hf with
      | fuel + 1, hf =>
        have := ih l1' (x :: l2) fl1 fuel hl0 hl' (by
          intro y hy
          rcases List.mem_cons.mp hy with rfl | hy2
          · exact g2
          · have hyx : y ≠ x := fun e => hxl2 (e ▸ hy2)
            have hyp : y ∈ pre T r := by rw [hl']; simp [hy2]
            have hyn := pre_lt hw hr hyp
            have hq : ∀ q ∈ aP T y, q ≠ x ∧ q < 60 ∧ q ∉ aP T x := by
              intro q hq
              have h1 := hw.1 y hyn q hq
              refine ⟨fun e => ?_, by omega, fun hh => hyx (hw.2.2 y x q hyn hxn hq hh)⟩
              subst e
              exact (hxpw y hy2).2 hq
            refine SolAt_cg (hS y hy2) (f3 y (by omega) hyx).1 (f3 y (by omega) hyx).2 (fun t _ => ?_) (fun t _ => ?_) (fun t _ => ?_) (fun q hq' => f2 q (by have := (hq q hq').2.1; omega) (hq q hq').2.2) (fun q hq' => (f3 q (by have := (hq q hq').2.1; omega) (hq q hq').1).1) (fun q hq' => (f3 q (by have := (hq q hq').2.1; omega) (hq q hq').1).2) (fun q hq' t _ => ?_) (fun q hq' t _ => ?_) (fun q hq' t _ => ?_) (by omega)
            · show lb (Fl_breaks fl1 y) t = lb (Fl_breaks fl y) t; rw [(f4 y hyx).1]
            · show lb (Fl_continues fl1 y) t = lb (Fl_continues fl y) t; rw [(f4 y hyx).2.1]
            · show bt (Fl_thrown fl1 y) t = bt (Fl_thrown fl y) t; rw [(f4 y hyx).2.2]
            · show lb (Fl_breaks fl1 q) t = lb (Fl_breaks fl q) t; rw [(f4 q (hq q hq').1).1]
            · show lb (Fl_continues fl1 q) t = lb (Fl_continues fl q) t; rw [(f4 q (hq q hq').1).2.1]
            · show bt (Fl_thrown fl1 q) t = bt (Fl_thrown fl q) t; rw [(f4 q (hq q hq').1).2.2]) (by
          intro p hp ho
          by_cases c : p ∈ aP T x
          · exact ⟨x, List.mem_cons_self, c⟩
          · have ho2 : dO (flD fl) p = true := by rw [← ho]; exact (f2 p hp c).symm
            obtain ⟨y, hy, hpy⟩ := hO p hp ho2
            exact ⟨y, List.mem_cons_of_mem _ hy, hpy⟩) (f1.trans hm) (by omega)
        obtain ⟨fl', k1, k2, k3⟩ := this
        refine ⟨fl', ?_, k2, k3⟩
        rw [← k1]
        show f_Fl_flow_L9 v N _ tr kn od tg _ _ = _
        rw [f_Fl_flow_L9.eq_1]
        have en : nI (n + 1) - 1 = nI n := by rw [← nI_1]; simp
        show (if nI (n + 1) - 1 < 0 then _ else (if inB (nI (n + 1) - 1) 60 = true then (if inB (nI (n + 1) - 1) 60 = true then (if inB (od (nI (n + 1) - 1).toNatClampNeg) 60 = true then ((f_Fl_settle v N (od (nI (n + 1) - 1).toNatClampNeg) (tg (od (nI (n + 1) - 1).toNatClampNeg).toNatClampNeg) fl tr kn).bind fun y25 => lp (f_Fl_flow_L9 v N (nI (pre T r).length) tr kn od tg) fuel ((nI (n + 1) - 1) + (-1), y25)) else none) else none) else none)) = _
        rw [en, if_neg (nI_pos (by omega)), if_pos (inB_nI (by omega) (by decide)), if_pos (inB_nI (by omega) (by decide)), nI_clamp (show n < 2 ^ 31 by omega), ← hl0, hox, if_pos (inB_nI (by omega) (by decide)), nI_clamp (show x < 2 ^ 31 by omega), g1]
        show lp _ fuel (nI l1'.length + (-1), fl1) = lp _ fuel (nI l1'.length - 1, fl1)
        rw [Int32.sub_eq_add_neg]
theorem fl_flow {kn : KnS} {tr : TrS} {K : Nat} {B : Nat → Nat → Bool} {T : AT} {ks : List Nat} {fs : Nat → Nat} {rl : List Nat} (hb : BldC kn tr K B T ks fs rl) {N r : Nat} (hN : 100 < N) (hr : r < aN T) {od tg : ArS} (hod : OdR od (pre T r)) (htg : ∀ x ∈ pre T r, tg x = -1 ∨ ∃ t, t < 60 ∧ tg x = nI t) (v : Bool) (fl : FlS) : ∃ fl', f_Fl_flow v N (nI (pre T r).length) fl tr kn od tg = some fl' ∧ (∀ x ∈ pre T r, SolAt v K T B tg (flD fl') x) ∧ MtR T r (flD fl') (lb (Fl_met fl')) := by
  have hlr := pre_len hb.2.1 hr
  have hn := hb.1.2.1
  rw [f_Fl_flow.eq_1, f_Fl_forget.eq_1]
  exact fl_back hb hN hr hod htg (pre T r).length (pre T r) [] _ N rfl (by simp) (fun x hx => by simp at hx) (fun p _ ho => by
    have ho : lb 0 p = true := ho
    rw [lb_0] at ho; cases ho) rfl (by omega)
