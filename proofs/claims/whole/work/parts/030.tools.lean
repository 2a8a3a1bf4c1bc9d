/-! TOOLS: checked functions over Option, loops by fuel, one contract form for methods that make nothing, one row for a call -/
/-- a place of an array, as a test -/
def inB (i : Int32) (n : Nat) : Bool := !(decide (i < 0) || decide (n ≤ i.toNatClampNeg))
theorem inB_in {i : Int32} {n : Nat} (h : inB i n = true) : vp_in i n := by
  intro hc
  unfold inB at h
  rcases hc with h1 | h1
  · simp [h1] at h
  · simp [h1] at h
theorem in_inB {i : Int32} {n : Nat} (h : vp_in i n) : inB i n = true := by
  unfold inB
  cases h1 : decide (i < 0) with
  | true => exact absurd (Or.inl (of_decide_eq_true h1)) h
  | false =>
    cases h2 : decide (n ≤ i.toNatClampNeg) with
    | true => exact absurd (Or.inr (of_decide_eq_true h2)) h
    | false => rfl
/-- a number that a boolean is -/
def bB (v : Int32) : Bool := decide (v = 0) || decide (v = 1)
theorem bB_narrow {v : Int32} (h : bB v = true) : narrow .boolean (.int v) = .int v := by
  unfold bB at h
  rcases (Bool.or_eq_true _ _).mp h with h1 | h1
  · rw [of_decide_eq_true h1]; decide +kernel
  · rw [of_decide_eq_true h1]; decide +kernel
theorem o_t {α : Type} {c : Prop} [Decidable c] {a b r : Option α} (hc : c) (h : (if c then a else b) = r) : a = r := by
  rw [if_pos hc] at h; exact h
theorem o_f {α : Type} {c : Prop} [Decidable c] {a b r : Option α} (hc : ¬ c) (h : (if c then a else b) = r) : b = r := by
  rw [if_neg hc] at h; exact h
theorem o_in {α : Type} {i : Int32} {n : Nat} {a : Option α} {r : α} (h : (if inB i n = true then a else none) = some r) : vp_in i n ∧ a = some r := by
  by_cases hc : inB i n = true
  · rw [if_pos hc] at h; exact ⟨inB_in hc, h⟩
  · rw [if_neg hc] at h; cases h
theorem o_bo {α : Type} {v : Int32} {a : Option α} {r : α} (h : (if bB v = true then a else none) = some r) : bB v = true ∧ a = some r := by
  by_cases hc : bB v = true
  · rw [if_pos hc] at h; exact ⟨hc, h⟩
  · rw [if_neg hc] at h; cases h
theorem o_bd {α β : Type} {x : Option β} {k : β → Option α} {r : α} (h : x.bind k = some r) : ∃ y, x = some y ∧ k y = some r := by
  cases x with
  | none => cases h
  | some y => exact ⟨y, rfl, h⟩
/-- a loop with fuel: at 0 it has no answer -/
def lp {σ α : Type} (b : (σ → Option α) → σ → Option α) : Nat → σ → Option α
  | 0, _ => none
  | n + 1, s => b (lp b n) s
theorem lp_0 {σ α : Type} {b : (σ → Option α) → σ → Option α} {s : σ} {r : α} (h : lp b 0 s = some r) : False := by cases h
theorem lp_s {σ α : Type} {b : (σ → Option α) → σ → Option α} {n : Nat} {s : σ} {r : Option α} (h : lp b (n + 1) s = r) : b (lp b n) s = r := h
/-- a method's words: its code, the table -/
abbrev wz (y : MethodName) (b : ByteArray) (n : Nat) (r : Option FieldType) : List Cond := .code y b n r :: tb
/-- a contract's start: the cells wc, their size -/
def KB (D : va_G) (cl : List vw_C) (tys : List (ClassId × FieldType)) (wc : va_W) (sz : Nat) (U : State) : Prop := U.heap.size = sz ∧ va_P D cl wc U.heap ∧ va_K D cl tys U ∧ va_D (fun _ => True) wc ∧ NW U
/-- a contract's end: the answer rv, the cells w1 -/
def KQ (D : va_G) (cl : List vw_C) (rv : Option Value) (w1 wc : va_W) (sz : Nat) : Array Value → State → Outcome → State → Prop := fun _ st oc t => (oc = .returned rv ∧ va_P D cl w1 t.heap ∧ va_D (va_A wc sz) w1) ∧ va_F (va_A wc sz) st t
/-- a method that makes nothing: from the cells wc it answers rv and leaves w1 -/
def Kt (l : Launch) (D : va_G) (cl : List vw_C) (tys : List (ClassId × FieldType)) (y : MethodName) (ws : List Cond) (rm : Room) (av : List Value) (wc : va_W) (rv : Option Value) (w1 : va_W) : Prop :=
  ∀ sz : Nat, Met l y ws rm (va_Pc av (KB D cl tys wc sz)) (KQ D cl rv w1 wc sz) 0 0 (va_A wc sz)
theorem KB_blind {D : va_G} {cl : List vw_C} {tys : List (ClassId × FieldType)} {av : List Value} {wc : va_W} {sz : Nat} : FrameBlind (va_Pc av (KB D cl tys wc sz)) :=
  fun a U g mk q => by obtain ⟨q0, q1, qP, qK, qD, qN⟩ := q; exact ⟨q0, q1, qP, va_K.moved (u := U) (U := U.calling g mk a) (Vm.Alike.refl U.vm) qK, qD, NW_same (u := U) (U := U.calling g mk a) rfl qN⟩
theorem KB_pre {D : va_G} {cl : List vw_C} {tys : List (ClassId × FieldType)} {av : List Value} {wc : va_W} {H : Heap} {s : State} {A : Nat → Prop} (hP : va_P D cl wc H) (hK : va_K D cl tys s) (hD : va_D A wc) (hN : NW s) :
    ∀ U : State, U.heap = H → s.WarmedH U.vm → va_Pc av (KB D cl tys wc H.size) av.toArray U :=
  fun U hU hW => ⟨rfl, by rw [hU], by rw [hU]; exact hP, va_K.moved hW.alike hK, hD.weaken (fun _ _ _ _ => trivial), NW_warm hW hN⟩
/-- places: what stood there, by a list of places -/
theorem kc_at {α : Type} {ws w : List α} {is : List Nat} (hs : is.map (fun i => ws[i]?) = w.map some) : ∀ (k : Nat) (q : α), w[k]? = some q → ∃ i, is[k]? = some i ∧ ws[i]? = some q := by
  intro k q hq
  have h1 : (is.map (fun i => ws[i]?))[k]? = some (some q) := by rw [hs, List.getElem?_map, hq]; rfl
  rw [List.getElem?_map] at h1
  cases hi : is[k]? with
  | none => rw [hi] at h1; cases h1
  | some i => rw [hi] at h1; exact ⟨i, rfl, Option.some.inj h1⟩
theorem kc_to {α : Type} {ws w : List α} {is : List Nat} (hs : is.map (fun i => ws[i]?) = w.map some) : ∀ (k i : Nat) (q : α), is[k]? = some i → ws[i]? = some q → w[k]? = some q := by
  intro k i q hk hi
  have h1 : (is.map (fun i => ws[i]?))[k]? = some (some q) := by rw [List.getElem?_map, hk]; exact congrArg some hi
  rw [hs, List.getElem?_map] at h1
  cases hw : w[k]? with
  | none => rw [hw] at h1; cases h1
  | some z => rw [hw] at h1; exact congrArg some (Option.some.inj (Option.some.inj h1))
/-- the world behind a call: the callee's places isC hold w1 now, the places isR what they held -/
theorem kc_join {A0 : Nat → Prop} {D : va_G} {cl : List vw_C} {ws wc w1 w' : va_W} {H H1 : Heap} (hP : va_P D cl ws H) (hD : va_D A0 ws) (isC isR : List Nat) (hC : isC.map (fun i => ws[i]?) = wc.map some) (hN : isC.map (fun i => w'[i]?) = w1.map some) (hR : isR.map (fun i => w'[i]?) = isR.map (fun i => ws[i]?)) (hall : (List.range w'.length).all (fun i => isC.contains i || (isR.contains i && !isC.contains i)) = true) (hd0 : va_nd isC = true)
    (hk : ∀ q : Nat, q < H.size → ¬ va_A wc H.size q → H1[q]? = H[q]?) (hF : ∀ q, va_A wc H.size q → A0 q) (hP1 : va_P D cl w1 H1) (hD1 : va_D (va_A wc H.size) w1) : va_P D cl w' H1 ∧ va_D A0 w' := by
  have kind : ∀ (i : Nat) (q : Nat × va_E), w'[i]? = some q → (∃ k : Nat, isC[k]? = some i ∧ w1[k]? = some q) ∨ (i ∉ isC ∧ ws[i]? = some q) := by
    intro i q hq
    have hl : i < w'.length := (List.getElem?_eq_some_iff.mp hq).1
    have hm := List.all_eq_true.mp hall i (List.mem_range.mpr hl)
    by_cases hc : i ∈ isC
    · obtain ⟨k, hk2⟩ := List.getElem?_of_mem hc
      exact Or.inl ⟨k, hk2, kc_to hN k i q hk2 hq⟩
    · have hr : i ∈ isR := by
        simp [hc] at hm
        exact hm
      obtain ⟨k, hk2⟩ := List.getElem?_of_mem hr
      have h1 : (isR.map (fun i => w'[i]?))[k]? = some (some q) := by rw [List.getElem?_map, hk2]; exact congrArg some hq
      rw [hR, List.getElem?_map, hk2] at h1
      exact Or.inr ⟨hc, Option.some.inj h1⟩
  have apart : ∀ (i : Nat) (q : Nat × va_E), i ∉ isC → ws[i]? = some q → q.1 < H.size ∧ ¬ va_A wc H.size q.1 := by
    intro i q hi h2
    have hl := (hP i q h2).lt
    refine ⟨hl, fun h => ?_⟩
    rcases h with ⟨k2, e, h⟩ | h
    · obtain ⟨j, h3, h4⟩ := kc_at hC k2 (q.1, e) h
      have hij := hD.1 i j q (q.1, e) h2 h4 rfl
      subst hij
      exact hi (List.mem_of_getElem? h3)
    · omega
  refine ⟨fun i q hq => ?_, ⟨fun i j x y hx hy hxy => ?_, fun i q hq => ?_⟩⟩
  · rcases kind i q hq with ⟨k, -, h1⟩ | ⟨h0, h1⟩
    · exact hP1 k q h1
    · obtain ⟨g1, g2⟩ := apart i q h0 h1
      exact (hP i q h1).kept (hk q.1 g1 g2)
  · rcases kind i x hx with ⟨k, hk1, h1⟩ | ⟨h0, h1⟩
    · rcases kind j y hy with ⟨k2, hk2, h2⟩ | ⟨h0', h2⟩
      · have e := hD1.1 k k2 x y h1 h2 hxy
        subst e
        rw [hk1] at hk2
        exact Option.some.inj hk2
      · exact absurd (by rw [← hxy]; exact hD1.2 k x h1) (apart j y h0' h2).2
    · rcases kind j y hy with ⟨k2, hk2, h2⟩ | ⟨h0', h2⟩
      · exact absurd (by rw [hxy]; exact hD1.2 k2 y h2) (apart i x h0 h1).2
      · exact hD.1 i j x y h1 h2 hxy
  · rcases kind i q hq with ⟨k, -, h1⟩ | ⟨h0, h1⟩
    · exact hF q.1 (hD1.2 k q h1)
    · exact hD.2 i q h1
section KC
variable {p : Program} {l : Launch} {e : Env} {R : Room} {s : State} {m : MethodId} {args : Array Value} {below : List Frame} {meth : Method} {c : Code} {H : Heap} {locs : List Loc} {cells slots : Nat} {Q : State → Prop} {cc bytes : ByteArray} {pc nL maxL index n : Nat} {ls : Array Slot} {rest st0 st1 As : List Value} {D : va_G} {cl : List vw_C} {A : Nat → Prop} {tys : List (ClassId × FieldType)} {H0 : Heap} {w wc w1 w' : va_W} {rv : Option Value} {av : Array Value} {Ts ws : List Cond} {own host C owner : String} {y x : MethodName} {ret : Option FieldType} {rm : Room} {b : Nat}
/-- a call that has run, into the world behind it -/
theorem kc_W (hr : va_Run p l e R s m args below meth c H locs cells slots 0 0 (F0 m pc ls st0) rest (KQ D cl rv w1 wc H.size av) (va_A wc H.size)) (hP : va_P D cl w H) (hD : va_D A w) (hS : va_S A H0 H locs) (hA : ∀ q, H0.size ≤ q → A q) (isC isR : List Nat) (hC : isC.map (fun i => w[i]?) = wc.map some) (hN : isC.map (fun i => w'[i]?) = w1.map some) (hR : isR.map (fun i => w'[i]?) = isR.map (fun i => w[i]?)) (hall : (List.range w'.length).all (fun i => isC.contains i || (isR.contains i && !isC.contains i)) = true) (hd0 : va_nd isC = true) (hst : rv.toList ++ rest = st1)
    (kk : ∀ (H1 : Heap) (locs1 : List Loc), va_P D cl w' H1 → va_D A w' → va_S A H0 H1 locs1 → W p l e R s m args below meth c H1 locs1 cells slots Q (F0 m (pc + 3) ls st1)) : W p l e R s m args below meth c H locs cells slots Q (F0 m pc ls st0) := by
  intro T hT X
  obtain ⟨v, st₀, t, T', L, h0, X', hL, e1, e2, ⟨⟨hv, hp, hdd⟩, hz, hk⟩, st⟩ := hr T hT X
  cases hv
  rw [h0] at hz hk
  have hF := va_free (wc := wc) hD hS hA isC hC
  rw [← e1] at hp hz hk
  obtain ⟨hP', hD'⟩ := kc_join hP hD isC isR hC hN hR hall hd0 hk hF hp hdd
  obtain ⟨t2, a1, b1⟩ := kk T'.heap (locs ++ L) hP' hD'
    ⟨Nat.le_trans hS.1 hz, fun q h1 h2 => by rw [hk q (Nat.lt_of_lt_of_le h1 hS.1) (fun z => h2 (hF q z))]; exact hS.2.1 q h1 h2, fun q hq => by
      rcases List.mem_append.mp hq with h | h
      · exact hS.2.2 q h
      · exact hF _ (hL q h)⟩ T' rfl X'
  subst hst
  exact ⟨t2, st t2 a1, b1⟩
/-- calls, by their kind: virtual; a nest mate's; inherited or abstract; static; a nest mate's static -/
theorem kcV (S : CallFix p m c cc nL s args Ts own) (hM : Kt l D cl tys y ws rm (.ref b :: As) wc rv w1) (cw : CallW R s args own C index y bytes maxL ret ws rm 0 0 n) (hNw : NW s) (hK : va_K D cl tys s) (hP : va_P D cl w H) (hD : va_D A w) (hS : va_S A H0 H locs) (hA : ∀ q, H0.size ≤ q → A q) {ci : Nat} {rc : vw_C} {fs : List Value} (hc : cl[ci]? = some rc) (he : wc[0]? = some (b, .inr (ci, fs))) (hrc : rc.1 = C) (isC isR : List Nat) (hC : isC.map (fun i => w[i]?) = wc.map some) (hN : isC.map (fun i => w'[i]?) = w1.map some) (hR : isR.map (fun i => w'[i]?) = isR.map (fun i => w[i]?)) (hall : (List.range w'.length).all (fun i => isC.contains i || (isR.contains i && !isC.contains i)) = true) (hd0 : va_nd isC = true) (hn : As.length = n) (hsize : ls.size = nL) (hstack : st0 = As.reverse ++ .ref b :: rest) (hw8 : (rest.map fun v => v.category).sum ≤ 8) (hst : rv.toList ++ rest = st1) (hdg : decode cc pc = .ok (.invokevirtual index, 3)) (hf : cells ≤ R.cells ∧ slots ≤ R.slots)
    (kk : ∀ (H1 : Heap) (locs1 : List Loc), va_P D cl w' H1 → va_D A w' → va_S A H0 H1 locs1 → W p l e R s m args below meth c H1 locs1 cells slots Q (F0 m (pc + 3) ls st1)) : W p l e R s m args below meth c H locs cells slots Q (F0 m pc ls st0) := by
  have hPc : va_P D cl wc H := fun k q hq => by obtain ⟨i, -, h⟩ := kc_at hC k q hq; exact hP i q h
  have hDc : va_D A wc := hD.sub isC hd0 hC
  subst hrc
  exact kc_W (va_runV S (hM H.size) cw ⟨KB_blind, va_recv hK hPc hc he, KB_pre hPc hK hDc hNw⟩ rfl hn hsize hstack (lv_room hw8) hdg hf) hP hD hS hA isC isR hC hN hR hall hd0 hst kk
theorem kcVN (S : CallFix p m c cc nL s args Ts own) (hM : Kt l D cl tys y ws rm (.ref b :: As) wc rv w1) (cw : va_CN R s args own index y host bytes maxL ret ws rm 0 0 n ∧ (Cond.instanceMethod y).before args s = true ∧ (Cond.selects C y y).before args s = true) (hNw : NW s) (hK : va_K D cl tys s) (hP : va_P D cl w H) (hD : va_D A w) (hS : va_S A H0 H locs) (hA : ∀ q, H0.size ≤ q → A q) {ci : Nat} {rc : vw_C} {fs : List Value} (hc : cl[ci]? = some rc) (he : wc[0]? = some (b, .inr (ci, fs))) (hrc : rc.1 = C) (isC isR : List Nat) (hC : isC.map (fun i => w[i]?) = wc.map some) (hN : isC.map (fun i => w'[i]?) = w1.map some) (hR : isR.map (fun i => w'[i]?) = isR.map (fun i => w[i]?)) (hall : (List.range w'.length).all (fun i => isC.contains i || (isR.contains i && !isC.contains i)) = true) (hd0 : va_nd isC = true) (hn : As.length = n) (hsize : ls.size = nL) (hstack : st0 = As.reverse ++ .ref b :: rest) (hw8 : (rest.map fun v => v.category).sum ≤ 8) (hst : rv.toList ++ rest = st1) (hdg : decode cc pc = .ok (.invokevirtual index, 3)) (hf : cells ≤ R.cells ∧ slots ≤ R.slots)
    (kk : ∀ (H1 : Heap) (locs1 : List Loc), va_P D cl w' H1 → va_D A w' → va_S A H0 H1 locs1 → W p l e R s m args below meth c H1 locs1 cells slots Q (F0 m (pc + 3) ls st1)) : W p l e R s m args below meth c H locs cells slots Q (F0 m pc ls st0) := by
  have hPc : va_P D cl wc H := fun k q hq => by obtain ⟨i, -, h⟩ := kc_at hC k q hq; exact hP i q h
  have hDc : va_D A wc := hD.sub isC hd0 hC
  subst hrc
  exact kc_W (va_runVN S (hM H.size) cw ⟨KB_blind, va_recv hK hPc hc he, KB_pre hPc hK hDc hNw⟩ rfl hn hsize hstack (lv_room hw8) hdg hf) hP hD hS hA isC isR hC hN hR hall hd0 hst kk
theorem kcU (S : CallFix p m c cc nL s args Ts own) (hM : Kt l D cl tys y ws rm (.ref b :: As) wc rv w1) (cw : va_CU R s args own C owner index x y bytes maxL ret ws rm 0 0 n) (hNw : NW s) (hK : va_K D cl tys s) (hP : va_P D cl w H) (hD : va_D A w) (hS : va_S A H0 H locs) (hA : ∀ q, H0.size ≤ q → A q) {ci : Nat} {rc : vw_C} {fs : List Value} (hc : cl[ci]? = some rc) (he : wc[0]? = some (b, .inr (ci, fs))) (hrc : rc.1 = C) (isC isR : List Nat) (hC : isC.map (fun i => w[i]?) = wc.map some) (hN : isC.map (fun i => w'[i]?) = w1.map some) (hR : isR.map (fun i => w'[i]?) = isR.map (fun i => w[i]?)) (hall : (List.range w'.length).all (fun i => isC.contains i || (isR.contains i && !isC.contains i)) = true) (hd0 : va_nd isC = true) (hn : As.length = n) (hsize : ls.size = nL) (hstack : st0 = As.reverse ++ .ref b :: rest) (hw8 : (rest.map fun v => v.category).sum ≤ 8) (hst : rv.toList ++ rest = st1) (hdg : decode cc pc = .ok (.invokevirtual index, 3)) (hf : cells ≤ R.cells ∧ slots ≤ R.slots)
    (kk : ∀ (H1 : Heap) (locs1 : List Loc), va_P D cl w' H1 → va_D A w' → va_S A H0 H1 locs1 → W p l e R s m args below meth c H1 locs1 cells slots Q (F0 m (pc + 3) ls st1)) : W p l e R s m args below meth c H locs cells slots Q (F0 m pc ls st0) := by
  have hPc : va_P D cl wc H := fun k q hq => by obtain ⟨i, -, h⟩ := kc_at hC k q hq; exact hP i q h
  have hDc : va_D A wc := hD.sub isC hd0 hC
  subst hrc
  exact kc_W (va_runU S (hM H.size) cw ⟨KB_blind, va_recv hK hPc hc he, KB_pre hPc hK hDc hNw⟩ rfl hn hsize hstack (lv_room hw8) hdg hf) hP hD hS hA isC isR hC hN hR hall hd0 hst kk
theorem kcS (S : CallFix p m c cc nL s args Ts own) (hM : Kt l D cl tys y ws rm As wc rv w1) (cw : CallB R s args own index y bytes maxL ret ws rm 0 0 n ∧ (Cond.static y).before args s = true) (hNw : NW s) (hK : va_K D cl tys s) (hP : va_P D cl w H) (hD : va_D A w) (hS : va_S A H0 H locs) (hA : ∀ q, H0.size ≤ q → A q) (isC isR : List Nat) (hC : isC.map (fun i => w[i]?) = wc.map some) (hN : isC.map (fun i => w'[i]?) = w1.map some) (hR : isR.map (fun i => w'[i]?) = isR.map (fun i => w[i]?)) (hall : (List.range w'.length).all (fun i => isC.contains i || (isR.contains i && !isC.contains i)) = true) (hd0 : va_nd isC = true) (hn : As.length = n) (hsize : ls.size = nL) (hstack : st0 = As.reverse ++ rest) (hw8 : (rest.map fun v => v.category).sum ≤ 8) (hst : rv.toList ++ rest = st1) (hdg : decode cc pc = .ok (.invokestatic index, 3)) (hf : cells ≤ R.cells ∧ slots ≤ R.slots)
    (kk : ∀ (H1 : Heap) (locs1 : List Loc), va_P D cl w' H1 → va_D A w' → va_S A H0 H1 locs1 → W p l e R s m args below meth c H1 locs1 cells slots Q (F0 m (pc + 3) ls st1)) : W p l e R s m args below meth c H locs cells slots Q (F0 m pc ls st0) := by
  have hPc : va_P D cl wc H := fun k q hq => by obtain ⟨i, -, h⟩ := kc_at hC k q hq; exact hP i q h
  have hDc : va_D A wc := hD.sub isC hd0 hC
  exact kc_W (va_runS S (hM H.size) cw ⟨KB_blind, KB_pre hPc hK hDc hNw⟩ rfl hn hsize hstack (lv_room hw8) hdg hf) hP hD hS hA isC isR hC hN hR hall hd0 hst kk
theorem kcSN (S : CallFix p m c cc nL s args Ts own) (hM : Kt l D cl tys y ws rm As wc rv w1) (cw : va_CN R s args own index y host bytes maxL ret ws rm 0 0 n ∧ (Cond.static y).before args s = true ∧ True) (hNw : NW s) (hK : va_K D cl tys s) (hP : va_P D cl w H) (hD : va_D A w) (hS : va_S A H0 H locs) (hA : ∀ q, H0.size ≤ q → A q) (isC isR : List Nat) (hC : isC.map (fun i => w[i]?) = wc.map some) (hN : isC.map (fun i => w'[i]?) = w1.map some) (hR : isR.map (fun i => w'[i]?) = isR.map (fun i => w[i]?)) (hall : (List.range w'.length).all (fun i => isC.contains i || (isR.contains i && !isC.contains i)) = true) (hd0 : va_nd isC = true) (hn : As.length = n) (hsize : ls.size = nL) (hstack : st0 = As.reverse ++ rest) (hw8 : (rest.map fun v => v.category).sum ≤ 8) (hst : rv.toList ++ rest = st1) (hdg : decode cc pc = .ok (.invokestatic index, 3)) (hf : cells ≤ R.cells ∧ slots ≤ R.slots)
    (kk : ∀ (H1 : Heap) (locs1 : List Loc), va_P D cl w' H1 → va_D A w' → va_S A H0 H1 locs1 → W p l e R s m args below meth c H1 locs1 cells slots Q (F0 m (pc + 3) ls st1)) : W p l e R s m args below meth c H locs cells slots Q (F0 m pc ls st0) := by
  have hPc : va_P D cl wc H := fun k q hq => by obtain ⟨i, -, h⟩ := kc_at hC k q hq; exact hP i q h
  have hDc : va_D A wc := hD.sub isC hd0 hC
  exact kc_W (va_runSN S (hM H.size) cw ⟨KB_blind, KB_pre hPc hK hDc hNw⟩ rfl hn hsize hstack (lv_room hw8) hdg hf) hP hD hS hA isC isR hC hN hR hall hd0 hst kk
end KC
section KR
variable {p : Program} {l : Launch} {e : Env} {R : Room} {s : State} {m : MethodId} {args : Array Value} {below : List Frame} {meth : Method} {c : Code} {H : Heap} {locs : List Loc} {cc : ByteArray} {pc maxL : Nat} {ls : Array Slot} {D : va_G} {cl : List vw_C} {A : Nat → Prop} {tys : List (ClassId × FieldType)} {wc w1 : va_W} {rv : Option Value} {y : MethodName} {ret : Option FieldType} {rm : Room} {av : List Value}
/-- where a method's walk must come to -/
def KZ (below : List Frame) (args : Array Value) (s : State) (D : va_G) (cl : List vw_C) (rv : Option Value) (w1 : va_W) (A : Nat → Prop) : State → Prop :=
  MQ below (fun _ st oc t => (oc = .returned rv ∧ va_P D cl w1 t.heap ∧ va_D A w1) ∧ va_F A st t) args s 0 0 A
/-- a contract out of the walk of its body -/
theorem Kt_of (hy : plainName y.cls = true) (hlen : (lg_sl av).length ≤ maxL)
    (body : ∀ (p : Program) (e : Env) (s : State) (m : MethodId) (args : Array Value) (below : List Frame) (meth : Method) (c : Code) (A : Nat → Prop) (ls : Array Slot), p.tables.exec = Jvm.exec → c.code = cc → meth.sig.returnType = ret → c.maxLocals = maxL → meth.locks = false → s.vm.findClass y.cls = some m.cls → (∀ w ∈ tb, w.before args s = true) → NW s → va_K D cl tys s → va_P D cl wc s.heap → va_D A wc → (∀ q, s.heap.size ≤ q → A q) → va_S A s.heap s.heap [] → lv_has ls maxL (lv_args 0 av) → W p l e rm s m args below meth c s.heap [] 0 0 (KZ below args s D cl rv w1 A) (F0 m 0 ls [])) :
    Kt l D cl tys y (wz y cc maxL ret) rm av wc rv w1 := by
  intro sz
  refine Met.ofW (cc := cc) (maxL := maxL) (ret := ret) hy rfl ?_
  intro p e s m args below meth c s₁ B hml hv
  obtain ⟨rfl, hsz, hP, hK, hD0, hN⟩ := hv
  have hts := atoms_spec (ws := wz y cc maxL ret) B.pre
  have hown := findClass_of_methodNamed B.named
  subst hsz
  have hl := lv_entry av (n := maxL) hlen
  rw [lg_entry_eq]
  exact body p e s m _ below meth c (va_A wc s.heap.size) _ B.exec B.bytes B.returns hml B.notSynchronized hown (fun w h => hts w (List.mem_cons_of_mem _ h)) hN hK hP hD0.self (fun q h => Or.inr h) va_S.rf hl
theorem kr_i {v : Int32} (hx : p.tables.exec = Jvm.exec) (hb : c.code = cc) (hr : meth.sig.returnType = some .int) (hlocks : meth.locks = false) (hP : va_P D cl w1 H) (hD : va_D A w1) (hS : va_S A s.heap H locs) (hdg : decode cc pc = .ok (.ireturn, 1)) :
    W p l e R s m args below meth c H locs 0 0 (KZ below args s D cl (some (.int v)) w1 A) (F0 m pc ls [.int v]) :=
  W.iret hx hb hr (fun t ht hW => ⟨⟨rfl, by rw [ht]; exact hP, hD⟩, hS.F ht⟩) hS.2.2 hdg hlocks
theorem kr_z {v : Int32} (hx : p.tables.exec = Jvm.exec) (hb : c.code = cc) (hr : meth.sig.returnType = some .boolean) (hv : bB v = true) (hlocks : meth.locks = false) (hP : va_P D cl w1 H) (hD : va_D A w1) (hS : va_S A s.heap H locs) (hdg : decode cc pc = .ok (.ireturn, 1)) :
    W p l e R s m args below meth c H locs 0 0 (KZ below args s D cl (some (.int v)) w1 A) (F0 m pc ls [.int v]) :=
  W.zret hx hb hr (bB_narrow hv) (fun t ht hW => ⟨⟨rfl, by rw [ht]; exact hP, hD⟩, hS.F ht⟩) hS.2.2 hdg hlocks
theorem kr_l {v : Int64} (hx : p.tables.exec = Jvm.exec) (hb : c.code = cc) (hr : meth.sig.returnType = some .long) (hlocks : meth.locks = false) (hP : va_P D cl w1 H) (hD : va_D A w1) (hS : va_S A s.heap H locs) (hdg : decode cc pc = .ok (.lreturn, 1)) :
    W p l e R s m args below meth c H locs 0 0 (KZ below args s D cl (some (.long v)) w1 A) (F0 m pc ls [.long v]) :=
  W.lret hx hb hr (fun t ht hW => ⟨⟨rfl, by rw [ht]; exact hP, hD⟩, hS.F ht⟩) hS.2.2 hdg hlocks
theorem kr_v (hx : p.tables.exec = Jvm.exec) (hb : c.code = cc) (hr : meth.sig.returnType = none) (hlocks : meth.locks = false) (hP : va_P D cl w1 H) (hD : va_D A w1) (hS : va_S A s.heap H locs) (hdg : decode cc pc = .ok (.return_, 1)) :
    W p l e R s m args below meth c H locs 0 0 (KZ below args s D cl none w1 A) (F0 m pc ls []) :=
  W.vret hx hb hr (fun t ht hW => ⟨⟨rfl, by rw [ht]; exact hP, hD⟩, hS.F ht⟩) hS.2.2 hdg hlocks
end KR
theorem bB_fits {v : Int32} (h : bB v = true) : fits .boolean (.int v) = true := by
  unfold bB at h
  rcases (Bool.or_eq_true _ _).mp h with h1 | h1
  · rw [of_decide_eq_true h1]; decide +kernel
  · rw [of_decide_eq_true h1]; decide +kernel
theorem sw_by {x k : Int32} {P : Prop} (a : x = k → P) (b : ¬ x = k → P) : P := by
  by_cases h : x = k
  · exact a h
  · exact b h
theorem sw_ne {x k : Int32} {z : Int} (h : ¬ x = k) (hk : k.toInt = z) : x.toInt ≠ z := by
  intro e
  exact h (Int32.toInt_inj.mp (e.trans hk.symm))
theorem sw_in {p : Program} {l : Launch} {e : Env} {R : Room} {s : State} {m : MethodId} {args : Array Value} {below : List Frame} {meth : Method} {c : Code} {H : Heap} {locs : List Loc} {cells slots pc : Nat} {Q : State → Prop} {ls : Array Slot} {rest : List Value} {x k : Int32} (hc : x = k)
    (h : W p l e R s m args below meth c H locs cells slots Q (F0 m pc ls (.int k :: rest))) : W p l e R s m args below meth c H locs cells slots Q (F0 m pc ls (.int x :: rest)) := by
  rw [hc]; exact h
