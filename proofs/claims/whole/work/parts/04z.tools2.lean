/-- the world behind a call: the callee's places isC hold w1 now, the places isR what they held -/
theorem kd_join {A0 : Nat → Prop} {D : va_G} {cl : List vw_C} {ws wc w1 w' wr : va_W} {H H1 : Heap} (hP : va_P D cl ws H) (hD : va_D A0 ws) (isC isR : List Nat) (hC : isC.map (fun i => ws[i]?) = wc.map some) (hN : isC.map (fun i => w'[i]?) = w1.map some) (hR : isR.map (fun i => w'[i]?) = wr.map some) (hR0 : isR.map (fun i => ws[i]?) = wr.map some) {nn : Nat} (hlen : w'.length = nn) (hall : (List.range nn).all (fun i => isC.contains i || (isR.contains i && !isC.contains i)) = true) (hd0 : va_nd isC = true)
    (hk : ∀ q : Nat, q < H.size → ¬ va_A wc H.size q → H1[q]? = H[q]?) (hF : ∀ q, va_A wc H.size q → A0 q) (hP1 : va_P D cl w1 H1) (hD1 : va_D (va_A wc H.size) w1) : va_P D cl w' H1 ∧ va_D A0 w' := by
  have kind : ∀ (i : Nat) (q : Nat × va_E), w'[i]? = some q → (∃ k : Nat, isC[k]? = some i ∧ w1[k]? = some q) ∨ (i ∉ isC ∧ ws[i]? = some q) := by
    intro i q hq
    have hl : i < nn := by rw [← hlen]; exact (List.getElem?_eq_some_iff.mp hq).1
    have hm := List.all_eq_true.mp hall i (List.mem_range.mpr hl)
    by_cases hc : i ∈ isC
    · obtain ⟨k, hk2⟩ := List.getElem?_of_mem hc
      exact Or.inl ⟨k, hk2, kc_to hN k i q hk2 hq⟩
    · have hr : i ∈ isR := by
        simp [hc] at hm
        exact hm
      obtain ⟨k, hk2⟩ := List.getElem?_of_mem hr
      have h1 : (isR.map (fun i => w'[i]?))[k]? = some (some q) := by rw [List.getElem?_map, hk2]; exact congrArg some hq
      rw [hR, ← hR0, List.getElem?_map, hk2] at h1
      exact Or.inr ⟨hc, Option.some.inj h1⟩
  have apart : ∀ (i : Nat) (q : Nat × va_E), i ∉ isC → ws[i]? = some q → q.1 < H.size ∧ ¬ va_A wc H.size q.1 := by
    intro i q hi h2
    have hl := (hP i q h2).lt
    refine ⟨hl, fun h => ?_⟩
    rcases h with ⟨k2, e, h⟩ | h
    · obtain ⟨j, h3, h4⟩ := kc_at hC k2 (q.1, e) h
      have hij := hD.1 i j q (q.1, e) h2 h4 rfl
      subst hij
      exact hi (List.mem_of_getElem? h3)
    · omega
  refine ⟨fun i q hq => ?_, ⟨fun i j x y hx hy hxy => ?_, fun i q hq => ?_⟩⟩
  · rcases kind i q hq with ⟨k, -, h1⟩ | ⟨h0, h1⟩
    · exact hP1 k q h1
    · obtain ⟨g1, g2⟩ := apart i q h0 h1
      exact (hP i q h1).kept (hk q.1 g1 g2)
  · rcases kind i x hx with ⟨k, hk1, h1⟩ | ⟨h0, h1⟩
    · rcases kind j y hy with ⟨k2, hk2, h2⟩ | ⟨h0', h2⟩
      · have e := hD1.1 k k2 x y h1 h2 hxy
        subst e
        rw [hk1] at hk2
        exact Option.some.inj hk2
      · exact absurd (by rw [← hxy]; exact hD1.2 k x h1) (apart j y h0' h2).2
    · rcases kind j y hy with ⟨k2, hk2, h2⟩ | ⟨h0', h2⟩
      · exact absurd (by rw [hxy]; exact hD1.2 k2 y h2) (apart i x h0 h1).2
      · exact hD.1 i j x y h1 h2 hxy
  · rcases kind i q hq with ⟨k, -, h1⟩ | ⟨h0, h1⟩
    · exact hF q.1 (hD1.2 k q h1)
    · exact hD.2 i q h1
section KD
variable {p : Program} {l : Launch} {e : Env} {R : Room} {s : State} {m : MethodId} {args : Array Value} {below : List Frame} {meth : Method} {c : Code} {H : Heap} {locs : List Loc} {cells slots : Nat} {Q : State → Prop} {cc bytes : ByteArray} {pc nL maxL index n : Nat} {ls : Array Slot} {rest st0 st1 As : List Value} {D : va_G} {cl : List vw_C} {A : Nat → Prop} {tys : List (ClassId × FieldType)} {H0 : Heap} {w wc w1 w' wr : va_W} {rv : Option Value} {av : Array Value} {Ts ws : List Cond} {own host C owner : String} {y x : MethodName} {ret : Option FieldType} {rm : Room} {b : Nat}
/-- a call that has run, into the world behind it -/
theorem kd_W (hr : va_Run p l e R s m args below meth c H locs cells slots 0 0 (F0 m pc ls st0) rest (KQ D cl rv w1 wc H.size av) (va_A wc H.size)) (hP : va_P D cl w H) (hD : va_D A w) (hS : va_S A H0 H locs) (hA : ∀ q, H0.size ≤ q → A q) (isC isR : List Nat) (hC : isC.map (fun i => w[i]?) = wc.map some) (hN : isC.map (fun i => w'[i]?) = w1.map some) (hR : isR.map (fun i => w'[i]?) = wr.map some) (hR0 : isR.map (fun i => w[i]?) = wr.map some) {nn : Nat} (hlen : w'.length = nn) (hall : (List.range nn).all (fun i => isC.contains i || (isR.contains i && !isC.contains i)) = true) (hd0 : va_nd isC = true) (hst : rv.toList ++ rest = st1)
    (kk : ∀ (H1 : Heap) (locs1 : List Loc), va_P D cl w' H1 → va_D A w' → va_S A H0 H1 locs1 → W p l e R s m args below meth c H1 locs1 cells slots Q (F0 m (pc + 3) ls st1)) : W p l e R s m args below meth c H locs cells slots Q (F0 m pc ls st0) := by
  intro T hT X
  obtain ⟨v, st₀, t, T', L, h0, X', hL, e1, e2, ⟨⟨hv, hp, hdd⟩, hz, hk⟩, st⟩ := hr T hT X
  cases hv
  rw [h0] at hz hk
  have hF := va_free (wc := wc) hD hS hA isC hC
  rw [← e1] at hp hz hk
  obtain ⟨hP', hD'⟩ := kd_join hP hD isC isR hC hN hR hR0 hlen hall hd0 hk hF hp hdd
  obtain ⟨t2, a1, b1⟩ := kk T'.heap (locs ++ L) hP' hD'
    ⟨Nat.le_trans hS.1 hz, fun q h1 h2 => by rw [hk q (Nat.lt_of_lt_of_le h1 hS.1) (fun z => h2 (hF q z))]; exact hS.2.1 q h1 h2, fun q hq => by
      rcases List.mem_append.mp hq with h | h
      · exact hS.2.2 q h
      · exact hF _ (hL q h)⟩ T' rfl X'
  subst hst
  exact ⟨t2, st t2 a1, b1⟩
/-- calls, by their kind: virtual; a nest mate's; inherited or abstract; static; a nest mate's static -/
theorem kdV (S : CallFix p m c cc nL s args Ts own) (hM : Kt l D cl tys y ws rm (.ref b :: As) wc rv w1) (cw : CallW R s args own C index y bytes maxL ret ws rm 0 0 n) (hNw : NW s) (hK : va_K D cl tys s) (hP : va_P D cl w H) (hD : va_D A w) (hS : va_S A H0 H locs) (hA : ∀ q, H0.size ≤ q → A q) {ci : Nat} {rc : vw_C} {fs : List Value} (hc : cl[ci]? = some rc) (he : wc[0]? = some (b, .inr (ci, fs))) (hrc : rc.1 = C) (isC isR : List Nat) (hC : isC.map (fun i => w[i]?) = wc.map some) (hN : isC.map (fun i => w'[i]?) = w1.map some) (hR : isR.map (fun i => w'[i]?) = wr.map some) (hR0 : isR.map (fun i => w[i]?) = wr.map some) {nn : Nat} (hlen : w'.length = nn) (hall : (List.range nn).all (fun i => isC.contains i || (isR.contains i && !isC.contains i)) = true) (hd0 : va_nd isC = true) (hn : As.length = n) (hsize : ls.size = nL) (hstack : st0 = As.reverse ++ .ref b :: rest) (hw8 : (rest.map fun v => v.category).sum ≤ 8) (hst : rv.toList ++ rest = st1) (hdg : decode cc pc = .ok (.invokevirtual index, 3)) (hf : cells ≤ R.cells ∧ slots ≤ R.slots)
    (kk : ∀ (H1 : Heap) (locs1 : List Loc), va_P D cl w' H1 → va_D A w' → va_S A H0 H1 locs1 → W p l e R s m args below meth c H1 locs1 cells slots Q (F0 m (pc + 3) ls st1)) : W p l e R s m args below meth c H locs cells slots Q (F0 m pc ls st0) := by
  have hPc : va_P D cl wc H := fun k q hq => by obtain ⟨i, -, h⟩ := kc_at hC k q hq; exact hP i q h
  have hDc : va_D A wc := hD.sub isC hd0 hC
  subst hrc
  exact kd_W (va_runV S (hM H.size) cw ⟨KB_blind, va_recv hK hPc hc he, KB_pre hPc hK hDc hNw⟩ rfl hn hsize hstack (lv_room hw8) hdg hf) hP hD hS hA isC isR hC hN hR hR0 hlen hall hd0 hst kk
theorem kdVN (S : CallFix p m c cc nL s args Ts own) (hM : Kt l D cl tys y ws rm (.ref b :: As) wc rv w1) (cw : va_CN R s args own index y host bytes maxL ret ws rm 0 0 n ∧ (Cond.instanceMethod y).before args s = true ∧ (Cond.selects C y y).before args s = true) (hNw : NW s) (hK : va_K D cl tys s) (hP : va_P D cl w H) (hD : va_D A w) (hS : va_S A H0 H locs) (hA : ∀ q, H0.size ≤ q → A q) {ci : Nat} {rc : vw_C} {fs : List Value} (hc : cl[ci]? = some rc) (he : wc[0]? = some (b, .inr (ci, fs))) (hrc : rc.1 = C) (isC isR : List Nat) (hC : isC.map (fun i => w[i]?) = wc.map some) (hN : isC.map (fun i => w'[i]?) = w1.map some) (hR : isR.map (fun i => w'[i]?) = wr.map some) (hR0 : isR.map (fun i => w[i]?) = wr.map some) {nn : Nat} (hlen : w'.length = nn) (hall : (List.range nn).all (fun i => isC.contains i || (isR.contains i && !isC.contains i)) = true) (hd0 : va_nd isC = true) (hn : As.length = n) (hsize : ls.size = nL) (hstack : st0 = As.reverse ++ .ref b :: rest) (hw8 : (rest.map fun v => v.category).sum ≤ 8) (hst : rv.toList ++ rest = st1) (hdg : decode cc pc = .ok (.invokevirtual index, 3)) (hf : cells ≤ R.cells ∧ slots ≤ R.slots)
    (kk : ∀ (H1 : Heap) (locs1 : List Loc), va_P D cl w' H1 → va_D A w' → va_S A H0 H1 locs1 → W p l e R s m args below meth c H1 locs1 cells slots Q (F0 m (pc + 3) ls st1)) : W p l e R s m args below meth c H locs cells slots Q (F0 m pc ls st0) := by
  have hPc : va_P D cl wc H := fun k q hq => by obtain ⟨i, -, h⟩ := kc_at hC k q hq; exact hP i q h
  have hDc : va_D A wc := hD.sub isC hd0 hC
  subst hrc
  exact kd_W (va_runVN S (hM H.size) cw ⟨KB_blind, va_recv hK hPc hc he, KB_pre hPc hK hDc hNw⟩ rfl hn hsize hstack (lv_room hw8) hdg hf) hP hD hS hA isC isR hC hN hR hR0 hlen hall hd0 hst kk
theorem kdU (S : CallFix p m c cc nL s args Ts own) (hM : Kt l D cl tys y ws rm (.ref b :: As) wc rv w1) (cw : va_CU R s args own C owner index x y bytes maxL ret ws rm 0 0 n) (hNw : NW s) (hK : va_K D cl tys s) (hP : va_P D cl w H) (hD : va_D A w) (hS : va_S A H0 H locs) (hA : ∀ q, H0.size ≤ q → A q) {ci : Nat} {rc : vw_C} {fs : List Value} (hc : cl[ci]? = some rc) (he : wc[0]? = some (b, .inr (ci, fs))) (hrc : rc.1 = C) (isC isR : List Nat) (hC : isC.map (fun i => w[i]?) = wc.map some) (hN : isC.map (fun i => w'[i]?) = w1.map some) (hR : isR.map (fun i => w'[i]?) = wr.map some) (hR0 : isR.map (fun i => w[i]?) = wr.map some) {nn : Nat} (hlen : w'.length = nn) (hall : (List.range nn).all (fun i => isC.contains i || (isR.contains i && !isC.contains i)) = true) (hd0 : va_nd isC = true) (hn : As.length = n) (hsize : ls.size = nL) (hstack : st0 = As.reverse ++ .ref b :: rest) (hw8 : (rest.map fun v => v.category).sum ≤ 8) (hst : rv.toList ++ rest = st1) (hdg : decode cc pc = .ok (.invokevirtual index, 3)) (hf : cells ≤ R.cells ∧ slots ≤ R.slots)
    (kk : ∀ (H1 : Heap) (locs1 : List Loc), va_P D cl w' H1 → va_D A w' → va_S A H0 H1 locs1 → W p l e R s m args below meth c H1 locs1 cells slots Q (F0 m (pc + 3) ls st1)) : W p l e R s m args below meth c H locs cells slots Q (F0 m pc ls st0) := by
  have hPc : va_P D cl wc H := fun k q hq => by obtain ⟨i, -, h⟩ := kc_at hC k q hq; exact hP i q h
  have hDc : va_D A wc := hD.sub isC hd0 hC
  subst hrc
  exact kd_W (va_runU S (hM H.size) cw ⟨KB_blind, va_recv hK hPc hc he, KB_pre hPc hK hDc hNw⟩ rfl hn hsize hstack (lv_room hw8) hdg hf) hP hD hS hA isC isR hC hN hR hR0 hlen hall hd0 hst kk
theorem kdS (S : CallFix p m c cc nL s args Ts own) (hM : Kt l D cl tys y ws rm As wc rv w1) (cw : CallB R s args own index y bytes maxL ret ws rm 0 0 n ∧ (Cond.static y).before args s = true) (hNw : NW s) (hK : va_K D cl tys s) (hP : va_P D cl w H) (hD : va_D A w) (hS : va_S A H0 H locs) (hA : ∀ q, H0.size ≤ q → A q) (isC isR : List Nat) (hC : isC.map (fun i => w[i]?) = wc.map some) (hN : isC.map (fun i => w'[i]?) = w1.map some) (hR : isR.map (fun i => w'[i]?) = wr.map some) (hR0 : isR.map (fun i => w[i]?) = wr.map some) {nn : Nat} (hlen : w'.length = nn) (hall : (List.range nn).all (fun i => isC.contains i || (isR.contains i && !isC.contains i)) = true) (hd0 : va_nd isC = true) (hn : As.length = n) (hsize : ls.size = nL) (hstack : st0 = As.reverse ++ rest) (hw8 : (rest.map fun v => v.category).sum ≤ 8) (hst : rv.toList ++ rest = st1) (hdg : decode cc pc = .ok (.invokestatic index, 3)) (hf : cells ≤ R.cells ∧ slots ≤ R.slots)
    (kk : ∀ (H1 : Heap) (locs1 : List Loc), va_P D cl w' H1 → va_D A w' → va_S A H0 H1 locs1 → W p l e R s m args below meth c H1 locs1 cells slots Q (F0 m (pc + 3) ls st1)) : W p l e R s m args below meth c H locs cells slots Q (F0 m pc ls st0) := by
  have hPc : va_P D cl wc H := fun k q hq => by obtain ⟨i, -, h⟩ := kc_at hC k q hq; exact hP i q h
  have hDc : va_D A wc := hD.sub isC hd0 hC
  exact kd_W (va_runS S (hM H.size) cw ⟨KB_blind, KB_pre hPc hK hDc hNw⟩ rfl hn hsize hstack (lv_room hw8) hdg hf) hP hD hS hA isC isR hC hN hR hR0 hlen hall hd0 hst kk
theorem kdSN (S : CallFix p m c cc nL s args Ts own) (hM : Kt l D cl tys y ws rm As wc rv w1) (cw : va_CN R s args own index y host bytes maxL ret ws rm 0 0 n ∧ (Cond.static y).before args s = true ∧ True) (hNw : NW s) (hK : va_K D cl tys s) (hP : va_P D cl w H) (hD : va_D A w) (hS : va_S A H0 H locs) (hA : ∀ q, H0.size ≤ q → A q) (isC isR : List Nat) (hC : isC.map (fun i => w[i]?) = wc.map some) (hN : isC.map (fun i => w'[i]?) = w1.map some) (hR : isR.map (fun i => w'[i]?) = wr.map some) (hR0 : isR.map (fun i => w[i]?) = wr.map some) {nn : Nat} (hlen : w'.length = nn) (hall : (List.range nn).all (fun i => isC.contains i || (isR.contains i && !isC.contains i)) = true) (hd0 : va_nd isC = true) (hn : As.length = n) (hsize : ls.size = nL) (hstack : st0 = As.reverse ++ rest) (hw8 : (rest.map fun v => v.category).sum ≤ 8) (hst : rv.toList ++ rest = st1) (hdg : decode cc pc = .ok (.invokestatic index, 3)) (hf : cells ≤ R.cells ∧ slots ≤ R.slots)
    (kk : ∀ (H1 : Heap) (locs1 : List Loc), va_P D cl w' H1 → va_D A w' → va_S A H0 H1 locs1 → W p l e R s m args below meth c H1 locs1 cells slots Q (F0 m (pc + 3) ls st1)) : W p l e R s m args below meth c H locs cells slots Q (F0 m pc ls st0) := by
  have hPc : va_P D cl wc H := fun k q hq => by obtain ⟨i, -, h⟩ := kc_at hC k q hq; exact hP i q h
  have hDc : va_D A wc := hD.sub isC hd0 hC
  exact kd_W (va_runSN S (hM H.size) cw ⟨KB_blind, KB_pre hPc hK hDc hNw⟩ rfl hn hsize hstack (lv_room hw8) hdg hf) hP hD hS hA isC isR hC hN hR hR0 hlen hall hd0 hst kk
end KD
