/-! member() -/
def retB (T : AT) (v : Int32) (l : List Nat) : Bool := l.any (fun x => decide (aS T x = 3) && decide (aV T x = v))
theorem cl_hasReturn {tr : TrS} {T : AT} {ks : List Nat} {fs : Nat → Nat} {rl : List Nat} (h : TrR tr T ks fs rl) (hw : WT T) {N r : Nat} (hN : 100 < N) (hr : r < aN T) {lk : LkS} (hl : Lk_length lk = nI (pre T r).length) (hod : OdR (Lk_order lk) (pre T r)) (v : Int32) : f_Lk_hasReturn N v lk tr = some (bi (retB T v (pre T r))) := by
  have hn := h.2.1
  have hlr := pre_len hw hr
  have key : ∀ (S O : List Nat) (fuel : Nat), pre T r = O ++ S → S.length < fuel → lp (f_Lk_hasReturn_L2 N v lk tr) fuel (nI O.length) = some (bi (retB T v S)) := by
    intro S
    induction S with
    | nil =>
      intro O fuel hO hf
      rw [List.append_nil] at hO
      match fuel, hf with
      | fuel + 1, _ =>
        show f_Lk_hasReturn_L2 N v lk tr _ _ = _
        rw [f_Lk_hasReturn_L2.eq_1, hl, hO, if_pos (nI_le (Nat.le_refl _) (by rw [← hO]; omega))]; rfl
    | cons x S ih =>
      intro O fuel hO hf
      have hx : x ∈ pre T r := by rw [hO]; simp
      have hxn := pre_lt hw hr hx
      have hOl : O.length < (pre T r).length := by rw [hO]; simp
      have hox : Lk_order lk O.length = nI x := hod O.length x (by rw [hO]; simp)
      match fuel, hf with
      | fuel + 1, hf =>
        have e1 := ih (O ++ [x]) fuel (by rw [hO]; simp) (by simpa using hf)
        rw [show (O ++ [x]).length = O.length + 1 by simp, ← nI_1] at e1
        obtain ⟨b1, b2, -⟩ := h.2.2.2.1 x hxn
        show f_Lk_hasReturn_L2 N v lk tr _ _ = _
        rw [f_Lk_hasReturn_L2.eq_1, hl, if_neg (nI_ge hOl (by omega)), if_pos (inB_nI (show O.length < 60 by omega) (by decide)), if_pos (inB_nI (show O.length < 60 by omega) (by decide)), nI_clamp (show O.length < 2 ^ 31 by omega), hox, if_pos (inB_nI (show x < 60 by omega) (by decide)), if_pos (inB_nI (show x < 60 by omega) (by decide)), nI_clamp (show x < 2 ^ 31 by omega), b1, b2, e1]
        unfold retB
        by_cases c1 : aS T x = 3
        · rw [if_pos c1]
          by_cases c2 : aV T x = v
          · rw [if_pos c2]; simp [c1, c2, bi]
          · rw [if_neg c2]; simp [c2]
        · rw [if_neg c1]; simp [c1]
  rw [f_Lk_hasReturn.eq_1]
  exact key (pre T r) [] N rfl (by omega)
def jdg (x : Int32) (w o e : Bool) : Int32 := if x = 0 then (if w = true then 6 else 0) else if x = 1 then (if o = true then 6 else if e = true then 7 else 0) else if x = 2 then (if w = true then 6 else if o = true then 6 else if e = true then 0 else 8) else (if w = true then (if o = true then 9 else if e = true then 9 else 0) else 0)
theorem md_memberL {mb : MbS} {T : AT} {rl : List Nat} (h : MbR mb T rl) (hw : WT T) (hn60 : aN T ≤ 60) {N r : Nat} (hN : 100 < N) (hr : r < aN T) {mg : MgS} {mx : MxS} {mf : MfS} (hg : Mg_root mg = nI r) (hrt : Mg_rooted mg = nI (pre T r).length) (hod : OdR (Mg_order mg) (pre T r)) (x2 : Int32) {e : Bool} (he : Mx_isComplete mx r = bi e) : lp (f_Md_member_L47 N x2 mb) N (0, 0, 0, mg, mx, mf) = some (jdg x2 (retB T 1 (pre T r)) (retB T 0 (pre T r)) e, mg, mx, mf) := by
  have hlr := pre_len hw hr
  have key : ∀ (S O : List Nat) (a b : Bool) (fuel : Nat), pre T r = O ++ S → S.length < fuel → lp (f_Md_member_L47 N x2 mb) fuel (bi a, bi b, nI O.length, mg, mx, mf) = some (jdg x2 (a || retB T 1 S) (b || retB T 0 S) e, mg, mx, mf) := by
    intro S
    induction S with
    | nil =>
      intro O a b fuel hO hf
      rw [List.append_nil] at hO
      match fuel, hf with
      | fuel + 1, _ =>
        have hun : lp (f_Md_member_L47 N x2 mb) (fuel + 1) (bi a, bi b, nI O.length, mg, mx, mf) = _ := f_Md_member_L47.eq_1 N x2 mb (lp (f_Md_member_L47 N x2 mb) fuel) (bi a, bi b, nI O.length, mg, mx, mf)
        simp only [hrt, hO, if_pos (nI_le (Nat.le_refl O.length) (show O.length < 2 ^ 31 by rw [← hO]; omega)), hg, if_pos (inB_nI (show r < 60 by omega) (show (60 : Nat) < 2 ^ 31 by decide)), nI_clamp (show r < 2 ^ 31 by omega), he, b0] at hun
        rw [hun]
        unfold jdg retB
        by_cases c0 : x2 = 0
        · rw [if_pos c0, if_pos c0]; cases a <;> simp
        · rw [if_neg c0, if_neg c0]
          by_cases c1 : x2 = 1
          · rw [if_pos c1, if_pos c1]; cases b <;> cases e <;> simp
          · rw [if_neg c1, if_neg c1]
            by_cases c2 : x2 = 2
            · rw [if_pos c2, if_pos c2]; cases a <;> cases b <;> cases e <;> simp
            · rw [if_neg c2, if_neg c2]; cases a <;> cases b <;> cases e <;> simp
    | cons x S ih =>
      intro O a b fuel hO hf
      have hx : x ∈ pre T r := by rw [hO]; simp
      have hxn := pre_lt hw hr hx
      have hOl : O.length < (pre T r).length := by rw [hO]; simp
      have hox : Mg_order mg O.length = nI x := hod O.length x (by rw [hO]; simp)
      match fuel, hf with
      | fuel + 1, hf =>
        have ih1 := fun a b => ih (O ++ [x]) a b fuel (by rw [hO]; simp) (by simpa using hf)
        rw [show (O ++ [x]).length = O.length + 1 by simp] at ih1
        have hun : lp (f_Md_member_L47 N x2 mb) (fuel + 1) (bi a, bi b, nI O.length, mg, mx, mf) = _ := f_Md_member_L47.eq_1 N x2 mb (lp (f_Md_member_L47 N x2 mb) fuel) (bi a, bi b, nI O.length, mg, mx, mf)
        simp only [hrt, if_neg (nI_ge hOl (show (pre T r).length < 2 ^ 31 by omega)), if_pos (inB_nI (show O.length < 60 by omega) (show (60 : Nat) < 2 ^ 31 by decide)), nI_clamp (show O.length < 2 ^ 31 by omega), hox, if_pos (inB_nI (show x < 60 by omega) (show (60 : Nat) < 2 ^ 31 by decide)), nI_clamp (show x < 2 ^ 31 by omega), (h.2.1 x hxn).1, (h.2.1 x hxn).2.1, b0, f_Md_member_b92.eq_1, f_Md_member_b96.eq_1, f_Md_member_b97.eq_1, f_Md_member_b134.eq_1, f_Md_member_b138.eq_1, f_Md_member_b139.eq_1, nI_1] at hun
        rw [hun]
        have i11 := ih1 true true
        have i10 := ih1 true false
        have i01 := ih1 false true
        have i00 := ih1 false false
        have i11 : lp (f_Md_member_L47 N x2 mb) fuel (1, 1, nI (O.length + 1), mg, mx, mf) = _ := i11
        have i10 : lp (f_Md_member_L47 N x2 mb) fuel (1, 0, nI (O.length + 1), mg, mx, mf) = _ := i10
        have i01 : lp (f_Md_member_L47 N x2 mb) fuel (0, 1, nI (O.length + 1), mg, mx, mf) = _ := i01
        have i00 : lp (f_Md_member_L47 N x2 mb) fuel (0, 0, nI (O.length + 1), mg, mx, mf) = _ := i00
        rw [i11, i10, i01, i00]
        have er : ∀ v, retB T v (x :: S) = ((decide (aS T x = 3) && decide (aV T x = v)) || retB T v S) := fun v => by unfold retB; simp
        rw [er, er]
        by_cases c3 : aS T x = 3
        · by_cases v1 : aV T x = 1
          · have v0 : ¬ aV T x = 0 := by rw [v1]; decide
            cases a <;> cases b <;> simp [c3, v1]
          · by_cases v0 : aV T x = 0
            · cases a <;> cases b <;> simp [c3, v0]
            · cases a <;> cases b <;> simp [c3, v0, v1]
        · cases a <;> cases b <;> simp [c3]
  exact key (pre T r) [] false false N rfl (by omega)
theorem s_member {N : Nat} (hN : 10000 < N) : S_member N Rel := by
  intro kn tr rw lk f0 f1 mb mg mx mf x x2 hR
  have hR' := hR
  obtain ⟨K, ab, B, T, ks, fs, rk, rl, hB, hL⟩ := hR
  have ht := hB.2.2.2.2.1
  have hm := hB.2.2.2.2.2.1
  have hw := hB.2.2.2.2.2.2.1
  have hn := ht.2.1
  rw [f_Rf_member.eq_1, f_Md_member.eq_1, tr_has ht.1 hn, md_isNode hm.1 hn, f_Md_isIn.eq_1]
  simp only [Option.bind_some, b0]
  by_cases hx : inB x (aN T) = true
  · obtain ⟨r, hr, rfl⟩ := inB_of hx (by omega)
    simp only [if_pos hx]
    by_cases c0 : x2 < 0
    · simp only [if_pos c0]
      exact ⟨_, _, rfl, rfl, rfl, hR'⟩
    · simp only [if_neg c0]
      by_cases c3 : x2 ≤ 3
      · have c3' : ¬ (3 : Int32) < x2 := by
          rw [Int32.lt_iff_toInt_lt]
          rw [Int32.le_iff_toInt_le] at c3
          omega
        simp only [if_pos c3, if_neg c3']
        obtain ⟨lk', f0', f1', mg', mx', mf', a1, a2, a3, a4, a5, a6, a7, a8, ⟨F, q0, q1, q2, q3⟩, a9⟩ := look_eq (lk := lk) (f0 := f0) (f1 := f1) (mg := mg) (mx := mx) (mf := mf) hB hN hr
        rw [a1, a2]
        simp only [Option.bind_some]
        rw [if_neg (show ¬ (1 : Int32) = 0 by decide), q1, q2]
        by_cases cF : nI F.length ≤ 0
        · rw [if_pos cF, if_pos cF]
          have hj : f_Rf_judge N (nI r) x2 tr lk' f0' = some (jdg x2 (retB T 1 (pre T r)) (retB T 0 (pre T r)) (lb (Fl_normal f0') r)) := by
            rw [f_Rf_judge.eq_1, cl_hasReturn ht hw (by omega) hr a4 a5 1, cl_hasReturn ht hw (by omega) hr a4 a5 0, fl_normal f0' (by omega)]
            simp only [Option.bind_some, b0]
            unfold jdg
            by_cases d0 : x2 = 0
            · rw [if_pos d0, if_pos d0]; cases retB T 1 (pre T r) <;> simp
            · rw [if_neg d0, if_neg d0]
              by_cases d1 : x2 = 1
              · rw [if_pos d1, if_pos d1]; cases retB T 0 (pre T r) <;> cases lb (Fl_normal f0') r <;> simp
              · rw [if_neg d1, if_neg d1]
                by_cases d2 : x2 = 2
                · rw [if_pos d2, if_pos d2]; cases retB T 1 (pre T r) <;> cases retB T 0 (pre T r) <;> cases lb (Fl_normal f0') r <;> simp
                · rw [if_neg d2, if_neg d2]; cases retB T 1 (pre T r) <;> cases retB T 0 (pre T r) <;> cases lb (Fl_normal f0') r <;> simp
          rw [hj, md_memberL hm hw hn (by omega) hr a8 a6 a7 x2 a9]
          exact ⟨_, _, rfl, rfl, rfl, K, ab, B, T, ks, fs, rk, rl, hB, a3⟩
        · rw [if_neg cF, if_neg cF, if_pos (by decide), if_pos (by decide)]
          refine ⟨_, _, rfl, rfl, ?_, K, ab, B, T, ks, fs, rk, rl, hB, a3⟩
          have hne : F.length ≠ 0 := fun e => cF (by rw [e]; decide)
          cases F with
          | nil => exact absurd rfl hne
          | cons p F =>
            obtain ⟨u1, u2⟩ := q3 p rfl
            show Lk_faultSort lk' 0 = Mf_faultKind mf' 0
            rw [u1, u2]
      · have c3' : (3 : Int32) < x2 := by
          rw [Int32.lt_iff_toInt_lt]
          rw [Int32.le_iff_toInt_le] at c3
          omega
        simp only [if_neg c3, if_pos c3']
        exact ⟨_, _, rfl, rfl, rfl, hR'⟩
  · simp only [if_neg hx]
    exact ⟨_, _, rfl, rfl, rfl, hR'⟩
