/-! mustThrow, catches, exits -/
def thT (K : Nat) (T : AT) (B : Nat → Nat → Bool) (cm : Nat → Bool) (th : Nat → Nat → Bool) (n b k : Nat) (is cg : Bool) : Bool := match enT T n with | none => is || (th b k && !cg) | some e => ((is || (th b k && !cg)) && cm e) || th e k
def MtP (K : Nat) (T : AT) (B : Nat → Nat → Bool) (rc cm : Nat → Bool) (th : Nat → Nat → Bool) (n k : Nat) : Prop := rc n = true ∧ (((aS T n = 1 ∨ aS T n = 2) ∧ aV T n = nI k) ∨ (aS T n ≠ 1 ∧ aS T n ≠ 2 ∧ aS T n ≠ 16 ∧ ∃ p ∈ aP T n, th p k = true) ∨ (aS T n = 16 ∧ ∃ b cs, frT T n = b :: cs ∧ thT K T B cm th n b k (cs.any (fun p => th p k)) (cs.any (fun c => B k (mkN T c))) = true))
section R
variable {mb : MbS} {mg : MgS} {K : Nat} {ab : Nat → Nat} {B : Nat → Nat → Bool} {T : AT} {rl : List Nat} {r N : Nat} {mx : MxS} {rc cm : Nat → Bool} {th : Nat → Nat → Bool}
theorem md_thAny (hb : BldM mb mg K ab B T rl r) (hN : 100 < N) (hd : RdR mx T r rc cm th) {n k : Nat} (hn : n ∈ pre T r) (hk : k < 12) : lp (f_Md_mustThrow_L68 N (nI k) mb mx) N (0, Mb_first mb n) = some (bi ((aP T n).any (fun p => th p k))) := by
  obtain ⟨h, hw, h60, -, -, -, hr, -⟩ := hb
  have hnn := pre_lt hw hr hn
  have hlen : (aP T n).length ≤ 60 := nodup_le (hw.2.1 n hnn) (fun p hp => by have := hw.1 n hnn p hp; omega)
  have key : ∀ (l2 l1 : List Nat) (a : Bool) (fuel : Nat), aP T n = l1 ++ l2 → l2.length < fuel → lp (f_Md_mustThrow_L68 N (nI k) mb mx) fuel (bi a, nx l2.head?) = some (bi (a || l2.any (fun p => th p k))) := by
    intro l2
    induction l2 with
    | nil =>
      intro l1 a fuel _ hf
      match fuel, hf with
      | fuel + 1, _ =>
        show f_Md_mustThrow_L68 N _ mb mx _ _ = _
        rw [f_Md_mustThrow_L68.eq_1]
        show (if (-1 : Int32) = -1 then (if bB (bi a) = true then some (bi a) else none) else _) = _
        rw [if_pos rfl, b0']; simp
    | cons p l2 ih =>
      intro l1 a fuel hP hf
      have hp : p ∈ aP T n := by rw [hP]; simp
      have hpl := hw.1 n hnn p hp
      match fuel, hf with
      | fuel + 1, hf =>
        have ih1 := fun a => ih (l1 ++ [p]) a fuel (by rw [hP]; simp) (by simpa using hf)
        have e32 : ∀ z, f_Md_mustThrow_b98 N (lp (f_Md_mustThrow_L68 N (nI k) mb mx) fuel) z (nI k) (nI p) mb mx = lp (f_Md_mustThrow_L68 N (nI k) mb mx) fuel (z, nx l2.head?) := fun z => by
          rw [f_Md_mustThrow_b98.eq_1, if_pos (inB_nI (by omega) (by decide)), nI_clamp (by omega), md_nextL h hnn hP]
        show f_Md_mustThrow_L68 N _ mb mx _ _ = _
        rw [f_Md_mustThrow_L68.eq_1]
        simp only [List.head?_cons, nx_s, f_Md_mustThrow_b93.eq_1, e32]
        rw [if_neg (nI_ne_m1 (by omega)), th_idx (by omega) hk, if_pos (inB_nI (show 12 * p + k < 720 by omega) (by decide)), nI_clamp (by omega), (hd p (pre_dn hw r hr n hn p hp)).2.2 k hk]
        simp only [b0]
        rw [show (1 : Int32) = bi true from rfl, show (0 : Int32) = bi false from rfl, ih1, ih1]
        cases a <;> cases hc : th p k <;> simp [hc]
  rw [(h.2.1 n hnn).2.2.2.2.2.1, show (0 : Int32) = bi false from rfl, key (aP T n) [] false N rfl (by omega)]
  simp
theorem md_thTry (hb : BldM mb mg K ab B T rl r) (hN : 100 < N) (hd : RdR mx T r rc cm th) {n b k : Nat} {cs : List Nat} (hn : n ∈ pre T r) (hP : aP T n = (b :: cs) ++ (enT T n).toList) (hmk : ∀ c ∈ cs, ∃ k, k < K ∧ aM T c = nI k) (hk : k < K) : f_Md_mustThrow_b132 N (nx (enT T n)) (nI n) (nI k) 0 mb mx = some (bi (thT K T B cm th n b k (cs.any (fun p => th p k)) (cs.any (fun c => B k (mkN T c))))) := by
  obtain ⟨h, hw, h60, hKI, hMk, -, hr, -⟩ := hb
  have hK := hKI.2.1
  have hnn := pre_lt hw hr hn
  have hlen : (aP T n).length ≤ 60 := nodup_le (hw.2.1 n hnn) (fun p hp => by have := hw.1 n hnn p hp; omega)
  have hnd := hw.2.1 n hnn
  have hcl : (b :: cs).length ≤ (aP T n).length := by rw [hP]; simp
  have hcl : cs.length + 1 ≤ (aP T n).length := by simpa using hcl
  have hbP : b ∈ aP T n := by rw [hP]; simp
  have hbl := hw.1 n hnn b hbP
  have hfst : Mb_first mb n = nI b := by rw [(h.2.1 n hnn).2.2.2.2.2.1, hP]; rfl
  have hbth := (hd b (pre_dn hw r hr n hn b hbP)).2.2 k (by omega)
  have hend : ∀ z : Bool, f_Md_mustThrow_b254 N (bi z) (nI k) (nx (enT T n)) mb mx = some (bi (match enT T n with | none => z | some e => (z && cm e) || th e k)) := by
    intro z
    rw [f_Md_mustThrow_b254.eq_1]
    cases he : enT T n with
    | none => rw [nx_n, if_pos rfl, b0']
    | some e =>
      have heP : e ∈ aP T n := by rw [hP, he]; simp
      have hel := hw.1 n hnn e heP
      obtain ⟨-, q1, q2⟩ := hd e (pre_dn hw r hr n hn e heP)
      have q2 := q2 k (by omega)
      rw [nx_s, if_neg (nI_ne_m1 (by omega)), if_pos (inB_nI (show e < 60 by omega) (by decide)), nI_clamp (by omega), q1, f_Md_mustThrow_b277.eq_1, th_idx (by omega) (by omega), if_pos (inB_nI (show 12 * e + k < 720 by omega) (by decide)), nI_clamp (by omega), q2]
      simp only [b0]
      cases z <;> cases hc : cm e <;> cases ht : th e k <;> simp [bi, hc, ht]
  have key : ∀ (l2 l1 : List Nat) (a c : Bool) (fuel : Nat), cs = l1 ++ l2 → l2.length < fuel → lp (f_Md_mustThrow_L150 N (nI n) (nI k) (nx (enT T n)) mb mx) fuel (bi a, bi c, nx (l2 ++ (enT T n).toList).head?) = some (bi (thT K T B cm th n b k (a || l2.any (fun p => th p k)) (c || l2.any (fun c => B k (mkN T c))))) := by
    intro l2
    induction l2 with
    | nil =>
      intro l1 a c fuel _ hf
      match fuel, hf with
      | fuel + 1, _ =>
        show f_Md_mustThrow_L150 N _ _ _ mb mx _ _ = _
        rw [f_Md_mustThrow_L150.eq_1]
        have eh : nx (([] : List Nat) ++ (enT T n).toList).head? = nx (enT T n) := by cases enT T n <;> rfl
        simp only [eh, f_Md_mustThrow_b249.eq_1, f_Md_mustThrow_b253.eq_1]
        rw [if_pos trivial, if_pos (inB_nI (show n < 60 by omega) (by decide)), nI_clamp (show n < 2 ^ 31 by omega), hfst, th_idx (by omega) (by omega), if_pos (inB_nI (show 12 * b + k < 720 by omega) (by decide)), nI_clamp (by omega), hbth]
        simp only [b0]
        rw [show (1 : Int32) = bi true from rfl, show (0 : Int32) = bi false from rfl, hend, hend]
        unfold thT
        cases enT T n with
        | none => cases a <;> cases c <;> cases ht : th b k <;> simp [ht]
        | some e => cases a <;> cases c <;> cases ht : th b k <;> simp [ht]
    | cons p l2 ih =>
      intro l1 a c fuel hl hf
      have hP2 : aP T n = (b :: l1) ++ p :: (l2 ++ (enT T n).toList) := by rw [hP, hl]; simp
      have hp : p ∈ aP T n := by rw [hP2]; simp
      have hpl := hw.1 n hnn p hp
      have hpe : nI p ≠ nx (enT T n) := by
        cases he : enT T n with
        | none => exact nI_ne_m1 (by omega)
        | some e =>
          rw [he] at hP2
          have heP : e ∈ aP T n := by rw [hP2]; simp
          have hel := hw.1 n hnn e heP
          intro hh
          have := (nI_eq (by omega) (by omega)).mp hh
          subst this
          rw [hP2, List.nodup_append] at hnd
          exact (List.nodup_cons.mp hnd.2.1).1 (by simp)
      obtain ⟨kd, hkd, hmc⟩ := hmk p (by rw [hl]; simp)
      have hmkc : mkN T p = kd := by unfold mkN; rw [hmc, nI_clamp (by omega)]
      match fuel, hf with
      | fuel + 1, hf =>
        have ih1 := fun a c => ih (l1 ++ [p]) a c fuel (by rw [hl]; simp) (by simpa using hf)
        have e32 : ∀ z y, f_Md_mustThrow_b208 N (lp (f_Md_mustThrow_L150 N (nI n) (nI k) (nx (enT T n)) mb mx) fuel) z (nI n) (nI k) (nx (enT T n)) y (nI p) mb mx = lp (f_Md_mustThrow_L150 N (nI n) (nI k) (nx (enT T n)) mb mx) fuel (z, y, nx (l2 ++ (enT T n).toList).head?) := fun z y => by
          rw [f_Md_mustThrow_b208.eq_1, if_pos (inB_nI (by omega) (by decide)), nI_clamp (by omega), md_nextL h hnn hP2]
        show f_Md_mustThrow_L150 N _ _ _ mb mx _ _ = _
        rw [f_Md_mustThrow_L150.eq_1]
        simp only [List.cons_append, List.head?_cons, nx_s, f_Md_mustThrow_b177.eq_1, f_Md_mustThrow_b182.eq_1, f_Md_mustThrow_b203.eq_1, e32]
        rw [if_neg hpe, if_pos (inB_nI (show p < 60 by omega) (by decide)), nI_clamp (show p < 2 ^ 31 by omega), (h.2.1 p (by omega)).2.2.1, hmc, md_isBelow hKI hMk (by omega) hk hkd, th_idx (by omega) (by omega)]
        simp only [Option.bind_some, b0, if_pos (inB_nI (show 12 * p + k < 720 by omega) (show (720 : Nat) < 2 ^ 31 by decide)), nI_clamp (show 12 * p + k < 2 ^ 31 by omega), (hd p (pre_dn hw r hr n hn p hp)).2.2 k (by omega)]
        rw [show (1 : Int32) = bi true from rfl, show (0 : Int32) = bi false from rfl]
        simp only [ih1]
        cases a <;> cases c <;> cases ht : th p k <;> cases hB : B k kd <;> simp [ht, hB, hmkc]
  rw [f_Md_mustThrow_b132.eq_1, if_pos (inB_nI (by omega) (by decide)), nI_clamp (show n < 2 ^ 31 by omega), hfst, if_pos (inB_nI (show b < 60 by omega) (by decide)), nI_clamp (show b < 2 ^ 31 by omega), md_nextL h hnn (l1 := []) (p := b) (l2 := cs ++ (enT T n).toList) (by rw [hP]; rfl)]
  have := key cs [] false false N rfl (by omega)
  rw [Bool.false_or, Bool.false_or] at this
  exact this
theorem md_mustThrow (hb : BldM mb mg K ab B T rl r) (hN : 100 < N) (hd : RdR mx T r rc cm th) {n k : Nat} (hn : n ∈ pre T r) (hk : k < K) : ∃ z, f_Md_mustThrow N (nI n) (nI k) mb mx = some (bi z) ∧ (z = true ↔ MtP K T B rc cm th n k) := by
  have hb' := hb
  obtain ⟨h, hw, h60, hKI, hMk, hsh, hr, -⟩ := hb
  have hK := hKI.2.1
  have hnn := pre_lt hw hr hn
  rw [f_Md_mustThrow.eq_1, if_pos (inB_nI (by omega) (by decide)), if_pos (inB_nI (by omega) (by decide)), if_pos (inB_nI (by omega) (by decide)), if_pos (inB_nI (by omega) (by decide)), if_pos (inB_nI (by omega) (by decide)), if_pos (inB_nI (by omega) (by decide)), if_pos (inB_nI (by omega) (by decide)), nI_clamp (by omega), (h.2.1 n hnn).1, (hd n hn).1, b0, f_Md_mustThrow_b31.eq_1, if_pos (inB_nI (by omega) (by decide)), nI_clamp (by omega), (h.2.1 n hnn).2.1, (h.2.1 n hnn).2.2.2.2.1, b0, md_thAny hb' hN hd hn (by omega)]
  by_cases c0 : rc n = true
  · rw [if_pos c0]
    by_cases c1 : aS T n = 1
    · rw [if_pos c1]
      by_cases cv : aV T n = nI k
      · rw [if_pos cv]; exact ⟨true, rfl, by simp [MtP, c0, c1, cv]⟩
      · rw [if_neg cv]; exact ⟨false, rfl, by simp [MtP, c1, cv]⟩
    · rw [if_neg c1]
      by_cases c2 : aS T n = 2
      · rw [if_pos c2]
        by_cases cv : aV T n = nI k
        · rw [if_pos cv]; exact ⟨true, rfl, by simp [MtP, c0, c2, cv]⟩
        · rw [if_neg cv]; exact ⟨false, rfl, by simp [MtP, c2, cv]⟩
      · rw [if_neg c2]
        by_cases c16 : aS T n = 16
        · rw [if_pos c16]
          obtain ⟨b, cs, hfr, hP, hmk, -, hH, -⟩ := try_split (hsh n hnn) c16
          have key := md_thTry hb' hN hd hn hP hmk hk
          have heq : (if aH T n = true then f_Md_mustThrow_b132 N (Mb_last mb n) (nI n) (nI k) 0 mb mx else f_Md_mustThrow_b132 N (-1) (nI n) (nI k) 0 mb mx) = f_Md_mustThrow_b132 N (nx (enT T n)) (nI n) (nI k) 0 mb mx := by
            by_cases cH : aH T n = true
            · rw [if_pos cH, (h.2.1 n hnn).2.2.2.2.2.2.1]
              unfold enT
              rw [if_pos cH]
            · rw [if_neg cH]
              unfold enT
              rw [if_neg cH]; rfl
          rw [heq, key]
          refine ⟨_, rfl, ?_⟩
          constructor
          · intro hz; exact ⟨c0, Or.inr (Or.inr ⟨c16, b, cs, hfr, hz⟩)⟩
          · rintro ⟨-, hz⟩
            rcases hz with ⟨hz, -⟩ | ⟨-, -, hz, -⟩ | ⟨-, b', cs', hfr', hz⟩
            · rcases hz with hz | hz
              · exact absurd hz c1
              · exact absurd hz c2
            · exact absurd c16 hz
            · rw [hfr] at hfr'
              injection hfr' with e1 e2
              subst e1; subst e2; exact hz
        · rw [if_neg c16]
          refine ⟨_, rfl, ?_⟩
          rw [List.any_eq_true]
          constructor
          · intro ⟨p, hp, hz⟩; exact ⟨c0, Or.inr (Or.inl ⟨c1, c2, c16, p, hp, hz⟩)⟩
          · rintro ⟨-, hz⟩
            rcases hz with ⟨hz, -⟩ | ⟨-, -, -, p, hp, hz⟩ | ⟨hz, -⟩
            · rcases hz with hz | hz
              · exact absurd hz c1
              · exact absurd hz c2
            · exact ⟨p, hp, hz⟩
            · exact absurd hz c16
  · rw [if_neg c0]
    exact ⟨false, rfl, by simp [MtP, c0]⟩
end R
