section L
variable {K : Nat} {T : AT} {B : Nat → Nat → Bool} {tg : Nat → Int32} {r : Nat} {D : Dt} {mt rc cm : Nat → Bool} {th : Nat → Nat → Bool}
/-- what is held so far is inside the class's answer -/
def SubR (T : AT) (r K : Nat) (D : Dt) (mt rc cm : Nat → Bool) (th : Nat → Nat → Bool) : Prop := (∀ x ∈ pre T r, rc x = true → mt x = true) ∧ (∀ x ∈ pre T r, cm x = true → mt x = true ∧ dN D x = true) ∧ ∀ x ∈ pre T r, ∀ k, k < K → th x k = true → mt x = true ∧ dT D x k = true
theorem gob_s {l1 l2 : List Nat} {n z : Nat} (hl : l1.getLast? = some z) : gob D (l1 ++ n :: l2) l1.length = (dO D z && dN D z) := by
  rcases List.eq_nil_or_concat l1 with e | ⟨l1', w, e⟩
  · subst e; simp at hl
  · rw [List.concat_eq_append] at e
    subst e
    rw [List.getLast?_concat] at hl
    have : w = z := by simpa using hl
    subst this
    rw [show (l1' ++ [w]).length = l1'.length + 1 by simp, List.append_assoc]
    exact gob_at
theorem snd_reach (h : SlR false K T B tg r D mt) (hI : SubR T r K D mt rc cm th) {n q : Nat} {l1 l2 : List Nat} (hq : q ∈ pre T r) (hP : aP T q = l1 ++ n :: l2) (hM : MrQ K T B rc cm th q l1 n) : mt n = true := by
  have hS := h
  obtain ⟨hw, h60, hr, hK, hsh, -, hs, -⟩ := h
  obtain ⟨i1, i2, i3⟩ := hI
  have hqn := pre_lt hw hr hq
  have hnP : n ∈ aP T q := by rw [hP]; simp
  obtain ⟨m0, m1, m2, m3, m4⟩ := hM
  rw [mt_dn hS hq hnP, i1 q hq m0, Bool.true_and]
  by_cases c1 : lfB (aS T q) = true
  · rw [lf_nil (hsh q hqn) c1] at hnP; simp at hnP
  · have c1 : lfB (aS T q) = false := by simpa using c1
    by_cases c2 : aS T q = 16
    · obtain ⟨b, cs, hfr, hPt, hmk, -⟩ := try_split (hsh q hqn) c2
      obtain ⟨t1, t2, t3, -⟩ := sol_tr (hs q hq) c2 b cs hfr
      rcases try_in hPt hnP with hn | hn
      · rcases List.mem_cons.mp hn with rfl | hn
        · exact t1
        · obtain ⟨s1, s2, hcs⟩ := List.append_of_mem hn
          have hnd := hw.2.1 q hqn
          have hl1 : l1 = b :: s1 := by
            have e1 : l1 ++ n :: l2 = (b :: s1) ++ n :: (s2 ++ (enT T q).toList) := by rw [← hP, hPt, hcs]; simp
            rw [hP] at hnd
            have key : ∀ (a c : List Nat) (x y : List Nat), a ++ n :: x = c ++ n :: y → n ∉ a → n ∉ c → a = c := by
              intro a
              induction a with
              | nil =>
                intro c x y e _ hc
                cases c with
                | nil => rfl
                | cons z c => simp only [List.nil_append, List.cons_append] at e; injection e with e1 e2; subst e1; exact absurd List.mem_cons_self hc
              | cons w a ih =>
                intro c x y e ha hc
                cases c with
                | nil => simp only [List.nil_append, List.cons_append] at e; injection e with e1 e2; subst e1; exact absurd List.mem_cons_self ha
                | cons z c =>
                  simp only [List.cons_append] at e
                  injection e with e1 e2
                  subst e1
                  rw [ih c x y e2 (fun hh => ha (List.mem_cons_of_mem _ hh)) (fun hh => hc (List.mem_cons_of_mem _ hh))]
            refine key l1 (b :: s1) _ _ e1 ?_ ?_
            · intro hh
              rw [List.nodup_append] at hnd
              exact hnd.2.2 n hh n List.mem_cons_self rfl
            · intro hh
              rw [e1, List.nodup_append] at hnd
              exact hnd.2.2 n hh n List.mem_cons_self rfl
          have hne : enT T q ≠ some n := fun he => try_ne hw hqn hPt he n (List.mem_cons_of_mem _ hn) rfl
          obtain ⟨k1, k2⟩ := m4 c2 b s1 hl1 hne
          rw [t2 s1 n s2 hcs]
          show (!cgt K T B s1 (mkN T n) && (nnt B (mkN T n) || (List.range 32).any (fun k => dT D b k && ((decide (k < K) && B k (mkN T n)) || B (mkN T n) k)))) = true
          have hcg : cgt K T B s1 (mkN T n) = false := by
            unfold cgt
            rw [List.any_eq_false]
            intro c hc
            rw [k1 c hc]; simp
          rw [hcg]
          rcases k2 with k2 | ⟨k, k3, k4, k5⟩
          · rw [k2]; rfl
          · have hbp : b ∈ pre T r := pre_dn hw r hr q hq b (by rw [hPt]; simp)
            have : (List.range 32).any (fun k => dT D b k && ((decide (k < K) && B k (mkN T n)) || B (mkN T n) k)) = true := by
              rw [List.any_eq_true]
              refine ⟨k, List.mem_range.mpr (by omega), ?_⟩
              rw [(i3 b hbp k k3 k4).2]
              rcases k5 with k5 | k5
              · simp [k5, k3]
              · simp [k5]
            rw [this]; simp
      · rw [t3 n hn]; rfl
    · have hW := sol_wh (hs q hq) c1 c2
      rw [hW.1 l1.length n (by rw [hP]; simp)]
      have hgo : (∀ z, l1.getLast? = some z → cm z = true) → gob D (aP T q) l1.length = true := by
        intro hz
        cases hl : l1.getLast? with
        | none =>
          have : l1 = [] := List.getLast?_eq_none_iff.mp hl
          subst this; rfl
        | some z =>
          have hzP : z ∈ aP T q := by rw [hP]; exact List.mem_append_left _ (List.mem_of_getLast? hl)
          obtain ⟨z1, z2⟩ := i2 z (pre_dn hw r hr q hq z hzP) (hz z hl)
          rw [hP, gob_s hl, (mt_dO hS hq hzP z1).2, z2]; rfl
      unfold opn
      by_cases s4 : aS T q = 4
      · rw [if_pos s4]; simp [tIf]
      · rw [if_neg s4]
        by_cases s5 : aS T q = 5
        · rw [if_pos s5]
          have hv := m1 (Or.inl s5)
          unfold tOf
          by_cases c3 : aV T q = 3
          · rw [if_pos c3]; decide
          · rw [if_neg c3]; simp [hv]
        · rw [if_neg s5]
          by_cases s7 : aS T q = 7
          · rw [if_pos s7]
            have hv := m1 (Or.inr s7)
            unfold tOf
            by_cases c3 : aV T q = 3
            · rw [if_pos c3]; decide
            · rw [if_neg c3]; simp [hv]
          · rw [if_neg s7]
            by_cases s13 : aS T q = 13
            · rw [if_pos s13]; exact hgo (m2 s13)
            · rw [if_neg s13]
              by_cases s14 : aS T q = 14
              · rw [if_pos s14]
                rcases m3 s14 with hh | ⟨z, hz, hc⟩
                · simp [hh]
                · rw [hgo (fun w hw2 => by rw [hz] at hw2; cases hw2; exact hc)]; rfl
              · rw [if_neg s14]
theorem snd_comp (h : SlR false K T B tg r D mt) (hI : SubR T r K D mt rc cm th) {n : Nat} (hn : n ∈ pre T r) (hM : McP T r tg rc cm n) : mt n = true ∧ dN D n = true := by
  have hS := h
  obtain ⟨hw, h60, hr, hK, hsh, -, hs, -⟩ := h
  obtain ⟨i1, i2, i3⟩ := hI
  have hnn := pre_lt hw hr hn
  obtain ⟨m0, hM⟩ := hM
  refine ⟨i1 n hn m0, ?_⟩
  have hany : (∃ p ∈ aP T n, cm p = true) → anO D (aP T n) (dN D) = true := by
    rintro ⟨p, hp, hc⟩
    obtain ⟨z1, z2⟩ := i2 p (pre_dn hw r hr n hn p hp) hc
    exact anO_iff.mpr ⟨p, hp, (mt_dO hS hn hp z1).2, z2⟩
  have hlast : (∀ q, (aP T n).getLast? = some q → cm q = true) → gob D (aP T n) (aP T n).length = true := by
    intro hz
    rcases List.eq_nil_or_concat (aP T n) with e | ⟨l1, w, e⟩
    · rw [e]; rfl
    · rw [List.concat_eq_append] at e
      have hwP : w ∈ aP T n := by rw [e]; simp
      obtain ⟨z1, z2⟩ := i2 w (pre_dn hw r hr n hn w hwP) (hz w (by rw [e, List.getLast?_concat]))
      rw [e, show (l1 ++ [w]).length = l1.length + 1 by simp]
      rw [show l1 ++ [w] = l1 ++ w :: [] from rfl, gob_at, (mt_dO hS hn hwP z1).2, z2]; rfl
  have wh : lfB (aS T n) = false → aS T n ≠ 16 → (gpa false T D n = true ∨ anO D (aP T n) (fun p => dB D p n) = true) → dN D n = true := by
    intro c1 c2 hh
    rw [(sol_wh (hs n hn) c1 c2).2.2.2.2.2, Bool.or_eq_true]; exact hh
  have x10 : ExP T r tg rc cm 10 n → anO D (aP T n) (fun p => dB D p n) = true := ex_sound10 hS hn i1 i2
  have x11 : ExP T r tg rc cm 11 n → anO D (aP T n) (fun p => dC D p n) = true := ex_sound11 hS hn i1 i2
  rcases hM with hM | ⟨e, hM⟩ | ⟨e, hM⟩ | ⟨e, hM⟩ | ⟨e, hM⟩ | ⟨e, hM⟩ | ⟨e, hM⟩ | ⟨e, hM⟩ | ⟨e, hM⟩ | ⟨e, b, cs, hfr, hM, hE⟩
  · rcases hM with e | e | e
    · rw [(sol_lf (hs n hn) (by rw [e]; decide)).1, e]; rfl
    · rw [(sol_lf (hs n hn) (by rw [e]; decide)).1, e]; rfl
    · exact wh (by rw [e]; decide) (by rw [e]; decide) (Or.inl (by unfold gpa; simp [e]))
  · refine wh (by rw [e]; decide) (by rw [e]; decide) (Or.inl ?_)
    unfold gpa
    rw [if_pos e, Bool.or_eq_true]
    rcases hM with hM | hM
    · left; simp [hM, tIf]
    · right; exact hany hM
  · have hv : (aV T n = 0 ∨ aV T n = 2) → tOf T n ≠ 1 := by
      intro hh
      unfold tOf
      rcases hh with hh | hh <;> rw [hh] <;> decide
    have hlf : lfB (aS T n) = false := by rcases e with e | e <;> rw [e] <;> decide
    have h16 : aS T n ≠ 16 := by rcases e with e | e <;> rw [e] <;> decide
    refine wh hlf h16 ?_
    rcases hM with hM | hM | hM
    · left; unfold gpa; rcases e with e | e <;> simp [e, hv (Or.inl hM)]
    · left; unfold gpa; rcases e with e | e <;> simp [e, hv (Or.inr hM)]
    · right; exact x10 hM
  · refine wh (by rw [e]; decide) (by rw [e]; decide) ?_
    rcases hM with ⟨hv, hM⟩ | hM
    · left
      unfold gpa
      have hv2 : tOf T n ≠ 1 := by
        have := (hsh n hnn).2.2.2.2.2.2.2.1 (by simp [e])
        unfold tOf
        rcases this with hh | hh | hh
        · rw [hh]; decide
        · exact absurd hh hv
        · rw [hh]; decide
      simp only [e]
      simp [hv2]
      rcases hM with hM | hM
      · exact Or.inl (hany hM)
      · exact Or.inr (x11 hM)
    · right; exact x10 hM
  · refine wh (by rw [e]; decide) (by rw [e]; decide) (Or.inl ?_)
    unfold gpa; simp [e]; exact hany hM
  · refine wh (by rw [e]; decide) (by rw [e]; decide) ?_
    rcases hM with hM | hM
    · left; unfold gpa; simp [e]; exact hany hM
    · right; exact x10 hM
  · refine wh (by rw [e]; decide) (by rw [e]; decide) (Or.inl ?_)
    unfold gpa; simp [e]; exact hlast hM
  · refine wh (by rw [e]; decide) (by rw [e]; decide) ?_
    rcases hM with hM | hM | hM | hM
    · left; unfold gpa; simp [e, hM]
    · left; unfold gpa; simp [e, hM]
    · left; unfold gpa; simp [e, hlast hM]
    · right; exact x10 hM
  · refine wh (by rw [e]; decide) (by rw [e]; decide) ?_
    rcases hM with hM | hM | hM
    · left; unfold gpa; simp [e, hM]
    · left; unfold gpa; simp [e, hany hM]
    · right; exact x10 hM
  · obtain ⟨-, -, -, t4, -⟩ := sol_tr (hs n hn) e b cs hfr
    obtain ⟨b', cs', hfr', hPt, -⟩ := try_split (hsh n hnn) e
    rw [hfr] at hfr'
    injection hfr' with e1 e2
    subst e1; subst e2
    rw [t4, Bool.and_eq_true]
    constructor
    · obtain ⟨p, hp, hc⟩ := hM
      have hpP : p ∈ aP T n := by rw [hPt]; exact List.mem_append_left _ hp
      obtain ⟨z1, z2⟩ := i2 p (pre_dn hw r hr n hn p hpP) hc
      exact anO_iff.mpr ⟨p, hp, (mt_dO hS hn hpP z1).2, z2⟩
    · unfold eN
      cases he : enT T n with
      | none => rfl
      | some e2 =>
        have hpP : e2 ∈ aP T n := by rw [hPt, he]; simp
        exact (i2 e2 (pre_dn hw r hr n hn e2 hpP) (hE e2 he)).2
theorem snd_throw (h : SlR false K T B tg r D mt) (hI : SubR T r K D mt rc cm th) {n k : Nat} (hn : n ∈ pre T r) (hk : k < K) (hM : MtP K T B rc cm th n k) : mt n = true ∧ dT D n k = true := by
  have hS := h
  obtain ⟨hw, h60, hr, hK, hsh, -, hs, -⟩ := h
  obtain ⟨i1, i2, i3⟩ := hI
  have hnn := pre_lt hw hr hn
  obtain ⟨m0, hM⟩ := hM
  refine ⟨i1 n hn m0, ?_⟩
  rcases hM with ⟨e, hv⟩ | ⟨e1, e2, e16, p, hp, ht⟩ | ⟨e, b, cs, hfr, ht⟩
  · have hlf : lfB (aS T n) = true := by rcases e with e | e <;> rw [e] <;> decide
    rw [(sol_lf (hs n hn) hlf).2.2.2.2 k (by omega)]
    have hA : tA false K B (aV T n) k = true := by
      unfold tA
      rw [hv, if_neg (nI_ne_m1 (by omega)), nI_clamp (by omega)]; simp
    rw [hA]
    rcases e with e | e <;> simp [e]
  · by_cases c1 : lfB (aS T n) = true
    · rw [lf_nil (hsh n hnn) c1] at hp; simp at hp
    · have c1 : lfB (aS T n) = false := by simpa using c1
      obtain ⟨z1, z2⟩ := i3 p (pre_dn hw r hr n hn p hp) k hk ht
      rw [(sol_wh (hs n hn) c1 e16).2.2.2.2.1 k (by omega)]
      exact anO_iff.mpr ⟨p, hp, (mt_dO hS hn hp z1).2, z2⟩
  · obtain ⟨-, -, t3, -, -, -, -, t8⟩ := sol_tr (hs n hn) e b cs hfr
    obtain ⟨b', cs', hfr', hPt, -⟩ := try_split (hsh n hnn) e
    rw [hfr] at hfr'
    injection hfr' with e1 e2
    subst e1; subst e2
    rw [t8 k (by omega), Bool.or_eq_true, Bool.and_eq_true]
    have hbp : b ∈ aP T n := by rw [hPt]; simp
    have hpt : (cs.any (fun p => th p k) || (th b k && !cs.any (fun c => B k (mkN T c)))) = true → pTh K T B D b cs k = true := by
      intro hh
      unfold pTh
      rw [Bool.or_eq_true] at hh ⊢
      rcases hh with hh | hh
      · left
        rw [List.any_eq_true] at hh
        obtain ⟨p, hp, hc⟩ := hh
        have hpP : p ∈ aP T n := by rw [hPt]; simp [hp]
        obtain ⟨z1, z2⟩ := i3 p (pre_dn hw r hr n hn p hpP) k hk hc
        exact anO_iff.mpr ⟨p, hp, (mt_dO hS hn hpP z1).2, z2⟩
      · right
        rw [Bool.and_eq_true] at hh ⊢
        refine ⟨(i3 b (pre_dn hw r hr n hn b hbp) k hk hh.1).2, ?_⟩
        have : cgt K T B cs k = cs.any (fun c => B k (mkN T c)) := by
          unfold cgt
          exact any_cg (fun c _ => by simp [hk])
        rw [this]; exact hh.2
    unfold thT at ht
    cases he : enT T n with
    | none =>
      rw [he] at ht
      left
      refine ⟨hpt ht, ?_⟩
      unfold eN; rw [he]
    | some e2 =>
      rw [he] at ht
      have heP : e2 ∈ aP T n := by rw [hPt, he]; simp
      have ht : (((cs.any (fun p => th p k) || (th b k && !cs.any (fun c => B k (mkN T c)))) && cm e2) || th e2 k) = true := ht
      rw [Bool.or_eq_true, Bool.and_eq_true] at ht
      rcases ht with ⟨ht, hc⟩ | ht
      · left
        refine ⟨hpt ht, ?_⟩
        unfold eN; rw [he]
        exact (i2 e2 (pre_dn hw r hr n hn e2 heP) hc).2
      · right
        obtain ⟨z1, z2⟩ := i3 e2 (pre_dn hw r hr n hn e2 heP) k hk ht
        unfold eX; rw [he]
        show (dO D e2 && dT D e2 k) = true
        rw [(mt_dO hS hn heP z1).2, z2]; rfl
end L
