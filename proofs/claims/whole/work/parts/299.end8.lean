theorem s_end {N : Nat} (hN : 100 < N) : S_end N Rel := by
  intro kn tr rw lk f0 f1 mb mg mx mf x hR
  have hR' := hR
  obtain ⟨K, ab, B, T, ks, fs, rk, rl, hB, hL⟩ := hR
  have hrow := hB.2.2.2.2.2.2.2.2.2.2.2.2
  have ht := hB.2.2.2.2.1
  have hm := hB.2.2.2.2.2.1
  have hn := ht.2.1
  rw [f_Rf_end.eq_1, f_Md_end.eq_1, f_Rw_isOpen.eq_1]
  cases rk with
  | none =>
    obtain ⟨a1, a2, a3, a4, a5⟩ := hrow
    rw [a1, a4, if_pos rfl, if_pos rfl]
    exact ⟨_, _, rfl, rfl, rfl, hR'⟩
  | some k =>
    obtain ⟨a0, a1, a2, a3, a4, a5, a6, a7, a8, -⟩ := hrow
    rw [rf_fitsEnd hB, md_mayEnd hB hN, tr_isFull ht.1 hn]
    rw [if_neg (show ¬ Rw_sort rw = -1 by rw [a1]; exact nI_ne_m1 (by omega)), if_neg (show ¬ Mb_rowKind mb = -1 by rw [a5]; exact nI_ne_m1 (by omega))]
    simp only [Option.bind_some, b0]
    rw [if_neg (show ¬ (1 : Int32) = 0 by decide)]
    by_cases hf : fE T ks rl k x = true
    · simp only [if_pos hf]
      by_cases h60 : aN T = 60
      · rw [if_pos ((nodes60 hm.1 hn).mpr h60), if_pos (by simp; omega)]
        exact ⟨_, _, rfl, rfl, rfl, hR'⟩
      · have hlt : aN T < 60 := by omega
        rw [if_neg (fun c => h60 ((nodes60 hm.1 hn).mp c)), if_neg (by simp; omega), a1, a5, show (13 : Int32) = nI 13 by decide, nI_add, tr_add ht.1 hlt, md_make hm.1 hlt]
        simp only [Option.bind_some]
        have hB0 := hB
        obtain ⟨b1, b2, b3, b4, b5, b6, b7, b8, b9, b10, b11, b12, b13⟩ := hB
        have hlen : rl.length ≤ 60 := Nat.le_trans (nodup_le b8.1 (fun p hp => (b8.2 p hp).1)) hn
        have t1 := TrR_add b5 hlt (nI (13 + k)) 0
        have m1 := MbR_add b6 b7 (fun p hp => (b8.2 p hp).1) (nI (13 + k)) 0
        have w1 := WT_add b7 (nI (13 + k)) 0
        have eP0 : aP (addT T (nI (13 + k)) 0) (aN T) = [] := up_s
        have hnk : aN T ∉ ks := fun hh => by have := b5.2.2.2.2.2.2.1 _ hh; omega
        have hfree : ∀ p, p ∉ ks → ∀ q, q < aN (addT T (nI (13 + k)) 0) → p ∉ aP (addT T (nI (13 + k)) 0) q := by
          intro p hpk q hq hpq
          have hpq : p ∈ va_up (aP T) (aN T) [] q := hpq
          have hq : q < aN T + 1 := hq
          by_cases e : q = aN T
          · subst e; rw [up_s] at hpq; exact absurd hpq (by simp)
          · rw [up_n e] at hpq; exact hpk (TrR_sub b5 q (by omega) p hpq)
        obtain ⟨tr2, e1, e2, e3, e4, e5⟩ := cl_end (fs := va_up fs (aN T) ks.length) (rw := rw) (rl := rl) (N := N) (m := aN T) (x := x) hlen hlt a2 rl 0 N (trA tr (aN T) (nI (13 + k)) 0) (addT T (nI (13 + k)) 0) ks t1 rfl (by rw [up_s, eP0]; simp) b8.1 b8.2 hnk (by omega) (fun j p hp => by rw [Nat.zero_add]; exact a3 j p hp) (by omega)
        obtain ⟨mb2, g1, g2, g3, g4, g5, g6⟩ := md_endL (N := N) (m := aN T) (x := x) (mg := mgA mg (aN T)) hlt rl N (mbA mb (aN T) (nI (13 + k)) 0) (addT T (nI (13 + k)) 0) m1 w1 (by show aN T + 1 ≤ 60; omega) rfl b8.1 (fun p hp => ⟨(b8.2 p hp).1, hfree p (b8.2 p hp).2⟩) (by omega)
        have g4 : Mb_rowKind mb2 = nI k := g4.trans a5
        obtain ⟨n1, n2, n3, n4, n5, n6⟩ := adL_N (aN T) rl (addT T (nI (13 + k)) 0)
        obtain ⟨p1, p2⟩ := adL_P (aN T) rl (addT T (nI (13 + k)) 0)
        rw [eP0, List.nil_append] at p1
        have hmk : MkR mb2 K ab := by
          obtain ⟨q1, q2, q3⟩ := b4
          refine ⟨g5.trans q1, ?_, ?_⟩
          · rw [g6]; exact q2
          · rw [g6]; exact q3
        have old : ∀ m, m < aN T → aS (adL (addT T (nI (13 + k)) 0) (aN T) rl) m = aS T m ∧ aV (adL (addT T (nI (13 + k)) 0) (aN T) rl) m = aV T m ∧ aM (adL (addT T (nI (13 + k)) 0) (aN T) rl) m = aM T m ∧ aP (adL (addT T (nI (13 + k)) 0) (aN T) rl) m = aP T m ∧ aE (adL (addT T (nI (13 + k)) 0) (aN T) rl) m = aE T m ∧ aH (adL (addT T (nI (13 + k)) 0) (aN T) rl) m = aH T m := by
          intro m hm'
          have e : m ≠ aN T := by omega
          rw [n2, n3, n4, n5, n6, p2 m e]
          exact ⟨upd_n e, upd_n e, upd_n e, up_n e, upd_n e, up_n e⟩
        have sS : aS (adL (addT T (nI (13 + k)) 0) (aN T) rl) (aN T) = nI (13 + k) := by rw [n2]; exact upd_s
        have sM : aM (adL (addT T (nI (13 + k)) 0) (aN T) rl) (aN T) = -1 := by rw [n4]; exact upd_s
        have sE : aE (adL (addT T (nI (13 + k)) 0) (aN T) rl) (aN T) = 0 := by rw [n5]; exact upd_s
        have sH : aH (adL (addT T (nI (13 + k)) 0) (aN T) rl) (aN T) = false := by rw [n6]; exact up_s
        have t3 := TrR_close e2 (fun p hp => List.mem_append_right _ hp)
        have h4 : ∀ m, m < aN T → Tr_tail tr2 m = Tr_tail tr m := by
          intro m hm'
          rw [e4]
          show upd (Tr_tail tr) (aN T) (-1) m = _
          rw [upd_n (by omega)]
        have h5 : Tr_defaults tr2 = Tr_defaults tr := e5
        obtain ⟨tr', mb', T', ks', q1, q2, q3, q4⟩ := end_close (N := N) (mg := mgA mg (aN T)) hB0 hlt hf n1 old sS sM sE sH p1 t3 e3 g2 g3 g4 hmk h4 h5
        rw [q1, f_Rw_close.eq_1] at e1
        rw [q2] at g1
        have e1 : lp (f_Rf_end_L55 N x (nI (aN T))) N (0, trA tr (aN T) (nI (13 + k)) 0, rw) = some (nI (aN T), tr', (-1, 0, 0, Rw_parts rw)) := e1
        have g1 : lp (f_Md_end_L52 N x (nI (aN T))) N (nx rl.head?, mbA mb (aN T) (nI (13 + k)) 0, mgA mg (aN T)) = some (nI (aN T), mb', mgA mg (aN T)) := g1
        rw [e1, show Mb_rowFirst (mbA mb (aN T) (nI (13 + k)) 0) = nx rl.head? from a7, g1]
        refine ⟨_, _, rfl, rfl, rfl, K, ab, B, T', ks', va_up fs (aN T) ks.length, none, [], q4, ?_⟩
        rw [q3]
        exact LkR_add hL hlt
    · simp only [if_neg hf]
      exact ⟨_, _, rfl, rfl, rfl, hR'⟩
