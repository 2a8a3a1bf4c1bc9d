/-! THE TEXT'S ORDER, as a list -/
def preF (T : AT) : Nat → Nat → List Nat
  | 0, _ => []
  | f + 1, n => n :: (aP T n).flatMap (preF T f)
def pre (T : AT) (n : Nat) : List Nat := preF T (n + 1) n
theorem fm_congr {l : List Nat} {f g : Nat → List Nat} (h : ∀ x ∈ l, f x = g x) : l.flatMap f = l.flatMap g := by
  induction l with
  | nil => rfl
  | cons a l ih => rw [List.flatMap_cons, List.flatMap_cons, h a List.mem_cons_self, ih (fun x hx => h x (List.mem_cons_of_mem _ hx))]
theorem preF_pre {T : AT} (hw : WT T) : ∀ f n, n < f → n < aN T → preF T f n = pre T n := by
  intro f
  induction f using Nat.strongRecOn with
  | ind f ih =>
    intro n hn hN
    cases f with
    | zero => omega
    | succ f =>
      show n :: (aP T n).flatMap (preF T f) = n :: (aP T n).flatMap (preF T n)
      have key : ∀ p ∈ aP T n, preF T f p = preF T n p := by
        intro p hp
        have h1 := hw.1 n hN p hp
        rw [ih f (by omega) p (by omega) (by omega), ih n (by omega) p h1 (by omega)]
      rw [fm_congr key]
theorem pre_eq {T : AT} (hw : WT T) {n : Nat} (hn : n < aN T) : pre T n = n :: (aP T n).flatMap (pre T) := by
  show n :: (aP T n).flatMap (preF T n) = _
  have key : ∀ p ∈ aP T n, preF T n p = pre T p := fun p hp => preF_pre hw n p (hw.1 n hn p hp) (by have := hw.1 n hn p hp; omega)
  rw [fm_congr key]
theorem mem_pre {T : AT} (hw : WT T) {n x : Nat} (hn : n < aN T) : x ∈ pre T n ↔ x = n ∨ ∃ p ∈ aP T n, x ∈ pre T p := by
  rw [pre_eq hw hn, List.mem_cons, List.mem_flatMap]
theorem pre_self {T : AT} (hw : WT T) {n : Nat} (hn : n < aN T) : n ∈ pre T n := (mem_pre hw hn).mpr (Or.inl rfl)
theorem pre_le {T : AT} (hw : WT T) : ∀ n, n < aN T → ∀ x ∈ pre T n, x ≤ n := by
  intro n
  induction n using Nat.strongRecOn with
  | ind n ih =>
    intro hn x hx
    rcases (mem_pre hw hn).mp hx with rfl | ⟨p, hp, hxp⟩
    · exact Nat.le_refl _
    · have h1 := hw.1 n hn p hp
      have h2 := ih p h1 (by omega) x hxp
      omega
theorem pre_dn {T : AT} (hw : WT T) : ∀ n, n < aN T → ∀ y ∈ pre T n, ∀ x ∈ aP T y, x ∈ pre T n := by
  intro n
  induction n using Nat.strongRecOn with
  | ind n ih =>
    intro hn y hy x hx
    rcases (mem_pre hw hn).mp hy with rfl | ⟨p, hp, hyp⟩
    · have h1 := hw.1 y hn x hx
      exact (mem_pre hw hn).mpr (Or.inr ⟨x, hx, pre_self hw (by omega)⟩)
    · have h1 := hw.1 n hn p hp
      exact (mem_pre hw hn).mpr (Or.inr ⟨p, hp, ih p h1 (by omega) y hyp x hx⟩)
theorem pre_up {T : AT} (hw : WT T) : ∀ n, n < aN T → ∀ x ∈ pre T n, x = n ∨ ∃ y ∈ pre T n, x ∈ aP T y := by
  intro n
  induction n using Nat.strongRecOn with
  | ind n ih =>
    intro hn x hx
    rcases (mem_pre hw hn).mp hx with rfl | ⟨p, hp, hxp⟩
    · exact Or.inl rfl
    · have h1 := hw.1 n hn p hp
      rcases ih p h1 (by omega) x hxp with rfl | ⟨y, hy, hxy⟩
      · exact Or.inr ⟨n, pre_self hw hn, hp⟩
      · exact Or.inr ⟨y, (mem_pre hw hn).mpr (Or.inr ⟨p, hp, hy⟩), hxy⟩
theorem pre_dis {T : AT} (hw : WT T) {n p q : Nat} (hn : n < aN T) (hp : p ∈ aP T n) (hq : q ∈ aP T n) : ∀ (d x : Nat), aN T - x ≤ d → x ∈ pre T p → x ∈ pre T q → p = q := by
  have hpn := hw.1 n hn p hp
  have hqn := hw.1 n hn q hq
  intro d
  induction d with
  | zero =>
    intro x hd hxp _
    have := pre_le hw p (by omega) x hxp
    omega
  | succ d ih =>
    intro x hd hxp hxq
    have l1 := pre_le hw p (by omega) x hxp
    rcases pre_up hw p (by omega) x hxp with rfl | ⟨y, hy, hxy⟩
    · rcases pre_up hw q (by omega) x hxq with rfl | ⟨z, hz, hxz⟩
      · rfl
      · have l2 := pre_le hw q (by omega) z hz
        have := hw.2.2 n z x hn (by omega) hp hxz
        omega
    · have l2 := pre_le hw p (by omega) y hy
      rcases pre_up hw q (by omega) x hxq with rfl | ⟨z, hz, hxz⟩
      · have := hw.2.2 n y x hn (by omega) hq hxy
        omega
      · have l3 := pre_le hw q (by omega) z hz
        have e := hw.2.2 y z x (by omega) (by omega) hxy hxz
        subst e
        have l4 := hw.1 y (by omega) x hxy
        exact ih y (by omega) hy hz
theorem pre_pw {T : AT} (hw : WT T) : ∀ n, n < aN T → (pre T n).Pairwise (fun a b => a ≠ b ∧ a ∉ aP T b) := by
  intro n
  induction n using Nat.strongRecOn with
  | ind n ih =>
    intro hn
    rw [pre_eq hw hn, List.pairwise_cons]
    refine ⟨?_, ?_⟩
    · intro b hb
      obtain ⟨p, hp, hbp⟩ := List.mem_flatMap.mp hb
      have h1 := hw.1 n hn p hp
      have h2 := pre_le hw p (by omega) b hbp
      refine ⟨by omega, fun hh => ?_⟩
      have := hw.1 b (by omega) n hh
      omega
    · rw [List.pairwise_flatMap]
      refine ⟨fun p hp => ih p (hw.1 n hn p hp) (by have := hw.1 n hn p hp; omega), ?_⟩
      refine List.Pairwise.imp_of_mem ?_ (hw.2.1 n hn)
      intro p q hp hq hpq x hx y hy
      refine ⟨fun e => ?_, fun hxy => ?_⟩
      · subst e; exact hpq (pre_dis hw hn hp hq _ x (Nat.le_refl _) hx hy)
      · exact hpq (pre_dis hw hn hp hq _ x (Nat.le_refl _) hx (pre_dn hw q (by have := hw.1 n hn q hq; omega) y hy x hxy))
theorem pre_nodup {T : AT} (hw : WT T) {n : Nat} (hn : n < aN T) : (pre T n).Nodup := (pre_pw hw n hn).imp (fun h => h.1)
theorem pre_lt {T : AT} (hw : WT T) {n x : Nat} (hn : n < aN T) (hx : x ∈ pre T n) : x < aN T := by
  have := pre_le hw n hn x hx
  omega
theorem pre_len {T : AT} (hw : WT T) {n : Nat} (hn : n < aN T) : (pre T n).length ≤ aN T := nodup_le (pre_nodup hw hn) (fun _ hx => pre_lt hw hn hx)
theorem ord_dn {T : AT} (hw : WT T) {r x p : Nat} {l1 l2 : List Nat} (hr : r < aN T) (h : pre T r = l1 ++ x :: l2) (hp : p ∈ aP T x) : p ∈ l2 := by
  have hx : x ∈ pre T r := by rw [h]; simp
  have hpr := pre_dn hw r hr x hx p hp
  have hpw := pre_pw hw r hr
  rw [h] at hpr hpw
  rcases List.mem_append.mp hpr with hh | hh
  · have := (List.pairwise_append.mp hpw).2.2 p hh x List.mem_cons_self
    exact absurd hp this.2
  · rcases List.mem_cons.mp hh with rfl | hh
    · have := hw.1 p (pre_lt hw hr hx) p hp; omega
    · exact hh
theorem ord_up {T : AT} (hw : WT T) {r x : Nat} {l1 l2 : List Nat} (hr : r < aN T) (h : pre T r = l1 ++ x :: l2) (hne : x ≠ r) : ∃ y ∈ l1, x ∈ aP T y := by
  have hx : x ∈ pre T r := by rw [h]; simp
  rcases pre_up hw r hr x hx with e | ⟨y, hy, hxy⟩
  · exact absurd e hne
  · have hpw := pre_pw hw r hr
    have hyl := pre_lt hw hr hy
    rw [h] at hy hpw
    rcases List.mem_append.mp hy with hh | hh
    · exact ⟨y, hh, hxy⟩
    · rcases List.mem_cons.mp hh with rfl | hh
      · have := hw.1 y hyl y hxy; omega
      · have := (List.pairwise_cons.mp (List.pairwise_append.mp hpw).2.1).1 y hh
        exact absurd hxy this.2
