/-! HOW NODES CAN END, as if come to: dO open, dN NORMALLY, dR RETURN, dB BREAK, dC CONTINUE, dT KINDS; v: walks, else THE RULES -/
abbrev Dt : Type := (Nat → Bool) × (Nat → Bool) × (Nat → Bool) × (Nat → Nat → Bool) × (Nat → Nat → Bool) × (Nat → Nat → Bool)
abbrev dO (D : Dt) : Nat → Bool := D.1
abbrev dN (D : Dt) : Nat → Bool := D.2.1
abbrev dR (D : Dt) : Nat → Bool := D.2.2.1
abbrev dB (D : Dt) : Nat → Nat → Bool := D.2.2.2.1
abbrev dC (D : Dt) : Nat → Nat → Bool := D.2.2.2.2.1
abbrev dT (D : Dt) : Nat → Nat → Bool := D.2.2.2.2.2
def flD (fl : FlS) : Dt := (lb (Fl_open fl), lb (Fl_normal fl), lb (Fl_returning fl), fun x y => lb (Fl_breaks fl x) y, fun x y => lb (Fl_continues fl x) y, fun x k => bt (Fl_thrown fl x) k)
def anO (D : Dt) (l : List Nat) (f : Nat → Bool) : Bool := l.any (fun p => dO D p && f p)
theorem anO_iff {D : Dt} {l : List Nat} {f : Nat → Bool} : anO D l f = true ↔ ∃ p ∈ l, dO D p = true ∧ f p = true := by
  unfold anO
  rw [List.any_eq_true]
  constructor
  · intro ⟨p, hp, hh⟩; rw [Bool.and_eq_true] at hh; exact ⟨p, hp, hh⟩
  · intro ⟨p, hp, hh⟩; exact ⟨p, hp, by rw [Bool.and_eq_true]; exact hh⟩
theorem any_cg {l : List Nat} {f g : Nat → Bool} (h : ∀ p ∈ l, f p = g p) : l.any f = l.any g := by
  rw [Bool.eq_iff_iff, List.any_eq_true, List.any_eq_true]
  constructor
  · intro ⟨p, hp, hh⟩; exact ⟨p, hp, by rw [← h p hp]; exact hh⟩
  · intro ⟨p, hp, hh⟩; exact ⟨p, hp, by rw [h p hp]; exact hh⟩
theorem anO_cg {D D' : Dt} {l : List Nat} {f g : Nat → Bool} (ho : ∀ p ∈ l, dO D' p = dO D p) (h : ∀ p ∈ l, f p = g p) : anO D' l f = anO D l g := any_cg (fun p hp => by rw [ho p hp, h p hp])
/-- the part before the i-th is open and goes on -/
def gob (D : Dt) (P : List Nat) (i : Nat) : Bool := match i with
  | 0 => true
  | i + 1 => match P[i]? with | none => true | some q => dO D q && dN D q
def tIf (v : Bool) (T : AT) (x : Nat) : Int32 := bif v then aV T x else 2
def tOf (T : AT) (x : Nat) : Int32 := if aV T x = 3 then 1 else aV T x
def opn (v : Bool) (T : AT) (x i p : Nat) (bf : Bool) : Bool :=
  if aS T x = 4 then decide (tIf v T x = 2) || decide (tIf v T x = if i = 0 then 1 else 0)
  else if aS T x = 5 then !decide (tOf T x = 0)
  else if aS T x = 7 then !decide (tOf T x = 0)
  else if aS T x = 13 then bf
  else if aS T x = 14 then bf || !decide (aM T p = 0)
  else true
def gpa (v : Bool) (T : AT) (D : Dt) (x : Nat) : Bool :=
  if aS T x = 4 then (decide ((aP T x).length = 1) && !decide (tIf v T x = 1)) || anO D (aP T x) (dN D)
  else if aS T x = 5 then !decide (tOf T x = 1)
  else if aS T x = 6 then !decide (tOf T x = 1) && (anO D (aP T x) (dN D) || anO D (aP T x) (fun p => dC D p x))
  else if aS T x = 7 then !decide (tOf T x = 1)
  else if aS T x = 8 then true
  else if aS T x = 13 then gob D (aP T x) (aP T x).length
  else if aS T x = 14 then !dfB T x || !decide (aE T x = 0) || gob D (aP T x) (aP T x).length
  else if aS T x = 15 then !dfB T x || anO D (aP T x) (dN D)
  else anO D (aP T x) (dN D)
def WhAt (v : Bool) (T : AT) (D : Dt) (x : Nat) : Prop :=
  (∀ (i p : Nat), (aP T x)[i]? = some p → dO D p = opn v T x i p (gob D (aP T x) i)) ∧ dR D x = anO D (aP T x) (dR D) ∧ (∀ y, y < 64 → dB D x y = (!decide (y = x) && anO D (aP T x) (fun p => dB D p y))) ∧ (∀ y, y < 64 → dC D x y = (!decide (y = x) && anO D (aP T x) (fun p => dC D p y))) ∧ (∀ k, k < 32 → dT D x k = anO D (aP T x) (fun p => dT D p k)) ∧ dN D x = (gpa v T D x || anO D (aP T x) (fun p => dB D p x))
def frT (T : AT) (x : Nat) : List Nat := if aH T x = true then (aP T x).dropLast else aP T x
def enT (T : AT) (x : Nat) : Option Nat := if aH T x = true then (aP T x).getLast? else none
def mkN (T : AT) (c : Nat) : Nat := (aM T c).toNatClampNeg
def cgt (K : Nat) (T : AT) (B : Nat → Nat → Bool) (l : List Nat) (k : Nat) : Bool := l.any (fun c => decide (k < K) && B k (mkN T c))
def nnt (B : Nat → Nat → Bool) (c : Nat) : Bool := decide (c ≤ 1) || B c 2 || B c 3
def oC (v : Bool) (K : Nat) (T : AT) (B : Nat → Nat → Bool) (th : Nat → Bool) (l1 : List Nat) (c : Nat) : Bool :=
  bif v then (List.range 32).any (fun k => th k && !cgt K T B l1 k && (decide (k < K) && B k (mkN T c)))
  else !cgt K T B l1 (mkN T c) && (nnt B (mkN T c) || (List.range 32).any (fun k => th k && ((decide (k < K) && B k (mkN T c)) || B (mkN T c) k)))
def eN (T : AT) (D : Dt) (x : Nat) : Bool := match enT T x with | none => true | some e => dN D e
def eX (T : AT) (D : Dt) (x : Nat) (f : Nat → Bool) : Bool := match enT T x with | none => false | some e => dO D e && f e
def pTh (K : Nat) (T : AT) (B : Nat → Nat → Bool) (D : Dt) (b : Nat) (cs : List Nat) (k : Nat) : Bool := anO D cs (fun p => dT D p k) || (dT D b k && !cgt K T B cs k)
def tryE (K : Nat) (T : AT) (B : Nat → Nat → Bool) (D : Dt) (b : Nat) (cs : List Nat) : Bool := anO D (b :: cs) (dN D) || anO D (b :: cs) (dR D) || (List.range 64).any (fun y => anO D (b :: cs) (fun p => dB D p y)) || (List.range 64).any (fun y => anO D (b :: cs) (fun p => dC D p y)) || (List.range 32).any (fun k => pTh K T B D b cs k)
def TrAt (v : Bool) (K : Nat) (T : AT) (B : Nat → Nat → Bool) (D : Dt) (x : Nat) : Prop := ∀ b cs, frT T x = b :: cs →
  dO D b = true ∧ (∀ l1 c l2, cs = l1 ++ c :: l2 → dO D c = oC v K T B (dT D b) l1 c) ∧ (∀ e, enT T x = some e → dO D e = (!v || tryE K T B D b cs)) ∧
  dN D x = (anO D (b :: cs) (dN D) && eN T D x) ∧ dR D x = ((anO D (b :: cs) (dR D) && eN T D x) || eX T D x (dR D)) ∧ (∀ y, y < 64 → dB D x y = ((anO D (b :: cs) (fun p => dB D p y) && eN T D x) || eX T D x (fun p => dB D p y))) ∧ (∀ y, y < 64 → dC D x y = ((anO D (b :: cs) (fun p => dC D p y) && eN T D x) || eX T D x (fun p => dC D p y))) ∧ ∀ k, k < 32 → dT D x k = ((pTh K T B D b cs k && eN T D x) || eX T D x (fun p => dT D p k))
def tA (v : Bool) (K : Nat) (B : Nat → Nat → Bool) (z : Int32) (k : Nat) : Bool := if z = -1 then false else bif v then decide (k < K) && B k z.toNatClampNeg else decide (k = z.toNatClampNeg)
def lfB (s : Int32) : Bool := decide (s = 0) || decide (s = 1) || decide (s = 2) || decide (s = 3) || decide (s = 10) || decide (s = 11)
def LfAt (v : Bool) (K : Nat) (T : AT) (B : Nat → Nat → Bool) (tg : Nat → Int32) (D : Dt) (x : Nat) : Prop :=
  dN D x = (decide (aS T x = 0) || decide (aS T x = 1)) ∧ dR D x = decide (aS T x = 3) ∧ (∀ y, y < 64 → dB D x y = (decide (aS T x = 10) && decide (tg x = nI y))) ∧ (∀ y, y < 64 → dC D x y = (decide (aS T x = 11) && decide (tg x = nI y))) ∧ ∀ k, k < 32 → dT D x k = ((decide (aS T x = 1) || decide (aS T x = 2)) && tA v K B (aV T x) k)
def SolAt (v : Bool) (K : Nat) (T : AT) (B : Nat → Nat → Bool) (tg : Nat → Int32) (D : Dt) (x : Nat) : Prop := if lfB (aS T x) = true then LfAt v K T B tg D x else if aS T x = 16 then TrAt v K T B D x else WhAt v T D x
theorem gob_cg {D D' : Dt} {P : List Nat} (c0 : ∀ p ∈ P, dO D' p = dO D p) (c1 : ∀ p ∈ P, dN D' p = dN D p) (i : Nat) : gob D' P i = gob D P i := by
  cases i with
  | zero => rfl
  | succ i =>
    show (match P[i]? with | none => true | some q => dO D' q && dN D' q) = (match P[i]? with | none => true | some q => dO D q && dN D q)
    cases hg : P[i]? with
    | none => rfl
    | some q =>
      have hq := List.mem_of_getElem? hg
      show (dO D' q && dN D' q) = _
      rw [c0 q hq, c1 q hq]
theorem gpa_cg {v : Bool} {T : AT} {D D' : Dt} {x : Nat} (c0 : ∀ p ∈ aP T x, dO D' p = dO D p) (c1 : ∀ p ∈ aP T x, dN D' p = dN D p) (c4 : ∀ p ∈ aP T x, dC D' p x = dC D p x) : gpa v T D' x = gpa v T D x := by
  unfold gpa
  rw [anO_cg c0 c1, anO_cg c0 c4, gob_cg c0 c1]
theorem oC_cg {v : Bool} {K : Nat} {T : AT} {B : Nat → Nat → Bool} {th th' : Nat → Bool} {l1 : List Nat} {c : Nat} (h : ∀ k, k < 32 → th' k = th k) : oC v K T B th' l1 c = oC v K T B th l1 c := by
  unfold oC
  have e1 : (List.range 32).any (fun k => th' k && !cgt K T B l1 k && (decide (k < K) && B k (mkN T c))) = (List.range 32).any (fun k => th k && !cgt K T B l1 k && (decide (k < K) && B k (mkN T c))) := any_cg (fun k hk => by rw [h k (List.mem_range.mp hk)])
  have e2 : (List.range 32).any (fun k => th' k && ((decide (k < K) && B k (mkN T c)) || B (mkN T c) k)) = (List.range 32).any (fun k => th k && ((decide (k < K) && B k (mkN T c)) || B (mkN T c) k)) := any_cg (fun k hk => by rw [h k (List.mem_range.mp hk)])
  rw [e1, e2]
/-- what is asked of a NODE hangs on it and on its parts alone -/
theorem SolAt_cg {v : Bool} {K : Nat} {T : AT} {B : Nat → Nat → Bool} {tg : Nat → Int32} {D D' : Dt} {x : Nat} (h : SolAt v K T B tg D x) (a1 : dN D' x = dN D x) (a2 : dR D' x = dR D x) (a3 : ∀ y, y < 64 → dB D' x y = dB D x y) (a4 : ∀ y, y < 64 → dC D' x y = dC D x y) (a5 : ∀ k, k < 32 → dT D' x k = dT D x k) (c0 : ∀ p ∈ aP T x, dO D' p = dO D p) (c1 : ∀ p ∈ aP T x, dN D' p = dN D p) (c2 : ∀ p ∈ aP T x, dR D' p = dR D p) (c3 : ∀ p ∈ aP T x, ∀ y, y < 64 → dB D' p y = dB D p y) (c4 : ∀ p ∈ aP T x, ∀ y, y < 64 → dC D' p y = dC D p y) (c5 : ∀ p ∈ aP T x, ∀ k, k < 32 → dT D' p k = dT D p k) (hx : x < 64) : SolAt v K T B tg D' x := by
  have hfr : ∀ p ∈ frT T x, p ∈ aP T x := by
    intro p hp
    unfold frT at hp
    by_cases c : aH T x = true
    · rw [if_pos c] at hp; exact (List.dropLast_sublist _).subset hp
    · rw [if_neg c] at hp; exact hp
  have hen : ∀ e, enT T x = some e → e ∈ aP T x := by
    intro e he
    unfold enT at he
    by_cases c : aH T x = true
    · rw [if_pos c] at he; exact List.mem_of_getLast? he
    · rw [if_neg c] at he; cases he
  unfold SolAt at *
  by_cases l1 : lfB (aS T x) = true
  · rw [if_pos l1] at h ⊢
    obtain ⟨h1, h2, h3, h4, h5⟩ := h
    exact ⟨a1.trans h1, a2.trans h2, fun y hy => (a3 y hy).trans (h3 y hy), fun y hy => (a4 y hy).trans (h4 y hy), fun k hk => (a5 k hk).trans (h5 k hk)⟩
  · rw [if_neg l1] at h ⊢
    by_cases l2 : aS T x = 16
    · rw [if_pos l2] at h ⊢
      intro b cs hbc
      obtain ⟨h1, h2, h3, h4, h5, h6, h7, h8⟩ := h b cs hbc
      have hb : b ∈ aP T x := hfr b (by rw [hbc]; simp)
      have hbcs : ∀ p ∈ b :: cs, p ∈ aP T x := fun p hp => hfr p (by rw [hbc]; exact hp)
      have hcs : ∀ p ∈ cs, p ∈ aP T x := fun p hp => hbcs p (List.mem_cons_of_mem _ hp)
      have eNc : eN T D' x = eN T D x := by
        unfold eN
        cases he : enT T x with
        | none => rfl
        | some e => exact c1 e (hen e he)
      have eXc : ∀ (f g : Nat → Bool), (∀ p ∈ aP T x, f p = g p) → eX T D' x f = eX T D x g := by
        intro f g hfg
        unfold eX
        cases he : enT T x with
        | none => rfl
        | some e => show (dO D' e && f e) = (dO D e && g e); rw [c0 e (hen e he), hfg e (hen e he)]
      have an : ∀ (f g : Nat → Bool), (∀ p ∈ aP T x, f p = g p) → anO D' (b :: cs) f = anO D (b :: cs) g := fun f g hfg => anO_cg (fun p hp => c0 p (hbcs p hp)) (fun p hp => hfg p (hbcs p hp))
      have pTc : ∀ k, k < 32 → pTh K T B D' b cs k = pTh K T B D b cs k := by
        intro k hk
        unfold pTh
        rw [anO_cg (fun p hp => c0 p (hcs p hp)) (fun p hp => c5 p (hcs p hp) k hk), c5 b hb k hk]
      refine ⟨(c0 b hb).trans h1, ?_, ?_, ?_, ?_, ?_, ?_, ?_⟩
      · intro l1 c l2 hc
        rw [c0 c (hcs c (by rw [hc]; simp)), h2 l1 c l2 hc]
        exact (oC_cg (fun k hk => c5 b hb k hk)).symm
      · intro e he
        rw [c0 e (hen e he), h3 e he]
        unfold tryE
        rw [an _ _ c1, an _ _ c2, any_cg (l := List.range 64) (fun y hy => an (fun p => dB D' p y) (fun p => dB D p y) (fun p hp => c3 p hp y (List.mem_range.mp hy))), any_cg (l := List.range 64) (fun y hy => an (fun p => dC D' p y) (fun p => dC D p y) (fun p hp => c4 p hp y (List.mem_range.mp hy))), any_cg (l := List.range 32) (fun k hk => pTc k (List.mem_range.mp hk))]
      · rw [a1, h4, an _ _ c1, eNc]
      · rw [a2, h5, an _ _ c2, eNc, eXc _ _ c2]
      · intro y hy
        rw [a3 y hy, h6 y hy, an _ _ (fun p hp => c3 p hp y hy), eNc, eXc _ _ (fun p hp => c3 p hp y hy)]
      · intro y hy
        rw [a4 y hy, h7 y hy, an _ _ (fun p hp => c4 p hp y hy), eNc, eXc _ _ (fun p hp => c4 p hp y hy)]
      · intro k hk
        rw [a5 k hk, h8 k hk, pTc k hk, eNc, eXc _ _ (fun p hp => c5 p hp k hk)]
    · rw [if_neg l2] at h ⊢
      obtain ⟨h1, h2, h3, h4, h5, h6⟩ := h
      have an : ∀ (f g : Nat → Bool), (∀ p ∈ aP T x, f p = g p) → anO D' (aP T x) f = anO D (aP T x) g := fun f g hfg => anO_cg c0 hfg
      have go : ∀ i, gob D' (aP T x) i = gob D (aP T x) i := gob_cg c0 c1
      have gp : gpa v T D' x = gpa v T D x := gpa_cg c0 c1 (fun p hp => c4 p hp x hx)
      refine ⟨?_, ?_, ?_, ?_, ?_, ?_⟩
      · intro i p hp
        rw [c0 p (List.mem_of_getElem? hp), h1 i p hp, go]
      · rw [a2, h2, an _ _ c2]
      · intro y hy
        rw [a3 y hy, h3 y hy, an _ _ (fun p hp => c3 p hp y hy)]
      · intro y hy
        rw [a4 y hy, h4 y hy, an _ _ (fun p hp => c4 p hp y hy)]
      · intro k hk
        rw [a5 k hk, h5 k hk, an _ _ (fun p hp => c5 p hp k hk)]
      · rw [a1, h6, gp, an _ _ (fun p hp => c3 p hp x hx)]
