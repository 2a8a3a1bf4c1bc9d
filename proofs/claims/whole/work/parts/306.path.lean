/-! what a NODE is inside of, up to THE ROOT -/
def Pth (T : AT) (x : Nat) (l : List Nat) (t : Nat) : Prop := match l with
  | [] => x = t
  | q :: l' => q < aN T ∧ x ∈ aP T q ∧ Pth T q l' t
theorem Pth_ex {T : AT} (hw : WT T) {r : Nat} (hr : r < aN T) : ∀ (d x : Nat), aN T - x ≤ d → x ∈ pre T r → ∃ l, Pth T x l r := by
  intro d
  induction d with
  | zero => intro x hd hx; have := pre_lt hw hr hx; omega
  | succ d ih =>
    intro x hd hx
    rcases pre_up hw r hr x hx with rfl | ⟨y, hy, hxy⟩
    · exact ⟨[], rfl⟩
    · have hyl := pre_lt hw hr hy
      have h1 := hw.1 y hyl x hxy
      obtain ⟨l, hl⟩ := ih y (by omega) hy
      exact ⟨y :: l, hyl, hxy, hl⟩
theorem Pth_len {T : AT} (hw : WT T) {t : Nat} : ∀ (l : List Nat) (x : Nat), Pth T x l t → x + l.length ≤ t := by
  intro l
  induction l with
  | nil => intro x h; exact Nat.le_of_eq h
  | cons q l ih =>
    intro x h
    have h1 := ih q h.2.2
    have h2 := hw.1 q h.1 x h.2.1
    simp only [List.length_cons]; omega
theorem Pth_mem {T : AT} (hw : WT T) {t : Nat} : ∀ (l : List Nat) (x : Nat), Pth T x l t → ∀ q ∈ l, x < q ∧ q ≤ t ∧ q < aN T := by
  intro l
  induction l with
  | nil => intro x _ q hq; simp at hq
  | cons a l ih =>
    intro x h q hq
    have h2 := hw.1 a h.1 x h.2.1
    rcases List.mem_cons.mp hq with rfl | hq
    · have := Pth_len hw l q h.2.2
      exact ⟨h2, by omega, h.1⟩
    · have := ih a h.2.2 q hq
      exact ⟨by omega, this.2.1, this.2.2⟩
theorem Pth_split {T : AT} : ∀ (as bs : List Nat) (x t : Nat), Pth T x (as ++ bs) t ↔ ∃ y, Pth T x as y ∧ Pth T y bs t := by
  intro as
  induction as with
  | nil => intro bs x t; exact ⟨fun h => ⟨x, rfl, h⟩, fun ⟨y, h1, h2⟩ => by cases h1; exact h2⟩
  | cons a as ih =>
    intro bs x t
    constructor
    · intro h
      obtain ⟨y, h1, h2⟩ := (ih bs a t).mp h.2.2
      exact ⟨y, ⟨h.1, h.2.1, h1⟩, h2⟩
    · intro ⟨y, h1, h2⟩
      exact ⟨h1.1, h1.2.1, (ih bs a t).mpr ⟨y, h1.2.2, h2⟩⟩
theorem Pth_pre {T : AT} (hw : WT T) {r : Nat} (hr : r < aN T) : ∀ (l : List Nat) (x t : Nat), x ∈ pre T r → Pth T x l t → t ≤ r → x ≠ r ∨ l = [] → t ∈ pre T r := by
  intro l
  induction l with
  | nil => intro x t hx h _ _; cases h; exact hx
  | cons q l ih =>
    intro x t hx h ht hne
    have hl := Pth_len hw l q h.2.2
    rcases hne with hne | hne
    · rcases pre_up hw r hr x hx with e | ⟨y, hy, hxy⟩
      · exact absurd e hne
      · have e := hw.2.2 y q x (pre_lt hw hr hy) h.1 hxy h.2.1
        subst e
        by_cases e2 : y = r
        · subst e2
          cases l with
          | nil => have := h.2.2; cases this; exact hy
          | cons z l => have := Pth_len hw _ _ h.2.2; simp at this; omega
        · exact ih y t hy h.2.2 ht (Or.inl e2)
    · cases hne
def isLp (s : Int32) : Bool := !decide (s < 5) && !decide (8 < s)
def stp (s q : Int32) : Bool := isLp q || (decide (s = 10) && (decide (q = 14) || decide (q = 15)))
def tgT (T : AT) (x : Nat) (l : List Nat) : Option Nat :=
  if aV T x = -1 then l.find? (fun q => stp (aS T x) (aS T q))
  else match l.find? (fun q => decide (aS T q = 12) && decide (aV T q = aV T x)) with
    | none => none
    | some q => if aS T x = 10 then some q else (match (aP T q).head? with | none => none | some p => if isLp (aS T p) = true then some p else none)
theorem rf_isLoop (s : Int32) : f_Rf_isLoop s = some (bi (isLp s)) := by
  rw [f_Rf_isLoop.eq_1]
  unfold isLp
  by_cases h : s < 5
  · simp [h, bi]
  · by_cases h2 : 8 < s
    · simp [h, h2, bi]
    · simp [h, h2, bi]
theorem md_isLoop {mb : MbS} {T : AT} {rl : List Nat} (h : MbR mb T rl) (hn : aN T ≤ 60) {q : Nat} (hq : q < aN T) : f_Md_isLoop (nI q) mb = some (bi (isLp (aS T q))) := by
  rw [f_Md_isLoop.eq_1, if_pos (inB_nI (by omega) (by decide)), nI_clamp (by omega), (h.2.1 q hq).1, f_Md_isIn.eq_1]
  unfold isLp
  by_cases h : aS T q < 5
  · simp [h, bi, bB]
  · by_cases h2 : 8 < aS T q
    · simp [h, h2, bi, bB]
    · simp [h, h2, bi, bB]
theorem lk_stops (s q : Int32) : f_Lk_stopsNameless s q = some (bi (stp s q)) := by
  rw [f_Lk_stopsNameless.eq_1, rf_isLoop]
  simp only [Option.bind_some, b0]
  unfold stp
  cases isLp q
  · by_cases h : s = 10
    · by_cases h1 : q = 14
      · simp [h, h1, bi]
      · by_cases h2 : q = 15
        · simp [h, h2, bi]
        · simp [h, h1, h2, bi]
    · simp [h, bi]
  · simp [bi]
section P
variable {tr : TrS} {mb : MbS} {T : AT} {ks : List Nat} {fs : Nat → Nat} {rl : List Nat} {N r : Nat}
theorem tr_par (h : TrR tr T ks fs rl) {x q : Nat} (hq : q < aN T) (hx : x ∈ aP T q) : Tr_parent tr x = nI q := h.2.2.2.2.2.2.2.1 q hq x hx
theorem cl_label (h : TrR tr T ks fs rl) (hw : WT T) (hr : r < aN T) {lk : LkS} (hk : Lk_root lk = nI r) {v : Int32} : ∀ (l : List Nat) (x st fuel : Nat), Pth T x l r → st + l.length ≤ 60 → l.length < fuel →
    lp (f_Lk_labelAround_L5 N v lk tr) fuel (nI x, nI st) = some (nx (l.find? (fun q => decide (aS T q = 12) && decide (aV T q = v)))) := by
  have hn := h.2.1
  intro l
  induction l with
  | nil =>
    intro x st fuel hp hs hf
    have hp : x = r := hp
    subst hp
    match fuel, hf with
    | fuel + 1, _ =>
      show f_Lk_labelAround_L5 N v lk tr _ _ = _
      rw [f_Lk_labelAround_L5.eq_1]
      show (if nI x = Lk_root lk then _ else _) = _
      rw [if_pos hk.symm]; rfl
  | cons q l ih =>
    intro x st fuel hp hs hf
    obtain ⟨hq, hxq, hp2⟩ := hp
    have h1 := hw.1 q hq x hxq
    have h2 := Pth_len hw l q hp2
    have hs : st + (l.length + 1) ≤ 60 := hs
    match fuel, hf with
    | fuel + 1, hf =>
      have e1 := ih q (st + 1) fuel hp2 (by omega) (by simpa using hf)
      obtain ⟨b1, b2, -⟩ := h.2.2.2.1 q hq
      show f_Lk_labelAround_L5 N v lk tr _ _ = _
      rw [f_Lk_labelAround_L5.eq_1]
      show (if nI x = Lk_root lk then _ else (if (60 : Int32) ≤ nI st then _ else (if inB (nI x) 60 = true then (if inB (Tr_parent tr (nI x).toNatClampNeg) 60 = true then (if Tr_sort tr (Tr_parent tr (nI x).toNatClampNeg).toNatClampNeg = 12 then (if inB (Tr_parent tr (nI x).toNatClampNeg) 60 = true then (if Tr_value tr (Tr_parent tr (nI x).toNatClampNeg).toNatClampNeg = v then some (Tr_parent tr (nI x).toNatClampNeg) else lp (f_Lk_labelAround_L5 N v lk tr) fuel (Tr_parent tr (nI x).toNatClampNeg, nI st + 1)) else none) else lp (f_Lk_labelAround_L5 N v lk tr) fuel (Tr_parent tr (nI x).toNatClampNeg, nI st + 1)) else none) else none))) = _
      rw [if_neg (by rw [hk]; exact fun e => by have := (nI_eq (by omega) (by omega)).mp e; omega), if_neg (by rw [show (60 : Int32) = nI 60 by decide]; exact nI_ge (by omega) (by omega)), if_pos (inB_nI (by omega) (by decide)), nI_clamp (show x < 2 ^ 31 by omega), tr_par h hq hxq, if_pos (inB_nI (by omega) (by decide)), if_pos (inB_nI (by omega) (by decide)), nI_clamp (show q < 2 ^ 31 by omega), b1, b2, nI_1, e1]
      by_cases c1 : aS T q = 12
      · rw [if_pos c1]
        by_cases c2 : aV T q = v
        · rw [if_pos c2, List.find?_cons_of_pos (by simp [c1, c2])]; rfl
        · rw [if_neg c2, List.find?_cons_of_neg (by simp [c2])]
      · rw [if_neg c1, List.find?_cons_of_neg (by simp [c1])]
theorem cl_around (h : TrR tr T ks fs rl) (hw : WT T) (hN : 100 < N) (hr : r < aN T) {lk : LkS} (hk : Lk_root lk = nI r) {v : Int32} {x : Nat} {l : List Nat} (hp : Pth T x l r) : f_Lk_labelAround N (nI x) v lk tr = some (nx (l.find? (fun q => decide (aS T q = 12) && decide (aV T q = v)))) := by
  have hn := h.2.1
  have := Pth_len hw l x hp
  rw [f_Lk_labelAround.eq_1]
  exact cl_label h hw hr hk l x 0 N hp (by omega) (by omega)
theorem cl_nameless (h : TrR tr T ks fs rl) (hw : WT T) (hr : r < aN T) {lk : LkS} (hk : Lk_root lk = nI r) {y : Nat} (hy : y < aN T) : ∀ (l : List Nat) (x st fuel : Nat), Pth T x l r → st + l.length ≤ 60 → l.length < fuel →
    lp (f_Lk_targetOf_L56 N (nI y) lk tr) fuel (nI x, nI st) = some (nx (l.find? (fun q => stp (aS T y) (aS T q)))) := by
  have hn := h.2.1
  intro l
  induction l with
  | nil =>
    intro x st fuel hp hs hf
    have hp : x = r := hp
    subst hp
    match fuel, hf with
    | fuel + 1, _ =>
      show f_Lk_targetOf_L56 N (nI y) lk tr _ _ = _
      rw [f_Lk_targetOf_L56.eq_1]
      show (if nI x = Lk_root lk then _ else _) = _
      rw [if_pos hk.symm]; rfl
  | cons q l ih =>
    intro x st fuel hp hs hf
    obtain ⟨hq, hxq, hp2⟩ := hp
    have h1 := hw.1 q hq x hxq
    have h2 := Pth_len hw l q hp2
    have hs : st + (l.length + 1) ≤ 60 := hs
    match fuel, hf with
    | fuel + 1, hf =>
      have e1 := ih q (st + 1) fuel hp2 (by omega) (by simpa using hf)
      obtain ⟨b1, b2, -⟩ := h.2.2.2.1 q hq
      obtain ⟨c1, -⟩ := h.2.2.2.1 y hy
      show f_Lk_targetOf_L56 N (nI y) lk tr _ _ = _
      rw [f_Lk_targetOf_L56.eq_1]
      show (if nI x = Lk_root lk then _ else (if (60 : Int32) ≤ nI st then _ else (if inB (nI x) 60 = true then (if inB (nI y) 60 = true then (if inB (Tr_parent tr (nI x).toNatClampNeg) 60 = true then ((f_Lk_stopsNameless (Tr_sort tr (nI y).toNatClampNeg) (Tr_sort tr (Tr_parent tr (nI x).toNatClampNeg).toNatClampNeg)).bind fun y99 => (if y99 = 0 then lp (f_Lk_targetOf_L56 N (nI y) lk tr) fuel (Tr_parent tr (nI x).toNatClampNeg, nI st + 1) else some (Tr_parent tr (nI x).toNatClampNeg))) else none) else none) else none))) = _
      rw [if_neg (by rw [hk]; exact fun e => by have := (nI_eq (by omega) (by omega)).mp e; omega), if_neg (by rw [show (60 : Int32) = nI 60 by decide]; exact nI_ge (by omega) (by omega)), if_pos (inB_nI (by omega) (by decide)), if_pos (inB_nI (by omega) (by decide)), nI_clamp (show x < 2 ^ 31 by omega), tr_par h hq hxq, if_pos (inB_nI (by omega) (by decide)), nI_clamp (show q < 2 ^ 31 by omega), nI_clamp (show y < 2 ^ 31 by omega), b1, c1, nI_1, e1, lk_stops]
      simp only [Option.bind_some, b0]
      by_cases c : stp (aS T y) (aS T q) = true
      · rw [if_pos c, List.find?_cons_of_pos (by simpa using c)]; rfl
      · rw [if_neg c, List.find?_cons_of_neg (by simpa using c)]
theorem cl_targetOf (h : TrR tr T ks fs rl) (hw : WT T) (hN : 100 < N) (hr : r < aN T) {lk : LkS} (hk : Lk_root lk = nI r) (h12 : ∀ q, q < aN T → aS T q = 12 → (aP T q).length = 1) {x : Nat} {l : List Nat} (hp : Pth T x l r) (hx : x < aN T) : f_Lk_targetOf N (nI x) lk tr = some (nx (tgT T x l)) := by
  have hn := h.2.1
  have hl := Pth_len hw l x hp
  obtain ⟨b1, b2, -⟩ := h.2.2.2.1 x hx
  rw [f_Lk_targetOf.eq_1, if_pos (inB_nI (by omega) (by decide)), nI_clamp (by omega), b1, b2, cl_around h hw hN hr hk hp]
  unfold tgT
  by_cases c : aV T x = -1
  · rw [if_pos c, if_pos c]
    exact cl_nameless h hw hr hk hx l x 0 N hp (by omega) (by omega)
  · rw [if_neg c, if_neg c]
    simp only [Option.bind_some]
    rw [if_pos (inB_nI (show x < 60 by omega) (by decide))]
    cases hf : l.find? (fun q => decide (aS T q = 12) && decide (aV T q = aV T x)) with
    | none =>
      show (if aS T x = 10 then _ else (if (-1 : Int32) = -1 then _ else _)) = _
      by_cases c1 : aS T x = 10
      · rw [if_pos c1]
      · rw [if_neg c1, if_pos rfl]
    | some q =>
      show (if aS T x = 10 then some (nI q) else (if nI q = -1 then _ else _)) = some (nx (if aS T x = 10 then some q else _))
      have hq := Pth_mem hw l x hp q (List.mem_of_find?_eq_some hf)
      by_cases c1 : aS T x = 10
      · rw [if_pos c1, if_pos c1]; rfl
      · have hs12 : aS T q = 12 := by
          have := List.find?_some hf
          simp at this; exact this.1
        have hlen := h12 q hq.2.2 hs12
        rw [if_neg c1, if_neg c1, if_neg (nI_ne_m1 (by omega)), f_Lk_loopIn.eq_1]
        match hP : aP T q, hlen with
        | [p], _ =>
          have hpq := hw.1 q hq.2.2 p (by rw [hP]; simp)
          have hk0 : f_Tr_kid (nI q) 0 tr = some (nI p) := tr_kid h hq.2.2 (i := 0) (p := p) (by rw [hP]; rfl)
          rw [nx_s, hk0]
          show ((if inB (nI p) 60 = true then (f_Rf_isLoop (Tr_sort tr (nI p).toNatClampNeg)).bind _ else none).bind _) = some (nx (if isLp (aS T p) = true then some p else none))
          rw [if_pos (inB_nI (by omega) (by decide)), nI_clamp (by omega), (h.2.2.2.1 p (by omega)).1, rf_isLoop]
          simp only [Option.bind_some]
          cases isLp (aS T p) <;> rfl
theorem md_upP (h : MbR mb T rl) (hw : WT T) (hr : r < 60) {mg : MgS} (hg : Mg_root mg = nI r) {x : Nat} {l : List Nat} (hp : Pth T x l r) : f_Md_up (nI x) mb mg = some (nx l.head?) := by
  cases l with
  | nil => cases hp; exact md_up_r hg
  | cons q l =>
    have h1 := hw.1 q hp.1 x hp.2.1
    have h2 := Pth_len hw l q hp.2.2
    exact md_up_n h hg hr hp.1 hp.2.1 (by omega) (by omega)
theorem md_targetL (h : MbR mb T rl) (hw : WT T) (hn : aN T ≤ 60) (hr : r < aN T) {mg : MgS} (hg : Mg_root mg = nI r) (h12 : ∀ q, q < aN T → aS T q = 12 → (aP T q).length = 1) {y : Nat} (hy : y < aN T) : ∀ (l : List Nat) (x fuel : Nat), Pth T x l r → l.length < fuel →
    lp (f_Md_targetOf_L23 N (nI y) (bi (decide (aS T y = 10))) mb mg) fuel (nx l.head?) = some (nx (tgT T y l)) := by
  intro l
  induction l with
  | nil =>
    intro x fuel hp hf
    match fuel, hf with
    | fuel + 1, _ =>
      show f_Md_targetOf_L23 N _ _ mb mg _ _ = _
      rw [f_Md_targetOf_L23.eq_1]
      show (if (-1 : Int32) = -1 then _ else _) = _
      rw [if_pos rfl]
      unfold tgT
      by_cases c : aV T y = -1
      · rw [if_pos c]; rfl
      · rw [if_neg c]; rfl
  | cons q l ih =>
    intro x fuel hp hf
    obtain ⟨hq, hxq, hp2⟩ := hp
    match fuel, hf with
    | fuel + 1, hf =>
      have e1 := ih q fuel hp2 (by simpa using hf)
      have e2 : f_Md_targetOf_b132 N (lp (f_Md_targetOf_L23 N (nI y) (bi (decide (aS T y = 10))) mb mg) fuel) (nI y) (bi (decide (aS T y = 10))) (nI q) mb mg = some (nx (tgT T y l)) := by
        rw [f_Md_targetOf_b132.eq_1, md_upP h hw (by omega) hg hp2]; exact e1
      obtain ⟨m1, m2, -⟩ := h.2.1 q hq
      obtain ⟨y1, y2, -⟩ := h.2.1 y hy
      show f_Md_targetOf_L23 N _ _ mb mg _ _ = _
      rw [f_Md_targetOf_L23.eq_1]
      simp only [List.head?_cons, nx_s]
      rw [e2, md_isLoop h hn hq]
      simp only [Option.bind_some, b0, if_neg (nI_ne_m1 (show q < 2 ^ 31 by omega)), if_pos (inB_nI (show y < 60 by omega) (by decide)), if_pos (inB_nI (show q < 60 by omega) (by decide)), nI_clamp (show q < 2 ^ 31 by omega), nI_clamp (show y < 2 ^ 31 by omega), m1, m2, y2]
      unfold tgT
      by_cases c : aV T y = -1
      · simp only [if_pos c]
        by_cases cl : isLp (aS T q) = true
        · rw [if_pos cl, List.find?_cons_of_pos (by simp [stp, cl])]; rfl
        · rw [if_neg cl]
          have cl : isLp (aS T q) = false := by simpa using cl
          by_cases cb : aS T y = 10
          · simp only [cb, decide_true, if_true]
            by_cases c14 : aS T q = 14
            · rw [if_pos c14, List.find?_cons_of_pos (by simp [stp, c14])]; rfl
            · rw [if_neg c14]
              by_cases c15 : aS T q = 15
              · rw [if_pos c15, List.find?_cons_of_pos (by simp [stp, c15])]; rfl
              · rw [if_neg c15, List.find?_cons_of_neg (by simp [stp, cl, c14, c15])]
          · simp only [cb, decide_false]
            rw [if_neg (by decide), List.find?_cons_of_neg (by simp [stp, cl, cb])]
      · simp only [if_neg c]
        by_cases c12 : aS T q = 12
        · rw [if_pos c12]
          by_cases cv : aV T q = aV T y
          · rw [if_pos cv, List.find?_cons_of_pos (by simp [c12, cv])]
            show _ = some (nx (if aS T y = 10 then some q else _))
            by_cases cb : aS T y = 10
            · simp only [cb, decide_true, if_true]; rfl
            · rw [if_neg cb, decide_eq_false cb, if_neg (by decide)]
              have hlen := h12 q hq c12
              have hfst := (h.2.1 q hq).2.2.2.2.2.1
              match hP : aP T q, hlen with
              | [p], _ =>
                have hpq := hw.1 q hq p (by rw [hP]; simp)
                rw [hP] at hfst
                rw [show Mb_first mb q = nI p from hfst, md_isLoop h hn (by omega)]
                simp only [Option.bind_some, b0]
                show _ = some (nx (if isLp (aS T p) = true then some p else none))
                by_cases cl : isLp (aS T p) = true
                · rw [if_pos cl, if_pos cl]; rfl
                · rw [if_neg cl, if_neg cl]; rfl
          · rw [if_neg cv, List.find?_cons_of_neg (by simp [cv])]
        · rw [if_neg c12, List.find?_cons_of_neg (by simp [c12])]
theorem md_targetOf (h : MbR mb T rl) (hw : WT T) (hn : aN T ≤ 60) (hN : 100 < N) (hr : r < aN T) {mg : MgS} (hg : Mg_root mg = nI r) (h12 : ∀ q, q < aN T → aS T q = 12 → (aP T q).length = 1) {x : Nat} {l : List Nat} (hp : Pth T x l r) (hx : x < aN T) : f_Md_targetOf N (nI x) mb mg = some (nx (tgT T x l)) := by
  have hl := Pth_len hw l x hp
  have e1 := md_targetL (N := N) h hw hn hr hg h12 hx l x N hp (by omega)
  rw [f_Md_targetOf.eq_1, if_pos (inB_nI (by omega) (by decide)), nI_clamp (by omega), (h.2.1 x hx).1, f_Md_targetOf_b16.eq_1, f_Md_targetOf_b16.eq_1, md_upP h hw (by omega) hg hp]
  simp only [Option.bind_some]
  by_cases c : aS T x = 10
  · rw [if_pos c, ← e1, decide_eq_true c]; rfl
  · rw [if_neg c, ← e1, decide_eq_false c]; rfl
end P
