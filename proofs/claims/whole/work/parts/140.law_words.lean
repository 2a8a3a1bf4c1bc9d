/-! THE CLAIM OUT OF ONE WALK OF THE LAW'S BODY. Your part is whole_start (and what it stands on); all else here is the same for every law, but numbers. -/
def R_law : String := "ReachFlowLaw"
def lw_P (b : Addr) (xs : List Int32) (args : Array Value) (s : State) : Prop := args = #[.ref b] ∧ s.IntsAt b xs ∧ xs.length ≤ 2560 ∧ (Jvm.Cond.and given_1 narrow_1).before args s = true
def lw_Q (_ : Array Value) (s : State) (o : Outcome) (t : State) : Prop := o = .returned (some (.int 1)) ∧ Framed s o t [] 56 11828
def lw_Z (below : List Frame) (a : Array Value) (s : State) : State → Prop := fun t => ∃ o, t.status = .running ∧ Ended t below o ∧ lw_Q a s o t
/-- the law's own end, with 1 on the stack, nothing written that was there before, its room as the claim has it -/
theorem lw_ret {p : Program} {l : Launch} {e : Env} {s : State} {m : MethodId} {below : List Frame} {meth : Method} {c : Code} {b : Nat} (hx : p.tables.exec = Jvm.exec) (hb : c.code = code) (hr : meth.sig.returnType = ret) (hlocks : meth.locks = false) {pc : Nat} {H : Heap} {ls : Array Slot} (hdg : decode code pc = .ok (.ireturn, 1)) : W p l e room_1 s m #[Value.ref b] below meth c H [] 56 11828 (lw_Z below #[Value.ref b] s) (F0 m pc ls [.int 1]) := by
  intro T hT X
  obtain ⟨fs, hret, hrun, hended, hW, hframe⟩ := X.leave (v := some (.int 1)) (hlocks := hlocks) (fun h => by rw [hr] at h; cases h)
  have hmeth' : T.vm.method? m = some meth := X.method'
  refine ⟨T.setFrames fs, ?_, .returned (some (.int 1)), hrun, hended, rfl, ⟨_, rfl⟩, hW, hframe⟩
  jvm_step X.here [X.here.top, hx, hb, hdg, hmeth', hr, ret, narrow_b1]
  (try refine ⟨rfl, ?_⟩); (try refine ⟨rfl, ?_⟩)
  first | (intro acts; rw [hret _ acts rfl rfl rfl]) | rw [hret _ _ rfl rfl rfl]
  exact Steps.refl _
/-- what holds at the law's entry: the machine, the code, the tables' words (any of lw_tbl by 'hts w (by decide +kernel)'), the script of L ints xs at the cell b, what the Statement gives of the start (any of its parts by flat_of_before) -/
def lw_At (p : Program) (s : State) (m : MethodId) (meth : Method) (c : Code) (b L : Nat) (xs : Nat → Int32) : Prop :=
  p.tables.exec = Jvm.exec ∧ c.code = code ∧ meth.sig.returnType = ret ∧ c.maxLocals = 4 ∧ s.vm.findClass R_law = some m.cls ∧ (∀ w ∈ lw_tbl, w.before #[Value.ref b] s = true) ∧ va_X b L xs s s.heap ∧ b < s.heap.size ∧ meth.locks = false ∧ (Jvm.Cond.and given_1 narrow_1).before #[Value.ref b] s = true
def LC (p : Program) (s : State) (m : MethodId) (meth : Method) (c : Code) (b L : Nat) (xs : Nat → Int32) (dC : Nat → ClassId) (dI : Nat → Nat → Nat) (cI cJ cZ : ClassId) : Prop :=
  p.tables.exec = Jvm.exec ∧ c.code = code ∧ meth.sig.returnType = ret ∧ c.maxLocals = 4 ∧ s.vm.findClass "ReachFlowLaw" = some m.cls ∧ (∀ w ∈ tb, w.before #[Value.ref b] s = true) ∧ NW s ∧ va_K (dC, dI) classes [(cI, .int), (cJ, .long), (cZ, .boolean)] s ∧ va_X b L xs s s.heap ∧ b < s.heap.size ∧ meth.locks = false
abbrev Rl : Type := KnS → TrS → RwS → LkS → FlS → FlS → MbS → MgS → MxS → MfS → Prop
theorem tw10 : Cond.classLink "ReachFlowLaw" (7 : Nat) "ReachFlow" ∈ tb := tb_t1 _ (List.mem_of_getElem? (i := 10) (by decide +kernel)) rfl
theorem tw11 : Cond.instantiable "ReachFlow" (4 : Nat) ∈ tb := tb_t1 _ (List.mem_of_getElem? (i := 11) (by decide +kernel)) rfl
theorem tw12 : Cond.methodLink "ReachFlowLaw" (9 : Nat) y_Rf_init ∈ tb := tb_t1 _ (List.mem_of_getElem? (i := 12) (by decide +kernel)) rfl
theorem tw13 : Cond.instanceMethod y_Rf_init ∈ tb := tb_t1 _ (List.mem_of_getElem? (i := 13) (by decide +kernel)) rfl
theorem tw14 : Cond.code y_Rf_init prog_1_method_1_code (3 : Nat) (Option.none : Option Jvm.ClassFile.FieldType) ∈ tb := tb_t1 _ (List.mem_of_getElem? (i := 14) rfl) rfl
theorem tw289 : Cond.methodLink "ReachFlowLaw" (13 : Nat) y_Rf_clear ∈ tb := tb_t2 _ (List.mem_of_getElem? (i := 49) (by decide +kernel)) rfl
theorem tw290 : Cond.instanceMethod y_Rf_clear ∈ tb := tb_t2 _ (List.mem_of_getElem? (i := 50) (by decide +kernel)) rfl
theorem tw291 : Cond.selects "ReachFlow" y_Rf_clear y_Rf_clear ∈ tb := tb_t2 _ (List.mem_of_getElem? (i := 51) (by decide +kernel)) rfl
theorem tw292 : Cond.code y_Rf_clear prog_1_method_2_code (2 : Nat) (Option.some Jvm.ClassFile.FieldType.int) ∈ tb := tb_t2 _ (List.mem_of_getElem? (i := 52) rfl) rfl
theorem tw303 : Cond.methodLink "ReachFlowLaw" (18 : Nat) y_Rf_exception ∈ tb := tb_t2 _ (List.mem_of_getElem? (i := 63) (by decide +kernel)) rfl
theorem tw304 : Cond.instanceMethod y_Rf_exception ∈ tb := tb_t2 _ (List.mem_of_getElem? (i := 64) (by decide +kernel)) rfl
theorem tw305 : Cond.selects "ReachFlow" y_Rf_exception y_Rf_exception ∈ tb := tb_t2 _ (List.mem_of_getElem? (i := 65) (by decide +kernel)) rfl
theorem tw306 : Cond.code y_Rf_exception prog_1_method_3_code (2 : Nat) (Option.some Jvm.ClassFile.FieldType.int) ∈ tb := tb_t2 _ (List.mem_of_getElem? (i := 66) rfl) rfl
theorem tw312 : Cond.methodLink "ReachFlowLaw" (23 : Nat) y_Rf_node ∈ tb := tb_t2 _ (List.mem_of_getElem? (i := 72) (by decide +kernel)) rfl
theorem tw313 : Cond.instanceMethod y_Rf_node ∈ tb := tb_t2 _ (List.mem_of_getElem? (i := 73) (by decide +kernel)) rfl
theorem tw314 : Cond.selects "ReachFlow" y_Rf_node y_Rf_node ∈ tb := tb_t2 _ (List.mem_of_getElem? (i := 74) (by decide +kernel)) rfl
theorem tw315 : Cond.code y_Rf_node prog_1_method_4_code (6 : Nat) (Option.some Jvm.ClassFile.FieldType.int) ∈ tb := tb_t2 _ (List.mem_of_getElem? (i := 75) rfl) rfl
theorem tw349 : Cond.methodLink "ReachFlowLaw" (28 : Nat) y_Rf_jump ∈ tb := tb_t2 _ (List.mem_of_getElem? (i := 109) (by decide +kernel)) rfl
theorem tw350 : Cond.instanceMethod y_Rf_jump ∈ tb := tb_t2 _ (List.mem_of_getElem? (i := 110) (by decide +kernel)) rfl
theorem tw351 : Cond.selects "ReachFlow" y_Rf_jump y_Rf_jump ∈ tb := tb_t2 _ (List.mem_of_getElem? (i := 111) (by decide +kernel)) rfl
theorem tw352 : Cond.code y_Rf_jump prog_1_method_7_code (3 : Nat) (Option.some Jvm.ClassFile.FieldType.int) ∈ tb := tb_t2 _ (List.mem_of_getElem? (i := 112) rfl) rfl
theorem tw356 : Cond.methodLink "ReachFlowLaw" (33 : Nat) y_Rf_label ∈ tb := tb_t2 _ (List.mem_of_getElem? (i := 116) (by decide +kernel)) rfl
theorem tw357 : Cond.instanceMethod y_Rf_label ∈ tb := tb_t2 _ (List.mem_of_getElem? (i := 117) (by decide +kernel)) rfl
theorem tw358 : Cond.selects "ReachFlow" y_Rf_label y_Rf_label ∈ tb := tb_t2 _ (List.mem_of_getElem? (i := 118) (by decide +kernel)) rfl
theorem tw359 : Cond.code y_Rf_label prog_1_method_8_code (4 : Nat) (Option.some Jvm.ClassFile.FieldType.int) ∈ tb := tb_t2 _ (List.mem_of_getElem? (i := 119) rfl) rfl
theorem tw360 : Cond.methodLink "ReachFlowLaw" (37 : Nat) y_Rf_row ∈ tb := tb_t2 _ (List.mem_of_getElem? (i := 120) (by decide +kernel)) rfl
theorem tw361 : Cond.instanceMethod y_Rf_row ∈ tb := tb_t2 _ (List.mem_of_getElem? (i := 121) (by decide +kernel)) rfl
theorem tw362 : Cond.selects "ReachFlow" y_Rf_row y_Rf_row ∈ tb := tb_t2 _ (List.mem_of_getElem? (i := 122) (by decide +kernel)) rfl
theorem tw363 : Cond.code y_Rf_row prog_1_method_10_code (2 : Nat) (Option.some Jvm.ClassFile.FieldType.int) ∈ tb := tb_t2 _ (List.mem_of_getElem? (i := 123) rfl) rfl
theorem tw372 : Cond.methodLink "ReachFlowLaw" (41 : Nat) y_Rf_put ∈ tb := tb_t2 _ (List.mem_of_getElem? (i := 132) (by decide +kernel)) rfl
theorem tw373 : Cond.instanceMethod y_Rf_put ∈ tb := tb_t2 _ (List.mem_of_getElem? (i := 133) (by decide +kernel)) rfl
theorem tw374 : Cond.selects "ReachFlow" y_Rf_put y_Rf_put ∈ tb := tb_t2 _ (List.mem_of_getElem? (i := 134) (by decide +kernel)) rfl
theorem tw375 : Cond.code y_Rf_put prog_1_method_11_code (3 : Nat) (Option.some Jvm.ClassFile.FieldType.int) ∈ tb := tb_t2 _ (List.mem_of_getElem? (i := 135) rfl) rfl
theorem tw395 : Cond.methodLink "ReachFlowLaw" (45 : Nat) y_Rf_end ∈ tb := tb_t2 _ (List.mem_of_getElem? (i := 155) (by decide +kernel)) rfl
theorem tw396 : Cond.instanceMethod y_Rf_end ∈ tb := tb_t2 _ (List.mem_of_getElem? (i := 156) (by decide +kernel)) rfl
theorem tw397 : Cond.selects "ReachFlow" y_Rf_end y_Rf_end ∈ tb := tb_t2 _ (List.mem_of_getElem? (i := 157) (by decide +kernel)) rfl
theorem tw398 : Cond.code y_Rf_end prog_1_method_14_code (4 : Nat) (Option.some Jvm.ClassFile.FieldType.int) ∈ tb := tb_t2 _ (List.mem_of_getElem? (i := 158) rfl) rfl
theorem tw408 : Cond.methodLink "ReachFlowLaw" (49 : Nat) y_Rf_drop ∈ tb := tb_t2 _ (List.mem_of_getElem? (i := 168) (by decide +kernel)) rfl
theorem tw409 : Cond.instanceMethod y_Rf_drop ∈ tb := tb_t2 _ (List.mem_of_getElem? (i := 169) (by decide +kernel)) rfl
theorem tw410 : Cond.selects "ReachFlow" y_Rf_drop y_Rf_drop ∈ tb := tb_t2 _ (List.mem_of_getElem? (i := 170) (by decide +kernel)) rfl
theorem tw411 : Cond.code y_Rf_drop prog_1_method_16_code (3 : Nat) (Option.some Jvm.ClassFile.FieldType.int) ∈ tb := tb_t2 _ (List.mem_of_getElem? (i := 171) rfl) rfl
theorem tw417 : Cond.methodLink "ReachFlowLaw" (53 : Nat) y_Rf_told ∈ tb := tb_t2 _ (List.mem_of_getElem? (i := 177) (by decide +kernel)) rfl
theorem tw418 : Cond.instanceMethod y_Rf_told ∈ tb := tb_t2 _ (List.mem_of_getElem? (i := 178) (by decide +kernel)) rfl
theorem tw419 : Cond.selects "ReachFlow" y_Rf_told y_Rf_told ∈ tb := tb_t2 _ (List.mem_of_getElem? (i := 179) (by decide +kernel)) rfl
theorem tw420 : Cond.code y_Rf_told prog_1_method_17_code (3 : Nat) (Option.some Jvm.ClassFile.FieldType.int) ∈ tb := tb_t2 _ (List.mem_of_getElem? (i := 180) rfl) rfl
theorem tw422 : Cond.methodLink "ReachFlowLaw" (57 : Nat) y_Rf_part ∈ tb := tb_t2 _ (List.mem_of_getElem? (i := 182) (by decide +kernel)) rfl
theorem tw423 : Cond.instanceMethod y_Rf_part ∈ tb := tb_t2 _ (List.mem_of_getElem? (i := 183) (by decide +kernel)) rfl
theorem tw424 : Cond.selects "ReachFlow" y_Rf_part y_Rf_part ∈ tb := tb_t2 _ (List.mem_of_getElem? (i := 184) (by decide +kernel)) rfl
theorem tw425 : Cond.code y_Rf_part prog_1_method_18_code (3 : Nat) (Option.some Jvm.ClassFile.FieldType.int) ∈ tb := tb_t2 _ (List.mem_of_getElem? (i := 185) rfl) rfl
theorem tw430 : Cond.methodLink "ReachFlowLaw" (61 : Nat) y_Rf_of ∈ tb := tb_t2 _ (List.mem_of_getElem? (i := 190) (by decide +kernel)) rfl
theorem tw431 : Cond.instanceMethod y_Rf_of ∈ tb := tb_t2 _ (List.mem_of_getElem? (i := 191) (by decide +kernel)) rfl
theorem tw432 : Cond.selects "ReachFlow" y_Rf_of y_Rf_of ∈ tb := tb_t2 _ (List.mem_of_getElem? (i := 192) (by decide +kernel)) rfl
theorem tw433 : Cond.code y_Rf_of prog_1_method_19_code (2 : Nat) (Option.some Jvm.ClassFile.FieldType.int) ∈ tb := tb_t2 _ (List.mem_of_getElem? (i := 193) rfl) rfl
theorem tw434 : Cond.methodLink "ReachFlowLaw" (65 : Nat) y_Rf_check ∈ tb := tb_t2 _ (List.mem_of_getElem? (i := 194) (by decide +kernel)) rfl
theorem tw435 : Cond.instanceMethod y_Rf_check ∈ tb := tb_t2 _ (List.mem_of_getElem? (i := 195) (by decide +kernel)) rfl
theorem tw436 : Cond.selects "ReachFlow" y_Rf_check y_Rf_check ∈ tb := tb_t2 _ (List.mem_of_getElem? (i := 196) (by decide +kernel)) rfl
theorem tw437 : Cond.code y_Rf_check prog_1_method_20_code (2 : Nat) (Option.some Jvm.ClassFile.FieldType.int) ∈ tb := tb_t2 _ (List.mem_of_getElem? (i := 197) rfl) rfl
theorem tw616 : Cond.methodLink "ReachFlowLaw" (69 : Nat) y_Rf_fault ∈ tb := tb_t3 _ (List.mem_of_getElem? (i := 136) (by decide +kernel)) rfl
theorem tw617 : Cond.instanceMethod y_Rf_fault ∈ tb := tb_t3 _ (List.mem_of_getElem? (i := 137) (by decide +kernel)) rfl
theorem tw618 : Cond.selects "ReachFlow" y_Rf_fault y_Rf_fault ∈ tb := tb_t3 _ (List.mem_of_getElem? (i := 138) (by decide +kernel)) rfl
theorem tw619 : Cond.code y_Rf_fault prog_1_method_21_code (3 : Nat) (Option.some Jvm.ClassFile.FieldType.int) ∈ tb := tb_t3 _ (List.mem_of_getElem? (i := 139) rfl) rfl
theorem tw620 : Cond.methodLink "ReachFlowLaw" (73 : Nat) y_Rf_notes ∈ tb := tb_t3 _ (List.mem_of_getElem? (i := 140) (by decide +kernel)) rfl
theorem tw621 : Cond.instanceMethod y_Rf_notes ∈ tb := tb_t3 _ (List.mem_of_getElem? (i := 141) (by decide +kernel)) rfl
theorem tw622 : Cond.selects "ReachFlow" y_Rf_notes y_Rf_notes ∈ tb := tb_t3 _ (List.mem_of_getElem? (i := 142) (by decide +kernel)) rfl
theorem tw623 : Cond.code y_Rf_notes prog_1_method_22_code (1 : Nat) (Option.some Jvm.ClassFile.FieldType.int) ∈ tb := tb_t3 _ (List.mem_of_getElem? (i := 143) rfl) rfl
theorem tw624 : Cond.methodLink "ReachFlowLaw" (77 : Nat) y_Rf_note ∈ tb := tb_t3 _ (List.mem_of_getElem? (i := 144) (by decide +kernel)) rfl
theorem tw625 : Cond.instanceMethod y_Rf_note ∈ tb := tb_t3 _ (List.mem_of_getElem? (i := 145) (by decide +kernel)) rfl
theorem tw626 : Cond.selects "ReachFlow" y_Rf_note y_Rf_note ∈ tb := tb_t3 _ (List.mem_of_getElem? (i := 146) (by decide +kernel)) rfl
theorem tw627 : Cond.code y_Rf_note prog_1_method_23_code (2 : Nat) (Option.some Jvm.ClassFile.FieldType.int) ∈ tb := tb_t3 _ (List.mem_of_getElem? (i := 147) rfl) rfl
theorem tw628 : Cond.methodLink "ReachFlowLaw" (81 : Nat) y_Rf_reached ∈ tb := tb_t3 _ (List.mem_of_getElem? (i := 148) (by decide +kernel)) rfl
theorem tw629 : Cond.instanceMethod y_Rf_reached ∈ tb := tb_t3 _ (List.mem_of_getElem? (i := 149) (by decide +kernel)) rfl
theorem tw630 : Cond.selects "ReachFlow" y_Rf_reached y_Rf_reached ∈ tb := tb_t3 _ (List.mem_of_getElem? (i := 150) (by decide +kernel)) rfl
theorem tw631 : Cond.code y_Rf_reached prog_1_method_24_code (2 : Nat) (Option.some Jvm.ClassFile.FieldType.boolean) ∈ tb := tb_t3 _ (List.mem_of_getElem? (i := 151) rfl) rfl
theorem tw633 : Cond.methodLink "ReachFlowLaw" (86 : Nat) y_Rf_completes ∈ tb := tb_t3 _ (List.mem_of_getElem? (i := 153) (by decide +kernel)) rfl
theorem tw634 : Cond.instanceMethod y_Rf_completes ∈ tb := tb_t3 _ (List.mem_of_getElem? (i := 154) (by decide +kernel)) rfl
theorem tw635 : Cond.selects "ReachFlow" y_Rf_completes y_Rf_completes ∈ tb := tb_t3 _ (List.mem_of_getElem? (i := 155) (by decide +kernel)) rfl
theorem tw636 : Cond.code y_Rf_completes prog_1_method_25_code (2 : Nat) (Option.some Jvm.ClassFile.FieldType.boolean) ∈ tb := tb_t3 _ (List.mem_of_getElem? (i := 156) rfl) rfl
theorem tw638 : Cond.methodLink "ReachFlowLaw" (90 : Nat) y_Rf_can ∈ tb := tb_t3 _ (List.mem_of_getElem? (i := 158) (by decide +kernel)) rfl
theorem tw639 : Cond.instanceMethod y_Rf_can ∈ tb := tb_t3 _ (List.mem_of_getElem? (i := 159) (by decide +kernel)) rfl
theorem tw640 : Cond.selects "ReachFlow" y_Rf_can y_Rf_can ∈ tb := tb_t3 _ (List.mem_of_getElem? (i := 160) (by decide +kernel)) rfl
theorem tw641 : Cond.code y_Rf_can prog_1_method_26_code (3 : Nat) (Option.some Jvm.ClassFile.FieldType.int) ∈ tb := tb_t3 _ (List.mem_of_getElem? (i := 161) rfl) rfl
theorem tw643 : Cond.methodLink "ReachFlowLaw" (94 : Nat) y_Rf_target ∈ tb := tb_t3 _ (List.mem_of_getElem? (i := 163) (by decide +kernel)) rfl
theorem tw644 : Cond.instanceMethod y_Rf_target ∈ tb := tb_t3 _ (List.mem_of_getElem? (i := 164) (by decide +kernel)) rfl
theorem tw645 : Cond.selects "ReachFlow" y_Rf_target y_Rf_target ∈ tb := tb_t3 _ (List.mem_of_getElem? (i := 165) (by decide +kernel)) rfl
theorem tw646 : Cond.code y_Rf_target prog_1_method_27_code (2 : Nat) (Option.some Jvm.ClassFile.FieldType.int) ∈ tb := tb_t3 _ (List.mem_of_getElem? (i := 166) rfl) rfl
theorem tw647 : Cond.methodLink "ReachFlowLaw" (98 : Nat) y_Rf_walked ∈ tb := tb_t3 _ (List.mem_of_getElem? (i := 167) (by decide +kernel)) rfl
theorem tw648 : Cond.instanceMethod y_Rf_walked ∈ tb := tb_t3 _ (List.mem_of_getElem? (i := 168) (by decide +kernel)) rfl
theorem tw649 : Cond.selects "ReachFlow" y_Rf_walked y_Rf_walked ∈ tb := tb_t3 _ (List.mem_of_getElem? (i := 169) (by decide +kernel)) rfl
theorem tw650 : Cond.code y_Rf_walked prog_1_method_28_code (2 : Nat) (Option.some Jvm.ClassFile.FieldType.boolean) ∈ tb := tb_t3 _ (List.mem_of_getElem? (i := 170) rfl) rfl
theorem tw651 : Cond.methodLink "ReachFlowLaw" (102 : Nat) y_Rf_ends ∈ tb := tb_t3 _ (List.mem_of_getElem? (i := 171) (by decide +kernel)) rfl
theorem tw652 : Cond.instanceMethod y_Rf_ends ∈ tb := tb_t3 _ (List.mem_of_getElem? (i := 172) (by decide +kernel)) rfl
theorem tw653 : Cond.selects "ReachFlow" y_Rf_ends y_Rf_ends ∈ tb := tb_t3 _ (List.mem_of_getElem? (i := 173) (by decide +kernel)) rfl
theorem tw654 : Cond.code y_Rf_ends prog_1_method_29_code (4 : Nat) (Option.some Jvm.ClassFile.FieldType.int) ∈ tb := tb_t3 _ (List.mem_of_getElem? (i := 174) rfl) rfl
theorem tw665 : Cond.methodLink "ReachFlowLaw" (107 : Nat) y_Rf_member ∈ tb := tb_t3 _ (List.mem_of_getElem? (i := 185) (by decide +kernel)) rfl
theorem tw666 : Cond.instanceMethod y_Rf_member ∈ tb := tb_t3 _ (List.mem_of_getElem? (i := 186) (by decide +kernel)) rfl
theorem tw667 : Cond.selects "ReachFlow" y_Rf_member y_Rf_member ∈ tb := tb_t3 _ (List.mem_of_getElem? (i := 187) (by decide +kernel)) rfl
theorem tw668 : Cond.code y_Rf_member prog_1_method_31_code (3 : Nat) (Option.some Jvm.ClassFile.FieldType.int) ∈ tb := tb_t3 _ (List.mem_of_getElem? (i := 188) rfl) rfl
theorem tw677 : Cond.classLink "ReachFlowLaw" (10 : Nat) "ReachFlowModel" ∈ tb := tb_t3 _ (List.mem_of_getElem? (i := 197) (by decide +kernel)) rfl
theorem tw678 : Cond.instantiable "ReachFlowModel" (35 : Nat) ∈ tb := tb_t3 _ (List.mem_of_getElem? (i := 198) (by decide +kernel)) rfl
theorem tw679 : Cond.methodLink "ReachFlowLaw" (12 : Nat) y_Md_init ∈ tb := tb_t3 _ (List.mem_of_getElem? (i := 199) (by decide +kernel)) rfl
theorem tw680 : Cond.instanceMethod y_Md_init ∈ tb := tb_t3 _ (List.mem_of_getElem? (i := 200) (by decide +kernel)) rfl
theorem tw681 : Cond.code y_Md_init prog_10_method_1_code (1 : Nat) (Option.none : Option Jvm.ClassFile.FieldType) ∈ tb := tb_t3 _ (List.mem_of_getElem? (i := 201) rfl) rfl
theorem tw794 : Cond.methodLink "ReachFlowLaw" (17 : Nat) y_Md_clear ∈ tb := tb_t4 _ (List.mem_of_getElem? (i := 74) (by decide +kernel)) rfl
theorem tw795 : Cond.instanceMethod y_Md_clear ∈ tb := tb_t4 _ (List.mem_of_getElem? (i := 75) (by decide +kernel)) rfl
theorem tw796 : Cond.selects "ReachFlowModel" y_Md_clear y_Md_clear ∈ tb := tb_t4 _ (List.mem_of_getElem? (i := 76) (by decide +kernel)) rfl
theorem tw797 : Cond.code y_Md_clear prog_10_method_3_code (2 : Nat) (Option.some Jvm.ClassFile.FieldType.int) ∈ tb := tb_t4 _ (List.mem_of_getElem? (i := 77) rfl) rfl
theorem tw798 : Cond.methodLink "ReachFlowLaw" (22 : Nat) y_Md_exception ∈ tb := tb_t4 _ (List.mem_of_getElem? (i := 78) (by decide +kernel)) rfl
theorem tw799 : Cond.instanceMethod y_Md_exception ∈ tb := tb_t4 _ (List.mem_of_getElem? (i := 79) (by decide +kernel)) rfl
theorem tw800 : Cond.selects "ReachFlowModel" y_Md_exception y_Md_exception ∈ tb := tb_t4 _ (List.mem_of_getElem? (i := 80) (by decide +kernel)) rfl
theorem tw801 : Cond.code y_Md_exception prog_10_method_9_code (2 : Nat) (Option.some Jvm.ClassFile.FieldType.int) ∈ tb := tb_t4 _ (List.mem_of_getElem? (i := 81) rfl) rfl
theorem tw809 : Cond.methodLink "ReachFlowLaw" (27 : Nat) y_Md_node ∈ tb := tb_t4 _ (List.mem_of_getElem? (i := 89) (by decide +kernel)) rfl
theorem tw810 : Cond.instanceMethod y_Md_node ∈ tb := tb_t4 _ (List.mem_of_getElem? (i := 90) (by decide +kernel)) rfl
theorem tw811 : Cond.selects "ReachFlowModel" y_Md_node y_Md_node ∈ tb := tb_t4 _ (List.mem_of_getElem? (i := 91) (by decide +kernel)) rfl
theorem tw812 : Cond.code y_Md_node prog_10_method_13_code (6 : Nat) (Option.some Jvm.ClassFile.FieldType.int) ∈ tb := tb_t4 _ (List.mem_of_getElem? (i := 92) rfl) rfl
theorem tw833 : Cond.methodLink "ReachFlowLaw" (32 : Nat) y_Md_jump ∈ tb := tb_t4 _ (List.mem_of_getElem? (i := 113) (by decide +kernel)) rfl
theorem tw834 : Cond.instanceMethod y_Md_jump ∈ tb := tb_t4 _ (List.mem_of_getElem? (i := 114) (by decide +kernel)) rfl
theorem tw835 : Cond.selects "ReachFlowModel" y_Md_jump y_Md_jump ∈ tb := tb_t4 _ (List.mem_of_getElem? (i := 115) (by decide +kernel)) rfl
theorem tw836 : Cond.code y_Md_jump prog_10_method_14_code (3 : Nat) (Option.some Jvm.ClassFile.FieldType.int) ∈ tb := tb_t4 _ (List.mem_of_getElem? (i := 116) rfl) rfl
theorem tw837 : Cond.methodLink "ReachFlowLaw" (36 : Nat) y_Md_label ∈ tb := tb_t4 _ (List.mem_of_getElem? (i := 117) (by decide +kernel)) rfl
theorem tw838 : Cond.instanceMethod y_Md_label ∈ tb := tb_t4 _ (List.mem_of_getElem? (i := 118) (by decide +kernel)) rfl
theorem tw839 : Cond.selects "ReachFlowModel" y_Md_label y_Md_label ∈ tb := tb_t4 _ (List.mem_of_getElem? (i := 119) (by decide +kernel)) rfl
theorem tw840 : Cond.code y_Md_label prog_10_method_15_code (4 : Nat) (Option.some Jvm.ClassFile.FieldType.int) ∈ tb := tb_t4 _ (List.mem_of_getElem? (i := 120) rfl) rfl
theorem tw841 : Cond.methodLink "ReachFlowLaw" (40 : Nat) y_Md_row ∈ tb := tb_t4 _ (List.mem_of_getElem? (i := 121) (by decide +kernel)) rfl
theorem tw842 : Cond.instanceMethod y_Md_row ∈ tb := tb_t4 _ (List.mem_of_getElem? (i := 122) (by decide +kernel)) rfl
theorem tw843 : Cond.selects "ReachFlowModel" y_Md_row y_Md_row ∈ tb := tb_t4 _ (List.mem_of_getElem? (i := 123) (by decide +kernel)) rfl
theorem tw844 : Cond.code y_Md_row prog_10_method_16_code (2 : Nat) (Option.some Jvm.ClassFile.FieldType.int) ∈ tb := tb_t4 _ (List.mem_of_getElem? (i := 124) rfl) rfl
theorem tw845 : Cond.methodLink "ReachFlowLaw" (44 : Nat) y_Md_put ∈ tb := tb_t4 _ (List.mem_of_getElem? (i := 125) (by decide +kernel)) rfl
theorem tw846 : Cond.instanceMethod y_Md_put ∈ tb := tb_t4 _ (List.mem_of_getElem? (i := 126) (by decide +kernel)) rfl
theorem tw847 : Cond.selects "ReachFlowModel" y_Md_put y_Md_put ∈ tb := tb_t4 _ (List.mem_of_getElem? (i := 127) (by decide +kernel)) rfl
theorem tw848 : Cond.code y_Md_put prog_10_method_19_code (3 : Nat) (Option.some Jvm.ClassFile.FieldType.int) ∈ tb := tb_t4 _ (List.mem_of_getElem? (i := 128) rfl) rfl
theorem tw857 : Cond.methodLink "ReachFlowLaw" (48 : Nat) y_Md_end ∈ tb := tb_t4 _ (List.mem_of_getElem? (i := 137) (by decide +kernel)) rfl
theorem tw858 : Cond.instanceMethod y_Md_end ∈ tb := tb_t4 _ (List.mem_of_getElem? (i := 138) (by decide +kernel)) rfl
theorem tw859 : Cond.selects "ReachFlowModel" y_Md_end y_Md_end ∈ tb := tb_t4 _ (List.mem_of_getElem? (i := 139) (by decide +kernel)) rfl
theorem tw860 : Cond.code y_Md_end prog_10_method_21_code (5 : Nat) (Option.some Jvm.ClassFile.FieldType.int) ∈ tb := tb_t4 _ (List.mem_of_getElem? (i := 140) rfl) rfl
theorem tw865 : Cond.methodLink "ReachFlowLaw" (52 : Nat) y_Md_drop ∈ tb := tb_t4 _ (List.mem_of_getElem? (i := 145) (by decide +kernel)) rfl
theorem tw866 : Cond.instanceMethod y_Md_drop ∈ tb := tb_t4 _ (List.mem_of_getElem? (i := 146) (by decide +kernel)) rfl
theorem tw867 : Cond.selects "ReachFlowModel" y_Md_drop y_Md_drop ∈ tb := tb_t4 _ (List.mem_of_getElem? (i := 147) (by decide +kernel)) rfl
theorem tw868 : Cond.code y_Md_drop prog_10_method_22_code (2 : Nat) (Option.some Jvm.ClassFile.FieldType.int) ∈ tb := tb_t4 _ (List.mem_of_getElem? (i := 148) rfl) rfl
theorem tw869 : Cond.methodLink "ReachFlowLaw" (56 : Nat) y_Md_told ∈ tb := tb_t4 _ (List.mem_of_getElem? (i := 149) (by decide +kernel)) rfl
theorem tw870 : Cond.instanceMethod y_Md_told ∈ tb := tb_t4 _ (List.mem_of_getElem? (i := 150) (by decide +kernel)) rfl
theorem tw871 : Cond.selects "ReachFlowModel" y_Md_told y_Md_told ∈ tb := tb_t4 _ (List.mem_of_getElem? (i := 151) (by decide +kernel)) rfl
theorem tw872 : Cond.code y_Md_told prog_10_method_23_code (5 : Nat) (Option.some Jvm.ClassFile.FieldType.int) ∈ tb := tb_t4 _ (List.mem_of_getElem? (i := 152) rfl) rfl
theorem tw873 : Cond.methodLink "ReachFlowLaw" (60 : Nat) y_Md_part ∈ tb := tb_t4 _ (List.mem_of_getElem? (i := 153) (by decide +kernel)) rfl
theorem tw874 : Cond.instanceMethod y_Md_part ∈ tb := tb_t4 _ (List.mem_of_getElem? (i := 154) (by decide +kernel)) rfl
theorem tw875 : Cond.selects "ReachFlowModel" y_Md_part y_Md_part ∈ tb := tb_t4 _ (List.mem_of_getElem? (i := 155) (by decide +kernel)) rfl
theorem tw876 : Cond.code y_Md_part prog_10_method_24_code (5 : Nat) (Option.some Jvm.ClassFile.FieldType.int) ∈ tb := tb_t4 _ (List.mem_of_getElem? (i := 156) rfl) rfl
theorem tw877 : Cond.methodLink "ReachFlowLaw" (64 : Nat) y_Md_of ∈ tb := tb_t4 _ (List.mem_of_getElem? (i := 157) (by decide +kernel)) rfl
theorem tw878 : Cond.instanceMethod y_Md_of ∈ tb := tb_t4 _ (List.mem_of_getElem? (i := 158) (by decide +kernel)) rfl
theorem tw879 : Cond.selects "ReachFlowModel" y_Md_of y_Md_of ∈ tb := tb_t4 _ (List.mem_of_getElem? (i := 159) (by decide +kernel)) rfl
theorem tw880 : Cond.code y_Md_of prog_10_method_25_code (2 : Nat) (Option.some Jvm.ClassFile.FieldType.int) ∈ tb := tb_t4 _ (List.mem_of_getElem? (i := 160) rfl) rfl
theorem tw881 : Cond.methodLink "ReachFlowLaw" (68 : Nat) y_Md_check ∈ tb := tb_t4 _ (List.mem_of_getElem? (i := 161) (by decide +kernel)) rfl
theorem tw882 : Cond.instanceMethod y_Md_check ∈ tb := tb_t4 _ (List.mem_of_getElem? (i := 162) (by decide +kernel)) rfl
theorem tw883 : Cond.selects "ReachFlowModel" y_Md_check y_Md_check ∈ tb := tb_t4 _ (List.mem_of_getElem? (i := 163) (by decide +kernel)) rfl
theorem tw884 : Cond.code y_Md_check prog_10_method_61_code (2 : Nat) (Option.some Jvm.ClassFile.FieldType.int) ∈ tb := tb_t4 _ (List.mem_of_getElem? (i := 164) rfl) rfl
theorem tw1025 : Cond.methodLink "ReachFlowLaw" (72 : Nat) y_Md_fault ∈ tb := tb_t5 _ (List.mem_of_getElem? (i := 65) (by decide +kernel)) rfl
theorem tw1026 : Cond.instanceMethod y_Md_fault ∈ tb := tb_t5 _ (List.mem_of_getElem? (i := 66) (by decide +kernel)) rfl
theorem tw1027 : Cond.selects "ReachFlowModel" y_Md_fault y_Md_fault ∈ tb := tb_t5 _ (List.mem_of_getElem? (i := 67) (by decide +kernel)) rfl
theorem tw1028 : Cond.code y_Md_fault prog_10_method_62_code (3 : Nat) (Option.some Jvm.ClassFile.FieldType.int) ∈ tb := tb_t5 _ (List.mem_of_getElem? (i := 68) rfl) rfl
theorem tw1029 : Cond.methodLink "ReachFlowLaw" (76 : Nat) y_Md_notes ∈ tb := tb_t5 _ (List.mem_of_getElem? (i := 69) (by decide +kernel)) rfl
theorem tw1030 : Cond.instanceMethod y_Md_notes ∈ tb := tb_t5 _ (List.mem_of_getElem? (i := 70) (by decide +kernel)) rfl
theorem tw1031 : Cond.selects "ReachFlowModel" y_Md_notes y_Md_notes ∈ tb := tb_t5 _ (List.mem_of_getElem? (i := 71) (by decide +kernel)) rfl
theorem tw1032 : Cond.code y_Md_notes prog_10_method_63_code (1 : Nat) (Option.some Jvm.ClassFile.FieldType.int) ∈ tb := tb_t5 _ (List.mem_of_getElem? (i := 72) rfl) rfl
theorem tw1033 : Cond.methodLink "ReachFlowLaw" (80 : Nat) y_Md_note ∈ tb := tb_t5 _ (List.mem_of_getElem? (i := 73) (by decide +kernel)) rfl
theorem tw1034 : Cond.instanceMethod y_Md_note ∈ tb := tb_t5 _ (List.mem_of_getElem? (i := 74) (by decide +kernel)) rfl
theorem tw1035 : Cond.selects "ReachFlowModel" y_Md_note y_Md_note ∈ tb := tb_t5 _ (List.mem_of_getElem? (i := 75) (by decide +kernel)) rfl
theorem tw1036 : Cond.code y_Md_note prog_10_method_64_code (2 : Nat) (Option.some Jvm.ClassFile.FieldType.int) ∈ tb := tb_t5 _ (List.mem_of_getElem? (i := 76) rfl) rfl
theorem tw1037 : Cond.methodLink "ReachFlowLaw" (85 : Nat) y_Md_reached ∈ tb := tb_t5 _ (List.mem_of_getElem? (i := 77) (by decide +kernel)) rfl
theorem tw1038 : Cond.instanceMethod y_Md_reached ∈ tb := tb_t5 _ (List.mem_of_getElem? (i := 78) (by decide +kernel)) rfl
theorem tw1039 : Cond.selects "ReachFlowModel" y_Md_reached y_Md_reached ∈ tb := tb_t5 _ (List.mem_of_getElem? (i := 79) (by decide +kernel)) rfl
theorem tw1040 : Cond.code y_Md_reached prog_10_method_65_code (2 : Nat) (Option.some Jvm.ClassFile.FieldType.boolean) ∈ tb := tb_t5 _ (List.mem_of_getElem? (i := 80) rfl) rfl
theorem tw1045 : Cond.methodLink "ReachFlowLaw" (89 : Nat) y_Md_completes ∈ tb := tb_t5 _ (List.mem_of_getElem? (i := 85) (by decide +kernel)) rfl
theorem tw1046 : Cond.instanceMethod y_Md_completes ∈ tb := tb_t5 _ (List.mem_of_getElem? (i := 86) (by decide +kernel)) rfl
theorem tw1047 : Cond.selects "ReachFlowModel" y_Md_completes y_Md_completes ∈ tb := tb_t5 _ (List.mem_of_getElem? (i := 87) (by decide +kernel)) rfl
theorem tw1048 : Cond.code y_Md_completes prog_10_method_66_code (2 : Nat) (Option.some Jvm.ClassFile.FieldType.boolean) ∈ tb := tb_t5 _ (List.mem_of_getElem? (i := 88) rfl) rfl
theorem tw1049 : Cond.methodLink "ReachFlowLaw" (93 : Nat) y_Md_can ∈ tb := tb_t5 _ (List.mem_of_getElem? (i := 89) (by decide +kernel)) rfl
theorem tw1050 : Cond.instanceMethod y_Md_can ∈ tb := tb_t5 _ (List.mem_of_getElem? (i := 90) (by decide +kernel)) rfl
theorem tw1051 : Cond.selects "ReachFlowModel" y_Md_can y_Md_can ∈ tb := tb_t5 _ (List.mem_of_getElem? (i := 91) (by decide +kernel)) rfl
theorem tw1052 : Cond.code y_Md_can prog_10_method_67_code (3 : Nat) (Option.some Jvm.ClassFile.FieldType.int) ∈ tb := tb_t5 _ (List.mem_of_getElem? (i := 92) rfl) rfl
theorem tw1053 : Cond.methodLink "ReachFlowLaw" (97 : Nat) y_Md_target ∈ tb := tb_t5 _ (List.mem_of_getElem? (i := 93) (by decide +kernel)) rfl
theorem tw1054 : Cond.instanceMethod y_Md_target ∈ tb := tb_t5 _ (List.mem_of_getElem? (i := 94) (by decide +kernel)) rfl
theorem tw1055 : Cond.selects "ReachFlowModel" y_Md_target y_Md_target ∈ tb := tb_t5 _ (List.mem_of_getElem? (i := 95) (by decide +kernel)) rfl
theorem tw1056 : Cond.code y_Md_target prog_10_method_68_code (2 : Nat) (Option.some Jvm.ClassFile.FieldType.int) ∈ tb := tb_t5 _ (List.mem_of_getElem? (i := 96) rfl) rfl
theorem tw1057 : Cond.methodLink "ReachFlowLaw" (101 : Nat) y_Md_walked ∈ tb := tb_t5 _ (List.mem_of_getElem? (i := 97) (by decide +kernel)) rfl
theorem tw1058 : Cond.instanceMethod y_Md_walked ∈ tb := tb_t5 _ (List.mem_of_getElem? (i := 98) (by decide +kernel)) rfl
theorem tw1059 : Cond.selects "ReachFlowModel" y_Md_walked y_Md_walked ∈ tb := tb_t5 _ (List.mem_of_getElem? (i := 99) (by decide +kernel)) rfl
theorem tw1060 : Cond.code y_Md_walked prog_10_method_69_code (2 : Nat) (Option.some Jvm.ClassFile.FieldType.boolean) ∈ tb := tb_t5 _ (List.mem_of_getElem? (i := 100) rfl) rfl
theorem tw1061 : Cond.methodLink "ReachFlowLaw" (106 : Nat) y_Md_ends ∈ tb := tb_t5 _ (List.mem_of_getElem? (i := 101) (by decide +kernel)) rfl
theorem tw1062 : Cond.instanceMethod y_Md_ends ∈ tb := tb_t5 _ (List.mem_of_getElem? (i := 102) (by decide +kernel)) rfl
theorem tw1063 : Cond.selects "ReachFlowModel" y_Md_ends y_Md_ends ∈ tb := tb_t5 _ (List.mem_of_getElem? (i := 103) (by decide +kernel)) rfl
theorem tw1064 : Cond.code y_Md_ends prog_10_method_70_code (6 : Nat) (Option.some Jvm.ClassFile.FieldType.int) ∈ tb := tb_t5 _ (List.mem_of_getElem? (i := 104) rfl) rfl
theorem tw1065 : Cond.methodLink "ReachFlowLaw" (110 : Nat) y_Md_member ∈ tb := tb_t5 _ (List.mem_of_getElem? (i := 105) (by decide +kernel)) rfl
theorem tw1066 : Cond.instanceMethod y_Md_member ∈ tb := tb_t5 _ (List.mem_of_getElem? (i := 106) (by decide +kernel)) rfl
theorem tw1067 : Cond.selects "ReachFlowModel" y_Md_member y_Md_member ∈ tb := tb_t5 _ (List.mem_of_getElem? (i := 107) (by decide +kernel)) rfl
theorem tw1068 : Cond.code y_Md_member prog_10_method_71_code (6 : Nat) (Option.some Jvm.ClassFile.FieldType.int) ∈ tb := tb_t5 _ (List.mem_of_getElem? (i := 108) rfl) rfl
theorem hd_Rf_can : y_Rf_can.cls = "ReachFlow" ∧ y_Rf_can.cls ≠ "java/lang/invoke/MethodHandle" ∧ y_Rf_can.cls ≠ "java/lang/invoke/VarHandle" ∧ (parseMethodDescriptor y_Rf_can.desc).map (fun d => d.parameters.length) = some 2 := by decide +kernel
theorem hd_Rf_check : y_Rf_check.cls = "ReachFlow" ∧ y_Rf_check.cls ≠ "java/lang/invoke/MethodHandle" ∧ y_Rf_check.cls ≠ "java/lang/invoke/VarHandle" ∧ (parseMethodDescriptor y_Rf_check.desc).map (fun d => d.parameters.length) = some 1 := by decide +kernel
theorem hd_Rf_clear : y_Rf_clear.cls = "ReachFlow" ∧ y_Rf_clear.cls ≠ "java/lang/invoke/MethodHandle" ∧ y_Rf_clear.cls ≠ "java/lang/invoke/VarHandle" ∧ (parseMethodDescriptor y_Rf_clear.desc).map (fun d => d.parameters.length) = some 0 := by decide +kernel
theorem hd_Rf_completes : y_Rf_completes.cls = "ReachFlow" ∧ y_Rf_completes.cls ≠ "java/lang/invoke/MethodHandle" ∧ y_Rf_completes.cls ≠ "java/lang/invoke/VarHandle" ∧ (parseMethodDescriptor y_Rf_completes.desc).map (fun d => d.parameters.length) = some 1 := by decide +kernel
theorem hd_Rf_drop : y_Rf_drop.cls = "ReachFlow" ∧ y_Rf_drop.cls ≠ "java/lang/invoke/MethodHandle" ∧ y_Rf_drop.cls ≠ "java/lang/invoke/VarHandle" ∧ (parseMethodDescriptor y_Rf_drop.desc).map (fun d => d.parameters.length) = some 0 := by decide +kernel
theorem hd_Rf_end : y_Rf_end.cls = "ReachFlow" ∧ y_Rf_end.cls ≠ "java/lang/invoke/MethodHandle" ∧ y_Rf_end.cls ≠ "java/lang/invoke/VarHandle" ∧ (parseMethodDescriptor y_Rf_end.desc).map (fun d => d.parameters.length) = some 1 := by decide +kernel
theorem hd_Rf_ends : y_Rf_ends.cls = "ReachFlow" ∧ y_Rf_ends.cls ≠ "java/lang/invoke/MethodHandle" ∧ y_Rf_ends.cls ≠ "java/lang/invoke/VarHandle" ∧ (parseMethodDescriptor y_Rf_ends.desc).map (fun d => d.parameters.length) = some 3 := by decide +kernel
theorem hd_Rf_exception : y_Rf_exception.cls = "ReachFlow" ∧ y_Rf_exception.cls ≠ "java/lang/invoke/MethodHandle" ∧ y_Rf_exception.cls ≠ "java/lang/invoke/VarHandle" ∧ (parseMethodDescriptor y_Rf_exception.desc).map (fun d => d.parameters.length) = some 1 := by decide +kernel
theorem hd_Rf_fault : y_Rf_fault.cls = "ReachFlow" ∧ y_Rf_fault.cls ≠ "java/lang/invoke/MethodHandle" ∧ y_Rf_fault.cls ≠ "java/lang/invoke/VarHandle" ∧ (parseMethodDescriptor y_Rf_fault.desc).map (fun d => d.parameters.length) = some 2 := by decide +kernel
theorem hd_Rf_jump : y_Rf_jump.cls = "ReachFlow" ∧ y_Rf_jump.cls ≠ "java/lang/invoke/MethodHandle" ∧ y_Rf_jump.cls ≠ "java/lang/invoke/VarHandle" ∧ (parseMethodDescriptor y_Rf_jump.desc).map (fun d => d.parameters.length) = some 2 := by decide +kernel
theorem hd_Rf_label : y_Rf_label.cls = "ReachFlow" ∧ y_Rf_label.cls ≠ "java/lang/invoke/MethodHandle" ∧ y_Rf_label.cls ≠ "java/lang/invoke/VarHandle" ∧ (parseMethodDescriptor y_Rf_label.desc).map (fun d => d.parameters.length) = some 2 := by decide +kernel
theorem hd_Rf_member : y_Rf_member.cls = "ReachFlow" ∧ y_Rf_member.cls ≠ "java/lang/invoke/MethodHandle" ∧ y_Rf_member.cls ≠ "java/lang/invoke/VarHandle" ∧ (parseMethodDescriptor y_Rf_member.desc).map (fun d => d.parameters.length) = some 2 := by decide +kernel
theorem hd_Rf_node : y_Rf_node.cls = "ReachFlow" ∧ y_Rf_node.cls ≠ "java/lang/invoke/MethodHandle" ∧ y_Rf_node.cls ≠ "java/lang/invoke/VarHandle" ∧ (parseMethodDescriptor y_Rf_node.desc).map (fun d => d.parameters.length) = some 4 := by decide +kernel
theorem hd_Rf_note : y_Rf_note.cls = "ReachFlow" ∧ y_Rf_note.cls ≠ "java/lang/invoke/MethodHandle" ∧ y_Rf_note.cls ≠ "java/lang/invoke/VarHandle" ∧ (parseMethodDescriptor y_Rf_note.desc).map (fun d => d.parameters.length) = some 1 := by decide +kernel
theorem hd_Rf_notes : y_Rf_notes.cls = "ReachFlow" ∧ y_Rf_notes.cls ≠ "java/lang/invoke/MethodHandle" ∧ y_Rf_notes.cls ≠ "java/lang/invoke/VarHandle" ∧ (parseMethodDescriptor y_Rf_notes.desc).map (fun d => d.parameters.length) = some 0 := by decide +kernel
theorem hd_Rf_of : y_Rf_of.cls = "ReachFlow" ∧ y_Rf_of.cls ≠ "java/lang/invoke/MethodHandle" ∧ y_Rf_of.cls ≠ "java/lang/invoke/VarHandle" ∧ (parseMethodDescriptor y_Rf_of.desc).map (fun d => d.parameters.length) = some 1 := by decide +kernel
theorem hd_Rf_part : y_Rf_part.cls = "ReachFlow" ∧ y_Rf_part.cls ≠ "java/lang/invoke/MethodHandle" ∧ y_Rf_part.cls ≠ "java/lang/invoke/VarHandle" ∧ (parseMethodDescriptor y_Rf_part.desc).map (fun d => d.parameters.length) = some 2 := by decide +kernel
theorem hd_Rf_put : y_Rf_put.cls = "ReachFlow" ∧ y_Rf_put.cls ≠ "java/lang/invoke/MethodHandle" ∧ y_Rf_put.cls ≠ "java/lang/invoke/VarHandle" ∧ (parseMethodDescriptor y_Rf_put.desc).map (fun d => d.parameters.length) = some 2 := by decide +kernel
theorem hd_Rf_reached : y_Rf_reached.cls = "ReachFlow" ∧ y_Rf_reached.cls ≠ "java/lang/invoke/MethodHandle" ∧ y_Rf_reached.cls ≠ "java/lang/invoke/VarHandle" ∧ (parseMethodDescriptor y_Rf_reached.desc).map (fun d => d.parameters.length) = some 1 := by decide +kernel
theorem hd_Rf_row : y_Rf_row.cls = "ReachFlow" ∧ y_Rf_row.cls ≠ "java/lang/invoke/MethodHandle" ∧ y_Rf_row.cls ≠ "java/lang/invoke/VarHandle" ∧ (parseMethodDescriptor y_Rf_row.desc).map (fun d => d.parameters.length) = some 1 := by decide +kernel
theorem hd_Rf_target : y_Rf_target.cls = "ReachFlow" ∧ y_Rf_target.cls ≠ "java/lang/invoke/MethodHandle" ∧ y_Rf_target.cls ≠ "java/lang/invoke/VarHandle" ∧ (parseMethodDescriptor y_Rf_target.desc).map (fun d => d.parameters.length) = some 1 := by decide +kernel
theorem hd_Rf_told : y_Rf_told.cls = "ReachFlow" ∧ y_Rf_told.cls ≠ "java/lang/invoke/MethodHandle" ∧ y_Rf_told.cls ≠ "java/lang/invoke/VarHandle" ∧ (parseMethodDescriptor y_Rf_told.desc).map (fun d => d.parameters.length) = some 2 := by decide +kernel
theorem hd_Rf_walked : y_Rf_walked.cls = "ReachFlow" ∧ y_Rf_walked.cls ≠ "java/lang/invoke/MethodHandle" ∧ y_Rf_walked.cls ≠ "java/lang/invoke/VarHandle" ∧ (parseMethodDescriptor y_Rf_walked.desc).map (fun d => d.parameters.length) = some 1 := by decide +kernel
theorem hd_Md_can : y_Md_can.cls = "ReachFlowModel" ∧ y_Md_can.cls ≠ "java/lang/invoke/MethodHandle" ∧ y_Md_can.cls ≠ "java/lang/invoke/VarHandle" ∧ (parseMethodDescriptor y_Md_can.desc).map (fun d => d.parameters.length) = some 2 := by decide +kernel
theorem hd_Md_check : y_Md_check.cls = "ReachFlowModel" ∧ y_Md_check.cls ≠ "java/lang/invoke/MethodHandle" ∧ y_Md_check.cls ≠ "java/lang/invoke/VarHandle" ∧ (parseMethodDescriptor y_Md_check.desc).map (fun d => d.parameters.length) = some 1 := by decide +kernel
theorem hd_Md_clear : y_Md_clear.cls = "ReachFlowModel" ∧ y_Md_clear.cls ≠ "java/lang/invoke/MethodHandle" ∧ y_Md_clear.cls ≠ "java/lang/invoke/VarHandle" ∧ (parseMethodDescriptor y_Md_clear.desc).map (fun d => d.parameters.length) = some 0 := by decide +kernel
theorem hd_Md_completes : y_Md_completes.cls = "ReachFlowModel" ∧ y_Md_completes.cls ≠ "java/lang/invoke/MethodHandle" ∧ y_Md_completes.cls ≠ "java/lang/invoke/VarHandle" ∧ (parseMethodDescriptor y_Md_completes.desc).map (fun d => d.parameters.length) = some 1 := by decide +kernel
theorem hd_Md_drop : y_Md_drop.cls = "ReachFlowModel" ∧ y_Md_drop.cls ≠ "java/lang/invoke/MethodHandle" ∧ y_Md_drop.cls ≠ "java/lang/invoke/VarHandle" ∧ (parseMethodDescriptor y_Md_drop.desc).map (fun d => d.parameters.length) = some 0 := by decide +kernel
theorem hd_Md_end : y_Md_end.cls = "ReachFlowModel" ∧ y_Md_end.cls ≠ "java/lang/invoke/MethodHandle" ∧ y_Md_end.cls ≠ "java/lang/invoke/VarHandle" ∧ (parseMethodDescriptor y_Md_end.desc).map (fun d => d.parameters.length) = some 1 := by decide +kernel
theorem hd_Md_ends : y_Md_ends.cls = "ReachFlowModel" ∧ y_Md_ends.cls ≠ "java/lang/invoke/MethodHandle" ∧ y_Md_ends.cls ≠ "java/lang/invoke/VarHandle" ∧ (parseMethodDescriptor y_Md_ends.desc).map (fun d => d.parameters.length) = some 3 := by decide +kernel
theorem hd_Md_exception : y_Md_exception.cls = "ReachFlowModel" ∧ y_Md_exception.cls ≠ "java/lang/invoke/MethodHandle" ∧ y_Md_exception.cls ≠ "java/lang/invoke/VarHandle" ∧ (parseMethodDescriptor y_Md_exception.desc).map (fun d => d.parameters.length) = some 1 := by decide +kernel
theorem hd_Md_fault : y_Md_fault.cls = "ReachFlowModel" ∧ y_Md_fault.cls ≠ "java/lang/invoke/MethodHandle" ∧ y_Md_fault.cls ≠ "java/lang/invoke/VarHandle" ∧ (parseMethodDescriptor y_Md_fault.desc).map (fun d => d.parameters.length) = some 2 := by decide +kernel
theorem hd_Md_jump : y_Md_jump.cls = "ReachFlowModel" ∧ y_Md_jump.cls ≠ "java/lang/invoke/MethodHandle" ∧ y_Md_jump.cls ≠ "java/lang/invoke/VarHandle" ∧ (parseMethodDescriptor y_Md_jump.desc).map (fun d => d.parameters.length) = some 2 := by decide +kernel
theorem hd_Md_label : y_Md_label.cls = "ReachFlowModel" ∧ y_Md_label.cls ≠ "java/lang/invoke/MethodHandle" ∧ y_Md_label.cls ≠ "java/lang/invoke/VarHandle" ∧ (parseMethodDescriptor y_Md_label.desc).map (fun d => d.parameters.length) = some 2 := by decide +kernel
theorem hd_Md_member : y_Md_member.cls = "ReachFlowModel" ∧ y_Md_member.cls ≠ "java/lang/invoke/MethodHandle" ∧ y_Md_member.cls ≠ "java/lang/invoke/VarHandle" ∧ (parseMethodDescriptor y_Md_member.desc).map (fun d => d.parameters.length) = some 2 := by decide +kernel
theorem hd_Md_node : y_Md_node.cls = "ReachFlowModel" ∧ y_Md_node.cls ≠ "java/lang/invoke/MethodHandle" ∧ y_Md_node.cls ≠ "java/lang/invoke/VarHandle" ∧ (parseMethodDescriptor y_Md_node.desc).map (fun d => d.parameters.length) = some 4 := by decide +kernel
theorem hd_Md_note : y_Md_note.cls = "ReachFlowModel" ∧ y_Md_note.cls ≠ "java/lang/invoke/MethodHandle" ∧ y_Md_note.cls ≠ "java/lang/invoke/VarHandle" ∧ (parseMethodDescriptor y_Md_note.desc).map (fun d => d.parameters.length) = some 1 := by decide +kernel
theorem hd_Md_notes : y_Md_notes.cls = "ReachFlowModel" ∧ y_Md_notes.cls ≠ "java/lang/invoke/MethodHandle" ∧ y_Md_notes.cls ≠ "java/lang/invoke/VarHandle" ∧ (parseMethodDescriptor y_Md_notes.desc).map (fun d => d.parameters.length) = some 0 := by decide +kernel
theorem hd_Md_of : y_Md_of.cls = "ReachFlowModel" ∧ y_Md_of.cls ≠ "java/lang/invoke/MethodHandle" ∧ y_Md_of.cls ≠ "java/lang/invoke/VarHandle" ∧ (parseMethodDescriptor y_Md_of.desc).map (fun d => d.parameters.length) = some 1 := by decide +kernel
theorem hd_Md_part : y_Md_part.cls = "ReachFlowModel" ∧ y_Md_part.cls ≠ "java/lang/invoke/MethodHandle" ∧ y_Md_part.cls ≠ "java/lang/invoke/VarHandle" ∧ (parseMethodDescriptor y_Md_part.desc).map (fun d => d.parameters.length) = some 2 := by decide +kernel
theorem hd_Md_put : y_Md_put.cls = "ReachFlowModel" ∧ y_Md_put.cls ≠ "java/lang/invoke/MethodHandle" ∧ y_Md_put.cls ≠ "java/lang/invoke/VarHandle" ∧ (parseMethodDescriptor y_Md_put.desc).map (fun d => d.parameters.length) = some 2 := by decide +kernel
theorem hd_Md_reached : y_Md_reached.cls = "ReachFlowModel" ∧ y_Md_reached.cls ≠ "java/lang/invoke/MethodHandle" ∧ y_Md_reached.cls ≠ "java/lang/invoke/VarHandle" ∧ (parseMethodDescriptor y_Md_reached.desc).map (fun d => d.parameters.length) = some 1 := by decide +kernel
theorem hd_Md_row : y_Md_row.cls = "ReachFlowModel" ∧ y_Md_row.cls ≠ "java/lang/invoke/MethodHandle" ∧ y_Md_row.cls ≠ "java/lang/invoke/VarHandle" ∧ (parseMethodDescriptor y_Md_row.desc).map (fun d => d.parameters.length) = some 1 := by decide +kernel
theorem hd_Md_target : y_Md_target.cls = "ReachFlowModel" ∧ y_Md_target.cls ≠ "java/lang/invoke/MethodHandle" ∧ y_Md_target.cls ≠ "java/lang/invoke/VarHandle" ∧ (parseMethodDescriptor y_Md_target.desc).map (fun d => d.parameters.length) = some 1 := by decide +kernel
theorem hd_Md_told : y_Md_told.cls = "ReachFlowModel" ∧ y_Md_told.cls ≠ "java/lang/invoke/MethodHandle" ∧ y_Md_told.cls ≠ "java/lang/invoke/VarHandle" ∧ (parseMethodDescriptor y_Md_told.desc).map (fun d => d.parameters.length) = some 2 := by decide +kernel
theorem hd_Md_walked : y_Md_walked.cls = "ReachFlowModel" ∧ y_Md_walked.cls ≠ "java/lang/invoke/MethodHandle" ∧ y_Md_walked.cls ≠ "java/lang/invoke/VarHandle" ∧ (parseMethodDescriptor y_Md_walked.desc).map (fun d => d.parameters.length) = some 1 := by decide +kernel
theorem hdi_Rf : y_Rf_init.cls = "ReachFlow" ∧ y_Rf_init.cls ≠ "java/lang/invoke/MethodHandle" ∧ y_Rf_init.cls ≠ "java/lang/invoke/VarHandle" ∧ (parseMethodDescriptor y_Rf_init.desc).map (fun d => d.parameters.length) = some 0 := by decide +kernel
theorem hdi_Md : y_Md_init.cls = "ReachFlowModel" ∧ y_Md_init.cls ≠ "java/lang/invoke/MethodHandle" ∧ y_Md_init.cls ≠ "java/lang/invoke/VarHandle" ∧ (parseMethodDescriptor y_Md_init.desc).map (fun d => d.parameters.length) = some 0 := by decide +kernel
/-- clear: class and model answer alike, and stay related -/
def S_clear (N : Nat) (Rel : Rl) : Prop := ∀ (kn : KnS) (tr : TrS) (rw : RwS) (lk : LkS) (f0 : FlS) (f1 : FlS) (mb : MbS) (mg : MgS) (mx : MxS) (mf : MfS), Rel kn tr rw lk f0 f1 mb mg mx mf → ∃ (r1 : Int32 × KnS × TrS × RwS × LkS × FlS × FlS) (r2 : Int32 × MbS × MgS), f_Rf_clear N kn tr rw lk f0 f1 = some r1 ∧ f_Md_clear mb mg = some r2 ∧ r1.1 = r2.1 ∧ Rel r1.2.1 r1.2.2.1 r1.2.2.2.1 r1.2.2.2.2.1 r1.2.2.2.2.2.1 r1.2.2.2.2.2.2 r2.2.1 r2.2.2 mx mf
/-- exception: class and model answer alike, and stay related -/
def S_exception (N : Nat) (Rel : Rl) : Prop := ∀ (kn : KnS) (tr : TrS) (rw : RwS) (lk : LkS) (f0 : FlS) (f1 : FlS) (mb : MbS) (mg : MgS) (mx : MxS) (mf : MfS) (x1 : Int32), Rel kn tr rw lk f0 f1 mb mg mx mf → ∃ (r1 : Int32 × KnS) (r2 : Int32 × MbS), f_Rf_exception N x1 kn = some r1 ∧ f_Md_exception x1 mb = some r2 ∧ r1.1 = r2.1 ∧ Rel r1.2 tr rw lk f0 f1 r2.2 mg mx mf
/-- node: class and model answer alike, and stay related -/
def S_node (N : Nat) (Rel : Rl) : Prop := ∀ (kn : KnS) (tr : TrS) (rw : RwS) (lk : LkS) (f0 : FlS) (f1 : FlS) (mb : MbS) (mg : MgS) (mx : MxS) (mf : MfS) (x1 : Int32) (x2 : Int32) (x3 : Int32) (x4 : Int32), Rel kn tr rw lk f0 f1 mb mg mx mf → ∃ (r1 : Int32 × TrS) (r2 : Int32 × MbS × MgS), f_Rf_node x1 x2 x3 x4 kn tr = some r1 ∧ f_Md_node x1 x2 x3 x4 mb mg = some r2 ∧ r1.1 = r2.1 ∧ Rel kn r1.2 rw lk f0 f1 r2.2.1 r2.2.2 mx mf
/-- jump: class and model answer alike, and stay related -/
def S_jump (N : Nat) (Rel : Rl) : Prop := ∀ (kn : KnS) (tr : TrS) (rw : RwS) (lk : LkS) (f0 : FlS) (f1 : FlS) (mb : MbS) (mg : MgS) (mx : MxS) (mf : MfS) (x1 : Int32) (x2 : Int32), Rel kn tr rw lk f0 f1 mb mg mx mf → ∃ (r1 : Int32 × TrS) (r2 : Int32 × MbS × MgS), f_Rf_jump x1 x2 tr = some r1 ∧ f_Md_jump x1 x2 mb mg = some r2 ∧ r1.1 = r2.1 ∧ Rel kn r1.2 rw lk f0 f1 r2.2.1 r2.2.2 mx mf
/-- label: class and model answer alike, and stay related -/
def S_label (N : Nat) (Rel : Rl) : Prop := ∀ (kn : KnS) (tr : TrS) (rw : RwS) (lk : LkS) (f0 : FlS) (f1 : FlS) (mb : MbS) (mg : MgS) (mx : MxS) (mf : MfS) (x1 : Int32) (x2 : Int32), Rel kn tr rw lk f0 f1 mb mg mx mf → ∃ (r1 : Int32 × TrS) (r2 : Int32 × MbS × MgS), f_Rf_label x1 x2 tr = some r1 ∧ f_Md_label x1 x2 mb mg = some r2 ∧ r1.1 = r2.1 ∧ Rel kn r1.2 rw lk f0 f1 r2.2.1 r2.2.2 mx mf
/-- row: class and model answer alike, and stay related -/
def S_row (N : Nat) (Rel : Rl) : Prop := ∀ (kn : KnS) (tr : TrS) (rw : RwS) (lk : LkS) (f0 : FlS) (f1 : FlS) (mb : MbS) (mg : MgS) (mx : MxS) (mf : MfS) (x1 : Int32), Rel kn tr rw lk f0 f1 mb mg mx mf → ∃ (r1 : Int32 × RwS) (r2 : Int32 × MbS), f_Rf_row x1 rw = some r1 ∧ f_Md_row x1 mb = some r2 ∧ r1.1 = r2.1 ∧ Rel kn tr r1.2 lk f0 f1 r2.2 mg mx mf
/-- put: class and model answer alike, and stay related -/
def S_put (N : Nat) (Rel : Rl) : Prop := ∀ (kn : KnS) (tr : TrS) (rw : RwS) (lk : LkS) (f0 : FlS) (f1 : FlS) (mb : MbS) (mg : MgS) (mx : MxS) (mf : MfS) (x1 : Int32) (x2 : Int32), Rel kn tr rw lk f0 f1 mb mg mx mf → ∃ (r1 : Int32 × TrS × RwS) (r2 : Int32 × MbS), f_Rf_put x1 x2 kn tr rw = some r1 ∧ f_Md_put N x1 x2 mb = some r2 ∧ r1.1 = r2.1 ∧ Rel kn r1.2.1 r1.2.2 lk f0 f1 r2.2 mg mx mf
/-- end: class and model answer alike, and stay related -/
def S_end (N : Nat) (Rel : Rl) : Prop := ∀ (kn : KnS) (tr : TrS) (rw : RwS) (lk : LkS) (f0 : FlS) (f1 : FlS) (mb : MbS) (mg : MgS) (mx : MxS) (mf : MfS) (x1 : Int32), Rel kn tr rw lk f0 f1 mb mg mx mf → ∃ (r1 : Int32 × TrS × RwS) (r2 : Int32 × MbS × MgS), f_Rf_end N x1 tr rw = some r1 ∧ f_Md_end N x1 mb mg = some r2 ∧ r1.1 = r2.1 ∧ Rel kn r1.2.1 r1.2.2 lk f0 f1 r2.2.1 r2.2.2 mx mf
/-- drop: class and model answer alike, and stay related -/
def S_drop (N : Nat) (Rel : Rl) : Prop := ∀ (kn : KnS) (tr : TrS) (rw : RwS) (lk : LkS) (f0 : FlS) (f1 : FlS) (mb : MbS) (mg : MgS) (mx : MxS) (mf : MfS), Rel kn tr rw lk f0 f1 mb mg mx mf → ∃ (r1 : Int32 × TrS × RwS) (r2 : Int32 × MbS), f_Rf_drop N tr rw = some r1 ∧ f_Md_drop N mb = some r2 ∧ r1.1 = r2.1 ∧ Rel kn r1.2.1 r1.2.2 lk f0 f1 r2.2 mg mx mf
/-- told: class and model answer alike, and stay related -/
def S_told (N : Nat) (Rel : Rl) : Prop := ∀ (kn : KnS) (tr : TrS) (rw : RwS) (lk : LkS) (f0 : FlS) (f1 : FlS) (mb : MbS) (mg : MgS) (mx : MxS) (mf : MfS) (x1 : Int32) (x2 : Int32), Rel kn tr rw lk f0 f1 mb mg mx mf → ∃ (r1 : Int32) (r2 : Int32), f_Rf_told x1 x2 tr = some r1 ∧ f_Md_told N x1 x2 mb = some r2 ∧ r1 = r2 ∧ Rel kn tr rw lk f0 f1 mb mg mx mf
/-- part: class and model answer alike, and stay related -/
def S_part (N : Nat) (Rel : Rl) : Prop := ∀ (kn : KnS) (tr : TrS) (rw : RwS) (lk : LkS) (f0 : FlS) (f1 : FlS) (mb : MbS) (mg : MgS) (mx : MxS) (mf : MfS) (x1 : Int32) (x2 : Int32), Rel kn tr rw lk f0 f1 mb mg mx mf → ∃ (r1 : Int32) (r2 : Int32), f_Rf_part x1 x2 tr = some r1 ∧ f_Md_part N x1 x2 mb = some r2 ∧ r1 = r2 ∧ Rel kn tr rw lk f0 f1 mb mg mx mf
/-- of: class and model answer alike, and stay related -/
def S_of (N : Nat) (Rel : Rl) : Prop := ∀ (kn : KnS) (tr : TrS) (rw : RwS) (lk : LkS) (f0 : FlS) (f1 : FlS) (mb : MbS) (mg : MgS) (mx : MxS) (mf : MfS) (x1 : Int32), Rel kn tr rw lk f0 f1 mb mg mx mf → ∃ (r1 : Int32) (r2 : Int32), f_Rf_of x1 kn tr rw lk = some r1 ∧ f_Md_of x1 mb mg = some r2 ∧ r1 = r2 ∧ Rel kn tr rw lk f0 f1 mb mg mx mf
/-- check: class and model answer alike, and stay related -/
def S_check (N : Nat) (Rel : Rl) : Prop := ∀ (kn : KnS) (tr : TrS) (rw : RwS) (lk : LkS) (f0 : FlS) (f1 : FlS) (mb : MbS) (mg : MgS) (mx : MxS) (mf : MfS) (x1 : Int32), Rel kn tr rw lk f0 f1 mb mg mx mf → ∃ (r1 : Int32 × LkS × FlS × FlS) (r2 : Int32 × MgS × MxS × MfS), f_Rf_check N x1 kn tr lk f0 f1 = some r1 ∧ f_Md_check N x1 mb mg mx mf = some r2 ∧ r1.1 = r2.1 ∧ Rel kn tr rw r1.2.1 r1.2.2.1 r1.2.2.2 mb r2.2.1 r2.2.2.1 r2.2.2.2
/-- fault: class and model answer alike, and stay related -/
def S_fault (N : Nat) (Rel : Rl) : Prop := ∀ (kn : KnS) (tr : TrS) (rw : RwS) (lk : LkS) (f0 : FlS) (f1 : FlS) (mb : MbS) (mg : MgS) (mx : MxS) (mf : MfS) (x1 : Int32) (x2 : Int32), Rel kn tr rw lk f0 f1 mb mg mx mf → ∃ (r1 : Int32) (r2 : Int32), f_Rf_fault x1 x2 lk = some r1 ∧ f_Md_fault x1 x2 mg mf = some r2 ∧ r1 = r2 ∧ Rel kn tr rw lk f0 f1 mb mg mx mf
/-- notes: class and model answer alike, and stay related -/
def S_notes (N : Nat) (Rel : Rl) : Prop := ∀ (kn : KnS) (tr : TrS) (rw : RwS) (lk : LkS) (f0 : FlS) (f1 : FlS) (mb : MbS) (mg : MgS) (mx : MxS) (mf : MfS), Rel kn tr rw lk f0 f1 mb mg mx mf → ∃ (r1 : Int32) (r2 : Int32), f_Rf_notes lk = some r1 ∧ f_Md_notes mg mf = some r2 ∧ r1 = r2 ∧ Rel kn tr rw lk f0 f1 mb mg mx mf
/-- note: class and model answer alike, and stay related -/
def S_note (N : Nat) (Rel : Rl) : Prop := ∀ (kn : KnS) (tr : TrS) (rw : RwS) (lk : LkS) (f0 : FlS) (f1 : FlS) (mb : MbS) (mg : MgS) (mx : MxS) (mf : MfS) (x1 : Int32), Rel kn tr rw lk f0 f1 mb mg mx mf → ∃ (r1 : Int32) (r2 : Int32), f_Rf_note x1 lk = some r1 ∧ f_Md_note x1 mg mf = some r2 ∧ r1 = r2 ∧ Rel kn tr rw lk f0 f1 mb mg mx mf
/-- reached: class and model answer alike, and stay related -/
def S_reached (N : Nat) (Rel : Rl) : Prop := ∀ (kn : KnS) (tr : TrS) (rw : RwS) (lk : LkS) (f0 : FlS) (f1 : FlS) (mb : MbS) (mg : MgS) (mx : MxS) (mf : MfS) (x1 : Int32), Rel kn tr rw lk f0 f1 mb mg mx mf → ∃ (r1 : Int32) (r2 : Int32), f_Rf_reached x1 tr f0 = some r1 ∧ f_Md_reached x1 mb mg mx = some r2 ∧ r1 = r2 ∧ Rel kn tr rw lk f0 f1 mb mg mx mf
/-- completes: class and model answer alike, and stay related -/
def S_completes (N : Nat) (Rel : Rl) : Prop := ∀ (kn : KnS) (tr : TrS) (rw : RwS) (lk : LkS) (f0 : FlS) (f1 : FlS) (mb : MbS) (mg : MgS) (mx : MxS) (mf : MfS) (x1 : Int32), Rel kn tr rw lk f0 f1 mb mg mx mf → ∃ (r1 : Int32) (r2 : Int32), f_Rf_completes x1 tr f0 = some r1 ∧ f_Md_completes x1 mb mg mx = some r2 ∧ r1 = r2 ∧ Rel kn tr rw lk f0 f1 mb mg mx mf
/-- can: class and model answer alike, and stay related -/
def S_can (N : Nat) (Rel : Rl) : Prop := ∀ (kn : KnS) (tr : TrS) (rw : RwS) (lk : LkS) (f0 : FlS) (f1 : FlS) (mb : MbS) (mg : MgS) (mx : MxS) (mf : MfS) (x1 : Int32) (x2 : Int32), Rel kn tr rw lk f0 f1 mb mg mx mf → ∃ (r1 : Int32) (r2 : Int32), f_Rf_can x1 x2 kn tr f0 = some r1 ∧ f_Md_can x1 x2 mb mg mx = some r2 ∧ r1 = r2 ∧ Rel kn tr rw lk f0 f1 mb mg mx mf
/-- target: class and model answer alike, and stay related -/
def S_target (N : Nat) (Rel : Rl) : Prop := ∀ (kn : KnS) (tr : TrS) (rw : RwS) (lk : LkS) (f0 : FlS) (f1 : FlS) (mb : MbS) (mg : MgS) (mx : MxS) (mf : MfS) (x1 : Int32), Rel kn tr rw lk f0 f1 mb mg mx mf → ∃ (r1 : Int32) (r2 : Int32), f_Rf_target x1 tr lk = some r1 ∧ f_Md_target x1 mb mg = some r2 ∧ r1 = r2 ∧ Rel kn tr rw lk f0 f1 mb mg mx mf
/-- walked: class and model answer alike, and stay related -/
def S_walked (N : Nat) (Rel : Rl) : Prop := ∀ (kn : KnS) (tr : TrS) (rw : RwS) (lk : LkS) (f0 : FlS) (f1 : FlS) (mb : MbS) (mg : MgS) (mx : MxS) (mf : MfS) (x1 : Int32), Rel kn tr rw lk f0 f1 mb mg mx mf → ∃ (r1 : Int32) (r2 : Int32), f_Rf_walked x1 tr f1 = some r1 ∧ f_Md_walked x1 mb mg mx = some r2 ∧ r1 = r2 ∧ Rel kn tr rw lk f0 f1 mb mg mx mf
/-- ends: class and model answer alike, and stay related -/
def S_ends (N : Nat) (Rel : Rl) : Prop := ∀ (kn : KnS) (tr : TrS) (rw : RwS) (lk : LkS) (f0 : FlS) (f1 : FlS) (mb : MbS) (mg : MgS) (mx : MxS) (mf : MfS) (x1 : Int32) (x2 : Int32) (x3 : Int32), Rel kn tr rw lk f0 f1 mb mg mx mf → ∃ (r1 : Int32) (r2 : Int32), f_Rf_ends x1 x2 x3 kn tr f1 = some r1 ∧ f_Md_ends x1 x2 x3 mb mg mx = some r2 ∧ r1 = r2 ∧ Rel kn tr rw lk f0 f1 mb mg mx mf
/-- member: class and model answer alike, and stay related -/
def S_member (N : Nat) (Rel : Rl) : Prop := ∀ (kn : KnS) (tr : TrS) (rw : RwS) (lk : LkS) (f0 : FlS) (f1 : FlS) (mb : MbS) (mg : MgS) (mx : MxS) (mf : MfS) (x1 : Int32) (x2 : Int32), Rel kn tr rw lk f0 f1 mb mg mx mf → ∃ (r1 : Int32 × LkS × FlS × FlS) (r2 : Int32 × MgS × MxS × MfS), f_Rf_member N x1 x2 kn tr lk f0 f1 = some r1 ∧ f_Md_member N x1 x2 mb mg mx mf = some r2 ∧ r1.1 = r2.1 ∧ Rel kn tr rw r1.2.1 r1.2.2.1 r1.2.2.2 mb r2.2.1 r2.2.2.1 r2.2.2.2
