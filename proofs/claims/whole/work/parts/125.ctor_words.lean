theorem tw15 : Cond.methodLink "ReachFlow" (3 : Nat) ⟨"java/lang/Object", "<init>", "()V"⟩ ∈ tb := tb_t1 _ (List.mem_of_getElem? (i := 15) (by decide +kernel)) rfl
theorem tw16 : Cond.instanceMethod ⟨"java/lang/Object", "<init>", "()V"⟩ ∈ tb := tb_t1 _ (List.mem_of_getElem? (i := 16) (by decide +kernel)) rfl
theorem tw17 : Cond.code ⟨"java/lang/Object", "<init>", "()V"⟩ object_method_1_code (1 : Nat) (Option.none : Option Jvm.ClassFile.FieldType) ∈ tb := tb_t1 _ (List.mem_of_getElem? (i := 17) rfl) rfl
theorem tw18 : Cond.classLink "ReachFlow" (9 : Nat) "ReachFlow$Kinds" ∈ tb := tb_t1 _ (List.mem_of_getElem? (i := 18) (by decide +kernel)) rfl
theorem tw19 : Cond.instantiable "ReachFlow$Kinds" (3 : Nat) ∈ tb := tb_t1 _ (List.mem_of_getElem? (i := 19) (by decide +kernel)) rfl
theorem tw20 : Cond.methodLink "ReachFlow" (11 : Nat) y_Kn_init ∈ tb := tb_t1 _ (List.mem_of_getElem? (i := 20) (by decide +kernel)) rfl
theorem tw21 : Cond.instanceMethod y_Kn_init ∈ tb := tb_t1 _ (List.mem_of_getElem? (i := 21) (by decide +kernel)) rfl
theorem tw22 : Cond.code y_Kn_init prog_5_method_1_code (1 : Nat) (Option.none : Option Jvm.ClassFile.FieldType) ∈ tb := tb_t1 _ (List.mem_of_getElem? (i := 22) rfl) rfl
theorem tw23 : Cond.methodLink "ReachFlow$Kinds" (3 : Nat) ⟨"java/lang/Object", "<init>", "()V"⟩ ∈ tb := tb_t1 _ (List.mem_of_getElem? (i := 23) (by decide +kernel)) rfl
theorem tw24 : Cond.methodLink "ReachFlow$Kinds" (18 : Nat) y_Kn_startAgain ∈ tb := tb_t1 _ (List.mem_of_getElem? (i := 24) (by decide +kernel)) rfl
theorem tw51 : Cond.arrayClass Jvm.ClassFile.FieldType.int ∈ tb := tb_t1 _ (List.mem_of_getElem? (i := 51) (by decide +kernel)) rfl
theorem tw52 : Cond.classLink "ReachFlow" (12 : Nat) "ReachFlow$Tree" ∈ tb := tb_t1 _ (List.mem_of_getElem? (i := 52) (by decide +kernel)) rfl
theorem tw53 : Cond.instantiable "ReachFlow$Tree" (14 : Nat) ∈ tb := tb_t1 _ (List.mem_of_getElem? (i := 53) (by decide +kernel)) rfl
theorem tw55 : Cond.instanceMethod y_Tr_init ∈ tb := tb_t1 _ (List.mem_of_getElem? (i := 55) (by decide +kernel)) rfl
theorem tw56 : Cond.code y_Tr_init prog_8_method_1_code (1 : Nat) (Option.none : Option Jvm.ClassFile.FieldType) ∈ tb := tb_t1 _ (List.mem_of_getElem? (i := 56) rfl) rfl
theorem tw57 : Cond.methodLink "ReachFlow$Tree" (3 : Nat) ⟨"java/lang/Object", "<init>", "()V"⟩ ∈ tb := tb_t1 _ (List.mem_of_getElem? (i := 57) (by decide +kernel)) rfl
theorem tw120 : Cond.arrayClass Jvm.ClassFile.FieldType.long ∈ tb := tb_t1 _ (List.mem_of_getElem? (i := 120) (by decide +kernel)) rfl
theorem tw121 : Cond.classLink "ReachFlow" (23 : Nat) "ReachFlow$Row" ∈ tb := tb_t1 _ (List.mem_of_getElem? (i := 121) (by decide +kernel)) rfl
theorem tw122 : Cond.instantiable "ReachFlow$Row" (4 : Nat) ∈ tb := tb_t1 _ (List.mem_of_getElem? (i := 122) (by decide +kernel)) rfl
theorem tw124 : Cond.instanceMethod y_Rw_init ∈ tb := tb_t1 _ (List.mem_of_getElem? (i := 124) (by decide +kernel)) rfl
theorem tw125 : Cond.code y_Rw_init prog_7_method_1_code (1 : Nat) (Option.none : Option Jvm.ClassFile.FieldType) ∈ tb := tb_t1 _ (List.mem_of_getElem? (i := 125) rfl) rfl
theorem tw126 : Cond.methodLink "ReachFlow$Row" (3 : Nat) ⟨"java/lang/Object", "<init>", "()V"⟩ ∈ tb := tb_t1 _ (List.mem_of_getElem? (i := 126) (by decide +kernel)) rfl
theorem tw144 : Cond.classLink "ReachFlow" (30 : Nat) "ReachFlow$Look" ∈ tb := tb_t1 _ (List.mem_of_getElem? (i := 144) (by decide +kernel)) rfl
theorem tw145 : Cond.instantiable "ReachFlow$Look" (14 : Nat) ∈ tb := tb_t1 _ (List.mem_of_getElem? (i := 145) (by decide +kernel)) rfl
theorem tw146 : Cond.methodLink "ReachFlow" (32 : Nat) y_Lk_init ∈ tb := tb_t1 _ (List.mem_of_getElem? (i := 146) (by decide +kernel)) rfl
theorem tw147 : Cond.instanceMethod y_Lk_init ∈ tb := tb_t1 _ (List.mem_of_getElem? (i := 147) (by decide +kernel)) rfl
theorem tw148 : Cond.code y_Lk_init prog_6_method_1_code (3 : Nat) (Option.none : Option Jvm.ClassFile.FieldType) ∈ tb := tb_t1 _ (List.mem_of_getElem? (i := 148) rfl) rfl
theorem tw149 : Cond.methodLink "ReachFlow$Look" (3 : Nat) ⟨"java/lang/Object", "<init>", "()V"⟩ ∈ tb := tb_t1 _ (List.mem_of_getElem? (i := 149) (by decide +kernel)) rfl
theorem tw150 : Cond.classLink "ReachFlow$Look" (38 : Nat) "ReachFlow$ByRules" ∈ tb := tb_t1 _ (List.mem_of_getElem? (i := 150) (by decide +kernel)) rfl
theorem tw151 : Cond.instantiable "ReachFlow$ByRules" (9 : Nat) ∈ tb := tb_t1 _ (List.mem_of_getElem? (i := 151) (by decide +kernel)) rfl
theorem tw152 : Cond.methodLink "ReachFlow$Look" (40 : Nat) y_Br_init ∈ tb := tb_t1 _ (List.mem_of_getElem? (i := 152) (by decide +kernel)) rfl
theorem tw153 : Cond.instanceMethod y_Br_init ∈ tb := tb_t1 _ (List.mem_of_getElem? (i := 153) (by decide +kernel)) rfl
theorem tw154 : Cond.code y_Br_init prog_2_method_1_code (3 : Nat) (Option.none : Option Jvm.ClassFile.FieldType) ∈ tb := tb_t1 _ (List.mem_of_getElem? (i := 154) rfl) rfl
theorem tw155 : Cond.methodLink "ReachFlow$ByRules" (3 : Nat) y_Fl_init ∈ tb := tb_t1 _ (List.mem_of_getElem? (i := 155) (by decide +kernel)) rfl
theorem tw156 : Cond.instanceMethod y_Fl_init ∈ tb := tb_t1 _ (List.mem_of_getElem? (i := 156) (by decide +kernel)) rfl
theorem tw157 : Cond.code y_Fl_init prog_4_method_1_code (3 : Nat) (Option.none : Option Jvm.ClassFile.FieldType) ∈ tb := tb_t1 _ (List.mem_of_getElem? (i := 157) rfl) rfl
theorem tw158 : Cond.methodLink "ReachFlow$Flow" (3 : Nat) ⟨"java/lang/Object", "<init>", "()V"⟩ ∈ tb := tb_t1 _ (List.mem_of_getElem? (i := 158) (by decide +kernel)) rfl
theorem tw194 : Cond.classLink "ReachFlow$Look" (47 : Nat) "ReachFlow$ByWalks" ∈ tb := tb_t1 _ (List.mem_of_getElem? (i := 194) (by decide +kernel)) rfl
theorem tw195 : Cond.instantiable "ReachFlow$ByWalks" (9 : Nat) ∈ tb := tb_t1 _ (List.mem_of_getElem? (i := 195) (by decide +kernel)) rfl
theorem tw196 : Cond.methodLink "ReachFlow$Look" (49 : Nat) y_Bw_init ∈ tb := tb_t1 _ (List.mem_of_getElem? (i := 196) (by decide +kernel)) rfl
theorem tw197 : Cond.instanceMethod y_Bw_init ∈ tb := tb_t1 _ (List.mem_of_getElem? (i := 197) (by decide +kernel)) rfl
theorem tw198 : Cond.code y_Bw_init prog_3_method_1_code (3 : Nat) (Option.none : Option Jvm.ClassFile.FieldType) ∈ tb := tb_t1 _ (List.mem_of_getElem? (i := 198) rfl) rfl
theorem tw199 : Cond.methodLink "ReachFlow$ByWalks" (1 : Nat) y_Fl_init ∈ tb := tb_t1 _ (List.mem_of_getElem? (i := 199) (by decide +kernel)) rfl
theorem tw210 : Cond.methodLink "ReachFlow$Look" (53 : Nat) y_Lk_startAgain ∈ tb := tb_t1 _ (List.mem_of_getElem? (i := 210) (by decide +kernel)) rfl
theorem tw682 : Cond.methodLink "ReachFlowModel" (1 : Nat) ⟨"java/lang/Object", "<init>", "()V"⟩ ∈ tb := tb_t3 _ (List.mem_of_getElem? (i := 202) (by decide +kernel)) rfl
theorem tw793 : Cond.arrayClass Jvm.ClassFile.FieldType.boolean ∈ tb := tb_t4 _ (List.mem_of_getElem? (i := 73) (by decide +kernel)) rfl
theorem hdi_Br : y_Br_init.cls = "ReachFlow$ByRules" ∧ y_Br_init.cls ≠ "java/lang/invoke/MethodHandle" ∧ y_Br_init.cls ≠ "java/lang/invoke/VarHandle" ∧ (parseMethodDescriptor y_Br_init.desc).map (fun d => d.parameters.length) = some 2 := by decide +kernel
theorem hdi_Bw : y_Bw_init.cls = "ReachFlow$ByWalks" ∧ y_Bw_init.cls ≠ "java/lang/invoke/MethodHandle" ∧ y_Bw_init.cls ≠ "java/lang/invoke/VarHandle" ∧ (parseMethodDescriptor y_Bw_init.desc).map (fun d => d.parameters.length) = some 2 := by decide +kernel
theorem hdi_Fl : y_Fl_init.cls = "ReachFlow$Flow" ∧ y_Fl_init.cls ≠ "java/lang/invoke/MethodHandle" ∧ y_Fl_init.cls ≠ "java/lang/invoke/VarHandle" ∧ (parseMethodDescriptor y_Fl_init.desc).map (fun d => d.parameters.length) = some 2 := by decide +kernel
theorem hdi_Kn : y_Kn_init.cls = "ReachFlow$Kinds" ∧ y_Kn_init.cls ≠ "java/lang/invoke/MethodHandle" ∧ y_Kn_init.cls ≠ "java/lang/invoke/VarHandle" ∧ (parseMethodDescriptor y_Kn_init.desc).map (fun d => d.parameters.length) = some 0 := by decide +kernel
theorem hdi_Lk : y_Lk_init.cls = "ReachFlow$Look" ∧ y_Lk_init.cls ≠ "java/lang/invoke/MethodHandle" ∧ y_Lk_init.cls ≠ "java/lang/invoke/VarHandle" ∧ (parseMethodDescriptor y_Lk_init.desc).map (fun d => d.parameters.length) = some 2 := by decide +kernel
theorem hdi_Rw : y_Rw_init.cls = "ReachFlow$Row" ∧ y_Rw_init.cls ≠ "java/lang/invoke/MethodHandle" ∧ y_Rw_init.cls ≠ "java/lang/invoke/VarHandle" ∧ (parseMethodDescriptor y_Rw_init.desc).map (fun d => d.parameters.length) = some 0 := by decide +kernel
theorem hdi_Tr : y_Tr_init.cls = "ReachFlow$Tree" ∧ y_Tr_init.cls ≠ "java/lang/invoke/MethodHandle" ∧ y_Tr_init.cls ≠ "java/lang/invoke/VarHandle" ∧ (parseMethodDescriptor y_Tr_init.desc).map (fun d => d.parameters.length) = some 0 := by decide +kernel
abbrev kn0 : KnS := (0, (fun _ => 0), (fun _ => 0))
abbrev tr0 : TrS := (0, 0, 0, 0, (fun _ => 0), (fun _ => 0), (fun _ => 0), (fun _ => 0), (fun _ => 0), (fun _ => 0), (fun _ => 0), (fun _ => 0), (fun _ => 0), (fun _ => 0))
abbrev rw0 : RwS := ((-1), 0, 0, (fun _ => 0))
abbrev fl0 : FlS := (0, 0, 0, 0, (fun _ => 0), (fun _ => 0), (fun _ => 0))
abbrev lk0 : LkS := (0, 0, (fun _ => 0), (fun _ => 0), (fun _ => 0), 0, (fun _ => 0), (fun _ => 0), 0, (fun _ => 0))
abbrev mb0 : MbS := (0, (fun _ => 0), 0, (fun _ => 0), (fun _ => 0), (fun _ => 0), (fun _ => 0), (fun _ => 0), (fun _ => 0), (fun _ => 0), (fun _ => 0), (fun _ => 0), (fun _ => 0), (fun _ => 0), 0, 0, 0, 0)
abbrev mg0 : MgS := (0, 0, 0, (fun _ => 0), (fun _ => 0), (fun _ => 0))
abbrev mx0 : MxS := ((fun _ => 0), (fun _ => 0), (fun _ => 0), (fun _ => 0), (fun _ => 0), 0)
abbrev mf0 : MfS := (0, (fun _ => 0), (fun _ => 0), 0, (fun _ => 0))
