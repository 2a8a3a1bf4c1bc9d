-- ===== PART A: goes FIRST, ahead of the names: the tables' words, and 'selects' of the private methods out of them =====
/-- a private method of a class that the tables say can be made, by its rows of tables_1 -/
def lw_okq (q : MethodName × Nat) : Prop := (q.1.cls ≠ "java/lang/invoke/MethodHandle" ∧ q.1.cls ≠ "java/lang/invoke/VarHandle") ∧ Cond.instantiable q.1.cls q.2 ∈ tables_1 ∧ Cond.privateMethod q.1 ∈ tables_1 ∧ Cond.instanceMethod q.1 ∈ tables_1
theorem lw_p0 : lw_okq (⟨"ReachFlow$Look", "forgetTargets", "()V"⟩, 14) := ⟨⟨by decide +kernel, by decide +kernel⟩, List.mem_of_getElem? (i := 145) (by decide +kernel), List.mem_of_getElem? (i := 221) (by decide +kernel), List.mem_of_getElem? (i := 222) (by decide +kernel)⟩
theorem lw_p1 : lw_okq (⟨"ReachFlow", "fitsNode", "(IIII)Z"⟩, 4) := ⟨⟨by decide +kernel, by decide +kernel⟩, List.mem_of_getElem? (i := 11) (by decide +kernel), List.mem_of_getElem? (i := 317) (by decide +kernel), List.mem_of_getElem? (i := 318) (by decide +kernel)⟩
theorem lw_p2 : lw_okq (⟨"ReachFlow", "fitsRow", "(II)Z"⟩, 4) := ⟨⟨by decide +kernel, by decide +kernel⟩, List.mem_of_getElem? (i := 11) (by decide +kernel), List.mem_of_getElem? (i := 377) (by decide +kernel), List.mem_of_getElem? (i := 378) (by decide +kernel)⟩
theorem lw_p3 : lw_okq (⟨"ReachFlow", "fitsEnd", "(I)Z"⟩, 4) := ⟨⟨by decide +kernel, by decide +kernel⟩, List.mem_of_getElem? (i := 11) (by decide +kernel), List.mem_of_getElem? (i := 400) (by decide +kernel), List.mem_of_getElem? (i := 401) (by decide +kernel)⟩
theorem lw_p4 : lw_okq (⟨"ReachFlow$Look", "orderText", "()V"⟩, 14) := ⟨⟨by decide +kernel, by decide +kernel⟩, List.mem_of_getElem? (i := 145) (by decide +kernel), List.mem_of_getElem? (i := 443) (by decide +kernel), List.mem_of_getElem? (i := 444) (by decide +kernel)⟩
theorem lw_p5 : lw_okq (⟨"ReachFlow$Look", "findTargets", "()V"⟩, 14) := ⟨⟨by decide +kernel, by decide +kernel⟩, List.mem_of_getElem? (i := 145) (by decide +kernel), List.mem_of_getElem? (i := 448) (by decide +kernel), List.mem_of_getElem? (i := 449) (by decide +kernel)⟩
theorem lw_p6 : lw_okq (⟨"ReachFlow$Look", "isJump", "(I)Z"⟩, 14) := ⟨⟨by decide +kernel, by decide +kernel⟩, List.mem_of_getElem? (i := 145) (by decide +kernel), List.mem_of_getElem? (i := 452) (by decide +kernel), List.mem_of_getElem? (i := 453) (by decide +kernel)⟩
theorem lw_p7 : lw_okq (⟨"ReachFlow$Look", "targetOf", "(I)I"⟩, 14) := ⟨⟨by decide +kernel, by decide +kernel⟩, List.mem_of_getElem? (i := 145) (by decide +kernel), List.mem_of_getElem? (i := 456) (by decide +kernel), List.mem_of_getElem? (i := 457) (by decide +kernel)⟩
theorem lw_p8 : lw_okq (⟨"ReachFlow$Look", "labelAround", "(II)I"⟩, 14) := ⟨⟨by decide +kernel, by decide +kernel⟩, List.mem_of_getElem? (i := 145) (by decide +kernel), List.mem_of_getElem? (i := 460) (by decide +kernel), List.mem_of_getElem? (i := 461) (by decide +kernel)⟩
theorem lw_p9 : lw_okq (⟨"ReachFlow$Look", "loopIn", "(I)I"⟩, 14) := ⟨⟨by decide +kernel, by decide +kernel⟩, List.mem_of_getElem? (i := 145) (by decide +kernel), List.mem_of_getElem? (i := 464) (by decide +kernel), List.mem_of_getElem? (i := 465) (by decide +kernel)⟩
theorem lw_p10 : lw_okq (⟨"ReachFlow$Look", "listFaults", "()V"⟩, 14) := ⟨⟨by decide +kernel, by decide +kernel⟩, List.mem_of_getElem? (i := 145) (by decide +kernel), List.mem_of_getElem? (i := 581) (by decide +kernel), List.mem_of_getElem? (i := 582) (by decide +kernel)⟩
theorem lw_p11 : lw_okq (⟨"ReachFlow$Look", "listPlaceFault", "(I)V"⟩, 14) := ⟨⟨by decide +kernel, by decide +kernel⟩, List.mem_of_getElem? (i := 145) (by decide +kernel), List.mem_of_getElem? (i := 585) (by decide +kernel), List.mem_of_getElem? (i := 586) (by decide +kernel)⟩
theorem lw_p12 : lw_okq (⟨"ReachFlow$Look", "addFault", "(II)V"⟩, 14) := ⟨⟨by decide +kernel, by decide +kernel⟩, List.mem_of_getElem? (i := 145) (by decide +kernel), List.mem_of_getElem? (i := 603) (by decide +kernel), List.mem_of_getElem? (i := 604) (by decide +kernel)⟩
theorem lw_p13 : lw_okq (⟨"ReachFlow$Look", "isCaughtBefore", "(I)Z"⟩, 14) := ⟨⟨by decide +kernel, by decide +kernel⟩, List.mem_of_getElem? (i := 145) (by decide +kernel), List.mem_of_getElem? (i := 607) (by decide +kernel), List.mem_of_getElem? (i := 608) (by decide +kernel)⟩
theorem lw_p14 : lw_okq (⟨"ReachFlow$Look", "listNotes", "()V"⟩, 14) := ⟨⟨by decide +kernel, by decide +kernel⟩, List.mem_of_getElem? (i := 145) (by decide +kernel), List.mem_of_getElem? (i := 613) (by decide +kernel), List.mem_of_getElem? (i := 614) (by decide +kernel)⟩
theorem lw_p15 : lw_okq (⟨"ReachFlow", "fitsWhich", "(II)Z"⟩, 4) := ⟨⟨by decide +kernel, by decide +kernel⟩, List.mem_of_getElem? (i := 11) (by decide +kernel), List.mem_of_getElem? (i := 656) (by decide +kernel), List.mem_of_getElem? (i := 657) (by decide +kernel)⟩
def lw_privs_1 : List (MethodName × Nat) := [(⟨"ReachFlow$Look", "forgetTargets", "()V"⟩, 14), (⟨"ReachFlow", "fitsNode", "(IIII)Z"⟩, 4), (⟨"ReachFlow", "fitsRow", "(II)Z"⟩, 4), (⟨"ReachFlow", "fitsEnd", "(I)Z"⟩, 4), (⟨"ReachFlow$Look", "orderText", "()V"⟩, 14), (⟨"ReachFlow$Look", "findTargets", "()V"⟩, 14), (⟨"ReachFlow$Look", "isJump", "(I)Z"⟩, 14), (⟨"ReachFlow$Look", "targetOf", "(I)I"⟩, 14), (⟨"ReachFlow$Look", "labelAround", "(II)I"⟩, 14), (⟨"ReachFlow$Look", "loopIn", "(I)I"⟩, 14), (⟨"ReachFlow$Look", "listFaults", "()V"⟩, 14), (⟨"ReachFlow$Look", "listPlaceFault", "(I)V"⟩, 14), (⟨"ReachFlow$Look", "addFault", "(II)V"⟩, 14), (⟨"ReachFlow$Look", "isCaughtBefore", "(I)Z"⟩, 14), (⟨"ReachFlow$Look", "listNotes", "()V"⟩, 14), (⟨"ReachFlow", "fitsWhich", "(II)Z"⟩, 4)]
theorem lw_r1 : ∀ q ∈ lw_privs_1, lw_okq q := List.forall_mem_cons.mpr ⟨lw_p0, List.forall_mem_cons.mpr ⟨lw_p1, List.forall_mem_cons.mpr ⟨lw_p2, List.forall_mem_cons.mpr ⟨lw_p3, List.forall_mem_cons.mpr ⟨lw_p4, List.forall_mem_cons.mpr ⟨lw_p5, List.forall_mem_cons.mpr ⟨lw_p6, List.forall_mem_cons.mpr ⟨lw_p7, List.forall_mem_cons.mpr ⟨lw_p8, List.forall_mem_cons.mpr ⟨lw_p9, List.forall_mem_cons.mpr ⟨lw_p10, List.forall_mem_cons.mpr ⟨lw_p11, List.forall_mem_cons.mpr ⟨lw_p12, List.forall_mem_cons.mpr ⟨lw_p13, List.forall_mem_cons.mpr ⟨lw_p14, List.forall_mem_cons.mpr ⟨lw_p15, fun _ h => absurd h List.not_mem_nil⟩⟩⟩⟩⟩⟩⟩⟩⟩⟩⟩⟩⟩⟩⟩⟩
theorem lw_p16 : lw_okq (⟨"ReachFlow", "judge", "(II)I"⟩, 4) := ⟨⟨by decide +kernel, by decide +kernel⟩, List.mem_of_getElem? (i := 11) (by decide +kernel), List.mem_of_getElem? (i := 670) (by decide +kernel), List.mem_of_getElem? (i := 671) (by decide +kernel)⟩
theorem lw_p17 : lw_okq (⟨"ReachFlowModel", "begin", "()V"⟩, 35) := ⟨⟨by decide +kernel, by decide +kernel⟩, List.mem_of_getElem? (i := 678) (by decide +kernel), List.mem_of_getElem? (i := 684) (by decide +kernel), List.mem_of_getElem? (i := 685) (by decide +kernel)⟩
theorem lw_p18 : lw_okq (⟨"ReachFlowModel", "isKind", "(I)Z"⟩, 35) := ⟨⟨by decide +kernel, by decide +kernel⟩, List.mem_of_getElem? (i := 678) (by decide +kernel), List.mem_of_getElem? (i := 803) (by decide +kernel), List.mem_of_getElem? (i := 804) (by decide +kernel)⟩
theorem lw_p19 : lw_okq (⟨"ReachFlowModel", "mayBe", "(IIII)Z"⟩, 35) := ⟨⟨by decide +kernel, by decide +kernel⟩, List.mem_of_getElem? (i := 678) (by decide +kernel), List.mem_of_getElem? (i := 814) (by decide +kernel), List.mem_of_getElem? (i := 815) (by decide +kernel)⟩
theorem lw_p20 : lw_okq (⟨"ReachFlowModel", "isFree", "(I)Z"⟩, 35) := ⟨⟨by decide +kernel, by decide +kernel⟩, List.mem_of_getElem? (i := 678) (by decide +kernel), List.mem_of_getElem? (i := 818) (by decide +kernel), List.mem_of_getElem? (i := 819) (by decide +kernel)⟩
theorem lw_p21 : lw_okq (⟨"ReachFlowModel", "isNode", "(I)Z"⟩, 35) := ⟨⟨by decide +kernel, by decide +kernel⟩, List.mem_of_getElem? (i := 678) (by decide +kernel), List.mem_of_getElem? (i := 822) (by decide +kernel), List.mem_of_getElem? (i := 823) (by decide +kernel)⟩
theorem lw_p22 : lw_okq (⟨"ReachFlowModel", "make", "(II)I"⟩, 35) := ⟨⟨by decide +kernel, by decide +kernel⟩, List.mem_of_getElem? (i := 678) (by decide +kernel), List.mem_of_getElem? (i := 826) (by decide +kernel), List.mem_of_getElem? (i := 827) (by decide +kernel)⟩
theorem lw_p23 : lw_okq (⟨"ReachFlowModel", "join", "(II)V"⟩, 35) := ⟨⟨by decide +kernel, by decide +kernel⟩, List.mem_of_getElem? (i := 678) (by decide +kernel), List.mem_of_getElem? (i := 830) (by decide +kernel), List.mem_of_getElem? (i := 831) (by decide +kernel)⟩
theorem lw_p24 : lw_okq (⟨"ReachFlowModel", "mayPut", "(II)Z"⟩, 35) := ⟨⟨by decide +kernel, by decide +kernel⟩, List.mem_of_getElem? (i := 678) (by decide +kernel), List.mem_of_getElem? (i := 850) (by decide +kernel), List.mem_of_getElem? (i := 851) (by decide +kernel)⟩
theorem lw_p25 : lw_okq (⟨"ReachFlowModel", "hasDefault", "()Z"⟩, 35) := ⟨⟨by decide +kernel, by decide +kernel⟩, List.mem_of_getElem? (i := 678) (by decide +kernel), List.mem_of_getElem? (i := 854) (by decide +kernel), List.mem_of_getElem? (i := 855) (by decide +kernel)⟩
theorem lw_p26 : lw_okq (⟨"ReachFlowModel", "mayEnd", "(I)Z"⟩, 35) := ⟨⟨by decide +kernel, by decide +kernel⟩, List.mem_of_getElem? (i := 678) (by decide +kernel), List.mem_of_getElem? (i := 862) (by decide +kernel), List.mem_of_getElem? (i := 863) (by decide +kernel)⟩
theorem lw_p27 : lw_okq (⟨"ReachFlowModel", "look", "(I)V"⟩, 35) := ⟨⟨by decide +kernel, by decide +kernel⟩, List.mem_of_getElem? (i := 678) (by decide +kernel), List.mem_of_getElem? (i := 886) (by decide +kernel), List.mem_of_getElem? (i := 887) (by decide +kernel)⟩
theorem lw_p28 : lw_okq (⟨"ReachFlowModel", "line", "()V"⟩, 35) := ⟨⟨by decide +kernel, by decide +kernel⟩, List.mem_of_getElem? (i := 678) (by decide +kernel), List.mem_of_getElem? (i := 890) (by decide +kernel), List.mem_of_getElem? (i := 891) (by decide +kernel)⟩
theorem lw_p29 : lw_okq (⟨"ReachFlowModel", "up", "(I)I"⟩, 35) := ⟨⟨by decide +kernel, by decide +kernel⟩, List.mem_of_getElem? (i := 678) (by decide +kernel), List.mem_of_getElem? (i := 894) (by decide +kernel), List.mem_of_getElem? (i := 895) (by decide +kernel)⟩
theorem lw_p30 : lw_okq (⟨"ReachFlowModel", "targetOf", "(I)I"⟩, 35) := ⟨⟨by decide +kernel, by decide +kernel⟩, List.mem_of_getElem? (i := 678) (by decide +kernel), List.mem_of_getElem? (i := 898) (by decide +kernel), List.mem_of_getElem? (i := 899) (by decide +kernel)⟩
theorem lw_p31 : lw_okq (⟨"ReachFlowModel", "isLoop", "(I)Z"⟩, 35) := ⟨⟨by decide +kernel, by decide +kernel⟩, List.mem_of_getElem? (i := 678) (by decide +kernel), List.mem_of_getElem? (i := 902) (by decide +kernel), List.mem_of_getElem? (i := 903) (by decide +kernel)⟩
def lw_privs_2 : List (MethodName × Nat) := [(⟨"ReachFlow", "judge", "(II)I"⟩, 4), (⟨"ReachFlowModel", "begin", "()V"⟩, 35), (⟨"ReachFlowModel", "isKind", "(I)Z"⟩, 35), (⟨"ReachFlowModel", "mayBe", "(IIII)Z"⟩, 35), (⟨"ReachFlowModel", "isFree", "(I)Z"⟩, 35), (⟨"ReachFlowModel", "isNode", "(I)Z"⟩, 35), (⟨"ReachFlowModel", "make", "(II)I"⟩, 35), (⟨"ReachFlowModel", "join", "(II)V"⟩, 35), (⟨"ReachFlowModel", "mayPut", "(II)Z"⟩, 35), (⟨"ReachFlowModel", "hasDefault", "()Z"⟩, 35), (⟨"ReachFlowModel", "mayEnd", "(I)Z"⟩, 35), (⟨"ReachFlowModel", "look", "(I)V"⟩, 35), (⟨"ReachFlowModel", "line", "()V"⟩, 35), (⟨"ReachFlowModel", "up", "(I)I"⟩, 35), (⟨"ReachFlowModel", "targetOf", "(I)I"⟩, 35), (⟨"ReachFlowModel", "isLoop", "(I)Z"⟩, 35)]
theorem lw_r2 : ∀ q ∈ lw_privs_2, lw_okq q := List.forall_mem_cons.mpr ⟨lw_p16, List.forall_mem_cons.mpr ⟨lw_p17, List.forall_mem_cons.mpr ⟨lw_p18, List.forall_mem_cons.mpr ⟨lw_p19, List.forall_mem_cons.mpr ⟨lw_p20, List.forall_mem_cons.mpr ⟨lw_p21, List.forall_mem_cons.mpr ⟨lw_p22, List.forall_mem_cons.mpr ⟨lw_p23, List.forall_mem_cons.mpr ⟨lw_p24, List.forall_mem_cons.mpr ⟨lw_p25, List.forall_mem_cons.mpr ⟨lw_p26, List.forall_mem_cons.mpr ⟨lw_p27, List.forall_mem_cons.mpr ⟨lw_p28, List.forall_mem_cons.mpr ⟨lw_p29, List.forall_mem_cons.mpr ⟨lw_p30, List.forall_mem_cons.mpr ⟨lw_p31, fun _ h => absurd h List.not_mem_nil⟩⟩⟩⟩⟩⟩⟩⟩⟩⟩⟩⟩⟩⟩⟩⟩
theorem lw_p32 : lw_okq (⟨"ReachFlowModel", "rules", "()V"⟩, 35) := ⟨⟨by decide +kernel, by decide +kernel⟩, List.mem_of_getElem? (i := 678) (by decide +kernel), List.mem_of_getElem? (i := 906) (by decide +kernel), List.mem_of_getElem? (i := 907) (by decide +kernel)⟩
theorem lw_p33 : lw_okq (⟨"ReachFlowModel", "mustReach", "(I)Z"⟩, 35) := ⟨⟨by decide +kernel, by decide +kernel⟩, List.mem_of_getElem? (i := 678) (by decide +kernel), List.mem_of_getElem? (i := 910) (by decide +kernel), List.mem_of_getElem? (i := 911) (by decide +kernel)⟩
theorem lw_p34 : lw_okq (⟨"ReachFlowModel", "isCatch", "(I)Z"⟩, 35) := ⟨⟨by decide +kernel, by decide +kernel⟩, List.mem_of_getElem? (i := 678) (by decide +kernel), List.mem_of_getElem? (i := 914) (by decide +kernel), List.mem_of_getElem? (i := 915) (by decide +kernel)⟩
theorem lw_p35 : lw_okq (⟨"ReachFlowModel", "isEnding", "(I)Z"⟩, 35) := ⟨⟨by decide +kernel, by decide +kernel⟩, List.mem_of_getElem? (i := 678) (by decide +kernel), List.mem_of_getElem? (i := 918) (by decide +kernel), List.mem_of_getElem? (i := 919) (by decide +kernel)⟩
theorem lw_p36 : lw_okq (⟨"ReachFlowModel", "catches", "(II)Z"⟩, 35) := ⟨⟨by decide +kernel, by decide +kernel⟩, List.mem_of_getElem? (i := 678) (by decide +kernel), List.mem_of_getElem? (i := 922) (by decide +kernel), List.mem_of_getElem? (i := 923) (by decide +kernel)⟩
theorem lw_p37 : lw_okq (⟨"ReachFlowModel", "isBelow", "(II)Z"⟩, 35) := ⟨⟨by decide +kernel, by decide +kernel⟩, List.mem_of_getElem? (i := 678) (by decide +kernel), List.mem_of_getElem? (i := 926) (by decide +kernel), List.mem_of_getElem? (i := 927) (by decide +kernel)⟩
theorem lw_p38 : lw_okq (⟨"ReachFlowModel", "mustComplete", "(I)Z"⟩, 35) := ⟨⟨by decide +kernel, by decide +kernel⟩, List.mem_of_getElem? (i := 678) (by decide +kernel), List.mem_of_getElem? (i := 930) (by decide +kernel), List.mem_of_getElem? (i := 931) (by decide +kernel)⟩
theorem lw_p39 : lw_okq (⟨"ReachFlowModel", "anyComplete", "(I)Z"⟩, 35) := ⟨⟨by decide +kernel, by decide +kernel⟩, List.mem_of_getElem? (i := 678) (by decide +kernel), List.mem_of_getElem? (i := 934) (by decide +kernel), List.mem_of_getElem? (i := 935) (by decide +kernel)⟩
theorem lw_p40 : lw_okq (⟨"ReachFlowModel", "isExit", "(II)Z"⟩, 35) := ⟨⟨by decide +kernel, by decide +kernel⟩, List.mem_of_getElem? (i := 678) (by decide +kernel), List.mem_of_getElem? (i := 938) (by decide +kernel), List.mem_of_getElem? (i := 939) (by decide +kernel)⟩
theorem lw_p41 : lw_okq (⟨"ReachFlowModel", "exits", "(I)Z"⟩, 35) := ⟨⟨by decide +kernel, by decide +kernel⟩, List.mem_of_getElem? (i := 678) (by decide +kernel), List.mem_of_getElem? (i := 942) (by decide +kernel), List.mem_of_getElem? (i := 943) (by decide +kernel)⟩
theorem lw_p42 : lw_okq (⟨"ReachFlowModel", "isWhole", "(I)Z"⟩, 35) := ⟨⟨by decide +kernel, by decide +kernel⟩, List.mem_of_getElem? (i := 678) (by decide +kernel), List.mem_of_getElem? (i := 946) (by decide +kernel), List.mem_of_getElem? (i := 947) (by decide +kernel)⟩
theorem lw_p43 : lw_okq (⟨"ReachFlowModel", "triesComplete", "(I)Z"⟩, 35) := ⟨⟨by decide +kernel, by decide +kernel⟩, List.mem_of_getElem? (i := 678) (by decide +kernel), List.mem_of_getElem? (i := 950) (by decide +kernel), List.mem_of_getElem? (i := 951) (by decide +kernel)⟩
theorem lw_p44 : lw_okq (⟨"ReachFlowModel", "mustThrow", "(II)Z"⟩, 35) := ⟨⟨by decide +kernel, by decide +kernel⟩, List.mem_of_getElem? (i := 678) (by decide +kernel), List.mem_of_getElem? (i := 954) (by decide +kernel), List.mem_of_getElem? (i := 955) (by decide +kernel)⟩
theorem lw_p45 : lw_okq (⟨"ReachFlowModel", "walks", "()V"⟩, 35) := ⟨⟨by decide +kernel, by decide +kernel⟩, List.mem_of_getElem? (i := 678) (by decide +kernel), List.mem_of_getElem? (i := 958) (by decide +kernel), List.mem_of_getElem? (i := 959) (by decide +kernel)⟩
theorem lw_p46 : lw_okq (⟨"ReachFlowModel", "walk", "(I)V"⟩, 35) := ⟨⟨by decide +kernel, by decide +kernel⟩, List.mem_of_getElem? (i := 678) (by decide +kernel), List.mem_of_getElem? (i := 962) (by decide +kernel), List.mem_of_getElem? (i := 963) (by decide +kernel)⟩
theorem lw_p47 : lw_okq (⟨"ReachFlowModel", "endBy", "(II)V"⟩, 35) := ⟨⟨by decide +kernel, by decide +kernel⟩, List.mem_of_getElem? (i := 678) (by decide +kernel), List.mem_of_getElem? (i := 966) (by decide +kernel), List.mem_of_getElem? (i := 967) (by decide +kernel)⟩
def lw_privs_3 : List (MethodName × Nat) := [(⟨"ReachFlowModel", "rules", "()V"⟩, 35), (⟨"ReachFlowModel", "mustReach", "(I)Z"⟩, 35), (⟨"ReachFlowModel", "isCatch", "(I)Z"⟩, 35), (⟨"ReachFlowModel", "isEnding", "(I)Z"⟩, 35), (⟨"ReachFlowModel", "catches", "(II)Z"⟩, 35), (⟨"ReachFlowModel", "isBelow", "(II)Z"⟩, 35), (⟨"ReachFlowModel", "mustComplete", "(I)Z"⟩, 35), (⟨"ReachFlowModel", "anyComplete", "(I)Z"⟩, 35), (⟨"ReachFlowModel", "isExit", "(II)Z"⟩, 35), (⟨"ReachFlowModel", "exits", "(I)Z"⟩, 35), (⟨"ReachFlowModel", "isWhole", "(I)Z"⟩, 35), (⟨"ReachFlowModel", "triesComplete", "(I)Z"⟩, 35), (⟨"ReachFlowModel", "mustThrow", "(II)Z"⟩, 35), (⟨"ReachFlowModel", "walks", "()V"⟩, 35), (⟨"ReachFlowModel", "walk", "(I)V"⟩, 35), (⟨"ReachFlowModel", "endBy", "(II)V"⟩, 35)]
theorem lw_r3 : ∀ q ∈ lw_privs_3, lw_okq q := List.forall_mem_cons.mpr ⟨lw_p32, List.forall_mem_cons.mpr ⟨lw_p33, List.forall_mem_cons.mpr ⟨lw_p34, List.forall_mem_cons.mpr ⟨lw_p35, List.forall_mem_cons.mpr ⟨lw_p36, List.forall_mem_cons.mpr ⟨lw_p37, List.forall_mem_cons.mpr ⟨lw_p38, List.forall_mem_cons.mpr ⟨lw_p39, List.forall_mem_cons.mpr ⟨lw_p40, List.forall_mem_cons.mpr ⟨lw_p41, List.forall_mem_cons.mpr ⟨lw_p42, List.forall_mem_cons.mpr ⟨lw_p43, List.forall_mem_cons.mpr ⟨lw_p44, List.forall_mem_cons.mpr ⟨lw_p45, List.forall_mem_cons.mpr ⟨lw_p46, List.forall_mem_cons.mpr ⟨lw_p47, fun _ h => absurd h List.not_mem_nil⟩⟩⟩⟩⟩⟩⟩⟩⟩⟩⟩⟩⟩⟩⟩⟩
theorem lw_p48 : lw_okq (⟨"ReachFlowModel", "raises", "(I)V"⟩, 35) := ⟨⟨by decide +kernel, by decide +kernel⟩, List.mem_of_getElem? (i := 678) (by decide +kernel), List.mem_of_getElem? (i := 970) (by decide +kernel), List.mem_of_getElem? (i := 971) (by decide +kernel)⟩
theorem lw_p49 : lw_okq (⟨"ReachFlowModel", "branches", "(II)V"⟩, 35) := ⟨⟨by decide +kernel, by decide +kernel⟩, List.mem_of_getElem? (i := 678) (by decide +kernel), List.mem_of_getElem? (i := 974) (by decide +kernel), List.mem_of_getElem? (i := 975) (by decide +kernel)⟩
theorem lw_p50 : lw_okq (⟨"ReachFlowModel", "come", "(I)V"⟩, 35) := ⟨⟨by decide +kernel, by decide +kernel⟩, List.mem_of_getElem? (i := 678) (by decide +kernel), List.mem_of_getElem? (i := 978) (by decide +kernel), List.mem_of_getElem? (i := 979) (by decide +kernel)⟩
theorem lw_p51 : lw_okq (⟨"ReachFlowModel", "isEnded", "(II)Z"⟩, 35) := ⟨⟨by decide +kernel, by decide +kernel⟩, List.mem_of_getElem? (i := 678) (by decide +kernel), List.mem_of_getElem? (i := 982) (by decide +kernel), List.mem_of_getElem? (i := 983) (by decide +kernel)⟩
theorem lw_p52 : lw_okq (⟨"ReachFlowModel", "pass", "(II)V"⟩, 35) := ⟨⟨by decide +kernel, by decide +kernel⟩, List.mem_of_getElem? (i := 678) (by decide +kernel), List.mem_of_getElem? (i := 986) (by decide +kernel), List.mem_of_getElem? (i := 987) (by decide +kernel)⟩
theorem lw_p53 : lw_okq (⟨"ReachFlowModel", "turns", "(II)V"⟩, 35) := ⟨⟨by decide +kernel, by decide +kernel⟩, List.mem_of_getElem? (i := 678) (by decide +kernel), List.mem_of_getElem? (i := 990) (by decide +kernel), List.mem_of_getElem? (i := 991) (by decide +kernel)⟩
theorem lw_p54 : lw_okq (⟨"ReachFlowModel", "steps", "(I)V"⟩, 35) := ⟨⟨by decide +kernel, by decide +kernel⟩, List.mem_of_getElem? (i := 678) (by decide +kernel), List.mem_of_getElem? (i := 994) (by decide +kernel), List.mem_of_getElem? (i := 995) (by decide +kernel)⟩
theorem lw_p55 : lw_okq (⟨"ReachFlowModel", "switches", "(I)V"⟩, 35) := ⟨⟨by decide +kernel, by decide +kernel⟩, List.mem_of_getElem? (i := 678) (by decide +kernel), List.mem_of_getElem? (i := 998) (by decide +kernel), List.mem_of_getElem? (i := 999) (by decide +kernel)⟩
theorem lw_p56 : lw_okq (⟨"ReachFlowModel", "tries", "(I)V"⟩, 35) := ⟨⟨by decide +kernel, by decide +kernel⟩, List.mem_of_getElem? (i := 678) (by decide +kernel), List.mem_of_getElem? (i := 1002) (by decide +kernel), List.mem_of_getElem? (i := 1003) (by decide +kernel)⟩
theorem lw_p57 : lw_okq (⟨"ReachFlowModel", "through", "(II)V"⟩, 35) := ⟨⟨by decide +kernel, by decide +kernel⟩, List.mem_of_getElem? (i := 678) (by decide +kernel), List.mem_of_getElem? (i := 1006) (by decide +kernel), List.mem_of_getElem? (i := 1007) (by decide +kernel)⟩
theorem lw_p58 : lw_okq (⟨"ReachFlowModel", "judge", "(I)V"⟩, 35) := ⟨⟨by decide +kernel, by decide +kernel⟩, List.mem_of_getElem? (i := 678) (by decide +kernel), List.mem_of_getElem? (i := 1010) (by decide +kernel), List.mem_of_getElem? (i := 1011) (by decide +kernel)⟩
theorem lw_p59 : lw_okq (⟨"ReachFlowModel", "isShadowed", "(I)Z"⟩, 35) := ⟨⟨by decide +kernel, by decide +kernel⟩, List.mem_of_getElem? (i := 678) (by decide +kernel), List.mem_of_getElem? (i := 1014) (by decide +kernel), List.mem_of_getElem? (i := 1015) (by decide +kernel)⟩
theorem lw_p60 : lw_okq (⟨"ReachFlowModel", "tell", "(IIZ)V"⟩, 35) := ⟨⟨by decide +kernel, by decide +kernel⟩, List.mem_of_getElem? (i := 678) (by decide +kernel), List.mem_of_getElem? (i := 1018) (by decide +kernel), List.mem_of_getElem? (i := 1019) (by decide +kernel)⟩
theorem lw_p61 : lw_okq (⟨"ReachFlowModel", "isNested", "(I)Z"⟩, 35) := ⟨⟨by decide +kernel, by decide +kernel⟩, List.mem_of_getElem? (i := 678) (by decide +kernel), List.mem_of_getElem? (i := 1022) (by decide +kernel), List.mem_of_getElem? (i := 1023) (by decide +kernel)⟩
theorem lw_p62 : lw_okq (⟨"ReachFlowModel", "isAsked", "(I)Z"⟩, 35) := ⟨⟨by decide +kernel, by decide +kernel⟩, List.mem_of_getElem? (i := 678) (by decide +kernel), List.mem_of_getElem? (i := 1042) (by decide +kernel), List.mem_of_getElem? (i := 1043) (by decide +kernel)⟩
def lw_privs_4 : List (MethodName × Nat) := [(⟨"ReachFlowModel", "raises", "(I)V"⟩, 35), (⟨"ReachFlowModel", "branches", "(II)V"⟩, 35), (⟨"ReachFlowModel", "come", "(I)V"⟩, 35), (⟨"ReachFlowModel", "isEnded", "(II)Z"⟩, 35), (⟨"ReachFlowModel", "pass", "(II)V"⟩, 35), (⟨"ReachFlowModel", "turns", "(II)V"⟩, 35), (⟨"ReachFlowModel", "steps", "(I)V"⟩, 35), (⟨"ReachFlowModel", "switches", "(I)V"⟩, 35), (⟨"ReachFlowModel", "tries", "(I)V"⟩, 35), (⟨"ReachFlowModel", "through", "(II)V"⟩, 35), (⟨"ReachFlowModel", "judge", "(I)V"⟩, 35), (⟨"ReachFlowModel", "isShadowed", "(I)Z"⟩, 35), (⟨"ReachFlowModel", "tell", "(IIZ)V"⟩, 35), (⟨"ReachFlowModel", "isNested", "(I)Z"⟩, 35), (⟨"ReachFlowModel", "isAsked", "(I)Z"⟩, 35)]
theorem lw_r4 : ∀ q ∈ lw_privs_4, lw_okq q := List.forall_mem_cons.mpr ⟨lw_p48, List.forall_mem_cons.mpr ⟨lw_p49, List.forall_mem_cons.mpr ⟨lw_p50, List.forall_mem_cons.mpr ⟨lw_p51, List.forall_mem_cons.mpr ⟨lw_p52, List.forall_mem_cons.mpr ⟨lw_p53, List.forall_mem_cons.mpr ⟨lw_p54, List.forall_mem_cons.mpr ⟨lw_p55, List.forall_mem_cons.mpr ⟨lw_p56, List.forall_mem_cons.mpr ⟨lw_p57, List.forall_mem_cons.mpr ⟨lw_p58, List.forall_mem_cons.mpr ⟨lw_p59, List.forall_mem_cons.mpr ⟨lw_p60, List.forall_mem_cons.mpr ⟨lw_p61, List.forall_mem_cons.mpr ⟨lw_p62, fun _ h => absurd h List.not_mem_nil⟩⟩⟩⟩⟩⟩⟩⟩⟩⟩⟩⟩⟩⟩⟩
def lw_privs : List (MethodName × Nat) := lw_privs_1 ++ (lw_privs_2 ++ (lw_privs_3 ++ (lw_privs_4)))
def lw_tbl : List Cond := k2_sels lw_privs ++ tables_1
theorem lw_privs_ok : ∀ q ∈ lw_privs, lw_okq q := by
  show ∀ q ∈ lw_privs_1 ++ (lw_privs_2 ++ (lw_privs_3 ++ (lw_privs_4))), lw_okq q
  exact List.forall_mem_append.mpr ⟨lw_r1, List.forall_mem_append.mpr ⟨lw_r2, List.forall_mem_append.mpr ⟨lw_r3, lw_r4⟩⟩⟩

/-! ===== the table that all methods share: the private methods of the abstract class, by the receivers' classes, ahead of it ===== -/
def tb_ex : List Cond := [Cond.selects "ReachFlow$ByRules" ⟨"ReachFlow$Flow", "settle", "(II)V"⟩ ⟨"ReachFlow$Flow", "settle", "(II)V"⟩,
  Cond.selects "ReachFlow$ByRules" ⟨"ReachFlow$Flow", "wipe", "(I)V"⟩ ⟨"ReachFlow$Flow", "wipe", "(I)V"⟩,
  Cond.selects "ReachFlow$ByRules" ⟨"ReachFlow$Flow", "settleTry", "(I)V"⟩ ⟨"ReachFlow$Flow", "settleTry", "(I)V"⟩,
  Cond.selects "ReachFlow$ByRules" ⟨"ReachFlow$Flow", "comeTo", "(II)V"⟩ ⟨"ReachFlow$Flow", "comeTo", "(II)V"⟩,
  Cond.selects "ReachFlow$ByRules" ⟨"ReachFlow$Flow", "somePartGoesOn", "(I)Z"⟩ ⟨"ReachFlow$Flow", "somePartGoesOn", "(I)Z"⟩,
  Cond.selects "ReachFlow$ByRules" ⟨"ReachFlow$Flow", "settleWhole", "(I)V"⟩ ⟨"ReachFlow$Flow", "settleWhole", "(I)V"⟩,
  Cond.selects "ReachFlow$ByRules" ⟨"ReachFlow$Flow", "opensPart", "(IIIZ)Z"⟩ ⟨"ReachFlow$Flow", "opensPart", "(IIIZ)Z"⟩,
  Cond.selects "ReachFlow$ByRules" ⟨"ReachFlow$Flow", "goesPast", "(IZ)Z"⟩ ⟨"ReachFlow$Flow", "goesPast", "(IZ)Z"⟩,
  Cond.selects "ReachFlow$ByWalks" ⟨"ReachFlow$Flow", "settle", "(II)V"⟩ ⟨"ReachFlow$Flow", "settle", "(II)V"⟩,
  Cond.selects "ReachFlow$ByWalks" ⟨"ReachFlow$Flow", "wipe", "(I)V"⟩ ⟨"ReachFlow$Flow", "wipe", "(I)V"⟩,
  Cond.selects "ReachFlow$ByWalks" ⟨"ReachFlow$Flow", "settleTry", "(I)V"⟩ ⟨"ReachFlow$Flow", "settleTry", "(I)V"⟩,
  Cond.selects "ReachFlow$ByWalks" ⟨"ReachFlow$Flow", "comeTo", "(II)V"⟩ ⟨"ReachFlow$Flow", "comeTo", "(II)V"⟩,
  Cond.selects "ReachFlow$ByWalks" ⟨"ReachFlow$Flow", "somePartGoesOn", "(I)Z"⟩ ⟨"ReachFlow$Flow", "somePartGoesOn", "(I)Z"⟩,
  Cond.selects "ReachFlow$ByWalks" ⟨"ReachFlow$Flow", "settleWhole", "(I)V"⟩ ⟨"ReachFlow$Flow", "settleWhole", "(I)V"⟩,
  Cond.selects "ReachFlow$ByWalks" ⟨"ReachFlow$Flow", "opensPart", "(IIIZ)Z"⟩ ⟨"ReachFlow$Flow", "opensPart", "(IIIZ)Z"⟩,
  Cond.selects "ReachFlow$ByWalks" ⟨"ReachFlow$Flow", "goesPast", "(IZ)Z"⟩ ⟨"ReachFlow$Flow", "goesPast", "(IZ)Z"⟩]
def tb0 : List Cond := tb_ex ++ lw_tbl
def tb : List Cond := tb0.filter goodWord
theorem tb_l : ∀ w ∈ lw_tbl, goodWord w = true → w ∈ tb := fun w h g => List.mem_filter.mpr ⟨List.mem_append_right _ h, g⟩
theorem tb_x : ∀ w ∈ tb_ex, goodWord w = true → w ∈ tb := fun w h g => List.mem_filter.mpr ⟨List.mem_append_left _ h, g⟩
theorem tb_p : ∀ w ∈ k2_sels lw_privs, goodWord w = true → w ∈ tb := fun w h g => tb_l w (List.mem_append_left _ h) g
theorem tb_t : ∀ w ∈ tables_1, goodWord w = true → w ∈ tb := fun w h g => tb_l w (List.mem_append_right _ h) g
theorem tb_t1 : ∀ w ∈ tables_1_1, goodWord w = true → w ∈ tb := fun w h g => tb_t w (List.mem_append_left _ h) g
theorem tb_t2 : ∀ w ∈ tables_1_2, goodWord w = true → w ∈ tb := fun w h g => tb_t w (List.mem_append_right _ (List.mem_append_left _ h)) g
theorem tb_t3 : ∀ w ∈ tables_1_3, goodWord w = true → w ∈ tb := fun w h g => tb_t w (List.mem_append_right _ (List.mem_append_right _ (List.mem_append_left _ h))) g
theorem tb_t4 : ∀ w ∈ tables_1_4, goodWord w = true → w ∈ tb := fun w h g => tb_t w (List.mem_append_right _ (List.mem_append_right _ (List.mem_append_right _ (List.mem_append_left _ h)))) g
theorem tb_t5 : ∀ w ∈ tables_1_5, goodWord w = true → w ∈ tb := fun w h g => tb_t w (List.mem_append_right _ (List.mem_append_right _ (List.mem_append_right _ (List.mem_append_right _ h)))) g
/-- the words of nest mates and abstract methods -/
def tb_n : List Cond := [Cond.methodLinkNest "ReachFlow$Kinds" (29 : Nat) ⟨"ReachFlow", "isIn", "(JI)Z"⟩ "ReachFlow",
  Cond.methodLinkNest "ReachFlow" (14 : Nat) ⟨"ReachFlow$Tree", "<init>", "()V"⟩ "ReachFlow",
  Cond.methodLinkNest "ReachFlow" (25 : Nat) ⟨"ReachFlow$Row", "<init>", "()V"⟩ "ReachFlow",
  Cond.methodLinkNest "ReachFlow$Tree" (61 : Nat) ⟨"ReachFlow", "isIn", "(JI)Z"⟩ "ReachFlow",
  Cond.methodLinkNest "ReachFlow$Look" (129 : Nat) ⟨"ReachFlow", "isLoop", "(I)Z"⟩ "ReachFlow",
  Cond.declares ⟨"ReachFlow$Flow", "thrownAs", "(I)I"⟩,
  Cond.methodLinkNest "ReachFlow$Flow" (55 : Nat) ⟨"ReachFlow", "isIn", "(JI)Z"⟩ "ReachFlow",
  Cond.declares ⟨"ReachFlow$Flow", "opensCatch", "(III)Z"⟩,
  Cond.methodLinkNest "ReachFlow$ByRules" (24 : Nat) ⟨"ReachFlow", "isIn", "(JI)Z"⟩ "ReachFlow",
  Cond.declares ⟨"ReachFlow$Flow", "opensEnding", "(I)Z"⟩,
  Cond.declares ⟨"ReachFlow$Flow", "endsSomehow", "(I)Z"⟩,
  Cond.declares ⟨"ReachFlow$Flow", "testOfIf", "(I)I"⟩,
  Cond.methodLinkNest "ReachFlow$Look" (163 : Nat) ⟨"ReachFlow", "isIn", "(JI)Z"⟩ "ReachFlow"]
def NW (U : State) : Prop := ∀ w ∈ tb_n, va_Nw w U
theorem nw32 : Cond.methodLinkNest "ReachFlow$Kinds" (29 : Nat) ⟨"ReachFlow", "isIn", "(JI)Z"⟩ "ReachFlow" ∈ tb_n := List.mem_of_getElem? (i := 0) rfl
theorem nw54 : Cond.methodLinkNest "ReachFlow" (14 : Nat) ⟨"ReachFlow$Tree", "<init>", "()V"⟩ "ReachFlow" ∈ tb_n := List.mem_of_getElem? (i := 1) rfl
theorem nw123 : Cond.methodLinkNest "ReachFlow" (25 : Nat) ⟨"ReachFlow$Row", "<init>", "()V"⟩ "ReachFlow" ∈ tb_n := List.mem_of_getElem? (i := 2) rfl
theorem nw331 : Cond.methodLinkNest "ReachFlow$Tree" (61 : Nat) ⟨"ReachFlow", "isIn", "(JI)Z"⟩ "ReachFlow" ∈ tb_n := List.mem_of_getElem? (i := 3) rfl
theorem nw467 : Cond.methodLinkNest "ReachFlow$Look" (129 : Nat) ⟨"ReachFlow", "isLoop", "(I)Z"⟩ "ReachFlow" ∈ tb_n := List.mem_of_getElem? (i := 4) rfl
theorem nw490 : Cond.declares ⟨"ReachFlow$Flow", "thrownAs", "(I)I"⟩ ∈ tb_n := List.mem_of_getElem? (i := 5) rfl
theorem nw507 : Cond.methodLinkNest "ReachFlow$Flow" (55 : Nat) ⟨"ReachFlow", "isIn", "(JI)Z"⟩ "ReachFlow" ∈ tb_n := List.mem_of_getElem? (i := 6) rfl
theorem nw513 : Cond.declares ⟨"ReachFlow$Flow", "opensCatch", "(III)Z"⟩ ∈ tb_n := List.mem_of_getElem? (i := 7) rfl
theorem nw518 : Cond.methodLinkNest "ReachFlow$ByRules" (24 : Nat) ⟨"ReachFlow", "isIn", "(JI)Z"⟩ "ReachFlow" ∈ tb_n := List.mem_of_getElem? (i := 8) rfl
theorem nw531 : Cond.declares ⟨"ReachFlow$Flow", "opensEnding", "(I)Z"⟩ ∈ tb_n := List.mem_of_getElem? (i := 9) rfl
theorem nw541 : Cond.declares ⟨"ReachFlow$Flow", "endsSomehow", "(I)Z"⟩ ∈ tb_n := List.mem_of_getElem? (i := 10) rfl
theorem nw560 : Cond.declares ⟨"ReachFlow$Flow", "testOfIf", "(I)I"⟩ ∈ tb_n := List.mem_of_getElem? (i := 11) rfl
theorem nw611 : Cond.methodLinkNest "ReachFlow$Look" (163 : Nat) ⟨"ReachFlow", "isIn", "(JI)Z"⟩ "ReachFlow" ∈ tb_n := List.mem_of_getElem? (i := 12) rfl
theorem NW_warm {s U : State} (hW : s.WarmedH U.vm) (h : NW s) : NW U := by
  intro w hw
  have h1 := h w hw
  simp only [tb_n, List.mem_cons, List.not_mem_nil, or_false] at hw
  rcases hw with rfl | rfl | rfl | rfl | rfl | rfl | rfl | rfl | rfl | rfl | rfl | rfl | rfl
  · exact va_Nw.warmM hW h1
  · exact va_Nw.warmM hW h1
  · exact va_Nw.warmM hW h1
  · exact va_Nw.warmM hW h1
  · exact va_Nw.warmM hW h1
  · exact va_Nw.warmD hW h1
  · exact va_Nw.warmM hW h1
  · exact va_Nw.warmD hW h1
  · exact va_Nw.warmM hW h1
  · exact va_Nw.warmD hW h1
  · exact va_Nw.warmD hW h1
  · exact va_Nw.warmD hW h1
  · exact va_Nw.warmM hW h1
theorem NW_on : ∀ w ∈ tb_n, w.onTables = true := by decide +kernel
theorem NW_same {u U : State} (h : u.vm = U.vm) (hN : NW u) : NW U := fun w hw => va_Nw.same (NW_on w hw) h (hN w hw)
theorem tb_good : ∀ w ∈ tb, (w.onTables && w.keeps) = true ∨ ∃ ty, w = .arrayClass ty := fun w hw => good_of_word (List.mem_filter.mp hw).2
theorem tb_in {ws : List Cond} (h : ∀ w ∈ ws, w ∈ tb) : GoodIn tb ws := fun w hw => ⟨h w hw, tb_good w (h w hw)⟩
theorem sel_priv {C : String} {y z : MethodName} {n : Nat} {args : Array Value} {s : State} (hyz : z.cls = y.cls) (hy : y.cls ≠ "java/lang/invoke/MethodHandle" ∧ y.cls ≠ "java/lang/invoke/VarHandle")
    (hins : (Cond.instantiable C n).before args s = true) (hz : (Cond.selects C z z).before args s = true) (hzi : (Cond.instanceMethod z).before args s = true) (hpriv : (Cond.privateMethod y).before args s = true) (hinst : (Cond.instanceMethod y).before args s = true) :
    (Cond.selects C y y).before args s = true := by
  obtain ⟨c, k, hc, hk, -, -, -, -⟩ := Cond.instantiable_spec hins
  obtain ⟨mk, methM, hnamed, hmethM, -, -⟩ := Cond.instanceMethod_spec hinst
  obtain ⟨mz, methZ, hnamedz, hmethZ, -, -⟩ := Cond.instanceMethod_spec hzi
  have hfound : s.methodFound? y.cls y.name y.desc = some mk := State.methodFound?_of_named hnamed hy
  have hfoundz : s.methodFound? z.cls z.name z.desc = some mz := State.methodFound?_of_named hnamedz (by rw [hyz]; exact hy)
  have hcz := findClass_of_methodNamed hnamedz
  rw [hyz] at hcz
  have hcls : mk.cls = mz.cls := Option.some.inj ((findClass_of_methodNamed hnamed).symm.trans hcz)
  have hsel : selectMethod {} s.vm c mk = .method mk := selectMethod_private hmethM (Cond.privateMethod_at hpriv mk methM hnamed hmethM)
  have hni : (s.vm.classes[mz.cls]?).any (fun x => !x.isInterface) = true := by
    simp only [Cond.before, Cond.holds, Cond.value, hc, hfoundz, hnamedz] at hz
    revert hz
    cases selectMethod {} s.vm c mz <;> simp
  simp only [Cond.before, Cond.holds, Cond.value, hc, hfound, hnamed, hsel, hcls]
  simp
  simpa using hni
