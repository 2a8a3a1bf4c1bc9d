theorem gd_0 {y : MethodName} {b : ByteArray} {n : Nat} {r : Option FieldType} (h5 : Cond.code y b n r ∈ tb) : GoodIn tb (wz y b n r) := tb_in (fun w hw => (List.mem_cons.mp hw).elim (fun e => e ▸ h5) (fun h => h))
theorem gd_V {own C : String} {idx : Nat} {y : MethodName} {b : ByteArray} {n : Nat} {r : Option FieldType} (h1 : Cond.methodLink own idx y ∈ tb) (h2 : Cond.instanceMethod y ∈ tb) (h3 : Cond.selects C y y ∈ tb) (h4 : Cond.initialized C ∈ tb) (h5 : Cond.code y b n r ∈ tb) : GoodIn tb (wsV own idx C y (wz y b n r)) := by
  refine tb_in (fun w hw => ?_)
  simp only [wsV, wz, List.cons_append, List.nil_append, List.mem_cons] at hw
  rcases hw with rfl | rfl | rfl | rfl | rfl | hw
  · exact h1
  · exact h2
  · exact h3
  · exact h4
  · exact h5
  · exact hw
theorem gd_S {own : String} {idx : Nat} {y : MethodName} {b : ByteArray} {n : Nat} {r : Option FieldType} (h1 : Cond.methodLink own idx y ∈ tb) (h2 : Cond.static y ∈ tb) (h4 : Cond.initialized y.cls ∈ tb) (h5 : Cond.code y b n r ∈ tb) : GoodIn tb (va_wsS own idx y (wz y b n r)) := by
  refine tb_in (fun w hw => ?_)
  simp only [va_wsS, wz, List.cons_append, List.nil_append, List.mem_cons] at hw
  rcases hw with rfl | rfl | rfl | rfl | hw
  · exact h1
  · exact h2
  · exact h4
  · exact h5
  · exact hw
theorem gd_U {own C owner : String} {idx : Nat} {x y : MethodName} {b : ByteArray} {n : Nat} {r : Option FieldType} (h1 : Cond.methodLink own idx x ∈ tb) (h2 : Cond.sameMethod x.cls owner x.name x.desc ∈ tb) (h3 : Cond.selects C x y ∈ tb) (h6 : Cond.instanceMethod y ∈ tb) (h4 : Cond.initialized y.cls ∈ tb) (h5 : Cond.code y b n r ∈ tb) : GoodIn tb (va_wsU own idx C owner x y (wz y b n r)) := by
  refine tb_in (fun w hw => ?_)
  simp only [va_wsU, wz, List.cons_append, List.nil_append, List.mem_cons] at hw
  rcases hw with rfl | rfl | rfl | rfl | rfl | rfl | hw
  · exact h1
  · exact h2
  · exact h3
  · exact h6
  · exact h4
  · exact h5
  · exact hw
theorem tw1 : Cond.initialized "ReachFlow" ∈ tb := tb_t1 _ (List.mem_of_getElem? (i := 1) (by decide +kernel)) rfl
theorem tw2 : Cond.initialized "ReachFlow$Kinds" ∈ tb := tb_t1 _ (List.mem_of_getElem? (i := 2) (by decide +kernel)) rfl
theorem tw3 : Cond.initialized "ReachFlow$Tree" ∈ tb := tb_t1 _ (List.mem_of_getElem? (i := 3) (by decide +kernel)) rfl
theorem tw4 : Cond.initialized "ReachFlow$Row" ∈ tb := tb_t1 _ (List.mem_of_getElem? (i := 4) (by decide +kernel)) rfl
theorem tw5 : Cond.initialized "ReachFlow$Look" ∈ tb := tb_t1 _ (List.mem_of_getElem? (i := 5) (by decide +kernel)) rfl
theorem tw6 : Cond.initialized "ReachFlow$Flow" ∈ tb := tb_t1 _ (List.mem_of_getElem? (i := 6) (by decide +kernel)) rfl
theorem tw7 : Cond.initialized "ReachFlow$ByRules" ∈ tb := tb_t1 _ (List.mem_of_getElem? (i := 7) (by decide +kernel)) rfl
theorem tw8 : Cond.initialized "ReachFlow$ByWalks" ∈ tb := tb_t1 _ (List.mem_of_getElem? (i := 8) (by decide +kernel)) rfl
theorem tw9 : Cond.initialized "ReachFlowModel" ∈ tb := tb_t1 _ (List.mem_of_getElem? (i := 9) (by decide +kernel)) rfl
theorem tw25 : Cond.instanceMethod y_Kn_startAgain ∈ tb := tb_t1 _ (List.mem_of_getElem? (i := 25) (by decide +kernel)) rfl
theorem tw26 : Cond.selects "ReachFlow$Kinds" y_Kn_startAgain y_Kn_startAgain ∈ tb := tb_t1 _ (List.mem_of_getElem? (i := 26) (by decide +kernel)) rfl
theorem tw27 : Cond.code y_Kn_startAgain prog_5_method_2_code (1 : Nat) (Option.none : Option Jvm.ClassFile.FieldType) ∈ tb := tb_t1 _ (List.mem_of_getElem? (i := 27) rfl) rfl
theorem tw28 : Cond.methodLink "ReachFlow$Kinds" (25 : Nat) y_Kn_addBelow ∈ tb := tb_t1 _ (List.mem_of_getElem? (i := 28) (by decide +kernel)) rfl
theorem tw29 : Cond.instanceMethod y_Kn_addBelow ∈ tb := tb_t1 _ (List.mem_of_getElem? (i := 29) (by decide +kernel)) rfl
theorem tw30 : Cond.selects "ReachFlow$Kinds" y_Kn_addBelow y_Kn_addBelow ∈ tb := tb_t1 _ (List.mem_of_getElem? (i := 30) (by decide +kernel)) rfl
theorem tw31 : Cond.code y_Kn_addBelow prog_5_method_4_code (4 : Nat) (Option.some Jvm.ClassFile.FieldType.int) ∈ tb := tb_t1 _ (List.mem_of_getElem? (i := 31) rfl) rfl
theorem tw33 : Cond.static y_Rf_isIn ∈ tb := tb_t1 _ (List.mem_of_getElem? (i := 33) (by decide +kernel)) rfl
theorem tw34 : Cond.code y_Rf_isIn prog_1_method_33_code (3 : Nat) (Option.some Jvm.ClassFile.FieldType.boolean) ∈ tb := tb_t1 _ (List.mem_of_getElem? (i := 34) rfl) rfl
theorem tw35 : Cond.fieldLink "ReachFlow$Kinds" (21 : Nat) "ReachFlow$Kinds" "count" "I" ∈ tb := tb_t1 _ (List.mem_of_getElem? (i := 35) (by decide +kernel)) rfl
theorem tw36 : Cond.fieldLink "ReachFlow" (55 : Nat) "ReachFlow$Kinds" "count" "I" ∈ tb := tb_t1 _ (List.mem_of_getElem? (i := 36) (by decide +kernel)) rfl
theorem tw37 : Cond.fieldLink "ReachFlow$Kinds" (9 : Nat) "ReachFlow$Kinds" "below" "[I" ∈ tb := tb_t1 _ (List.mem_of_getElem? (i := 37) (by decide +kernel)) rfl
theorem tw38 : Cond.fieldLink "ReachFlow$ByWalks" (13 : Nat) "ReachFlow$Kinds" "below" "[I" ∈ tb := tb_t1 _ (List.mem_of_getElem? (i := 38) (by decide +kernel)) rfl
theorem tw39 : Cond.fieldLink "ReachFlow$ByRules" (15 : Nat) "ReachFlow$Kinds" "below" "[I" ∈ tb := tb_t1 _ (List.mem_of_getElem? (i := 39) (by decide +kernel)) rfl
theorem tw40 : Cond.fieldLink "ReachFlow$Flow" (131 : Nat) "ReachFlow$Kinds" "below" "[I" ∈ tb := tb_t1 _ (List.mem_of_getElem? (i := 40) (by decide +kernel)) rfl
theorem tw41 : Cond.fieldLink "ReachFlow$Kinds" (15 : Nat) "ReachFlow$Kinds" "over" "[I" ∈ tb := tb_t1 _ (List.mem_of_getElem? (i := 41) (by decide +kernel)) rfl
theorem tw42 : Cond.fieldLink "ReachFlow$ByRules" (21 : Nat) "ReachFlow$Kinds" "over" "[I" ∈ tb := tb_t1 _ (List.mem_of_getElem? (i := 42) (by decide +kernel)) rfl
theorem tw43 : Cond.fieldLink "ReachFlow$Look" (152 : Nat) "ReachFlow$Kinds" "over" "[I" ∈ tb := tb_t1 _ (List.mem_of_getElem? (i := 43) (by decide +kernel)) rfl
theorem tw44 : Cond.lays "ReachFlow$Kinds" "ReachFlow$Kinds" "count" "I" ∈ tb := tb_t1 _ (List.mem_of_getElem? (i := 44) (by decide +kernel)) rfl
theorem tw46 : Cond.laysFinal "ReachFlow$Kinds" "ReachFlow$Kinds" "below" "[I" ∈ tb := tb_t1 _ (List.mem_of_getElem? (i := 46) (by decide +kernel)) rfl
theorem tw48 : Cond.laysFinal "ReachFlow$Kinds" "ReachFlow$Kinds" "over" "[I" ∈ tb := tb_t1 _ (List.mem_of_getElem? (i := 48) (by decide +kernel)) rfl
theorem tw58 : Cond.fieldLink "ReachFlow$Tree" (43 : Nat) "ReachFlow$Tree" "size" "I" ∈ tb := tb_t1 _ (List.mem_of_getElem? (i := 58) (by decide +kernel)) rfl
theorem tw59 : Cond.fieldLink "ReachFlow" (39 : Nat) "ReachFlow$Tree" "size" "I" ∈ tb := tb_t1 _ (List.mem_of_getElem? (i := 59) (by decide +kernel)) rfl
theorem tw60 : Cond.fieldLink "ReachFlow$Tree" (47 : Nat) "ReachFlow$Tree" "kidCount" "I" ∈ tb := tb_t1 _ (List.mem_of_getElem? (i := 60) (by decide +kernel)) rfl
theorem tw61 : Cond.fieldLink "ReachFlow$Tree" (50 : Nat) "ReachFlow$Tree" "taken" "J" ∈ tb := tb_t1 _ (List.mem_of_getElem? (i := 61) (by decide +kernel)) rfl
theorem tw62 : Cond.fieldLink "ReachFlow$Tree" (54 : Nat) "ReachFlow$Tree" "defaults" "J" ∈ tb := tb_t1 _ (List.mem_of_getElem? (i := 62) (by decide +kernel)) rfl
theorem tw63 : Cond.fieldLink "ReachFlow$Tree" (9 : Nat) "ReachFlow$Tree" "sort" "[I" ∈ tb := tb_t1 _ (List.mem_of_getElem? (i := 63) (by decide +kernel)) rfl
theorem tw64 : Cond.fieldLink "ReachFlow$Look" (110 : Nat) "ReachFlow$Tree" "sort" "[I" ∈ tb := tb_t1 _ (List.mem_of_getElem? (i := 64) (by decide +kernel)) rfl
theorem tw65 : Cond.fieldLink "ReachFlow$Flow" (63 : Nat) "ReachFlow$Tree" "sort" "[I" ∈ tb := tb_t1 _ (List.mem_of_getElem? (i := 65) (by decide +kernel)) rfl
theorem tw66 : Cond.fieldLink "ReachFlow" (113 : Nat) "ReachFlow$Tree" "sort" "[I" ∈ tb := tb_t1 _ (List.mem_of_getElem? (i := 66) (by decide +kernel)) rfl
theorem tw67 : Cond.fieldLink "ReachFlow$Tree" (15 : Nat) "ReachFlow$Tree" "value" "[I" ∈ tb := tb_t1 _ (List.mem_of_getElem? (i := 67) (by decide +kernel)) rfl
theorem tw68 : Cond.fieldLink "ReachFlow$ByWalks" (23 : Nat) "ReachFlow$Tree" "value" "[I" ∈ tb := tb_t1 _ (List.mem_of_getElem? (i := 68) (by decide +kernel)) rfl
theorem tw69 : Cond.fieldLink "ReachFlow$Look" (113 : Nat) "ReachFlow$Tree" "value" "[I" ∈ tb := tb_t1 _ (List.mem_of_getElem? (i := 69) (by decide +kernel)) rfl
theorem tw70 : Cond.fieldLink "ReachFlow$Flow" (66 : Nat) "ReachFlow$Tree" "value" "[I" ∈ tb := tb_t1 _ (List.mem_of_getElem? (i := 70) (by decide +kernel)) rfl
theorem tw71 : Cond.fieldLink "ReachFlow" (137 : Nat) "ReachFlow$Tree" "value" "[I" ∈ tb := tb_t1 _ (List.mem_of_getElem? (i := 71) (by decide +kernel)) rfl
theorem tw72 : Cond.fieldLink "ReachFlow$Tree" (18 : Nat) "ReachFlow$Tree" "mark" "[I" ∈ tb := tb_t1 _ (List.mem_of_getElem? (i := 72) (by decide +kernel)) rfl
theorem tw73 : Cond.fieldLink "ReachFlow$Flow" (109 : Nat) "ReachFlow$Tree" "mark" "[I" ∈ tb := tb_t1 _ (List.mem_of_getElem? (i := 73) (by decide +kernel)) rfl
theorem tw74 : Cond.fieldLink "ReachFlow$Look" (157 : Nat) "ReachFlow$Tree" "mark" "[I" ∈ tb := tb_t1 _ (List.mem_of_getElem? (i := 74) (by decide +kernel)) rfl
theorem tw75 : Cond.fieldLink "ReachFlow" (145 : Nat) "ReachFlow$Tree" "mark" "[I" ∈ tb := tb_t1 _ (List.mem_of_getElem? (i := 75) (by decide +kernel)) rfl
theorem tw76 : Cond.fieldLink "ReachFlow$Tree" (21 : Nat) "ReachFlow$Tree" "parent" "[I" ∈ tb := tb_t1 _ (List.mem_of_getElem? (i := 76) (by decide +kernel)) rfl
theorem tw77 : Cond.fieldLink "ReachFlow$Flow" (50 : Nat) "ReachFlow$Tree" "parent" "[I" ∈ tb := tb_t1 _ (List.mem_of_getElem? (i := 77) (by decide +kernel)) rfl
theorem tw78 : Cond.fieldLink "ReachFlow$Look" (122 : Nat) "ReachFlow$Tree" "parent" "[I" ∈ tb := tb_t1 _ (List.mem_of_getElem? (i := 78) (by decide +kernel)) rfl
theorem tw79 : Cond.fieldLink "ReachFlow" (142 : Nat) "ReachFlow$Tree" "parent" "[I" ∈ tb := tb_t1 _ (List.mem_of_getElem? (i := 79) (by decide +kernel)) rfl
theorem tw80 : Cond.fieldLink "ReachFlow$Tree" (24 : Nat) "ReachFlow$Tree" "count" "[I" ∈ tb := tb_t1 _ (List.mem_of_getElem? (i := 80) (by decide +kernel)) rfl
theorem tw81 : Cond.fieldLink "ReachFlow$Look" (93 : Nat) "ReachFlow$Tree" "count" "[I" ∈ tb := tb_t1 _ (List.mem_of_getElem? (i := 81) (by decide +kernel)) rfl
theorem tw82 : Cond.fieldLink "ReachFlow$Flow" (81 : Nat) "ReachFlow$Tree" "count" "[I" ∈ tb := tb_t1 _ (List.mem_of_getElem? (i := 82) (by decide +kernel)) rfl
theorem tw83 : Cond.fieldLink "ReachFlow" (140 : Nat) "ReachFlow$Tree" "count" "[I" ∈ tb := tb_t1 _ (List.mem_of_getElem? (i := 83) (by decide +kernel)) rfl
theorem tw84 : Cond.fieldLink "ReachFlow$Tree" (27 : Nat) "ReachFlow$Tree" "tail" "[I" ∈ tb := tb_t1 _ (List.mem_of_getElem? (i := 84) (by decide +kernel)) rfl
theorem tw85 : Cond.fieldLink "ReachFlow$Flow" (118 : Nat) "ReachFlow$Tree" "tail" "[I" ∈ tb := tb_t1 _ (List.mem_of_getElem? (i := 85) (by decide +kernel)) rfl
theorem tw86 : Cond.fieldLink "ReachFlow$Tree" (30 : Nat) "ReachFlow$Tree" "partBits" "[J" ∈ tb := tb_t1 _ (List.mem_of_getElem? (i := 86) (by decide +kernel)) rfl
theorem tw87 : Cond.fieldLink "ReachFlow$Flow" (121 : Nat) "ReachFlow$Tree" "partBits" "[J" ∈ tb := tb_t1 _ (List.mem_of_getElem? (i := 87) (by decide +kernel)) rfl
theorem tw88 : Cond.fieldLink "ReachFlow$Tree" (34 : Nat) "ReachFlow$Tree" "kids" "[I" ∈ tb := tb_t1 _ (List.mem_of_getElem? (i := 88) (by decide +kernel)) rfl
theorem tw89 : Cond.fieldLink "ReachFlow$Tree" (37 : Nat) "ReachFlow$Tree" "first" "[I" ∈ tb := tb_t1 _ (List.mem_of_getElem? (i := 89) (by decide +kernel)) rfl
theorem tw90 : Cond.fieldLink "ReachFlow$Tree" (40 : Nat) "ReachFlow$Tree" "spot" "[I" ∈ tb := tb_t1 _ (List.mem_of_getElem? (i := 90) (by decide +kernel)) rfl
theorem tw91 : Cond.lays "ReachFlow$Tree" "ReachFlow$Tree" "size" "I" ∈ tb := tb_t1 _ (List.mem_of_getElem? (i := 91) (by decide +kernel)) rfl
theorem tw93 : Cond.lays "ReachFlow$Tree" "ReachFlow$Tree" "kidCount" "I" ∈ tb := tb_t1 _ (List.mem_of_getElem? (i := 93) (by decide +kernel)) rfl
theorem tw95 : Cond.lays "ReachFlow$Tree" "ReachFlow$Tree" "taken" "J" ∈ tb := tb_t1 _ (List.mem_of_getElem? (i := 95) (by decide +kernel)) rfl
theorem tw97 : Cond.lays "ReachFlow$Tree" "ReachFlow$Tree" "defaults" "J" ∈ tb := tb_t1 _ (List.mem_of_getElem? (i := 97) (by decide +kernel)) rfl
theorem tw99 : Cond.laysFinal "ReachFlow$Tree" "ReachFlow$Tree" "sort" "[I" ∈ tb := tb_t1 _ (List.mem_of_getElem? (i := 99) (by decide +kernel)) rfl
theorem tw101 : Cond.laysFinal "ReachFlow$Tree" "ReachFlow$Tree" "value" "[I" ∈ tb := tb_t1 _ (List.mem_of_getElem? (i := 101) (by decide +kernel)) rfl
theorem tw103 : Cond.laysFinal "ReachFlow$Tree" "ReachFlow$Tree" "mark" "[I" ∈ tb := tb_t1 _ (List.mem_of_getElem? (i := 103) (by decide +kernel)) rfl
theorem tw105 : Cond.laysFinal "ReachFlow$Tree" "ReachFlow$Tree" "parent" "[I" ∈ tb := tb_t1 _ (List.mem_of_getElem? (i := 105) (by decide +kernel)) rfl
theorem tw107 : Cond.laysFinal "ReachFlow$Tree" "ReachFlow$Tree" "count" "[I" ∈ tb := tb_t1 _ (List.mem_of_getElem? (i := 107) (by decide +kernel)) rfl
theorem tw109 : Cond.laysFinal "ReachFlow$Tree" "ReachFlow$Tree" "tail" "[I" ∈ tb := tb_t1 _ (List.mem_of_getElem? (i := 109) (by decide +kernel)) rfl
theorem tw111 : Cond.laysFinal "ReachFlow$Tree" "ReachFlow$Tree" "partBits" "[J" ∈ tb := tb_t1 _ (List.mem_of_getElem? (i := 111) (by decide +kernel)) rfl
theorem tw113 : Cond.laysFinal "ReachFlow$Tree" "ReachFlow$Tree" "kids" "[I" ∈ tb := tb_t1 _ (List.mem_of_getElem? (i := 113) (by decide +kernel)) rfl
theorem tw115 : Cond.laysFinal "ReachFlow$Tree" "ReachFlow$Tree" "first" "[I" ∈ tb := tb_t1 _ (List.mem_of_getElem? (i := 115) (by decide +kernel)) rfl
theorem tw117 : Cond.laysFinal "ReachFlow$Tree" "ReachFlow$Tree" "spot" "[I" ∈ tb := tb_t1 _ (List.mem_of_getElem? (i := 117) (by decide +kernel)) rfl
theorem tw127 : Cond.fieldLink "ReachFlow$Row" (9 : Nat) "ReachFlow$Row" "sort" "I" ∈ tb := tb_t1 _ (List.mem_of_getElem? (i := 127) (by decide +kernel)) rfl
theorem tw128 : Cond.fieldLink "ReachFlow" (101 : Nat) "ReachFlow$Row" "sort" "I" ∈ tb := tb_t1 _ (List.mem_of_getElem? (i := 128) (by decide +kernel)) rfl
theorem tw129 : Cond.fieldLink "ReachFlow$Row" (19 : Nat) "ReachFlow$Row" "size" "I" ∈ tb := tb_t1 _ (List.mem_of_getElem? (i := 129) (by decide +kernel)) rfl
theorem tw130 : Cond.fieldLink "ReachFlow" (109 : Nat) "ReachFlow$Row" "size" "I" ∈ tb := tb_t1 _ (List.mem_of_getElem? (i := 130) (by decide +kernel)) rfl
theorem tw131 : Cond.fieldLink "ReachFlow$Row" (22 : Nat) "ReachFlow$Row" "hasDefault" "Z" ∈ tb := tb_t1 _ (List.mem_of_getElem? (i := 131) (by decide +kernel)) rfl
theorem tw132 : Cond.fieldLink "ReachFlow" (125 : Nat) "ReachFlow$Row" "hasDefault" "Z" ∈ tb := tb_t1 _ (List.mem_of_getElem? (i := 132) (by decide +kernel)) rfl
theorem tw133 : Cond.fieldLink "ReachFlow$Row" (15 : Nat) "ReachFlow$Row" "parts" "[I" ∈ tb := tb_t1 _ (List.mem_of_getElem? (i := 133) (by decide +kernel)) rfl
theorem tw134 : Cond.fieldLink "ReachFlow" (122 : Nat) "ReachFlow$Row" "parts" "[I" ∈ tb := tb_t1 _ (List.mem_of_getElem? (i := 134) (by decide +kernel)) rfl
theorem tw135 : Cond.lays "ReachFlow$Row" "ReachFlow$Row" "sort" "I" ∈ tb := tb_t1 _ (List.mem_of_getElem? (i := 135) (by decide +kernel)) rfl
theorem tw137 : Cond.lays "ReachFlow$Row" "ReachFlow$Row" "size" "I" ∈ tb := tb_t1 _ (List.mem_of_getElem? (i := 137) (by decide +kernel)) rfl
theorem tw139 : Cond.lays "ReachFlow$Row" "ReachFlow$Row" "hasDefault" "Z" ∈ tb := tb_t1 _ (List.mem_of_getElem? (i := 139) (by decide +kernel)) rfl
theorem tw141 : Cond.laysFinal "ReachFlow$Row" "ReachFlow$Row" "parts" "[I" ∈ tb := tb_t1 _ (List.mem_of_getElem? (i := 141) (by decide +kernel)) rfl
theorem tw159 : Cond.fieldLink "ReachFlow$Flow" (22 : Nat) "ReachFlow$Flow" "tree" "LReachFlow$Tree;" ∈ tb := tb_t1 _ (List.mem_of_getElem? (i := 159) (by decide +kernel)) rfl
theorem tw160 : Cond.fieldLink "ReachFlow$ByWalks" (19 : Nat) "ReachFlow$ByWalks" "tree" "LReachFlow$Tree;" ∈ tb := tb_t1 _ (List.mem_of_getElem? (i := 160) (by decide +kernel)) rfl
theorem tw161 : Cond.sameField "ReachFlow$ByWalks" "ReachFlow$Flow" "tree" "LReachFlow$Tree;" ∈ tb := tb_t1 _ (List.mem_of_getElem? (i := 161) (by decide +kernel)) rfl
theorem tw162 : Cond.fieldLink "ReachFlow$Flow" (26 : Nat) "ReachFlow$Flow" "kinds" "LReachFlow$Kinds;" ∈ tb := tb_t1 _ (List.mem_of_getElem? (i := 162) (by decide +kernel)) rfl
theorem tw163 : Cond.fieldLink "ReachFlow$ByWalks" (7 : Nat) "ReachFlow$ByWalks" "kinds" "LReachFlow$Kinds;" ∈ tb := tb_t1 _ (List.mem_of_getElem? (i := 163) (by decide +kernel)) rfl
theorem tw164 : Cond.sameField "ReachFlow$ByWalks" "ReachFlow$Flow" "kinds" "LReachFlow$Kinds;" ∈ tb := tb_t1 _ (List.mem_of_getElem? (i := 164) (by decide +kernel)) rfl
theorem tw165 : Cond.fieldLink "ReachFlow$ByRules" (9 : Nat) "ReachFlow$ByRules" "kinds" "LReachFlow$Kinds;" ∈ tb := tb_t1 _ (List.mem_of_getElem? (i := 165) (by decide +kernel)) rfl
theorem tw166 : Cond.sameField "ReachFlow$ByRules" "ReachFlow$Flow" "kinds" "LReachFlow$Kinds;" ∈ tb := tb_t1 _ (List.mem_of_getElem? (i := 166) (by decide +kernel)) rfl
theorem tw167 : Cond.fieldLink "ReachFlow$Flow" (30 : Nat) "ReachFlow$Flow" "open" "J" ∈ tb := tb_t1 _ (List.mem_of_getElem? (i := 167) (by decide +kernel)) rfl
theorem tw168 : Cond.fieldLink "ReachFlow$Flow" (34 : Nat) "ReachFlow$Flow" "met" "J" ∈ tb := tb_t1 _ (List.mem_of_getElem? (i := 168) (by decide +kernel)) rfl
theorem tw169 : Cond.fieldLink "ReachFlow$Flow" (37 : Nat) "ReachFlow$Flow" "normal" "J" ∈ tb := tb_t1 _ (List.mem_of_getElem? (i := 169) (by decide +kernel)) rfl
theorem tw170 : Cond.fieldLink "ReachFlow$Flow" (40 : Nat) "ReachFlow$Flow" "returning" "J" ∈ tb := tb_t1 _ (List.mem_of_getElem? (i := 170) (by decide +kernel)) rfl
theorem tw171 : Cond.fieldLink "ReachFlow$Flow" (9 : Nat) "ReachFlow$Flow" "breaks" "[J" ∈ tb := tb_t1 _ (List.mem_of_getElem? (i := 171) (by decide +kernel)) rfl
theorem tw172 : Cond.fieldLink "ReachFlow$Flow" (15 : Nat) "ReachFlow$Flow" "continues" "[J" ∈ tb := tb_t1 _ (List.mem_of_getElem? (i := 172) (by decide +kernel)) rfl
theorem tw173 : Cond.fieldLink "ReachFlow$Flow" (18 : Nat) "ReachFlow$Flow" "thrown" "[I" ∈ tb := tb_t1 _ (List.mem_of_getElem? (i := 173) (by decide +kernel)) rfl
theorem tw174 : Cond.fieldLink "ReachFlow" (184 : Nat) "ReachFlow$Flow" "thrown" "[I" ∈ tb := tb_t1 _ (List.mem_of_getElem? (i := 174) (by decide +kernel)) rfl
theorem tw175 : Cond.laysFinal "ReachFlow$ByRules" "ReachFlow$Flow" "tree" "LReachFlow$Tree;" ∈ tb := tb_t1 _ (List.mem_of_getElem? (i := 175) (by decide +kernel)) rfl
theorem tw177 : Cond.laysFinal "ReachFlow$ByRules" "ReachFlow$Flow" "kinds" "LReachFlow$Kinds;" ∈ tb := tb_t1 _ (List.mem_of_getElem? (i := 177) (by decide +kernel)) rfl
theorem tw179 : Cond.lays "ReachFlow$ByRules" "ReachFlow$Flow" "open" "J" ∈ tb := tb_t1 _ (List.mem_of_getElem? (i := 179) (by decide +kernel)) rfl
theorem tw181 : Cond.lays "ReachFlow$ByRules" "ReachFlow$Flow" "met" "J" ∈ tb := tb_t1 _ (List.mem_of_getElem? (i := 181) (by decide +kernel)) rfl
theorem tw183 : Cond.lays "ReachFlow$ByRules" "ReachFlow$Flow" "normal" "J" ∈ tb := tb_t1 _ (List.mem_of_getElem? (i := 183) (by decide +kernel)) rfl
theorem tw185 : Cond.lays "ReachFlow$ByRules" "ReachFlow$Flow" "returning" "J" ∈ tb := tb_t1 _ (List.mem_of_getElem? (i := 185) (by decide +kernel)) rfl
theorem tw187 : Cond.laysFinal "ReachFlow$ByRules" "ReachFlow$Flow" "breaks" "[J" ∈ tb := tb_t1 _ (List.mem_of_getElem? (i := 187) (by decide +kernel)) rfl
theorem tw189 : Cond.laysFinal "ReachFlow$ByRules" "ReachFlow$Flow" "continues" "[J" ∈ tb := tb_t1 _ (List.mem_of_getElem? (i := 189) (by decide +kernel)) rfl
theorem tw191 : Cond.laysFinal "ReachFlow$ByRules" "ReachFlow$Flow" "thrown" "[I" ∈ tb := tb_t1 _ (List.mem_of_getElem? (i := 191) (by decide +kernel)) rfl
theorem tw200 : Cond.laysFinal "ReachFlow$ByWalks" "ReachFlow$Flow" "tree" "LReachFlow$Tree;" ∈ tb := tb_t1 _ (List.mem_of_getElem? (i := 200) (by decide +kernel)) rfl
theorem tw201 : Cond.laysFinal "ReachFlow$ByWalks" "ReachFlow$Flow" "kinds" "LReachFlow$Kinds;" ∈ tb := tb_t1 _ (List.mem_of_getElem? (i := 201) (by decide +kernel)) rfl
theorem tw202 : Cond.lays "ReachFlow$ByWalks" "ReachFlow$Flow" "open" "J" ∈ tb := tb_t1 _ (List.mem_of_getElem? (i := 202) (by decide +kernel)) rfl
theorem tw203 : Cond.lays "ReachFlow$ByWalks" "ReachFlow$Flow" "met" "J" ∈ tb := tb_t1 _ (List.mem_of_getElem? (i := 203) (by decide +kernel)) rfl
theorem tw204 : Cond.lays "ReachFlow$ByWalks" "ReachFlow$Flow" "normal" "J" ∈ tb := tb_t1 _ (List.mem_of_getElem? (i := 204) (by decide +kernel)) rfl
theorem tw205 : Cond.lays "ReachFlow$ByWalks" "ReachFlow$Flow" "returning" "J" ∈ tb := tb_t1 _ (List.mem_of_getElem? (i := 205) (by decide +kernel)) rfl
theorem tw206 : Cond.laysFinal "ReachFlow$ByWalks" "ReachFlow$Flow" "breaks" "[J" ∈ tb := tb_t1 _ (List.mem_of_getElem? (i := 206) (by decide +kernel)) rfl
theorem tw207 : Cond.laysFinal "ReachFlow$ByWalks" "ReachFlow$Flow" "continues" "[J" ∈ tb := tb_t1 _ (List.mem_of_getElem? (i := 207) (by decide +kernel)) rfl
theorem tw208 : Cond.laysFinal "ReachFlow$ByWalks" "ReachFlow$Flow" "thrown" "[I" ∈ tb := tb_t1 _ (List.mem_of_getElem? (i := 208) (by decide +kernel)) rfl
theorem tw211 : Cond.instanceMethod y_Lk_startAgain ∈ tb := tb_t1 _ (List.mem_of_getElem? (i := 211) (by decide +kernel)) rfl
theorem tw212 : Cond.selects "ReachFlow$Look" y_Lk_startAgain y_Lk_startAgain ∈ tb := tb_t1 _ (List.mem_of_getElem? (i := 212) (by decide +kernel)) rfl
theorem tw213 : Cond.code y_Lk_startAgain prog_6_method_2_code (1 : Nat) (Option.none : Option Jvm.ClassFile.FieldType) ∈ tb := tb_t1 _ (List.mem_of_getElem? (i := 213) rfl) rfl
theorem tw214 : Cond.methodLink "ReachFlow$Look" (69 : Nat) y_Fl_forget ∈ tb := tb_t1 _ (List.mem_of_getElem? (i := 214) (by decide +kernel)) rfl
theorem tw215 : Cond.instanceMethod y_Fl_forget ∈ tb := tb_t1 _ (List.mem_of_getElem? (i := 215) (by decide +kernel)) rfl
theorem tw216 : Cond.sameMethod "ReachFlow$Flow" "ReachFlow$Flow" "forget" "()V" ∈ tb := tb_t1 _ (List.mem_of_getElem? (i := 216) (by decide +kernel)) rfl
theorem tw217 : Cond.selects "ReachFlow$ByRules" y_Fl_forget y_Fl_forget ∈ tb := tb_t1 _ (List.mem_of_getElem? (i := 217) (by decide +kernel)) rfl
theorem tw218 : Cond.selects "ReachFlow$ByWalks" y_Fl_forget y_Fl_forget ∈ tb := tb_t1 _ (List.mem_of_getElem? (i := 218) (by decide +kernel)) rfl
theorem tw219 : Cond.code y_Fl_forget prog_4_method_6_code (1 : Nat) (Option.none : Option Jvm.ClassFile.FieldType) ∈ tb := tb_t1 _ (List.mem_of_getElem? (i := 219) rfl) rfl
theorem tw220 : Cond.methodLink "ReachFlow$Look" (74 : Nat) y_Lk_forgetTargets ∈ tb := tb_t1 _ (List.mem_of_getElem? (i := 220) (by decide +kernel)) rfl
theorem tw222 : Cond.instanceMethod y_Lk_forgetTargets ∈ tb := tb_t1 _ (List.mem_of_getElem? (i := 222) (by decide +kernel)) rfl
theorem tw223 : Cond.code y_Lk_forgetTargets prog_6_method_3_code (2 : Nat) (Option.none : Option Jvm.ClassFile.FieldType) ∈ tb := tb_t1 _ (List.mem_of_getElem? (i := 223) rfl) rfl
theorem tw224 : Cond.fieldLink "ReachFlow$Look" (30 : Nat) "ReachFlow$Look" "tree" "LReachFlow$Tree;" ∈ tb := tb_t1 _ (List.mem_of_getElem? (i := 224) (by decide +kernel)) rfl
theorem tw225 : Cond.fieldLink "ReachFlow$Look" (34 : Nat) "ReachFlow$Look" "kinds" "LReachFlow$Kinds;" ∈ tb := tb_t1 _ (List.mem_of_getElem? (i := 225) (by decide +kernel)) rfl
theorem tw226 : Cond.fieldLink "ReachFlow$Look" (43 : Nat) "ReachFlow$Look" "rules" "LReachFlow$Flow;" ∈ tb := tb_t1 _ (List.mem_of_getElem? (i := 226) (by decide +kernel)) rfl
theorem tw227 : Cond.fieldLink "ReachFlow" (172 : Nat) "ReachFlow$Look" "rules" "LReachFlow$Flow;" ∈ tb := tb_t1 _ (List.mem_of_getElem? (i := 227) (by decide +kernel)) rfl
theorem tw228 : Cond.fieldLink "ReachFlow$Look" (50 : Nat) "ReachFlow$Look" "walks" "LReachFlow$Flow;" ∈ tb := tb_t1 _ (List.mem_of_getElem? (i := 228) (by decide +kernel)) rfl
theorem tw229 : Cond.fieldLink "ReachFlow" (194 : Nat) "ReachFlow$Look" "walks" "LReachFlow$Flow;" ∈ tb := tb_t1 _ (List.mem_of_getElem? (i := 229) (by decide +kernel)) rfl
theorem tw230 : Cond.fieldLink "ReachFlow$Look" (56 : Nat) "ReachFlow$Look" "root" "I" ∈ tb := tb_t1 _ (List.mem_of_getElem? (i := 230) (by decide +kernel)) rfl
theorem tw231 : Cond.fieldLink "ReachFlow" (151 : Nat) "ReachFlow$Look" "root" "I" ∈ tb := tb_t1 _ (List.mem_of_getElem? (i := 231) (by decide +kernel)) rfl
theorem tw232 : Cond.fieldLink "ReachFlow$Look" (60 : Nat) "ReachFlow$Look" "length" "I" ∈ tb := tb_t1 _ (List.mem_of_getElem? (i := 232) (by decide +kernel)) rfl
theorem tw233 : Cond.fieldLink "ReachFlow$Look" (9 : Nat) "ReachFlow$Look" "order" "[I" ∈ tb := tb_t1 _ (List.mem_of_getElem? (i := 233) (by decide +kernel)) rfl
theorem tw234 : Cond.fieldLink "ReachFlow$Look" (15 : Nat) "ReachFlow$Look" "waiting" "[I" ∈ tb := tb_t1 _ (List.mem_of_getElem? (i := 234) (by decide +kernel)) rfl
theorem tw235 : Cond.fieldLink "ReachFlow$Look" (18 : Nat) "ReachFlow$Look" "targets" "[I" ∈ tb := tb_t1 _ (List.mem_of_getElem? (i := 235) (by decide +kernel)) rfl
theorem tw236 : Cond.fieldLink "ReachFlow" (191 : Nat) "ReachFlow$Look" "targets" "[I" ∈ tb := tb_t1 _ (List.mem_of_getElem? (i := 236) (by decide +kernel)) rfl
theorem tw237 : Cond.fieldLink "ReachFlow$Look" (63 : Nat) "ReachFlow$Look" "faultCount" "I" ∈ tb := tb_t1 _ (List.mem_of_getElem? (i := 237) (by decide +kernel)) rfl
theorem tw238 : Cond.fieldLink "ReachFlow" (157 : Nat) "ReachFlow$Look" "faultCount" "I" ∈ tb := tb_t1 _ (List.mem_of_getElem? (i := 238) (by decide +kernel)) rfl
theorem tw239 : Cond.fieldLink "ReachFlow$Look" (21 : Nat) "ReachFlow$Look" "faultSort" "[I" ∈ tb := tb_t1 _ (List.mem_of_getElem? (i := 239) (by decide +kernel)) rfl
theorem tw240 : Cond.fieldLink "ReachFlow" (160 : Nat) "ReachFlow$Look" "faultSort" "[I" ∈ tb := tb_t2 _ (List.mem_of_getElem? (i := 0) (by decide +kernel)) rfl
theorem tw241 : Cond.fieldLink "ReachFlow$Look" (24 : Nat) "ReachFlow$Look" "faultNode" "[I" ∈ tb := tb_t2 _ (List.mem_of_getElem? (i := 1) (by decide +kernel)) rfl
theorem tw242 : Cond.fieldLink "ReachFlow" (163 : Nat) "ReachFlow$Look" "faultNode" "[I" ∈ tb := tb_t2 _ (List.mem_of_getElem? (i := 2) (by decide +kernel)) rfl
theorem tw243 : Cond.fieldLink "ReachFlow$Look" (66 : Nat) "ReachFlow$Look" "noteCount" "I" ∈ tb := tb_t2 _ (List.mem_of_getElem? (i := 3) (by decide +kernel)) rfl
theorem tw244 : Cond.fieldLink "ReachFlow" (166 : Nat) "ReachFlow$Look" "noteCount" "I" ∈ tb := tb_t2 _ (List.mem_of_getElem? (i := 4) (by decide +kernel)) rfl
theorem tw245 : Cond.fieldLink "ReachFlow$Look" (27 : Nat) "ReachFlow$Look" "noteNode" "[I" ∈ tb := tb_t2 _ (List.mem_of_getElem? (i := 5) (by decide +kernel)) rfl
theorem tw246 : Cond.fieldLink "ReachFlow" (169 : Nat) "ReachFlow$Look" "noteNode" "[I" ∈ tb := tb_t2 _ (List.mem_of_getElem? (i := 6) (by decide +kernel)) rfl
theorem tw247 : Cond.laysFinal "ReachFlow$Look" "ReachFlow$Look" "tree" "LReachFlow$Tree;" ∈ tb := tb_t2 _ (List.mem_of_getElem? (i := 7) (by decide +kernel)) rfl
theorem tw249 : Cond.laysFinal "ReachFlow$Look" "ReachFlow$Look" "kinds" "LReachFlow$Kinds;" ∈ tb := tb_t2 _ (List.mem_of_getElem? (i := 9) (by decide +kernel)) rfl
theorem tw251 : Cond.laysFinal "ReachFlow$Look" "ReachFlow$Look" "rules" "LReachFlow$Flow;" ∈ tb := tb_t2 _ (List.mem_of_getElem? (i := 11) (by decide +kernel)) rfl
theorem tw253 : Cond.laysFinal "ReachFlow$Look" "ReachFlow$Look" "walks" "LReachFlow$Flow;" ∈ tb := tb_t2 _ (List.mem_of_getElem? (i := 13) (by decide +kernel)) rfl
theorem tw255 : Cond.lays "ReachFlow$Look" "ReachFlow$Look" "root" "I" ∈ tb := tb_t2 _ (List.mem_of_getElem? (i := 15) (by decide +kernel)) rfl
theorem tw257 : Cond.lays "ReachFlow$Look" "ReachFlow$Look" "length" "I" ∈ tb := tb_t2 _ (List.mem_of_getElem? (i := 17) (by decide +kernel)) rfl
theorem tw259 : Cond.laysFinal "ReachFlow$Look" "ReachFlow$Look" "order" "[I" ∈ tb := tb_t2 _ (List.mem_of_getElem? (i := 19) (by decide +kernel)) rfl
theorem tw261 : Cond.laysFinal "ReachFlow$Look" "ReachFlow$Look" "waiting" "[I" ∈ tb := tb_t2 _ (List.mem_of_getElem? (i := 21) (by decide +kernel)) rfl
theorem tw263 : Cond.laysFinal "ReachFlow$Look" "ReachFlow$Look" "targets" "[I" ∈ tb := tb_t2 _ (List.mem_of_getElem? (i := 23) (by decide +kernel)) rfl
theorem tw265 : Cond.lays "ReachFlow$Look" "ReachFlow$Look" "faultCount" "I" ∈ tb := tb_t2 _ (List.mem_of_getElem? (i := 25) (by decide +kernel)) rfl
theorem tw267 : Cond.laysFinal "ReachFlow$Look" "ReachFlow$Look" "faultSort" "[I" ∈ tb := tb_t2 _ (List.mem_of_getElem? (i := 27) (by decide +kernel)) rfl
theorem tw269 : Cond.laysFinal "ReachFlow$Look" "ReachFlow$Look" "faultNode" "[I" ∈ tb := tb_t2 _ (List.mem_of_getElem? (i := 29) (by decide +kernel)) rfl
theorem tw271 : Cond.lays "ReachFlow$Look" "ReachFlow$Look" "noteCount" "I" ∈ tb := tb_t2 _ (List.mem_of_getElem? (i := 31) (by decide +kernel)) rfl
theorem tw273 : Cond.laysFinal "ReachFlow$Look" "ReachFlow$Look" "noteNode" "[I" ∈ tb := tb_t2 _ (List.mem_of_getElem? (i := 33) (by decide +kernel)) rfl
theorem tw276 : Cond.fieldLink "ReachFlow" (15 : Nat) "ReachFlow" "kinds" "LReachFlow$Kinds;" ∈ tb := tb_t2 _ (List.mem_of_getElem? (i := 36) (by decide +kernel)) rfl
theorem tw277 : Cond.fieldLink "ReachFlow" (19 : Nat) "ReachFlow" "tree" "LReachFlow$Tree;" ∈ tb := tb_t2 _ (List.mem_of_getElem? (i := 37) (by decide +kernel)) rfl
theorem tw278 : Cond.fieldLink "ReachFlow" (26 : Nat) "ReachFlow" "row" "LReachFlow$Row;" ∈ tb := tb_t2 _ (List.mem_of_getElem? (i := 38) (by decide +kernel)) rfl
theorem tw279 : Cond.fieldLink "ReachFlow" (35 : Nat) "ReachFlow" "look" "LReachFlow$Look;" ∈ tb := tb_t2 _ (List.mem_of_getElem? (i := 39) (by decide +kernel)) rfl
theorem tw280 : Cond.laysFinal "ReachFlow" "ReachFlow" "kinds" "LReachFlow$Kinds;" ∈ tb := tb_t2 _ (List.mem_of_getElem? (i := 40) (by decide +kernel)) rfl
theorem tw282 : Cond.laysFinal "ReachFlow" "ReachFlow" "tree" "LReachFlow$Tree;" ∈ tb := tb_t2 _ (List.mem_of_getElem? (i := 42) (by decide +kernel)) rfl
theorem tw284 : Cond.laysFinal "ReachFlow" "ReachFlow" "row" "LReachFlow$Row;" ∈ tb := tb_t2 _ (List.mem_of_getElem? (i := 44) (by decide +kernel)) rfl
theorem tw286 : Cond.laysFinal "ReachFlow" "ReachFlow" "look" "LReachFlow$Look;" ∈ tb := tb_t2 _ (List.mem_of_getElem? (i := 46) (by decide +kernel)) rfl
theorem tw293 : Cond.methodLink "ReachFlow" (43 : Nat) y_Kn_startAgain ∈ tb := tb_t2 _ (List.mem_of_getElem? (i := 53) (by decide +kernel)) rfl
theorem tw294 : Cond.methodLink "ReachFlow" (46 : Nat) y_Tr_startAgain ∈ tb := tb_t2 _ (List.mem_of_getElem? (i := 54) (by decide +kernel)) rfl
theorem tw295 : Cond.instanceMethod y_Tr_startAgain ∈ tb := tb_t2 _ (List.mem_of_getElem? (i := 55) (by decide +kernel)) rfl
theorem tw296 : Cond.selects "ReachFlow$Tree" y_Tr_startAgain y_Tr_startAgain ∈ tb := tb_t2 _ (List.mem_of_getElem? (i := 56) (by decide +kernel)) rfl
theorem tw297 : Cond.code y_Tr_startAgain prog_8_method_2_code (1 : Nat) (Option.none : Option Jvm.ClassFile.FieldType) ∈ tb := tb_t2 _ (List.mem_of_getElem? (i := 57) rfl) rfl
theorem tw298 : Cond.methodLink "ReachFlow" (47 : Nat) y_Rw_close ∈ tb := tb_t2 _ (List.mem_of_getElem? (i := 58) (by decide +kernel)) rfl
theorem tw299 : Cond.instanceMethod y_Rw_close ∈ tb := tb_t2 _ (List.mem_of_getElem? (i := 59) (by decide +kernel)) rfl
theorem tw300 : Cond.selects "ReachFlow$Row" y_Rw_close y_Rw_close ∈ tb := tb_t2 _ (List.mem_of_getElem? (i := 60) (by decide +kernel)) rfl
theorem tw301 : Cond.code y_Rw_close prog_7_method_4_code (1 : Nat) (Option.none : Option Jvm.ClassFile.FieldType) ∈ tb := tb_t2 _ (List.mem_of_getElem? (i := 61) rfl) rfl
theorem tw302 : Cond.methodLink "ReachFlow" (50 : Nat) y_Lk_startAgain ∈ tb := tb_t2 _ (List.mem_of_getElem? (i := 62) (by decide +kernel)) rfl
theorem tw307 : Cond.methodLink "ReachFlow" (51 : Nat) y_Kn_has ∈ tb := tb_t2 _ (List.mem_of_getElem? (i := 67) (by decide +kernel)) rfl
theorem tw308 : Cond.instanceMethod y_Kn_has ∈ tb := tb_t2 _ (List.mem_of_getElem? (i := 68) (by decide +kernel)) rfl
theorem tw309 : Cond.selects "ReachFlow$Kinds" y_Kn_has y_Kn_has ∈ tb := tb_t2 _ (List.mem_of_getElem? (i := 69) (by decide +kernel)) rfl
theorem tw310 : Cond.code y_Kn_has prog_5_method_3_code (2 : Nat) (Option.some Jvm.ClassFile.FieldType.boolean) ∈ tb := tb_t2 _ (List.mem_of_getElem? (i := 70) rfl) rfl
theorem tw311 : Cond.methodLink "ReachFlow" (58 : Nat) y_Kn_addBelow ∈ tb := tb_t2 _ (List.mem_of_getElem? (i := 71) (by decide +kernel)) rfl
theorem tw316 : Cond.methodLink "ReachFlow" (62 : Nat) y_Rf_fitsNode ∈ tb := tb_t2 _ (List.mem_of_getElem? (i := 76) (by decide +kernel)) rfl
theorem tw318 : Cond.instanceMethod y_Rf_fitsNode ∈ tb := tb_t2 _ (List.mem_of_getElem? (i := 78) (by decide +kernel)) rfl
theorem tw319 : Cond.code y_Rf_fitsNode prog_1_method_5_code (5 : Nat) (Option.some Jvm.ClassFile.FieldType.boolean) ∈ tb := tb_t2 _ (List.mem_of_getElem? (i := 79) rfl) rfl
theorem tw320 : Cond.methodLink "ReachFlow" (78 : Nat) y_Rf_isTest ∈ tb := tb_t2 _ (List.mem_of_getElem? (i := 80) (by decide +kernel)) rfl
theorem tw321 : Cond.static y_Rf_isTest ∈ tb := tb_t2 _ (List.mem_of_getElem? (i := 81) (by decide +kernel)) rfl
theorem tw322 : Cond.code y_Rf_isTest prog_1_method_6_code (2 : Nat) (Option.some Jvm.ClassFile.FieldType.boolean) ∈ tb := tb_t2 _ (List.mem_of_getElem? (i := 82) rfl) rfl
theorem tw323 : Cond.methodLink "ReachFlow" (82 : Nat) y_Tr_isFree ∈ tb := tb_t2 _ (List.mem_of_getElem? (i := 83) (by decide +kernel)) rfl
theorem tw324 : Cond.instanceMethod y_Tr_isFree ∈ tb := tb_t2 _ (List.mem_of_getElem? (i := 84) (by decide +kernel)) rfl
theorem tw325 : Cond.selects "ReachFlow$Tree" y_Tr_isFree y_Tr_isFree ∈ tb := tb_t2 _ (List.mem_of_getElem? (i := 85) (by decide +kernel)) rfl
theorem tw326 : Cond.code y_Tr_isFree prog_8_method_5_code (2 : Nat) (Option.some Jvm.ClassFile.FieldType.boolean) ∈ tb := tb_t2 _ (List.mem_of_getElem? (i := 86) rfl) rfl
theorem tw327 : Cond.methodLink "ReachFlow$Tree" (57 : Nat) y_Tr_has ∈ tb := tb_t2 _ (List.mem_of_getElem? (i := 87) (by decide +kernel)) rfl
theorem tw328 : Cond.instanceMethod y_Tr_has ∈ tb := tb_t2 _ (List.mem_of_getElem? (i := 88) (by decide +kernel)) rfl
theorem tw329 : Cond.selects "ReachFlow$Tree" y_Tr_has y_Tr_has ∈ tb := tb_t2 _ (List.mem_of_getElem? (i := 89) (by decide +kernel)) rfl
theorem tw330 : Cond.code y_Tr_has prog_8_method_3_code (2 : Nat) (Option.some Jvm.ClassFile.FieldType.boolean) ∈ tb := tb_t2 _ (List.mem_of_getElem? (i := 90) rfl) rfl
theorem tw332 : Cond.methodLink "ReachFlow" (85 : Nat) y_Tr_isFreeBlock ∈ tb := tb_t2 _ (List.mem_of_getElem? (i := 92) (by decide +kernel)) rfl
theorem tw333 : Cond.instanceMethod y_Tr_isFreeBlock ∈ tb := tb_t2 _ (List.mem_of_getElem? (i := 93) (by decide +kernel)) rfl
theorem tw334 : Cond.selects "ReachFlow$Tree" y_Tr_isFreeBlock y_Tr_isFreeBlock ∈ tb := tb_t2 _ (List.mem_of_getElem? (i := 94) (by decide +kernel)) rfl
theorem tw335 : Cond.code y_Tr_isFreeBlock prog_8_method_6_code (2 : Nat) (Option.some Jvm.ClassFile.FieldType.boolean) ∈ tb := tb_t2 _ (List.mem_of_getElem? (i := 95) rfl) rfl
theorem tw336 : Cond.methodLink "ReachFlow$Tree" (65 : Nat) y_Tr_isFree ∈ tb := tb_t2 _ (List.mem_of_getElem? (i := 96) (by decide +kernel)) rfl
theorem tw337 : Cond.methodLink "ReachFlow" (66 : Nat) y_Tr_isFull ∈ tb := tb_t2 _ (List.mem_of_getElem? (i := 97) (by decide +kernel)) rfl
theorem tw338 : Cond.instanceMethod y_Tr_isFull ∈ tb := tb_t2 _ (List.mem_of_getElem? (i := 98) (by decide +kernel)) rfl
theorem tw339 : Cond.selects "ReachFlow$Tree" y_Tr_isFull y_Tr_isFull ∈ tb := tb_t2 _ (List.mem_of_getElem? (i := 99) (by decide +kernel)) rfl
theorem tw340 : Cond.code y_Tr_isFull prog_8_method_4_code (1 : Nat) (Option.some Jvm.ClassFile.FieldType.boolean) ∈ tb := tb_t2 _ (List.mem_of_getElem? (i := 100) rfl) rfl
theorem tw341 : Cond.methodLink "ReachFlow" (70 : Nat) y_Tr_add ∈ tb := tb_t2 _ (List.mem_of_getElem? (i := 101) (by decide +kernel)) rfl
theorem tw342 : Cond.instanceMethod y_Tr_add ∈ tb := tb_t2 _ (List.mem_of_getElem? (i := 102) (by decide +kernel)) rfl
theorem tw343 : Cond.selects "ReachFlow$Tree" y_Tr_add y_Tr_add ∈ tb := tb_t2 _ (List.mem_of_getElem? (i := 103) (by decide +kernel)) rfl
theorem tw344 : Cond.code y_Tr_add prog_8_method_7_code (4 : Nat) (Option.some Jvm.ClassFile.FieldType.int) ∈ tb := tb_t2 _ (List.mem_of_getElem? (i := 104) rfl) rfl
theorem tw345 : Cond.methodLink "ReachFlow" (74 : Nat) y_Tr_adopt ∈ tb := tb_t2 _ (List.mem_of_getElem? (i := 105) (by decide +kernel)) rfl
theorem tw346 : Cond.instanceMethod y_Tr_adopt ∈ tb := tb_t2 _ (List.mem_of_getElem? (i := 106) (by decide +kernel)) rfl
theorem tw347 : Cond.selects "ReachFlow$Tree" y_Tr_adopt y_Tr_adopt ∈ tb := tb_t2 _ (List.mem_of_getElem? (i := 107) (by decide +kernel)) rfl
theorem tw348 : Cond.code y_Tr_adopt prog_8_method_10_code (3 : Nat) (Option.none : Option Jvm.ClassFile.FieldType) ∈ tb := tb_t2 _ (List.mem_of_getElem? (i := 108) rfl) rfl
theorem tw353 : Cond.methodLink "ReachFlow" (88 : Nat) y_Rf_isName ∈ tb := tb_t2 _ (List.mem_of_getElem? (i := 113) (by decide +kernel)) rfl
theorem tw354 : Cond.static y_Rf_isName ∈ tb := tb_t2 _ (List.mem_of_getElem? (i := 114) (by decide +kernel)) rfl
theorem tw355 : Cond.code y_Rf_isName prog_1_method_9_code (1 : Nat) (Option.some Jvm.ClassFile.FieldType.boolean) ∈ tb := tb_t2 _ (List.mem_of_getElem? (i := 115) rfl) rfl
theorem tw364 : Cond.methodLink "ReachFlow" (91 : Nat) y_Rw_isOpen ∈ tb := tb_t2 _ (List.mem_of_getElem? (i := 124) (by decide +kernel)) rfl
theorem tw365 : Cond.instanceMethod y_Rw_isOpen ∈ tb := tb_t2 _ (List.mem_of_getElem? (i := 125) (by decide +kernel)) rfl
theorem tw366 : Cond.selects "ReachFlow$Row" y_Rw_isOpen y_Rw_isOpen ∈ tb := tb_t2 _ (List.mem_of_getElem? (i := 126) (by decide +kernel)) rfl
theorem tw367 : Cond.code y_Rw_isOpen prog_7_method_2_code (1 : Nat) (Option.some Jvm.ClassFile.FieldType.boolean) ∈ tb := tb_t2 _ (List.mem_of_getElem? (i := 127) rfl) rfl
theorem tw368 : Cond.methodLink "ReachFlow" (94 : Nat) y_Rw_start ∈ tb := tb_t2 _ (List.mem_of_getElem? (i := 128) (by decide +kernel)) rfl
theorem tw369 : Cond.instanceMethod y_Rw_start ∈ tb := tb_t2 _ (List.mem_of_getElem? (i := 129) (by decide +kernel)) rfl
theorem tw370 : Cond.selects "ReachFlow$Row" y_Rw_start y_Rw_start ∈ tb := tb_t2 _ (List.mem_of_getElem? (i := 130) (by decide +kernel)) rfl
theorem tw371 : Cond.code y_Rw_start prog_7_method_3_code (2 : Nat) (Option.none : Option Jvm.ClassFile.FieldType) ∈ tb := tb_t2 _ (List.mem_of_getElem? (i := 131) rfl) rfl
theorem tw376 : Cond.methodLink "ReachFlow" (98 : Nat) y_Rf_fitsRow ∈ tb := tb_t2 _ (List.mem_of_getElem? (i := 136) (by decide +kernel)) rfl
theorem tw378 : Cond.instanceMethod y_Rf_fitsRow ∈ tb := tb_t2 _ (List.mem_of_getElem? (i := 138) (by decide +kernel)) rfl
theorem tw379 : Cond.code y_Rf_fitsRow prog_1_method_12_code (3 : Nat) (Option.some Jvm.ClassFile.FieldType.boolean) ∈ tb := tb_t2 _ (List.mem_of_getElem? (i := 139) rfl) rfl
theorem tw380 : Cond.methodLink "ReachFlow" (110 : Nat) y_Rw_fitsMark ∈ tb := tb_t2 _ (List.mem_of_getElem? (i := 140) (by decide +kernel)) rfl
theorem tw381 : Cond.instanceMethod y_Rw_fitsMark ∈ tb := tb_t2 _ (List.mem_of_getElem? (i := 141) (by decide +kernel)) rfl
theorem tw382 : Cond.selects "ReachFlow$Row" y_Rw_fitsMark y_Rw_fitsMark ∈ tb := tb_t2 _ (List.mem_of_getElem? (i := 142) (by decide +kernel)) rfl
theorem tw383 : Cond.code y_Rw_fitsMark prog_7_method_5_code (2 : Nat) (Option.some Jvm.ClassFile.FieldType.boolean) ∈ tb := tb_t2 _ (List.mem_of_getElem? (i := 143) rfl) rfl
theorem tw384 : Cond.methodLink "ReachFlow" (116 : Nat) y_Rf_fitsRules ∈ tb := tb_t2 _ (List.mem_of_getElem? (i := 144) (by decide +kernel)) rfl
theorem tw385 : Cond.static y_Rf_fitsRules ∈ tb := tb_t2 _ (List.mem_of_getElem? (i := 145) (by decide +kernel)) rfl
theorem tw386 : Cond.code y_Rf_fitsRules prog_1_method_13_code (1 : Nat) (Option.some Jvm.ClassFile.FieldType.boolean) ∈ tb := tb_t2 _ (List.mem_of_getElem? (i := 146) rfl) rfl
theorem tw387 : Cond.methodLink "ReachFlow" (104 : Nat) y_Tr_take ∈ tb := tb_t2 _ (List.mem_of_getElem? (i := 147) (by decide +kernel)) rfl
theorem tw388 : Cond.instanceMethod y_Tr_take ∈ tb := tb_t2 _ (List.mem_of_getElem? (i := 148) (by decide +kernel)) rfl
theorem tw389 : Cond.selects "ReachFlow$Tree" y_Tr_take y_Tr_take ∈ tb := tb_t2 _ (List.mem_of_getElem? (i := 149) (by decide +kernel)) rfl
theorem tw390 : Cond.code y_Tr_take prog_8_method_8_code (3 : Nat) (Option.none : Option Jvm.ClassFile.FieldType) ∈ tb := tb_t2 _ (List.mem_of_getElem? (i := 150) rfl) rfl
theorem tw391 : Cond.methodLink "ReachFlow" (107 : Nat) y_Rw_add ∈ tb := tb_t2 _ (List.mem_of_getElem? (i := 151) (by decide +kernel)) rfl
theorem tw392 : Cond.instanceMethod y_Rw_add ∈ tb := tb_t2 _ (List.mem_of_getElem? (i := 152) (by decide +kernel)) rfl
theorem tw393 : Cond.selects "ReachFlow$Row" y_Rw_add y_Rw_add ∈ tb := tb_t2 _ (List.mem_of_getElem? (i := 153) (by decide +kernel)) rfl
theorem tw394 : Cond.code y_Rw_add prog_7_method_6_code (3 : Nat) (Option.none : Option Jvm.ClassFile.FieldType) ∈ tb := tb_t2 _ (List.mem_of_getElem? (i := 154) rfl) rfl
theorem tw399 : Cond.methodLink "ReachFlow" (119 : Nat) y_Rf_fitsEnd ∈ tb := tb_t2 _ (List.mem_of_getElem? (i := 159) (by decide +kernel)) rfl
theorem tw401 : Cond.instanceMethod y_Rf_fitsEnd ∈ tb := tb_t2 _ (List.mem_of_getElem? (i := 161) (by decide +kernel)) rfl
theorem tw402 : Cond.code y_Rf_fitsEnd prog_1_method_15_code (2 : Nat) (Option.some Jvm.ClassFile.FieldType.boolean) ∈ tb := tb_t2 _ (List.mem_of_getElem? (i := 162) rfl) rfl
theorem tw403 : Cond.methodLink "ReachFlow" (129 : Nat) y_Tr_closeRow ∈ tb := tb_t2 _ (List.mem_of_getElem? (i := 163) (by decide +kernel)) rfl
theorem tw404 : Cond.instanceMethod y_Tr_closeRow ∈ tb := tb_t2 _ (List.mem_of_getElem? (i := 164) (by decide +kernel)) rfl
theorem tw405 : Cond.selects "ReachFlow$Tree" y_Tr_closeRow y_Tr_closeRow ∈ tb := tb_t2 _ (List.mem_of_getElem? (i := 165) (by decide +kernel)) rfl
theorem tw406 : Cond.code y_Tr_closeRow prog_8_method_11_code (4 : Nat) (Option.none : Option Jvm.ClassFile.FieldType) ∈ tb := tb_t2 _ (List.mem_of_getElem? (i := 166) rfl) rfl
theorem tw407 : Cond.methodLink "ReachFlow$Tree" (70 : Nat) y_Tr_adopt ∈ tb := tb_t2 _ (List.mem_of_getElem? (i := 167) (by decide +kernel)) rfl
theorem tw412 : Cond.methodLink "ReachFlow" (133 : Nat) y_Tr_release ∈ tb := tb_t2 _ (List.mem_of_getElem? (i := 172) (by decide +kernel)) rfl
theorem tw413 : Cond.instanceMethod y_Tr_release ∈ tb := tb_t2 _ (List.mem_of_getElem? (i := 173) (by decide +kernel)) rfl
theorem tw414 : Cond.selects "ReachFlow$Tree" y_Tr_release y_Tr_release ∈ tb := tb_t2 _ (List.mem_of_getElem? (i := 174) (by decide +kernel)) rfl
theorem tw415 : Cond.code y_Tr_release prog_8_method_9_code (2 : Nat) (Option.none : Option Jvm.ClassFile.FieldType) ∈ tb := tb_t2 _ (List.mem_of_getElem? (i := 175) rfl) rfl
theorem tw416 : Cond.constantLong "ReachFlow$Tree" (68 : Nat) (-1 : Int64) ∈ tb := tb_t2 _ (List.mem_of_getElem? (i := 176) (by decide +kernel)) rfl
theorem tw421 : Cond.methodLink "ReachFlow" (136 : Nat) y_Tr_has ∈ tb := tb_t2 _ (List.mem_of_getElem? (i := 181) (by decide +kernel)) rfl
theorem tw426 : Cond.methodLink "ReachFlow" (148 : Nat) y_Tr_kid ∈ tb := tb_t2 _ (List.mem_of_getElem? (i := 186) (by decide +kernel)) rfl
theorem tw427 : Cond.instanceMethod y_Tr_kid ∈ tb := tb_t2 _ (List.mem_of_getElem? (i := 187) (by decide +kernel)) rfl
theorem tw428 : Cond.selects "ReachFlow$Tree" y_Tr_kid y_Tr_kid ∈ tb := tb_t2 _ (List.mem_of_getElem? (i := 188) (by decide +kernel)) rfl
theorem tw429 : Cond.code y_Tr_kid prog_8_method_12_code (3 : Nat) (Option.some Jvm.ClassFile.FieldType.int) ∈ tb := tb_t2 _ (List.mem_of_getElem? (i := 189) rfl) rfl
theorem tw438 : Cond.methodLink "ReachFlow" (154 : Nat) y_Lk_lookAt ∈ tb := tb_t2 _ (List.mem_of_getElem? (i := 198) (by decide +kernel)) rfl
theorem tw439 : Cond.instanceMethod y_Lk_lookAt ∈ tb := tb_t2 _ (List.mem_of_getElem? (i := 199) (by decide +kernel)) rfl
theorem tw440 : Cond.selects "ReachFlow$Look" y_Lk_lookAt y_Lk_lookAt ∈ tb := tb_t2 _ (List.mem_of_getElem? (i := 200) (by decide +kernel)) rfl
theorem tw441 : Cond.code y_Lk_lookAt prog_6_method_4_code (2 : Nat) (Option.none : Option Jvm.ClassFile.FieldType) ∈ tb := tb_t2 _ (List.mem_of_getElem? (i := 201) rfl) rfl
theorem tw442 : Cond.methodLink "ReachFlow$Look" (77 : Nat) y_Lk_orderText ∈ tb := tb_t2 _ (List.mem_of_getElem? (i := 202) (by decide +kernel)) rfl
theorem tw444 : Cond.instanceMethod y_Lk_orderText ∈ tb := tb_t2 _ (List.mem_of_getElem? (i := 204) (by decide +kernel)) rfl
theorem tw445 : Cond.code y_Lk_orderText prog_6_method_5_code (4 : Nat) (Option.none : Option Jvm.ClassFile.FieldType) ∈ tb := tb_t2 _ (List.mem_of_getElem? (i := 205) rfl) rfl
theorem tw446 : Cond.methodLink "ReachFlow$Look" (98 : Nat) y_Tr_kid ∈ tb := tb_t2 _ (List.mem_of_getElem? (i := 206) (by decide +kernel)) rfl
theorem tw447 : Cond.methodLink "ReachFlow$Look" (80 : Nat) y_Lk_findTargets ∈ tb := tb_t2 _ (List.mem_of_getElem? (i := 207) (by decide +kernel)) rfl
theorem tw449 : Cond.instanceMethod y_Lk_findTargets ∈ tb := tb_t2 _ (List.mem_of_getElem? (i := 209) (by decide +kernel)) rfl
theorem tw450 : Cond.code y_Lk_findTargets prog_6_method_6_code (3 : Nat) (Option.none : Option Jvm.ClassFile.FieldType) ∈ tb := tb_t2 _ (List.mem_of_getElem? (i := 210) rfl) rfl
theorem tw451 : Cond.methodLink "ReachFlow$Look" (102 : Nat) y_Lk_isJump ∈ tb := tb_t2 _ (List.mem_of_getElem? (i := 211) (by decide +kernel)) rfl
theorem tw453 : Cond.instanceMethod y_Lk_isJump ∈ tb := tb_t2 _ (List.mem_of_getElem? (i := 213) (by decide +kernel)) rfl
theorem tw454 : Cond.code y_Lk_isJump prog_6_method_7_code (2 : Nat) (Option.some Jvm.ClassFile.FieldType.boolean) ∈ tb := tb_t2 _ (List.mem_of_getElem? (i := 214) rfl) rfl
theorem tw455 : Cond.methodLink "ReachFlow$Look" (106 : Nat) y_Lk_targetOf ∈ tb := tb_t2 _ (List.mem_of_getElem? (i := 215) (by decide +kernel)) rfl
theorem tw457 : Cond.instanceMethod y_Lk_targetOf ∈ tb := tb_t2 _ (List.mem_of_getElem? (i := 217) (by decide +kernel)) rfl
theorem tw458 : Cond.code y_Lk_targetOf prog_6_method_8_code (5 : Nat) (Option.some Jvm.ClassFile.FieldType.int) ∈ tb := tb_t2 _ (List.mem_of_getElem? (i := 218) rfl) rfl
theorem tw459 : Cond.methodLink "ReachFlow$Look" (116 : Nat) y_Lk_labelAround ∈ tb := tb_t2 _ (List.mem_of_getElem? (i := 219) (by decide +kernel)) rfl
theorem tw461 : Cond.instanceMethod y_Lk_labelAround ∈ tb := tb_t2 _ (List.mem_of_getElem? (i := 221) (by decide +kernel)) rfl
theorem tw462 : Cond.code y_Lk_labelAround prog_6_method_10_code (5 : Nat) (Option.some Jvm.ClassFile.FieldType.int) ∈ tb := tb_t2 _ (List.mem_of_getElem? (i := 222) rfl) rfl
theorem tw463 : Cond.methodLink "ReachFlow$Look" (119 : Nat) y_Lk_loopIn ∈ tb := tb_t2 _ (List.mem_of_getElem? (i := 223) (by decide +kernel)) rfl
theorem tw465 : Cond.instanceMethod y_Lk_loopIn ∈ tb := tb_t2 _ (List.mem_of_getElem? (i := 225) (by decide +kernel)) rfl
theorem tw466 : Cond.code y_Lk_loopIn prog_6_method_11_code (3 : Nat) (Option.some Jvm.ClassFile.FieldType.int) ∈ tb := tb_t2 _ (List.mem_of_getElem? (i := 226) rfl) rfl
theorem tw468 : Cond.static y_Rf_isLoop ∈ tb := tb_t2 _ (List.mem_of_getElem? (i := 228) (by decide +kernel)) rfl
theorem tw469 : Cond.code y_Rf_isLoop prog_1_method_34_code (1 : Nat) (Option.some Jvm.ClassFile.FieldType.boolean) ∈ tb := tb_t2 _ (List.mem_of_getElem? (i := 229) rfl) rfl
theorem tw470 : Cond.methodLink "ReachFlow$Look" (125 : Nat) y_Lk_stopsNameless ∈ tb := tb_t2 _ (List.mem_of_getElem? (i := 230) (by decide +kernel)) rfl
theorem tw471 : Cond.static y_Lk_stopsNameless ∈ tb := tb_t2 _ (List.mem_of_getElem? (i := 231) (by decide +kernel)) rfl
theorem tw472 : Cond.code y_Lk_stopsNameless prog_6_method_9_code (2 : Nat) (Option.some Jvm.ClassFile.FieldType.boolean) ∈ tb := tb_t2 _ (List.mem_of_getElem? (i := 232) rfl) rfl
theorem tw473 : Cond.methodLink "ReachFlow$Look" (83 : Nat) y_Fl_flow ∈ tb := tb_t2 _ (List.mem_of_getElem? (i := 233) (by decide +kernel)) rfl
theorem tw474 : Cond.instanceMethod y_Fl_flow ∈ tb := tb_t2 _ (List.mem_of_getElem? (i := 234) (by decide +kernel)) rfl
theorem tw475 : Cond.sameMethod "ReachFlow$Flow" "ReachFlow$Flow" "flow" "([II[I)V" ∈ tb := tb_t2 _ (List.mem_of_getElem? (i := 235) (by decide +kernel)) rfl
theorem tw476 : Cond.selects "ReachFlow$ByRules" y_Fl_flow y_Fl_flow ∈ tb := tb_t2 _ (List.mem_of_getElem? (i := 236) (by decide +kernel)) rfl
theorem tw477 : Cond.selects "ReachFlow$ByWalks" y_Fl_flow y_Fl_flow ∈ tb := tb_t2 _ (List.mem_of_getElem? (i := 237) (by decide +kernel)) rfl
theorem tw478 : Cond.code y_Fl_flow prog_4_method_7_code (6 : Nat) (Option.none : Option Jvm.ClassFile.FieldType) ∈ tb := tb_t2 _ (List.mem_of_getElem? (i := 238) rfl) rfl
theorem tw479 : Cond.methodLink "ReachFlow$Flow" (43 : Nat) y_Fl_forget ∈ tb := tb_t2 _ (List.mem_of_getElem? (i := 239) (by decide +kernel)) rfl
theorem tw480 : Cond.methodLink "ReachFlow$Flow" (46 : Nat) y_Fl_settle ∈ tb := tb_t3 _ (List.mem_of_getElem? (i := 0) (by decide +kernel)) rfl
theorem tw482 : Cond.instanceMethod y_Fl_settle ∈ tb := tb_t3 _ (List.mem_of_getElem? (i := 2) (by decide +kernel)) rfl
theorem tw483 : Cond.code y_Fl_settle prog_4_method_8_code (3 : Nat) (Option.none : Option Jvm.ClassFile.FieldType) ∈ tb := tb_t3 _ (List.mem_of_getElem? (i := 3) rfl) rfl
theorem tw484 : Cond.methodLink "ReachFlow$Flow" (59 : Nat) y_Fl_wipe ∈ tb := tb_t3 _ (List.mem_of_getElem? (i := 4) (by decide +kernel)) rfl
theorem tw486 : Cond.instanceMethod y_Fl_wipe ∈ tb := tb_t3 _ (List.mem_of_getElem? (i := 6) (by decide +kernel)) rfl
theorem tw487 : Cond.code y_Fl_wipe prog_4_method_9_code (2 : Nat) (Option.none : Option Jvm.ClassFile.FieldType) ∈ tb := tb_t3 _ (List.mem_of_getElem? (i := 7) rfl) rfl
theorem tw488 : Cond.constantLong "ReachFlow$Flow" (79 : Nat) (-1 : Int64) ∈ tb := tb_t3 _ (List.mem_of_getElem? (i := 8) (by decide +kernel)) rfl
theorem tw489 : Cond.methodLink "ReachFlow$Flow" (69 : Nat) y_Fl_thrownAs ∈ tb := tb_t3 _ (List.mem_of_getElem? (i := 9) (by decide +kernel)) rfl
theorem tw491 : Cond.sameMethod "ReachFlow$Flow" "ReachFlow$Flow" "thrownAs" "(I)I" ∈ tb := tb_t3 _ (List.mem_of_getElem? (i := 11) (by decide +kernel)) rfl
theorem tw492 : Cond.selects "ReachFlow$ByRules" y_Fl_thrownAs y_Br_thrownAs ∈ tb := tb_t3 _ (List.mem_of_getElem? (i := 12) (by decide +kernel)) rfl
theorem tw493 : Cond.instanceMethod y_Br_thrownAs ∈ tb := tb_t3 _ (List.mem_of_getElem? (i := 13) (by decide +kernel)) rfl
theorem tw494 : Cond.code y_Br_thrownAs prog_2_method_2_code (2 : Nat) (Option.some Jvm.ClassFile.FieldType.int) ∈ tb := tb_t3 _ (List.mem_of_getElem? (i := 14) rfl) rfl
theorem tw495 : Cond.selects "ReachFlow$ByWalks" y_Fl_thrownAs y_Bw_thrownAs ∈ tb := tb_t3 _ (List.mem_of_getElem? (i := 15) (by decide +kernel)) rfl
theorem tw496 : Cond.instanceMethod y_Bw_thrownAs ∈ tb := tb_t3 _ (List.mem_of_getElem? (i := 16) (by decide +kernel)) rfl
theorem tw497 : Cond.code y_Bw_thrownAs prog_3_method_2_code (2 : Nat) (Option.some Jvm.ClassFile.FieldType.int) ∈ tb := tb_t3 _ (List.mem_of_getElem? (i := 17) rfl) rfl
theorem tw498 : Cond.methodLink "ReachFlow$Flow" (73 : Nat) y_Fl_settleTry ∈ tb := tb_t3 _ (List.mem_of_getElem? (i := 18) (by decide +kernel)) rfl
theorem tw500 : Cond.instanceMethod y_Fl_settleTry ∈ tb := tb_t3 _ (List.mem_of_getElem? (i := 20) (by decide +kernel)) rfl
theorem tw501 : Cond.code y_Fl_settleTry prog_4_method_14_code (7 : Nat) (Option.none : Option Jvm.ClassFile.FieldType) ∈ tb := tb_t3 _ (List.mem_of_getElem? (i := 21) rfl) rfl
theorem tw502 : Cond.methodLink "ReachFlow$Flow" (84 : Nat) y_Tr_kid ∈ tb := tb_t3 _ (List.mem_of_getElem? (i := 22) (by decide +kernel)) rfl
theorem tw503 : Cond.methodLink "ReachFlow$Flow" (92 : Nat) y_Fl_comeTo ∈ tb := tb_t3 _ (List.mem_of_getElem? (i := 23) (by decide +kernel)) rfl
theorem tw505 : Cond.instanceMethod y_Fl_comeTo ∈ tb := tb_t3 _ (List.mem_of_getElem? (i := 25) (by decide +kernel)) rfl
theorem tw506 : Cond.code y_Fl_comeTo prog_4_method_15_code (3 : Nat) (Option.none : Option Jvm.ClassFile.FieldType) ∈ tb := tb_t3 _ (List.mem_of_getElem? (i := 26) rfl) rfl
theorem tw508 : Cond.methodLink "ReachFlow$Flow" (124 : Nat) y_Tr_catchCount ∈ tb := tb_t3 _ (List.mem_of_getElem? (i := 28) (by decide +kernel)) rfl
theorem tw509 : Cond.instanceMethod y_Tr_catchCount ∈ tb := tb_t3 _ (List.mem_of_getElem? (i := 29) (by decide +kernel)) rfl
theorem tw510 : Cond.selects "ReachFlow$Tree" y_Tr_catchCount y_Tr_catchCount ∈ tb := tb_t3 _ (List.mem_of_getElem? (i := 30) (by decide +kernel)) rfl
theorem tw511 : Cond.code y_Tr_catchCount prog_8_method_16_code (2 : Nat) (Option.some Jvm.ClassFile.FieldType.int) ∈ tb := tb_t3 _ (List.mem_of_getElem? (i := 31) rfl) rfl
theorem tw512 : Cond.methodLink "ReachFlow$Flow" (127 : Nat) y_Fl_opensCatch ∈ tb := tb_t3 _ (List.mem_of_getElem? (i := 32) (by decide +kernel)) rfl
theorem tw514 : Cond.sameMethod "ReachFlow$Flow" "ReachFlow$Flow" "opensCatch" "(III)Z" ∈ tb := tb_t3 _ (List.mem_of_getElem? (i := 34) (by decide +kernel)) rfl
theorem tw515 : Cond.selects "ReachFlow$ByRules" y_Fl_opensCatch y_Br_opensCatch ∈ tb := tb_t3 _ (List.mem_of_getElem? (i := 35) (by decide +kernel)) rfl
theorem tw516 : Cond.instanceMethod y_Br_opensCatch ∈ tb := tb_t3 _ (List.mem_of_getElem? (i := 36) (by decide +kernel)) rfl
theorem tw517 : Cond.code y_Br_opensCatch prog_2_method_4_code (5 : Nat) (Option.some Jvm.ClassFile.FieldType.boolean) ∈ tb := tb_t3 _ (List.mem_of_getElem? (i := 37) rfl) rfl
theorem tw519 : Cond.methodLink "ReachFlow$ByRules" (28 : Nat) y_Kn_needsNoThrower ∈ tb := tb_t3 _ (List.mem_of_getElem? (i := 39) (by decide +kernel)) rfl
theorem tw520 : Cond.instanceMethod y_Kn_needsNoThrower ∈ tb := tb_t3 _ (List.mem_of_getElem? (i := 40) (by decide +kernel)) rfl
theorem tw521 : Cond.selects "ReachFlow$Kinds" y_Kn_needsNoThrower y_Kn_needsNoThrower ∈ tb := tb_t3 _ (List.mem_of_getElem? (i := 41) (by decide +kernel)) rfl
theorem tw522 : Cond.code y_Kn_needsNoThrower prog_5_method_5_code (2 : Nat) (Option.some Jvm.ClassFile.FieldType.boolean) ∈ tb := tb_t3 _ (List.mem_of_getElem? (i := 42) rfl) rfl
theorem tw523 : Cond.selects "ReachFlow$ByWalks" y_Fl_opensCatch y_Bw_opensCatch ∈ tb := tb_t3 _ (List.mem_of_getElem? (i := 43) (by decide +kernel)) rfl
theorem tw524 : Cond.instanceMethod y_Bw_opensCatch ∈ tb := tb_t3 _ (List.mem_of_getElem? (i := 44) (by decide +kernel)) rfl
theorem tw525 : Cond.code y_Bw_opensCatch prog_3_method_4_code (4 : Nat) (Option.some Jvm.ClassFile.FieldType.boolean) ∈ tb := tb_t3 _ (List.mem_of_getElem? (i := 45) rfl) rfl
theorem tw526 : Cond.methodLink "ReachFlow$Flow" (112 : Nat) y_Fl_somePartGoesOn ∈ tb := tb_t3 _ (List.mem_of_getElem? (i := 46) (by decide +kernel)) rfl
theorem tw528 : Cond.instanceMethod y_Fl_somePartGoesOn ∈ tb := tb_t3 _ (List.mem_of_getElem? (i := 48) (by decide +kernel)) rfl
theorem tw529 : Cond.code y_Fl_somePartGoesOn prog_4_method_13_code (2 : Nat) (Option.some Jvm.ClassFile.FieldType.boolean) ∈ tb := tb_t3 _ (List.mem_of_getElem? (i := 49) rfl) rfl
theorem tw530 : Cond.methodLink "ReachFlow$Flow" (136 : Nat) y_Fl_opensEnding ∈ tb := tb_t3 _ (List.mem_of_getElem? (i := 50) (by decide +kernel)) rfl
theorem tw532 : Cond.sameMethod "ReachFlow$Flow" "ReachFlow$Flow" "opensEnding" "(I)Z" ∈ tb := tb_t3 _ (List.mem_of_getElem? (i := 52) (by decide +kernel)) rfl
theorem tw533 : Cond.selects "ReachFlow$ByRules" y_Fl_opensEnding y_Br_opensEnding ∈ tb := tb_t3 _ (List.mem_of_getElem? (i := 53) (by decide +kernel)) rfl
theorem tw534 : Cond.instanceMethod y_Br_opensEnding ∈ tb := tb_t3 _ (List.mem_of_getElem? (i := 54) (by decide +kernel)) rfl
theorem tw535 : Cond.code y_Br_opensEnding prog_2_method_5_code (2 : Nat) (Option.some Jvm.ClassFile.FieldType.boolean) ∈ tb := tb_t3 _ (List.mem_of_getElem? (i := 55) rfl) rfl
theorem tw536 : Cond.selects "ReachFlow$ByWalks" y_Fl_opensEnding y_Bw_opensEnding ∈ tb := tb_t3 _ (List.mem_of_getElem? (i := 56) (by decide +kernel)) rfl
theorem tw537 : Cond.instanceMethod y_Bw_opensEnding ∈ tb := tb_t3 _ (List.mem_of_getElem? (i := 57) (by decide +kernel)) rfl
theorem tw538 : Cond.code y_Bw_opensEnding prog_3_method_5_code (2 : Nat) (Option.some Jvm.ClassFile.FieldType.boolean) ∈ tb := tb_t3 _ (List.mem_of_getElem? (i := 58) rfl) rfl
theorem tw539 : Cond.methodLink "ReachFlow$ByWalks" (28 : Nat) ⟨"ReachFlow$ByWalks", "endsSomehow", "(I)Z"⟩ ∈ tb := tb_t3 _ (List.mem_of_getElem? (i := 59) (by decide +kernel)) rfl
theorem tw540 : Cond.sameMethod "ReachFlow$ByWalks" "ReachFlow$Flow" "endsSomehow" "(I)Z" ∈ tb := tb_t3 _ (List.mem_of_getElem? (i := 60) (by decide +kernel)) rfl
theorem tw542 : Cond.selects "ReachFlow$ByWalks" ⟨"ReachFlow$ByWalks", "endsSomehow", "(I)Z"⟩ y_Fl_endsSomehow ∈ tb := tb_t3 _ (List.mem_of_getElem? (i := 62) (by decide +kernel)) rfl
theorem tw543 : Cond.instanceMethod y_Fl_endsSomehow ∈ tb := tb_t3 _ (List.mem_of_getElem? (i := 63) (by decide +kernel)) rfl
theorem tw544 : Cond.code y_Fl_endsSomehow prog_4_method_18_code (2 : Nat) (Option.some Jvm.ClassFile.FieldType.boolean) ∈ tb := tb_t3 _ (List.mem_of_getElem? (i := 64) rfl) rfl
theorem tw545 : Cond.methodLink "ReachFlow$Flow" (95 : Nat) y_Fl_endsNormally ∈ tb := tb_t3 _ (List.mem_of_getElem? (i := 65) (by decide +kernel)) rfl
theorem tw546 : Cond.instanceMethod y_Fl_endsNormally ∈ tb := tb_t3 _ (List.mem_of_getElem? (i := 66) (by decide +kernel)) rfl
theorem tw547 : Cond.sameMethod "ReachFlow$Flow" "ReachFlow$Flow" "endsNormally" "(I)Z" ∈ tb := tb_t3 _ (List.mem_of_getElem? (i := 67) (by decide +kernel)) rfl
theorem tw548 : Cond.selects "ReachFlow$ByRules" y_Fl_endsNormally y_Fl_endsNormally ∈ tb := tb_t3 _ (List.mem_of_getElem? (i := 68) (by decide +kernel)) rfl
theorem tw549 : Cond.selects "ReachFlow$ByWalks" y_Fl_endsNormally y_Fl_endsNormally ∈ tb := tb_t3 _ (List.mem_of_getElem? (i := 69) (by decide +kernel)) rfl
theorem tw550 : Cond.code y_Fl_endsNormally prog_4_method_17_code (2 : Nat) (Option.some Jvm.ClassFile.FieldType.boolean) ∈ tb := tb_t3 _ (List.mem_of_getElem? (i := 70) rfl) rfl
theorem tw551 : Cond.methodLink "ReachFlow$Flow" (76 : Nat) y_Fl_settleWhole ∈ tb := tb_t3 _ (List.mem_of_getElem? (i := 71) (by decide +kernel)) rfl
theorem tw553 : Cond.instanceMethod y_Fl_settleWhole ∈ tb := tb_t3 _ (List.mem_of_getElem? (i := 73) (by decide +kernel)) rfl
theorem tw554 : Cond.code y_Fl_settleWhole prog_4_method_10_code (6 : Nat) (Option.none : Option Jvm.ClassFile.FieldType) ∈ tb := tb_t3 _ (List.mem_of_getElem? (i := 74) rfl) rfl
theorem tw555 : Cond.methodLink "ReachFlow$Flow" (88 : Nat) y_Fl_opensPart ∈ tb := tb_t3 _ (List.mem_of_getElem? (i := 75) (by decide +kernel)) rfl
theorem tw557 : Cond.instanceMethod y_Fl_opensPart ∈ tb := tb_t3 _ (List.mem_of_getElem? (i := 77) (by decide +kernel)) rfl
theorem tw558 : Cond.code y_Fl_opensPart prog_4_method_11_code (5 : Nat) (Option.some Jvm.ClassFile.FieldType.boolean) ∈ tb := tb_t3 _ (List.mem_of_getElem? (i := 78) rfl) rfl
theorem tw559 : Cond.methodLink "ReachFlow$Flow" (103 : Nat) y_Fl_testOfIf ∈ tb := tb_t3 _ (List.mem_of_getElem? (i := 79) (by decide +kernel)) rfl
theorem tw561 : Cond.sameMethod "ReachFlow$Flow" "ReachFlow$Flow" "testOfIf" "(I)I" ∈ tb := tb_t3 _ (List.mem_of_getElem? (i := 81) (by decide +kernel)) rfl
theorem tw562 : Cond.selects "ReachFlow$ByRules" y_Fl_testOfIf y_Br_testOfIf ∈ tb := tb_t3 _ (List.mem_of_getElem? (i := 82) (by decide +kernel)) rfl
theorem tw563 : Cond.instanceMethod y_Br_testOfIf ∈ tb := tb_t3 _ (List.mem_of_getElem? (i := 83) (by decide +kernel)) rfl
theorem tw564 : Cond.code y_Br_testOfIf prog_2_method_3_code (2 : Nat) (Option.some Jvm.ClassFile.FieldType.int) ∈ tb := tb_t3 _ (List.mem_of_getElem? (i := 84) rfl) rfl
theorem tw565 : Cond.selects "ReachFlow$ByWalks" y_Fl_testOfIf y_Bw_testOfIf ∈ tb := tb_t3 _ (List.mem_of_getElem? (i := 85) (by decide +kernel)) rfl
theorem tw566 : Cond.instanceMethod y_Bw_testOfIf ∈ tb := tb_t3 _ (List.mem_of_getElem? (i := 86) (by decide +kernel)) rfl
theorem tw567 : Cond.code y_Bw_testOfIf prog_3_method_3_code (2 : Nat) (Option.some Jvm.ClassFile.FieldType.int) ∈ tb := tb_t3 _ (List.mem_of_getElem? (i := 87) rfl) rfl
theorem tw568 : Cond.methodLink "ReachFlow$Flow" (106 : Nat) y_Tr_testOf ∈ tb := tb_t3 _ (List.mem_of_getElem? (i := 88) (by decide +kernel)) rfl
theorem tw569 : Cond.instanceMethod y_Tr_testOf ∈ tb := tb_t3 _ (List.mem_of_getElem? (i := 89) (by decide +kernel)) rfl
theorem tw570 : Cond.selects "ReachFlow$Tree" y_Tr_testOf y_Tr_testOf ∈ tb := tb_t3 _ (List.mem_of_getElem? (i := 90) (by decide +kernel)) rfl
theorem tw571 : Cond.code y_Tr_testOf prog_8_method_15_code (2 : Nat) (Option.some Jvm.ClassFile.FieldType.int) ∈ tb := tb_t3 _ (List.mem_of_getElem? (i := 91) rfl) rfl
theorem tw572 : Cond.methodLink "ReachFlow$Flow" (99 : Nat) y_Fl_goesPast ∈ tb := tb_t3 _ (List.mem_of_getElem? (i := 92) (by decide +kernel)) rfl
theorem tw574 : Cond.instanceMethod y_Fl_goesPast ∈ tb := tb_t3 _ (List.mem_of_getElem? (i := 94) (by decide +kernel)) rfl
theorem tw575 : Cond.code y_Fl_goesPast prog_4_method_12_code (3 : Nat) (Option.some Jvm.ClassFile.FieldType.boolean) ∈ tb := tb_t3 _ (List.mem_of_getElem? (i := 95) rfl) rfl
theorem tw576 : Cond.methodLink "ReachFlow$Flow" (115 : Nat) y_Tr_hasDefault ∈ tb := tb_t3 _ (List.mem_of_getElem? (i := 96) (by decide +kernel)) rfl
theorem tw577 : Cond.instanceMethod y_Tr_hasDefault ∈ tb := tb_t3 _ (List.mem_of_getElem? (i := 97) (by decide +kernel)) rfl
theorem tw578 : Cond.selects "ReachFlow$Tree" y_Tr_hasDefault y_Tr_hasDefault ∈ tb := tb_t3 _ (List.mem_of_getElem? (i := 98) (by decide +kernel)) rfl
theorem tw579 : Cond.code y_Tr_hasDefault prog_8_method_14_code (2 : Nat) (Option.some Jvm.ClassFile.FieldType.boolean) ∈ tb := tb_t3 _ (List.mem_of_getElem? (i := 99) rfl) rfl
theorem tw580 : Cond.methodLink "ReachFlow$Look" (87 : Nat) y_Lk_listFaults ∈ tb := tb_t3 _ (List.mem_of_getElem? (i := 100) (by decide +kernel)) rfl
theorem tw582 : Cond.instanceMethod y_Lk_listFaults ∈ tb := tb_t3 _ (List.mem_of_getElem? (i := 102) (by decide +kernel)) rfl
theorem tw583 : Cond.code y_Lk_listFaults prog_6_method_12_code (3 : Nat) (Option.none : Option Jvm.ClassFile.FieldType) ∈ tb := tb_t3 _ (List.mem_of_getElem? (i := 103) rfl) rfl
theorem tw584 : Cond.methodLink "ReachFlow$Look" (132 : Nat) y_Lk_listPlaceFault ∈ tb := tb_t3 _ (List.mem_of_getElem? (i := 104) (by decide +kernel)) rfl
theorem tw586 : Cond.instanceMethod y_Lk_listPlaceFault ∈ tb := tb_t3 _ (List.mem_of_getElem? (i := 106) (by decide +kernel)) rfl
theorem tw587 : Cond.code y_Lk_listPlaceFault prog_6_method_13_code (4 : Nat) (Option.none : Option Jvm.ClassFile.FieldType) ∈ tb := tb_t3 _ (List.mem_of_getElem? (i := 107) rfl) rfl
theorem tw588 : Cond.methodLink "ReachFlow$Look" (140 : Nat) y_Fl_meets ∈ tb := tb_t3 _ (List.mem_of_getElem? (i := 108) (by decide +kernel)) rfl
theorem tw589 : Cond.instanceMethod y_Fl_meets ∈ tb := tb_t3 _ (List.mem_of_getElem? (i := 109) (by decide +kernel)) rfl
theorem tw590 : Cond.sameMethod "ReachFlow$Flow" "ReachFlow$Flow" "meets" "(I)Z" ∈ tb := tb_t3 _ (List.mem_of_getElem? (i := 110) (by decide +kernel)) rfl
theorem tw591 : Cond.selects "ReachFlow$ByRules" y_Fl_meets y_Fl_meets ∈ tb := tb_t3 _ (List.mem_of_getElem? (i := 111) (by decide +kernel)) rfl
theorem tw592 : Cond.selects "ReachFlow$ByWalks" y_Fl_meets y_Fl_meets ∈ tb := tb_t3 _ (List.mem_of_getElem? (i := 112) (by decide +kernel)) rfl
theorem tw593 : Cond.code y_Fl_meets prog_4_method_16_code (2 : Nat) (Option.some Jvm.ClassFile.FieldType.boolean) ∈ tb := tb_t3 _ (List.mem_of_getElem? (i := 113) rfl) rfl
theorem tw594 : Cond.methodLink "ReachFlow$Look" (143 : Nat) y_Tr_isCatch ∈ tb := tb_t3 _ (List.mem_of_getElem? (i := 114) (by decide +kernel)) rfl
theorem tw595 : Cond.instanceMethod y_Tr_isCatch ∈ tb := tb_t3 _ (List.mem_of_getElem? (i := 115) (by decide +kernel)) rfl
theorem tw596 : Cond.selects "ReachFlow$Tree" y_Tr_isCatch y_Tr_isCatch ∈ tb := tb_t3 _ (List.mem_of_getElem? (i := 116) (by decide +kernel)) rfl
theorem tw597 : Cond.code y_Tr_isCatch prog_8_method_17_code (2 : Nat) (Option.some Jvm.ClassFile.FieldType.boolean) ∈ tb := tb_t3 _ (List.mem_of_getElem? (i := 117) rfl) rfl
theorem tw598 : Cond.methodLink "ReachFlow$Look" (146 : Nat) y_Tr_kidBefore ∈ tb := tb_t3 _ (List.mem_of_getElem? (i := 118) (by decide +kernel)) rfl
theorem tw599 : Cond.instanceMethod y_Tr_kidBefore ∈ tb := tb_t3 _ (List.mem_of_getElem? (i := 119) (by decide +kernel)) rfl
theorem tw600 : Cond.selects "ReachFlow$Tree" y_Tr_kidBefore y_Tr_kidBefore ∈ tb := tb_t3 _ (List.mem_of_getElem? (i := 120) (by decide +kernel)) rfl
theorem tw601 : Cond.code y_Tr_kidBefore prog_8_method_13_code (2 : Nat) (Option.some Jvm.ClassFile.FieldType.int) ∈ tb := tb_t3 _ (List.mem_of_getElem? (i := 121) rfl) rfl
theorem tw602 : Cond.methodLink "ReachFlow$Look" (136 : Nat) y_Lk_addFault ∈ tb := tb_t3 _ (List.mem_of_getElem? (i := 122) (by decide +kernel)) rfl
theorem tw604 : Cond.instanceMethod y_Lk_addFault ∈ tb := tb_t3 _ (List.mem_of_getElem? (i := 124) (by decide +kernel)) rfl
theorem tw605 : Cond.code y_Lk_addFault prog_6_method_15_code (3 : Nat) (Option.none : Option Jvm.ClassFile.FieldType) ∈ tb := tb_t3 _ (List.mem_of_getElem? (i := 125) rfl) rfl
theorem tw606 : Cond.methodLink "ReachFlow$Look" (149 : Nat) y_Lk_isCaughtBefore ∈ tb := tb_t3 _ (List.mem_of_getElem? (i := 126) (by decide +kernel)) rfl
theorem tw608 : Cond.instanceMethod y_Lk_isCaughtBefore ∈ tb := tb_t3 _ (List.mem_of_getElem? (i := 128) (by decide +kernel)) rfl
theorem tw609 : Cond.code y_Lk_isCaughtBefore prog_6_method_14_code (5 : Nat) (Option.some Jvm.ClassFile.FieldType.boolean) ∈ tb := tb_t3 _ (List.mem_of_getElem? (i := 129) rfl) rfl
theorem tw610 : Cond.methodLink "ReachFlow$Look" (160 : Nat) y_Tr_catchCount ∈ tb := tb_t3 _ (List.mem_of_getElem? (i := 130) (by decide +kernel)) rfl
theorem tw612 : Cond.methodLink "ReachFlow$Look" (90 : Nat) y_Lk_listNotes ∈ tb := tb_t3 _ (List.mem_of_getElem? (i := 132) (by decide +kernel)) rfl
theorem tw614 : Cond.instanceMethod y_Lk_listNotes ∈ tb := tb_t3 _ (List.mem_of_getElem? (i := 134) (by decide +kernel)) rfl
theorem tw615 : Cond.code y_Lk_listNotes prog_6_method_16_code (3 : Nat) (Option.none : Option Jvm.ClassFile.FieldType) ∈ tb := tb_t3 _ (List.mem_of_getElem? (i := 135) rfl) rfl
theorem tw632 : Cond.methodLink "ReachFlow" (176 : Nat) y_Fl_meets ∈ tb := tb_t3 _ (List.mem_of_getElem? (i := 152) (by decide +kernel)) rfl
theorem tw637 : Cond.methodLink "ReachFlow" (181 : Nat) y_Fl_endsNormally ∈ tb := tb_t3 _ (List.mem_of_getElem? (i := 157) (by decide +kernel)) rfl
theorem tw642 : Cond.methodLink "ReachFlow" (187 : Nat) y_Rf_isIn ∈ tb := tb_t3 _ (List.mem_of_getElem? (i := 162) (by decide +kernel)) rfl
theorem tw655 : Cond.methodLink "ReachFlow" (197 : Nat) y_Rf_fitsWhich ∈ tb := tb_t3 _ (List.mem_of_getElem? (i := 175) (by decide +kernel)) rfl
theorem tw657 : Cond.instanceMethod y_Rf_fitsWhich ∈ tb := tb_t3 _ (List.mem_of_getElem? (i := 177) (by decide +kernel)) rfl
theorem tw658 : Cond.code y_Rf_fitsWhich prog_1_method_30_code (3 : Nat) (Option.some Jvm.ClassFile.FieldType.boolean) ∈ tb := tb_t3 _ (List.mem_of_getElem? (i := 178) rfl) rfl
theorem tw659 : Cond.methodLink "ReachFlow" (200 : Nat) y_Fl_endsBy ∈ tb := tb_t3 _ (List.mem_of_getElem? (i := 179) (by decide +kernel)) rfl
theorem tw660 : Cond.instanceMethod y_Fl_endsBy ∈ tb := tb_t3 _ (List.mem_of_getElem? (i := 180) (by decide +kernel)) rfl
theorem tw661 : Cond.sameMethod "ReachFlow$Flow" "ReachFlow$Flow" "endsBy" "(III)Z" ∈ tb := tb_t3 _ (List.mem_of_getElem? (i := 181) (by decide +kernel)) rfl
theorem tw663 : Cond.selects "ReachFlow$ByWalks" y_Fl_endsBy y_Fl_endsBy ∈ tb := tb_t3 _ (List.mem_of_getElem? (i := 183) (by decide +kernel)) rfl
theorem tw664 : Cond.code y_Fl_endsBy prog_4_method_19_code (4 : Nat) (Option.some Jvm.ClassFile.FieldType.boolean) ∈ tb := tb_t3 _ (List.mem_of_getElem? (i := 184) rfl) rfl
theorem tw669 : Cond.methodLink "ReachFlow" (204 : Nat) y_Rf_judge ∈ tb := tb_t3 _ (List.mem_of_getElem? (i := 189) (by decide +kernel)) rfl
theorem tw671 : Cond.instanceMethod y_Rf_judge ∈ tb := tb_t3 _ (List.mem_of_getElem? (i := 191) (by decide +kernel)) rfl
theorem tw672 : Cond.code y_Rf_judge prog_1_method_32_code (6 : Nat) (Option.some Jvm.ClassFile.FieldType.int) ∈ tb := tb_t3 _ (List.mem_of_getElem? (i := 192) rfl) rfl
theorem tw673 : Cond.methodLink "ReachFlow" (207 : Nat) y_Lk_hasReturn ∈ tb := tb_t3 _ (List.mem_of_getElem? (i := 193) (by decide +kernel)) rfl
theorem tw674 : Cond.instanceMethod y_Lk_hasReturn ∈ tb := tb_t3 _ (List.mem_of_getElem? (i := 194) (by decide +kernel)) rfl
theorem tw675 : Cond.selects "ReachFlow$Look" y_Lk_hasReturn y_Lk_hasReturn ∈ tb := tb_t3 _ (List.mem_of_getElem? (i := 195) (by decide +kernel)) rfl
theorem tw676 : Cond.code y_Lk_hasReturn prog_6_method_17_code (3 : Nat) (Option.some Jvm.ClassFile.FieldType.boolean) ∈ tb := tb_t3 _ (List.mem_of_getElem? (i := 196) rfl) rfl
theorem tw683 : Cond.methodLink "ReachFlowModel" (80 : Nat) y_Md_begin ∈ tb := tb_t3 _ (List.mem_of_getElem? (i := 203) (by decide +kernel)) rfl
theorem tw685 : Cond.instanceMethod y_Md_begin ∈ tb := tb_t3 _ (List.mem_of_getElem? (i := 205) (by decide +kernel)) rfl
theorem tw686 : Cond.code y_Md_begin prog_10_method_2_code (1 : Nat) (Option.none : Option Jvm.ClassFile.FieldType) ∈ tb := tb_t3 _ (List.mem_of_getElem? (i := 206) rfl) rfl
theorem tw687 : Cond.fieldLink "ReachFlowModel" (83 : Nat) "ReachFlowModel" "kinds" "I" ∈ tb := tb_t3 _ (List.mem_of_getElem? (i := 207) (by decide +kernel)) rfl
theorem tw688 : Cond.fieldLink "ReachFlowModel" (7 : Nat) "ReachFlowModel" "above" "[I" ∈ tb := tb_t3 _ (List.mem_of_getElem? (i := 208) (by decide +kernel)) rfl
theorem tw689 : Cond.fieldLink "ReachFlowModel" (87 : Nat) "ReachFlowModel" "nodes" "I" ∈ tb := tb_t3 _ (List.mem_of_getElem? (i := 209) (by decide +kernel)) rfl
theorem tw690 : Cond.fieldLink "ReachFlowModel" (13 : Nat) "ReachFlowModel" "sort" "[I" ∈ tb := tb_t3 _ (List.mem_of_getElem? (i := 210) (by decide +kernel)) rfl
theorem tw691 : Cond.fieldLink "ReachFlowModel" (16 : Nat) "ReachFlowModel" "given" "[I" ∈ tb := tb_t3 _ (List.mem_of_getElem? (i := 211) (by decide +kernel)) rfl
theorem tw692 : Cond.fieldLink "ReachFlowModel" (19 : Nat) "ReachFlowModel" "partOf" "[I" ∈ tb := tb_t3 _ (List.mem_of_getElem? (i := 212) (by decide +kernel)) rfl
theorem tw693 : Cond.fieldLink "ReachFlowModel" (22 : Nat) "ReachFlowModel" "mark" "[I" ∈ tb := tb_t3 _ (List.mem_of_getElem? (i := 213) (by decide +kernel)) rfl
theorem tw694 : Cond.fieldLink "ReachFlowModel" (25 : Nat) "ReachFlowModel" "first" "[I" ∈ tb := tb_t3 _ (List.mem_of_getElem? (i := 214) (by decide +kernel)) rfl
theorem tw695 : Cond.fieldLink "ReachFlowModel" (28 : Nat) "ReachFlowModel" "last" "[I" ∈ tb := tb_t3 _ (List.mem_of_getElem? (i := 215) (by decide +kernel)) rfl
theorem tw696 : Cond.fieldLink "ReachFlowModel" (31 : Nat) "ReachFlowModel" "next" "[I" ∈ tb := tb_t3 _ (List.mem_of_getElem? (i := 216) (by decide +kernel)) rfl
theorem tw697 : Cond.fieldLink "ReachFlowModel" (34 : Nat) "ReachFlowModel" "before" "[I" ∈ tb := tb_t3 _ (List.mem_of_getElem? (i := 217) (by decide +kernel)) rfl
theorem tw698 : Cond.fieldLink "ReachFlowModel" (37 : Nat) "ReachFlowModel" "hasEnding" "[Z" ∈ tb := tb_t3 _ (List.mem_of_getElem? (i := 218) (by decide +kernel)) rfl
theorem tw699 : Cond.fieldLink "ReachFlowModel" (41 : Nat) "ReachFlowModel" "endMark" "[I" ∈ tb := tb_t3 _ (List.mem_of_getElem? (i := 219) (by decide +kernel)) rfl
theorem tw700 : Cond.fieldLink "ReachFlowModel" (44 : Nat) "ReachFlowModel" "inRow" "[Z" ∈ tb := tb_t3 _ (List.mem_of_getElem? (i := 220) (by decide +kernel)) rfl
theorem tw701 : Cond.fieldLink "ReachFlowModel" (90 : Nat) "ReachFlowModel" "rowKind" "I" ∈ tb := tb_t3 _ (List.mem_of_getElem? (i := 221) (by decide +kernel)) rfl
theorem tw702 : Cond.fieldLink "ReachFlowModel" (122 : Nat) "ReachFlowModel" "rowFirst" "I" ∈ tb := tb_t3 _ (List.mem_of_getElem? (i := 222) (by decide +kernel)) rfl
theorem tw703 : Cond.fieldLink "ReachFlowModel" (125 : Nat) "ReachFlowModel" "rowLast" "I" ∈ tb := tb_t3 _ (List.mem_of_getElem? (i := 223) (by decide +kernel)) rfl
theorem tw704 : Cond.fieldLink "ReachFlowModel" (128 : Nat) "ReachFlowModel" "rowCount" "I" ∈ tb := tb_t3 _ (List.mem_of_getElem? (i := 224) (by decide +kernel)) rfl
theorem tw705 : Cond.fieldLink "ReachFlowModel" (93 : Nat) "ReachFlowModel" "root" "I" ∈ tb := tb_t3 _ (List.mem_of_getElem? (i := 225) (by decide +kernel)) rfl
theorem tw706 : Cond.fieldLink "ReachFlowModel" (142 : Nat) "ReachFlowModel" "rooted" "I" ∈ tb := tb_t3 _ (List.mem_of_getElem? (i := 226) (by decide +kernel)) rfl
theorem tw707 : Cond.fieldLink "ReachFlowModel" (167 : Nat) "ReachFlowModel" "knownKinds" "I" ∈ tb := tb_t3 _ (List.mem_of_getElem? (i := 227) (by decide +kernel)) rfl
theorem tw708 : Cond.fieldLink "ReachFlowModel" (47 : Nat) "ReachFlowModel" "order" "[I" ∈ tb := tb_t3 _ (List.mem_of_getElem? (i := 228) (by decide +kernel)) rfl
theorem tw709 : Cond.fieldLink "ReachFlowModel" (50 : Nat) "ReachFlowModel" "inRoot" "[Z" ∈ tb := tb_t3 _ (List.mem_of_getElem? (i := 229) (by decide +kernel)) rfl
theorem tw710 : Cond.fieldLink "ReachFlowModel" (53 : Nat) "ReachFlowModel" "targets" "[I" ∈ tb := tb_t3 _ (List.mem_of_getElem? (i := 230) (by decide +kernel)) rfl
theorem tw711 : Cond.fieldLink "ReachFlowModel" (56 : Nat) "ReachFlowModel" "isReached" "[Z" ∈ tb := tb_t3 _ (List.mem_of_getElem? (i := 231) (by decide +kernel)) rfl
theorem tw712 : Cond.fieldLink "ReachFlowModel" (59 : Nat) "ReachFlowModel" "isComplete" "[Z" ∈ tb := tb_t3 _ (List.mem_of_getElem? (i := 232) (by decide +kernel)) rfl
theorem tw713 : Cond.fieldLink "ReachFlowModel" (62 : Nat) "ReachFlowModel" "throwable" "[Z" ∈ tb := tb_t3 _ (List.mem_of_getElem? (i := 233) (by decide +kernel)) rfl
theorem tw714 : Cond.fieldLink "ReachFlowModel" (65 : Nat) "ReachFlowModel" "isCome" "[Z" ∈ tb := tb_t3 _ (List.mem_of_getElem? (i := 234) (by decide +kernel)) rfl
theorem tw715 : Cond.fieldLink "ReachFlowModel" (68 : Nat) "ReachFlowModel" "ended" "[Z" ∈ tb := tb_t3 _ (List.mem_of_getElem? (i := 235) (by decide +kernel)) rfl
theorem tw716 : Cond.fieldLink "ReachFlowModel" (182 : Nat) "ReachFlowModel" "isNew" "Z" ∈ tb := tb_t3 _ (List.mem_of_getElem? (i := 236) (by decide +kernel)) rfl
theorem tw717 : Cond.fieldLink "ReachFlowModel" (232 : Nat) "ReachFlowModel" "faults" "I" ∈ tb := tb_t3 _ (List.mem_of_getElem? (i := 237) (by decide +kernel)) rfl
theorem tw718 : Cond.fieldLink "ReachFlowModel" (71 : Nat) "ReachFlowModel" "faultKind" "[I" ∈ tb := tb_t3 _ (List.mem_of_getElem? (i := 238) (by decide +kernel)) rfl
theorem tw719 : Cond.fieldLink "ReachFlowModel" (74 : Nat) "ReachFlowModel" "faultNode" "[I" ∈ tb := tb_t3 _ (List.mem_of_getElem? (i := 239) (by decide +kernel)) rfl
theorem tw720 : Cond.fieldLink "ReachFlowModel" (245 : Nat) "ReachFlowModel" "noted" "I" ∈ tb := tb_t4 _ (List.mem_of_getElem? (i := 0) (by decide +kernel)) rfl
theorem tw721 : Cond.fieldLink "ReachFlowModel" (77 : Nat) "ReachFlowModel" "notes" "[I" ∈ tb := tb_t4 _ (List.mem_of_getElem? (i := 1) (by decide +kernel)) rfl
theorem tw722 : Cond.lays "ReachFlowModel" "ReachFlowModel" "kinds" "I" ∈ tb := tb_t4 _ (List.mem_of_getElem? (i := 2) (by decide +kernel)) rfl
theorem tw724 : Cond.laysFinal "ReachFlowModel" "ReachFlowModel" "above" "[I" ∈ tb := tb_t4 _ (List.mem_of_getElem? (i := 4) (by decide +kernel)) rfl
theorem tw726 : Cond.lays "ReachFlowModel" "ReachFlowModel" "nodes" "I" ∈ tb := tb_t4 _ (List.mem_of_getElem? (i := 6) (by decide +kernel)) rfl
theorem tw728 : Cond.laysFinal "ReachFlowModel" "ReachFlowModel" "sort" "[I" ∈ tb := tb_t4 _ (List.mem_of_getElem? (i := 8) (by decide +kernel)) rfl
theorem tw730 : Cond.laysFinal "ReachFlowModel" "ReachFlowModel" "given" "[I" ∈ tb := tb_t4 _ (List.mem_of_getElem? (i := 10) (by decide +kernel)) rfl
theorem tw732 : Cond.laysFinal "ReachFlowModel" "ReachFlowModel" "partOf" "[I" ∈ tb := tb_t4 _ (List.mem_of_getElem? (i := 12) (by decide +kernel)) rfl
theorem tw734 : Cond.laysFinal "ReachFlowModel" "ReachFlowModel" "mark" "[I" ∈ tb := tb_t4 _ (List.mem_of_getElem? (i := 14) (by decide +kernel)) rfl
theorem tw736 : Cond.laysFinal "ReachFlowModel" "ReachFlowModel" "first" "[I" ∈ tb := tb_t4 _ (List.mem_of_getElem? (i := 16) (by decide +kernel)) rfl
theorem tw738 : Cond.laysFinal "ReachFlowModel" "ReachFlowModel" "last" "[I" ∈ tb := tb_t4 _ (List.mem_of_getElem? (i := 18) (by decide +kernel)) rfl
theorem tw740 : Cond.laysFinal "ReachFlowModel" "ReachFlowModel" "next" "[I" ∈ tb := tb_t4 _ (List.mem_of_getElem? (i := 20) (by decide +kernel)) rfl
theorem tw742 : Cond.laysFinal "ReachFlowModel" "ReachFlowModel" "before" "[I" ∈ tb := tb_t4 _ (List.mem_of_getElem? (i := 22) (by decide +kernel)) rfl
theorem tw744 : Cond.laysFinal "ReachFlowModel" "ReachFlowModel" "hasEnding" "[Z" ∈ tb := tb_t4 _ (List.mem_of_getElem? (i := 24) (by decide +kernel)) rfl
theorem tw746 : Cond.laysFinal "ReachFlowModel" "ReachFlowModel" "endMark" "[I" ∈ tb := tb_t4 _ (List.mem_of_getElem? (i := 26) (by decide +kernel)) rfl
theorem tw748 : Cond.laysFinal "ReachFlowModel" "ReachFlowModel" "inRow" "[Z" ∈ tb := tb_t4 _ (List.mem_of_getElem? (i := 28) (by decide +kernel)) rfl
theorem tw750 : Cond.lays "ReachFlowModel" "ReachFlowModel" "rowKind" "I" ∈ tb := tb_t4 _ (List.mem_of_getElem? (i := 30) (by decide +kernel)) rfl
theorem tw752 : Cond.lays "ReachFlowModel" "ReachFlowModel" "rowFirst" "I" ∈ tb := tb_t4 _ (List.mem_of_getElem? (i := 32) (by decide +kernel)) rfl
theorem tw754 : Cond.lays "ReachFlowModel" "ReachFlowModel" "rowLast" "I" ∈ tb := tb_t4 _ (List.mem_of_getElem? (i := 34) (by decide +kernel)) rfl
theorem tw756 : Cond.lays "ReachFlowModel" "ReachFlowModel" "rowCount" "I" ∈ tb := tb_t4 _ (List.mem_of_getElem? (i := 36) (by decide +kernel)) rfl
theorem tw758 : Cond.lays "ReachFlowModel" "ReachFlowModel" "root" "I" ∈ tb := tb_t4 _ (List.mem_of_getElem? (i := 38) (by decide +kernel)) rfl
theorem tw760 : Cond.lays "ReachFlowModel" "ReachFlowModel" "rooted" "I" ∈ tb := tb_t4 _ (List.mem_of_getElem? (i := 40) (by decide +kernel)) rfl
theorem tw762 : Cond.lays "ReachFlowModel" "ReachFlowModel" "knownKinds" "I" ∈ tb := tb_t4 _ (List.mem_of_getElem? (i := 42) (by decide +kernel)) rfl
theorem tw764 : Cond.laysFinal "ReachFlowModel" "ReachFlowModel" "order" "[I" ∈ tb := tb_t4 _ (List.mem_of_getElem? (i := 44) (by decide +kernel)) rfl
theorem tw766 : Cond.laysFinal "ReachFlowModel" "ReachFlowModel" "inRoot" "[Z" ∈ tb := tb_t4 _ (List.mem_of_getElem? (i := 46) (by decide +kernel)) rfl
theorem tw768 : Cond.laysFinal "ReachFlowModel" "ReachFlowModel" "targets" "[I" ∈ tb := tb_t4 _ (List.mem_of_getElem? (i := 48) (by decide +kernel)) rfl
theorem tw770 : Cond.laysFinal "ReachFlowModel" "ReachFlowModel" "isReached" "[Z" ∈ tb := tb_t4 _ (List.mem_of_getElem? (i := 50) (by decide +kernel)) rfl
theorem tw772 : Cond.laysFinal "ReachFlowModel" "ReachFlowModel" "isComplete" "[Z" ∈ tb := tb_t4 _ (List.mem_of_getElem? (i := 52) (by decide +kernel)) rfl
theorem tw774 : Cond.laysFinal "ReachFlowModel" "ReachFlowModel" "throwable" "[Z" ∈ tb := tb_t4 _ (List.mem_of_getElem? (i := 54) (by decide +kernel)) rfl
theorem tw776 : Cond.laysFinal "ReachFlowModel" "ReachFlowModel" "isCome" "[Z" ∈ tb := tb_t4 _ (List.mem_of_getElem? (i := 56) (by decide +kernel)) rfl
theorem tw778 : Cond.laysFinal "ReachFlowModel" "ReachFlowModel" "ended" "[Z" ∈ tb := tb_t4 _ (List.mem_of_getElem? (i := 58) (by decide +kernel)) rfl
theorem tw780 : Cond.lays "ReachFlowModel" "ReachFlowModel" "isNew" "Z" ∈ tb := tb_t4 _ (List.mem_of_getElem? (i := 60) (by decide +kernel)) rfl
theorem tw782 : Cond.lays "ReachFlowModel" "ReachFlowModel" "faults" "I" ∈ tb := tb_t4 _ (List.mem_of_getElem? (i := 62) (by decide +kernel)) rfl
theorem tw784 : Cond.laysFinal "ReachFlowModel" "ReachFlowModel" "faultKind" "[I" ∈ tb := tb_t4 _ (List.mem_of_getElem? (i := 64) (by decide +kernel)) rfl
theorem tw786 : Cond.laysFinal "ReachFlowModel" "ReachFlowModel" "faultNode" "[I" ∈ tb := tb_t4 _ (List.mem_of_getElem? (i := 66) (by decide +kernel)) rfl
theorem tw788 : Cond.lays "ReachFlowModel" "ReachFlowModel" "noted" "I" ∈ tb := tb_t4 _ (List.mem_of_getElem? (i := 68) (by decide +kernel)) rfl
theorem tw790 : Cond.laysFinal "ReachFlowModel" "ReachFlowModel" "notes" "[I" ∈ tb := tb_t4 _ (List.mem_of_getElem? (i := 70) (by decide +kernel)) rfl
theorem tw802 : Cond.methodLink "ReachFlowModel" (104 : Nat) y_Md_isKind ∈ tb := tb_t4 _ (List.mem_of_getElem? (i := 82) (by decide +kernel)) rfl
theorem tw804 : Cond.instanceMethod y_Md_isKind ∈ tb := tb_t4 _ (List.mem_of_getElem? (i := 84) (by decide +kernel)) rfl
theorem tw805 : Cond.code y_Md_isKind prog_10_method_5_code (2 : Nat) (Option.some Jvm.ClassFile.FieldType.boolean) ∈ tb := tb_t4 _ (List.mem_of_getElem? (i := 85) rfl) rfl
theorem tw806 : Cond.methodLink "ReachFlowModel" (96 : Nat) y_Md_isIn ∈ tb := tb_t4 _ (List.mem_of_getElem? (i := 86) (by decide +kernel)) rfl
theorem tw807 : Cond.static y_Md_isIn ∈ tb := tb_t4 _ (List.mem_of_getElem? (i := 87) (by decide +kernel)) rfl
theorem tw808 : Cond.code y_Md_isIn prog_10_method_4_code (3 : Nat) (Option.some Jvm.ClassFile.FieldType.boolean) ∈ tb := tb_t4 _ (List.mem_of_getElem? (i := 88) rfl) rfl
theorem tw813 : Cond.methodLink "ReachFlowModel" (110 : Nat) y_Md_mayBe ∈ tb := tb_t4 _ (List.mem_of_getElem? (i := 93) (by decide +kernel)) rfl
theorem tw815 : Cond.instanceMethod y_Md_mayBe ∈ tb := tb_t4 _ (List.mem_of_getElem? (i := 95) (by decide +kernel)) rfl
theorem tw816 : Cond.code y_Md_mayBe prog_10_method_12_code (7 : Nat) (Option.some Jvm.ClassFile.FieldType.boolean) ∈ tb := tb_t4 _ (List.mem_of_getElem? (i := 96) rfl) rfl
theorem tw817 : Cond.methodLink "ReachFlowModel" (107 : Nat) y_Md_isFree ∈ tb := tb_t4 _ (List.mem_of_getElem? (i := 97) (by decide +kernel)) rfl
theorem tw819 : Cond.instanceMethod y_Md_isFree ∈ tb := tb_t4 _ (List.mem_of_getElem? (i := 99) (by decide +kernel)) rfl
theorem tw820 : Cond.code y_Md_isFree prog_10_method_7_code (2 : Nat) (Option.some Jvm.ClassFile.FieldType.boolean) ∈ tb := tb_t4 _ (List.mem_of_getElem? (i := 100) rfl) rfl
theorem tw821 : Cond.methodLink "ReachFlowModel" (100 : Nat) y_Md_isNode ∈ tb := tb_t4 _ (List.mem_of_getElem? (i := 101) (by decide +kernel)) rfl
theorem tw823 : Cond.instanceMethod y_Md_isNode ∈ tb := tb_t4 _ (List.mem_of_getElem? (i := 103) (by decide +kernel)) rfl
theorem tw824 : Cond.code y_Md_isNode prog_10_method_6_code (2 : Nat) (Option.some Jvm.ClassFile.FieldType.boolean) ∈ tb := tb_t4 _ (List.mem_of_getElem? (i := 104) rfl) rfl
theorem tw825 : Cond.methodLink "ReachFlowModel" (114 : Nat) y_Md_make ∈ tb := tb_t4 _ (List.mem_of_getElem? (i := 105) (by decide +kernel)) rfl
theorem tw827 : Cond.instanceMethod y_Md_make ∈ tb := tb_t4 _ (List.mem_of_getElem? (i := 107) (by decide +kernel)) rfl
theorem tw828 : Cond.code y_Md_make prog_10_method_10_code (4 : Nat) (Option.some Jvm.ClassFile.FieldType.int) ∈ tb := tb_t4 _ (List.mem_of_getElem? (i := 108) rfl) rfl
theorem tw829 : Cond.methodLink "ReachFlowModel" (118 : Nat) y_Md_join ∈ tb := tb_t4 _ (List.mem_of_getElem? (i := 109) (by decide +kernel)) rfl
theorem tw831 : Cond.instanceMethod y_Md_join ∈ tb := tb_t4 _ (List.mem_of_getElem? (i := 111) (by decide +kernel)) rfl
theorem tw832 : Cond.code y_Md_join prog_10_method_11_code (3 : Nat) (Option.none : Option Jvm.ClassFile.FieldType) ∈ tb := tb_t4 _ (List.mem_of_getElem? (i := 112) rfl) rfl
theorem tw849 : Cond.methodLink "ReachFlowModel" (135 : Nat) y_Md_mayPut ∈ tb := tb_t4 _ (List.mem_of_getElem? (i := 129) (by decide +kernel)) rfl
theorem tw851 : Cond.instanceMethod y_Md_mayPut ∈ tb := tb_t4 _ (List.mem_of_getElem? (i := 131) (by decide +kernel)) rfl
theorem tw852 : Cond.code y_Md_mayPut prog_10_method_18_code (4 : Nat) (Option.some Jvm.ClassFile.FieldType.boolean) ∈ tb := tb_t4 _ (List.mem_of_getElem? (i := 132) rfl) rfl
theorem tw853 : Cond.methodLink "ReachFlowModel" (131 : Nat) y_Md_hasDefault ∈ tb := tb_t4 _ (List.mem_of_getElem? (i := 133) (by decide +kernel)) rfl
theorem tw855 : Cond.instanceMethod y_Md_hasDefault ∈ tb := tb_t4 _ (List.mem_of_getElem? (i := 135) (by decide +kernel)) rfl
theorem tw856 : Cond.code y_Md_hasDefault prog_10_method_17_code (3 : Nat) (Option.some Jvm.ClassFile.FieldType.boolean) ∈ tb := tb_t4 _ (List.mem_of_getElem? (i := 136) rfl) rfl
theorem tw861 : Cond.methodLink "ReachFlowModel" (139 : Nat) y_Md_mayEnd ∈ tb := tb_t4 _ (List.mem_of_getElem? (i := 141) (by decide +kernel)) rfl
theorem tw863 : Cond.instanceMethod y_Md_mayEnd ∈ tb := tb_t4 _ (List.mem_of_getElem? (i := 143) (by decide +kernel)) rfl
theorem tw864 : Cond.code y_Md_mayEnd prog_10_method_20_code (2 : Nat) (Option.some Jvm.ClassFile.FieldType.boolean) ∈ tb := tb_t4 _ (List.mem_of_getElem? (i := 144) rfl) rfl
theorem tw885 : Cond.methodLink "ReachFlowModel" (263 : Nat) y_Md_look ∈ tb := tb_t4 _ (List.mem_of_getElem? (i := 165) (by decide +kernel)) rfl
theorem tw887 : Cond.instanceMethod y_Md_look ∈ tb := tb_t4 _ (List.mem_of_getElem? (i := 167) (by decide +kernel)) rfl
theorem tw888 : Cond.code y_Md_look prog_10_method_60_code (5 : Nat) (Option.none : Option Jvm.ClassFile.FieldType) ∈ tb := tb_t4 _ (List.mem_of_getElem? (i := 168) rfl) rfl
theorem tw889 : Cond.methodLink "ReachFlowModel" (248 : Nat) y_Md_line ∈ tb := tb_t4 _ (List.mem_of_getElem? (i := 169) (by decide +kernel)) rfl
theorem tw891 : Cond.instanceMethod y_Md_line ∈ tb := tb_t4 _ (List.mem_of_getElem? (i := 171) (by decide +kernel)) rfl
theorem tw892 : Cond.code y_Md_line prog_10_method_29_code (2 : Nat) (Option.none : Option Jvm.ClassFile.FieldType) ∈ tb := tb_t4 _ (List.mem_of_getElem? (i := 172) rfl) rfl
theorem tw893 : Cond.methodLink "ReachFlowModel" (145 : Nat) y_Md_up ∈ tb := tb_t4 _ (List.mem_of_getElem? (i := 173) (by decide +kernel)) rfl
theorem tw895 : Cond.instanceMethod y_Md_up ∈ tb := tb_t4 _ (List.mem_of_getElem? (i := 175) (by decide +kernel)) rfl
theorem tw896 : Cond.code y_Md_up prog_10_method_27_code (2 : Nat) (Option.some Jvm.ClassFile.FieldType.int) ∈ tb := tb_t4 _ (List.mem_of_getElem? (i := 176) rfl) rfl
theorem tw897 : Cond.methodLink "ReachFlowModel" (251 : Nat) y_Md_targetOf ∈ tb := tb_t4 _ (List.mem_of_getElem? (i := 177) (by decide +kernel)) rfl
theorem tw899 : Cond.instanceMethod y_Md_targetOf ∈ tb := tb_t4 _ (List.mem_of_getElem? (i := 179) (by decide +kernel)) rfl
theorem tw900 : Cond.code y_Md_targetOf prog_10_method_30_code (4 : Nat) (Option.some Jvm.ClassFile.FieldType.int) ∈ tb := tb_t4 _ (List.mem_of_getElem? (i := 180) rfl) rfl
theorem tw901 : Cond.methodLink "ReachFlowModel" (149 : Nat) y_Md_isLoop ∈ tb := tb_t4 _ (List.mem_of_getElem? (i := 181) (by decide +kernel)) rfl
theorem tw903 : Cond.instanceMethod y_Md_isLoop ∈ tb := tb_t4 _ (List.mem_of_getElem? (i := 183) (by decide +kernel)) rfl
theorem tw904 : Cond.code y_Md_isLoop prog_10_method_28_code (2 : Nat) (Option.some Jvm.ClassFile.FieldType.boolean) ∈ tb := tb_t4 _ (List.mem_of_getElem? (i := 184) rfl) rfl
theorem tw905 : Cond.methodLink "ReachFlowModel" (254 : Nat) y_Md_rules ∈ tb := tb_t4 _ (List.mem_of_getElem? (i := 185) (by decide +kernel)) rfl
theorem tw907 : Cond.instanceMethod y_Md_rules ∈ tb := tb_t4 _ (List.mem_of_getElem? (i := 187) (by decide +kernel)) rfl
theorem tw908 : Cond.code y_Md_rules prog_10_method_42_code (4 : Nat) (Option.none : Option Jvm.ClassFile.FieldType) ∈ tb := tb_t4 _ (List.mem_of_getElem? (i := 188) rfl) rfl
theorem tw909 : Cond.methodLink "ReachFlowModel" (186 : Nat) y_Md_mustReach ∈ tb := tb_t4 _ (List.mem_of_getElem? (i := 189) (by decide +kernel)) rfl
theorem tw911 : Cond.instanceMethod y_Md_mustReach ∈ tb := tb_t4 _ (List.mem_of_getElem? (i := 191) (by decide +kernel)) rfl
theorem tw912 : Cond.code y_Md_mustReach prog_10_method_35_code (3 : Nat) (Option.some Jvm.ClassFile.FieldType.boolean) ∈ tb := tb_t4 _ (List.mem_of_getElem? (i := 192) rfl) rfl
theorem tw913 : Cond.methodLink "ReachFlowModel" (158 : Nat) y_Md_isCatch ∈ tb := tb_t4 _ (List.mem_of_getElem? (i := 193) (by decide +kernel)) rfl
theorem tw915 : Cond.instanceMethod y_Md_isCatch ∈ tb := tb_t4 _ (List.mem_of_getElem? (i := 195) (by decide +kernel)) rfl
theorem tw916 : Cond.code y_Md_isCatch prog_10_method_32_code (2 : Nat) (Option.some Jvm.ClassFile.FieldType.boolean) ∈ tb := tb_t4 _ (List.mem_of_getElem? (i := 196) rfl) rfl
theorem tw917 : Cond.methodLink "ReachFlowModel" (152 : Nat) y_Md_isEnding ∈ tb := tb_t4 _ (List.mem_of_getElem? (i := 197) (by decide +kernel)) rfl
theorem tw919 : Cond.instanceMethod y_Md_isEnding ∈ tb := tb_t4 _ (List.mem_of_getElem? (i := 199) (by decide +kernel)) rfl
theorem tw920 : Cond.code y_Md_isEnding prog_10_method_31_code (2 : Nat) (Option.some Jvm.ClassFile.FieldType.boolean) ∈ tb := tb_t4 _ (List.mem_of_getElem? (i := 200) rfl) rfl
theorem tw921 : Cond.methodLink "ReachFlowModel" (161 : Nat) y_Md_catches ∈ tb := tb_t4 _ (List.mem_of_getElem? (i := 201) (by decide +kernel)) rfl
theorem tw923 : Cond.instanceMethod y_Md_catches ∈ tb := tb_t4 _ (List.mem_of_getElem? (i := 203) (by decide +kernel)) rfl
theorem tw924 : Cond.code y_Md_catches prog_10_method_36_code (6 : Nat) (Option.some Jvm.ClassFile.FieldType.boolean) ∈ tb := tb_t4 _ (List.mem_of_getElem? (i := 204) rfl) rfl
theorem tw925 : Cond.methodLink "ReachFlowModel" (164 : Nat) y_Md_isBelow ∈ tb := tb_t4 _ (List.mem_of_getElem? (i := 205) (by decide +kernel)) rfl
theorem tw927 : Cond.instanceMethod y_Md_isBelow ∈ tb := tb_t4 _ (List.mem_of_getElem? (i := 207) (by decide +kernel)) rfl
theorem tw928 : Cond.code y_Md_isBelow prog_10_method_8_code (4 : Nat) (Option.some Jvm.ClassFile.FieldType.boolean) ∈ tb := tb_t4 _ (List.mem_of_getElem? (i := 208) rfl) rfl
theorem tw929 : Cond.methodLink "ReachFlowModel" (189 : Nat) y_Md_mustComplete ∈ tb := tb_t4 _ (List.mem_of_getElem? (i := 209) (by decide +kernel)) rfl
theorem tw931 : Cond.instanceMethod y_Md_mustComplete ∈ tb := tb_t4 _ (List.mem_of_getElem? (i := 211) (by decide +kernel)) rfl
theorem tw932 : Cond.code y_Md_mustComplete prog_10_method_39_code (3 : Nat) (Option.some Jvm.ClassFile.FieldType.boolean) ∈ tb := tb_t4 _ (List.mem_of_getElem? (i := 212) rfl) rfl
theorem tw933 : Cond.methodLink "ReachFlowModel" (170 : Nat) y_Md_anyComplete ∈ tb := tb_t4 _ (List.mem_of_getElem? (i := 213) (by decide +kernel)) rfl
theorem tw935 : Cond.instanceMethod y_Md_anyComplete ∈ tb := tb_t4 _ (List.mem_of_getElem? (i := 215) (by decide +kernel)) rfl
theorem tw936 : Cond.code y_Md_anyComplete prog_10_method_37_code (4 : Nat) (Option.some Jvm.ClassFile.FieldType.boolean) ∈ tb := tb_t4 _ (List.mem_of_getElem? (i := 216) rfl) rfl
theorem tw937 : Cond.methodLink "ReachFlowModel" (173 : Nat) y_Md_isExit ∈ tb := tb_t4 _ (List.mem_of_getElem? (i := 217) (by decide +kernel)) rfl
theorem tw939 : Cond.instanceMethod y_Md_isExit ∈ tb := tb_t4 _ (List.mem_of_getElem? (i := 219) (by decide +kernel)) rfl
theorem tw940 : Cond.code y_Md_isExit prog_10_method_34_code (6 : Nat) (Option.some Jvm.ClassFile.FieldType.boolean) ∈ tb := tb_t4 _ (List.mem_of_getElem? (i := 220) rfl) rfl
theorem tw941 : Cond.methodLink "ReachFlowModel" (155 : Nat) y_Md_exits ∈ tb := tb_t4 _ (List.mem_of_getElem? (i := 221) (by decide +kernel)) rfl
theorem tw943 : Cond.instanceMethod y_Md_exits ∈ tb := tb_t4 _ (List.mem_of_getElem? (i := 223) (by decide +kernel)) rfl
theorem tw944 : Cond.code y_Md_exits prog_10_method_33_code (5 : Nat) (Option.some Jvm.ClassFile.FieldType.boolean) ∈ tb := tb_t4 _ (List.mem_of_getElem? (i := 224) rfl) rfl
theorem tw945 : Cond.methodLink "ReachFlowModel" (176 : Nat) y_Md_isWhole ∈ tb := tb_t4 _ (List.mem_of_getElem? (i := 225) (by decide +kernel)) rfl
theorem tw947 : Cond.instanceMethod y_Md_isWhole ∈ tb := tb_t4 _ (List.mem_of_getElem? (i := 227) (by decide +kernel)) rfl
theorem tw948 : Cond.code y_Md_isWhole prog_10_method_38_code (4 : Nat) (Option.some Jvm.ClassFile.FieldType.boolean) ∈ tb := tb_t4 _ (List.mem_of_getElem? (i := 228) rfl) rfl
theorem tw949 : Cond.methodLink "ReachFlowModel" (179 : Nat) y_Md_triesComplete ∈ tb := tb_t4 _ (List.mem_of_getElem? (i := 229) (by decide +kernel)) rfl
theorem tw951 : Cond.instanceMethod y_Md_triesComplete ∈ tb := tb_t4 _ (List.mem_of_getElem? (i := 231) (by decide +kernel)) rfl
theorem tw952 : Cond.code y_Md_triesComplete prog_10_method_40_code (5 : Nat) (Option.some Jvm.ClassFile.FieldType.boolean) ∈ tb := tb_t4 _ (List.mem_of_getElem? (i := 232) rfl) rfl
theorem tw953 : Cond.methodLink "ReachFlowModel" (192 : Nat) y_Md_mustThrow ∈ tb := tb_t4 _ (List.mem_of_getElem? (i := 233) (by decide +kernel)) rfl
theorem tw955 : Cond.instanceMethod y_Md_mustThrow ∈ tb := tb_t4 _ (List.mem_of_getElem? (i := 235) (by decide +kernel)) rfl
theorem tw956 : Cond.code y_Md_mustThrow prog_10_method_41_code (7 : Nat) (Option.some Jvm.ClassFile.FieldType.boolean) ∈ tb := tb_t4 _ (List.mem_of_getElem? (i := 236) rfl) rfl
theorem tw957 : Cond.methodLink "ReachFlowModel" (257 : Nat) y_Md_walks ∈ tb := tb_t4 _ (List.mem_of_getElem? (i := 237) (by decide +kernel)) rfl
theorem tw959 : Cond.instanceMethod y_Md_walks ∈ tb := tb_t4 _ (List.mem_of_getElem? (i := 239) (by decide +kernel)) rfl
theorem tw960 : Cond.code y_Md_walks prog_10_method_55_code (2 : Nat) (Option.none : Option Jvm.ClassFile.FieldType) ∈ tb := tb_t5 _ (List.mem_of_getElem? (i := 0) rfl) rfl
theorem tw961 : Cond.methodLink "ReachFlowModel" (229 : Nat) y_Md_walk ∈ tb := tb_t5 _ (List.mem_of_getElem? (i := 1) (by decide +kernel)) rfl
theorem tw963 : Cond.instanceMethod y_Md_walk ∈ tb := tb_t5 _ (List.mem_of_getElem? (i := 3) (by decide +kernel)) rfl
theorem tw964 : Cond.code y_Md_walk prog_10_method_53_code (3 : Nat) (Option.none : Option Jvm.ClassFile.FieldType) ∈ tb := tb_t5 _ (List.mem_of_getElem? (i := 4) rfl) rfl
theorem tw965 : Cond.methodLink "ReachFlowModel" (198 : Nat) y_Md_endBy ∈ tb := tb_t5 _ (List.mem_of_getElem? (i := 5) (by decide +kernel)) rfl
theorem tw967 : Cond.instanceMethod y_Md_endBy ∈ tb := tb_t5 _ (List.mem_of_getElem? (i := 7) (by decide +kernel)) rfl
theorem tw968 : Cond.code y_Md_endBy prog_10_method_44_code (3 : Nat) (Option.none : Option Jvm.ClassFile.FieldType) ∈ tb := tb_t5 _ (List.mem_of_getElem? (i := 8) rfl) rfl
theorem tw969 : Cond.methodLink "ReachFlowModel" (214 : Nat) y_Md_raises ∈ tb := tb_t5 _ (List.mem_of_getElem? (i := 9) (by decide +kernel)) rfl
theorem tw971 : Cond.instanceMethod y_Md_raises ∈ tb := tb_t5 _ (List.mem_of_getElem? (i := 11) (by decide +kernel)) rfl
theorem tw972 : Cond.code y_Md_raises prog_10_method_52_code (3 : Nat) (Option.none : Option Jvm.ClassFile.FieldType) ∈ tb := tb_t5 _ (List.mem_of_getElem? (i := 12) rfl) rfl
theorem tw973 : Cond.methodLink "ReachFlowModel" (217 : Nat) y_Md_branches ∈ tb := tb_t5 _ (List.mem_of_getElem? (i := 13) (by decide +kernel)) rfl
theorem tw975 : Cond.instanceMethod y_Md_branches ∈ tb := tb_t5 _ (List.mem_of_getElem? (i := 15) (by decide +kernel)) rfl
theorem tw976 : Cond.code y_Md_branches prog_10_method_54_code (6 : Nat) (Option.none : Option Jvm.ClassFile.FieldType) ∈ tb := tb_t5 _ (List.mem_of_getElem? (i := 16) rfl) rfl
theorem tw977 : Cond.methodLink "ReachFlowModel" (201 : Nat) y_Md_come ∈ tb := tb_t5 _ (List.mem_of_getElem? (i := 17) (by decide +kernel)) rfl
theorem tw979 : Cond.instanceMethod y_Md_come ∈ tb := tb_t5 _ (List.mem_of_getElem? (i := 19) (by decide +kernel)) rfl
theorem tw980 : Cond.code y_Md_come prog_10_method_43_code (2 : Nat) (Option.none : Option Jvm.ClassFile.FieldType) ∈ tb := tb_t5 _ (List.mem_of_getElem? (i := 20) rfl) rfl
theorem tw981 : Cond.methodLink "ReachFlowModel" (195 : Nat) y_Md_isEnded ∈ tb := tb_t5 _ (List.mem_of_getElem? (i := 21) (by decide +kernel)) rfl
theorem tw983 : Cond.instanceMethod y_Md_isEnded ∈ tb := tb_t5 _ (List.mem_of_getElem? (i := 23) (by decide +kernel)) rfl
theorem tw984 : Cond.code y_Md_isEnded prog_10_method_45_code (3 : Nat) (Option.some Jvm.ClassFile.FieldType.boolean) ∈ tb := tb_t5 _ (List.mem_of_getElem? (i := 24) rfl) rfl
theorem tw985 : Cond.methodLink "ReachFlowModel" (205 : Nat) y_Md_pass ∈ tb := tb_t5 _ (List.mem_of_getElem? (i := 25) (by decide +kernel)) rfl
theorem tw987 : Cond.instanceMethod y_Md_pass ∈ tb := tb_t5 _ (List.mem_of_getElem? (i := 27) (by decide +kernel)) rfl
theorem tw988 : Cond.code y_Md_pass prog_10_method_46_code (4 : Nat) (Option.none : Option Jvm.ClassFile.FieldType) ∈ tb := tb_t5 _ (List.mem_of_getElem? (i := 28) rfl) rfl
theorem tw989 : Cond.methodLink "ReachFlowModel" (220 : Nat) y_Md_turns ∈ tb := tb_t5 _ (List.mem_of_getElem? (i := 29) (by decide +kernel)) rfl
theorem tw991 : Cond.instanceMethod y_Md_turns ∈ tb := tb_t5 _ (List.mem_of_getElem? (i := 31) (by decide +kernel)) rfl
theorem tw992 : Cond.code y_Md_turns prog_10_method_47_code (4 : Nat) (Option.none : Option Jvm.ClassFile.FieldType) ∈ tb := tb_t5 _ (List.mem_of_getElem? (i := 32) rfl) rfl
theorem tw993 : Cond.methodLink "ReachFlowModel" (208 : Nat) y_Md_steps ∈ tb := tb_t5 _ (List.mem_of_getElem? (i := 33) (by decide +kernel)) rfl
theorem tw995 : Cond.instanceMethod y_Md_steps ∈ tb := tb_t5 _ (List.mem_of_getElem? (i := 35) (by decide +kernel)) rfl
theorem tw996 : Cond.code y_Md_steps prog_10_method_48_code (3 : Nat) (Option.none : Option Jvm.ClassFile.FieldType) ∈ tb := tb_t5 _ (List.mem_of_getElem? (i := 36) rfl) rfl
theorem tw997 : Cond.methodLink "ReachFlowModel" (223 : Nat) y_Md_switches ∈ tb := tb_t5 _ (List.mem_of_getElem? (i := 37) (by decide +kernel)) rfl
theorem tw999 : Cond.instanceMethod y_Md_switches ∈ tb := tb_t5 _ (List.mem_of_getElem? (i := 39) (by decide +kernel)) rfl
theorem tw1000 : Cond.code y_Md_switches prog_10_method_49_code (4 : Nat) (Option.none : Option Jvm.ClassFile.FieldType) ∈ tb := tb_t5 _ (List.mem_of_getElem? (i := 40) rfl) rfl
theorem tw1001 : Cond.methodLink "ReachFlowModel" (226 : Nat) y_Md_tries ∈ tb := tb_t5 _ (List.mem_of_getElem? (i := 41) (by decide +kernel)) rfl
theorem tw1003 : Cond.instanceMethod y_Md_tries ∈ tb := tb_t5 _ (List.mem_of_getElem? (i := 43) (by decide +kernel)) rfl
theorem tw1004 : Cond.code y_Md_tries prog_10_method_51_code (7 : Nat) (Option.none : Option Jvm.ClassFile.FieldType) ∈ tb := tb_t5 _ (List.mem_of_getElem? (i := 44) rfl) rfl
theorem tw1005 : Cond.methodLink "ReachFlowModel" (211 : Nat) y_Md_through ∈ tb := tb_t5 _ (List.mem_of_getElem? (i := 45) (by decide +kernel)) rfl
theorem tw1007 : Cond.instanceMethod y_Md_through ∈ tb := tb_t5 _ (List.mem_of_getElem? (i := 47) (by decide +kernel)) rfl
theorem tw1008 : Cond.code y_Md_through prog_10_method_50_code (5 : Nat) (Option.none : Option Jvm.ClassFile.FieldType) ∈ tb := tb_t5 _ (List.mem_of_getElem? (i := 48) rfl) rfl
theorem tw1009 : Cond.methodLink "ReachFlowModel" (260 : Nat) y_Md_judge ∈ tb := tb_t5 _ (List.mem_of_getElem? (i := 49) (by decide +kernel)) rfl
theorem tw1011 : Cond.instanceMethod y_Md_judge ∈ tb := tb_t5 _ (List.mem_of_getElem? (i := 51) (by decide +kernel)) rfl
theorem tw1012 : Cond.code y_Md_judge prog_10_method_59_code (5 : Nat) (Option.none : Option Jvm.ClassFile.FieldType) ∈ tb := tb_t5 _ (List.mem_of_getElem? (i := 52) rfl) rfl
theorem tw1013 : Cond.methodLink "ReachFlowModel" (235 : Nat) y_Md_isShadowed ∈ tb := tb_t5 _ (List.mem_of_getElem? (i := 53) (by decide +kernel)) rfl
theorem tw1015 : Cond.instanceMethod y_Md_isShadowed ∈ tb := tb_t5 _ (List.mem_of_getElem? (i := 55) (by decide +kernel)) rfl
theorem tw1016 : Cond.code y_Md_isShadowed prog_10_method_57_code (4 : Nat) (Option.some Jvm.ClassFile.FieldType.boolean) ∈ tb := tb_t5 _ (List.mem_of_getElem? (i := 56) rfl) rfl
theorem tw1017 : Cond.methodLink "ReachFlowModel" (238 : Nat) y_Md_tell ∈ tb := tb_t5 _ (List.mem_of_getElem? (i := 57) (by decide +kernel)) rfl
theorem tw1019 : Cond.instanceMethod y_Md_tell ∈ tb := tb_t5 _ (List.mem_of_getElem? (i := 59) (by decide +kernel)) rfl
theorem tw1020 : Cond.code y_Md_tell prog_10_method_56_code (4 : Nat) (Option.none : Option Jvm.ClassFile.FieldType) ∈ tb := tb_t5 _ (List.mem_of_getElem? (i := 60) rfl) rfl
theorem tw1021 : Cond.methodLink "ReachFlowModel" (242 : Nat) y_Md_isNested ∈ tb := tb_t5 _ (List.mem_of_getElem? (i := 61) (by decide +kernel)) rfl
theorem tw1023 : Cond.instanceMethod y_Md_isNested ∈ tb := tb_t5 _ (List.mem_of_getElem? (i := 63) (by decide +kernel)) rfl
theorem tw1024 : Cond.code y_Md_isNested prog_10_method_58_code (4 : Nat) (Option.some Jvm.ClassFile.FieldType.boolean) ∈ tb := tb_t5 _ (List.mem_of_getElem? (i := 64) rfl) rfl
theorem tw1041 : Cond.methodLink "ReachFlowModel" (266 : Nat) y_Md_isAsked ∈ tb := tb_t5 _ (List.mem_of_getElem? (i := 81) (by decide +kernel)) rfl
theorem tw1043 : Cond.instanceMethod y_Md_isAsked ∈ tb := tb_t5 _ (List.mem_of_getElem? (i := 83) (by decide +kernel)) rfl
theorem tw1044 : Cond.code y_Md_isAsked prog_10_method_26_code (2 : Nat) (Option.some Jvm.ClassFile.FieldType.boolean) ∈ tb := tb_t5 _ (List.mem_of_getElem? (i := 84) rfl) rfl
theorem tw1069 : Cond.sameMethod "ReachFlow$Flow" "ReachFlow$Flow" "settle" "(II)V" ∈ tb := tb_t5 _ (List.mem_of_getElem? (i := 109) (by decide +kernel)) rfl
theorem tw1070 : Cond.sameMethod "ReachFlow$Flow" "ReachFlow$Flow" "wipe" "(I)V" ∈ tb := tb_t5 _ (List.mem_of_getElem? (i := 110) (by decide +kernel)) rfl
theorem tw1071 : Cond.sameMethod "ReachFlow$Flow" "ReachFlow$Flow" "settleTry" "(I)V" ∈ tb := tb_t5 _ (List.mem_of_getElem? (i := 111) (by decide +kernel)) rfl
theorem tw1072 : Cond.sameMethod "ReachFlow$Flow" "ReachFlow$Flow" "comeTo" "(II)V" ∈ tb := tb_t5 _ (List.mem_of_getElem? (i := 112) (by decide +kernel)) rfl
theorem tw1073 : Cond.sameMethod "ReachFlow$Flow" "ReachFlow$Flow" "somePartGoesOn" "(I)Z" ∈ tb := tb_t5 _ (List.mem_of_getElem? (i := 113) (by decide +kernel)) rfl
theorem tw1074 : Cond.sameMethod "ReachFlow$Flow" "ReachFlow$Flow" "settleWhole" "(I)V" ∈ tb := tb_t5 _ (List.mem_of_getElem? (i := 114) (by decide +kernel)) rfl
theorem tw1075 : Cond.sameMethod "ReachFlow$Flow" "ReachFlow$Flow" "opensPart" "(IIIZ)Z" ∈ tb := tb_t5 _ (List.mem_of_getElem? (i := 115) (by decide +kernel)) rfl
theorem tw1076 : Cond.sameMethod "ReachFlow$Flow" "ReachFlow$Flow" "goesPast" "(IZ)Z" ∈ tb := tb_t5 _ (List.mem_of_getElem? (i := 116) (by decide +kernel)) rfl
theorem ps0 : Cond.selects "ReachFlow$Look" y_Lk_forgetTargets y_Lk_forgetTargets ∈ tb := tb_p _ (List.mem_of_getElem? (i := 0) rfl) rfl
theorem ps1 : Cond.selects "ReachFlow" y_Rf_fitsNode y_Rf_fitsNode ∈ tb := tb_p _ (List.mem_of_getElem? (i := 1) rfl) rfl
theorem ps2 : Cond.selects "ReachFlow" y_Rf_fitsRow y_Rf_fitsRow ∈ tb := tb_p _ (List.mem_of_getElem? (i := 2) rfl) rfl
theorem ps3 : Cond.selects "ReachFlow" y_Rf_fitsEnd y_Rf_fitsEnd ∈ tb := tb_p _ (List.mem_of_getElem? (i := 3) rfl) rfl
theorem ps4 : Cond.selects "ReachFlow$Look" y_Lk_orderText y_Lk_orderText ∈ tb := tb_p _ (List.mem_of_getElem? (i := 4) rfl) rfl
theorem ps5 : Cond.selects "ReachFlow$Look" y_Lk_findTargets y_Lk_findTargets ∈ tb := tb_p _ (List.mem_of_getElem? (i := 5) rfl) rfl
theorem ps6 : Cond.selects "ReachFlow$Look" y_Lk_isJump y_Lk_isJump ∈ tb := tb_p _ (List.mem_of_getElem? (i := 6) rfl) rfl
theorem ps7 : Cond.selects "ReachFlow$Look" y_Lk_targetOf y_Lk_targetOf ∈ tb := tb_p _ (List.mem_of_getElem? (i := 7) rfl) rfl
theorem ps8 : Cond.selects "ReachFlow$Look" y_Lk_labelAround y_Lk_labelAround ∈ tb := tb_p _ (List.mem_of_getElem? (i := 8) rfl) rfl
theorem ps9 : Cond.selects "ReachFlow$Look" y_Lk_loopIn y_Lk_loopIn ∈ tb := tb_p _ (List.mem_of_getElem? (i := 9) rfl) rfl
theorem ps10 : Cond.selects "ReachFlow$Look" y_Lk_listFaults y_Lk_listFaults ∈ tb := tb_p _ (List.mem_of_getElem? (i := 10) rfl) rfl
theorem ps11 : Cond.selects "ReachFlow$Look" y_Lk_listPlaceFault y_Lk_listPlaceFault ∈ tb := tb_p _ (List.mem_of_getElem? (i := 11) rfl) rfl
theorem ps12 : Cond.selects "ReachFlow$Look" y_Lk_addFault y_Lk_addFault ∈ tb := tb_p _ (List.mem_of_getElem? (i := 12) rfl) rfl
theorem ps13 : Cond.selects "ReachFlow$Look" y_Lk_isCaughtBefore y_Lk_isCaughtBefore ∈ tb := tb_p _ (List.mem_of_getElem? (i := 13) rfl) rfl
theorem ps14 : Cond.selects "ReachFlow$Look" y_Lk_listNotes y_Lk_listNotes ∈ tb := tb_p _ (List.mem_of_getElem? (i := 14) rfl) rfl
theorem ps15 : Cond.selects "ReachFlow" y_Rf_fitsWhich y_Rf_fitsWhich ∈ tb := tb_p _ (List.mem_of_getElem? (i := 15) rfl) rfl
theorem ps16 : Cond.selects "ReachFlow" y_Rf_judge y_Rf_judge ∈ tb := tb_p _ (List.mem_of_getElem? (i := 16) rfl) rfl
theorem ps17 : Cond.selects "ReachFlowModel" y_Md_begin y_Md_begin ∈ tb := tb_p _ (List.mem_of_getElem? (i := 17) rfl) rfl
theorem ps18 : Cond.selects "ReachFlowModel" y_Md_isKind y_Md_isKind ∈ tb := tb_p _ (List.mem_of_getElem? (i := 18) rfl) rfl
theorem ps19 : Cond.selects "ReachFlowModel" y_Md_mayBe y_Md_mayBe ∈ tb := tb_p _ (List.mem_of_getElem? (i := 19) rfl) rfl
theorem ps20 : Cond.selects "ReachFlowModel" y_Md_isFree y_Md_isFree ∈ tb := tb_p _ (List.mem_of_getElem? (i := 20) rfl) rfl
theorem ps21 : Cond.selects "ReachFlowModel" y_Md_isNode y_Md_isNode ∈ tb := tb_p _ (List.mem_of_getElem? (i := 21) rfl) rfl
theorem ps22 : Cond.selects "ReachFlowModel" y_Md_make y_Md_make ∈ tb := tb_p _ (List.mem_of_getElem? (i := 22) rfl) rfl
theorem ps23 : Cond.selects "ReachFlowModel" y_Md_join y_Md_join ∈ tb := tb_p _ (List.mem_of_getElem? (i := 23) rfl) rfl
theorem ps24 : Cond.selects "ReachFlowModel" y_Md_mayPut y_Md_mayPut ∈ tb := tb_p _ (List.mem_of_getElem? (i := 24) rfl) rfl
theorem ps25 : Cond.selects "ReachFlowModel" y_Md_hasDefault y_Md_hasDefault ∈ tb := tb_p _ (List.mem_of_getElem? (i := 25) rfl) rfl
theorem ps26 : Cond.selects "ReachFlowModel" y_Md_mayEnd y_Md_mayEnd ∈ tb := tb_p _ (List.mem_of_getElem? (i := 26) rfl) rfl
theorem ps27 : Cond.selects "ReachFlowModel" y_Md_look y_Md_look ∈ tb := tb_p _ (List.mem_of_getElem? (i := 27) rfl) rfl
theorem ps28 : Cond.selects "ReachFlowModel" y_Md_line y_Md_line ∈ tb := tb_p _ (List.mem_of_getElem? (i := 28) rfl) rfl
theorem ps29 : Cond.selects "ReachFlowModel" y_Md_up y_Md_up ∈ tb := tb_p _ (List.mem_of_getElem? (i := 29) rfl) rfl
theorem ps30 : Cond.selects "ReachFlowModel" y_Md_targetOf y_Md_targetOf ∈ tb := tb_p _ (List.mem_of_getElem? (i := 30) rfl) rfl
theorem ps31 : Cond.selects "ReachFlowModel" y_Md_isLoop y_Md_isLoop ∈ tb := tb_p _ (List.mem_of_getElem? (i := 31) rfl) rfl
theorem ps32 : Cond.selects "ReachFlowModel" y_Md_rules y_Md_rules ∈ tb := tb_p _ (List.mem_of_getElem? (i := 32) rfl) rfl
theorem ps33 : Cond.selects "ReachFlowModel" y_Md_mustReach y_Md_mustReach ∈ tb := tb_p _ (List.mem_of_getElem? (i := 33) rfl) rfl
theorem ps34 : Cond.selects "ReachFlowModel" y_Md_isCatch y_Md_isCatch ∈ tb := tb_p _ (List.mem_of_getElem? (i := 34) rfl) rfl
theorem ps35 : Cond.selects "ReachFlowModel" y_Md_isEnding y_Md_isEnding ∈ tb := tb_p _ (List.mem_of_getElem? (i := 35) rfl) rfl
theorem ps36 : Cond.selects "ReachFlowModel" y_Md_catches y_Md_catches ∈ tb := tb_p _ (List.mem_of_getElem? (i := 36) rfl) rfl
theorem ps37 : Cond.selects "ReachFlowModel" y_Md_isBelow y_Md_isBelow ∈ tb := tb_p _ (List.mem_of_getElem? (i := 37) rfl) rfl
theorem ps38 : Cond.selects "ReachFlowModel" y_Md_mustComplete y_Md_mustComplete ∈ tb := tb_p _ (List.mem_of_getElem? (i := 38) rfl) rfl
theorem ps39 : Cond.selects "ReachFlowModel" y_Md_anyComplete y_Md_anyComplete ∈ tb := tb_p _ (List.mem_of_getElem? (i := 39) rfl) rfl
theorem ps40 : Cond.selects "ReachFlowModel" y_Md_isExit y_Md_isExit ∈ tb := tb_p _ (List.mem_of_getElem? (i := 40) rfl) rfl
theorem ps41 : Cond.selects "ReachFlowModel" y_Md_exits y_Md_exits ∈ tb := tb_p _ (List.mem_of_getElem? (i := 41) rfl) rfl
theorem ps42 : Cond.selects "ReachFlowModel" y_Md_isWhole y_Md_isWhole ∈ tb := tb_p _ (List.mem_of_getElem? (i := 42) rfl) rfl
theorem ps43 : Cond.selects "ReachFlowModel" y_Md_triesComplete y_Md_triesComplete ∈ tb := tb_p _ (List.mem_of_getElem? (i := 43) rfl) rfl
theorem ps44 : Cond.selects "ReachFlowModel" y_Md_mustThrow y_Md_mustThrow ∈ tb := tb_p _ (List.mem_of_getElem? (i := 44) rfl) rfl
theorem ps45 : Cond.selects "ReachFlowModel" y_Md_walks y_Md_walks ∈ tb := tb_p _ (List.mem_of_getElem? (i := 45) rfl) rfl
theorem ps46 : Cond.selects "ReachFlowModel" y_Md_walk y_Md_walk ∈ tb := tb_p _ (List.mem_of_getElem? (i := 46) rfl) rfl
theorem ps47 : Cond.selects "ReachFlowModel" y_Md_endBy y_Md_endBy ∈ tb := tb_p _ (List.mem_of_getElem? (i := 47) rfl) rfl
theorem ps48 : Cond.selects "ReachFlowModel" y_Md_raises y_Md_raises ∈ tb := tb_p _ (List.mem_of_getElem? (i := 48) rfl) rfl
theorem ps49 : Cond.selects "ReachFlowModel" y_Md_branches y_Md_branches ∈ tb := tb_p _ (List.mem_of_getElem? (i := 49) rfl) rfl
theorem ps50 : Cond.selects "ReachFlowModel" y_Md_come y_Md_come ∈ tb := tb_p _ (List.mem_of_getElem? (i := 50) rfl) rfl
theorem ps51 : Cond.selects "ReachFlowModel" y_Md_isEnded y_Md_isEnded ∈ tb := tb_p _ (List.mem_of_getElem? (i := 51) rfl) rfl
theorem ps52 : Cond.selects "ReachFlowModel" y_Md_pass y_Md_pass ∈ tb := tb_p _ (List.mem_of_getElem? (i := 52) rfl) rfl
theorem ps53 : Cond.selects "ReachFlowModel" y_Md_turns y_Md_turns ∈ tb := tb_p _ (List.mem_of_getElem? (i := 53) rfl) rfl
theorem ps54 : Cond.selects "ReachFlowModel" y_Md_steps y_Md_steps ∈ tb := tb_p _ (List.mem_of_getElem? (i := 54) rfl) rfl
theorem ps55 : Cond.selects "ReachFlowModel" y_Md_switches y_Md_switches ∈ tb := tb_p _ (List.mem_of_getElem? (i := 55) rfl) rfl
theorem ps56 : Cond.selects "ReachFlowModel" y_Md_tries y_Md_tries ∈ tb := tb_p _ (List.mem_of_getElem? (i := 56) rfl) rfl
theorem ps57 : Cond.selects "ReachFlowModel" y_Md_through y_Md_through ∈ tb := tb_p _ (List.mem_of_getElem? (i := 57) rfl) rfl
theorem ps58 : Cond.selects "ReachFlowModel" y_Md_judge y_Md_judge ∈ tb := tb_p _ (List.mem_of_getElem? (i := 58) rfl) rfl
theorem ps59 : Cond.selects "ReachFlowModel" y_Md_isShadowed y_Md_isShadowed ∈ tb := tb_p _ (List.mem_of_getElem? (i := 59) rfl) rfl
theorem ps60 : Cond.selects "ReachFlowModel" y_Md_tell y_Md_tell ∈ tb := tb_p _ (List.mem_of_getElem? (i := 60) rfl) rfl
theorem ps61 : Cond.selects "ReachFlowModel" y_Md_isNested y_Md_isNested ∈ tb := tb_p _ (List.mem_of_getElem? (i := 61) rfl) rfl
theorem ps62 : Cond.selects "ReachFlowModel" y_Md_isAsked y_Md_isAsked ∈ tb := tb_p _ (List.mem_of_getElem? (i := 62) rfl) rfl
theorem xs0 : Cond.selects "ReachFlow$ByRules" y_Fl_settle y_Fl_settle ∈ tb := tb_x _ (List.mem_of_getElem? (i := 0) rfl) rfl
theorem xs1 : Cond.selects "ReachFlow$ByRules" y_Fl_wipe y_Fl_wipe ∈ tb := tb_x _ (List.mem_of_getElem? (i := 1) rfl) rfl
theorem xs2 : Cond.selects "ReachFlow$ByRules" y_Fl_settleTry y_Fl_settleTry ∈ tb := tb_x _ (List.mem_of_getElem? (i := 2) rfl) rfl
theorem xs3 : Cond.selects "ReachFlow$ByRules" y_Fl_comeTo y_Fl_comeTo ∈ tb := tb_x _ (List.mem_of_getElem? (i := 3) rfl) rfl
theorem xs4 : Cond.selects "ReachFlow$ByRules" y_Fl_somePartGoesOn y_Fl_somePartGoesOn ∈ tb := tb_x _ (List.mem_of_getElem? (i := 4) rfl) rfl
theorem xs5 : Cond.selects "ReachFlow$ByRules" y_Fl_settleWhole y_Fl_settleWhole ∈ tb := tb_x _ (List.mem_of_getElem? (i := 5) rfl) rfl
theorem xs6 : Cond.selects "ReachFlow$ByRules" y_Fl_opensPart y_Fl_opensPart ∈ tb := tb_x _ (List.mem_of_getElem? (i := 6) rfl) rfl
theorem xs7 : Cond.selects "ReachFlow$ByRules" y_Fl_goesPast y_Fl_goesPast ∈ tb := tb_x _ (List.mem_of_getElem? (i := 7) rfl) rfl
theorem xs8 : Cond.selects "ReachFlow$ByWalks" y_Fl_settle y_Fl_settle ∈ tb := tb_x _ (List.mem_of_getElem? (i := 8) rfl) rfl
theorem xs9 : Cond.selects "ReachFlow$ByWalks" y_Fl_wipe y_Fl_wipe ∈ tb := tb_x _ (List.mem_of_getElem? (i := 9) rfl) rfl
theorem xs10 : Cond.selects "ReachFlow$ByWalks" y_Fl_settleTry y_Fl_settleTry ∈ tb := tb_x _ (List.mem_of_getElem? (i := 10) rfl) rfl
theorem xs11 : Cond.selects "ReachFlow$ByWalks" y_Fl_comeTo y_Fl_comeTo ∈ tb := tb_x _ (List.mem_of_getElem? (i := 11) rfl) rfl
theorem xs12 : Cond.selects "ReachFlow$ByWalks" y_Fl_somePartGoesOn y_Fl_somePartGoesOn ∈ tb := tb_x _ (List.mem_of_getElem? (i := 12) rfl) rfl
theorem xs13 : Cond.selects "ReachFlow$ByWalks" y_Fl_settleWhole y_Fl_settleWhole ∈ tb := tb_x _ (List.mem_of_getElem? (i := 13) rfl) rfl
theorem xs14 : Cond.selects "ReachFlow$ByWalks" y_Fl_opensPart y_Fl_opensPart ∈ tb := tb_x _ (List.mem_of_getElem? (i := 14) rfl) rfl
theorem xs15 : Cond.selects "ReachFlow$ByWalks" y_Fl_goesPast y_Fl_goesPast ∈ tb := tb_x _ (List.mem_of_getElem? (i := 15) rfl) rfl
theorem hd_Rf_fitsEnd : y_Rf_fitsEnd.cls = "ReachFlow" ∧ y_Rf_fitsEnd.cls ≠ "java/lang/invoke/MethodHandle" ∧ y_Rf_fitsEnd.cls ≠ "java/lang/invoke/VarHandle" ∧ (parseMethodDescriptor y_Rf_fitsEnd.desc).map (fun d => d.parameters.length) = some 1 := by decide +kernel
theorem hd_Rf_fitsNode : y_Rf_fitsNode.cls = "ReachFlow" ∧ y_Rf_fitsNode.cls ≠ "java/lang/invoke/MethodHandle" ∧ y_Rf_fitsNode.cls ≠ "java/lang/invoke/VarHandle" ∧ (parseMethodDescriptor y_Rf_fitsNode.desc).map (fun d => d.parameters.length) = some 4 := by decide +kernel
theorem hd_Rf_fitsRow : y_Rf_fitsRow.cls = "ReachFlow" ∧ y_Rf_fitsRow.cls ≠ "java/lang/invoke/MethodHandle" ∧ y_Rf_fitsRow.cls ≠ "java/lang/invoke/VarHandle" ∧ (parseMethodDescriptor y_Rf_fitsRow.desc).map (fun d => d.parameters.length) = some 2 := by decide +kernel
theorem hd_Rf_fitsRules : y_Rf_fitsRules.cls = "ReachFlow" ∧ y_Rf_fitsRules.cls ≠ "java/lang/invoke/MethodHandle" ∧ y_Rf_fitsRules.cls ≠ "java/lang/invoke/VarHandle" ∧ (parseMethodDescriptor y_Rf_fitsRules.desc).map (fun d => d.parameters.length) = some 1 := by decide +kernel
theorem hd_Rf_fitsWhich : y_Rf_fitsWhich.cls = "ReachFlow" ∧ y_Rf_fitsWhich.cls ≠ "java/lang/invoke/MethodHandle" ∧ y_Rf_fitsWhich.cls ≠ "java/lang/invoke/VarHandle" ∧ (parseMethodDescriptor y_Rf_fitsWhich.desc).map (fun d => d.parameters.length) = some 2 := by decide +kernel
theorem hd_Rf_isIn : y_Rf_isIn.cls = "ReachFlow" ∧ y_Rf_isIn.cls ≠ "java/lang/invoke/MethodHandle" ∧ y_Rf_isIn.cls ≠ "java/lang/invoke/VarHandle" ∧ (parseMethodDescriptor y_Rf_isIn.desc).map (fun d => d.parameters.length) = some 2 := by decide +kernel
theorem hd_Rf_isLoop : y_Rf_isLoop.cls = "ReachFlow" ∧ y_Rf_isLoop.cls ≠ "java/lang/invoke/MethodHandle" ∧ y_Rf_isLoop.cls ≠ "java/lang/invoke/VarHandle" ∧ (parseMethodDescriptor y_Rf_isLoop.desc).map (fun d => d.parameters.length) = some 1 := by decide +kernel
theorem hd_Rf_isName : y_Rf_isName.cls = "ReachFlow" ∧ y_Rf_isName.cls ≠ "java/lang/invoke/MethodHandle" ∧ y_Rf_isName.cls ≠ "java/lang/invoke/VarHandle" ∧ (parseMethodDescriptor y_Rf_isName.desc).map (fun d => d.parameters.length) = some 1 := by decide +kernel
theorem hd_Rf_isTest : y_Rf_isTest.cls = "ReachFlow" ∧ y_Rf_isTest.cls ≠ "java/lang/invoke/MethodHandle" ∧ y_Rf_isTest.cls ≠ "java/lang/invoke/VarHandle" ∧ (parseMethodDescriptor y_Rf_isTest.desc).map (fun d => d.parameters.length) = some 2 := by decide +kernel
theorem hd_Rf_judge : y_Rf_judge.cls = "ReachFlow" ∧ y_Rf_judge.cls ≠ "java/lang/invoke/MethodHandle" ∧ y_Rf_judge.cls ≠ "java/lang/invoke/VarHandle" ∧ (parseMethodDescriptor y_Rf_judge.desc).map (fun d => d.parameters.length) = some 2 := by decide +kernel
theorem hd_Br_opensCatch : y_Br_opensCatch.cls = "ReachFlow$ByRules" ∧ y_Br_opensCatch.cls ≠ "java/lang/invoke/MethodHandle" ∧ y_Br_opensCatch.cls ≠ "java/lang/invoke/VarHandle" ∧ (parseMethodDescriptor y_Br_opensCatch.desc).map (fun d => d.parameters.length) = some 3 := by decide +kernel
theorem hd_Br_opensEnding : y_Br_opensEnding.cls = "ReachFlow$ByRules" ∧ y_Br_opensEnding.cls ≠ "java/lang/invoke/MethodHandle" ∧ y_Br_opensEnding.cls ≠ "java/lang/invoke/VarHandle" ∧ (parseMethodDescriptor y_Br_opensEnding.desc).map (fun d => d.parameters.length) = some 1 := by decide +kernel
theorem hd_Br_testOfIf : y_Br_testOfIf.cls = "ReachFlow$ByRules" ∧ y_Br_testOfIf.cls ≠ "java/lang/invoke/MethodHandle" ∧ y_Br_testOfIf.cls ≠ "java/lang/invoke/VarHandle" ∧ (parseMethodDescriptor y_Br_testOfIf.desc).map (fun d => d.parameters.length) = some 1 := by decide +kernel
theorem hd_Br_thrownAs : y_Br_thrownAs.cls = "ReachFlow$ByRules" ∧ y_Br_thrownAs.cls ≠ "java/lang/invoke/MethodHandle" ∧ y_Br_thrownAs.cls ≠ "java/lang/invoke/VarHandle" ∧ (parseMethodDescriptor y_Br_thrownAs.desc).map (fun d => d.parameters.length) = some 1 := by decide +kernel
theorem hd_Bw_opensCatch : y_Bw_opensCatch.cls = "ReachFlow$ByWalks" ∧ y_Bw_opensCatch.cls ≠ "java/lang/invoke/MethodHandle" ∧ y_Bw_opensCatch.cls ≠ "java/lang/invoke/VarHandle" ∧ (parseMethodDescriptor y_Bw_opensCatch.desc).map (fun d => d.parameters.length) = some 3 := by decide +kernel
theorem hd_Bw_opensEnding : y_Bw_opensEnding.cls = "ReachFlow$ByWalks" ∧ y_Bw_opensEnding.cls ≠ "java/lang/invoke/MethodHandle" ∧ y_Bw_opensEnding.cls ≠ "java/lang/invoke/VarHandle" ∧ (parseMethodDescriptor y_Bw_opensEnding.desc).map (fun d => d.parameters.length) = some 1 := by decide +kernel
theorem hd_Bw_testOfIf : y_Bw_testOfIf.cls = "ReachFlow$ByWalks" ∧ y_Bw_testOfIf.cls ≠ "java/lang/invoke/MethodHandle" ∧ y_Bw_testOfIf.cls ≠ "java/lang/invoke/VarHandle" ∧ (parseMethodDescriptor y_Bw_testOfIf.desc).map (fun d => d.parameters.length) = some 1 := by decide +kernel
theorem hd_Bw_thrownAs : y_Bw_thrownAs.cls = "ReachFlow$ByWalks" ∧ y_Bw_thrownAs.cls ≠ "java/lang/invoke/MethodHandle" ∧ y_Bw_thrownAs.cls ≠ "java/lang/invoke/VarHandle" ∧ (parseMethodDescriptor y_Bw_thrownAs.desc).map (fun d => d.parameters.length) = some 1 := by decide +kernel
theorem hd_Fl_comeTo : y_Fl_comeTo.cls = "ReachFlow$Flow" ∧ y_Fl_comeTo.cls ≠ "java/lang/invoke/MethodHandle" ∧ y_Fl_comeTo.cls ≠ "java/lang/invoke/VarHandle" ∧ (parseMethodDescriptor y_Fl_comeTo.desc).map (fun d => d.parameters.length) = some 2 := by decide +kernel
theorem hd_Fl_endsBy : y_Fl_endsBy.cls = "ReachFlow$Flow" ∧ y_Fl_endsBy.cls ≠ "java/lang/invoke/MethodHandle" ∧ y_Fl_endsBy.cls ≠ "java/lang/invoke/VarHandle" ∧ (parseMethodDescriptor y_Fl_endsBy.desc).map (fun d => d.parameters.length) = some 3 := by decide +kernel
theorem hd_Fl_endsNormally : y_Fl_endsNormally.cls = "ReachFlow$Flow" ∧ y_Fl_endsNormally.cls ≠ "java/lang/invoke/MethodHandle" ∧ y_Fl_endsNormally.cls ≠ "java/lang/invoke/VarHandle" ∧ (parseMethodDescriptor y_Fl_endsNormally.desc).map (fun d => d.parameters.length) = some 1 := by decide +kernel
theorem hd_Fl_endsSomehow : y_Fl_endsSomehow.cls = "ReachFlow$Flow" ∧ y_Fl_endsSomehow.cls ≠ "java/lang/invoke/MethodHandle" ∧ y_Fl_endsSomehow.cls ≠ "java/lang/invoke/VarHandle" ∧ (parseMethodDescriptor y_Fl_endsSomehow.desc).map (fun d => d.parameters.length) = some 1 := by decide +kernel
theorem hd_Fl_flow : y_Fl_flow.cls = "ReachFlow$Flow" ∧ y_Fl_flow.cls ≠ "java/lang/invoke/MethodHandle" ∧ y_Fl_flow.cls ≠ "java/lang/invoke/VarHandle" ∧ (parseMethodDescriptor y_Fl_flow.desc).map (fun d => d.parameters.length) = some 3 := by decide +kernel
theorem hd_Fl_forget : y_Fl_forget.cls = "ReachFlow$Flow" ∧ y_Fl_forget.cls ≠ "java/lang/invoke/MethodHandle" ∧ y_Fl_forget.cls ≠ "java/lang/invoke/VarHandle" ∧ (parseMethodDescriptor y_Fl_forget.desc).map (fun d => d.parameters.length) = some 0 := by decide +kernel
theorem hd_Fl_goesPast : y_Fl_goesPast.cls = "ReachFlow$Flow" ∧ y_Fl_goesPast.cls ≠ "java/lang/invoke/MethodHandle" ∧ y_Fl_goesPast.cls ≠ "java/lang/invoke/VarHandle" ∧ (parseMethodDescriptor y_Fl_goesPast.desc).map (fun d => d.parameters.length) = some 2 := by decide +kernel
theorem hd_Fl_meets : y_Fl_meets.cls = "ReachFlow$Flow" ∧ y_Fl_meets.cls ≠ "java/lang/invoke/MethodHandle" ∧ y_Fl_meets.cls ≠ "java/lang/invoke/VarHandle" ∧ (parseMethodDescriptor y_Fl_meets.desc).map (fun d => d.parameters.length) = some 1 := by decide +kernel
theorem hd_Fl_opensPart : y_Fl_opensPart.cls = "ReachFlow$Flow" ∧ y_Fl_opensPart.cls ≠ "java/lang/invoke/MethodHandle" ∧ y_Fl_opensPart.cls ≠ "java/lang/invoke/VarHandle" ∧ (parseMethodDescriptor y_Fl_opensPart.desc).map (fun d => d.parameters.length) = some 4 := by decide +kernel
theorem hd_Fl_settle : y_Fl_settle.cls = "ReachFlow$Flow" ∧ y_Fl_settle.cls ≠ "java/lang/invoke/MethodHandle" ∧ y_Fl_settle.cls ≠ "java/lang/invoke/VarHandle" ∧ (parseMethodDescriptor y_Fl_settle.desc).map (fun d => d.parameters.length) = some 2 := by decide +kernel
theorem hd_Fl_settleTry : y_Fl_settleTry.cls = "ReachFlow$Flow" ∧ y_Fl_settleTry.cls ≠ "java/lang/invoke/MethodHandle" ∧ y_Fl_settleTry.cls ≠ "java/lang/invoke/VarHandle" ∧ (parseMethodDescriptor y_Fl_settleTry.desc).map (fun d => d.parameters.length) = some 1 := by decide +kernel
theorem hd_Fl_settleWhole : y_Fl_settleWhole.cls = "ReachFlow$Flow" ∧ y_Fl_settleWhole.cls ≠ "java/lang/invoke/MethodHandle" ∧ y_Fl_settleWhole.cls ≠ "java/lang/invoke/VarHandle" ∧ (parseMethodDescriptor y_Fl_settleWhole.desc).map (fun d => d.parameters.length) = some 1 := by decide +kernel
theorem hd_Fl_somePartGoesOn : y_Fl_somePartGoesOn.cls = "ReachFlow$Flow" ∧ y_Fl_somePartGoesOn.cls ≠ "java/lang/invoke/MethodHandle" ∧ y_Fl_somePartGoesOn.cls ≠ "java/lang/invoke/VarHandle" ∧ (parseMethodDescriptor y_Fl_somePartGoesOn.desc).map (fun d => d.parameters.length) = some 1 := by decide +kernel
theorem hd_Fl_wipe : y_Fl_wipe.cls = "ReachFlow$Flow" ∧ y_Fl_wipe.cls ≠ "java/lang/invoke/MethodHandle" ∧ y_Fl_wipe.cls ≠ "java/lang/invoke/VarHandle" ∧ (parseMethodDescriptor y_Fl_wipe.desc).map (fun d => d.parameters.length) = some 1 := by decide +kernel
theorem hd_Kn_addBelow : y_Kn_addBelow.cls = "ReachFlow$Kinds" ∧ y_Kn_addBelow.cls ≠ "java/lang/invoke/MethodHandle" ∧ y_Kn_addBelow.cls ≠ "java/lang/invoke/VarHandle" ∧ (parseMethodDescriptor y_Kn_addBelow.desc).map (fun d => d.parameters.length) = some 1 := by decide +kernel
theorem hd_Kn_has : y_Kn_has.cls = "ReachFlow$Kinds" ∧ y_Kn_has.cls ≠ "java/lang/invoke/MethodHandle" ∧ y_Kn_has.cls ≠ "java/lang/invoke/VarHandle" ∧ (parseMethodDescriptor y_Kn_has.desc).map (fun d => d.parameters.length) = some 1 := by decide +kernel
theorem hd_Kn_needsNoThrower : y_Kn_needsNoThrower.cls = "ReachFlow$Kinds" ∧ y_Kn_needsNoThrower.cls ≠ "java/lang/invoke/MethodHandle" ∧ y_Kn_needsNoThrower.cls ≠ "java/lang/invoke/VarHandle" ∧ (parseMethodDescriptor y_Kn_needsNoThrower.desc).map (fun d => d.parameters.length) = some 1 := by decide +kernel
theorem hd_Kn_startAgain : y_Kn_startAgain.cls = "ReachFlow$Kinds" ∧ y_Kn_startAgain.cls ≠ "java/lang/invoke/MethodHandle" ∧ y_Kn_startAgain.cls ≠ "java/lang/invoke/VarHandle" ∧ (parseMethodDescriptor y_Kn_startAgain.desc).map (fun d => d.parameters.length) = some 0 := by decide +kernel
theorem hd_Lk_addFault : y_Lk_addFault.cls = "ReachFlow$Look" ∧ y_Lk_addFault.cls ≠ "java/lang/invoke/MethodHandle" ∧ y_Lk_addFault.cls ≠ "java/lang/invoke/VarHandle" ∧ (parseMethodDescriptor y_Lk_addFault.desc).map (fun d => d.parameters.length) = some 2 := by decide +kernel
theorem hd_Lk_findTargets : y_Lk_findTargets.cls = "ReachFlow$Look" ∧ y_Lk_findTargets.cls ≠ "java/lang/invoke/MethodHandle" ∧ y_Lk_findTargets.cls ≠ "java/lang/invoke/VarHandle" ∧ (parseMethodDescriptor y_Lk_findTargets.desc).map (fun d => d.parameters.length) = some 0 := by decide +kernel
theorem hd_Lk_forgetTargets : y_Lk_forgetTargets.cls = "ReachFlow$Look" ∧ y_Lk_forgetTargets.cls ≠ "java/lang/invoke/MethodHandle" ∧ y_Lk_forgetTargets.cls ≠ "java/lang/invoke/VarHandle" ∧ (parseMethodDescriptor y_Lk_forgetTargets.desc).map (fun d => d.parameters.length) = some 0 := by decide +kernel
theorem hd_Lk_hasReturn : y_Lk_hasReturn.cls = "ReachFlow$Look" ∧ y_Lk_hasReturn.cls ≠ "java/lang/invoke/MethodHandle" ∧ y_Lk_hasReturn.cls ≠ "java/lang/invoke/VarHandle" ∧ (parseMethodDescriptor y_Lk_hasReturn.desc).map (fun d => d.parameters.length) = some 1 := by decide +kernel
theorem hd_Lk_isCaughtBefore : y_Lk_isCaughtBefore.cls = "ReachFlow$Look" ∧ y_Lk_isCaughtBefore.cls ≠ "java/lang/invoke/MethodHandle" ∧ y_Lk_isCaughtBefore.cls ≠ "java/lang/invoke/VarHandle" ∧ (parseMethodDescriptor y_Lk_isCaughtBefore.desc).map (fun d => d.parameters.length) = some 1 := by decide +kernel
theorem hd_Lk_isJump : y_Lk_isJump.cls = "ReachFlow$Look" ∧ y_Lk_isJump.cls ≠ "java/lang/invoke/MethodHandle" ∧ y_Lk_isJump.cls ≠ "java/lang/invoke/VarHandle" ∧ (parseMethodDescriptor y_Lk_isJump.desc).map (fun d => d.parameters.length) = some 1 := by decide +kernel
theorem hd_Lk_labelAround : y_Lk_labelAround.cls = "ReachFlow$Look" ∧ y_Lk_labelAround.cls ≠ "java/lang/invoke/MethodHandle" ∧ y_Lk_labelAround.cls ≠ "java/lang/invoke/VarHandle" ∧ (parseMethodDescriptor y_Lk_labelAround.desc).map (fun d => d.parameters.length) = some 2 := by decide +kernel
theorem hd_Lk_listFaults : y_Lk_listFaults.cls = "ReachFlow$Look" ∧ y_Lk_listFaults.cls ≠ "java/lang/invoke/MethodHandle" ∧ y_Lk_listFaults.cls ≠ "java/lang/invoke/VarHandle" ∧ (parseMethodDescriptor y_Lk_listFaults.desc).map (fun d => d.parameters.length) = some 0 := by decide +kernel
theorem hd_Lk_listNotes : y_Lk_listNotes.cls = "ReachFlow$Look" ∧ y_Lk_listNotes.cls ≠ "java/lang/invoke/MethodHandle" ∧ y_Lk_listNotes.cls ≠ "java/lang/invoke/VarHandle" ∧ (parseMethodDescriptor y_Lk_listNotes.desc).map (fun d => d.parameters.length) = some 0 := by decide +kernel
theorem hd_Lk_listPlaceFault : y_Lk_listPlaceFault.cls = "ReachFlow$Look" ∧ y_Lk_listPlaceFault.cls ≠ "java/lang/invoke/MethodHandle" ∧ y_Lk_listPlaceFault.cls ≠ "java/lang/invoke/VarHandle" ∧ (parseMethodDescriptor y_Lk_listPlaceFault.desc).map (fun d => d.parameters.length) = some 1 := by decide +kernel
theorem hd_Lk_lookAt : y_Lk_lookAt.cls = "ReachFlow$Look" ∧ y_Lk_lookAt.cls ≠ "java/lang/invoke/MethodHandle" ∧ y_Lk_lookAt.cls ≠ "java/lang/invoke/VarHandle" ∧ (parseMethodDescriptor y_Lk_lookAt.desc).map (fun d => d.parameters.length) = some 1 := by decide +kernel
theorem hd_Lk_loopIn : y_Lk_loopIn.cls = "ReachFlow$Look" ∧ y_Lk_loopIn.cls ≠ "java/lang/invoke/MethodHandle" ∧ y_Lk_loopIn.cls ≠ "java/lang/invoke/VarHandle" ∧ (parseMethodDescriptor y_Lk_loopIn.desc).map (fun d => d.parameters.length) = some 1 := by decide +kernel
theorem hd_Lk_orderText : y_Lk_orderText.cls = "ReachFlow$Look" ∧ y_Lk_orderText.cls ≠ "java/lang/invoke/MethodHandle" ∧ y_Lk_orderText.cls ≠ "java/lang/invoke/VarHandle" ∧ (parseMethodDescriptor y_Lk_orderText.desc).map (fun d => d.parameters.length) = some 0 := by decide +kernel
theorem hd_Lk_startAgain : y_Lk_startAgain.cls = "ReachFlow$Look" ∧ y_Lk_startAgain.cls ≠ "java/lang/invoke/MethodHandle" ∧ y_Lk_startAgain.cls ≠ "java/lang/invoke/VarHandle" ∧ (parseMethodDescriptor y_Lk_startAgain.desc).map (fun d => d.parameters.length) = some 0 := by decide +kernel
theorem hd_Lk_stopsNameless : y_Lk_stopsNameless.cls = "ReachFlow$Look" ∧ y_Lk_stopsNameless.cls ≠ "java/lang/invoke/MethodHandle" ∧ y_Lk_stopsNameless.cls ≠ "java/lang/invoke/VarHandle" ∧ (parseMethodDescriptor y_Lk_stopsNameless.desc).map (fun d => d.parameters.length) = some 2 := by decide +kernel
theorem hd_Lk_targetOf : y_Lk_targetOf.cls = "ReachFlow$Look" ∧ y_Lk_targetOf.cls ≠ "java/lang/invoke/MethodHandle" ∧ y_Lk_targetOf.cls ≠ "java/lang/invoke/VarHandle" ∧ (parseMethodDescriptor y_Lk_targetOf.desc).map (fun d => d.parameters.length) = some 1 := by decide +kernel
theorem hd_Rw_add : y_Rw_add.cls = "ReachFlow$Row" ∧ y_Rw_add.cls ≠ "java/lang/invoke/MethodHandle" ∧ y_Rw_add.cls ≠ "java/lang/invoke/VarHandle" ∧ (parseMethodDescriptor y_Rw_add.desc).map (fun d => d.parameters.length) = some 2 := by decide +kernel
theorem hd_Rw_close : y_Rw_close.cls = "ReachFlow$Row" ∧ y_Rw_close.cls ≠ "java/lang/invoke/MethodHandle" ∧ y_Rw_close.cls ≠ "java/lang/invoke/VarHandle" ∧ (parseMethodDescriptor y_Rw_close.desc).map (fun d => d.parameters.length) = some 0 := by decide +kernel
theorem hd_Rw_fitsMark : y_Rw_fitsMark.cls = "ReachFlow$Row" ∧ y_Rw_fitsMark.cls ≠ "java/lang/invoke/MethodHandle" ∧ y_Rw_fitsMark.cls ≠ "java/lang/invoke/VarHandle" ∧ (parseMethodDescriptor y_Rw_fitsMark.desc).map (fun d => d.parameters.length) = some 1 := by decide +kernel
theorem hd_Rw_isOpen : y_Rw_isOpen.cls = "ReachFlow$Row" ∧ y_Rw_isOpen.cls ≠ "java/lang/invoke/MethodHandle" ∧ y_Rw_isOpen.cls ≠ "java/lang/invoke/VarHandle" ∧ (parseMethodDescriptor y_Rw_isOpen.desc).map (fun d => d.parameters.length) = some 0 := by decide +kernel
theorem hd_Rw_start : y_Rw_start.cls = "ReachFlow$Row" ∧ y_Rw_start.cls ≠ "java/lang/invoke/MethodHandle" ∧ y_Rw_start.cls ≠ "java/lang/invoke/VarHandle" ∧ (parseMethodDescriptor y_Rw_start.desc).map (fun d => d.parameters.length) = some 1 := by decide +kernel
theorem hd_Tr_add : y_Tr_add.cls = "ReachFlow$Tree" ∧ y_Tr_add.cls ≠ "java/lang/invoke/MethodHandle" ∧ y_Tr_add.cls ≠ "java/lang/invoke/VarHandle" ∧ (parseMethodDescriptor y_Tr_add.desc).map (fun d => d.parameters.length) = some 2 := by decide +kernel
theorem hd_Tr_adopt : y_Tr_adopt.cls = "ReachFlow$Tree" ∧ y_Tr_adopt.cls ≠ "java/lang/invoke/MethodHandle" ∧ y_Tr_adopt.cls ≠ "java/lang/invoke/VarHandle" ∧ (parseMethodDescriptor y_Tr_adopt.desc).map (fun d => d.parameters.length) = some 2 := by decide +kernel
theorem hd_Tr_catchCount : y_Tr_catchCount.cls = "ReachFlow$Tree" ∧ y_Tr_catchCount.cls ≠ "java/lang/invoke/MethodHandle" ∧ y_Tr_catchCount.cls ≠ "java/lang/invoke/VarHandle" ∧ (parseMethodDescriptor y_Tr_catchCount.desc).map (fun d => d.parameters.length) = some 1 := by decide +kernel
theorem hd_Tr_closeRow : y_Tr_closeRow.cls = "ReachFlow$Tree" ∧ y_Tr_closeRow.cls ≠ "java/lang/invoke/MethodHandle" ∧ y_Tr_closeRow.cls ≠ "java/lang/invoke/VarHandle" ∧ (parseMethodDescriptor y_Tr_closeRow.desc).map (fun d => d.parameters.length) = some 3 := by decide +kernel
theorem hd_Tr_has : y_Tr_has.cls = "ReachFlow$Tree" ∧ y_Tr_has.cls ≠ "java/lang/invoke/MethodHandle" ∧ y_Tr_has.cls ≠ "java/lang/invoke/VarHandle" ∧ (parseMethodDescriptor y_Tr_has.desc).map (fun d => d.parameters.length) = some 1 := by decide +kernel
theorem hd_Tr_hasDefault : y_Tr_hasDefault.cls = "ReachFlow$Tree" ∧ y_Tr_hasDefault.cls ≠ "java/lang/invoke/MethodHandle" ∧ y_Tr_hasDefault.cls ≠ "java/lang/invoke/VarHandle" ∧ (parseMethodDescriptor y_Tr_hasDefault.desc).map (fun d => d.parameters.length) = some 1 := by decide +kernel
theorem hd_Tr_isCatch : y_Tr_isCatch.cls = "ReachFlow$Tree" ∧ y_Tr_isCatch.cls ≠ "java/lang/invoke/MethodHandle" ∧ y_Tr_isCatch.cls ≠ "java/lang/invoke/VarHandle" ∧ (parseMethodDescriptor y_Tr_isCatch.desc).map (fun d => d.parameters.length) = some 1 := by decide +kernel
theorem hd_Tr_isFree : y_Tr_isFree.cls = "ReachFlow$Tree" ∧ y_Tr_isFree.cls ≠ "java/lang/invoke/MethodHandle" ∧ y_Tr_isFree.cls ≠ "java/lang/invoke/VarHandle" ∧ (parseMethodDescriptor y_Tr_isFree.desc).map (fun d => d.parameters.length) = some 1 := by decide +kernel
theorem hd_Tr_isFreeBlock : y_Tr_isFreeBlock.cls = "ReachFlow$Tree" ∧ y_Tr_isFreeBlock.cls ≠ "java/lang/invoke/MethodHandle" ∧ y_Tr_isFreeBlock.cls ≠ "java/lang/invoke/VarHandle" ∧ (parseMethodDescriptor y_Tr_isFreeBlock.desc).map (fun d => d.parameters.length) = some 1 := by decide +kernel
theorem hd_Tr_isFull : y_Tr_isFull.cls = "ReachFlow$Tree" ∧ y_Tr_isFull.cls ≠ "java/lang/invoke/MethodHandle" ∧ y_Tr_isFull.cls ≠ "java/lang/invoke/VarHandle" ∧ (parseMethodDescriptor y_Tr_isFull.desc).map (fun d => d.parameters.length) = some 0 := by decide +kernel
theorem hd_Tr_kid : y_Tr_kid.cls = "ReachFlow$Tree" ∧ y_Tr_kid.cls ≠ "java/lang/invoke/MethodHandle" ∧ y_Tr_kid.cls ≠ "java/lang/invoke/VarHandle" ∧ (parseMethodDescriptor y_Tr_kid.desc).map (fun d => d.parameters.length) = some 2 := by decide +kernel
theorem hd_Tr_kidBefore : y_Tr_kidBefore.cls = "ReachFlow$Tree" ∧ y_Tr_kidBefore.cls ≠ "java/lang/invoke/MethodHandle" ∧ y_Tr_kidBefore.cls ≠ "java/lang/invoke/VarHandle" ∧ (parseMethodDescriptor y_Tr_kidBefore.desc).map (fun d => d.parameters.length) = some 1 := by decide +kernel
theorem hd_Tr_release : y_Tr_release.cls = "ReachFlow$Tree" ∧ y_Tr_release.cls ≠ "java/lang/invoke/MethodHandle" ∧ y_Tr_release.cls ≠ "java/lang/invoke/VarHandle" ∧ (parseMethodDescriptor y_Tr_release.desc).map (fun d => d.parameters.length) = some 1 := by decide +kernel
theorem hd_Tr_startAgain : y_Tr_startAgain.cls = "ReachFlow$Tree" ∧ y_Tr_startAgain.cls ≠ "java/lang/invoke/MethodHandle" ∧ y_Tr_startAgain.cls ≠ "java/lang/invoke/VarHandle" ∧ (parseMethodDescriptor y_Tr_startAgain.desc).map (fun d => d.parameters.length) = some 0 := by decide +kernel
theorem hd_Tr_take : y_Tr_take.cls = "ReachFlow$Tree" ∧ y_Tr_take.cls ≠ "java/lang/invoke/MethodHandle" ∧ y_Tr_take.cls ≠ "java/lang/invoke/VarHandle" ∧ (parseMethodDescriptor y_Tr_take.desc).map (fun d => d.parameters.length) = some 2 := by decide +kernel
theorem hd_Tr_testOf : y_Tr_testOf.cls = "ReachFlow$Tree" ∧ y_Tr_testOf.cls ≠ "java/lang/invoke/MethodHandle" ∧ y_Tr_testOf.cls ≠ "java/lang/invoke/VarHandle" ∧ (parseMethodDescriptor y_Tr_testOf.desc).map (fun d => d.parameters.length) = some 1 := by decide +kernel
theorem hd_Md_anyComplete : y_Md_anyComplete.cls = "ReachFlowModel" ∧ y_Md_anyComplete.cls ≠ "java/lang/invoke/MethodHandle" ∧ y_Md_anyComplete.cls ≠ "java/lang/invoke/VarHandle" ∧ (parseMethodDescriptor y_Md_anyComplete.desc).map (fun d => d.parameters.length) = some 1 := by decide +kernel
theorem hd_Md_begin : y_Md_begin.cls = "ReachFlowModel" ∧ y_Md_begin.cls ≠ "java/lang/invoke/MethodHandle" ∧ y_Md_begin.cls ≠ "java/lang/invoke/VarHandle" ∧ (parseMethodDescriptor y_Md_begin.desc).map (fun d => d.parameters.length) = some 0 := by decide +kernel
theorem hd_Md_branches : y_Md_branches.cls = "ReachFlowModel" ∧ y_Md_branches.cls ≠ "java/lang/invoke/MethodHandle" ∧ y_Md_branches.cls ≠ "java/lang/invoke/VarHandle" ∧ (parseMethodDescriptor y_Md_branches.desc).map (fun d => d.parameters.length) = some 2 := by decide +kernel
theorem hd_Md_catches : y_Md_catches.cls = "ReachFlowModel" ∧ y_Md_catches.cls ≠ "java/lang/invoke/MethodHandle" ∧ y_Md_catches.cls ≠ "java/lang/invoke/VarHandle" ∧ (parseMethodDescriptor y_Md_catches.desc).map (fun d => d.parameters.length) = some 2 := by decide +kernel
theorem hd_Md_come : y_Md_come.cls = "ReachFlowModel" ∧ y_Md_come.cls ≠ "java/lang/invoke/MethodHandle" ∧ y_Md_come.cls ≠ "java/lang/invoke/VarHandle" ∧ (parseMethodDescriptor y_Md_come.desc).map (fun d => d.parameters.length) = some 1 := by decide +kernel
theorem hd_Md_endBy : y_Md_endBy.cls = "ReachFlowModel" ∧ y_Md_endBy.cls ≠ "java/lang/invoke/MethodHandle" ∧ y_Md_endBy.cls ≠ "java/lang/invoke/VarHandle" ∧ (parseMethodDescriptor y_Md_endBy.desc).map (fun d => d.parameters.length) = some 2 := by decide +kernel
theorem hd_Md_exits : y_Md_exits.cls = "ReachFlowModel" ∧ y_Md_exits.cls ≠ "java/lang/invoke/MethodHandle" ∧ y_Md_exits.cls ≠ "java/lang/invoke/VarHandle" ∧ (parseMethodDescriptor y_Md_exits.desc).map (fun d => d.parameters.length) = some 1 := by decide +kernel
theorem hd_Md_hasDefault : y_Md_hasDefault.cls = "ReachFlowModel" ∧ y_Md_hasDefault.cls ≠ "java/lang/invoke/MethodHandle" ∧ y_Md_hasDefault.cls ≠ "java/lang/invoke/VarHandle" ∧ (parseMethodDescriptor y_Md_hasDefault.desc).map (fun d => d.parameters.length) = some 0 := by decide +kernel
theorem hd_Md_isAsked : y_Md_isAsked.cls = "ReachFlowModel" ∧ y_Md_isAsked.cls ≠ "java/lang/invoke/MethodHandle" ∧ y_Md_isAsked.cls ≠ "java/lang/invoke/VarHandle" ∧ (parseMethodDescriptor y_Md_isAsked.desc).map (fun d => d.parameters.length) = some 1 := by decide +kernel
theorem hd_Md_isBelow : y_Md_isBelow.cls = "ReachFlowModel" ∧ y_Md_isBelow.cls ≠ "java/lang/invoke/MethodHandle" ∧ y_Md_isBelow.cls ≠ "java/lang/invoke/VarHandle" ∧ (parseMethodDescriptor y_Md_isBelow.desc).map (fun d => d.parameters.length) = some 2 := by decide +kernel
theorem hd_Md_isCatch : y_Md_isCatch.cls = "ReachFlowModel" ∧ y_Md_isCatch.cls ≠ "java/lang/invoke/MethodHandle" ∧ y_Md_isCatch.cls ≠ "java/lang/invoke/VarHandle" ∧ (parseMethodDescriptor y_Md_isCatch.desc).map (fun d => d.parameters.length) = some 1 := by decide +kernel
theorem hd_Md_isEnded : y_Md_isEnded.cls = "ReachFlowModel" ∧ y_Md_isEnded.cls ≠ "java/lang/invoke/MethodHandle" ∧ y_Md_isEnded.cls ≠ "java/lang/invoke/VarHandle" ∧ (parseMethodDescriptor y_Md_isEnded.desc).map (fun d => d.parameters.length) = some 2 := by decide +kernel
theorem hd_Md_isEnding : y_Md_isEnding.cls = "ReachFlowModel" ∧ y_Md_isEnding.cls ≠ "java/lang/invoke/MethodHandle" ∧ y_Md_isEnding.cls ≠ "java/lang/invoke/VarHandle" ∧ (parseMethodDescriptor y_Md_isEnding.desc).map (fun d => d.parameters.length) = some 1 := by decide +kernel
theorem hd_Md_isExit : y_Md_isExit.cls = "ReachFlowModel" ∧ y_Md_isExit.cls ≠ "java/lang/invoke/MethodHandle" ∧ y_Md_isExit.cls ≠ "java/lang/invoke/VarHandle" ∧ (parseMethodDescriptor y_Md_isExit.desc).map (fun d => d.parameters.length) = some 2 := by decide +kernel
theorem hd_Md_isFree : y_Md_isFree.cls = "ReachFlowModel" ∧ y_Md_isFree.cls ≠ "java/lang/invoke/MethodHandle" ∧ y_Md_isFree.cls ≠ "java/lang/invoke/VarHandle" ∧ (parseMethodDescriptor y_Md_isFree.desc).map (fun d => d.parameters.length) = some 1 := by decide +kernel
theorem hd_Md_isIn : y_Md_isIn.cls = "ReachFlowModel" ∧ y_Md_isIn.cls ≠ "java/lang/invoke/MethodHandle" ∧ y_Md_isIn.cls ≠ "java/lang/invoke/VarHandle" ∧ (parseMethodDescriptor y_Md_isIn.desc).map (fun d => d.parameters.length) = some 3 := by decide +kernel
theorem hd_Md_isKind : y_Md_isKind.cls = "ReachFlowModel" ∧ y_Md_isKind.cls ≠ "java/lang/invoke/MethodHandle" ∧ y_Md_isKind.cls ≠ "java/lang/invoke/VarHandle" ∧ (parseMethodDescriptor y_Md_isKind.desc).map (fun d => d.parameters.length) = some 1 := by decide +kernel
theorem hd_Md_isLoop : y_Md_isLoop.cls = "ReachFlowModel" ∧ y_Md_isLoop.cls ≠ "java/lang/invoke/MethodHandle" ∧ y_Md_isLoop.cls ≠ "java/lang/invoke/VarHandle" ∧ (parseMethodDescriptor y_Md_isLoop.desc).map (fun d => d.parameters.length) = some 1 := by decide +kernel
theorem hd_Md_isNested : y_Md_isNested.cls = "ReachFlowModel" ∧ y_Md_isNested.cls ≠ "java/lang/invoke/MethodHandle" ∧ y_Md_isNested.cls ≠ "java/lang/invoke/VarHandle" ∧ (parseMethodDescriptor y_Md_isNested.desc).map (fun d => d.parameters.length) = some 1 := by decide +kernel
theorem hd_Md_isNode : y_Md_isNode.cls = "ReachFlowModel" ∧ y_Md_isNode.cls ≠ "java/lang/invoke/MethodHandle" ∧ y_Md_isNode.cls ≠ "java/lang/invoke/VarHandle" ∧ (parseMethodDescriptor y_Md_isNode.desc).map (fun d => d.parameters.length) = some 1 := by decide +kernel
theorem hd_Md_isShadowed : y_Md_isShadowed.cls = "ReachFlowModel" ∧ y_Md_isShadowed.cls ≠ "java/lang/invoke/MethodHandle" ∧ y_Md_isShadowed.cls ≠ "java/lang/invoke/VarHandle" ∧ (parseMethodDescriptor y_Md_isShadowed.desc).map (fun d => d.parameters.length) = some 1 := by decide +kernel
theorem hd_Md_isWhole : y_Md_isWhole.cls = "ReachFlowModel" ∧ y_Md_isWhole.cls ≠ "java/lang/invoke/MethodHandle" ∧ y_Md_isWhole.cls ≠ "java/lang/invoke/VarHandle" ∧ (parseMethodDescriptor y_Md_isWhole.desc).map (fun d => d.parameters.length) = some 1 := by decide +kernel
theorem hd_Md_join : y_Md_join.cls = "ReachFlowModel" ∧ y_Md_join.cls ≠ "java/lang/invoke/MethodHandle" ∧ y_Md_join.cls ≠ "java/lang/invoke/VarHandle" ∧ (parseMethodDescriptor y_Md_join.desc).map (fun d => d.parameters.length) = some 2 := by decide +kernel
theorem hd_Md_judge : y_Md_judge.cls = "ReachFlowModel" ∧ y_Md_judge.cls ≠ "java/lang/invoke/MethodHandle" ∧ y_Md_judge.cls ≠ "java/lang/invoke/VarHandle" ∧ (parseMethodDescriptor y_Md_judge.desc).map (fun d => d.parameters.length) = some 1 := by decide +kernel
theorem hd_Md_line : y_Md_line.cls = "ReachFlowModel" ∧ y_Md_line.cls ≠ "java/lang/invoke/MethodHandle" ∧ y_Md_line.cls ≠ "java/lang/invoke/VarHandle" ∧ (parseMethodDescriptor y_Md_line.desc).map (fun d => d.parameters.length) = some 0 := by decide +kernel
theorem hd_Md_look : y_Md_look.cls = "ReachFlowModel" ∧ y_Md_look.cls ≠ "java/lang/invoke/MethodHandle" ∧ y_Md_look.cls ≠ "java/lang/invoke/VarHandle" ∧ (parseMethodDescriptor y_Md_look.desc).map (fun d => d.parameters.length) = some 1 := by decide +kernel
theorem hd_Md_make : y_Md_make.cls = "ReachFlowModel" ∧ y_Md_make.cls ≠ "java/lang/invoke/MethodHandle" ∧ y_Md_make.cls ≠ "java/lang/invoke/VarHandle" ∧ (parseMethodDescriptor y_Md_make.desc).map (fun d => d.parameters.length) = some 2 := by decide +kernel
theorem hd_Md_mayBe : y_Md_mayBe.cls = "ReachFlowModel" ∧ y_Md_mayBe.cls ≠ "java/lang/invoke/MethodHandle" ∧ y_Md_mayBe.cls ≠ "java/lang/invoke/VarHandle" ∧ (parseMethodDescriptor y_Md_mayBe.desc).map (fun d => d.parameters.length) = some 4 := by decide +kernel
theorem hd_Md_mayEnd : y_Md_mayEnd.cls = "ReachFlowModel" ∧ y_Md_mayEnd.cls ≠ "java/lang/invoke/MethodHandle" ∧ y_Md_mayEnd.cls ≠ "java/lang/invoke/VarHandle" ∧ (parseMethodDescriptor y_Md_mayEnd.desc).map (fun d => d.parameters.length) = some 1 := by decide +kernel
theorem hd_Md_mayPut : y_Md_mayPut.cls = "ReachFlowModel" ∧ y_Md_mayPut.cls ≠ "java/lang/invoke/MethodHandle" ∧ y_Md_mayPut.cls ≠ "java/lang/invoke/VarHandle" ∧ (parseMethodDescriptor y_Md_mayPut.desc).map (fun d => d.parameters.length) = some 2 := by decide +kernel
theorem hd_Md_mustComplete : y_Md_mustComplete.cls = "ReachFlowModel" ∧ y_Md_mustComplete.cls ≠ "java/lang/invoke/MethodHandle" ∧ y_Md_mustComplete.cls ≠ "java/lang/invoke/VarHandle" ∧ (parseMethodDescriptor y_Md_mustComplete.desc).map (fun d => d.parameters.length) = some 1 := by decide +kernel
theorem hd_Md_mustReach : y_Md_mustReach.cls = "ReachFlowModel" ∧ y_Md_mustReach.cls ≠ "java/lang/invoke/MethodHandle" ∧ y_Md_mustReach.cls ≠ "java/lang/invoke/VarHandle" ∧ (parseMethodDescriptor y_Md_mustReach.desc).map (fun d => d.parameters.length) = some 1 := by decide +kernel
theorem hd_Md_mustThrow : y_Md_mustThrow.cls = "ReachFlowModel" ∧ y_Md_mustThrow.cls ≠ "java/lang/invoke/MethodHandle" ∧ y_Md_mustThrow.cls ≠ "java/lang/invoke/VarHandle" ∧ (parseMethodDescriptor y_Md_mustThrow.desc).map (fun d => d.parameters.length) = some 2 := by decide +kernel
theorem hd_Md_pass : y_Md_pass.cls = "ReachFlowModel" ∧ y_Md_pass.cls ≠ "java/lang/invoke/MethodHandle" ∧ y_Md_pass.cls ≠ "java/lang/invoke/VarHandle" ∧ (parseMethodDescriptor y_Md_pass.desc).map (fun d => d.parameters.length) = some 2 := by decide +kernel
theorem hd_Md_raises : y_Md_raises.cls = "ReachFlowModel" ∧ y_Md_raises.cls ≠ "java/lang/invoke/MethodHandle" ∧ y_Md_raises.cls ≠ "java/lang/invoke/VarHandle" ∧ (parseMethodDescriptor y_Md_raises.desc).map (fun d => d.parameters.length) = some 1 := by decide +kernel
theorem hd_Md_rules : y_Md_rules.cls = "ReachFlowModel" ∧ y_Md_rules.cls ≠ "java/lang/invoke/MethodHandle" ∧ y_Md_rules.cls ≠ "java/lang/invoke/VarHandle" ∧ (parseMethodDescriptor y_Md_rules.desc).map (fun d => d.parameters.length) = some 0 := by decide +kernel
theorem hd_Md_steps : y_Md_steps.cls = "ReachFlowModel" ∧ y_Md_steps.cls ≠ "java/lang/invoke/MethodHandle" ∧ y_Md_steps.cls ≠ "java/lang/invoke/VarHandle" ∧ (parseMethodDescriptor y_Md_steps.desc).map (fun d => d.parameters.length) = some 1 := by decide +kernel
theorem hd_Md_switches : y_Md_switches.cls = "ReachFlowModel" ∧ y_Md_switches.cls ≠ "java/lang/invoke/MethodHandle" ∧ y_Md_switches.cls ≠ "java/lang/invoke/VarHandle" ∧ (parseMethodDescriptor y_Md_switches.desc).map (fun d => d.parameters.length) = some 1 := by decide +kernel
theorem hd_Md_targetOf : y_Md_targetOf.cls = "ReachFlowModel" ∧ y_Md_targetOf.cls ≠ "java/lang/invoke/MethodHandle" ∧ y_Md_targetOf.cls ≠ "java/lang/invoke/VarHandle" ∧ (parseMethodDescriptor y_Md_targetOf.desc).map (fun d => d.parameters.length) = some 1 := by decide +kernel
theorem hd_Md_tell : y_Md_tell.cls = "ReachFlowModel" ∧ y_Md_tell.cls ≠ "java/lang/invoke/MethodHandle" ∧ y_Md_tell.cls ≠ "java/lang/invoke/VarHandle" ∧ (parseMethodDescriptor y_Md_tell.desc).map (fun d => d.parameters.length) = some 3 := by decide +kernel
theorem hd_Md_through : y_Md_through.cls = "ReachFlowModel" ∧ y_Md_through.cls ≠ "java/lang/invoke/MethodHandle" ∧ y_Md_through.cls ≠ "java/lang/invoke/VarHandle" ∧ (parseMethodDescriptor y_Md_through.desc).map (fun d => d.parameters.length) = some 2 := by decide +kernel
theorem hd_Md_tries : y_Md_tries.cls = "ReachFlowModel" ∧ y_Md_tries.cls ≠ "java/lang/invoke/MethodHandle" ∧ y_Md_tries.cls ≠ "java/lang/invoke/VarHandle" ∧ (parseMethodDescriptor y_Md_tries.desc).map (fun d => d.parameters.length) = some 1 := by decide +kernel
theorem hd_Md_triesComplete : y_Md_triesComplete.cls = "ReachFlowModel" ∧ y_Md_triesComplete.cls ≠ "java/lang/invoke/MethodHandle" ∧ y_Md_triesComplete.cls ≠ "java/lang/invoke/VarHandle" ∧ (parseMethodDescriptor y_Md_triesComplete.desc).map (fun d => d.parameters.length) = some 1 := by decide +kernel
theorem hd_Md_turns : y_Md_turns.cls = "ReachFlowModel" ∧ y_Md_turns.cls ≠ "java/lang/invoke/MethodHandle" ∧ y_Md_turns.cls ≠ "java/lang/invoke/VarHandle" ∧ (parseMethodDescriptor y_Md_turns.desc).map (fun d => d.parameters.length) = some 2 := by decide +kernel
theorem hd_Md_up : y_Md_up.cls = "ReachFlowModel" ∧ y_Md_up.cls ≠ "java/lang/invoke/MethodHandle" ∧ y_Md_up.cls ≠ "java/lang/invoke/VarHandle" ∧ (parseMethodDescriptor y_Md_up.desc).map (fun d => d.parameters.length) = some 1 := by decide +kernel
theorem hd_Md_walk : y_Md_walk.cls = "ReachFlowModel" ∧ y_Md_walk.cls ≠ "java/lang/invoke/MethodHandle" ∧ y_Md_walk.cls ≠ "java/lang/invoke/VarHandle" ∧ (parseMethodDescriptor y_Md_walk.desc).map (fun d => d.parameters.length) = some 1 := by decide +kernel
theorem hd_Md_walks : y_Md_walks.cls = "ReachFlowModel" ∧ y_Md_walks.cls ≠ "java/lang/invoke/MethodHandle" ∧ y_Md_walks.cls ≠ "java/lang/invoke/VarHandle" ∧ (parseMethodDescriptor y_Md_walks.desc).map (fun d => d.parameters.length) = some 0 := by decide +kernel
theorem hdU_comeTo : "ReachFlow$Flow" ≠ "java/lang/invoke/MethodHandle" ∧ "ReachFlow$Flow" ≠ "java/lang/invoke/VarHandle" ∧ (parseMethodDescriptor "(II)V").map (fun d => d.parameters.length) = some 2 := by decide +kernel
theorem hdU_endsBy : "ReachFlow$Flow" ≠ "java/lang/invoke/MethodHandle" ∧ "ReachFlow$Flow" ≠ "java/lang/invoke/VarHandle" ∧ (parseMethodDescriptor "(III)Z").map (fun d => d.parameters.length) = some 3 := by decide +kernel
theorem hdU_endsNormally : "ReachFlow$Flow" ≠ "java/lang/invoke/MethodHandle" ∧ "ReachFlow$Flow" ≠ "java/lang/invoke/VarHandle" ∧ (parseMethodDescriptor "(I)Z").map (fun d => d.parameters.length) = some 1 := by decide +kernel
theorem hdU_endsSomehow : "ReachFlow$Flow" ≠ "java/lang/invoke/MethodHandle" ∧ "ReachFlow$Flow" ≠ "java/lang/invoke/VarHandle" ∧ (parseMethodDescriptor "(I)Z").map (fun d => d.parameters.length) = some 1 := by decide +kernel
theorem hdU_flow : "ReachFlow$Flow" ≠ "java/lang/invoke/MethodHandle" ∧ "ReachFlow$Flow" ≠ "java/lang/invoke/VarHandle" ∧ (parseMethodDescriptor "([II[I)V").map (fun d => d.parameters.length) = some 3 := by decide +kernel
theorem hdU_forget : "ReachFlow$Flow" ≠ "java/lang/invoke/MethodHandle" ∧ "ReachFlow$Flow" ≠ "java/lang/invoke/VarHandle" ∧ (parseMethodDescriptor "()V").map (fun d => d.parameters.length) = some 0 := by decide +kernel
theorem hdU_goesPast : "ReachFlow$Flow" ≠ "java/lang/invoke/MethodHandle" ∧ "ReachFlow$Flow" ≠ "java/lang/invoke/VarHandle" ∧ (parseMethodDescriptor "(IZ)Z").map (fun d => d.parameters.length) = some 2 := by decide +kernel
theorem hdU_meets : "ReachFlow$Flow" ≠ "java/lang/invoke/MethodHandle" ∧ "ReachFlow$Flow" ≠ "java/lang/invoke/VarHandle" ∧ (parseMethodDescriptor "(I)Z").map (fun d => d.parameters.length) = some 1 := by decide +kernel
theorem hdU_opensCatch : "ReachFlow$Flow" ≠ "java/lang/invoke/MethodHandle" ∧ "ReachFlow$Flow" ≠ "java/lang/invoke/VarHandle" ∧ (parseMethodDescriptor "(III)Z").map (fun d => d.parameters.length) = some 3 := by decide +kernel
theorem hdU_opensEnding : "ReachFlow$Flow" ≠ "java/lang/invoke/MethodHandle" ∧ "ReachFlow$Flow" ≠ "java/lang/invoke/VarHandle" ∧ (parseMethodDescriptor "(I)Z").map (fun d => d.parameters.length) = some 1 := by decide +kernel
theorem hdU_opensPart : "ReachFlow$Flow" ≠ "java/lang/invoke/MethodHandle" ∧ "ReachFlow$Flow" ≠ "java/lang/invoke/VarHandle" ∧ (parseMethodDescriptor "(IIIZ)Z").map (fun d => d.parameters.length) = some 4 := by decide +kernel
theorem hdU_settle : "ReachFlow$Flow" ≠ "java/lang/invoke/MethodHandle" ∧ "ReachFlow$Flow" ≠ "java/lang/invoke/VarHandle" ∧ (parseMethodDescriptor "(II)V").map (fun d => d.parameters.length) = some 2 := by decide +kernel
theorem hdU_settleTry : "ReachFlow$Flow" ≠ "java/lang/invoke/MethodHandle" ∧ "ReachFlow$Flow" ≠ "java/lang/invoke/VarHandle" ∧ (parseMethodDescriptor "(I)V").map (fun d => d.parameters.length) = some 1 := by decide +kernel
theorem hdU_settleWhole : "ReachFlow$Flow" ≠ "java/lang/invoke/MethodHandle" ∧ "ReachFlow$Flow" ≠ "java/lang/invoke/VarHandle" ∧ (parseMethodDescriptor "(I)V").map (fun d => d.parameters.length) = some 1 := by decide +kernel
theorem hdU_somePartGoesOn : "ReachFlow$Flow" ≠ "java/lang/invoke/MethodHandle" ∧ "ReachFlow$Flow" ≠ "java/lang/invoke/VarHandle" ∧ (parseMethodDescriptor "(I)Z").map (fun d => d.parameters.length) = some 1 := by decide +kernel
theorem hdU_testOfIf : "ReachFlow$Flow" ≠ "java/lang/invoke/MethodHandle" ∧ "ReachFlow$Flow" ≠ "java/lang/invoke/VarHandle" ∧ (parseMethodDescriptor "(I)I").map (fun d => d.parameters.length) = some 1 := by decide +kernel
theorem hdU_thrownAs : "ReachFlow$Flow" ≠ "java/lang/invoke/MethodHandle" ∧ "ReachFlow$Flow" ≠ "java/lang/invoke/VarHandle" ∧ (parseMethodDescriptor "(I)I").map (fun d => d.parameters.length) = some 1 := by decide +kernel
theorem hdU_wipe : "ReachFlow$Flow" ≠ "java/lang/invoke/MethodHandle" ∧ "ReachFlow$Flow" ≠ "java/lang/invoke/VarHandle" ∧ (parseMethodDescriptor "(I)V").map (fun d => d.parameters.length) = some 1 := by decide +kernel
theorem inb_Kn : ∀ w ∈ u_ws R_Kn F_Kn 3, w ∈ tb := by
  intro w hw
  obtain ⟨k, hk, rfl⟩ := List.mem_map.mp hw
  have hk := List.mem_range.mp hk
  match k, hk with
  | 0, _ => exact tw44
  | 1, _ => exact tw46
  | 2, _ => exact tw48
  | k + 3, h => omega
theorem inb_Tr : ∀ w ∈ u_ws R_Tr F_Tr 14, w ∈ tb := by
  intro w hw
  obtain ⟨k, hk, rfl⟩ := List.mem_map.mp hw
  have hk := List.mem_range.mp hk
  match k, hk with
  | 0, _ => exact tw91
  | 1, _ => exact tw93
  | 2, _ => exact tw95
  | 3, _ => exact tw97
  | 4, _ => exact tw99
  | 5, _ => exact tw101
  | 6, _ => exact tw103
  | 7, _ => exact tw105
  | 8, _ => exact tw107
  | 9, _ => exact tw109
  | 10, _ => exact tw111
  | 11, _ => exact tw113
  | 12, _ => exact tw115
  | 13, _ => exact tw117
  | k + 14, h => omega
theorem inb_Rw : ∀ w ∈ u_ws R_Rw F_Rw 4, w ∈ tb := by
  intro w hw
  obtain ⟨k, hk, rfl⟩ := List.mem_map.mp hw
  have hk := List.mem_range.mp hk
  match k, hk with
  | 0, _ => exact tw135
  | 1, _ => exact tw137
  | 2, _ => exact tw139
  | 3, _ => exact tw141
  | k + 4, h => omega
theorem inb_Lk : ∀ w ∈ u_ws R_Lk F_Lk 14, w ∈ tb := by
  intro w hw
  obtain ⟨k, hk, rfl⟩ := List.mem_map.mp hw
  have hk := List.mem_range.mp hk
  match k, hk with
  | 0, _ => exact tw247
  | 1, _ => exact tw249
  | 2, _ => exact tw251
  | 3, _ => exact tw253
  | 4, _ => exact tw255
  | 5, _ => exact tw257
  | 6, _ => exact tw259
  | 7, _ => exact tw261
  | 8, _ => exact tw263
  | 9, _ => exact tw265
  | 10, _ => exact tw267
  | 11, _ => exact tw269
  | 12, _ => exact tw271
  | 13, _ => exact tw273
  | k + 14, h => omega
theorem inb_Br : ∀ w ∈ u_ws R_Br F_Br 9, w ∈ tb := by
  intro w hw
  obtain ⟨k, hk, rfl⟩ := List.mem_map.mp hw
  have hk := List.mem_range.mp hk
  match k, hk with
  | 0, _ => exact tw175
  | 1, _ => exact tw177
  | 2, _ => exact tw179
  | 3, _ => exact tw181
  | 4, _ => exact tw183
  | 5, _ => exact tw185
  | 6, _ => exact tw187
  | 7, _ => exact tw189
  | 8, _ => exact tw191
  | k + 9, h => omega
theorem inb_Bw : ∀ w ∈ u_ws R_Bw F_Bw 9, w ∈ tb := by
  intro w hw
  obtain ⟨k, hk, rfl⟩ := List.mem_map.mp hw
  have hk := List.mem_range.mp hk
  match k, hk with
  | 0, _ => exact tw200
  | 1, _ => exact tw201
  | 2, _ => exact tw202
  | 3, _ => exact tw203
  | 4, _ => exact tw204
  | 5, _ => exact tw205
  | 6, _ => exact tw206
  | 7, _ => exact tw207
  | 8, _ => exact tw208
  | k + 9, h => omega
theorem inb_Rf : ∀ w ∈ u_ws R_Rf F_Rf 4, w ∈ tb := by
  intro w hw
  obtain ⟨k, hk, rfl⟩ := List.mem_map.mp hw
  have hk := List.mem_range.mp hk
  match k, hk with
  | 0, _ => exact tw280
  | 1, _ => exact tw282
  | 2, _ => exact tw284
  | 3, _ => exact tw286
  | k + 4, h => omega
theorem inb_Md : ∀ w ∈ u_ws R_Md F_Md 35, w ∈ tb := by
  intro w hw
  obtain ⟨k, hk, rfl⟩ := List.mem_map.mp hw
  have hk := List.mem_range.mp hk
  match k, hk with
  | 0, _ => exact tw722
  | 1, _ => exact tw724
  | 2, _ => exact tw726
  | 3, _ => exact tw728
  | 4, _ => exact tw730
  | 5, _ => exact tw732
  | 6, _ => exact tw734
  | 7, _ => exact tw736
  | 8, _ => exact tw738
  | 9, _ => exact tw740
  | 10, _ => exact tw742
  | 11, _ => exact tw744
  | 12, _ => exact tw746
  | 13, _ => exact tw748
  | 14, _ => exact tw750
  | 15, _ => exact tw752
  | 16, _ => exact tw754
  | 17, _ => exact tw756
  | 18, _ => exact tw758
  | 19, _ => exact tw760
  | 20, _ => exact tw762
  | 21, _ => exact tw764
  | 22, _ => exact tw766
  | 23, _ => exact tw768
  | 24, _ => exact tw770
  | 25, _ => exact tw772
  | 26, _ => exact tw774
  | 27, _ => exact tw776
  | 28, _ => exact tw778
  | 29, _ => exact tw780
  | 30, _ => exact tw782
  | 31, _ => exact tw784
  | 32, _ => exact tw786
  | 33, _ => exact tw788
  | 34, _ => exact tw790
  | k + 35, h => omega
