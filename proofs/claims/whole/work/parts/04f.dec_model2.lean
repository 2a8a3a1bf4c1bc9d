theorem d_Md_mustThrow_246 : decode b_Md_mustThrow 246 = .ok (.ifCond .ne 7, 3) := by decide +kernel
theorem d_Md_mustThrow_249 : decode b_Md_mustThrow 249 = .ok (.iconst 1, 1) := by decide +kernel
theorem d_Md_mustThrow_250 : decode b_Md_mustThrow 250 = .ok (.goto 4, 3) := by decide +kernel
theorem d_Md_mustThrow_253 : decode b_Md_mustThrow 253 = .ok (.iconst 0, 1) := by decide +kernel
theorem d_Md_mustThrow_254 : decode b_Md_mustThrow 254 = .ok (.istore_n 3, 1) := by decide +kernel
theorem d_Md_mustThrow_255 : decode b_Md_mustThrow 255 = .ok (.iload 4, 2) := by decide +kernel
theorem d_Md_mustThrow_257 : decode b_Md_mustThrow 257 = .ok (.iconst (-1), 1) := by decide +kernel
theorem d_Md_mustThrow_258 : decode b_Md_mustThrow 258 = .ok (.if_icmp .ne 5, 3) := by decide +kernel
theorem d_Md_mustThrow_261 : decode b_Md_mustThrow 261 = .ok (.iload_n 3, 1) := by decide +kernel
theorem d_Md_mustThrow_262 : decode b_Md_mustThrow 262 = .ok (.ireturn, 1) := by decide +kernel
theorem d_Md_mustThrow_263 : decode b_Md_mustThrow 263 = .ok (.iload_n 3, 1) := by decide +kernel
theorem d_Md_mustThrow_264 : decode b_Md_mustThrow 264 = .ok (.ifCond .eq 13, 3) := by decide +kernel
theorem d_Md_mustThrow_267 : decode b_Md_mustThrow 267 = .ok (.aload_n 0, 1) := by decide +kernel
theorem d_Md_mustThrow_268 : decode b_Md_mustThrow 268 = .ok (.getfield 59, 3) := by decide +kernel
theorem d_Md_mustThrow_271 : decode b_Md_mustThrow 271 = .ok (.iload 4, 2) := by decide +kernel
theorem d_Md_mustThrow_273 : decode b_Md_mustThrow 273 = .ok (.baload, 1) := by decide +kernel
theorem d_Md_mustThrow_274 : decode b_Md_mustThrow 274 = .ok (.ifCond .ne 18, 3) := by decide +kernel
theorem d_Md_mustThrow_277 : decode b_Md_mustThrow 277 = .ok (.aload_n 0, 1) := by decide +kernel
theorem d_Md_mustThrow_278 : decode b_Md_mustThrow 278 = .ok (.getfield 62, 3) := by decide +kernel
theorem d_Md_mustThrow_281 : decode b_Md_mustThrow 281 = .ok (.bipush 12, 2) := by decide +kernel
theorem d_Md_mustThrow_283 : decode b_Md_mustThrow 283 = .ok (.iload 4, 2) := by decide +kernel
theorem d_Md_mustThrow_285 : decode b_Md_mustThrow 285 = .ok (.imul, 1) := by decide +kernel
theorem d_Md_mustThrow_286 : decode b_Md_mustThrow 286 = .ok (.iload_n 2, 1) := by decide +kernel
theorem d_Md_mustThrow_287 : decode b_Md_mustThrow 287 = .ok (.iadd, 1) := by decide +kernel
theorem d_Md_mustThrow_288 : decode b_Md_mustThrow 288 = .ok (.baload, 1) := by decide +kernel
theorem d_Md_mustThrow_289 : decode b_Md_mustThrow 289 = .ok (.ifCond .eq 7, 3) := by decide +kernel
theorem d_Md_mustThrow_292 : decode b_Md_mustThrow 292 = .ok (.iconst 1, 1) := by decide +kernel
theorem d_Md_mustThrow_293 : decode b_Md_mustThrow 293 = .ok (.goto 4, 3) := by decide +kernel
theorem d_Md_mustThrow_296 : decode b_Md_mustThrow 296 = .ok (.iconst 0, 1) := by decide +kernel
theorem d_Md_mustThrow_297 : decode b_Md_mustThrow 297 = .ok (.ireturn, 1) := by decide +kernel
theorem d_Md_rules_0 : decode b_Md_rules 0 = .ok (.aload_n 0, 1) := by decide +kernel
theorem d_Md_rules_1 : decode b_Md_rules 1 = .ok (.iconst 1, 1) := by decide +kernel
theorem d_Md_rules_2 : decode b_Md_rules 2 = .ok (.putfield 182, 3) := by decide +kernel
theorem d_Md_rules_5 : decode b_Md_rules 5 = .ok (.aload_n 0, 1) := by decide +kernel
theorem d_Md_rules_6 : decode b_Md_rules 6 = .ok (.getfield 182, 3) := by decide +kernel
theorem d_Md_rules_9 : decode b_Md_rules 9 = .ok (.ifCond .eq 148, 3) := by decide +kernel
theorem d_Md_rules_12 : decode b_Md_rules 12 = .ok (.aload_n 0, 1) := by decide +kernel
theorem d_Md_rules_13 : decode b_Md_rules 13 = .ok (.iconst 0, 1) := by decide +kernel
theorem d_Md_rules_14 : decode b_Md_rules 14 = .ok (.putfield 182, 3) := by decide +kernel
theorem d_Md_rules_17 : decode b_Md_rules 17 = .ok (.iconst 0, 1) := by decide +kernel
theorem d_Md_rules_18 : decode b_Md_rules 18 = .ok (.istore_n 1, 1) := by decide +kernel
theorem d_Md_rules_19 : decode b_Md_rules 19 = .ok (.iload_n 1, 1) := by decide +kernel
theorem d_Md_rules_20 : decode b_Md_rules 20 = .ok (.aload_n 0, 1) := by decide +kernel
theorem d_Md_rules_21 : decode b_Md_rules 21 = .ok (.getfield 142, 3) := by decide +kernel
theorem d_Md_rules_24 : decode b_Md_rules 24 = .ok (.if_icmp .ge 130, 3) := by decide +kernel
theorem d_Md_rules_27 : decode b_Md_rules 27 = .ok (.aload_n 0, 1) := by decide +kernel
theorem d_Md_rules_28 : decode b_Md_rules 28 = .ok (.getfield 47, 3) := by decide +kernel
theorem d_Md_rules_31 : decode b_Md_rules 31 = .ok (.iload_n 1, 1) := by decide +kernel
theorem d_Md_rules_32 : decode b_Md_rules 32 = .ok (.iaload, 1) := by decide +kernel
theorem d_Md_rules_33 : decode b_Md_rules 33 = .ok (.istore_n 2, 1) := by decide +kernel
theorem d_Md_rules_34 : decode b_Md_rules 34 = .ok (.aload_n 0, 1) := by decide +kernel
theorem d_Md_rules_35 : decode b_Md_rules 35 = .ok (.getfield 56, 3) := by decide +kernel
theorem d_Md_rules_38 : decode b_Md_rules 38 = .ok (.iload_n 2, 1) := by decide +kernel
theorem d_Md_rules_39 : decode b_Md_rules 39 = .ok (.baload, 1) := by decide +kernel
theorem d_Md_rules_40 : decode b_Md_rules 40 = .ok (.ifCond .ne 23, 3) := by decide +kernel
theorem d_Md_rules_43 : decode b_Md_rules 43 = .ok (.aload_n 0, 1) := by decide +kernel
theorem d_Md_rules_44 : decode b_Md_rules 44 = .ok (.iload_n 2, 1) := by decide +kernel
theorem d_Md_rules_45 : decode b_Md_rules 45 = .ok (.invokevirtual 186, 3) := by decide +kernel
theorem d_Md_rules_48 : decode b_Md_rules 48 = .ok (.ifCond .eq 15, 3) := by decide +kernel
theorem d_Md_rules_51 : decode b_Md_rules 51 = .ok (.aload_n 0, 1) := by decide +kernel
theorem d_Md_rules_52 : decode b_Md_rules 52 = .ok (.getfield 56, 3) := by decide +kernel
theorem d_Md_rules_55 : decode b_Md_rules 55 = .ok (.iload_n 2, 1) := by decide +kernel
theorem d_Md_rules_56 : decode b_Md_rules 56 = .ok (.iconst 1, 1) := by decide +kernel
theorem d_Md_rules_57 : decode b_Md_rules 57 = .ok (.bastore, 1) := by decide +kernel
theorem d_Md_rules_58 : decode b_Md_rules 58 = .ok (.aload_n 0, 1) := by decide +kernel
theorem d_Md_rules_59 : decode b_Md_rules 59 = .ok (.iconst 1, 1) := by decide +kernel
theorem d_Md_rules_60 : decode b_Md_rules 60 = .ok (.putfield 182, 3) := by decide +kernel
theorem d_Md_rules_63 : decode b_Md_rules 63 = .ok (.aload_n 0, 1) := by decide +kernel
theorem d_Md_rules_64 : decode b_Md_rules 64 = .ok (.getfield 59, 3) := by decide +kernel
theorem d_Md_rules_67 : decode b_Md_rules 67 = .ok (.iload_n 2, 1) := by decide +kernel
theorem d_Md_rules_68 : decode b_Md_rules 68 = .ok (.baload, 1) := by decide +kernel
theorem d_Md_rules_69 : decode b_Md_rules 69 = .ok (.ifCond .ne 23, 3) := by decide +kernel
theorem d_Md_rules_72 : decode b_Md_rules 72 = .ok (.aload_n 0, 1) := by decide +kernel
theorem d_Md_rules_73 : decode b_Md_rules 73 = .ok (.iload_n 2, 1) := by decide +kernel
theorem d_Md_rules_74 : decode b_Md_rules 74 = .ok (.invokevirtual 189, 3) := by decide +kernel
theorem d_Md_rules_77 : decode b_Md_rules 77 = .ok (.ifCond .eq 15, 3) := by decide +kernel
theorem d_Md_rules_80 : decode b_Md_rules 80 = .ok (.aload_n 0, 1) := by decide +kernel
theorem d_Md_rules_81 : decode b_Md_rules 81 = .ok (.getfield 59, 3) := by decide +kernel
theorem d_Md_rules_84 : decode b_Md_rules 84 = .ok (.iload_n 2, 1) := by decide +kernel
theorem d_Md_rules_85 : decode b_Md_rules 85 = .ok (.iconst 1, 1) := by decide +kernel
theorem d_Md_rules_86 : decode b_Md_rules 86 = .ok (.bastore, 1) := by decide +kernel
theorem d_Md_rules_87 : decode b_Md_rules 87 = .ok (.aload_n 0, 1) := by decide +kernel
theorem d_Md_rules_88 : decode b_Md_rules 88 = .ok (.iconst 1, 1) := by decide +kernel
theorem d_Md_rules_89 : decode b_Md_rules 89 = .ok (.putfield 182, 3) := by decide +kernel
theorem d_Md_rules_92 : decode b_Md_rules 92 = .ok (.iconst 0, 1) := by decide +kernel
theorem d_Md_rules_93 : decode b_Md_rules 93 = .ok (.istore_n 3, 1) := by decide +kernel
theorem d_Md_rules_94 : decode b_Md_rules 94 = .ok (.iload_n 3, 1) := by decide +kernel
theorem d_Md_rules_95 : decode b_Md_rules 95 = .ok (.aload_n 0, 1) := by decide +kernel
theorem d_Md_rules_96 : decode b_Md_rules 96 = .ok (.getfield 167, 3) := by decide +kernel
theorem d_Md_rules_99 : decode b_Md_rules 99 = .ok (.if_icmp .ge 49, 3) := by decide +kernel
theorem d_Md_rules_102 : decode b_Md_rules 102 = .ok (.aload_n 0, 1) := by decide +kernel
theorem d_Md_rules_103 : decode b_Md_rules 103 = .ok (.getfield 62, 3) := by decide +kernel
theorem d_Md_rules_106 : decode b_Md_rules 106 = .ok (.bipush 12, 2) := by decide +kernel
theorem d_Md_rules_108 : decode b_Md_rules 108 = .ok (.iload_n 2, 1) := by decide +kernel
theorem d_Md_rules_109 : decode b_Md_rules 109 = .ok (.imul, 1) := by decide +kernel
theorem d_Md_rules_110 : decode b_Md_rules 110 = .ok (.iload_n 3, 1) := by decide +kernel
theorem d_Md_rules_111 : decode b_Md_rules 111 = .ok (.iadd, 1) := by decide +kernel
theorem d_Md_rules_112 : decode b_Md_rules 112 = .ok (.baload, 1) := by decide +kernel
theorem d_Md_rules_113 : decode b_Md_rules 113 = .ok (.ifCond .ne 29, 3) := by decide +kernel
theorem d_Md_rules_116 : decode b_Md_rules 116 = .ok (.aload_n 0, 1) := by decide +kernel
theorem d_Md_rules_117 : decode b_Md_rules 117 = .ok (.iload_n 2, 1) := by decide +kernel
theorem d_Md_rules_118 : decode b_Md_rules 118 = .ok (.iload_n 3, 1) := by decide +kernel
theorem d_Md_rules_119 : decode b_Md_rules 119 = .ok (.invokevirtual 192, 3) := by decide +kernel
theorem d_Md_rules_122 : decode b_Md_rules 122 = .ok (.ifCond .eq 20, 3) := by decide +kernel
theorem d_Md_rules_125 : decode b_Md_rules 125 = .ok (.aload_n 0, 1) := by decide +kernel
theorem d_Md_rules_126 : decode b_Md_rules 126 = .ok (.getfield 62, 3) := by decide +kernel
theorem d_Md_rules_129 : decode b_Md_rules 129 = .ok (.bipush 12, 2) := by decide +kernel
theorem d_Md_rules_131 : decode b_Md_rules 131 = .ok (.iload_n 2, 1) := by decide +kernel
theorem d_Md_rules_132 : decode b_Md_rules 132 = .ok (.imul, 1) := by decide +kernel
theorem d_Md_rules_133 : decode b_Md_rules 133 = .ok (.iload_n 3, 1) := by decide +kernel
theorem d_Md_rules_134 : decode b_Md_rules 134 = .ok (.iadd, 1) := by decide +kernel
theorem d_Md_rules_135 : decode b_Md_rules 135 = .ok (.iconst 1, 1) := by decide +kernel
theorem d_Md_rules_136 : decode b_Md_rules 136 = .ok (.bastore, 1) := by decide +kernel
theorem d_Md_rules_137 : decode b_Md_rules 137 = .ok (.aload_n 0, 1) := by decide +kernel
theorem d_Md_rules_138 : decode b_Md_rules 138 = .ok (.iconst 1, 1) := by decide +kernel
theorem d_Md_rules_139 : decode b_Md_rules 139 = .ok (.putfield 182, 3) := by decide +kernel
theorem d_Md_rules_142 : decode b_Md_rules 142 = .ok (.iinc 3 1, 3) := by decide +kernel
theorem d_Md_rules_145 : decode b_Md_rules 145 = .ok (.goto (-51), 3) := by decide +kernel
theorem d_Md_rules_148 : decode b_Md_rules 148 = .ok (.iinc 1 1, 3) := by decide +kernel
theorem d_Md_rules_151 : decode b_Md_rules 151 = .ok (.goto (-132), 3) := by decide +kernel
theorem d_Md_rules_154 : decode b_Md_rules 154 = .ok (.goto (-149), 3) := by decide +kernel
theorem d_Md_rules_157 : decode b_Md_rules 157 = .ok (.return_, 1) := by decide +kernel
theorem d_Md_come_0 : decode b_Md_come 0 = .ok (.aload_n 0, 1) := by decide +kernel
theorem d_Md_come_1 : decode b_Md_come 1 = .ok (.aload_n 0, 1) := by decide +kernel
theorem d_Md_come_2 : decode b_Md_come 2 = .ok (.getfield 182, 3) := by decide +kernel
theorem d_Md_come_5 : decode b_Md_come 5 = .ok (.ifCond .ne 12, 3) := by decide +kernel
theorem d_Md_come_8 : decode b_Md_come 8 = .ok (.aload_n 0, 1) := by decide +kernel
theorem d_Md_come_9 : decode b_Md_come 9 = .ok (.getfield 65, 3) := by decide +kernel
theorem d_Md_come_12 : decode b_Md_come 12 = .ok (.iload_n 1, 1) := by decide +kernel
theorem d_Md_come_13 : decode b_Md_come 13 = .ok (.baload, 1) := by decide +kernel
theorem d_Md_come_14 : decode b_Md_come 14 = .ok (.ifCond .ne 7, 3) := by decide +kernel
theorem d_Md_come_17 : decode b_Md_come 17 = .ok (.iconst 1, 1) := by decide +kernel
theorem d_Md_come_18 : decode b_Md_come 18 = .ok (.goto 4, 3) := by decide +kernel
theorem d_Md_come_21 : decode b_Md_come 21 = .ok (.iconst 0, 1) := by decide +kernel
theorem d_Md_come_22 : decode b_Md_come 22 = .ok (.putfield 182, 3) := by decide +kernel
theorem d_Md_come_25 : decode b_Md_come 25 = .ok (.aload_n 0, 1) := by decide +kernel
theorem d_Md_come_26 : decode b_Md_come 26 = .ok (.getfield 65, 3) := by decide +kernel
theorem d_Md_come_29 : decode b_Md_come 29 = .ok (.iload_n 1, 1) := by decide +kernel
theorem d_Md_come_30 : decode b_Md_come 30 = .ok (.iconst 1, 1) := by decide +kernel
theorem d_Md_come_31 : decode b_Md_come 31 = .ok (.bastore, 1) := by decide +kernel
theorem d_Md_come_32 : decode b_Md_come 32 = .ok (.return_, 1) := by decide +kernel
theorem d_Md_endBy_0 : decode b_Md_endBy 0 = .ok (.aload_n 0, 1) := by decide +kernel
theorem d_Md_endBy_1 : decode b_Md_endBy 1 = .ok (.aload_n 0, 1) := by decide +kernel
theorem d_Md_endBy_2 : decode b_Md_endBy 2 = .ok (.getfield 182, 3) := by decide +kernel
theorem d_Md_endBy_5 : decode b_Md_endBy 5 = .ok (.ifCond .ne 18, 3) := by decide +kernel
theorem d_Md_endBy_8 : decode b_Md_endBy 8 = .ok (.aload_n 0, 1) := by decide +kernel
theorem d_Md_endBy_9 : decode b_Md_endBy 9 = .ok (.getfield 68, 3) := by decide +kernel
theorem d_Md_endBy_12 : decode b_Md_endBy 12 = .ok (.sipush 134, 3) := by decide +kernel
theorem d_Md_endBy_15 : decode b_Md_endBy 15 = .ok (.iload_n 1, 1) := by decide +kernel
theorem d_Md_endBy_16 : decode b_Md_endBy 16 = .ok (.imul, 1) := by decide +kernel
theorem d_Md_endBy_17 : decode b_Md_endBy 17 = .ok (.iload_n 2, 1) := by decide +kernel
theorem d_Md_endBy_18 : decode b_Md_endBy 18 = .ok (.iadd, 1) := by decide +kernel
theorem d_Md_endBy_19 : decode b_Md_endBy 19 = .ok (.baload, 1) := by decide +kernel
theorem d_Md_endBy_20 : decode b_Md_endBy 20 = .ok (.ifCond .ne 7, 3) := by decide +kernel
theorem d_Md_endBy_23 : decode b_Md_endBy 23 = .ok (.iconst 1, 1) := by decide +kernel
theorem d_Md_endBy_24 : decode b_Md_endBy 24 = .ok (.goto 4, 3) := by decide +kernel
theorem d_Md_endBy_27 : decode b_Md_endBy 27 = .ok (.iconst 0, 1) := by decide +kernel
theorem d_Md_endBy_28 : decode b_Md_endBy 28 = .ok (.putfield 182, 3) := by decide +kernel
theorem d_Md_endBy_31 : decode b_Md_endBy 31 = .ok (.aload_n 0, 1) := by decide +kernel
theorem d_Md_endBy_32 : decode b_Md_endBy 32 = .ok (.getfield 68, 3) := by decide +kernel
theorem d_Md_endBy_35 : decode b_Md_endBy 35 = .ok (.sipush 134, 3) := by decide +kernel
theorem d_Md_endBy_38 : decode b_Md_endBy 38 = .ok (.iload_n 1, 1) := by decide +kernel
theorem d_Md_endBy_39 : decode b_Md_endBy 39 = .ok (.imul, 1) := by decide +kernel
theorem d_Md_endBy_40 : decode b_Md_endBy 40 = .ok (.iload_n 2, 1) := by decide +kernel
theorem d_Md_endBy_41 : decode b_Md_endBy 41 = .ok (.iadd, 1) := by decide +kernel
theorem d_Md_endBy_42 : decode b_Md_endBy 42 = .ok (.iconst 1, 1) := by decide +kernel
theorem d_Md_endBy_43 : decode b_Md_endBy 43 = .ok (.bastore, 1) := by decide +kernel
theorem d_Md_endBy_44 : decode b_Md_endBy 44 = .ok (.return_, 1) := by decide +kernel
theorem d_Md_isEnded_0 : decode b_Md_isEnded 0 = .ok (.aload_n 0, 1) := by decide +kernel
theorem d_Md_isEnded_1 : decode b_Md_isEnded 1 = .ok (.getfield 68, 3) := by decide +kernel
theorem d_Md_isEnded_4 : decode b_Md_isEnded 4 = .ok (.sipush 134, 3) := by decide +kernel
theorem d_Md_isEnded_7 : decode b_Md_isEnded 7 = .ok (.iload_n 1, 1) := by decide +kernel
theorem d_Md_isEnded_8 : decode b_Md_isEnded 8 = .ok (.imul, 1) := by decide +kernel
theorem d_Md_isEnded_9 : decode b_Md_isEnded 9 = .ok (.iload_n 2, 1) := by decide +kernel
theorem d_Md_isEnded_10 : decode b_Md_isEnded 10 = .ok (.iadd, 1) := by decide +kernel
theorem d_Md_isEnded_11 : decode b_Md_isEnded 11 = .ok (.baload, 1) := by decide +kernel
theorem d_Md_isEnded_12 : decode b_Md_isEnded 12 = .ok (.ireturn, 1) := by decide +kernel
theorem d_Md_pass_0 : decode b_Md_pass 0 = .ok (.iconst 1, 1) := by decide +kernel
theorem d_Md_pass_1 : decode b_Md_pass 1 = .ok (.istore_n 3, 1) := by decide +kernel
theorem d_Md_pass_2 : decode b_Md_pass 2 = .ok (.iload_n 3, 1) := by decide +kernel
theorem d_Md_pass_3 : decode b_Md_pass 3 = .ok (.sipush 134, 3) := by decide +kernel
theorem d_Md_pass_6 : decode b_Md_pass 6 = .ok (.if_icmp .ge 47, 3) := by decide +kernel
theorem d_Md_pass_9 : decode b_Md_pass 9 = .ok (.aload_n 0, 1) := by decide +kernel
theorem d_Md_pass_10 : decode b_Md_pass 10 = .ok (.iload_n 2, 1) := by decide +kernel
theorem d_Md_pass_11 : decode b_Md_pass 11 = .ok (.iload_n 3, 1) := by decide +kernel
theorem d_Md_pass_12 : decode b_Md_pass 12 = .ok (.invokevirtual 195, 3) := by decide +kernel
theorem d_Md_pass_15 : decode b_Md_pass 15 = .ok (.ifCond .eq 32, 3) := by decide +kernel
theorem d_Md_pass_18 : decode b_Md_pass 18 = .ok (.iload_n 3, 1) := by decide +kernel
theorem d_Md_pass_19 : decode b_Md_pass 19 = .ok (.iconst 2, 1) := by decide +kernel
theorem d_Md_pass_20 : decode b_Md_pass 20 = .ok (.iload_n 1, 1) := by decide +kernel
theorem d_Md_pass_21 : decode b_Md_pass 21 = .ok (.iadd, 1) := by decide +kernel
theorem d_Md_pass_22 : decode b_Md_pass 22 = .ok (.if_icmp .eq 25, 3) := by decide +kernel
theorem d_Md_pass_25 : decode b_Md_pass 25 = .ok (.iload_n 3, 1) := by decide +kernel
theorem d_Md_pass_26 : decode b_Md_pass 26 = .ok (.bipush 62, 2) := by decide +kernel
theorem d_Md_pass_28 : decode b_Md_pass 28 = .ok (.iload_n 1, 1) := by decide +kernel
theorem d_Md_pass_29 : decode b_Md_pass 29 = .ok (.iadd, 1) := by decide +kernel
theorem d_Md_pass_30 : decode b_Md_pass 30 = .ok (.if_icmp .ne 11, 3) := by decide +kernel
theorem d_Md_pass_33 : decode b_Md_pass 33 = .ok (.aload_n 0, 1) := by decide +kernel
theorem d_Md_pass_34 : decode b_Md_pass 34 = .ok (.iload_n 1, 1) := by decide +kernel
theorem d_Md_pass_35 : decode b_Md_pass 35 = .ok (.invokevirtual 149, 3) := by decide +kernel
theorem d_Md_pass_38 : decode b_Md_pass 38 = .ok (.ifCond .ne 9, 3) := by decide +kernel
theorem d_Md_pass_41 : decode b_Md_pass 41 = .ok (.aload_n 0, 1) := by decide +kernel
theorem d_Md_pass_42 : decode b_Md_pass 42 = .ok (.iload_n 1, 1) := by decide +kernel
theorem d_Md_pass_43 : decode b_Md_pass 43 = .ok (.iload_n 3, 1) := by decide +kernel
theorem d_Md_pass_44 : decode b_Md_pass 44 = .ok (.invokevirtual 198, 3) := by decide +kernel
theorem d_Md_pass_47 : decode b_Md_pass 47 = .ok (.iinc 3 1, 3) := by decide +kernel
theorem d_Md_pass_50 : decode b_Md_pass 50 = .ok (.goto (-48), 3) := by decide +kernel
theorem d_Md_pass_53 : decode b_Md_pass 53 = .ok (.aload_n 0, 1) := by decide +kernel
theorem d_Md_pass_54 : decode b_Md_pass 54 = .ok (.iload_n 2, 1) := by decide +kernel
theorem d_Md_pass_55 : decode b_Md_pass 55 = .ok (.iconst 2, 1) := by decide +kernel
theorem d_Md_pass_56 : decode b_Md_pass 56 = .ok (.iload_n 1, 1) := by decide +kernel
theorem d_Md_pass_57 : decode b_Md_pass 57 = .ok (.iadd, 1) := by decide +kernel
theorem d_Md_pass_58 : decode b_Md_pass 58 = .ok (.invokevirtual 195, 3) := by decide +kernel
theorem d_Md_pass_61 : decode b_Md_pass 61 = .ok (.ifCond .eq 9, 3) := by decide +kernel
theorem d_Md_pass_64 : decode b_Md_pass 64 = .ok (.aload_n 0, 1) := by decide +kernel
theorem d_Md_pass_65 : decode b_Md_pass 65 = .ok (.iload_n 1, 1) := by decide +kernel
theorem d_Md_pass_66 : decode b_Md_pass 66 = .ok (.iconst 0, 1) := by decide +kernel
theorem d_Md_pass_67 : decode b_Md_pass 67 = .ok (.invokevirtual 198, 3) := by decide +kernel
theorem d_Md_pass_70 : decode b_Md_pass 70 = .ok (.return_, 1) := by decide +kernel
theorem d_Md_turns_0 : decode b_Md_turns 0 = .ok (.aload_n 0, 1) := by decide +kernel
theorem d_Md_turns_1 : decode b_Md_turns 1 = .ok (.getfield 13, 3) := by decide +kernel
theorem d_Md_turns_4 : decode b_Md_turns 4 = .ok (.iload_n 1, 1) := by decide +kernel
theorem d_Md_turns_5 : decode b_Md_turns 5 = .ok (.iaload, 1) := by decide +kernel
theorem d_Md_turns_6 : decode b_Md_turns 6 = .ok (.bipush 6, 2) := by decide +kernel
theorem d_Md_turns_8 : decode b_Md_turns 8 = .ok (.if_icmp .ne 68, 3) := by decide +kernel
theorem d_Md_turns_11 : decode b_Md_turns 11 = .ok (.aload_n 0, 1) := by decide +kernel
theorem d_Md_turns_12 : decode b_Md_turns 12 = .ok (.aload_n 0, 1) := by decide +kernel
theorem d_Md_turns_13 : decode b_Md_turns 13 = .ok (.getfield 25, 3) := by decide +kernel
theorem d_Md_turns_16 : decode b_Md_turns 16 = .ok (.iload_n 1, 1) := by decide +kernel
theorem d_Md_turns_17 : decode b_Md_turns 17 = .ok (.iaload, 1) := by decide +kernel
theorem d_Md_turns_18 : decode b_Md_turns 18 = .ok (.invokevirtual 201, 3) := by decide +kernel
theorem d_Md_turns_21 : decode b_Md_turns 21 = .ok (.aload_n 0, 1) := by decide +kernel
theorem d_Md_turns_22 : decode b_Md_turns 22 = .ok (.aload_n 0, 1) := by decide +kernel
theorem d_Md_turns_23 : decode b_Md_turns 23 = .ok (.getfield 25, 3) := by decide +kernel
theorem d_Md_turns_26 : decode b_Md_turns 26 = .ok (.iload_n 1, 1) := by decide +kernel
theorem d_Md_turns_27 : decode b_Md_turns 27 = .ok (.iaload, 1) := by decide +kernel
theorem d_Md_turns_28 : decode b_Md_turns 28 = .ok (.iconst 0, 1) := by decide +kernel
theorem d_Md_turns_29 : decode b_Md_turns 29 = .ok (.invokevirtual 195, 3) := by decide +kernel
theorem d_Md_turns_32 : decode b_Md_turns 32 = .ok (.ifCond .ne 20, 3) := by decide +kernel
theorem d_Md_turns_35 : decode b_Md_turns 35 = .ok (.aload_n 0, 1) := by decide +kernel
theorem d_Md_turns_36 : decode b_Md_turns 36 = .ok (.aload_n 0, 1) := by decide +kernel
theorem d_Md_turns_37 : decode b_Md_turns 37 = .ok (.getfield 25, 3) := by decide +kernel
theorem d_Md_turns_40 : decode b_Md_turns 40 = .ok (.iload_n 1, 1) := by decide +kernel
theorem d_Md_turns_41 : decode b_Md_turns 41 = .ok (.iaload, 1) := by decide +kernel
theorem d_Md_turns_42 : decode b_Md_turns 42 = .ok (.bipush 62, 2) := by decide +kernel
theorem d_Md_turns_44 : decode b_Md_turns 44 = .ok (.iload_n 1, 1) := by decide +kernel
theorem d_Md_turns_45 : decode b_Md_turns 45 = .ok (.iadd, 1) := by decide +kernel
theorem d_Md_turns_46 : decode b_Md_turns 46 = .ok (.invokevirtual 195, 3) := by decide +kernel
theorem d_Md_turns_49 : decode b_Md_turns 49 = .ok (.ifCond .eq 7, 3) := by decide +kernel
theorem d_Md_turns_52 : decode b_Md_turns 52 = .ok (.iconst 1, 1) := by decide +kernel
theorem d_Md_turns_53 : decode b_Md_turns 53 = .ok (.goto 4, 3) := by decide +kernel
theorem d_Md_turns_56 : decode b_Md_turns 56 = .ok (.iconst 0, 1) := by decide +kernel
theorem d_Md_turns_57 : decode b_Md_turns 57 = .ok (.istore_n 3, 1) := by decide +kernel
theorem d_Md_turns_58 : decode b_Md_turns 58 = .ok (.iload_n 3, 1) := by decide +kernel
theorem d_Md_turns_59 : decode b_Md_turns 59 = .ok (.ifCond .eq 14, 3) := by decide +kernel
theorem d_Md_turns_62 : decode b_Md_turns 62 = .ok (.iload_n 2, 1) := by decide +kernel
theorem d_Md_turns_63 : decode b_Md_turns 63 = .ok (.iconst 1, 1) := by decide +kernel
theorem d_Md_turns_64 : decode b_Md_turns 64 = .ok (.if_icmp .eq 9, 3) := by decide +kernel
theorem d_Md_turns_67 : decode b_Md_turns 67 = .ok (.aload_n 0, 1) := by decide +kernel
theorem d_Md_turns_68 : decode b_Md_turns 68 = .ok (.iload_n 1, 1) := by decide +kernel
theorem d_Md_turns_69 : decode b_Md_turns 69 = .ok (.iconst 0, 1) := by decide +kernel
theorem d_Md_turns_70 : decode b_Md_turns 70 = .ok (.invokevirtual 198, 3) := by decide +kernel
theorem d_Md_turns_73 : decode b_Md_turns 73 = .ok (.goto 28, 3) := by decide +kernel
theorem d_Md_turns_76 : decode b_Md_turns 76 = .ok (.iload_n 2, 1) := by decide +kernel
theorem d_Md_turns_77 : decode b_Md_turns 77 = .ok (.iconst 1, 1) := by decide +kernel
theorem d_Md_turns_78 : decode b_Md_turns 78 = .ok (.if_icmp .eq 9, 3) := by decide +kernel
theorem d_Md_turns_81 : decode b_Md_turns 81 = .ok (.aload_n 0, 1) := by decide +kernel
theorem d_Md_turns_82 : decode b_Md_turns 82 = .ok (.iload_n 1, 1) := by decide +kernel
theorem d_Md_turns_83 : decode b_Md_turns 83 = .ok (.iconst 0, 1) := by decide +kernel
theorem d_Md_turns_84 : decode b_Md_turns 84 = .ok (.invokevirtual 198, 3) := by decide +kernel
theorem d_Md_turns_87 : decode b_Md_turns 87 = .ok (.iload_n 2, 1) := by decide +kernel
theorem d_Md_turns_88 : decode b_Md_turns 88 = .ok (.ifCond .eq 13, 3) := by decide +kernel
theorem d_Md_turns_91 : decode b_Md_turns 91 = .ok (.aload_n 0, 1) := by decide +kernel
theorem d_Md_turns_92 : decode b_Md_turns 92 = .ok (.aload_n 0, 1) := by decide +kernel
theorem d_Md_turns_93 : decode b_Md_turns 93 = .ok (.getfield 25, 3) := by decide +kernel
theorem d_Md_turns_96 : decode b_Md_turns 96 = .ok (.iload_n 1, 1) := by decide +kernel
theorem d_Md_turns_97 : decode b_Md_turns 97 = .ok (.iaload, 1) := by decide +kernel
theorem d_Md_turns_98 : decode b_Md_turns 98 = .ok (.invokevirtual 201, 3) := by decide +kernel
theorem d_Md_turns_101 : decode b_Md_turns 101 = .ok (.aload_n 0, 1) := by decide +kernel
theorem d_Md_turns_102 : decode b_Md_turns 102 = .ok (.iload_n 1, 1) := by decide +kernel
theorem d_Md_turns_103 : decode b_Md_turns 103 = .ok (.aload_n 0, 1) := by decide +kernel
theorem d_Md_turns_104 : decode b_Md_turns 104 = .ok (.getfield 25, 3) := by decide +kernel
theorem d_Md_turns_107 : decode b_Md_turns 107 = .ok (.iload_n 1, 1) := by decide +kernel
theorem d_Md_turns_108 : decode b_Md_turns 108 = .ok (.iaload, 1) := by decide +kernel
theorem d_Md_turns_109 : decode b_Md_turns 109 = .ok (.invokevirtual 205, 3) := by decide +kernel
theorem d_Md_turns_112 : decode b_Md_turns 112 = .ok (.return_, 1) := by decide +kernel
theorem d_Md_steps_0 : decode b_Md_steps 0 = .ok (.aload_n 0, 1) := by decide +kernel
theorem d_Md_steps_1 : decode b_Md_steps 1 = .ok (.getfield 25, 3) := by decide +kernel
theorem d_Md_steps_4 : decode b_Md_steps 4 = .ok (.iload_n 1, 1) := by decide +kernel
theorem d_Md_steps_5 : decode b_Md_steps 5 = .ok (.iaload, 1) := by decide +kernel
theorem d_Md_steps_6 : decode b_Md_steps 6 = .ok (.istore_n 2, 1) := by decide +kernel
theorem d_Md_steps_7 : decode b_Md_steps 7 = .ok (.iload_n 2, 1) := by decide +kernel
theorem d_Md_steps_8 : decode b_Md_steps 8 = .ok (.iconst (-1), 1) := by decide +kernel
theorem d_Md_steps_9 : decode b_Md_steps 9 = .ok (.if_icmp .eq 57, 3) := by decide +kernel
theorem d_Md_steps_12 : decode b_Md_steps 12 = .ok (.aload_n 0, 1) := by decide +kernel
theorem d_Md_steps_13 : decode b_Md_steps 13 = .ok (.iload_n 2, 1) := by decide +kernel
theorem d_Md_steps_14 : decode b_Md_steps 14 = .ok (.iconst 0, 1) := by decide +kernel
theorem d_Md_steps_15 : decode b_Md_steps 15 = .ok (.invokevirtual 195, 3) := by decide +kernel
theorem d_Md_steps_18 : decode b_Md_steps 18 = .ok (.ifCond .eq 32, 3) := by decide +kernel
theorem d_Md_steps_21 : decode b_Md_steps 21 = .ok (.aload_n 0, 1) := by decide +kernel
theorem d_Md_steps_22 : decode b_Md_steps 22 = .ok (.getfield 31, 3) := by decide +kernel
theorem d_Md_steps_25 : decode b_Md_steps 25 = .ok (.iload_n 2, 1) := by decide +kernel
theorem d_Md_steps_26 : decode b_Md_steps 26 = .ok (.iaload, 1) := by decide +kernel
theorem d_Md_steps_27 : decode b_Md_steps 27 = .ok (.iconst (-1), 1) := by decide +kernel
theorem d_Md_steps_28 : decode b_Md_steps 28 = .ok (.if_icmp .ne 12, 3) := by decide +kernel
theorem d_Md_steps_31 : decode b_Md_steps 31 = .ok (.aload_n 0, 1) := by decide +kernel
theorem d_Md_steps_32 : decode b_Md_steps 32 = .ok (.iload_n 1, 1) := by decide +kernel
theorem d_Md_steps_33 : decode b_Md_steps 33 = .ok (.iconst 0, 1) := by decide +kernel
theorem d_Md_steps_34 : decode b_Md_steps 34 = .ok (.invokevirtual 198, 3) := by decide +kernel
theorem d_Md_steps_37 : decode b_Md_steps 37 = .ok (.goto 13, 3) := by decide +kernel
theorem d_Md_steps_40 : decode b_Md_steps 40 = .ok (.aload_n 0, 1) := by decide +kernel
theorem d_Md_steps_41 : decode b_Md_steps 41 = .ok (.aload_n 0, 1) := by decide +kernel
theorem d_Md_steps_42 : decode b_Md_steps 42 = .ok (.getfield 31, 3) := by decide +kernel
theorem d_Md_steps_45 : decode b_Md_steps 45 = .ok (.iload_n 2, 1) := by decide +kernel
theorem d_Md_steps_46 : decode b_Md_steps 46 = .ok (.iaload, 1) := by decide +kernel
theorem d_Md_steps_47 : decode b_Md_steps 47 = .ok (.invokevirtual 201, 3) := by decide +kernel
theorem d_Md_steps_50 : decode b_Md_steps 50 = .ok (.aload_n 0, 1) := by decide +kernel
theorem d_Md_steps_51 : decode b_Md_steps 51 = .ok (.iload_n 1, 1) := by decide +kernel
theorem d_Md_steps_52 : decode b_Md_steps 52 = .ok (.iload_n 2, 1) := by decide +kernel
theorem d_Md_steps_53 : decode b_Md_steps 53 = .ok (.invokevirtual 205, 3) := by decide +kernel
theorem d_Md_steps_56 : decode b_Md_steps 56 = .ok (.aload_n 0, 1) := by decide +kernel
theorem d_Md_steps_57 : decode b_Md_steps 57 = .ok (.getfield 31, 3) := by decide +kernel
theorem d_Md_steps_60 : decode b_Md_steps 60 = .ok (.iload_n 2, 1) := by decide +kernel
theorem d_Md_steps_61 : decode b_Md_steps 61 = .ok (.iaload, 1) := by decide +kernel
theorem d_Md_steps_62 : decode b_Md_steps 62 = .ok (.istore_n 2, 1) := by decide +kernel
theorem d_Md_steps_63 : decode b_Md_steps 63 = .ok (.goto (-56), 3) := by decide +kernel
theorem d_Md_steps_66 : decode b_Md_steps 66 = .ok (.return_, 1) := by decide +kernel
theorem d_Md_switches_0 : decode b_Md_switches 0 = .ok (.aload_n 0, 1) := by decide +kernel
theorem d_Md_switches_1 : decode b_Md_switches 1 = .ok (.getfield 13, 3) := by decide +kernel
theorem d_Md_switches_4 : decode b_Md_switches 4 = .ok (.iload_n 1, 1) := by decide +kernel
theorem d_Md_switches_5 : decode b_Md_switches 5 = .ok (.iaload, 1) := by decide +kernel
theorem d_Md_switches_6 : decode b_Md_switches 6 = .ok (.bipush 14, 2) := by decide +kernel
theorem d_Md_switches_8 : decode b_Md_switches 8 = .ok (.if_icmp .ne 7, 3) := by decide +kernel
theorem d_Md_switches_11 : decode b_Md_switches 11 = .ok (.iconst 1, 1) := by decide +kernel
theorem d_Md_switches_12 : decode b_Md_switches 12 = .ok (.goto 4, 3) := by decide +kernel
theorem d_Md_switches_15 : decode b_Md_switches 15 = .ok (.iconst 0, 1) := by decide +kernel
theorem d_Md_switches_16 : decode b_Md_switches 16 = .ok (.istore_n 2, 1) := by decide +kernel
theorem d_Md_switches_17 : decode b_Md_switches 17 = .ok (.aload_n 0, 1) := by decide +kernel
theorem d_Md_switches_18 : decode b_Md_switches 18 = .ok (.getfield 25, 3) := by decide +kernel
theorem d_Md_switches_21 : decode b_Md_switches 21 = .ok (.iload_n 1, 1) := by decide +kernel
theorem d_Md_switches_22 : decode b_Md_switches 22 = .ok (.iaload, 1) := by decide +kernel
theorem d_Md_switches_23 : decode b_Md_switches 23 = .ok (.istore_n 3, 1) := by decide +kernel
theorem d_Md_switches_24 : decode b_Md_switches 24 = .ok (.iload_n 3, 1) := by decide +kernel
theorem d_Md_switches_25 : decode b_Md_switches 25 = .ok (.iconst (-1), 1) := by decide +kernel
theorem d_Md_switches_26 : decode b_Md_switches 26 = .ok (.if_icmp .eq 52, 3) := by decide +kernel
theorem d_Md_switches_29 : decode b_Md_switches 29 = .ok (.aload_n 0, 1) := by decide +kernel
theorem d_Md_switches_30 : decode b_Md_switches 30 = .ok (.getfield 22, 3) := by decide +kernel
theorem d_Md_switches_33 : decode b_Md_switches 33 = .ok (.iload_n 3, 1) := by decide +kernel
theorem d_Md_switches_34 : decode b_Md_switches 34 = .ok (.iaload, 1) := by decide +kernel
theorem d_Md_switches_35 : decode b_Md_switches 35 = .ok (.ifCond .le 8, 3) := by decide +kernel
theorem d_Md_switches_38 : decode b_Md_switches 38 = .ok (.aload_n 0, 1) := by decide +kernel
theorem d_Md_switches_39 : decode b_Md_switches 39 = .ok (.iload_n 3, 1) := by decide +kernel
theorem d_Md_switches_40 : decode b_Md_switches 40 = .ok (.invokevirtual 201, 3) := by decide +kernel
theorem d_Md_switches_43 : decode b_Md_switches 43 = .ok (.iload_n 2, 1) := by decide +kernel
theorem d_Md_switches_44 : decode b_Md_switches 44 = .ok (.ifCond .ne 24, 3) := by decide +kernel
theorem d_Md_switches_47 : decode b_Md_switches 47 = .ok (.aload_n 0, 1) := by decide +kernel
theorem d_Md_switches_48 : decode b_Md_switches 48 = .ok (.iload_n 1, 1) := by decide +kernel
theorem d_Md_switches_49 : decode b_Md_switches 49 = .ok (.iload_n 3, 1) := by decide +kernel
theorem d_Md_switches_50 : decode b_Md_switches 50 = .ok (.invokevirtual 205, 3) := by decide +kernel
theorem d_Md_switches_53 : decode b_Md_switches 53 = .ok (.aload_n 0, 1) := by decide +kernel
theorem d_Md_switches_54 : decode b_Md_switches 54 = .ok (.iload_n 3, 1) := by decide +kernel
theorem d_Md_switches_55 : decode b_Md_switches 55 = .ok (.iconst 0, 1) := by decide +kernel
theorem d_Md_switches_56 : decode b_Md_switches 56 = .ok (.invokevirtual 195, 3) := by decide +kernel
theorem d_Md_switches_59 : decode b_Md_switches 59 = .ok (.ifCond .eq 9, 3) := by decide +kernel
theorem d_Md_switches_62 : decode b_Md_switches 62 = .ok (.aload_n 0, 1) := by decide +kernel
theorem d_Md_switches_63 : decode b_Md_switches 63 = .ok (.iload_n 1, 1) := by decide +kernel
theorem d_Md_switches_64 : decode b_Md_switches 64 = .ok (.iconst 0, 1) := by decide +kernel
theorem d_Md_switches_65 : decode b_Md_switches 65 = .ok (.invokevirtual 198, 3) := by decide +kernel
theorem d_Md_switches_68 : decode b_Md_switches 68 = .ok (.aload_n 0, 1) := by decide +kernel
theorem d_Md_switches_69 : decode b_Md_switches 69 = .ok (.getfield 31, 3) := by decide +kernel
theorem d_Md_switches_72 : decode b_Md_switches 72 = .ok (.iload_n 3, 1) := by decide +kernel
theorem d_Md_switches_73 : decode b_Md_switches 73 = .ok (.iaload, 1) := by decide +kernel
theorem d_Md_switches_74 : decode b_Md_switches 74 = .ok (.istore_n 3, 1) := by decide +kernel
theorem d_Md_switches_75 : decode b_Md_switches 75 = .ok (.goto (-51), 3) := by decide +kernel
theorem d_Md_switches_78 : decode b_Md_switches 78 = .ok (.iload_n 2, 1) := by decide +kernel
theorem d_Md_switches_79 : decode b_Md_switches 79 = .ok (.ifCond .eq 8, 3) := by decide +kernel
theorem d_Md_switches_82 : decode b_Md_switches 82 = .ok (.aload_n 0, 1) := by decide +kernel
theorem d_Md_switches_83 : decode b_Md_switches 83 = .ok (.iload_n 1, 1) := by decide +kernel
theorem d_Md_switches_84 : decode b_Md_switches 84 = .ok (.invokevirtual 208, 3) := by decide +kernel
theorem d_Md_switches_87 : decode b_Md_switches 87 = .ok (.iload_n 2, 1) := by decide +kernel
theorem d_Md_switches_88 : decode b_Md_switches 88 = .ok (.ifCond .eq 12, 3) := by decide +kernel
theorem d_Md_switches_91 : decode b_Md_switches 91 = .ok (.aload_n 0, 1) := by decide +kernel
theorem d_Md_switches_92 : decode b_Md_switches 92 = .ok (.getfield 41, 3) := by decide +kernel
theorem d_Md_switches_95 : decode b_Md_switches 95 = .ok (.iload_n 1, 1) := by decide +kernel
theorem d_Md_switches_96 : decode b_Md_switches 96 = .ok (.iaload, 1) := by decide +kernel
theorem d_Md_switches_97 : decode b_Md_switches 97 = .ok (.ifCond .gt 11, 3) := by decide +kernel
theorem d_Md_switches_100 : decode b_Md_switches 100 = .ok (.aload_n 0, 1) := by decide +kernel
theorem d_Md_switches_101 : decode b_Md_switches 101 = .ok (.iload_n 1, 1) := by decide +kernel
theorem d_Md_switches_102 : decode b_Md_switches 102 = .ok (.invokevirtual 176, 3) := by decide +kernel
theorem d_Md_switches_105 : decode b_Md_switches 105 = .ok (.ifCond .ne 9, 3) := by decide +kernel
theorem d_Md_switches_108 : decode b_Md_switches 108 = .ok (.aload_n 0, 1) := by decide +kernel
theorem d_Md_switches_109 : decode b_Md_switches 109 = .ok (.iload_n 1, 1) := by decide +kernel
theorem d_Md_switches_110 : decode b_Md_switches 110 = .ok (.iconst 0, 1) := by decide +kernel
theorem d_Md_switches_111 : decode b_Md_switches 111 = .ok (.invokevirtual 198, 3) := by decide +kernel
theorem d_Md_switches_114 : decode b_Md_switches 114 = .ok (.return_, 1) := by decide +kernel
theorem d_Md_through_0 : decode b_Md_through 0 = .ok (.aload_n 0, 1) := by decide +kernel
theorem d_Md_through_1 : decode b_Md_through 1 = .ok (.getfield 37, 3) := by decide +kernel
theorem d_Md_through_4 : decode b_Md_through 4 = .ok (.iload_n 1, 1) := by decide +kernel
theorem d_Md_through_5 : decode b_Md_through 5 = .ok (.baload, 1) := by decide +kernel
theorem d_Md_through_6 : decode b_Md_through 6 = .ok (.ifCond .ne 10, 3) := by decide +kernel
theorem d_Md_through_9 : decode b_Md_through 9 = .ok (.aload_n 0, 1) := by decide +kernel
theorem d_Md_through_10 : decode b_Md_through 10 = .ok (.iload_n 1, 1) := by decide +kernel
theorem d_Md_through_11 : decode b_Md_through 11 = .ok (.iload_n 2, 1) := by decide +kernel
theorem d_Md_through_12 : decode b_Md_through 12 = .ok (.invokevirtual 198, 3) := by decide +kernel
theorem d_Md_through_15 : decode b_Md_through 15 = .ok (.return_, 1) := by decide +kernel
theorem d_Md_through_16 : decode b_Md_through 16 = .ok (.aload_n 0, 1) := by decide +kernel
theorem d_Md_through_17 : decode b_Md_through 17 = .ok (.getfield 28, 3) := by decide +kernel
theorem d_Md_through_20 : decode b_Md_through 20 = .ok (.iload_n 1, 1) := by decide +kernel
theorem d_Md_through_21 : decode b_Md_through 21 = .ok (.iaload, 1) := by decide +kernel
theorem d_Md_through_22 : decode b_Md_through 22 = .ok (.istore_n 3, 1) := by decide +kernel
theorem d_Md_through_23 : decode b_Md_through 23 = .ok (.aload_n 0, 1) := by decide +kernel
theorem d_Md_through_24 : decode b_Md_through 24 = .ok (.iload_n 3, 1) := by decide +kernel
theorem d_Md_through_25 : decode b_Md_through 25 = .ok (.invokevirtual 201, 3) := by decide +kernel
theorem d_Md_through_28 : decode b_Md_through 28 = .ok (.aload_n 0, 1) := by decide +kernel
theorem d_Md_through_29 : decode b_Md_through 29 = .ok (.iload_n 3, 1) := by decide +kernel
theorem d_Md_through_30 : decode b_Md_through 30 = .ok (.iconst 0, 1) := by decide +kernel
theorem d_Md_through_31 : decode b_Md_through 31 = .ok (.invokevirtual 195, 3) := by decide +kernel
theorem d_Md_through_34 : decode b_Md_through 34 = .ok (.ifCond .eq 9, 3) := by decide +kernel
theorem d_Md_through_37 : decode b_Md_through 37 = .ok (.aload_n 0, 1) := by decide +kernel
theorem d_Md_through_38 : decode b_Md_through 38 = .ok (.iload_n 1, 1) := by decide +kernel
theorem d_Md_through_39 : decode b_Md_through 39 = .ok (.iload_n 2, 1) := by decide +kernel
theorem d_Md_through_40 : decode b_Md_through 40 = .ok (.invokevirtual 198, 3) := by decide +kernel
theorem d_Md_through_43 : decode b_Md_through 43 = .ok (.iconst 1, 1) := by decide +kernel
theorem d_Md_through_44 : decode b_Md_through 44 = .ok (.istore 4, 2) := by decide +kernel
theorem d_Md_through_46 : decode b_Md_through 46 = .ok (.iload 4, 2) := by decide +kernel
theorem d_Md_through_48 : decode b_Md_through 48 = .ok (.sipush 134, 3) := by decide +kernel
theorem d_Md_through_51 : decode b_Md_through 51 = .ok (.if_icmp .ge 26, 3) := by decide +kernel
theorem d_Md_through_54 : decode b_Md_through 54 = .ok (.aload_n 0, 1) := by decide +kernel
theorem d_Md_through_55 : decode b_Md_through 55 = .ok (.iload_n 3, 1) := by decide +kernel
theorem d_Md_through_56 : decode b_Md_through 56 = .ok (.iload 4, 2) := by decide +kernel
theorem d_Md_through_58 : decode b_Md_through 58 = .ok (.invokevirtual 195, 3) := by decide +kernel
theorem d_Md_through_61 : decode b_Md_through 61 = .ok (.ifCond .eq 10, 3) := by decide +kernel
theorem d_Md_through_64 : decode b_Md_through 64 = .ok (.aload_n 0, 1) := by decide +kernel
theorem d_Md_through_65 : decode b_Md_through 65 = .ok (.iload_n 1, 1) := by decide +kernel
theorem d_Md_through_66 : decode b_Md_through 66 = .ok (.iload 4, 2) := by decide +kernel
theorem d_Md_through_68 : decode b_Md_through 68 = .ok (.invokevirtual 198, 3) := by decide +kernel
theorem d_Md_through_71 : decode b_Md_through 71 = .ok (.iinc 4 1, 3) := by decide +kernel
theorem d_Md_through_74 : decode b_Md_through 74 = .ok (.goto (-28), 3) := by decide +kernel
theorem d_Md_through_77 : decode b_Md_through 77 = .ok (.return_, 1) := by decide +kernel
theorem d_Md_tries_0 : decode b_Md_tries 0 = .ok (.aload_n 0, 1) := by decide +kernel
theorem d_Md_tries_1 : decode b_Md_tries 1 = .ok (.getfield 25, 3) := by decide +kernel
theorem d_Md_tries_4 : decode b_Md_tries 4 = .ok (.iload_n 1, 1) := by decide +kernel
theorem d_Md_tries_5 : decode b_Md_tries 5 = .ok (.iaload, 1) := by decide +kernel
theorem d_Md_tries_6 : decode b_Md_tries 6 = .ok (.istore_n 2, 1) := by decide +kernel
theorem d_Md_tries_7 : decode b_Md_tries 7 = .ok (.aload_n 0, 1) := by decide +kernel
theorem d_Md_tries_8 : decode b_Md_tries 8 = .ok (.getfield 37, 3) := by decide +kernel
theorem d_Md_tries_11 : decode b_Md_tries 11 = .ok (.iload_n 1, 1) := by decide +kernel
theorem d_Md_tries_12 : decode b_Md_tries 12 = .ok (.baload, 1) := by decide +kernel
theorem d_Md_tries_13 : decode b_Md_tries 13 = .ok (.ifCond .eq 12, 3) := by decide +kernel
theorem d_Md_tries_16 : decode b_Md_tries 16 = .ok (.aload_n 0, 1) := by decide +kernel
theorem d_Md_tries_17 : decode b_Md_tries 17 = .ok (.getfield 28, 3) := by decide +kernel
theorem d_Md_tries_20 : decode b_Md_tries 20 = .ok (.iload_n 1, 1) := by decide +kernel
theorem d_Md_tries_21 : decode b_Md_tries 21 = .ok (.iaload, 1) := by decide +kernel
theorem d_Md_tries_22 : decode b_Md_tries 22 = .ok (.goto 4, 3) := by decide +kernel
theorem d_Md_tries_25 : decode b_Md_tries 25 = .ok (.iconst (-1), 1) := by decide +kernel
theorem d_Md_tries_26 : decode b_Md_tries 26 = .ok (.istore_n 3, 1) := by decide +kernel
theorem d_Md_tries_27 : decode b_Md_tries 27 = .ok (.aload_n 0, 1) := by decide +kernel
theorem d_Md_tries_28 : decode b_Md_tries 28 = .ok (.iload_n 2, 1) := by decide +kernel
theorem d_Md_tries_29 : decode b_Md_tries 29 = .ok (.invokevirtual 201, 3) := by decide +kernel
theorem d_Md_tries_32 : decode b_Md_tries 32 = .ok (.iconst 0, 1) := by decide +kernel
theorem d_Md_tries_33 : decode b_Md_tries 33 = .ok (.istore 4, 2) := by decide +kernel
theorem d_Md_tries_35 : decode b_Md_tries 35 = .ok (.iload 4, 2) := by decide +kernel
theorem d_Md_tries_37 : decode b_Md_tries 37 = .ok (.sipush 134, 3) := by decide +kernel
theorem d_Md_tries_40 : decode b_Md_tries 40 = .ok (.if_icmp .ge 137, 3) := by decide +kernel
theorem d_Md_tries_43 : decode b_Md_tries 43 = .ok (.aload_n 0, 1) := by decide +kernel
theorem d_Md_tries_44 : decode b_Md_tries 44 = .ok (.getfield 31, 3) := by decide +kernel
theorem d_Md_tries_47 : decode b_Md_tries 47 = .ok (.iload_n 2, 1) := by decide +kernel
theorem d_Md_tries_48 : decode b_Md_tries 48 = .ok (.iaload, 1) := by decide +kernel
theorem d_Md_tries_49 : decode b_Md_tries 49 = .ok (.istore 5, 2) := by decide +kernel
theorem d_Md_tries_51 : decode b_Md_tries 51 = .ok (.aload_n 0, 1) := by decide +kernel
theorem d_Md_tries_52 : decode b_Md_tries 52 = .ok (.iload_n 2, 1) := by decide +kernel
theorem d_Md_tries_53 : decode b_Md_tries 53 = .ok (.iload 4, 2) := by decide +kernel
theorem d_Md_tries_55 : decode b_Md_tries 55 = .ok (.invokevirtual 195, 3) := by decide +kernel
theorem d_Md_tries_58 : decode b_Md_tries 58 = .ok (.ifCond .eq 69, 3) := by decide +kernel
theorem d_Md_tries_61 : decode b_Md_tries 61 = .ok (.iload 5, 2) := by decide +kernel
theorem d_Md_tries_63 : decode b_Md_tries 63 = .ok (.iload_n 3, 1) := by decide +kernel
theorem d_Md_tries_64 : decode b_Md_tries 64 = .ok (.if_icmp .eq 41, 3) := by decide +kernel
theorem d_Md_tries_67 : decode b_Md_tries 67 = .ok (.iload 4, 2) := by decide +kernel
theorem d_Md_tries_69 : decode b_Md_tries 69 = .ok (.bipush 122, 2) := by decide +kernel
theorem d_Md_tries_71 : decode b_Md_tries 71 = .ok (.if_icmp .lt 22, 3) := by decide +kernel
theorem d_Md_tries_74 : decode b_Md_tries 74 = .ok (.aload_n 0, 1) := by decide +kernel
theorem d_Md_tries_75 : decode b_Md_tries 75 = .ok (.iload 4, 2) := by decide +kernel
theorem d_Md_tries_77 : decode b_Md_tries 77 = .ok (.bipush 122, 2) := by decide +kernel
theorem d_Md_tries_79 : decode b_Md_tries 79 = .ok (.isub, 1) := by decide +kernel
theorem d_Md_tries_80 : decode b_Md_tries 80 = .ok (.aload_n 0, 1) := by decide +kernel
theorem d_Md_tries_81 : decode b_Md_tries 81 = .ok (.getfield 22, 3) := by decide +kernel
theorem d_Md_tries_84 : decode b_Md_tries 84 = .ok (.iload 5, 2) := by decide +kernel
theorem d_Md_tries_86 : decode b_Md_tries 86 = .ok (.iaload, 1) := by decide +kernel
theorem d_Md_tries_87 : decode b_Md_tries 87 = .ok (.invokevirtual 164, 3) := by decide +kernel
theorem d_Md_tries_90 : decode b_Md_tries 90 = .ok (.ifCond .ne 15, 3) := by decide +kernel
theorem d_Md_tries_93 : decode b_Md_tries 93 = .ok (.aload_n 0, 1) := by decide +kernel
theorem d_Md_tries_94 : decode b_Md_tries 94 = .ok (.getfield 31, 3) := by decide +kernel
theorem d_Md_tries_97 : decode b_Md_tries 97 = .ok (.iload 5, 2) := by decide +kernel
theorem d_Md_tries_99 : decode b_Md_tries 99 = .ok (.iaload, 1) := by decide +kernel
theorem d_Md_tries_100 : decode b_Md_tries 100 = .ok (.istore 5, 2) := by decide +kernel
theorem d_Md_tries_102 : decode b_Md_tries 102 = .ok (.goto (-41), 3) := by decide +kernel
theorem d_Md_tries_105 : decode b_Md_tries 105 = .ok (.iload 5, 2) := by decide +kernel
theorem d_Md_tries_107 : decode b_Md_tries 107 = .ok (.iload_n 3, 1) := by decide +kernel
theorem d_Md_tries_108 : decode b_Md_tries 108 = .ok (.if_icmp .eq 12, 3) := by decide +kernel
theorem d_Md_tries_111 : decode b_Md_tries 111 = .ok (.aload_n 0, 1) := by decide +kernel
theorem d_Md_tries_112 : decode b_Md_tries 112 = .ok (.iload 5, 2) := by decide +kernel
theorem d_Md_tries_114 : decode b_Md_tries 114 = .ok (.invokevirtual 201, 3) := by decide +kernel
theorem d_Md_tries_117 : decode b_Md_tries 117 = .ok (.goto 10, 3) := by decide +kernel
theorem d_Md_tries_120 : decode b_Md_tries 120 = .ok (.aload_n 0, 1) := by decide +kernel
theorem d_Md_tries_121 : decode b_Md_tries 121 = .ok (.iload_n 1, 1) := by decide +kernel
theorem d_Md_tries_122 : decode b_Md_tries 122 = .ok (.iload 4, 2) := by decide +kernel
theorem d_Md_tries_124 : decode b_Md_tries 124 = .ok (.invokevirtual 211, 3) := by decide +kernel
theorem d_Md_tries_127 : decode b_Md_tries 127 = .ok (.aload_n 0, 1) := by decide +kernel
theorem d_Md_tries_128 : decode b_Md_tries 128 = .ok (.getfield 31, 3) := by decide +kernel
theorem d_Md_tries_131 : decode b_Md_tries 131 = .ok (.iload_n 2, 1) := by decide +kernel
theorem d_Md_tries_132 : decode b_Md_tries 132 = .ok (.iaload, 1) := by decide +kernel
theorem d_Md_tries_133 : decode b_Md_tries 133 = .ok (.istore 6, 2) := by decide +kernel
theorem d_Md_tries_135 : decode b_Md_tries 135 = .ok (.iload 6, 2) := by decide +kernel
theorem d_Md_tries_137 : decode b_Md_tries 137 = .ok (.iload_n 3, 1) := by decide +kernel
theorem d_Md_tries_138 : decode b_Md_tries 138 = .ok (.if_icmp .eq 33, 3) := by decide +kernel
theorem d_Md_tries_141 : decode b_Md_tries 141 = .ok (.aload_n 0, 1) := by decide +kernel
theorem d_Md_tries_142 : decode b_Md_tries 142 = .ok (.iload 6, 2) := by decide +kernel
theorem d_Md_tries_144 : decode b_Md_tries 144 = .ok (.iload 4, 2) := by decide +kernel
theorem d_Md_tries_146 : decode b_Md_tries 146 = .ok (.invokevirtual 195, 3) := by decide +kernel
theorem d_Md_tries_149 : decode b_Md_tries 149 = .ok (.ifCond .eq 10, 3) := by decide +kernel
theorem d_Md_tries_152 : decode b_Md_tries 152 = .ok (.aload_n 0, 1) := by decide +kernel
theorem d_Md_tries_153 : decode b_Md_tries 153 = .ok (.iload_n 1, 1) := by decide +kernel
theorem d_Md_tries_154 : decode b_Md_tries 154 = .ok (.iload 4, 2) := by decide +kernel
theorem d_Md_tries_156 : decode b_Md_tries 156 = .ok (.invokevirtual 211, 3) := by decide +kernel
theorem d_Md_tries_159 : decode b_Md_tries 159 = .ok (.aload_n 0, 1) := by decide +kernel
theorem d_Md_tries_160 : decode b_Md_tries 160 = .ok (.getfield 31, 3) := by decide +kernel
theorem d_Md_tries_163 : decode b_Md_tries 163 = .ok (.iload 6, 2) := by decide +kernel
theorem d_Md_tries_165 : decode b_Md_tries 165 = .ok (.iaload, 1) := by decide +kernel
theorem d_Md_tries_166 : decode b_Md_tries 166 = .ok (.istore 6, 2) := by decide +kernel
theorem d_Md_tries_168 : decode b_Md_tries 168 = .ok (.goto (-33), 3) := by decide +kernel
theorem d_Md_tries_171 : decode b_Md_tries 171 = .ok (.iinc 4 1, 3) := by decide +kernel
theorem d_Md_tries_174 : decode b_Md_tries 174 = .ok (.goto (-139), 3) := by decide +kernel
theorem d_Md_tries_177 : decode b_Md_tries 177 = .ok (.return_, 1) := by decide +kernel
theorem d_Md_raises_0 : decode b_Md_raises 0 = .ok (.iconst 0, 1) := by decide +kernel
theorem d_Md_raises_1 : decode b_Md_raises 1 = .ok (.istore_n 2, 1) := by decide +kernel
theorem d_Md_raises_2 : decode b_Md_raises 2 = .ok (.iload_n 2, 1) := by decide +kernel
theorem d_Md_raises_3 : decode b_Md_raises 3 = .ok (.aload_n 0, 1) := by decide +kernel
theorem d_Md_raises_4 : decode b_Md_raises 4 = .ok (.getfield 167, 3) := by decide +kernel
theorem d_Md_raises_7 : decode b_Md_raises 7 = .ok (.if_icmp .ge 42, 3) := by decide +kernel
theorem d_Md_raises_10 : decode b_Md_raises 10 = .ok (.aload_n 0, 1) := by decide +kernel
theorem d_Md_raises_11 : decode b_Md_raises 11 = .ok (.getfield 16, 3) := by decide +kernel
theorem d_Md_raises_14 : decode b_Md_raises 14 = .ok (.iload_n 1, 1) := by decide +kernel
theorem d_Md_raises_15 : decode b_Md_raises 15 = .ok (.iaload, 1) := by decide +kernel
theorem d_Md_raises_16 : decode b_Md_raises 16 = .ok (.iconst (-1), 1) := by decide +kernel
theorem d_Md_raises_17 : decode b_Md_raises 17 = .ok (.if_icmp .eq 32, 3) := by decide +kernel
theorem d_Md_raises_20 : decode b_Md_raises 20 = .ok (.aload_n 0, 1) := by decide +kernel
theorem d_Md_raises_21 : decode b_Md_raises 21 = .ok (.iload_n 2, 1) := by decide +kernel
theorem d_Md_raises_22 : decode b_Md_raises 22 = .ok (.aload_n 0, 1) := by decide +kernel
theorem d_Md_raises_23 : decode b_Md_raises 23 = .ok (.getfield 16, 3) := by decide +kernel
theorem d_Md_raises_26 : decode b_Md_raises 26 = .ok (.iload_n 1, 1) := by decide +kernel
theorem d_Md_raises_27 : decode b_Md_raises 27 = .ok (.iaload, 1) := by decide +kernel
theorem d_Md_raises_28 : decode b_Md_raises 28 = .ok (.invokevirtual 164, 3) := by decide +kernel
theorem d_Md_raises_31 : decode b_Md_raises 31 = .ok (.ifCond .eq 12, 3) := by decide +kernel
theorem d_Md_raises_34 : decode b_Md_raises 34 = .ok (.aload_n 0, 1) := by decide +kernel
theorem d_Md_raises_35 : decode b_Md_raises 35 = .ok (.iload_n 1, 1) := by decide +kernel
theorem d_Md_raises_36 : decode b_Md_raises 36 = .ok (.bipush 122, 2) := by decide +kernel
theorem d_Md_raises_38 : decode b_Md_raises 38 = .ok (.iload_n 2, 1) := by decide +kernel
theorem d_Md_raises_39 : decode b_Md_raises 39 = .ok (.iadd, 1) := by decide +kernel
theorem d_Md_raises_40 : decode b_Md_raises 40 = .ok (.invokevirtual 198, 3) := by decide +kernel
theorem d_Md_raises_43 : decode b_Md_raises 43 = .ok (.iinc 2 1, 3) := by decide +kernel
theorem d_Md_raises_46 : decode b_Md_raises 46 = .ok (.goto (-44), 3) := by decide +kernel
theorem d_Md_raises_49 : decode b_Md_raises 49 = .ok (.return_, 1) := by decide +kernel
theorem d_Md_walk_0 : decode b_Md_walk 0 = .ok (.aload_n 0, 1) := by decide +kernel
theorem d_Md_walk_1 : decode b_Md_walk 1 = .ok (.getfield 16, 3) := by decide +kernel
theorem d_Md_walk_4 : decode b_Md_walk 4 = .ok (.iload_n 1, 1) := by decide +kernel
theorem d_Md_walk_5 : decode b_Md_walk 5 = .ok (.iaload, 1) := by decide +kernel
theorem d_Md_walk_6 : decode b_Md_walk 6 = .ok (.istore_n 2, 1) := by decide +kernel
theorem d_Md_walk_7 : decode b_Md_walk 7 = .ok (.aload_n 0, 1) := by decide +kernel
theorem d_Md_walk_8 : decode b_Md_walk 8 = .ok (.getfield 13, 3) := by decide +kernel
theorem d_Md_walk_11 : decode b_Md_walk 11 = .ok (.iload_n 1, 1) := by decide +kernel
theorem d_Md_walk_12 : decode b_Md_walk 12 = .ok (.iaload, 1) := by decide +kernel
theorem d_Md_walk_13 : decode b_Md_walk 13 = .ok (.tableswitch 269 0 15 #[79, 88, 102, 110, 161, 170, 170, 179, 197, 206, 119, 119, 206, 224, 261, 261], 79) := by decide +kernel
theorem d_Md_walk_92 : decode b_Md_walk 92 = .ok (.aload_n 0, 1) := by decide +kernel
theorem d_Md_walk_93 : decode b_Md_walk 93 = .ok (.iload_n 1, 1) := by decide +kernel
theorem d_Md_walk_94 : decode b_Md_walk 94 = .ok (.iconst 0, 1) := by decide +kernel
theorem d_Md_walk_95 : decode b_Md_walk 95 = .ok (.invokevirtual 198, 3) := by decide +kernel
theorem d_Md_walk_98 : decode b_Md_walk 98 = .ok (.goto 189, 3) := by decide +kernel
theorem d_Md_walk_101 : decode b_Md_walk 101 = .ok (.aload_n 0, 1) := by decide +kernel
theorem d_Md_walk_102 : decode b_Md_walk 102 = .ok (.iload_n 1, 1) := by decide +kernel
theorem d_Md_walk_103 : decode b_Md_walk 103 = .ok (.iconst 0, 1) := by decide +kernel
theorem d_Md_walk_104 : decode b_Md_walk 104 = .ok (.invokevirtual 198, 3) := by decide +kernel
theorem d_Md_walk_107 : decode b_Md_walk 107 = .ok (.aload_n 0, 1) := by decide +kernel
theorem d_Md_walk_108 : decode b_Md_walk 108 = .ok (.iload_n 1, 1) := by decide +kernel
theorem d_Md_walk_109 : decode b_Md_walk 109 = .ok (.invokevirtual 214, 3) := by decide +kernel
theorem d_Md_walk_112 : decode b_Md_walk 112 = .ok (.goto 175, 3) := by decide +kernel
theorem d_Md_walk_115 : decode b_Md_walk 115 = .ok (.aload_n 0, 1) := by decide +kernel
theorem d_Md_walk_116 : decode b_Md_walk 116 = .ok (.iload_n 1, 1) := by decide +kernel
theorem d_Md_walk_117 : decode b_Md_walk 117 = .ok (.invokevirtual 214, 3) := by decide +kernel
theorem d_Md_walk_120 : decode b_Md_walk 120 = .ok (.goto 167, 3) := by decide +kernel
theorem d_Md_walk_123 : decode b_Md_walk 123 = .ok (.aload_n 0, 1) := by decide +kernel
theorem d_Md_walk_124 : decode b_Md_walk 124 = .ok (.iload_n 1, 1) := by decide +kernel
theorem d_Md_walk_125 : decode b_Md_walk 125 = .ok (.iconst 1, 1) := by decide +kernel
theorem d_Md_walk_126 : decode b_Md_walk 126 = .ok (.invokevirtual 198, 3) := by decide +kernel
theorem d_Md_walk_129 : decode b_Md_walk 129 = .ok (.goto 158, 3) := by decide +kernel
theorem d_Md_walk_132 : decode b_Md_walk 132 = .ok (.aload_n 0, 1) := by decide +kernel
theorem d_Md_walk_133 : decode b_Md_walk 133 = .ok (.getfield 53, 3) := by decide +kernel
theorem d_Md_walk_136 : decode b_Md_walk 136 = .ok (.iload_n 1, 1) := by decide +kernel
theorem d_Md_walk_137 : decode b_Md_walk 137 = .ok (.iaload, 1) := by decide +kernel
theorem d_Md_walk_138 : decode b_Md_walk 138 = .ok (.iconst (-1), 1) := by decide +kernel
theorem d_Md_walk_139 : decode b_Md_walk 139 = .ok (.if_icmp .eq 148, 3) := by decide +kernel
theorem d_Md_walk_142 : decode b_Md_walk 142 = .ok (.aload_n 0, 1) := by decide +kernel
theorem d_Md_walk_143 : decode b_Md_walk 143 = .ok (.iload_n 1, 1) := by decide +kernel
theorem d_Md_walk_144 : decode b_Md_walk 144 = .ok (.aload_n 0, 1) := by decide +kernel
theorem d_Md_walk_145 : decode b_Md_walk 145 = .ok (.getfield 13, 3) := by decide +kernel
theorem d_Md_walk_148 : decode b_Md_walk 148 = .ok (.iload_n 1, 1) := by decide +kernel
theorem d_Md_walk_149 : decode b_Md_walk 149 = .ok (.iaload, 1) := by decide +kernel
theorem d_Md_walk_150 : decode b_Md_walk 150 = .ok (.bipush 10, 2) := by decide +kernel
theorem d_Md_walk_152 : decode b_Md_walk 152 = .ok (.if_icmp .ne 7, 3) := by decide +kernel
theorem d_Md_walk_155 : decode b_Md_walk 155 = .ok (.iconst 2, 1) := by decide +kernel
theorem d_Md_walk_156 : decode b_Md_walk 156 = .ok (.goto 5, 3) := by decide +kernel
theorem d_Md_walk_159 : decode b_Md_walk 159 = .ok (.bipush 62, 2) := by decide +kernel
theorem d_Md_walk_161 : decode b_Md_walk 161 = .ok (.aload_n 0, 1) := by decide +kernel
theorem d_Md_walk_162 : decode b_Md_walk 162 = .ok (.getfield 53, 3) := by decide +kernel
theorem d_Md_walk_165 : decode b_Md_walk 165 = .ok (.iload_n 1, 1) := by decide +kernel
theorem d_Md_walk_166 : decode b_Md_walk 166 = .ok (.iaload, 1) := by decide +kernel
theorem d_Md_walk_167 : decode b_Md_walk 167 = .ok (.iadd, 1) := by decide +kernel
theorem d_Md_walk_168 : decode b_Md_walk 168 = .ok (.invokevirtual 198, 3) := by decide +kernel
theorem d_Md_walk_171 : decode b_Md_walk 171 = .ok (.goto 116, 3) := by decide +kernel
theorem d_Md_walk_174 : decode b_Md_walk 174 = .ok (.aload_n 0, 1) := by decide +kernel
theorem d_Md_walk_175 : decode b_Md_walk 175 = .ok (.iload_n 1, 1) := by decide +kernel
theorem d_Md_walk_176 : decode b_Md_walk 176 = .ok (.iload_n 2, 1) := by decide +kernel
theorem d_Md_walk_177 : decode b_Md_walk 177 = .ok (.invokevirtual 217, 3) := by decide +kernel
theorem d_Md_walk_180 : decode b_Md_walk 180 = .ok (.goto 107, 3) := by decide +kernel
theorem d_Md_walk_183 : decode b_Md_walk 183 = .ok (.aload_n 0, 1) := by decide +kernel
theorem d_Md_walk_184 : decode b_Md_walk 184 = .ok (.iload_n 1, 1) := by decide +kernel
theorem d_Md_walk_185 : decode b_Md_walk 185 = .ok (.iload_n 2, 1) := by decide +kernel
theorem d_Md_walk_186 : decode b_Md_walk 186 = .ok (.invokevirtual 220, 3) := by decide +kernel
theorem d_Md_walk_189 : decode b_Md_walk 189 = .ok (.goto 98, 3) := by decide +kernel
theorem d_Md_walk_192 : decode b_Md_walk 192 = .ok (.aload_n 0, 1) := by decide +kernel
theorem d_Md_walk_193 : decode b_Md_walk 193 = .ok (.iload_n 1, 1) := by decide +kernel
theorem d_Md_walk_194 : decode b_Md_walk 194 = .ok (.iload_n 2, 1) := by decide +kernel
theorem d_Md_walk_195 : decode b_Md_walk 195 = .ok (.iconst 3, 1) := by decide +kernel
theorem d_Md_walk_196 : decode b_Md_walk 196 = .ok (.if_icmp .ne 7, 3) := by decide +kernel
theorem d_Md_walk_199 : decode b_Md_walk 199 = .ok (.iconst 1, 1) := by decide +kernel
theorem d_Md_walk_200 : decode b_Md_walk 200 = .ok (.goto 4, 3) := by decide +kernel
theorem d_Md_walk_203 : decode b_Md_walk 203 = .ok (.iload_n 2, 1) := by decide +kernel
theorem d_Md_walk_204 : decode b_Md_walk 204 = .ok (.invokevirtual 220, 3) := by decide +kernel
theorem d_Md_walk_207 : decode b_Md_walk 207 = .ok (.goto 80, 3) := by decide +kernel
theorem d_Md_walk_210 : decode b_Md_walk 210 = .ok (.aload_n 0, 1) := by decide +kernel
theorem d_Md_walk_211 : decode b_Md_walk 211 = .ok (.iload_n 1, 1) := by decide +kernel
theorem d_Md_walk_212 : decode b_Md_walk 212 = .ok (.iconst 2, 1) := by decide +kernel
theorem d_Md_walk_213 : decode b_Md_walk 213 = .ok (.invokevirtual 220, 3) := by decide +kernel
theorem d_Md_walk_216 : decode b_Md_walk 216 = .ok (.goto 71, 3) := by decide +kernel
theorem d_Md_walk_219 : decode b_Md_walk 219 = .ok (.aload_n 0, 1) := by decide +kernel
theorem d_Md_walk_220 : decode b_Md_walk 220 = .ok (.aload_n 0, 1) := by decide +kernel
theorem d_Md_walk_221 : decode b_Md_walk 221 = .ok (.getfield 25, 3) := by decide +kernel
theorem d_Md_walk_224 : decode b_Md_walk 224 = .ok (.iload_n 1, 1) := by decide +kernel
theorem d_Md_walk_225 : decode b_Md_walk 225 = .ok (.iaload, 1) := by decide +kernel
theorem d_Md_walk_226 : decode b_Md_walk 226 = .ok (.invokevirtual 201, 3) := by decide +kernel
theorem d_Md_walk_229 : decode b_Md_walk 229 = .ok (.aload_n 0, 1) := by decide +kernel
theorem d_Md_walk_230 : decode b_Md_walk 230 = .ok (.iload_n 1, 1) := by decide +kernel
theorem d_Md_walk_231 : decode b_Md_walk 231 = .ok (.invokevirtual 208, 3) := by decide +kernel
theorem d_Md_walk_234 : decode b_Md_walk 234 = .ok (.goto 53, 3) := by decide +kernel
theorem d_Md_walk_237 : decode b_Md_walk 237 = .ok (.aload_n 0, 1) := by decide +kernel
theorem d_Md_walk_238 : decode b_Md_walk 238 = .ok (.getfield 25, 3) := by decide +kernel
theorem d_Md_walk_241 : decode b_Md_walk 241 = .ok (.iload_n 1, 1) := by decide +kernel
theorem d_Md_walk_242 : decode b_Md_walk 242 = .ok (.iaload, 1) := by decide +kernel
theorem d_Md_walk_243 : decode b_Md_walk 243 = .ok (.iconst (-1), 1) := by decide +kernel
theorem d_Md_walk_244 : decode b_Md_walk 244 = .ok (.if_icmp .ne 12, 3) := by decide +kernel
theorem d_Md_walk_247 : decode b_Md_walk 247 = .ok (.aload_n 0, 1) := by decide +kernel
theorem d_Md_walk_248 : decode b_Md_walk 248 = .ok (.iload_n 1, 1) := by decide +kernel
theorem d_Md_walk_249 : decode b_Md_walk 249 = .ok (.iconst 0, 1) := by decide +kernel
theorem d_Md_walk_250 : decode b_Md_walk 250 = .ok (.invokevirtual 198, 3) := by decide +kernel
theorem d_Md_walk_253 : decode b_Md_walk 253 = .ok (.goto 34, 3) := by decide +kernel
theorem d_Md_walk_256 : decode b_Md_walk 256 = .ok (.aload_n 0, 1) := by decide +kernel
theorem d_Md_walk_257 : decode b_Md_walk 257 = .ok (.aload_n 0, 1) := by decide +kernel
theorem d_Md_walk_258 : decode b_Md_walk 258 = .ok (.getfield 25, 3) := by decide +kernel
theorem d_Md_walk_261 : decode b_Md_walk 261 = .ok (.iload_n 1, 1) := by decide +kernel
theorem d_Md_walk_262 : decode b_Md_walk 262 = .ok (.iaload, 1) := by decide +kernel
theorem d_Md_walk_263 : decode b_Md_walk 263 = .ok (.invokevirtual 201, 3) := by decide +kernel
theorem d_Md_walk_266 : decode b_Md_walk 266 = .ok (.aload_n 0, 1) := by decide +kernel
theorem d_Md_walk_267 : decode b_Md_walk 267 = .ok (.iload_n 1, 1) := by decide +kernel
theorem d_Md_walk_268 : decode b_Md_walk 268 = .ok (.invokevirtual 208, 3) := by decide +kernel
theorem d_Md_walk_271 : decode b_Md_walk 271 = .ok (.goto 16, 3) := by decide +kernel
theorem d_Md_walk_274 : decode b_Md_walk 274 = .ok (.aload_n 0, 1) := by decide +kernel
theorem d_Md_walk_275 : decode b_Md_walk 275 = .ok (.iload_n 1, 1) := by decide +kernel
theorem d_Md_walk_276 : decode b_Md_walk 276 = .ok (.invokevirtual 223, 3) := by decide +kernel
theorem d_Md_walk_279 : decode b_Md_walk 279 = .ok (.goto 8, 3) := by decide +kernel
theorem d_Md_walk_282 : decode b_Md_walk 282 = .ok (.aload_n 0, 1) := by decide +kernel
theorem d_Md_walk_283 : decode b_Md_walk 283 = .ok (.iload_n 1, 1) := by decide +kernel
theorem d_Md_walk_284 : decode b_Md_walk 284 = .ok (.invokevirtual 226, 3) := by decide +kernel
theorem d_Md_walk_287 : decode b_Md_walk 287 = .ok (.return_, 1) := by decide +kernel
theorem d_Md_branches_0 : decode b_Md_branches 0 = .ok (.aload_n 0, 1) := by decide +kernel
theorem d_Md_branches_1 : decode b_Md_branches 1 = .ok (.getfield 25, 3) := by decide +kernel
theorem d_Md_branches_4 : decode b_Md_branches 4 = .ok (.iload_n 1, 1) := by decide +kernel
theorem d_Md_branches_5 : decode b_Md_branches 5 = .ok (.iaload, 1) := by decide +kernel
theorem d_Md_branches_6 : decode b_Md_branches 6 = .ok (.istore_n 3, 1) := by decide +kernel
theorem d_Md_branches_7 : decode b_Md_branches 7 = .ok (.aload_n 0, 1) := by decide +kernel
theorem d_Md_branches_8 : decode b_Md_branches 8 = .ok (.getfield 31, 3) := by decide +kernel
theorem d_Md_branches_11 : decode b_Md_branches 11 = .ok (.iload_n 3, 1) := by decide +kernel
theorem d_Md_branches_12 : decode b_Md_branches 12 = .ok (.iaload, 1) := by decide +kernel
theorem d_Md_branches_13 : decode b_Md_branches 13 = .ok (.istore 4, 2) := by decide +kernel
theorem d_Md_branches_15 : decode b_Md_branches 15 = .ok (.iload_n 2, 1) := by decide +kernel
theorem d_Md_branches_16 : decode b_Md_branches 16 = .ok (.ifCond .eq 8, 3) := by decide +kernel
theorem d_Md_branches_19 : decode b_Md_branches 19 = .ok (.aload_n 0, 1) := by decide +kernel
theorem d_Md_branches_20 : decode b_Md_branches 20 = .ok (.iload_n 3, 1) := by decide +kernel
theorem d_Md_branches_21 : decode b_Md_branches 21 = .ok (.invokevirtual 201, 3) := by decide +kernel
theorem d_Md_branches_24 : decode b_Md_branches 24 = .ok (.iload_n 2, 1) := by decide +kernel
theorem d_Md_branches_25 : decode b_Md_branches 25 = .ok (.iconst 1, 1) := by decide +kernel
theorem d_Md_branches_26 : decode b_Md_branches 26 = .ok (.if_icmp .eq 15, 3) := by decide +kernel
theorem d_Md_branches_29 : decode b_Md_branches 29 = .ok (.iload 4, 2) := by decide +kernel
theorem d_Md_branches_31 : decode b_Md_branches 31 = .ok (.iconst (-1), 1) := by decide +kernel
theorem d_Md_branches_32 : decode b_Md_branches 32 = .ok (.if_icmp .eq 9, 3) := by decide +kernel
theorem d_Md_branches_35 : decode b_Md_branches 35 = .ok (.aload_n 0, 1) := by decide +kernel
theorem d_Md_branches_36 : decode b_Md_branches 36 = .ok (.iload 4, 2) := by decide +kernel
theorem d_Md_branches_38 : decode b_Md_branches 38 = .ok (.invokevirtual 201, 3) := by decide +kernel
theorem d_Md_branches_41 : decode b_Md_branches 41 = .ok (.iload_n 2, 1) := by decide +kernel
theorem d_Md_branches_42 : decode b_Md_branches 42 = .ok (.iconst 1, 1) := by decide +kernel
theorem d_Md_branches_43 : decode b_Md_branches 43 = .ok (.if_icmp .eq 15, 3) := by decide +kernel
theorem d_Md_branches_46 : decode b_Md_branches 46 = .ok (.iload 4, 2) := by decide +kernel
theorem d_Md_branches_48 : decode b_Md_branches 48 = .ok (.iconst (-1), 1) := by decide +kernel
theorem d_Md_branches_49 : decode b_Md_branches 49 = .ok (.if_icmp .ne 9, 3) := by decide +kernel
theorem d_Md_branches_52 : decode b_Md_branches 52 = .ok (.aload_n 0, 1) := by decide +kernel
theorem d_Md_branches_53 : decode b_Md_branches 53 = .ok (.iload_n 1, 1) := by decide +kernel
theorem d_Md_branches_54 : decode b_Md_branches 54 = .ok (.iconst 0, 1) := by decide +kernel
theorem d_Md_branches_55 : decode b_Md_branches 55 = .ok (.invokevirtual 198, 3) := by decide +kernel
theorem d_Md_branches_58 : decode b_Md_branches 58 = .ok (.iload_n 3, 1) := by decide +kernel
theorem d_Md_branches_59 : decode b_Md_branches 59 = .ok (.istore 5, 2) := by decide +kernel
theorem d_Md_branches_61 : decode b_Md_branches 61 = .ok (.iload 5, 2) := by decide +kernel
theorem d_Md_branches_63 : decode b_Md_branches 63 = .ok (.iconst (-1), 1) := by decide +kernel
theorem d_Md_branches_64 : decode b_Md_branches 64 = .ok (.if_icmp .eq 38, 3) := by decide +kernel
theorem d_Md_branches_67 : decode b_Md_branches 67 = .ok (.aload_n 0, 1) := by decide +kernel
theorem d_Md_branches_68 : decode b_Md_branches 68 = .ok (.iload 5, 2) := by decide +kernel
theorem d_Md_branches_70 : decode b_Md_branches 70 = .ok (.iconst 0, 1) := by decide +kernel
theorem d_Md_branches_71 : decode b_Md_branches 71 = .ok (.invokevirtual 195, 3) := by decide +kernel
theorem d_Md_branches_74 : decode b_Md_branches 74 = .ok (.ifCond .eq 9, 3) := by decide +kernel
theorem d_Md_branches_77 : decode b_Md_branches 77 = .ok (.aload_n 0, 1) := by decide +kernel
theorem d_Md_branches_78 : decode b_Md_branches 78 = .ok (.iload_n 1, 1) := by decide +kernel
theorem d_Md_branches_79 : decode b_Md_branches 79 = .ok (.iconst 0, 1) := by decide +kernel
theorem d_Md_branches_80 : decode b_Md_branches 80 = .ok (.invokevirtual 198, 3) := by decide +kernel
theorem d_Md_branches_83 : decode b_Md_branches 83 = .ok (.aload_n 0, 1) := by decide +kernel
theorem d_Md_branches_84 : decode b_Md_branches 84 = .ok (.iload_n 1, 1) := by decide +kernel
theorem d_Md_branches_85 : decode b_Md_branches 85 = .ok (.iload 5, 2) := by decide +kernel
theorem d_Md_branches_87 : decode b_Md_branches 87 = .ok (.invokevirtual 205, 3) := by decide +kernel
theorem d_Md_branches_90 : decode b_Md_branches 90 = .ok (.aload_n 0, 1) := by decide +kernel
theorem d_Md_branches_91 : decode b_Md_branches 91 = .ok (.getfield 31, 3) := by decide +kernel
theorem d_Md_branches_94 : decode b_Md_branches 94 = .ok (.iload 5, 2) := by decide +kernel
theorem d_Md_branches_96 : decode b_Md_branches 96 = .ok (.iaload, 1) := by decide +kernel
theorem d_Md_branches_97 : decode b_Md_branches 97 = .ok (.istore 5, 2) := by decide +kernel
theorem d_Md_branches_99 : decode b_Md_branches 99 = .ok (.goto (-38), 3) := by decide +kernel
theorem d_Md_branches_102 : decode b_Md_branches 102 = .ok (.return_, 1) := by decide +kernel
theorem d_Md_walks_0 : decode b_Md_walks 0 = .ok (.aload_n 0, 1) := by decide +kernel
theorem d_Md_walks_1 : decode b_Md_walks 1 = .ok (.iconst 1, 1) := by decide +kernel
theorem d_Md_walks_2 : decode b_Md_walks 2 = .ok (.putfield 182, 3) := by decide +kernel
theorem d_Md_walks_5 : decode b_Md_walks 5 = .ok (.aload_n 0, 1) := by decide +kernel
theorem d_Md_walks_6 : decode b_Md_walks 6 = .ok (.getfield 65, 3) := by decide +kernel
theorem d_Md_walks_9 : decode b_Md_walks 9 = .ok (.aload_n 0, 1) := by decide +kernel
theorem d_Md_walks_10 : decode b_Md_walks 10 = .ok (.getfield 93, 3) := by decide +kernel
theorem d_Md_walks_13 : decode b_Md_walks 13 = .ok (.iconst 1, 1) := by decide +kernel
theorem d_Md_walks_14 : decode b_Md_walks 14 = .ok (.bastore, 1) := by decide +kernel
theorem d_Md_walks_15 : decode b_Md_walks 15 = .ok (.aload_n 0, 1) := by decide +kernel
theorem d_Md_walks_16 : decode b_Md_walks 16 = .ok (.getfield 182, 3) := by decide +kernel
theorem d_Md_walks_19 : decode b_Md_walks 19 = .ok (.ifCond .eq 51, 3) := by decide +kernel
theorem d_Md_walks_22 : decode b_Md_walks 22 = .ok (.aload_n 0, 1) := by decide +kernel
theorem d_Md_walks_23 : decode b_Md_walks 23 = .ok (.iconst 0, 1) := by decide +kernel
theorem d_Md_walks_24 : decode b_Md_walks 24 = .ok (.putfield 182, 3) := by decide +kernel
theorem d_Md_walks_27 : decode b_Md_walks 27 = .ok (.iconst 0, 1) := by decide +kernel
theorem d_Md_walks_28 : decode b_Md_walks 28 = .ok (.istore_n 1, 1) := by decide +kernel
theorem d_Md_walks_29 : decode b_Md_walks 29 = .ok (.iload_n 1, 1) := by decide +kernel
theorem d_Md_walks_30 : decode b_Md_walks 30 = .ok (.aload_n 0, 1) := by decide +kernel
theorem d_Md_walks_31 : decode b_Md_walks 31 = .ok (.getfield 142, 3) := by decide +kernel
theorem d_Md_walks_34 : decode b_Md_walks 34 = .ok (.if_icmp .ge 33, 3) := by decide +kernel
theorem d_Md_walks_37 : decode b_Md_walks 37 = .ok (.aload_n 0, 1) := by decide +kernel
theorem d_Md_walks_38 : decode b_Md_walks 38 = .ok (.getfield 65, 3) := by decide +kernel
theorem d_Md_walks_41 : decode b_Md_walks 41 = .ok (.aload_n 0, 1) := by decide +kernel
theorem d_Md_walks_42 : decode b_Md_walks 42 = .ok (.getfield 47, 3) := by decide +kernel
theorem d_Md_walks_45 : decode b_Md_walks 45 = .ok (.iload_n 1, 1) := by decide +kernel
theorem d_Md_walks_46 : decode b_Md_walks 46 = .ok (.iaload, 1) := by decide +kernel
theorem d_Md_walks_47 : decode b_Md_walks 47 = .ok (.baload, 1) := by decide +kernel
theorem d_Md_walks_48 : decode b_Md_walks 48 = .ok (.ifCond .eq 13, 3) := by decide +kernel
theorem d_Md_walks_51 : decode b_Md_walks 51 = .ok (.aload_n 0, 1) := by decide +kernel
theorem d_Md_walks_52 : decode b_Md_walks 52 = .ok (.aload_n 0, 1) := by decide +kernel
theorem d_Md_walks_53 : decode b_Md_walks 53 = .ok (.getfield 47, 3) := by decide +kernel
theorem d_Md_walks_56 : decode b_Md_walks 56 = .ok (.iload_n 1, 1) := by decide +kernel
theorem d_Md_walks_57 : decode b_Md_walks 57 = .ok (.iaload, 1) := by decide +kernel
theorem d_Md_walks_58 : decode b_Md_walks 58 = .ok (.invokevirtual 229, 3) := by decide +kernel
theorem d_Md_walks_61 : decode b_Md_walks 61 = .ok (.iinc 1 1, 3) := by decide +kernel
theorem d_Md_walks_64 : decode b_Md_walks 64 = .ok (.goto (-35), 3) := by decide +kernel
theorem d_Md_walks_67 : decode b_Md_walks 67 = .ok (.goto (-52), 3) := by decide +kernel
theorem d_Md_walks_70 : decode b_Md_walks 70 = .ok (.return_, 1) := by decide +kernel
theorem d_Md_tell_0 : decode b_Md_tell 0 = .ok (.iload_n 3, 1) := by decide +kernel
theorem d_Md_tell_1 : decode b_Md_tell 1 = .ok (.ifCond .eq 33, 3) := by decide +kernel
theorem d_Md_tell_4 : decode b_Md_tell 4 = .ok (.aload_n 0, 1) := by decide +kernel
theorem d_Md_tell_5 : decode b_Md_tell 5 = .ok (.getfield 71, 3) := by decide +kernel
theorem d_Md_tell_8 : decode b_Md_tell 8 = .ok (.aload_n 0, 1) := by decide +kernel
theorem d_Md_tell_9 : decode b_Md_tell 9 = .ok (.getfield 232, 3) := by decide +kernel
theorem d_Md_tell_12 : decode b_Md_tell 12 = .ok (.iload_n 1, 1) := by decide +kernel
theorem d_Md_tell_13 : decode b_Md_tell 13 = .ok (.iastore, 1) := by decide +kernel
theorem d_Md_tell_14 : decode b_Md_tell 14 = .ok (.aload_n 0, 1) := by decide +kernel
theorem d_Md_tell_15 : decode b_Md_tell 15 = .ok (.getfield 74, 3) := by decide +kernel
theorem d_Md_tell_18 : decode b_Md_tell 18 = .ok (.aload_n 0, 1) := by decide +kernel
theorem d_Md_tell_19 : decode b_Md_tell 19 = .ok (.getfield 232, 3) := by decide +kernel
theorem d_Md_tell_22 : decode b_Md_tell 22 = .ok (.iload_n 2, 1) := by decide +kernel
theorem d_Md_tell_23 : decode b_Md_tell 23 = .ok (.iastore, 1) := by decide +kernel
theorem d_Md_tell_24 : decode b_Md_tell 24 = .ok (.aload_n 0, 1) := by decide +kernel
theorem d_Md_tell_25 : decode b_Md_tell 25 = .ok (.dup, 1) := by decide +kernel
theorem d_Md_tell_26 : decode b_Md_tell 26 = .ok (.getfield 232, 3) := by decide +kernel
theorem d_Md_tell_29 : decode b_Md_tell 29 = .ok (.iconst 1, 1) := by decide +kernel
theorem d_Md_tell_30 : decode b_Md_tell 30 = .ok (.iadd, 1) := by decide +kernel
theorem d_Md_tell_31 : decode b_Md_tell 31 = .ok (.putfield 232, 3) := by decide +kernel
theorem d_Md_tell_34 : decode b_Md_tell 34 = .ok (.return_, 1) := by decide +kernel
theorem d_Md_isShadowed_0 : decode b_Md_isShadowed 0 = .ok (.iconst 0, 1) := by decide +kernel
theorem d_Md_isShadowed_1 : decode b_Md_isShadowed 1 = .ok (.istore_n 2, 1) := by decide +kernel
theorem d_Md_isShadowed_2 : decode b_Md_isShadowed 2 = .ok (.aload_n 0, 1) := by decide +kernel
theorem d_Md_isShadowed_3 : decode b_Md_isShadowed 3 = .ok (.getfield 31, 3) := by decide +kernel
theorem d_Md_isShadowed_6 : decode b_Md_isShadowed 6 = .ok (.aload_n 0, 1) := by decide +kernel
theorem d_Md_isShadowed_7 : decode b_Md_isShadowed 7 = .ok (.getfield 25, 3) := by decide +kernel
theorem d_Md_isShadowed_10 : decode b_Md_isShadowed 10 = .ok (.aload_n 0, 1) := by decide +kernel
theorem d_Md_isShadowed_11 : decode b_Md_isShadowed 11 = .ok (.getfield 19, 3) := by decide +kernel
theorem d_Md_isShadowed_14 : decode b_Md_isShadowed 14 = .ok (.iload_n 1, 1) := by decide +kernel
theorem d_Md_isShadowed_15 : decode b_Md_isShadowed 15 = .ok (.iaload, 1) := by decide +kernel
theorem d_Md_isShadowed_16 : decode b_Md_isShadowed 16 = .ok (.iaload, 1) := by decide +kernel
theorem d_Md_isShadowed_17 : decode b_Md_isShadowed 17 = .ok (.iaload, 1) := by decide +kernel
theorem d_Md_isShadowed_18 : decode b_Md_isShadowed 18 = .ok (.istore_n 3, 1) := by decide +kernel
theorem d_Md_isShadowed_19 : decode b_Md_isShadowed 19 = .ok (.iload_n 3, 1) := by decide +kernel
theorem d_Md_isShadowed_20 : decode b_Md_isShadowed 20 = .ok (.iload_n 1, 1) := by decide +kernel
theorem d_Md_isShadowed_21 : decode b_Md_isShadowed 21 = .ok (.if_icmp .eq 42, 3) := by decide +kernel
theorem d_Md_isShadowed_24 : decode b_Md_isShadowed 24 = .ok (.iload_n 2, 1) := by decide +kernel
theorem d_Md_isShadowed_25 : decode b_Md_isShadowed 25 = .ok (.ifCond .ne 22, 3) := by decide +kernel
theorem d_Md_isShadowed_28 : decode b_Md_isShadowed 28 = .ok (.aload_n 0, 1) := by decide +kernel
theorem d_Md_isShadowed_29 : decode b_Md_isShadowed 29 = .ok (.aload_n 0, 1) := by decide +kernel
theorem d_Md_isShadowed_30 : decode b_Md_isShadowed 30 = .ok (.getfield 22, 3) := by decide +kernel
theorem d_Md_isShadowed_33 : decode b_Md_isShadowed 33 = .ok (.iload_n 1, 1) := by decide +kernel
theorem d_Md_isShadowed_34 : decode b_Md_isShadowed 34 = .ok (.iaload, 1) := by decide +kernel
theorem d_Md_isShadowed_35 : decode b_Md_isShadowed 35 = .ok (.aload_n 0, 1) := by decide +kernel
theorem d_Md_isShadowed_36 : decode b_Md_isShadowed 36 = .ok (.getfield 22, 3) := by decide +kernel
theorem d_Md_isShadowed_39 : decode b_Md_isShadowed 39 = .ok (.iload_n 3, 1) := by decide +kernel
theorem d_Md_isShadowed_40 : decode b_Md_isShadowed 40 = .ok (.iaload, 1) := by decide +kernel
theorem d_Md_isShadowed_41 : decode b_Md_isShadowed 41 = .ok (.invokevirtual 164, 3) := by decide +kernel
theorem d_Md_isShadowed_44 : decode b_Md_isShadowed 44 = .ok (.ifCond .eq 7, 3) := by decide +kernel
theorem d_Md_isShadowed_47 : decode b_Md_isShadowed 47 = .ok (.iconst 1, 1) := by decide +kernel
theorem d_Md_isShadowed_48 : decode b_Md_isShadowed 48 = .ok (.goto 4, 3) := by decide +kernel
theorem d_Md_isShadowed_51 : decode b_Md_isShadowed 51 = .ok (.iconst 0, 1) := by decide +kernel
theorem d_Md_isShadowed_52 : decode b_Md_isShadowed 52 = .ok (.istore_n 2, 1) := by decide +kernel
theorem d_Md_isShadowed_53 : decode b_Md_isShadowed 53 = .ok (.aload_n 0, 1) := by decide +kernel
theorem d_Md_isShadowed_54 : decode b_Md_isShadowed 54 = .ok (.getfield 31, 3) := by decide +kernel
theorem d_Md_isShadowed_57 : decode b_Md_isShadowed 57 = .ok (.iload_n 3, 1) := by decide +kernel
theorem d_Md_isShadowed_58 : decode b_Md_isShadowed 58 = .ok (.iaload, 1) := by decide +kernel
theorem d_Md_isShadowed_59 : decode b_Md_isShadowed 59 = .ok (.istore_n 3, 1) := by decide +kernel
theorem d_Md_isShadowed_60 : decode b_Md_isShadowed 60 = .ok (.goto (-41), 3) := by decide +kernel
theorem d_Md_isShadowed_63 : decode b_Md_isShadowed 63 = .ok (.iload_n 2, 1) := by decide +kernel
theorem d_Md_isShadowed_64 : decode b_Md_isShadowed 64 = .ok (.ireturn, 1) := by decide +kernel
theorem d_Md_isNested_0 : decode b_Md_isNested 0 = .ok (.iconst 0, 1) := by decide +kernel
theorem d_Md_isNested_1 : decode b_Md_isNested 1 = .ok (.istore_n 2, 1) := by decide +kernel
theorem d_Md_isNested_2 : decode b_Md_isNested 2 = .ok (.aload_n 0, 1) := by decide +kernel
theorem d_Md_isNested_3 : decode b_Md_isNested 3 = .ok (.iload_n 1, 1) := by decide +kernel
theorem d_Md_isNested_4 : decode b_Md_isNested 4 = .ok (.invokevirtual 145, 3) := by decide +kernel
theorem d_Md_isNested_7 : decode b_Md_isNested 7 = .ok (.istore_n 3, 1) := by decide +kernel
theorem d_Md_isNested_8 : decode b_Md_isNested 8 = .ok (.iload_n 3, 1) := by decide +kernel
theorem d_Md_isNested_9 : decode b_Md_isNested 9 = .ok (.iconst (-1), 1) := by decide +kernel
theorem d_Md_isNested_10 : decode b_Md_isNested 10 = .ok (.if_icmp .eq 48, 3) := by decide +kernel
theorem d_Md_isNested_13 : decode b_Md_isNested 13 = .ok (.iload_n 2, 1) := by decide +kernel
theorem d_Md_isNested_14 : decode b_Md_isNested 14 = .ok (.ifCond .ne 29, 3) := by decide +kernel
theorem d_Md_isNested_17 : decode b_Md_isNested 17 = .ok (.aload_n 0, 1) := by decide +kernel
theorem d_Md_isNested_18 : decode b_Md_isNested 18 = .ok (.getfield 13, 3) := by decide +kernel
theorem d_Md_isNested_21 : decode b_Md_isNested 21 = .ok (.iload_n 3, 1) := by decide +kernel
theorem d_Md_isNested_22 : decode b_Md_isNested 22 = .ok (.iaload, 1) := by decide +kernel
theorem d_Md_isNested_23 : decode b_Md_isNested 23 = .ok (.bipush 12, 2) := by decide +kernel
theorem d_Md_isNested_25 : decode b_Md_isNested 25 = .ok (.if_icmp .ne 22, 3) := by decide +kernel
theorem d_Md_isNested_28 : decode b_Md_isNested 28 = .ok (.aload_n 0, 1) := by decide +kernel
theorem d_Md_isNested_29 : decode b_Md_isNested 29 = .ok (.getfield 16, 3) := by decide +kernel
theorem d_Md_isNested_32 : decode b_Md_isNested 32 = .ok (.iload_n 3, 1) := by decide +kernel
theorem d_Md_isNested_33 : decode b_Md_isNested 33 = .ok (.iaload, 1) := by decide +kernel
theorem d_Md_isNested_34 : decode b_Md_isNested 34 = .ok (.aload_n 0, 1) := by decide +kernel
theorem d_Md_isNested_35 : decode b_Md_isNested 35 = .ok (.getfield 16, 3) := by decide +kernel
theorem d_Md_isNested_38 : decode b_Md_isNested 38 = .ok (.iload_n 1, 1) := by decide +kernel
theorem d_Md_isNested_39 : decode b_Md_isNested 39 = .ok (.iaload, 1) := by decide +kernel
theorem d_Md_isNested_40 : decode b_Md_isNested 40 = .ok (.if_icmp .ne 7, 3) := by decide +kernel
theorem d_Md_isNested_43 : decode b_Md_isNested 43 = .ok (.iconst 1, 1) := by decide +kernel
theorem d_Md_isNested_44 : decode b_Md_isNested 44 = .ok (.goto 4, 3) := by decide +kernel
theorem d_Md_isNested_47 : decode b_Md_isNested 47 = .ok (.iconst 0, 1) := by decide +kernel
theorem d_Md_isNested_48 : decode b_Md_isNested 48 = .ok (.istore_n 2, 1) := by decide +kernel
theorem d_Md_isNested_49 : decode b_Md_isNested 49 = .ok (.aload_n 0, 1) := by decide +kernel
theorem d_Md_isNested_50 : decode b_Md_isNested 50 = .ok (.iload_n 3, 1) := by decide +kernel
theorem d_Md_isNested_51 : decode b_Md_isNested 51 = .ok (.invokevirtual 145, 3) := by decide +kernel
theorem d_Md_isNested_54 : decode b_Md_isNested 54 = .ok (.istore_n 3, 1) := by decide +kernel
theorem d_Md_isNested_55 : decode b_Md_isNested 55 = .ok (.goto (-47), 3) := by decide +kernel
theorem d_Md_isNested_58 : decode b_Md_isNested 58 = .ok (.iload_n 2, 1) := by decide +kernel
theorem d_Md_isNested_59 : decode b_Md_isNested 59 = .ok (.ireturn, 1) := by decide +kernel
theorem d_Md_judge_0 : decode b_Md_judge 0 = .ok (.aload_n 0, 1) := by decide +kernel
theorem d_Md_judge_1 : decode b_Md_judge 1 = .ok (.iload_n 1, 1) := by decide +kernel
theorem d_Md_judge_2 : decode b_Md_judge 2 = .ok (.invokevirtual 145, 3) := by decide +kernel
theorem d_Md_judge_5 : decode b_Md_judge 5 = .ok (.istore_n 2, 1) := by decide +kernel
theorem d_Md_judge_6 : decode b_Md_judge 6 = .ok (.aload_n 0, 1) := by decide +kernel
theorem d_Md_judge_7 : decode b_Md_judge 7 = .ok (.iload_n 1, 1) := by decide +kernel
theorem d_Md_judge_8 : decode b_Md_judge 8 = .ok (.invokevirtual 158, 3) := by decide +kernel
theorem d_Md_judge_11 : decode b_Md_judge 11 = .ok (.ifCond .eq 52, 3) := by decide +kernel
theorem d_Md_judge_14 : decode b_Md_judge 14 = .ok (.aload_n 0, 1) := by decide +kernel
theorem d_Md_judge_15 : decode b_Md_judge 15 = .ok (.iload_n 1, 1) := by decide +kernel
theorem d_Md_judge_16 : decode b_Md_judge 16 = .ok (.invokevirtual 235, 3) := by decide +kernel
theorem d_Md_judge_19 : decode b_Md_judge 19 = .ok (.istore_n 3, 1) := by decide +kernel
theorem d_Md_judge_20 : decode b_Md_judge 20 = .ok (.aload_n 0, 1) := by decide +kernel
theorem d_Md_judge_21 : decode b_Md_judge 21 = .ok (.iconst 3, 1) := by decide +kernel
theorem d_Md_judge_22 : decode b_Md_judge 22 = .ok (.iload_n 1, 1) := by decide +kernel
theorem d_Md_judge_23 : decode b_Md_judge 23 = .ok (.iload_n 3, 1) := by decide +kernel
theorem d_Md_judge_24 : decode b_Md_judge 24 = .ok (.invokevirtual 238, 3) := by decide +kernel
theorem d_Md_judge_27 : decode b_Md_judge 27 = .ok (.aload_n 0, 1) := by decide +kernel
theorem d_Md_judge_28 : decode b_Md_judge 28 = .ok (.iconst 4, 1) := by decide +kernel
theorem d_Md_judge_29 : decode b_Md_judge 29 = .ok (.iload_n 1, 1) := by decide +kernel
theorem d_Md_judge_30 : decode b_Md_judge 30 = .ok (.iload_n 3, 1) := by decide +kernel
theorem d_Md_judge_31 : decode b_Md_judge 31 = .ok (.ifCond .ne 25, 3) := by decide +kernel
theorem d_Md_judge_34 : decode b_Md_judge 34 = .ok (.aload_n 0, 1) := by decide +kernel
theorem d_Md_judge_35 : decode b_Md_judge 35 = .ok (.getfield 56, 3) := by decide +kernel
theorem d_Md_judge_38 : decode b_Md_judge 38 = .ok (.iload_n 1, 1) := by decide +kernel
theorem d_Md_judge_39 : decode b_Md_judge 39 = .ok (.baload, 1) := by decide +kernel
theorem d_Md_judge_40 : decode b_Md_judge 40 = .ok (.ifCond .ne 16, 3) := by decide +kernel
theorem d_Md_judge_43 : decode b_Md_judge 43 = .ok (.aload_n 0, 1) := by decide +kernel
theorem d_Md_judge_44 : decode b_Md_judge 44 = .ok (.getfield 56, 3) := by decide +kernel
theorem d_Md_judge_47 : decode b_Md_judge 47 = .ok (.iload_n 2, 1) := by decide +kernel
theorem d_Md_judge_48 : decode b_Md_judge 48 = .ok (.baload, 1) := by decide +kernel
theorem d_Md_judge_49 : decode b_Md_judge 49 = .ok (.ifCond .eq 7, 3) := by decide +kernel
theorem d_Md_judge_52 : decode b_Md_judge 52 = .ok (.iconst 1, 1) := by decide +kernel
theorem d_Md_judge_53 : decode b_Md_judge 53 = .ok (.goto 4, 3) := by decide +kernel
theorem d_Md_judge_56 : decode b_Md_judge 56 = .ok (.iconst 0, 1) := by decide +kernel
theorem d_Md_judge_57 : decode b_Md_judge 57 = .ok (.invokevirtual 238, 3) := by decide +kernel
theorem d_Md_judge_60 : decode b_Md_judge 60 = .ok (.goto 110, 3) := by decide +kernel
theorem d_Md_judge_63 : decode b_Md_judge 63 = .ok (.iload_n 2, 1) := by decide +kernel
theorem d_Md_judge_64 : decode b_Md_judge 64 = .ok (.iconst (-1), 1) := by decide +kernel
theorem d_Md_judge_65 : decode b_Md_judge 65 = .ok (.if_icmp .eq 29, 3) := by decide +kernel
theorem d_Md_judge_68 : decode b_Md_judge 68 = .ok (.aload_n 0, 1) := by decide +kernel
theorem d_Md_judge_69 : decode b_Md_judge 69 = .ok (.getfield 13, 3) := by decide +kernel
theorem d_Md_judge_72 : decode b_Md_judge 72 = .ok (.iload_n 2, 1) := by decide +kernel
theorem d_Md_judge_73 : decode b_Md_judge 73 = .ok (.iaload, 1) := by decide +kernel
theorem d_Md_judge_74 : decode b_Md_judge 74 = .ok (.bipush 13, 2) := by decide +kernel
theorem d_Md_judge_76 : decode b_Md_judge 76 = .ok (.if_icmp .eq 14, 3) := by decide +kernel
theorem d_Md_judge_79 : decode b_Md_judge 79 = .ok (.aload_n 0, 1) := by decide +kernel
theorem d_Md_judge_80 : decode b_Md_judge 80 = .ok (.getfield 13, 3) := by decide +kernel
theorem d_Md_judge_83 : decode b_Md_judge 83 = .ok (.iload_n 2, 1) := by decide +kernel
theorem d_Md_judge_84 : decode b_Md_judge 84 = .ok (.iaload, 1) := by decide +kernel
theorem d_Md_judge_85 : decode b_Md_judge 85 = .ok (.bipush 14, 2) := by decide +kernel
theorem d_Md_judge_87 : decode b_Md_judge 87 = .ok (.if_icmp .ne 7, 3) := by decide +kernel
theorem d_Md_judge_90 : decode b_Md_judge 90 = .ok (.iconst 1, 1) := by decide +kernel
theorem d_Md_judge_91 : decode b_Md_judge 91 = .ok (.goto 4, 3) := by decide +kernel
theorem d_Md_judge_94 : decode b_Md_judge 94 = .ok (.iconst 0, 1) := by decide +kernel
theorem d_Md_judge_95 : decode b_Md_judge 95 = .ok (.istore_n 3, 1) := by decide +kernel
theorem d_Md_judge_96 : decode b_Md_judge 96 = .ok (.iload_n 3, 1) := by decide +kernel
theorem d_Md_judge_97 : decode b_Md_judge 97 = .ok (.ifCond .eq 27, 3) := by decide +kernel
theorem d_Md_judge_100 : decode b_Md_judge 100 = .ok (.aload_n 0, 1) := by decide +kernel
theorem d_Md_judge_101 : decode b_Md_judge 101 = .ok (.getfield 34, 3) := by decide +kernel
theorem d_Md_judge_104 : decode b_Md_judge 104 = .ok (.iload_n 1, 1) := by decide +kernel
theorem d_Md_judge_105 : decode b_Md_judge 105 = .ok (.iaload, 1) := by decide +kernel
theorem d_Md_judge_106 : decode b_Md_judge 106 = .ok (.iconst (-1), 1) := by decide +kernel
theorem d_Md_judge_107 : decode b_Md_judge 107 = .ok (.if_icmp .eq 17, 3) := by decide +kernel
theorem d_Md_judge_110 : decode b_Md_judge 110 = .ok (.aload_n 0, 1) := by decide +kernel
theorem d_Md_judge_111 : decode b_Md_judge 111 = .ok (.getfield 56, 3) := by decide +kernel
theorem d_Md_judge_114 : decode b_Md_judge 114 = .ok (.aload_n 0, 1) := by decide +kernel
theorem d_Md_judge_115 : decode b_Md_judge 115 = .ok (.getfield 34, 3) := by decide +kernel
theorem d_Md_judge_118 : decode b_Md_judge 118 = .ok (.iload_n 1, 1) := by decide +kernel
theorem d_Md_judge_119 : decode b_Md_judge 119 = .ok (.iaload, 1) := by decide +kernel
theorem d_Md_judge_120 : decode b_Md_judge 120 = .ok (.baload, 1) := by decide +kernel
theorem d_Md_judge_121 : decode b_Md_judge 121 = .ok (.ifCond .eq 7, 3) := by decide +kernel
theorem d_Md_judge_124 : decode b_Md_judge 124 = .ok (.iconst 1, 1) := by decide +kernel
theorem d_Md_judge_125 : decode b_Md_judge 125 = .ok (.goto 4, 3) := by decide +kernel
theorem d_Md_judge_128 : decode b_Md_judge 128 = .ok (.iconst 0, 1) := by decide +kernel
theorem d_Md_judge_129 : decode b_Md_judge 129 = .ok (.istore 4, 2) := by decide +kernel
theorem d_Md_judge_131 : decode b_Md_judge 131 = .ok (.aload_n 0, 1) := by decide +kernel
theorem d_Md_judge_132 : decode b_Md_judge 132 = .ok (.iconst 1, 1) := by decide +kernel
theorem d_Md_judge_133 : decode b_Md_judge 133 = .ok (.iload_n 1, 1) := by decide +kernel
theorem d_Md_judge_134 : decode b_Md_judge 134 = .ok (.iload_n 2, 1) := by decide +kernel
theorem d_Md_judge_135 : decode b_Md_judge 135 = .ok (.iconst (-1), 1) := by decide +kernel
theorem d_Md_judge_136 : decode b_Md_judge 136 = .ok (.if_icmp .eq 30, 3) := by decide +kernel
theorem d_Md_judge_139 : decode b_Md_judge 139 = .ok (.aload_n 0, 1) := by decide +kernel
theorem d_Md_judge_140 : decode b_Md_judge 140 = .ok (.getfield 56, 3) := by decide +kernel
theorem d_Md_judge_143 : decode b_Md_judge 143 = .ok (.iload_n 1, 1) := by decide +kernel
theorem d_Md_judge_144 : decode b_Md_judge 144 = .ok (.baload, 1) := by decide +kernel
theorem d_Md_judge_145 : decode b_Md_judge 145 = .ok (.ifCond .ne 21, 3) := by decide +kernel
theorem d_Md_judge_148 : decode b_Md_judge 148 = .ok (.aload_n 0, 1) := by decide +kernel
theorem d_Md_judge_149 : decode b_Md_judge 149 = .ok (.getfield 56, 3) := by decide +kernel
theorem d_Md_judge_152 : decode b_Md_judge 152 = .ok (.iload_n 2, 1) := by decide +kernel
theorem d_Md_judge_153 : decode b_Md_judge 153 = .ok (.baload, 1) := by decide +kernel
theorem d_Md_judge_154 : decode b_Md_judge 154 = .ok (.ifCond .eq 12, 3) := by decide +kernel
theorem d_Md_judge_157 : decode b_Md_judge 157 = .ok (.iload 4, 2) := by decide +kernel
theorem d_Md_judge_159 : decode b_Md_judge 159 = .ok (.ifCond .eq 7, 3) := by decide +kernel
theorem d_Md_judge_162 : decode b_Md_judge 162 = .ok (.iconst 1, 1) := by decide +kernel
theorem d_Md_judge_163 : decode b_Md_judge 163 = .ok (.goto 4, 3) := by decide +kernel
theorem d_Md_judge_166 : decode b_Md_judge 166 = .ok (.iconst 0, 1) := by decide +kernel
theorem d_Md_judge_167 : decode b_Md_judge 167 = .ok (.invokevirtual 238, 3) := by decide +kernel
theorem d_Md_judge_170 : decode b_Md_judge 170 = .ok (.aload_n 0, 1) := by decide +kernel
theorem d_Md_judge_171 : decode b_Md_judge 171 = .ok (.iconst 2, 1) := by decide +kernel
theorem d_Md_judge_172 : decode b_Md_judge 172 = .ok (.iload_n 1, 1) := by decide +kernel
theorem d_Md_judge_173 : decode b_Md_judge 173 = .ok (.aload_n 0, 1) := by decide +kernel
theorem d_Md_judge_174 : decode b_Md_judge 174 = .ok (.getfield 13, 3) := by decide +kernel
theorem d_Md_judge_177 : decode b_Md_judge 177 = .ok (.iload_n 1, 1) := by decide +kernel
theorem d_Md_judge_178 : decode b_Md_judge 178 = .ok (.iaload, 1) := by decide +kernel
theorem d_Md_judge_179 : decode b_Md_judge 179 = .ok (.bipush 10, 2) := by decide +kernel
theorem d_Md_judge_181 : decode b_Md_judge 181 = .ok (.if_icmp .eq 14, 3) := by decide +kernel
theorem d_Md_judge_184 : decode b_Md_judge 184 = .ok (.aload_n 0, 1) := by decide +kernel
theorem d_Md_judge_185 : decode b_Md_judge 185 = .ok (.getfield 13, 3) := by decide +kernel
theorem d_Md_judge_188 : decode b_Md_judge 188 = .ok (.iload_n 1, 1) := by decide +kernel
theorem d_Md_judge_189 : decode b_Md_judge 189 = .ok (.iaload, 1) := by decide +kernel
theorem d_Md_judge_190 : decode b_Md_judge 190 = .ok (.bipush 11, 2) := by decide +kernel
theorem d_Md_judge_192 : decode b_Md_judge 192 = .ok (.if_icmp .ne 17, 3) := by decide +kernel
theorem d_Md_judge_195 : decode b_Md_judge 195 = .ok (.aload_n 0, 1) := by decide +kernel
theorem d_Md_judge_196 : decode b_Md_judge 196 = .ok (.getfield 53, 3) := by decide +kernel
theorem d_Md_judge_199 : decode b_Md_judge 199 = .ok (.iload_n 1, 1) := by decide +kernel
theorem d_Md_judge_200 : decode b_Md_judge 200 = .ok (.iaload, 1) := by decide +kernel
theorem d_Md_judge_201 : decode b_Md_judge 201 = .ok (.iconst (-1), 1) := by decide +kernel
theorem d_Md_judge_202 : decode b_Md_judge 202 = .ok (.if_icmp .ne 7, 3) := by decide +kernel
theorem d_Md_judge_205 : decode b_Md_judge 205 = .ok (.iconst 1, 1) := by decide +kernel
theorem d_Md_judge_206 : decode b_Md_judge 206 = .ok (.goto 4, 3) := by decide +kernel
