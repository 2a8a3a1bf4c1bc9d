theorem d_Md_judge_209 : decode b_Md_judge 209 = .ok (.iconst 0, 1) := by decide +kernel
theorem d_Md_judge_210 : decode b_Md_judge 210 = .ok (.invokevirtual 238, 3) := by decide +kernel
theorem d_Md_judge_213 : decode b_Md_judge 213 = .ok (.aload_n 0, 1) := by decide +kernel
theorem d_Md_judge_214 : decode b_Md_judge 214 = .ok (.iconst 5, 1) := by decide +kernel
theorem d_Md_judge_215 : decode b_Md_judge 215 = .ok (.iload_n 1, 1) := by decide +kernel
theorem d_Md_judge_216 : decode b_Md_judge 216 = .ok (.aload_n 0, 1) := by decide +kernel
theorem d_Md_judge_217 : decode b_Md_judge 217 = .ok (.getfield 13, 3) := by decide +kernel
theorem d_Md_judge_220 : decode b_Md_judge 220 = .ok (.iload_n 1, 1) := by decide +kernel
theorem d_Md_judge_221 : decode b_Md_judge 221 = .ok (.iaload, 1) := by decide +kernel
theorem d_Md_judge_222 : decode b_Md_judge 222 = .ok (.bipush 12, 2) := by decide +kernel
theorem d_Md_judge_224 : decode b_Md_judge 224 = .ok (.if_icmp .ne 15, 3) := by decide +kernel
theorem d_Md_judge_227 : decode b_Md_judge 227 = .ok (.aload_n 0, 1) := by decide +kernel
theorem d_Md_judge_228 : decode b_Md_judge 228 = .ok (.iload_n 1, 1) := by decide +kernel
theorem d_Md_judge_229 : decode b_Md_judge 229 = .ok (.invokevirtual 242, 3) := by decide +kernel
theorem d_Md_judge_232 : decode b_Md_judge 232 = .ok (.ifCond .eq 7, 3) := by decide +kernel
theorem d_Md_judge_235 : decode b_Md_judge 235 = .ok (.iconst 1, 1) := by decide +kernel
theorem d_Md_judge_236 : decode b_Md_judge 236 = .ok (.goto 4, 3) := by decide +kernel
theorem d_Md_judge_239 : decode b_Md_judge 239 = .ok (.iconst 0, 1) := by decide +kernel
theorem d_Md_judge_240 : decode b_Md_judge 240 = .ok (.invokevirtual 238, 3) := by decide +kernel
theorem d_Md_judge_243 : decode b_Md_judge 243 = .ok (.aload_n 0, 1) := by decide +kernel
theorem d_Md_judge_244 : decode b_Md_judge 244 = .ok (.getfield 56, 3) := by decide +kernel
theorem d_Md_judge_247 : decode b_Md_judge 247 = .ok (.iload_n 1, 1) := by decide +kernel
theorem d_Md_judge_248 : decode b_Md_judge 248 = .ok (.baload, 1) := by decide +kernel
theorem d_Md_judge_249 : decode b_Md_judge 249 = .ok (.ifCond .eq 46, 3) := by decide +kernel
theorem d_Md_judge_252 : decode b_Md_judge 252 = .ok (.aload_n 0, 1) := by decide +kernel
theorem d_Md_judge_253 : decode b_Md_judge 253 = .ok (.getfield 65, 3) := by decide +kernel
theorem d_Md_judge_256 : decode b_Md_judge 256 = .ok (.iload_n 1, 1) := by decide +kernel
theorem d_Md_judge_257 : decode b_Md_judge 257 = .ok (.baload, 1) := by decide +kernel
theorem d_Md_judge_258 : decode b_Md_judge 258 = .ok (.ifCond .ne 37, 3) := by decide +kernel
theorem d_Md_judge_261 : decode b_Md_judge 261 = .ok (.iload_n 2, 1) := by decide +kernel
theorem d_Md_judge_262 : decode b_Md_judge 262 = .ok (.iconst (-1), 1) := by decide +kernel
theorem d_Md_judge_263 : decode b_Md_judge 263 = .ok (.if_icmp .eq 32, 3) := by decide +kernel
theorem d_Md_judge_266 : decode b_Md_judge 266 = .ok (.aload_n 0, 1) := by decide +kernel
theorem d_Md_judge_267 : decode b_Md_judge 267 = .ok (.getfield 65, 3) := by decide +kernel
theorem d_Md_judge_270 : decode b_Md_judge 270 = .ok (.iload_n 2, 1) := by decide +kernel
theorem d_Md_judge_271 : decode b_Md_judge 271 = .ok (.baload, 1) := by decide +kernel
theorem d_Md_judge_272 : decode b_Md_judge 272 = .ok (.ifCond .eq 23, 3) := by decide +kernel
theorem d_Md_judge_275 : decode b_Md_judge 275 = .ok (.aload_n 0, 1) := by decide +kernel
theorem d_Md_judge_276 : decode b_Md_judge 276 = .ok (.getfield 77, 3) := by decide +kernel
theorem d_Md_judge_279 : decode b_Md_judge 279 = .ok (.aload_n 0, 1) := by decide +kernel
theorem d_Md_judge_280 : decode b_Md_judge 280 = .ok (.getfield 245, 3) := by decide +kernel
theorem d_Md_judge_283 : decode b_Md_judge 283 = .ok (.iload_n 1, 1) := by decide +kernel
theorem d_Md_judge_284 : decode b_Md_judge 284 = .ok (.iastore, 1) := by decide +kernel
theorem d_Md_judge_285 : decode b_Md_judge 285 = .ok (.aload_n 0, 1) := by decide +kernel
theorem d_Md_judge_286 : decode b_Md_judge 286 = .ok (.dup, 1) := by decide +kernel
theorem d_Md_judge_287 : decode b_Md_judge 287 = .ok (.getfield 245, 3) := by decide +kernel
theorem d_Md_judge_290 : decode b_Md_judge 290 = .ok (.iconst 1, 1) := by decide +kernel
theorem d_Md_judge_291 : decode b_Md_judge 291 = .ok (.iadd, 1) := by decide +kernel
theorem d_Md_judge_292 : decode b_Md_judge 292 = .ok (.putfield 245, 3) := by decide +kernel
theorem d_Md_judge_295 : decode b_Md_judge 295 = .ok (.return_, 1) := by decide +kernel
theorem d_Md_look_0 : decode b_Md_look 0 = .ok (.aload_n 0, 1) := by decide +kernel
theorem d_Md_look_1 : decode b_Md_look 1 = .ok (.iload_n 1, 1) := by decide +kernel
theorem d_Md_look_2 : decode b_Md_look 2 = .ok (.putfield 93, 3) := by decide +kernel
theorem d_Md_look_5 : decode b_Md_look 5 = .ok (.aload_n 0, 1) := by decide +kernel
theorem d_Md_look_6 : decode b_Md_look 6 = .ok (.aload_n 0, 1) := by decide +kernel
theorem d_Md_look_7 : decode b_Md_look 7 = .ok (.getfield 83, 3) := by decide +kernel
theorem d_Md_look_10 : decode b_Md_look 10 = .ok (.putfield 167, 3) := by decide +kernel
theorem d_Md_look_13 : decode b_Md_look 13 = .ok (.aload_n 0, 1) := by decide +kernel
theorem d_Md_look_14 : decode b_Md_look 14 = .ok (.invokevirtual 248, 3) := by decide +kernel
theorem d_Md_look_17 : decode b_Md_look 17 = .ok (.iconst 0, 1) := by decide +kernel
theorem d_Md_look_18 : decode b_Md_look 18 = .ok (.istore_n 2, 1) := by decide +kernel
theorem d_Md_look_19 : decode b_Md_look 19 = .ok (.iload_n 2, 1) := by decide +kernel
theorem d_Md_look_20 : decode b_Md_look 20 = .ok (.aload_n 0, 1) := by decide +kernel
theorem d_Md_look_21 : decode b_Md_look 21 = .ok (.getfield 142, 3) := by decide +kernel
theorem d_Md_look_24 : decode b_Md_look 24 = .ok (.if_icmp .ge 134, 3) := by decide +kernel
theorem d_Md_look_27 : decode b_Md_look 27 = .ok (.aload_n 0, 1) := by decide +kernel
theorem d_Md_look_28 : decode b_Md_look 28 = .ok (.getfield 47, 3) := by decide +kernel
theorem d_Md_look_31 : decode b_Md_look 31 = .ok (.iload_n 2, 1) := by decide +kernel
theorem d_Md_look_32 : decode b_Md_look 32 = .ok (.iaload, 1) := by decide +kernel
theorem d_Md_look_33 : decode b_Md_look 33 = .ok (.istore_n 3, 1) := by decide +kernel
theorem d_Md_look_34 : decode b_Md_look 34 = .ok (.aload_n 0, 1) := by decide +kernel
theorem d_Md_look_35 : decode b_Md_look 35 = .ok (.getfield 56, 3) := by decide +kernel
theorem d_Md_look_38 : decode b_Md_look 38 = .ok (.iload_n 3, 1) := by decide +kernel
theorem d_Md_look_39 : decode b_Md_look 39 = .ok (.iconst 0, 1) := by decide +kernel
theorem d_Md_look_40 : decode b_Md_look 40 = .ok (.bastore, 1) := by decide +kernel
theorem d_Md_look_41 : decode b_Md_look 41 = .ok (.aload_n 0, 1) := by decide +kernel
theorem d_Md_look_42 : decode b_Md_look 42 = .ok (.getfield 59, 3) := by decide +kernel
theorem d_Md_look_45 : decode b_Md_look 45 = .ok (.iload_n 3, 1) := by decide +kernel
theorem d_Md_look_46 : decode b_Md_look 46 = .ok (.iconst 0, 1) := by decide +kernel
theorem d_Md_look_47 : decode b_Md_look 47 = .ok (.bastore, 1) := by decide +kernel
theorem d_Md_look_48 : decode b_Md_look 48 = .ok (.aload_n 0, 1) := by decide +kernel
theorem d_Md_look_49 : decode b_Md_look 49 = .ok (.getfield 65, 3) := by decide +kernel
theorem d_Md_look_52 : decode b_Md_look 52 = .ok (.iload_n 3, 1) := by decide +kernel
theorem d_Md_look_53 : decode b_Md_look 53 = .ok (.iconst 0, 1) := by decide +kernel
theorem d_Md_look_54 : decode b_Md_look 54 = .ok (.bastore, 1) := by decide +kernel
theorem d_Md_look_55 : decode b_Md_look 55 = .ok (.iconst 0, 1) := by decide +kernel
theorem d_Md_look_56 : decode b_Md_look 56 = .ok (.istore 4, 2) := by decide +kernel
theorem d_Md_look_58 : decode b_Md_look 58 = .ok (.iload 4, 2) := by decide +kernel
theorem d_Md_look_60 : decode b_Md_look 60 = .ok (.bipush 12, 2) := by decide +kernel
theorem d_Md_look_62 : decode b_Md_look 62 = .ok (.if_icmp .ge 22, 3) := by decide +kernel
theorem d_Md_look_65 : decode b_Md_look 65 = .ok (.aload_n 0, 1) := by decide +kernel
theorem d_Md_look_66 : decode b_Md_look 66 = .ok (.getfield 62, 3) := by decide +kernel
theorem d_Md_look_69 : decode b_Md_look 69 = .ok (.bipush 12, 2) := by decide +kernel
theorem d_Md_look_71 : decode b_Md_look 71 = .ok (.iload_n 3, 1) := by decide +kernel
theorem d_Md_look_72 : decode b_Md_look 72 = .ok (.imul, 1) := by decide +kernel
theorem d_Md_look_73 : decode b_Md_look 73 = .ok (.iload 4, 2) := by decide +kernel
theorem d_Md_look_75 : decode b_Md_look 75 = .ok (.iadd, 1) := by decide +kernel
theorem d_Md_look_76 : decode b_Md_look 76 = .ok (.iconst 0, 1) := by decide +kernel
theorem d_Md_look_77 : decode b_Md_look 77 = .ok (.bastore, 1) := by decide +kernel
theorem d_Md_look_78 : decode b_Md_look 78 = .ok (.iinc 4 1, 3) := by decide +kernel
theorem d_Md_look_81 : decode b_Md_look 81 = .ok (.goto (-23), 3) := by decide +kernel
theorem d_Md_look_84 : decode b_Md_look 84 = .ok (.iconst 0, 1) := by decide +kernel
theorem d_Md_look_85 : decode b_Md_look 85 = .ok (.istore 4, 2) := by decide +kernel
theorem d_Md_look_87 : decode b_Md_look 87 = .ok (.iload 4, 2) := by decide +kernel
theorem d_Md_look_89 : decode b_Md_look 89 = .ok (.sipush 134, 3) := by decide +kernel
theorem d_Md_look_92 : decode b_Md_look 92 = .ok (.if_icmp .ge 23, 3) := by decide +kernel
theorem d_Md_look_95 : decode b_Md_look 95 = .ok (.aload_n 0, 1) := by decide +kernel
theorem d_Md_look_96 : decode b_Md_look 96 = .ok (.getfield 68, 3) := by decide +kernel
theorem d_Md_look_99 : decode b_Md_look 99 = .ok (.sipush 134, 3) := by decide +kernel
theorem d_Md_look_102 : decode b_Md_look 102 = .ok (.iload_n 3, 1) := by decide +kernel
theorem d_Md_look_103 : decode b_Md_look 103 = .ok (.imul, 1) := by decide +kernel
theorem d_Md_look_104 : decode b_Md_look 104 = .ok (.iload 4, 2) := by decide +kernel
theorem d_Md_look_106 : decode b_Md_look 106 = .ok (.iadd, 1) := by decide +kernel
theorem d_Md_look_107 : decode b_Md_look 107 = .ok (.iconst 0, 1) := by decide +kernel
theorem d_Md_look_108 : decode b_Md_look 108 = .ok (.bastore, 1) := by decide +kernel
theorem d_Md_look_109 : decode b_Md_look 109 = .ok (.iinc 4 1, 3) := by decide +kernel
theorem d_Md_look_112 : decode b_Md_look 112 = .ok (.goto (-25), 3) := by decide +kernel
theorem d_Md_look_115 : decode b_Md_look 115 = .ok (.aload_n 0, 1) := by decide +kernel
theorem d_Md_look_116 : decode b_Md_look 116 = .ok (.getfield 53, 3) := by decide +kernel
theorem d_Md_look_119 : decode b_Md_look 119 = .ok (.iload_n 3, 1) := by decide +kernel
theorem d_Md_look_120 : decode b_Md_look 120 = .ok (.aload_n 0, 1) := by decide +kernel
theorem d_Md_look_121 : decode b_Md_look 121 = .ok (.getfield 13, 3) := by decide +kernel
theorem d_Md_look_124 : decode b_Md_look 124 = .ok (.iload_n 3, 1) := by decide +kernel
theorem d_Md_look_125 : decode b_Md_look 125 = .ok (.iaload, 1) := by decide +kernel
theorem d_Md_look_126 : decode b_Md_look 126 = .ok (.bipush 10, 2) := by decide +kernel
theorem d_Md_look_128 : decode b_Md_look 128 = .ok (.if_icmp .eq 14, 3) := by decide +kernel
theorem d_Md_look_131 : decode b_Md_look 131 = .ok (.aload_n 0, 1) := by decide +kernel
theorem d_Md_look_132 : decode b_Md_look 132 = .ok (.getfield 13, 3) := by decide +kernel
theorem d_Md_look_135 : decode b_Md_look 135 = .ok (.iload_n 3, 1) := by decide +kernel
theorem d_Md_look_136 : decode b_Md_look 136 = .ok (.iaload, 1) := by decide +kernel
theorem d_Md_look_137 : decode b_Md_look 137 = .ok (.bipush 11, 2) := by decide +kernel
theorem d_Md_look_139 : decode b_Md_look 139 = .ok (.if_icmp .ne 11, 3) := by decide +kernel
theorem d_Md_look_142 : decode b_Md_look 142 = .ok (.aload_n 0, 1) := by decide +kernel
theorem d_Md_look_143 : decode b_Md_look 143 = .ok (.iload_n 3, 1) := by decide +kernel
theorem d_Md_look_144 : decode b_Md_look 144 = .ok (.invokevirtual 251, 3) := by decide +kernel
theorem d_Md_look_147 : decode b_Md_look 147 = .ok (.goto 4, 3) := by decide +kernel
theorem d_Md_look_150 : decode b_Md_look 150 = .ok (.iconst (-1), 1) := by decide +kernel
theorem d_Md_look_151 : decode b_Md_look 151 = .ok (.iastore, 1) := by decide +kernel
theorem d_Md_look_152 : decode b_Md_look 152 = .ok (.iinc 2 1, 3) := by decide +kernel
theorem d_Md_look_155 : decode b_Md_look 155 = .ok (.goto (-136), 3) := by decide +kernel
theorem d_Md_look_158 : decode b_Md_look 158 = .ok (.aload_n 0, 1) := by decide +kernel
theorem d_Md_look_159 : decode b_Md_look 159 = .ok (.invokevirtual 254, 3) := by decide +kernel
theorem d_Md_look_162 : decode b_Md_look 162 = .ok (.aload_n 0, 1) := by decide +kernel
theorem d_Md_look_163 : decode b_Md_look 163 = .ok (.invokevirtual 257, 3) := by decide +kernel
theorem d_Md_look_166 : decode b_Md_look 166 = .ok (.aload_n 0, 1) := by decide +kernel
theorem d_Md_look_167 : decode b_Md_look 167 = .ok (.iconst 0, 1) := by decide +kernel
theorem d_Md_look_168 : decode b_Md_look 168 = .ok (.putfield 232, 3) := by decide +kernel
theorem d_Md_look_171 : decode b_Md_look 171 = .ok (.aload_n 0, 1) := by decide +kernel
theorem d_Md_look_172 : decode b_Md_look 172 = .ok (.iconst 0, 1) := by decide +kernel
theorem d_Md_look_173 : decode b_Md_look 173 = .ok (.putfield 245, 3) := by decide +kernel
theorem d_Md_look_176 : decode b_Md_look 176 = .ok (.iconst 0, 1) := by decide +kernel
theorem d_Md_look_177 : decode b_Md_look 177 = .ok (.istore_n 2, 1) := by decide +kernel
theorem d_Md_look_178 : decode b_Md_look 178 = .ok (.iload_n 2, 1) := by decide +kernel
theorem d_Md_look_179 : decode b_Md_look 179 = .ok (.aload_n 0, 1) := by decide +kernel
theorem d_Md_look_180 : decode b_Md_look 180 = .ok (.getfield 142, 3) := by decide +kernel
theorem d_Md_look_183 : decode b_Md_look 183 = .ok (.if_icmp .ge 19, 3) := by decide +kernel
theorem d_Md_look_186 : decode b_Md_look 186 = .ok (.aload_n 0, 1) := by decide +kernel
theorem d_Md_look_187 : decode b_Md_look 187 = .ok (.aload_n 0, 1) := by decide +kernel
theorem d_Md_look_188 : decode b_Md_look 188 = .ok (.getfield 47, 3) := by decide +kernel
theorem d_Md_look_191 : decode b_Md_look 191 = .ok (.iload_n 2, 1) := by decide +kernel
theorem d_Md_look_192 : decode b_Md_look 192 = .ok (.iaload, 1) := by decide +kernel
theorem d_Md_look_193 : decode b_Md_look 193 = .ok (.invokevirtual 260, 3) := by decide +kernel
theorem d_Md_look_196 : decode b_Md_look 196 = .ok (.iinc 2 1, 3) := by decide +kernel
theorem d_Md_look_199 : decode b_Md_look 199 = .ok (.goto (-21), 3) := by decide +kernel
theorem d_Md_look_202 : decode b_Md_look 202 = .ok (.return_, 1) := by decide +kernel
theorem d_Md_check_0 : decode b_Md_check 0 = .ok (.aload_n 0, 1) := by decide +kernel
theorem d_Md_check_1 : decode b_Md_check 1 = .ok (.iload_n 1, 1) := by decide +kernel
theorem d_Md_check_2 : decode b_Md_check 2 = .ok (.invokevirtual 100, 3) := by decide +kernel
theorem d_Md_check_5 : decode b_Md_check 5 = .ok (.ifCond .ne 6, 3) := by decide +kernel
theorem d_Md_check_8 : decode b_Md_check 8 = .ok (.bipush (-2), 2) := by decide +kernel
theorem d_Md_check_10 : decode b_Md_check 10 = .ok (.ireturn, 1) := by decide +kernel
theorem d_Md_check_11 : decode b_Md_check 11 = .ok (.aload_n 0, 1) := by decide +kernel
theorem d_Md_check_12 : decode b_Md_check 12 = .ok (.iload_n 1, 1) := by decide +kernel
theorem d_Md_check_13 : decode b_Md_check 13 = .ok (.invokevirtual 263, 3) := by decide +kernel
theorem d_Md_check_16 : decode b_Md_check 16 = .ok (.aload_n 0, 1) := by decide +kernel
theorem d_Md_check_17 : decode b_Md_check 17 = .ok (.getfield 232, 3) := by decide +kernel
theorem d_Md_check_20 : decode b_Md_check 20 = .ok (.ireturn, 1) := by decide +kernel
theorem d_Md_fault_0 : decode b_Md_fault 0 = .ok (.aload_n 0, 1) := by decide +kernel
theorem d_Md_fault_1 : decode b_Md_fault 1 = .ok (.getfield 93, 3) := by decide +kernel
theorem d_Md_fault_4 : decode b_Md_fault 4 = .ok (.iconst (-1), 1) := by decide +kernel
theorem d_Md_fault_5 : decode b_Md_fault 5 = .ok (.if_icmp .eq 26, 3) := by decide +kernel
theorem d_Md_fault_8 : decode b_Md_fault 8 = .ok (.iload_n 1, 1) := by decide +kernel
theorem d_Md_fault_9 : decode b_Md_fault 9 = .ok (.iconst 0, 1) := by decide +kernel
theorem d_Md_fault_10 : decode b_Md_fault 10 = .ok (.aload_n 0, 1) := by decide +kernel
theorem d_Md_fault_11 : decode b_Md_fault 11 = .ok (.getfield 232, 3) := by decide +kernel
theorem d_Md_fault_14 : decode b_Md_fault 14 = .ok (.iconst 1, 1) := by decide +kernel
theorem d_Md_fault_15 : decode b_Md_fault 15 = .ok (.isub, 1) := by decide +kernel
theorem d_Md_fault_16 : decode b_Md_fault 16 = .ok (.invokestatic 96, 3) := by decide +kernel
theorem d_Md_fault_19 : decode b_Md_fault 19 = .ok (.ifCond .eq 12, 3) := by decide +kernel
theorem d_Md_fault_22 : decode b_Md_fault 22 = .ok (.iload_n 2, 1) := by decide +kernel
theorem d_Md_fault_23 : decode b_Md_fault 23 = .ok (.iconst 0, 1) := by decide +kernel
theorem d_Md_fault_24 : decode b_Md_fault 24 = .ok (.iconst 1, 1) := by decide +kernel
theorem d_Md_fault_25 : decode b_Md_fault 25 = .ok (.invokestatic 96, 3) := by decide +kernel
theorem d_Md_fault_28 : decode b_Md_fault 28 = .ok (.ifCond .ne 6, 3) := by decide +kernel
theorem d_Md_fault_31 : decode b_Md_fault 31 = .ok (.bipush (-2), 2) := by decide +kernel
theorem d_Md_fault_33 : decode b_Md_fault 33 = .ok (.ireturn, 1) := by decide +kernel
theorem d_Md_fault_34 : decode b_Md_fault 34 = .ok (.iload_n 2, 1) := by decide +kernel
theorem d_Md_fault_35 : decode b_Md_fault 35 = .ok (.ifCond .ne 12, 3) := by decide +kernel
theorem d_Md_fault_38 : decode b_Md_fault 38 = .ok (.aload_n 0, 1) := by decide +kernel
theorem d_Md_fault_39 : decode b_Md_fault 39 = .ok (.getfield 71, 3) := by decide +kernel
theorem d_Md_fault_42 : decode b_Md_fault 42 = .ok (.iload_n 1, 1) := by decide +kernel
theorem d_Md_fault_43 : decode b_Md_fault 43 = .ok (.iaload, 1) := by decide +kernel
theorem d_Md_fault_44 : decode b_Md_fault 44 = .ok (.goto 9, 3) := by decide +kernel
theorem d_Md_fault_47 : decode b_Md_fault 47 = .ok (.aload_n 0, 1) := by decide +kernel
theorem d_Md_fault_48 : decode b_Md_fault 48 = .ok (.getfield 74, 3) := by decide +kernel
theorem d_Md_fault_51 : decode b_Md_fault 51 = .ok (.iload_n 1, 1) := by decide +kernel
theorem d_Md_fault_52 : decode b_Md_fault 52 = .ok (.iaload, 1) := by decide +kernel
theorem d_Md_fault_53 : decode b_Md_fault 53 = .ok (.ireturn, 1) := by decide +kernel
theorem d_Md_notes_0 : decode b_Md_notes 0 = .ok (.aload_n 0, 1) := by decide +kernel
theorem d_Md_notes_1 : decode b_Md_notes 1 = .ok (.getfield 93, 3) := by decide +kernel
theorem d_Md_notes_4 : decode b_Md_notes 4 = .ok (.iconst (-1), 1) := by decide +kernel
theorem d_Md_notes_5 : decode b_Md_notes 5 = .ok (.if_icmp .ne 7, 3) := by decide +kernel
theorem d_Md_notes_8 : decode b_Md_notes 8 = .ok (.iconst 0, 1) := by decide +kernel
theorem d_Md_notes_9 : decode b_Md_notes 9 = .ok (.goto 7, 3) := by decide +kernel
theorem d_Md_notes_12 : decode b_Md_notes 12 = .ok (.aload_n 0, 1) := by decide +kernel
theorem d_Md_notes_13 : decode b_Md_notes 13 = .ok (.getfield 245, 3) := by decide +kernel
theorem d_Md_notes_16 : decode b_Md_notes 16 = .ok (.ireturn, 1) := by decide +kernel
theorem d_Md_note_0 : decode b_Md_note 0 = .ok (.aload_n 0, 1) := by decide +kernel
theorem d_Md_note_1 : decode b_Md_note 1 = .ok (.getfield 93, 3) := by decide +kernel
theorem d_Md_note_4 : decode b_Md_note 4 = .ok (.iconst (-1), 1) := by decide +kernel
theorem d_Md_note_5 : decode b_Md_note 5 = .ok (.if_icmp .eq 17, 3) := by decide +kernel
theorem d_Md_note_8 : decode b_Md_note 8 = .ok (.iload_n 1, 1) := by decide +kernel
theorem d_Md_note_9 : decode b_Md_note 9 = .ok (.iconst 0, 1) := by decide +kernel
theorem d_Md_note_10 : decode b_Md_note 10 = .ok (.aload_n 0, 1) := by decide +kernel
theorem d_Md_note_11 : decode b_Md_note 11 = .ok (.getfield 245, 3) := by decide +kernel
theorem d_Md_note_14 : decode b_Md_note 14 = .ok (.iconst 1, 1) := by decide +kernel
theorem d_Md_note_15 : decode b_Md_note 15 = .ok (.isub, 1) := by decide +kernel
theorem d_Md_note_16 : decode b_Md_note 16 = .ok (.invokestatic 96, 3) := by decide +kernel
theorem d_Md_note_19 : decode b_Md_note 19 = .ok (.ifCond .ne 8, 3) := by decide +kernel
theorem d_Md_note_22 : decode b_Md_note 22 = .ok (.bipush (-2), 2) := by decide +kernel
theorem d_Md_note_24 : decode b_Md_note 24 = .ok (.goto 9, 3) := by decide +kernel
theorem d_Md_note_27 : decode b_Md_note 27 = .ok (.aload_n 0, 1) := by decide +kernel
theorem d_Md_note_28 : decode b_Md_note 28 = .ok (.getfield 77, 3) := by decide +kernel
theorem d_Md_note_31 : decode b_Md_note 31 = .ok (.iload_n 1, 1) := by decide +kernel
theorem d_Md_note_32 : decode b_Md_note 32 = .ok (.iaload, 1) := by decide +kernel
theorem d_Md_note_33 : decode b_Md_note 33 = .ok (.ireturn, 1) := by decide +kernel
theorem d_Md_reached_0 : decode b_Md_reached 0 = .ok (.aload_n 0, 1) := by decide +kernel
theorem d_Md_reached_1 : decode b_Md_reached 1 = .ok (.iload_n 1, 1) := by decide +kernel
theorem d_Md_reached_2 : decode b_Md_reached 2 = .ok (.invokevirtual 266, 3) := by decide +kernel
theorem d_Md_reached_5 : decode b_Md_reached 5 = .ok (.ifCond .eq 16, 3) := by decide +kernel
theorem d_Md_reached_8 : decode b_Md_reached 8 = .ok (.aload_n 0, 1) := by decide +kernel
theorem d_Md_reached_9 : decode b_Md_reached 9 = .ok (.getfield 56, 3) := by decide +kernel
theorem d_Md_reached_12 : decode b_Md_reached 12 = .ok (.iload_n 1, 1) := by decide +kernel
theorem d_Md_reached_13 : decode b_Md_reached 13 = .ok (.baload, 1) := by decide +kernel
theorem d_Md_reached_14 : decode b_Md_reached 14 = .ok (.ifCond .eq 7, 3) := by decide +kernel
theorem d_Md_reached_17 : decode b_Md_reached 17 = .ok (.iconst 1, 1) := by decide +kernel
theorem d_Md_reached_18 : decode b_Md_reached 18 = .ok (.goto 4, 3) := by decide +kernel
theorem d_Md_reached_21 : decode b_Md_reached 21 = .ok (.iconst 0, 1) := by decide +kernel
theorem d_Md_reached_22 : decode b_Md_reached 22 = .ok (.ireturn, 1) := by decide +kernel
theorem d_Md_completes_0 : decode b_Md_completes 0 = .ok (.aload_n 0, 1) := by decide +kernel
theorem d_Md_completes_1 : decode b_Md_completes 1 = .ok (.iload_n 1, 1) := by decide +kernel
theorem d_Md_completes_2 : decode b_Md_completes 2 = .ok (.invokevirtual 266, 3) := by decide +kernel
theorem d_Md_completes_5 : decode b_Md_completes 5 = .ok (.ifCond .eq 16, 3) := by decide +kernel
theorem d_Md_completes_8 : decode b_Md_completes 8 = .ok (.aload_n 0, 1) := by decide +kernel
theorem d_Md_completes_9 : decode b_Md_completes 9 = .ok (.getfield 59, 3) := by decide +kernel
theorem d_Md_completes_12 : decode b_Md_completes 12 = .ok (.iload_n 1, 1) := by decide +kernel
theorem d_Md_completes_13 : decode b_Md_completes 13 = .ok (.baload, 1) := by decide +kernel
theorem d_Md_completes_14 : decode b_Md_completes 14 = .ok (.ifCond .eq 7, 3) := by decide +kernel
theorem d_Md_completes_17 : decode b_Md_completes 17 = .ok (.iconst 1, 1) := by decide +kernel
theorem d_Md_completes_18 : decode b_Md_completes 18 = .ok (.goto 4, 3) := by decide +kernel
theorem d_Md_completes_21 : decode b_Md_completes 21 = .ok (.iconst 0, 1) := by decide +kernel
theorem d_Md_completes_22 : decode b_Md_completes 22 = .ok (.ireturn, 1) := by decide +kernel
theorem d_Md_can_0 : decode b_Md_can 0 = .ok (.aload_n 0, 1) := by decide +kernel
theorem d_Md_can_1 : decode b_Md_can 1 = .ok (.iload_n 1, 1) := by decide +kernel
theorem d_Md_can_2 : decode b_Md_can 2 = .ok (.invokevirtual 100, 3) := by decide +kernel
theorem d_Md_can_5 : decode b_Md_can 5 = .ok (.ifCond .eq 11, 3) := by decide +kernel
theorem d_Md_can_8 : decode b_Md_can 8 = .ok (.aload_n 0, 1) := by decide +kernel
theorem d_Md_can_9 : decode b_Md_can 9 = .ok (.iload_n 2, 1) := by decide +kernel
theorem d_Md_can_10 : decode b_Md_can 10 = .ok (.invokevirtual 104, 3) := by decide +kernel
theorem d_Md_can_13 : decode b_Md_can 13 = .ok (.ifCond .ne 6, 3) := by decide +kernel
theorem d_Md_can_16 : decode b_Md_can 16 = .ok (.bipush (-2), 2) := by decide +kernel
theorem d_Md_can_18 : decode b_Md_can 18 = .ok (.ireturn, 1) := by decide +kernel
theorem d_Md_can_19 : decode b_Md_can 19 = .ok (.aload_n 0, 1) := by decide +kernel
theorem d_Md_can_20 : decode b_Md_can 20 = .ok (.iload_n 1, 1) := by decide +kernel
theorem d_Md_can_21 : decode b_Md_can 21 = .ok (.invokevirtual 266, 3) := by decide +kernel
theorem d_Md_can_24 : decode b_Md_can 24 = .ok (.ifCond .eq 21, 3) := by decide +kernel
theorem d_Md_can_27 : decode b_Md_can 27 = .ok (.aload_n 0, 1) := by decide +kernel
theorem d_Md_can_28 : decode b_Md_can 28 = .ok (.getfield 62, 3) := by decide +kernel
theorem d_Md_can_31 : decode b_Md_can 31 = .ok (.bipush 12, 2) := by decide +kernel
theorem d_Md_can_33 : decode b_Md_can 33 = .ok (.iload_n 1, 1) := by decide +kernel
theorem d_Md_can_34 : decode b_Md_can 34 = .ok (.imul, 1) := by decide +kernel
theorem d_Md_can_35 : decode b_Md_can 35 = .ok (.iload_n 2, 1) := by decide +kernel
theorem d_Md_can_36 : decode b_Md_can 36 = .ok (.iadd, 1) := by decide +kernel
theorem d_Md_can_37 : decode b_Md_can 37 = .ok (.baload, 1) := by decide +kernel
theorem d_Md_can_38 : decode b_Md_can 38 = .ok (.ifCond .eq 7, 3) := by decide +kernel
theorem d_Md_can_41 : decode b_Md_can 41 = .ok (.iconst 1, 1) := by decide +kernel
theorem d_Md_can_42 : decode b_Md_can 42 = .ok (.goto 4, 3) := by decide +kernel
theorem d_Md_can_45 : decode b_Md_can 45 = .ok (.iconst 0, 1) := by decide +kernel
theorem d_Md_can_46 : decode b_Md_can 46 = .ok (.ireturn, 1) := by decide +kernel
theorem d_Md_target_0 : decode b_Md_target 0 = .ok (.aload_n 0, 1) := by decide +kernel
theorem d_Md_target_1 : decode b_Md_target 1 = .ok (.iload_n 1, 1) := by decide +kernel
theorem d_Md_target_2 : decode b_Md_target 2 = .ok (.invokevirtual 100, 3) := by decide +kernel
theorem d_Md_target_5 : decode b_Md_target 5 = .ok (.ifCond .ne 6, 3) := by decide +kernel
theorem d_Md_target_8 : decode b_Md_target 8 = .ok (.bipush (-2), 2) := by decide +kernel
theorem d_Md_target_10 : decode b_Md_target 10 = .ok (.ireturn, 1) := by decide +kernel
theorem d_Md_target_11 : decode b_Md_target 11 = .ok (.aload_n 0, 1) := by decide +kernel
theorem d_Md_target_12 : decode b_Md_target 12 = .ok (.iload_n 1, 1) := by decide +kernel
theorem d_Md_target_13 : decode b_Md_target 13 = .ok (.invokevirtual 266, 3) := by decide +kernel
theorem d_Md_target_16 : decode b_Md_target 16 = .ok (.ifCond .eq 12, 3) := by decide +kernel
theorem d_Md_target_19 : decode b_Md_target 19 = .ok (.aload_n 0, 1) := by decide +kernel
theorem d_Md_target_20 : decode b_Md_target 20 = .ok (.getfield 53, 3) := by decide +kernel
theorem d_Md_target_23 : decode b_Md_target 23 = .ok (.iload_n 1, 1) := by decide +kernel
theorem d_Md_target_24 : decode b_Md_target 24 = .ok (.iaload, 1) := by decide +kernel
theorem d_Md_target_25 : decode b_Md_target 25 = .ok (.goto 4, 3) := by decide +kernel
theorem d_Md_target_28 : decode b_Md_target 28 = .ok (.iconst (-1), 1) := by decide +kernel
theorem d_Md_target_29 : decode b_Md_target 29 = .ok (.ireturn, 1) := by decide +kernel
theorem d_Md_walked_0 : decode b_Md_walked 0 = .ok (.aload_n 0, 1) := by decide +kernel
theorem d_Md_walked_1 : decode b_Md_walked 1 = .ok (.iload_n 1, 1) := by decide +kernel
theorem d_Md_walked_2 : decode b_Md_walked 2 = .ok (.invokevirtual 266, 3) := by decide +kernel
theorem d_Md_walked_5 : decode b_Md_walked 5 = .ok (.ifCond .eq 16, 3) := by decide +kernel
theorem d_Md_walked_8 : decode b_Md_walked 8 = .ok (.aload_n 0, 1) := by decide +kernel
theorem d_Md_walked_9 : decode b_Md_walked 9 = .ok (.getfield 65, 3) := by decide +kernel
theorem d_Md_walked_12 : decode b_Md_walked 12 = .ok (.iload_n 1, 1) := by decide +kernel
theorem d_Md_walked_13 : decode b_Md_walked 13 = .ok (.baload, 1) := by decide +kernel
theorem d_Md_walked_14 : decode b_Md_walked 14 = .ok (.ifCond .eq 7, 3) := by decide +kernel
theorem d_Md_walked_17 : decode b_Md_walked 17 = .ok (.iconst 1, 1) := by decide +kernel
theorem d_Md_walked_18 : decode b_Md_walked 18 = .ok (.goto 4, 3) := by decide +kernel
theorem d_Md_walked_21 : decode b_Md_walked 21 = .ok (.iconst 0, 1) := by decide +kernel
theorem d_Md_walked_22 : decode b_Md_walked 22 = .ok (.ireturn, 1) := by decide +kernel
theorem d_Md_ends_0 : decode b_Md_ends 0 = .ok (.aload_n 0, 1) := by decide +kernel
theorem d_Md_ends_1 : decode b_Md_ends 1 = .ok (.iload_n 1, 1) := by decide +kernel
theorem d_Md_ends_2 : decode b_Md_ends 2 = .ok (.invokevirtual 100, 3) := by decide +kernel
theorem d_Md_ends_5 : decode b_Md_ends 5 = .ok (.ifCond .eq 16, 3) := by decide +kernel
theorem d_Md_ends_8 : decode b_Md_ends 8 = .ok (.iload_n 2, 1) := by decide +kernel
theorem d_Md_ends_9 : decode b_Md_ends 9 = .ok (.iconst 0, 1) := by decide +kernel
theorem d_Md_ends_10 : decode b_Md_ends 10 = .ok (.iconst 4, 1) := by decide +kernel
theorem d_Md_ends_11 : decode b_Md_ends 11 = .ok (.invokestatic 96, 3) := by decide +kernel
theorem d_Md_ends_14 : decode b_Md_ends 14 = .ok (.ifCond .eq 7, 3) := by decide +kernel
theorem d_Md_ends_17 : decode b_Md_ends 17 = .ok (.iconst 1, 1) := by decide +kernel
theorem d_Md_ends_18 : decode b_Md_ends 18 = .ok (.goto 4, 3) := by decide +kernel
theorem d_Md_ends_21 : decode b_Md_ends 21 = .ok (.iconst 0, 1) := by decide +kernel
theorem d_Md_ends_22 : decode b_Md_ends 22 = .ok (.istore 4, 2) := by decide +kernel
theorem d_Md_ends_24 : decode b_Md_ends 24 = .ok (.iload 4, 2) := by decide +kernel
theorem d_Md_ends_26 : decode b_Md_ends 26 = .ok (.ifCond .eq 43, 3) := by decide +kernel
theorem d_Md_ends_29 : decode b_Md_ends 29 = .ok (.iload_n 2, 1) := by decide +kernel
theorem d_Md_ends_30 : decode b_Md_ends 30 = .ok (.iconst 2, 1) := by decide +kernel
theorem d_Md_ends_31 : decode b_Md_ends 31 = .ok (.if_icmp .ge 10, 3) := by decide +kernel
theorem d_Md_ends_34 : decode b_Md_ends 34 = .ok (.iload_n 3, 1) := by decide +kernel
theorem d_Md_ends_35 : decode b_Md_ends 35 = .ok (.ifCond .ne 34, 3) := by decide +kernel
theorem d_Md_ends_38 : decode b_Md_ends 38 = .ok (.goto 27, 3) := by decide +kernel
theorem d_Md_ends_41 : decode b_Md_ends 41 = .ok (.iload_n 2, 1) := by decide +kernel
theorem d_Md_ends_42 : decode b_Md_ends 42 = .ok (.iconst 4, 1) := by decide +kernel
theorem d_Md_ends_43 : decode b_Md_ends 43 = .ok (.if_icmp .ge 14, 3) := by decide +kernel
theorem d_Md_ends_46 : decode b_Md_ends 46 = .ok (.aload_n 0, 1) := by decide +kernel
theorem d_Md_ends_47 : decode b_Md_ends 47 = .ok (.iload_n 3, 1) := by decide +kernel
theorem d_Md_ends_48 : decode b_Md_ends 48 = .ok (.invokevirtual 100, 3) := by decide +kernel
theorem d_Md_ends_51 : decode b_Md_ends 51 = .ok (.ifCond .eq 18, 3) := by decide +kernel
theorem d_Md_ends_54 : decode b_Md_ends 54 = .ok (.goto 11, 3) := by decide +kernel
theorem d_Md_ends_57 : decode b_Md_ends 57 = .ok (.aload_n 0, 1) := by decide +kernel
theorem d_Md_ends_58 : decode b_Md_ends 58 = .ok (.iload_n 3, 1) := by decide +kernel
theorem d_Md_ends_59 : decode b_Md_ends 59 = .ok (.invokevirtual 104, 3) := by decide +kernel
theorem d_Md_ends_62 : decode b_Md_ends 62 = .ok (.ifCond .eq 7, 3) := by decide +kernel
theorem d_Md_ends_65 : decode b_Md_ends 65 = .ok (.iconst 1, 1) := by decide +kernel
theorem d_Md_ends_66 : decode b_Md_ends 66 = .ok (.goto 4, 3) := by decide +kernel
theorem d_Md_ends_69 : decode b_Md_ends 69 = .ok (.iconst 0, 1) := by decide +kernel
theorem d_Md_ends_70 : decode b_Md_ends 70 = .ok (.istore 4, 2) := by decide +kernel
theorem d_Md_ends_72 : decode b_Md_ends 72 = .ok (.iload 4, 2) := by decide +kernel
theorem d_Md_ends_74 : decode b_Md_ends 74 = .ok (.ifCond .ne 6, 3) := by decide +kernel
theorem d_Md_ends_77 : decode b_Md_ends 77 = .ok (.bipush (-2), 2) := by decide +kernel
theorem d_Md_ends_79 : decode b_Md_ends 79 = .ok (.ireturn, 1) := by decide +kernel
theorem d_Md_ends_80 : decode b_Md_ends 80 = .ok (.iload_n 2, 1) := by decide +kernel
theorem d_Md_ends_81 : decode b_Md_ends 81 = .ok (.ifCond .ne 7, 3) := by decide +kernel
theorem d_Md_ends_84 : decode b_Md_ends 84 = .ok (.iconst 0, 1) := by decide +kernel
theorem d_Md_ends_85 : decode b_Md_ends 85 = .ok (.goto 35, 3) := by decide +kernel
theorem d_Md_ends_88 : decode b_Md_ends 88 = .ok (.iload_n 2, 1) := by decide +kernel
theorem d_Md_ends_89 : decode b_Md_ends 89 = .ok (.iconst 1, 1) := by decide +kernel
theorem d_Md_ends_90 : decode b_Md_ends 90 = .ok (.if_icmp .ne 7, 3) := by decide +kernel
theorem d_Md_ends_93 : decode b_Md_ends 93 = .ok (.iconst 1, 1) := by decide +kernel
theorem d_Md_ends_94 : decode b_Md_ends 94 = .ok (.goto 26, 3) := by decide +kernel
theorem d_Md_ends_97 : decode b_Md_ends 97 = .ok (.iload_n 2, 1) := by decide +kernel
theorem d_Md_ends_98 : decode b_Md_ends 98 = .ok (.iconst 2, 1) := by decide +kernel
theorem d_Md_ends_99 : decode b_Md_ends 99 = .ok (.if_icmp .ne 7, 3) := by decide +kernel
theorem d_Md_ends_102 : decode b_Md_ends 102 = .ok (.iconst 2, 1) := by decide +kernel
theorem d_Md_ends_103 : decode b_Md_ends 103 = .ok (.goto 15, 3) := by decide +kernel
theorem d_Md_ends_106 : decode b_Md_ends 106 = .ok (.iload_n 2, 1) := by decide +kernel
theorem d_Md_ends_107 : decode b_Md_ends 107 = .ok (.iconst 3, 1) := by decide +kernel
theorem d_Md_ends_108 : decode b_Md_ends 108 = .ok (.if_icmp .ne 8, 3) := by decide +kernel
theorem d_Md_ends_111 : decode b_Md_ends 111 = .ok (.bipush 62, 2) := by decide +kernel
theorem d_Md_ends_113 : decode b_Md_ends 113 = .ok (.goto 5, 3) := by decide +kernel
theorem d_Md_ends_116 : decode b_Md_ends 116 = .ok (.bipush 122, 2) := by decide +kernel
theorem d_Md_ends_118 : decode b_Md_ends 118 = .ok (.iload_n 3, 1) := by decide +kernel
theorem d_Md_ends_119 : decode b_Md_ends 119 = .ok (.iadd, 1) := by decide +kernel
theorem d_Md_ends_120 : decode b_Md_ends 120 = .ok (.istore 5, 2) := by decide +kernel
theorem d_Md_ends_122 : decode b_Md_ends 122 = .ok (.aload_n 0, 1) := by decide +kernel
theorem d_Md_ends_123 : decode b_Md_ends 123 = .ok (.iload_n 1, 1) := by decide +kernel
theorem d_Md_ends_124 : decode b_Md_ends 124 = .ok (.invokevirtual 266, 3) := by decide +kernel
theorem d_Md_ends_127 : decode b_Md_ends 127 = .ok (.ifCond .eq 17, 3) := by decide +kernel
theorem d_Md_ends_130 : decode b_Md_ends 130 = .ok (.aload_n 0, 1) := by decide +kernel
theorem d_Md_ends_131 : decode b_Md_ends 131 = .ok (.iload_n 1, 1) := by decide +kernel
theorem d_Md_ends_132 : decode b_Md_ends 132 = .ok (.iload 5, 2) := by decide +kernel
theorem d_Md_ends_134 : decode b_Md_ends 134 = .ok (.invokevirtual 195, 3) := by decide +kernel
theorem d_Md_ends_137 : decode b_Md_ends 137 = .ok (.ifCond .eq 7, 3) := by decide +kernel
theorem d_Md_ends_140 : decode b_Md_ends 140 = .ok (.iconst 1, 1) := by decide +kernel
theorem d_Md_ends_141 : decode b_Md_ends 141 = .ok (.goto 4, 3) := by decide +kernel
theorem d_Md_ends_144 : decode b_Md_ends 144 = .ok (.iconst 0, 1) := by decide +kernel
theorem d_Md_ends_145 : decode b_Md_ends 145 = .ok (.ireturn, 1) := by decide +kernel
theorem d_Md_member_0 : decode b_Md_member 0 = .ok (.aload_n 0, 1) := by decide +kernel
theorem d_Md_member_1 : decode b_Md_member 1 = .ok (.iload_n 1, 1) := by decide +kernel
theorem d_Md_member_2 : decode b_Md_member 2 = .ok (.invokevirtual 100, 3) := by decide +kernel
theorem d_Md_member_5 : decode b_Md_member 5 = .ok (.ifCond .eq 12, 3) := by decide +kernel
theorem d_Md_member_8 : decode b_Md_member 8 = .ok (.iload_n 2, 1) := by decide +kernel
theorem d_Md_member_9 : decode b_Md_member 9 = .ok (.iconst 0, 1) := by decide +kernel
theorem d_Md_member_10 : decode b_Md_member 10 = .ok (.iconst 3, 1) := by decide +kernel
theorem d_Md_member_11 : decode b_Md_member 11 = .ok (.invokestatic 96, 3) := by decide +kernel
theorem d_Md_member_14 : decode b_Md_member 14 = .ok (.ifCond .ne 6, 3) := by decide +kernel
theorem d_Md_member_17 : decode b_Md_member 17 = .ok (.bipush (-2), 2) := by decide +kernel
theorem d_Md_member_19 : decode b_Md_member 19 = .ok (.ireturn, 1) := by decide +kernel
theorem d_Md_member_20 : decode b_Md_member 20 = .ok (.aload_n 0, 1) := by decide +kernel
theorem d_Md_member_21 : decode b_Md_member 21 = .ok (.iload_n 1, 1) := by decide +kernel
theorem d_Md_member_22 : decode b_Md_member 22 = .ok (.invokevirtual 263, 3) := by decide +kernel
theorem d_Md_member_25 : decode b_Md_member 25 = .ok (.aload_n 0, 1) := by decide +kernel
theorem d_Md_member_26 : decode b_Md_member 26 = .ok (.getfield 232, 3) := by decide +kernel
theorem d_Md_member_29 : decode b_Md_member 29 = .ok (.ifCond .le 10, 3) := by decide +kernel
theorem d_Md_member_32 : decode b_Md_member 32 = .ok (.aload_n 0, 1) := by decide +kernel
theorem d_Md_member_33 : decode b_Md_member 33 = .ok (.getfield 71, 3) := by decide +kernel
theorem d_Md_member_36 : decode b_Md_member 36 = .ok (.iconst 0, 1) := by decide +kernel
theorem d_Md_member_37 : decode b_Md_member 37 = .ok (.iaload, 1) := by decide +kernel
theorem d_Md_member_38 : decode b_Md_member 38 = .ok (.ireturn, 1) := by decide +kernel
theorem d_Md_member_39 : decode b_Md_member 39 = .ok (.iconst 0, 1) := by decide +kernel
theorem d_Md_member_40 : decode b_Md_member 40 = .ok (.istore_n 3, 1) := by decide +kernel
theorem d_Md_member_41 : decode b_Md_member 41 = .ok (.iconst 0, 1) := by decide +kernel
theorem d_Md_member_42 : decode b_Md_member 42 = .ok (.istore 4, 2) := by decide +kernel
theorem d_Md_member_44 : decode b_Md_member 44 = .ok (.iconst 0, 1) := by decide +kernel
theorem d_Md_member_45 : decode b_Md_member 45 = .ok (.istore 5, 2) := by decide +kernel
theorem d_Md_member_47 : decode b_Md_member 47 = .ok (.iload 5, 2) := by decide +kernel
theorem d_Md_member_49 : decode b_Md_member 49 = .ok (.aload_n 0, 1) := by decide +kernel
theorem d_Md_member_50 : decode b_Md_member 50 = .ok (.getfield 142, 3) := by decide +kernel
theorem d_Md_member_53 : decode b_Md_member 53 = .ok (.if_icmp .ge 94, 3) := by decide +kernel
theorem d_Md_member_56 : decode b_Md_member 56 = .ok (.iload_n 3, 1) := by decide +kernel
theorem d_Md_member_57 : decode b_Md_member 57 = .ok (.ifCond .ne 35, 3) := by decide +kernel
theorem d_Md_member_60 : decode b_Md_member 60 = .ok (.aload_n 0, 1) := by decide +kernel
theorem d_Md_member_61 : decode b_Md_member 61 = .ok (.getfield 13, 3) := by decide +kernel
theorem d_Md_member_64 : decode b_Md_member 64 = .ok (.aload_n 0, 1) := by decide +kernel
theorem d_Md_member_65 : decode b_Md_member 65 = .ok (.getfield 47, 3) := by decide +kernel
theorem d_Md_member_68 : decode b_Md_member 68 = .ok (.iload 5, 2) := by decide +kernel
theorem d_Md_member_70 : decode b_Md_member 70 = .ok (.iaload, 1) := by decide +kernel
theorem d_Md_member_71 : decode b_Md_member 71 = .ok (.iaload, 1) := by decide +kernel
theorem d_Md_member_72 : decode b_Md_member 72 = .ok (.iconst 3, 1) := by decide +kernel
theorem d_Md_member_73 : decode b_Md_member 73 = .ok (.if_icmp .ne 23, 3) := by decide +kernel
theorem d_Md_member_76 : decode b_Md_member 76 = .ok (.aload_n 0, 1) := by decide +kernel
theorem d_Md_member_77 : decode b_Md_member 77 = .ok (.getfield 16, 3) := by decide +kernel
theorem d_Md_member_80 : decode b_Md_member 80 = .ok (.aload_n 0, 1) := by decide +kernel
theorem d_Md_member_81 : decode b_Md_member 81 = .ok (.getfield 47, 3) := by decide +kernel
theorem d_Md_member_84 : decode b_Md_member 84 = .ok (.iload 5, 2) := by decide +kernel
theorem d_Md_member_86 : decode b_Md_member 86 = .ok (.iaload, 1) := by decide +kernel
theorem d_Md_member_87 : decode b_Md_member 87 = .ok (.iaload, 1) := by decide +kernel
theorem d_Md_member_88 : decode b_Md_member 88 = .ok (.iconst 1, 1) := by decide +kernel
theorem d_Md_member_89 : decode b_Md_member 89 = .ok (.if_icmp .ne 7, 3) := by decide +kernel
theorem d_Md_member_92 : decode b_Md_member 92 = .ok (.iconst 1, 1) := by decide +kernel
theorem d_Md_member_93 : decode b_Md_member 93 = .ok (.goto 4, 3) := by decide +kernel
theorem d_Md_member_96 : decode b_Md_member 96 = .ok (.iconst 0, 1) := by decide +kernel
theorem d_Md_member_97 : decode b_Md_member 97 = .ok (.istore_n 3, 1) := by decide +kernel
theorem d_Md_member_98 : decode b_Md_member 98 = .ok (.iload 4, 2) := by decide +kernel
theorem d_Md_member_100 : decode b_Md_member 100 = .ok (.ifCond .ne 34, 3) := by decide +kernel
theorem d_Md_member_103 : decode b_Md_member 103 = .ok (.aload_n 0, 1) := by decide +kernel
theorem d_Md_member_104 : decode b_Md_member 104 = .ok (.getfield 13, 3) := by decide +kernel
theorem d_Md_member_107 : decode b_Md_member 107 = .ok (.aload_n 0, 1) := by decide +kernel
theorem d_Md_member_108 : decode b_Md_member 108 = .ok (.getfield 47, 3) := by decide +kernel
theorem d_Md_member_111 : decode b_Md_member 111 = .ok (.iload 5, 2) := by decide +kernel
theorem d_Md_member_113 : decode b_Md_member 113 = .ok (.iaload, 1) := by decide +kernel
theorem d_Md_member_114 : decode b_Md_member 114 = .ok (.iaload, 1) := by decide +kernel
theorem d_Md_member_115 : decode b_Md_member 115 = .ok (.iconst 3, 1) := by decide +kernel
theorem d_Md_member_116 : decode b_Md_member 116 = .ok (.if_icmp .ne 22, 3) := by decide +kernel
theorem d_Md_member_119 : decode b_Md_member 119 = .ok (.aload_n 0, 1) := by decide +kernel
theorem d_Md_member_120 : decode b_Md_member 120 = .ok (.getfield 16, 3) := by decide +kernel
theorem d_Md_member_123 : decode b_Md_member 123 = .ok (.aload_n 0, 1) := by decide +kernel
theorem d_Md_member_124 : decode b_Md_member 124 = .ok (.getfield 47, 3) := by decide +kernel
theorem d_Md_member_127 : decode b_Md_member 127 = .ok (.iload 5, 2) := by decide +kernel
theorem d_Md_member_129 : decode b_Md_member 129 = .ok (.iaload, 1) := by decide +kernel
theorem d_Md_member_130 : decode b_Md_member 130 = .ok (.iaload, 1) := by decide +kernel
theorem d_Md_member_131 : decode b_Md_member 131 = .ok (.ifCond .ne 7, 3) := by decide +kernel
theorem d_Md_member_134 : decode b_Md_member 134 = .ok (.iconst 1, 1) := by decide +kernel
theorem d_Md_member_135 : decode b_Md_member 135 = .ok (.goto 4, 3) := by decide +kernel
theorem d_Md_member_138 : decode b_Md_member 138 = .ok (.iconst 0, 1) := by decide +kernel
theorem d_Md_member_139 : decode b_Md_member 139 = .ok (.istore 4, 2) := by decide +kernel
theorem d_Md_member_141 : decode b_Md_member 141 = .ok (.iinc 5 1, 3) := by decide +kernel
theorem d_Md_member_144 : decode b_Md_member 144 = .ok (.goto (-97), 3) := by decide +kernel
theorem d_Md_member_147 : decode b_Md_member 147 = .ok (.aload_n 0, 1) := by decide +kernel
theorem d_Md_member_148 : decode b_Md_member 148 = .ok (.getfield 59, 3) := by decide +kernel
theorem d_Md_member_151 : decode b_Md_member 151 = .ok (.aload_n 0, 1) := by decide +kernel
theorem d_Md_member_152 : decode b_Md_member 152 = .ok (.getfield 93, 3) := by decide +kernel
theorem d_Md_member_155 : decode b_Md_member 155 = .ok (.baload, 1) := by decide +kernel
theorem d_Md_member_156 : decode b_Md_member 156 = .ok (.istore 5, 2) := by decide +kernel
theorem d_Md_member_158 : decode b_Md_member 158 = .ok (.iload_n 2, 1) := by decide +kernel
theorem d_Md_member_159 : decode b_Md_member 159 = .ok (.tableswitch 84 0 2 #[25, 36, 58], 25) := by decide +kernel
theorem d_Md_member_184 : decode b_Md_member 184 = .ok (.iload_n 3, 1) := by decide +kernel
theorem d_Md_member_185 : decode b_Md_member 185 = .ok (.ifCond .eq 8, 3) := by decide +kernel
theorem d_Md_member_188 : decode b_Md_member 188 = .ok (.bipush 6, 2) := by decide +kernel
theorem d_Md_member_190 : decode b_Md_member 190 = .ok (.goto 4, 3) := by decide +kernel
theorem d_Md_member_193 : decode b_Md_member 193 = .ok (.iconst 0, 1) := by decide +kernel
theorem d_Md_member_194 : decode b_Md_member 194 = .ok (.ireturn, 1) := by decide +kernel
theorem d_Md_member_195 : decode b_Md_member 195 = .ok (.iload 4, 2) := by decide +kernel
theorem d_Md_member_197 : decode b_Md_member 197 = .ok (.ifCond .eq 8, 3) := by decide +kernel
theorem d_Md_member_200 : decode b_Md_member 200 = .ok (.bipush 6, 2) := by decide +kernel
theorem d_Md_member_202 : decode b_Md_member 202 = .ok (.goto 14, 3) := by decide +kernel
theorem d_Md_member_205 : decode b_Md_member 205 = .ok (.iload 5, 2) := by decide +kernel
theorem d_Md_member_207 : decode b_Md_member 207 = .ok (.ifCond .eq 8, 3) := by decide +kernel
theorem d_Md_member_210 : decode b_Md_member 210 = .ok (.bipush 7, 2) := by decide +kernel
theorem d_Md_member_212 : decode b_Md_member 212 = .ok (.goto 4, 3) := by decide +kernel
theorem d_Md_member_215 : decode b_Md_member 215 = .ok (.iconst 0, 1) := by decide +kernel
theorem d_Md_member_216 : decode b_Md_member 216 = .ok (.ireturn, 1) := by decide +kernel
theorem d_Md_member_217 : decode b_Md_member 217 = .ok (.iload_n 3, 1) := by decide +kernel
theorem d_Md_member_218 : decode b_Md_member 218 = .ok (.ifCond .ne 8, 3) := by decide +kernel
theorem d_Md_member_221 : decode b_Md_member 221 = .ok (.iload 4, 2) := by decide +kernel
theorem d_Md_member_223 : decode b_Md_member 223 = .ok (.ifCond .eq 8, 3) := by decide +kernel
theorem d_Md_member_226 : decode b_Md_member 226 = .ok (.bipush 6, 2) := by decide +kernel
theorem d_Md_member_228 : decode b_Md_member 228 = .ok (.goto 14, 3) := by decide +kernel
theorem d_Md_member_231 : decode b_Md_member 231 = .ok (.iload 5, 2) := by decide +kernel
theorem d_Md_member_233 : decode b_Md_member 233 = .ok (.ifCond .eq 7, 3) := by decide +kernel
theorem d_Md_member_236 : decode b_Md_member 236 = .ok (.iconst 0, 1) := by decide +kernel
theorem d_Md_member_237 : decode b_Md_member 237 = .ok (.goto 5, 3) := by decide +kernel
theorem d_Md_member_240 : decode b_Md_member 240 = .ok (.bipush 8, 2) := by decide +kernel
theorem d_Md_member_242 : decode b_Md_member 242 = .ok (.ireturn, 1) := by decide +kernel
theorem d_Md_member_243 : decode b_Md_member 243 = .ok (.iload_n 3, 1) := by decide +kernel
theorem d_Md_member_244 : decode b_Md_member 244 = .ok (.ifCond .eq 18, 3) := by decide +kernel
theorem d_Md_member_247 : decode b_Md_member 247 = .ok (.iload 4, 2) := by decide +kernel
theorem d_Md_member_249 : decode b_Md_member 249 = .ok (.ifCond .ne 8, 3) := by decide +kernel
theorem d_Md_member_252 : decode b_Md_member 252 = .ok (.iload 5, 2) := by decide +kernel
theorem d_Md_member_254 : decode b_Md_member 254 = .ok (.ifCond .eq 8, 3) := by decide +kernel
theorem d_Md_member_257 : decode b_Md_member 257 = .ok (.bipush 9, 2) := by decide +kernel
theorem d_Md_member_259 : decode b_Md_member 259 = .ok (.goto 4, 3) := by decide +kernel
theorem d_Md_member_262 : decode b_Md_member 262 = .ok (.iconst 0, 1) := by decide +kernel
theorem d_Md_member_263 : decode b_Md_member 263 = .ok (.ireturn, 1) := by decide +kernel
