theorem d_Rf_clear_9 : decode b_Rf_clear 9 = .ok (.getfield 15, 3) := by decide +kernel
theorem d_Rf_clear_12 : decode b_Rf_clear 12 = .ok (.invokevirtual 43, 3) := by decide +kernel
theorem d_Rf_clear_15 : decode b_Rf_clear 15 = .ok (.aload_n 0, 1) := by decide +kernel
theorem d_Rf_clear_16 : decode b_Rf_clear 16 = .ok (.getfield 19, 3) := by decide +kernel
theorem d_Rf_clear_19 : decode b_Rf_clear 19 = .ok (.invokevirtual 46, 3) := by decide +kernel
theorem d_Rf_clear_22 : decode b_Rf_clear 22 = .ok (.aload_n 0, 1) := by decide +kernel
theorem d_Rf_clear_23 : decode b_Rf_clear 23 = .ok (.getfield 26, 3) := by decide +kernel
theorem d_Rf_clear_26 : decode b_Rf_clear 26 = .ok (.invokevirtual 47, 3) := by decide +kernel
theorem d_Rf_clear_29 : decode b_Rf_clear 29 = .ok (.aload_n 0, 1) := by decide +kernel
theorem d_Rf_clear_30 : decode b_Rf_clear 30 = .ok (.getfield 35, 3) := by decide +kernel
theorem d_Rf_clear_33 : decode b_Rf_clear 33 = .ok (.invokevirtual 50, 3) := by decide +kernel
theorem d_Rf_clear_36 : decode b_Rf_clear 36 = .ok (.iload_n 1, 1) := by decide +kernel
theorem d_Rf_clear_37 : decode b_Rf_clear 37 = .ok (.ireturn, 1) := by decide +kernel
theorem d_Rf_exception_0 : decode b_Rf_exception 0 = .ok (.aload_n 0, 1) := by decide +kernel
theorem d_Rf_exception_1 : decode b_Rf_exception 1 = .ok (.getfield 15, 3) := by decide +kernel
theorem d_Rf_exception_4 : decode b_Rf_exception 4 = .ok (.iload_n 1, 1) := by decide +kernel
theorem d_Rf_exception_5 : decode b_Rf_exception 5 = .ok (.invokevirtual 51, 3) := by decide +kernel
theorem d_Rf_exception_8 : decode b_Rf_exception 8 = .ok (.ifCond .ne 6, 3) := by decide +kernel
theorem d_Rf_exception_11 : decode b_Rf_exception 11 = .ok (.bipush (-2), 2) := by decide +kernel
theorem d_Rf_exception_13 : decode b_Rf_exception 13 = .ok (.ireturn, 1) := by decide +kernel
theorem d_Rf_exception_14 : decode b_Rf_exception 14 = .ok (.aload_n 0, 1) := by decide +kernel
theorem d_Rf_exception_15 : decode b_Rf_exception 15 = .ok (.getfield 15, 3) := by decide +kernel
theorem d_Rf_exception_18 : decode b_Rf_exception 18 = .ok (.getfield 55, 3) := by decide +kernel
theorem d_Rf_exception_21 : decode b_Rf_exception 21 = .ok (.bipush 12, 2) := by decide +kernel
theorem d_Rf_exception_23 : decode b_Rf_exception 23 = .ok (.if_icmp .lt 8, 3) := by decide +kernel
theorem d_Rf_exception_26 : decode b_Rf_exception 26 = .ok (.bipush (-3), 2) := by decide +kernel
theorem d_Rf_exception_28 : decode b_Rf_exception 28 = .ok (.goto 11, 3) := by decide +kernel
theorem d_Rf_exception_31 : decode b_Rf_exception 31 = .ok (.aload_n 0, 1) := by decide +kernel
theorem d_Rf_exception_32 : decode b_Rf_exception 32 = .ok (.getfield 15, 3) := by decide +kernel
theorem d_Rf_exception_35 : decode b_Rf_exception 35 = .ok (.iload_n 1, 1) := by decide +kernel
theorem d_Rf_exception_36 : decode b_Rf_exception 36 = .ok (.invokevirtual 58, 3) := by decide +kernel
theorem d_Rf_exception_39 : decode b_Rf_exception 39 = .ok (.ireturn, 1) := by decide +kernel
theorem d_Rf_node_0 : decode b_Rf_node 0 = .ok (.aload_n 0, 1) := by decide +kernel
theorem d_Rf_node_1 : decode b_Rf_node 1 = .ok (.iload_n 1, 1) := by decide +kernel
theorem d_Rf_node_2 : decode b_Rf_node 2 = .ok (.iload_n 2, 1) := by decide +kernel
theorem d_Rf_node_3 : decode b_Rf_node 3 = .ok (.iload_n 3, 1) := by decide +kernel
theorem d_Rf_node_4 : decode b_Rf_node 4 = .ok (.iload 4, 2) := by decide +kernel
theorem d_Rf_node_6 : decode b_Rf_node 6 = .ok (.invokevirtual 62, 3) := by decide +kernel
theorem d_Rf_node_9 : decode b_Rf_node 9 = .ok (.ifCond .ne 6, 3) := by decide +kernel
theorem d_Rf_node_12 : decode b_Rf_node 12 = .ok (.bipush (-2), 2) := by decide +kernel
theorem d_Rf_node_14 : decode b_Rf_node 14 = .ok (.ireturn, 1) := by decide +kernel
theorem d_Rf_node_15 : decode b_Rf_node 15 = .ok (.aload_n 0, 1) := by decide +kernel
theorem d_Rf_node_16 : decode b_Rf_node 16 = .ok (.getfield 19, 3) := by decide +kernel
theorem d_Rf_node_19 : decode b_Rf_node 19 = .ok (.invokevirtual 66, 3) := by decide +kernel
theorem d_Rf_node_22 : decode b_Rf_node 22 = .ok (.ifCond .eq 6, 3) := by decide +kernel
theorem d_Rf_node_25 : decode b_Rf_node 25 = .ok (.bipush (-3), 2) := by decide +kernel
theorem d_Rf_node_27 : decode b_Rf_node 27 = .ok (.ireturn, 1) := by decide +kernel
theorem d_Rf_node_28 : decode b_Rf_node 28 = .ok (.iload_n 1, 1) := by decide +kernel
theorem d_Rf_node_29 : decode b_Rf_node 29 = .ok (.iconst 4, 1) := by decide +kernel
theorem d_Rf_node_30 : decode b_Rf_node 30 = .ok (.if_icmp .ge 21, 3) := by decide +kernel
theorem d_Rf_node_33 : decode b_Rf_node 33 = .ok (.aload_n 0, 1) := by decide +kernel
theorem d_Rf_node_34 : decode b_Rf_node 34 = .ok (.getfield 19, 3) := by decide +kernel
theorem d_Rf_node_37 : decode b_Rf_node 37 = .ok (.iload_n 1, 1) := by decide +kernel
theorem d_Rf_node_38 : decode b_Rf_node 38 = .ok (.iload_n 1, 1) := by decide +kernel
theorem d_Rf_node_39 : decode b_Rf_node 39 = .ok (.ifCond .ne 7, 3) := by decide +kernel
theorem d_Rf_node_42 : decode b_Rf_node 42 = .ok (.iconst 0, 1) := by decide +kernel
theorem d_Rf_node_43 : decode b_Rf_node 43 = .ok (.goto 4, 3) := by decide +kernel
theorem d_Rf_node_46 : decode b_Rf_node 46 = .ok (.iload_n 3, 1) := by decide +kernel
theorem d_Rf_node_47 : decode b_Rf_node 47 = .ok (.invokevirtual 70, 3) := by decide +kernel
theorem d_Rf_node_50 : decode b_Rf_node 50 = .ok (.ireturn, 1) := by decide +kernel
theorem d_Rf_node_51 : decode b_Rf_node 51 = .ok (.aload_n 0, 1) := by decide +kernel
theorem d_Rf_node_52 : decode b_Rf_node 52 = .ok (.getfield 19, 3) := by decide +kernel
theorem d_Rf_node_55 : decode b_Rf_node 55 = .ok (.iload_n 1, 1) := by decide +kernel
theorem d_Rf_node_56 : decode b_Rf_node 56 = .ok (.iload_n 2, 1) := by decide +kernel
theorem d_Rf_node_57 : decode b_Rf_node 57 = .ok (.invokevirtual 70, 3) := by decide +kernel
theorem d_Rf_node_60 : decode b_Rf_node 60 = .ok (.istore 5, 2) := by decide +kernel
theorem d_Rf_node_62 : decode b_Rf_node 62 = .ok (.aload_n 0, 1) := by decide +kernel
theorem d_Rf_node_63 : decode b_Rf_node 63 = .ok (.getfield 19, 3) := by decide +kernel
theorem d_Rf_node_66 : decode b_Rf_node 66 = .ok (.iload 5, 2) := by decide +kernel
theorem d_Rf_node_68 : decode b_Rf_node 68 = .ok (.iload_n 3, 1) := by decide +kernel
theorem d_Rf_node_69 : decode b_Rf_node 69 = .ok (.invokevirtual 74, 3) := by decide +kernel
theorem d_Rf_node_72 : decode b_Rf_node 72 = .ok (.iload 4, 2) := by decide +kernel
theorem d_Rf_node_74 : decode b_Rf_node 74 = .ok (.iconst (-1), 1) := by decide +kernel
theorem d_Rf_node_75 : decode b_Rf_node 75 = .ok (.if_icmp .eq 14, 3) := by decide +kernel
theorem d_Rf_node_78 : decode b_Rf_node 78 = .ok (.aload_n 0, 1) := by decide +kernel
theorem d_Rf_node_79 : decode b_Rf_node 79 = .ok (.getfield 19, 3) := by decide +kernel
theorem d_Rf_node_82 : decode b_Rf_node 82 = .ok (.iload 5, 2) := by decide +kernel
theorem d_Rf_node_84 : decode b_Rf_node 84 = .ok (.iload 4, 2) := by decide +kernel
theorem d_Rf_node_86 : decode b_Rf_node 86 = .ok (.invokevirtual 74, 3) := by decide +kernel
theorem d_Rf_node_89 : decode b_Rf_node 89 = .ok (.iload 5, 2) := by decide +kernel
theorem d_Rf_node_91 : decode b_Rf_node 91 = .ok (.ireturn, 1) := by decide +kernel
theorem d_Rf_fitsNode_0 : decode b_Rf_fitsNode 0 = .ok (.iload_n 1, 1) := by decide +kernel
theorem d_Rf_fitsNode_1 : decode b_Rf_fitsNode 1 = .ok (.iconst 4, 1) := by decide +kernel
theorem d_Rf_fitsNode_2 : decode b_Rf_fitsNode 2 = .ok (.if_icmp .ne 52, 3) := by decide +kernel
theorem d_Rf_fitsNode_5 : decode b_Rf_fitsNode 5 = .ok (.iload_n 2, 1) := by decide +kernel
theorem d_Rf_fitsNode_6 : decode b_Rf_fitsNode 6 = .ok (.iconst 2, 1) := by decide +kernel
theorem d_Rf_fitsNode_7 : decode b_Rf_fitsNode 7 = .ok (.invokestatic 78, 3) := by decide +kernel
theorem d_Rf_fitsNode_10 : decode b_Rf_fitsNode 10 = .ok (.ifCond .eq 42, 3) := by decide +kernel
theorem d_Rf_fitsNode_13 : decode b_Rf_fitsNode 13 = .ok (.aload_n 0, 1) := by decide +kernel
theorem d_Rf_fitsNode_14 : decode b_Rf_fitsNode 14 = .ok (.getfield 19, 3) := by decide +kernel
theorem d_Rf_fitsNode_17 : decode b_Rf_fitsNode 17 = .ok (.iload_n 3, 1) := by decide +kernel
theorem d_Rf_fitsNode_18 : decode b_Rf_fitsNode 18 = .ok (.invokevirtual 82, 3) := by decide +kernel
theorem d_Rf_fitsNode_21 : decode b_Rf_fitsNode 21 = .ok (.ifCond .eq 31, 3) := by decide +kernel
theorem d_Rf_fitsNode_24 : decode b_Rf_fitsNode 24 = .ok (.iload 4, 2) := by decide +kernel
theorem d_Rf_fitsNode_26 : decode b_Rf_fitsNode 26 = .ok (.iconst (-1), 1) := by decide +kernel
theorem d_Rf_fitsNode_27 : decode b_Rf_fitsNode 27 = .ok (.if_icmp .eq 21, 3) := by decide +kernel
theorem d_Rf_fitsNode_30 : decode b_Rf_fitsNode 30 = .ok (.aload_n 0, 1) := by decide +kernel
theorem d_Rf_fitsNode_31 : decode b_Rf_fitsNode 31 = .ok (.getfield 19, 3) := by decide +kernel
theorem d_Rf_fitsNode_34 : decode b_Rf_fitsNode 34 = .ok (.iload 4, 2) := by decide +kernel
theorem d_Rf_fitsNode_36 : decode b_Rf_fitsNode 36 = .ok (.invokevirtual 82, 3) := by decide +kernel
theorem d_Rf_fitsNode_39 : decode b_Rf_fitsNode 39 = .ok (.ifCond .eq 13, 3) := by decide +kernel
theorem d_Rf_fitsNode_42 : decode b_Rf_fitsNode 42 = .ok (.iload_n 3, 1) := by decide +kernel
theorem d_Rf_fitsNode_43 : decode b_Rf_fitsNode 43 = .ok (.iload 4, 2) := by decide +kernel
theorem d_Rf_fitsNode_45 : decode b_Rf_fitsNode 45 = .ok (.if_icmp .eq 7, 3) := by decide +kernel
theorem d_Rf_fitsNode_48 : decode b_Rf_fitsNode 48 = .ok (.iconst 1, 1) := by decide +kernel
theorem d_Rf_fitsNode_49 : decode b_Rf_fitsNode 49 = .ok (.goto 4, 3) := by decide +kernel
theorem d_Rf_fitsNode_52 : decode b_Rf_fitsNode 52 = .ok (.iconst 0, 1) := by decide +kernel
theorem d_Rf_fitsNode_53 : decode b_Rf_fitsNode 53 = .ok (.ireturn, 1) := by decide +kernel
theorem d_Rf_fitsNode_54 : decode b_Rf_fitsNode 54 = .ok (.iload 4, 2) := by decide +kernel
theorem d_Rf_fitsNode_56 : decode b_Rf_fitsNode 56 = .ok (.iconst (-1), 1) := by decide +kernel
theorem d_Rf_fitsNode_57 : decode b_Rf_fitsNode 57 = .ok (.if_icmp .eq 5, 3) := by decide +kernel
theorem d_Rf_fitsNode_60 : decode b_Rf_fitsNode 60 = .ok (.iconst 0, 1) := by decide +kernel
theorem d_Rf_fitsNode_61 : decode b_Rf_fitsNode 61 = .ok (.ireturn, 1) := by decide +kernel
theorem d_Rf_fitsNode_62 : decode b_Rf_fitsNode 62 = .ok (.iload_n 1, 1) := by decide +kernel
theorem d_Rf_fitsNode_63 : decode b_Rf_fitsNode 63 = .ok (.tableswitch 226 0 9 #[53, 68, 94, 115, 226, 134, 134, 159, 184, 205], 53) := by decide +kernel
theorem d_Rf_fitsNode_116 : decode b_Rf_fitsNode 116 = .ok (.iload_n 2, 1) := by decide +kernel
theorem d_Rf_fitsNode_117 : decode b_Rf_fitsNode 117 = .ok (.ifCond .ne 12, 3) := by decide +kernel
theorem d_Rf_fitsNode_120 : decode b_Rf_fitsNode 120 = .ok (.iload_n 3, 1) := by decide +kernel
theorem d_Rf_fitsNode_121 : decode b_Rf_fitsNode 121 = .ok (.iconst (-1), 1) := by decide +kernel
theorem d_Rf_fitsNode_122 : decode b_Rf_fitsNode 122 = .ok (.if_icmp .ne 7, 3) := by decide +kernel
theorem d_Rf_fitsNode_125 : decode b_Rf_fitsNode 125 = .ok (.iconst 1, 1) := by decide +kernel
theorem d_Rf_fitsNode_126 : decode b_Rf_fitsNode 126 = .ok (.goto 4, 3) := by decide +kernel
theorem d_Rf_fitsNode_129 : decode b_Rf_fitsNode 129 = .ok (.iconst 0, 1) := by decide +kernel
theorem d_Rf_fitsNode_130 : decode b_Rf_fitsNode 130 = .ok (.ireturn, 1) := by decide +kernel
theorem d_Rf_fitsNode_131 : decode b_Rf_fitsNode 131 = .ok (.iload_n 2, 1) := by decide +kernel
theorem d_Rf_fitsNode_132 : decode b_Rf_fitsNode 132 = .ok (.ifCond .ne 23, 3) := by decide +kernel
theorem d_Rf_fitsNode_135 : decode b_Rf_fitsNode 135 = .ok (.iload_n 3, 1) := by decide +kernel
theorem d_Rf_fitsNode_136 : decode b_Rf_fitsNode 136 = .ok (.iconst (-1), 1) := by decide +kernel
theorem d_Rf_fitsNode_137 : decode b_Rf_fitsNode 137 = .ok (.if_icmp .eq 14, 3) := by decide +kernel
theorem d_Rf_fitsNode_140 : decode b_Rf_fitsNode 140 = .ok (.aload_n 0, 1) := by decide +kernel
theorem d_Rf_fitsNode_141 : decode b_Rf_fitsNode 141 = .ok (.getfield 15, 3) := by decide +kernel
theorem d_Rf_fitsNode_144 : decode b_Rf_fitsNode 144 = .ok (.iload_n 3, 1) := by decide +kernel
theorem d_Rf_fitsNode_145 : decode b_Rf_fitsNode 145 = .ok (.invokevirtual 51, 3) := by decide +kernel
theorem d_Rf_fitsNode_148 : decode b_Rf_fitsNode 148 = .ok (.ifCond .eq 7, 3) := by decide +kernel
theorem d_Rf_fitsNode_151 : decode b_Rf_fitsNode 151 = .ok (.iconst 1, 1) := by decide +kernel
theorem d_Rf_fitsNode_152 : decode b_Rf_fitsNode 152 = .ok (.goto 4, 3) := by decide +kernel
theorem d_Rf_fitsNode_155 : decode b_Rf_fitsNode 155 = .ok (.iconst 0, 1) := by decide +kernel
theorem d_Rf_fitsNode_156 : decode b_Rf_fitsNode 156 = .ok (.ireturn, 1) := by decide +kernel
theorem d_Rf_fitsNode_157 : decode b_Rf_fitsNode 157 = .ok (.iload_n 2, 1) := by decide +kernel
theorem d_Rf_fitsNode_158 : decode b_Rf_fitsNode 158 = .ok (.ifCond .ne 18, 3) := by decide +kernel
theorem d_Rf_fitsNode_161 : decode b_Rf_fitsNode 161 = .ok (.aload_n 0, 1) := by decide +kernel
theorem d_Rf_fitsNode_162 : decode b_Rf_fitsNode 162 = .ok (.getfield 15, 3) := by decide +kernel
theorem d_Rf_fitsNode_165 : decode b_Rf_fitsNode 165 = .ok (.iload_n 3, 1) := by decide +kernel
theorem d_Rf_fitsNode_166 : decode b_Rf_fitsNode 166 = .ok (.invokevirtual 51, 3) := by decide +kernel
theorem d_Rf_fitsNode_169 : decode b_Rf_fitsNode 169 = .ok (.ifCond .eq 7, 3) := by decide +kernel
theorem d_Rf_fitsNode_172 : decode b_Rf_fitsNode 172 = .ok (.iconst 1, 1) := by decide +kernel
theorem d_Rf_fitsNode_173 : decode b_Rf_fitsNode 173 = .ok (.goto 4, 3) := by decide +kernel
theorem d_Rf_fitsNode_176 : decode b_Rf_fitsNode 176 = .ok (.iconst 0, 1) := by decide +kernel
theorem d_Rf_fitsNode_177 : decode b_Rf_fitsNode 177 = .ok (.ireturn, 1) := by decide +kernel
theorem d_Rf_fitsNode_178 : decode b_Rf_fitsNode 178 = .ok (.iload_n 2, 1) := by decide +kernel
theorem d_Rf_fitsNode_179 : decode b_Rf_fitsNode 179 = .ok (.ifCond .ne 16, 3) := by decide +kernel
theorem d_Rf_fitsNode_182 : decode b_Rf_fitsNode 182 = .ok (.iload_n 3, 1) := by decide +kernel
theorem d_Rf_fitsNode_183 : decode b_Rf_fitsNode 183 = .ok (.ifCond .eq 8, 3) := by decide +kernel
theorem d_Rf_fitsNode_186 : decode b_Rf_fitsNode 186 = .ok (.iload_n 3, 1) := by decide +kernel
theorem d_Rf_fitsNode_187 : decode b_Rf_fitsNode 187 = .ok (.iconst 1, 1) := by decide +kernel
theorem d_Rf_fitsNode_188 : decode b_Rf_fitsNode 188 = .ok (.if_icmp .ne 7, 3) := by decide +kernel
theorem d_Rf_fitsNode_191 : decode b_Rf_fitsNode 191 = .ok (.iconst 1, 1) := by decide +kernel
theorem d_Rf_fitsNode_192 : decode b_Rf_fitsNode 192 = .ok (.goto 4, 3) := by decide +kernel
theorem d_Rf_fitsNode_195 : decode b_Rf_fitsNode 195 = .ok (.iconst 0, 1) := by decide +kernel
theorem d_Rf_fitsNode_196 : decode b_Rf_fitsNode 196 = .ok (.ireturn, 1) := by decide +kernel
theorem d_Rf_fitsNode_197 : decode b_Rf_fitsNode 197 = .ok (.iload_n 2, 1) := by decide +kernel
theorem d_Rf_fitsNode_198 : decode b_Rf_fitsNode 198 = .ok (.iconst 2, 1) := by decide +kernel
theorem d_Rf_fitsNode_199 : decode b_Rf_fitsNode 199 = .ok (.invokestatic 78, 3) := by decide +kernel
theorem d_Rf_fitsNode_202 : decode b_Rf_fitsNode 202 = .ok (.ifCond .eq 18, 3) := by decide +kernel
theorem d_Rf_fitsNode_205 : decode b_Rf_fitsNode 205 = .ok (.aload_n 0, 1) := by decide +kernel
theorem d_Rf_fitsNode_206 : decode b_Rf_fitsNode 206 = .ok (.getfield 19, 3) := by decide +kernel
theorem d_Rf_fitsNode_209 : decode b_Rf_fitsNode 209 = .ok (.iload_n 3, 1) := by decide +kernel
theorem d_Rf_fitsNode_210 : decode b_Rf_fitsNode 210 = .ok (.invokevirtual 82, 3) := by decide +kernel
theorem d_Rf_fitsNode_213 : decode b_Rf_fitsNode 213 = .ok (.ifCond .eq 7, 3) := by decide +kernel
theorem d_Rf_fitsNode_216 : decode b_Rf_fitsNode 216 = .ok (.iconst 1, 1) := by decide +kernel
theorem d_Rf_fitsNode_217 : decode b_Rf_fitsNode 217 = .ok (.goto 4, 3) := by decide +kernel
theorem d_Rf_fitsNode_220 : decode b_Rf_fitsNode 220 = .ok (.iconst 0, 1) := by decide +kernel
theorem d_Rf_fitsNode_221 : decode b_Rf_fitsNode 221 = .ok (.ireturn, 1) := by decide +kernel
theorem d_Rf_fitsNode_222 : decode b_Rf_fitsNode 222 = .ok (.iload_n 2, 1) := by decide +kernel
theorem d_Rf_fitsNode_223 : decode b_Rf_fitsNode 223 = .ok (.iconst 3, 1) := by decide +kernel
theorem d_Rf_fitsNode_224 : decode b_Rf_fitsNode 224 = .ok (.invokestatic 78, 3) := by decide +kernel
theorem d_Rf_fitsNode_227 : decode b_Rf_fitsNode 227 = .ok (.ifCond .eq 18, 3) := by decide +kernel
theorem d_Rf_fitsNode_230 : decode b_Rf_fitsNode 230 = .ok (.aload_n 0, 1) := by decide +kernel
theorem d_Rf_fitsNode_231 : decode b_Rf_fitsNode 231 = .ok (.getfield 19, 3) := by decide +kernel
theorem d_Rf_fitsNode_234 : decode b_Rf_fitsNode 234 = .ok (.iload_n 3, 1) := by decide +kernel
theorem d_Rf_fitsNode_235 : decode b_Rf_fitsNode 235 = .ok (.invokevirtual 82, 3) := by decide +kernel
theorem d_Rf_fitsNode_238 : decode b_Rf_fitsNode 238 = .ok (.ifCond .eq 7, 3) := by decide +kernel
theorem d_Rf_fitsNode_241 : decode b_Rf_fitsNode 241 = .ok (.iconst 1, 1) := by decide +kernel
theorem d_Rf_fitsNode_242 : decode b_Rf_fitsNode 242 = .ok (.goto 4, 3) := by decide +kernel
theorem d_Rf_fitsNode_245 : decode b_Rf_fitsNode 245 = .ok (.iconst 0, 1) := by decide +kernel
theorem d_Rf_fitsNode_246 : decode b_Rf_fitsNode 246 = .ok (.ireturn, 1) := by decide +kernel
theorem d_Rf_fitsNode_247 : decode b_Rf_fitsNode 247 = .ok (.iload_n 2, 1) := by decide +kernel
theorem d_Rf_fitsNode_248 : decode b_Rf_fitsNode 248 = .ok (.ifCond .ne 18, 3) := by decide +kernel
theorem d_Rf_fitsNode_251 : decode b_Rf_fitsNode 251 = .ok (.aload_n 0, 1) := by decide +kernel
theorem d_Rf_fitsNode_252 : decode b_Rf_fitsNode 252 = .ok (.getfield 19, 3) := by decide +kernel
theorem d_Rf_fitsNode_255 : decode b_Rf_fitsNode 255 = .ok (.iload_n 3, 1) := by decide +kernel
theorem d_Rf_fitsNode_256 : decode b_Rf_fitsNode 256 = .ok (.invokevirtual 82, 3) := by decide +kernel
theorem d_Rf_fitsNode_259 : decode b_Rf_fitsNode 259 = .ok (.ifCond .eq 7, 3) := by decide +kernel
theorem d_Rf_fitsNode_262 : decode b_Rf_fitsNode 262 = .ok (.iconst 1, 1) := by decide +kernel
theorem d_Rf_fitsNode_263 : decode b_Rf_fitsNode 263 = .ok (.goto 4, 3) := by decide +kernel
theorem d_Rf_fitsNode_266 : decode b_Rf_fitsNode 266 = .ok (.iconst 0, 1) := by decide +kernel
theorem d_Rf_fitsNode_267 : decode b_Rf_fitsNode 267 = .ok (.ireturn, 1) := by decide +kernel
theorem d_Rf_fitsNode_268 : decode b_Rf_fitsNode 268 = .ok (.iload_n 2, 1) := by decide +kernel
theorem d_Rf_fitsNode_269 : decode b_Rf_fitsNode 269 = .ok (.ifCond .ne 18, 3) := by decide +kernel
theorem d_Rf_fitsNode_272 : decode b_Rf_fitsNode 272 = .ok (.aload_n 0, 1) := by decide +kernel
theorem d_Rf_fitsNode_273 : decode b_Rf_fitsNode 273 = .ok (.getfield 19, 3) := by decide +kernel
theorem d_Rf_fitsNode_276 : decode b_Rf_fitsNode 276 = .ok (.iload_n 3, 1) := by decide +kernel
theorem d_Rf_fitsNode_277 : decode b_Rf_fitsNode 277 = .ok (.invokevirtual 85, 3) := by decide +kernel
theorem d_Rf_fitsNode_280 : decode b_Rf_fitsNode 280 = .ok (.ifCond .eq 7, 3) := by decide +kernel
theorem d_Rf_fitsNode_283 : decode b_Rf_fitsNode 283 = .ok (.iconst 1, 1) := by decide +kernel
theorem d_Rf_fitsNode_284 : decode b_Rf_fitsNode 284 = .ok (.goto 4, 3) := by decide +kernel
theorem d_Rf_fitsNode_287 : decode b_Rf_fitsNode 287 = .ok (.iconst 0, 1) := by decide +kernel
theorem d_Rf_fitsNode_288 : decode b_Rf_fitsNode 288 = .ok (.ireturn, 1) := by decide +kernel
theorem d_Rf_fitsNode_289 : decode b_Rf_fitsNode 289 = .ok (.iconst 0, 1) := by decide +kernel
theorem d_Rf_fitsNode_290 : decode b_Rf_fitsNode 290 = .ok (.ireturn, 1) := by decide +kernel
theorem d_Rf_isTest_0 : decode b_Rf_isTest 0 = .ok (.iload_n 0, 1) := by decide +kernel
theorem d_Rf_isTest_1 : decode b_Rf_isTest 1 = .ok (.ifCond .lt 12, 3) := by decide +kernel
theorem d_Rf_isTest_4 : decode b_Rf_isTest 4 = .ok (.iload_n 0, 1) := by decide +kernel
theorem d_Rf_isTest_5 : decode b_Rf_isTest 5 = .ok (.iload_n 1, 1) := by decide +kernel
theorem d_Rf_isTest_6 : decode b_Rf_isTest 6 = .ok (.if_icmp .gt 7, 3) := by decide +kernel
theorem d_Rf_isTest_9 : decode b_Rf_isTest 9 = .ok (.iconst 1, 1) := by decide +kernel
theorem d_Rf_isTest_10 : decode b_Rf_isTest 10 = .ok (.goto 4, 3) := by decide +kernel
theorem d_Rf_isTest_13 : decode b_Rf_isTest 13 = .ok (.iconst 0, 1) := by decide +kernel
theorem d_Rf_isTest_14 : decode b_Rf_isTest 14 = .ok (.ireturn, 1) := by decide +kernel
theorem d_Rf_jump_0 : decode b_Rf_jump 0 = .ok (.iload_n 1, 1) := by decide +kernel
theorem d_Rf_jump_1 : decode b_Rf_jump 1 = .ok (.ifCond .lt 20, 3) := by decide +kernel
theorem d_Rf_jump_4 : decode b_Rf_jump 4 = .ok (.iload_n 1, 1) := by decide +kernel
theorem d_Rf_jump_5 : decode b_Rf_jump 5 = .ok (.iconst 1, 1) := by decide +kernel
theorem d_Rf_jump_6 : decode b_Rf_jump 6 = .ok (.if_icmp .gt 15, 3) := by decide +kernel
theorem d_Rf_jump_9 : decode b_Rf_jump 9 = .ok (.iload_n 2, 1) := by decide +kernel
theorem d_Rf_jump_10 : decode b_Rf_jump 10 = .ok (.iconst (-1), 1) := by decide +kernel
theorem d_Rf_jump_11 : decode b_Rf_jump 11 = .ok (.if_icmp .eq 13, 3) := by decide +kernel
theorem d_Rf_jump_14 : decode b_Rf_jump 14 = .ok (.iload_n 2, 1) := by decide +kernel
theorem d_Rf_jump_15 : decode b_Rf_jump 15 = .ok (.invokestatic 88, 3) := by decide +kernel
theorem d_Rf_jump_18 : decode b_Rf_jump 18 = .ok (.ifCond .ne 6, 3) := by decide +kernel
theorem d_Rf_jump_21 : decode b_Rf_jump 21 = .ok (.bipush (-2), 2) := by decide +kernel
theorem d_Rf_jump_23 : decode b_Rf_jump 23 = .ok (.ireturn, 1) := by decide +kernel
theorem d_Rf_jump_24 : decode b_Rf_jump 24 = .ok (.aload_n 0, 1) := by decide +kernel
theorem d_Rf_jump_25 : decode b_Rf_jump 25 = .ok (.getfield 19, 3) := by decide +kernel
theorem d_Rf_jump_28 : decode b_Rf_jump 28 = .ok (.invokevirtual 66, 3) := by decide +kernel
theorem d_Rf_jump_31 : decode b_Rf_jump 31 = .ok (.ifCond .eq 8, 3) := by decide +kernel
theorem d_Rf_jump_34 : decode b_Rf_jump 34 = .ok (.bipush (-3), 2) := by decide +kernel
theorem d_Rf_jump_36 : decode b_Rf_jump 36 = .ok (.goto 15, 3) := by decide +kernel
theorem d_Rf_jump_39 : decode b_Rf_jump 39 = .ok (.aload_n 0, 1) := by decide +kernel
theorem d_Rf_jump_40 : decode b_Rf_jump 40 = .ok (.getfield 19, 3) := by decide +kernel
theorem d_Rf_jump_43 : decode b_Rf_jump 43 = .ok (.bipush 10, 2) := by decide +kernel
theorem d_Rf_jump_45 : decode b_Rf_jump 45 = .ok (.iload_n 1, 1) := by decide +kernel
theorem d_Rf_jump_46 : decode b_Rf_jump 46 = .ok (.iadd, 1) := by decide +kernel
theorem d_Rf_jump_47 : decode b_Rf_jump 47 = .ok (.iload_n 2, 1) := by decide +kernel
theorem d_Rf_jump_48 : decode b_Rf_jump 48 = .ok (.invokevirtual 70, 3) := by decide +kernel
theorem d_Rf_jump_51 : decode b_Rf_jump 51 = .ok (.ireturn, 1) := by decide +kernel
theorem d_Rf_label_0 : decode b_Rf_label 0 = .ok (.iload_n 1, 1) := by decide +kernel
theorem d_Rf_label_1 : decode b_Rf_label 1 = .ok (.invokestatic 88, 3) := by decide +kernel
theorem d_Rf_label_4 : decode b_Rf_label 4 = .ok (.ifCond .eq 14, 3) := by decide +kernel
theorem d_Rf_label_7 : decode b_Rf_label 7 = .ok (.aload_n 0, 1) := by decide +kernel
theorem d_Rf_label_8 : decode b_Rf_label 8 = .ok (.getfield 19, 3) := by decide +kernel
theorem d_Rf_label_11 : decode b_Rf_label 11 = .ok (.iload_n 2, 1) := by decide +kernel
theorem d_Rf_label_12 : decode b_Rf_label 12 = .ok (.invokevirtual 82, 3) := by decide +kernel
theorem d_Rf_label_15 : decode b_Rf_label 15 = .ok (.ifCond .ne 6, 3) := by decide +kernel
theorem d_Rf_label_18 : decode b_Rf_label 18 = .ok (.bipush (-2), 2) := by decide +kernel
theorem d_Rf_label_20 : decode b_Rf_label 20 = .ok (.ireturn, 1) := by decide +kernel
theorem d_Rf_label_21 : decode b_Rf_label 21 = .ok (.aload_n 0, 1) := by decide +kernel
theorem d_Rf_label_22 : decode b_Rf_label 22 = .ok (.getfield 19, 3) := by decide +kernel
theorem d_Rf_label_25 : decode b_Rf_label 25 = .ok (.invokevirtual 66, 3) := by decide +kernel
theorem d_Rf_label_28 : decode b_Rf_label 28 = .ok (.ifCond .eq 6, 3) := by decide +kernel
theorem d_Rf_label_31 : decode b_Rf_label 31 = .ok (.bipush (-3), 2) := by decide +kernel
theorem d_Rf_label_33 : decode b_Rf_label 33 = .ok (.ireturn, 1) := by decide +kernel
theorem d_Rf_label_34 : decode b_Rf_label 34 = .ok (.aload_n 0, 1) := by decide +kernel
theorem d_Rf_label_35 : decode b_Rf_label 35 = .ok (.getfield 19, 3) := by decide +kernel
theorem d_Rf_label_38 : decode b_Rf_label 38 = .ok (.bipush 12, 2) := by decide +kernel
theorem d_Rf_label_40 : decode b_Rf_label 40 = .ok (.iload_n 1, 1) := by decide +kernel
theorem d_Rf_label_41 : decode b_Rf_label 41 = .ok (.invokevirtual 70, 3) := by decide +kernel
theorem d_Rf_label_44 : decode b_Rf_label 44 = .ok (.istore_n 3, 1) := by decide +kernel
theorem d_Rf_label_45 : decode b_Rf_label 45 = .ok (.aload_n 0, 1) := by decide +kernel
theorem d_Rf_label_46 : decode b_Rf_label 46 = .ok (.getfield 19, 3) := by decide +kernel
theorem d_Rf_label_49 : decode b_Rf_label 49 = .ok (.iload_n 3, 1) := by decide +kernel
theorem d_Rf_label_50 : decode b_Rf_label 50 = .ok (.iload_n 2, 1) := by decide +kernel
theorem d_Rf_label_51 : decode b_Rf_label 51 = .ok (.invokevirtual 74, 3) := by decide +kernel
theorem d_Rf_label_54 : decode b_Rf_label 54 = .ok (.iload_n 3, 1) := by decide +kernel
theorem d_Rf_label_55 : decode b_Rf_label 55 = .ok (.ireturn, 1) := by decide +kernel
theorem d_Rf_isName_0 : decode b_Rf_isName 0 = .ok (.iload_n 0, 1) := by decide +kernel
theorem d_Rf_isName_1 : decode b_Rf_isName 1 = .ok (.ifCond .lt 13, 3) := by decide +kernel
theorem d_Rf_isName_4 : decode b_Rf_isName 4 = .ok (.iload_n 0, 1) := by decide +kernel
theorem d_Rf_isName_5 : decode b_Rf_isName 5 = .ok (.bipush 6, 2) := by decide +kernel
theorem d_Rf_isName_7 : decode b_Rf_isName 7 = .ok (.if_icmp .ge 7, 3) := by decide +kernel
theorem d_Rf_isName_10 : decode b_Rf_isName 10 = .ok (.iconst 1, 1) := by decide +kernel
theorem d_Rf_isName_11 : decode b_Rf_isName 11 = .ok (.goto 4, 3) := by decide +kernel
theorem d_Rf_isName_14 : decode b_Rf_isName 14 = .ok (.iconst 0, 1) := by decide +kernel
theorem d_Rf_isName_15 : decode b_Rf_isName 15 = .ok (.ireturn, 1) := by decide +kernel
theorem d_Rf_row_0 : decode b_Rf_row 0 = .ok (.iload_n 1, 1) := by decide +kernel
theorem d_Rf_row_1 : decode b_Rf_row 1 = .ok (.ifCond .lt 8, 3) := by decide +kernel
theorem d_Rf_row_4 : decode b_Rf_row 4 = .ok (.iload_n 1, 1) := by decide +kernel
theorem d_Rf_row_5 : decode b_Rf_row 5 = .ok (.iconst 3, 1) := by decide +kernel
theorem d_Rf_row_6 : decode b_Rf_row 6 = .ok (.if_icmp .le 6, 3) := by decide +kernel
theorem d_Rf_row_9 : decode b_Rf_row 9 = .ok (.bipush (-2), 2) := by decide +kernel
theorem d_Rf_row_11 : decode b_Rf_row 11 = .ok (.ireturn, 1) := by decide +kernel
theorem d_Rf_row_12 : decode b_Rf_row 12 = .ok (.aload_n 0, 1) := by decide +kernel
theorem d_Rf_row_13 : decode b_Rf_row 13 = .ok (.getfield 26, 3) := by decide +kernel
theorem d_Rf_row_16 : decode b_Rf_row 16 = .ok (.invokevirtual 91, 3) := by decide +kernel
theorem d_Rf_row_19 : decode b_Rf_row 19 = .ok (.ifCond .eq 6, 3) := by decide +kernel
theorem d_Rf_row_22 : decode b_Rf_row 22 = .ok (.bipush (-4), 2) := by decide +kernel
theorem d_Rf_row_24 : decode b_Rf_row 24 = .ok (.ireturn, 1) := by decide +kernel
theorem d_Rf_row_25 : decode b_Rf_row 25 = .ok (.aload_n 0, 1) := by decide +kernel
theorem d_Rf_row_26 : decode b_Rf_row 26 = .ok (.getfield 26, 3) := by decide +kernel
theorem d_Rf_row_29 : decode b_Rf_row 29 = .ok (.bipush 13, 2) := by decide +kernel
theorem d_Rf_row_31 : decode b_Rf_row 31 = .ok (.iload_n 1, 1) := by decide +kernel
theorem d_Rf_row_32 : decode b_Rf_row 32 = .ok (.iadd, 1) := by decide +kernel
theorem d_Rf_row_33 : decode b_Rf_row 33 = .ok (.invokevirtual 94, 3) := by decide +kernel
theorem d_Rf_row_36 : decode b_Rf_row 36 = .ok (.iload_n 1, 1) := by decide +kernel
theorem d_Rf_row_37 : decode b_Rf_row 37 = .ok (.ireturn, 1) := by decide +kernel
theorem d_Rf_put_0 : decode b_Rf_put 0 = .ok (.aload_n 0, 1) := by decide +kernel
theorem d_Rf_put_1 : decode b_Rf_put 1 = .ok (.getfield 26, 3) := by decide +kernel
theorem d_Rf_put_4 : decode b_Rf_put 4 = .ok (.invokevirtual 91, 3) := by decide +kernel
theorem d_Rf_put_7 : decode b_Rf_put 7 = .ok (.ifCond .ne 6, 3) := by decide +kernel
theorem d_Rf_put_10 : decode b_Rf_put 10 = .ok (.bipush (-4), 2) := by decide +kernel
theorem d_Rf_put_12 : decode b_Rf_put 12 = .ok (.ireturn, 1) := by decide +kernel
theorem d_Rf_put_13 : decode b_Rf_put 13 = .ok (.aload_n 0, 1) := by decide +kernel
theorem d_Rf_put_14 : decode b_Rf_put 14 = .ok (.iload_n 1, 1) := by decide +kernel
theorem d_Rf_put_15 : decode b_Rf_put 15 = .ok (.iload_n 2, 1) := by decide +kernel
theorem d_Rf_put_16 : decode b_Rf_put 16 = .ok (.invokevirtual 98, 3) := by decide +kernel
theorem d_Rf_put_19 : decode b_Rf_put 19 = .ok (.ifCond .ne 6, 3) := by decide +kernel
theorem d_Rf_put_22 : decode b_Rf_put 22 = .ok (.bipush (-2), 2) := by decide +kernel
theorem d_Rf_put_24 : decode b_Rf_put 24 = .ok (.ireturn, 1) := by decide +kernel
theorem d_Rf_put_25 : decode b_Rf_put 25 = .ok (.aload_n 0, 1) := by decide +kernel
theorem d_Rf_put_26 : decode b_Rf_put 26 = .ok (.getfield 19, 3) := by decide +kernel
theorem d_Rf_put_29 : decode b_Rf_put 29 = .ok (.iload_n 1, 1) := by decide +kernel
theorem d_Rf_put_30 : decode b_Rf_put 30 = .ok (.aload_n 0, 1) := by decide +kernel
theorem d_Rf_put_31 : decode b_Rf_put 31 = .ok (.getfield 26, 3) := by decide +kernel
theorem d_Rf_put_34 : decode b_Rf_put 34 = .ok (.getfield 101, 3) := by decide +kernel
theorem d_Rf_put_37 : decode b_Rf_put 37 = .ok (.bipush 13, 2) := by decide +kernel
theorem d_Rf_put_39 : decode b_Rf_put 39 = .ok (.if_icmp .ne 7, 3) := by decide +kernel
theorem d_Rf_put_42 : decode b_Rf_put 42 = .ok (.iconst (-1), 1) := by decide +kernel
theorem d_Rf_put_43 : decode b_Rf_put 43 = .ok (.goto 4, 3) := by decide +kernel
theorem d_Rf_put_46 : decode b_Rf_put 46 = .ok (.iload_n 2, 1) := by decide +kernel
theorem d_Rf_put_47 : decode b_Rf_put 47 = .ok (.invokevirtual 104, 3) := by decide +kernel
theorem d_Rf_put_50 : decode b_Rf_put 50 = .ok (.aload_n 0, 1) := by decide +kernel
theorem d_Rf_put_51 : decode b_Rf_put 51 = .ok (.getfield 26, 3) := by decide +kernel
theorem d_Rf_put_54 : decode b_Rf_put 54 = .ok (.iload_n 1, 1) := by decide +kernel
theorem d_Rf_put_55 : decode b_Rf_put 55 = .ok (.iload_n 2, 1) := by decide +kernel
theorem d_Rf_put_56 : decode b_Rf_put 56 = .ok (.invokevirtual 107, 3) := by decide +kernel
theorem d_Rf_put_59 : decode b_Rf_put 59 = .ok (.aload_n 0, 1) := by decide +kernel
theorem d_Rf_put_60 : decode b_Rf_put 60 = .ok (.getfield 26, 3) := by decide +kernel
theorem d_Rf_put_63 : decode b_Rf_put 63 = .ok (.getfield 109, 3) := by decide +kernel
theorem d_Rf_put_66 : decode b_Rf_put 66 = .ok (.ireturn, 1) := by decide +kernel
theorem d_Rf_fitsRow_0 : decode b_Rf_fitsRow 0 = .ok (.aload_n 0, 1) := by decide +kernel
theorem d_Rf_fitsRow_1 : decode b_Rf_fitsRow 1 = .ok (.getfield 19, 3) := by decide +kernel
theorem d_Rf_fitsRow_4 : decode b_Rf_fitsRow 4 = .ok (.iload_n 1, 1) := by decide +kernel
theorem d_Rf_fitsRow_5 : decode b_Rf_fitsRow 5 = .ok (.invokevirtual 82, 3) := by decide +kernel
theorem d_Rf_fitsRow_8 : decode b_Rf_fitsRow 8 = .ok (.ifCond .ne 5, 3) := by decide +kernel
theorem d_Rf_fitsRow_11 : decode b_Rf_fitsRow 11 = .ok (.iconst 0, 1) := by decide +kernel
theorem d_Rf_fitsRow_12 : decode b_Rf_fitsRow 12 = .ok (.ireturn, 1) := by decide +kernel
theorem d_Rf_fitsRow_13 : decode b_Rf_fitsRow 13 = .ok (.aload_n 0, 1) := by decide +kernel
theorem d_Rf_fitsRow_14 : decode b_Rf_fitsRow 14 = .ok (.getfield 26, 3) := by decide +kernel
theorem d_Rf_fitsRow_17 : decode b_Rf_fitsRow 17 = .ok (.getfield 101, 3) := by decide +kernel
theorem d_Rf_fitsRow_20 : decode b_Rf_fitsRow 20 = .ok (.tableswitch 105 13 15 #[28, 38, 69], 28) := by decide +kernel
theorem d_Rf_fitsRow_48 : decode b_Rf_fitsRow 48 = .ok (.iload_n 2, 1) := by decide +kernel
theorem d_Rf_fitsRow_49 : decode b_Rf_fitsRow 49 = .ok (.ifCond .ne 7, 3) := by decide +kernel
theorem d_Rf_fitsRow_52 : decode b_Rf_fitsRow 52 = .ok (.iconst 1, 1) := by decide +kernel
theorem d_Rf_fitsRow_53 : decode b_Rf_fitsRow 53 = .ok (.goto 4, 3) := by decide +kernel
theorem d_Rf_fitsRow_56 : decode b_Rf_fitsRow 56 = .ok (.iconst 0, 1) := by decide +kernel
theorem d_Rf_fitsRow_57 : decode b_Rf_fitsRow 57 = .ok (.ireturn, 1) := by decide +kernel
theorem d_Rf_fitsRow_58 : decode b_Rf_fitsRow 58 = .ok (.aload_n 0, 1) := by decide +kernel
theorem d_Rf_fitsRow_59 : decode b_Rf_fitsRow 59 = .ok (.getfield 26, 3) := by decide +kernel
theorem d_Rf_fitsRow_62 : decode b_Rf_fitsRow 62 = .ok (.iload_n 2, 1) := by decide +kernel
theorem d_Rf_fitsRow_63 : decode b_Rf_fitsRow 63 = .ok (.invokevirtual 110, 3) := by decide +kernel
theorem d_Rf_fitsRow_66 : decode b_Rf_fitsRow 66 = .ok (.ifCond .eq 21, 3) := by decide +kernel
theorem d_Rf_fitsRow_69 : decode b_Rf_fitsRow 69 = .ok (.iload_n 2, 1) := by decide +kernel
theorem d_Rf_fitsRow_70 : decode b_Rf_fitsRow 70 = .ok (.ifCond .ne 13, 3) := by decide +kernel
theorem d_Rf_fitsRow_73 : decode b_Rf_fitsRow 73 = .ok (.aload_n 0, 1) := by decide +kernel
theorem d_Rf_fitsRow_74 : decode b_Rf_fitsRow 74 = .ok (.getfield 26, 3) := by decide +kernel
theorem d_Rf_fitsRow_77 : decode b_Rf_fitsRow 77 = .ok (.getfield 109, 3) := by decide +kernel
theorem d_Rf_fitsRow_80 : decode b_Rf_fitsRow 80 = .ok (.ifCond .le 7, 3) := by decide +kernel
theorem d_Rf_fitsRow_83 : decode b_Rf_fitsRow 83 = .ok (.iconst 1, 1) := by decide +kernel
theorem d_Rf_fitsRow_84 : decode b_Rf_fitsRow 84 = .ok (.goto 4, 3) := by decide +kernel
theorem d_Rf_fitsRow_87 : decode b_Rf_fitsRow 87 = .ok (.iconst 0, 1) := by decide +kernel
theorem d_Rf_fitsRow_88 : decode b_Rf_fitsRow 88 = .ok (.ireturn, 1) := by decide +kernel
theorem d_Rf_fitsRow_89 : decode b_Rf_fitsRow 89 = .ok (.aload_n 0, 1) := by decide +kernel
theorem d_Rf_fitsRow_90 : decode b_Rf_fitsRow 90 = .ok (.getfield 26, 3) := by decide +kernel
theorem d_Rf_fitsRow_93 : decode b_Rf_fitsRow 93 = .ok (.iload_n 2, 1) := by decide +kernel
theorem d_Rf_fitsRow_94 : decode b_Rf_fitsRow 94 = .ok (.invokevirtual 110, 3) := by decide +kernel
theorem d_Rf_fitsRow_97 : decode b_Rf_fitsRow 97 = .ok (.ifCond .eq 26, 3) := by decide +kernel
theorem d_Rf_fitsRow_100 : decode b_Rf_fitsRow 100 = .ok (.iload_n 2, 1) := by decide +kernel
theorem d_Rf_fitsRow_101 : decode b_Rf_fitsRow 101 = .ok (.ifCond .eq 22, 3) := by decide +kernel
theorem d_Rf_fitsRow_104 : decode b_Rf_fitsRow 104 = .ok (.aload_n 0, 1) := by decide +kernel
theorem d_Rf_fitsRow_105 : decode b_Rf_fitsRow 105 = .ok (.getfield 19, 3) := by decide +kernel
theorem d_Rf_fitsRow_108 : decode b_Rf_fitsRow 108 = .ok (.getfield 113, 3) := by decide +kernel
theorem d_Rf_fitsRow_111 : decode b_Rf_fitsRow 111 = .ok (.iload_n 1, 1) := by decide +kernel
theorem d_Rf_fitsRow_112 : decode b_Rf_fitsRow 112 = .ok (.iaload, 1) := by decide +kernel
theorem d_Rf_fitsRow_113 : decode b_Rf_fitsRow 113 = .ok (.invokestatic 116, 3) := by decide +kernel
theorem d_Rf_fitsRow_116 : decode b_Rf_fitsRow 116 = .ok (.ifCond .eq 7, 3) := by decide +kernel
theorem d_Rf_fitsRow_119 : decode b_Rf_fitsRow 119 = .ok (.iconst 1, 1) := by decide +kernel
theorem d_Rf_fitsRow_120 : decode b_Rf_fitsRow 120 = .ok (.goto 4, 3) := by decide +kernel
theorem d_Rf_fitsRow_123 : decode b_Rf_fitsRow 123 = .ok (.iconst 0, 1) := by decide +kernel
theorem d_Rf_fitsRow_124 : decode b_Rf_fitsRow 124 = .ok (.ireturn, 1) := by decide +kernel
theorem d_Rf_fitsRow_125 : decode b_Rf_fitsRow 125 = .ok (.aload_n 0, 1) := by decide +kernel
theorem d_Rf_fitsRow_126 : decode b_Rf_fitsRow 126 = .ok (.getfield 19, 3) := by decide +kernel
theorem d_Rf_fitsRow_129 : decode b_Rf_fitsRow 129 = .ok (.iload_n 1, 1) := by decide +kernel
theorem d_Rf_fitsRow_130 : decode b_Rf_fitsRow 130 = .ok (.invokevirtual 85, 3) := by decide +kernel
theorem d_Rf_fitsRow_133 : decode b_Rf_fitsRow 133 = .ok (.ifCond .eq 36, 3) := by decide +kernel
theorem d_Rf_fitsRow_136 : decode b_Rf_fitsRow 136 = .ok (.aload_n 0, 1) := by decide +kernel
theorem d_Rf_fitsRow_137 : decode b_Rf_fitsRow 137 = .ok (.getfield 26, 3) := by decide +kernel
theorem d_Rf_fitsRow_140 : decode b_Rf_fitsRow 140 = .ok (.getfield 109, 3) := by decide +kernel
theorem d_Rf_fitsRow_143 : decode b_Rf_fitsRow 143 = .ok (.ifCond .ne 11, 3) := by decide +kernel
theorem d_Rf_fitsRow_146 : decode b_Rf_fitsRow 146 = .ok (.iload_n 2, 1) := by decide +kernel
theorem d_Rf_fitsRow_147 : decode b_Rf_fitsRow 147 = .ok (.iconst (-1), 1) := by decide +kernel
theorem d_Rf_fitsRow_148 : decode b_Rf_fitsRow 148 = .ok (.if_icmp .ne 21, 3) := by decide +kernel
theorem d_Rf_fitsRow_151 : decode b_Rf_fitsRow 151 = .ok (.goto 14, 3) := by decide +kernel
theorem d_Rf_fitsRow_154 : decode b_Rf_fitsRow 154 = .ok (.aload_n 0, 1) := by decide +kernel
theorem d_Rf_fitsRow_155 : decode b_Rf_fitsRow 155 = .ok (.getfield 15, 3) := by decide +kernel
theorem d_Rf_fitsRow_158 : decode b_Rf_fitsRow 158 = .ok (.iload_n 2, 1) := by decide +kernel
theorem d_Rf_fitsRow_159 : decode b_Rf_fitsRow 159 = .ok (.invokevirtual 51, 3) := by decide +kernel
theorem d_Rf_fitsRow_162 : decode b_Rf_fitsRow 162 = .ok (.ifCond .eq 7, 3) := by decide +kernel
theorem d_Rf_fitsRow_165 : decode b_Rf_fitsRow 165 = .ok (.iconst 1, 1) := by decide +kernel
theorem d_Rf_fitsRow_166 : decode b_Rf_fitsRow 166 = .ok (.goto 4, 3) := by decide +kernel
theorem d_Rf_fitsRow_169 : decode b_Rf_fitsRow 169 = .ok (.iconst 0, 1) := by decide +kernel
theorem d_Rf_fitsRow_170 : decode b_Rf_fitsRow 170 = .ok (.ireturn, 1) := by decide +kernel
theorem d_Rf_fitsRules_0 : decode b_Rf_fitsRules 0 = .ok (.iload_n 0, 1) := by decide +kernel
theorem d_Rf_fitsRules_1 : decode b_Rf_fitsRules 1 = .ok (.bipush 13, 2) := by decide +kernel
theorem d_Rf_fitsRules_3 : decode b_Rf_fitsRules 3 = .ok (.if_icmp .eq 13, 3) := by decide +kernel
theorem d_Rf_fitsRules_6 : decode b_Rf_fitsRules 6 = .ok (.iload_n 0, 1) := by decide +kernel
theorem d_Rf_fitsRules_7 : decode b_Rf_fitsRules 7 = .ok (.iconst 1, 1) := by decide +kernel
theorem d_Rf_fitsRules_8 : decode b_Rf_fitsRules 8 = .ok (.if_icmp .eq 8, 3) := by decide +kernel
theorem d_Rf_fitsRules_11 : decode b_Rf_fitsRules 11 = .ok (.iload_n 0, 1) := by decide +kernel
theorem d_Rf_fitsRules_12 : decode b_Rf_fitsRules 12 = .ok (.iconst 2, 1) := by decide +kernel
theorem d_Rf_fitsRules_13 : decode b_Rf_fitsRules 13 = .ok (.if_icmp .ne 7, 3) := by decide +kernel
theorem d_Rf_fitsRules_16 : decode b_Rf_fitsRules 16 = .ok (.iconst 1, 1) := by decide +kernel
theorem d_Rf_fitsRules_17 : decode b_Rf_fitsRules 17 = .ok (.goto 4, 3) := by decide +kernel
theorem d_Rf_fitsRules_20 : decode b_Rf_fitsRules 20 = .ok (.iconst 0, 1) := by decide +kernel
theorem d_Rf_fitsRules_21 : decode b_Rf_fitsRules 21 = .ok (.ireturn, 1) := by decide +kernel
theorem d_Rf_end_0 : decode b_Rf_end 0 = .ok (.aload_n 0, 1) := by decide +kernel
theorem d_Rf_end_1 : decode b_Rf_end 1 = .ok (.getfield 26, 3) := by decide +kernel
theorem d_Rf_end_4 : decode b_Rf_end 4 = .ok (.invokevirtual 91, 3) := by decide +kernel
theorem d_Rf_end_7 : decode b_Rf_end 7 = .ok (.ifCond .ne 6, 3) := by decide +kernel
theorem d_Rf_end_10 : decode b_Rf_end 10 = .ok (.bipush (-4), 2) := by decide +kernel
theorem d_Rf_end_12 : decode b_Rf_end 12 = .ok (.ireturn, 1) := by decide +kernel
theorem d_Rf_end_13 : decode b_Rf_end 13 = .ok (.aload_n 0, 1) := by decide +kernel
theorem d_Rf_end_14 : decode b_Rf_end 14 = .ok (.iload_n 1, 1) := by decide +kernel
theorem d_Rf_end_15 : decode b_Rf_end 15 = .ok (.invokevirtual 119, 3) := by decide +kernel
theorem d_Rf_end_18 : decode b_Rf_end 18 = .ok (.ifCond .ne 6, 3) := by decide +kernel
theorem d_Rf_end_21 : decode b_Rf_end 21 = .ok (.bipush (-2), 2) := by decide +kernel
theorem d_Rf_end_23 : decode b_Rf_end 23 = .ok (.ireturn, 1) := by decide +kernel
theorem d_Rf_end_24 : decode b_Rf_end 24 = .ok (.aload_n 0, 1) := by decide +kernel
theorem d_Rf_end_25 : decode b_Rf_end 25 = .ok (.getfield 19, 3) := by decide +kernel
theorem d_Rf_end_28 : decode b_Rf_end 28 = .ok (.invokevirtual 66, 3) := by decide +kernel
theorem d_Rf_end_31 : decode b_Rf_end 31 = .ok (.ifCond .eq 6, 3) := by decide +kernel
theorem d_Rf_end_34 : decode b_Rf_end 34 = .ok (.bipush (-3), 2) := by decide +kernel
theorem d_Rf_end_36 : decode b_Rf_end 36 = .ok (.ireturn, 1) := by decide +kernel
theorem d_Rf_end_37 : decode b_Rf_end 37 = .ok (.aload_n 0, 1) := by decide +kernel
theorem d_Rf_end_38 : decode b_Rf_end 38 = .ok (.getfield 19, 3) := by decide +kernel
theorem d_Rf_end_41 : decode b_Rf_end 41 = .ok (.aload_n 0, 1) := by decide +kernel
theorem d_Rf_end_42 : decode b_Rf_end 42 = .ok (.getfield 26, 3) := by decide +kernel
theorem d_Rf_end_45 : decode b_Rf_end 45 = .ok (.getfield 101, 3) := by decide +kernel
theorem d_Rf_end_48 : decode b_Rf_end 48 = .ok (.iconst 0, 1) := by decide +kernel
theorem d_Rf_end_49 : decode b_Rf_end 49 = .ok (.invokevirtual 70, 3) := by decide +kernel
theorem d_Rf_end_52 : decode b_Rf_end 52 = .ok (.istore_n 2, 1) := by decide +kernel
theorem d_Rf_end_53 : decode b_Rf_end 53 = .ok (.iconst 0, 1) := by decide +kernel
theorem d_Rf_end_54 : decode b_Rf_end 54 = .ok (.istore_n 3, 1) := by decide +kernel
theorem d_Rf_end_55 : decode b_Rf_end 55 = .ok (.iload_n 3, 1) := by decide +kernel
theorem d_Rf_end_56 : decode b_Rf_end 56 = .ok (.aload_n 0, 1) := by decide +kernel
theorem d_Rf_end_57 : decode b_Rf_end 57 = .ok (.getfield 26, 3) := by decide +kernel
theorem d_Rf_end_60 : decode b_Rf_end 60 = .ok (.getfield 109, 3) := by decide +kernel
theorem d_Rf_end_63 : decode b_Rf_end 63 = .ok (.if_icmp .ge 26, 3) := by decide +kernel
theorem d_Rf_end_66 : decode b_Rf_end 66 = .ok (.aload_n 0, 1) := by decide +kernel
theorem d_Rf_end_67 : decode b_Rf_end 67 = .ok (.getfield 19, 3) := by decide +kernel
theorem d_Rf_end_70 : decode b_Rf_end 70 = .ok (.iload_n 2, 1) := by decide +kernel
theorem d_Rf_end_71 : decode b_Rf_end 71 = .ok (.aload_n 0, 1) := by decide +kernel
theorem d_Rf_end_72 : decode b_Rf_end 72 = .ok (.getfield 26, 3) := by decide +kernel
theorem d_Rf_end_75 : decode b_Rf_end 75 = .ok (.getfield 122, 3) := by decide +kernel
theorem d_Rf_end_78 : decode b_Rf_end 78 = .ok (.iload_n 3, 1) := by decide +kernel
theorem d_Rf_end_79 : decode b_Rf_end 79 = .ok (.iaload, 1) := by decide +kernel
theorem d_Rf_end_80 : decode b_Rf_end 80 = .ok (.invokevirtual 74, 3) := by decide +kernel
theorem d_Rf_end_83 : decode b_Rf_end 83 = .ok (.iinc 3 1, 3) := by decide +kernel
theorem d_Rf_end_86 : decode b_Rf_end 86 = .ok (.goto (-31), 3) := by decide +kernel
theorem d_Rf_end_89 : decode b_Rf_end 89 = .ok (.aload_n 0, 1) := by decide +kernel
theorem d_Rf_end_90 : decode b_Rf_end 90 = .ok (.getfield 19, 3) := by decide +kernel
theorem d_Rf_end_93 : decode b_Rf_end 93 = .ok (.iload_n 2, 1) := by decide +kernel
theorem d_Rf_end_94 : decode b_Rf_end 94 = .ok (.iload_n 1, 1) := by decide +kernel
theorem d_Rf_end_95 : decode b_Rf_end 95 = .ok (.aload_n 0, 1) := by decide +kernel
theorem d_Rf_end_96 : decode b_Rf_end 96 = .ok (.getfield 26, 3) := by decide +kernel
theorem d_Rf_end_99 : decode b_Rf_end 99 = .ok (.getfield 125, 3) := by decide +kernel
theorem d_Rf_end_102 : decode b_Rf_end 102 = .ok (.invokevirtual 129, 3) := by decide +kernel
theorem d_Rf_end_105 : decode b_Rf_end 105 = .ok (.aload_n 0, 1) := by decide +kernel
theorem d_Rf_end_106 : decode b_Rf_end 106 = .ok (.getfield 26, 3) := by decide +kernel
theorem d_Rf_end_109 : decode b_Rf_end 109 = .ok (.invokevirtual 47, 3) := by decide +kernel
theorem d_Rf_end_112 : decode b_Rf_end 112 = .ok (.iload_n 2, 1) := by decide +kernel
theorem d_Rf_end_113 : decode b_Rf_end 113 = .ok (.ireturn, 1) := by decide +kernel
theorem d_Rf_fitsEnd_0 : decode b_Rf_fitsEnd 0 = .ok (.aload_n 0, 1) := by decide +kernel
theorem d_Rf_fitsEnd_1 : decode b_Rf_fitsEnd 1 = .ok (.getfield 26, 3) := by decide +kernel
theorem d_Rf_fitsEnd_4 : decode b_Rf_fitsEnd 4 = .ok (.getfield 101, 3) := by decide +kernel
theorem d_Rf_fitsEnd_7 : decode b_Rf_fitsEnd 7 = .ok (.bipush 14, 2) := by decide +kernel
theorem d_Rf_fitsEnd_9 : decode b_Rf_fitsEnd 9 = .ok (.if_icmp .ne 12, 3) := by decide +kernel
theorem d_Rf_fitsEnd_12 : decode b_Rf_fitsEnd 12 = .ok (.aload_n 0, 1) := by decide +kernel
theorem d_Rf_fitsEnd_13 : decode b_Rf_fitsEnd 13 = .ok (.getfield 26, 3) := by decide +kernel
theorem d_Rf_fitsEnd_16 : decode b_Rf_fitsEnd 16 = .ok (.iload_n 1, 1) := by decide +kernel
theorem d_Rf_fitsEnd_17 : decode b_Rf_fitsEnd 17 = .ok (.invokevirtual 110, 3) := by decide +kernel
theorem d_Rf_fitsEnd_20 : decode b_Rf_fitsEnd 20 = .ok (.ireturn, 1) := by decide +kernel
theorem d_Rf_fitsEnd_21 : decode b_Rf_fitsEnd 21 = .ok (.aload_n 0, 1) := by decide +kernel
theorem d_Rf_fitsEnd_22 : decode b_Rf_fitsEnd 22 = .ok (.getfield 26, 3) := by decide +kernel
theorem d_Rf_fitsEnd_25 : decode b_Rf_fitsEnd 25 = .ok (.getfield 101, 3) := by decide +kernel
theorem d_Rf_fitsEnd_28 : decode b_Rf_fitsEnd 28 = .ok (.bipush 16, 2) := by decide +kernel
theorem d_Rf_fitsEnd_30 : decode b_Rf_fitsEnd 30 = .ok (.if_icmp .ne 49, 3) := by decide +kernel
theorem d_Rf_fitsEnd_33 : decode b_Rf_fitsEnd 33 = .ok (.aload_n 0, 1) := by decide +kernel
theorem d_Rf_fitsEnd_34 : decode b_Rf_fitsEnd 34 = .ok (.getfield 26, 3) := by decide +kernel
theorem d_Rf_fitsEnd_37 : decode b_Rf_fitsEnd 37 = .ok (.getfield 109, 3) := by decide +kernel
theorem d_Rf_fitsEnd_40 : decode b_Rf_fitsEnd 40 = .ok (.ifCond .le 37, 3) := by decide +kernel
theorem d_Rf_fitsEnd_43 : decode b_Rf_fitsEnd 43 = .ok (.iload_n 1, 1) := by decide +kernel
theorem d_Rf_fitsEnd_44 : decode b_Rf_fitsEnd 44 = .ok (.iconst (-1), 1) := by decide +kernel
theorem d_Rf_fitsEnd_45 : decode b_Rf_fitsEnd 45 = .ok (.if_icmp .ne 17, 3) := by decide +kernel
theorem d_Rf_fitsEnd_48 : decode b_Rf_fitsEnd 48 = .ok (.aload_n 0, 1) := by decide +kernel
theorem d_Rf_fitsEnd_49 : decode b_Rf_fitsEnd 49 = .ok (.getfield 26, 3) := by decide +kernel
theorem d_Rf_fitsEnd_52 : decode b_Rf_fitsEnd 52 = .ok (.getfield 109, 3) := by decide +kernel
theorem d_Rf_fitsEnd_55 : decode b_Rf_fitsEnd 55 = .ok (.iconst 1, 1) := by decide +kernel
theorem d_Rf_fitsEnd_56 : decode b_Rf_fitsEnd 56 = .ok (.if_icmp .le 21, 3) := by decide +kernel
theorem d_Rf_fitsEnd_59 : decode b_Rf_fitsEnd 59 = .ok (.goto 14, 3) := by decide +kernel
theorem d_Rf_fitsEnd_62 : decode b_Rf_fitsEnd 62 = .ok (.aload_n 0, 1) := by decide +kernel
theorem d_Rf_fitsEnd_63 : decode b_Rf_fitsEnd 63 = .ok (.getfield 19, 3) := by decide +kernel
theorem d_Rf_fitsEnd_66 : decode b_Rf_fitsEnd 66 = .ok (.iload_n 1, 1) := by decide +kernel
theorem d_Rf_fitsEnd_67 : decode b_Rf_fitsEnd 67 = .ok (.invokevirtual 85, 3) := by decide +kernel
theorem d_Rf_fitsEnd_70 : decode b_Rf_fitsEnd 70 = .ok (.ifCond .eq 7, 3) := by decide +kernel
theorem d_Rf_fitsEnd_73 : decode b_Rf_fitsEnd 73 = .ok (.iconst 1, 1) := by decide +kernel
theorem d_Rf_fitsEnd_74 : decode b_Rf_fitsEnd 74 = .ok (.goto 4, 3) := by decide +kernel
theorem d_Rf_fitsEnd_77 : decode b_Rf_fitsEnd 77 = .ok (.iconst 0, 1) := by decide +kernel
theorem d_Rf_fitsEnd_78 : decode b_Rf_fitsEnd 78 = .ok (.ireturn, 1) := by decide +kernel
theorem d_Rf_fitsEnd_79 : decode b_Rf_fitsEnd 79 = .ok (.iload_n 1, 1) := by decide +kernel
theorem d_Rf_fitsEnd_80 : decode b_Rf_fitsEnd 80 = .ok (.ifCond .ne 7, 3) := by decide +kernel
theorem d_Rf_fitsEnd_83 : decode b_Rf_fitsEnd 83 = .ok (.iconst 1, 1) := by decide +kernel
theorem d_Rf_fitsEnd_84 : decode b_Rf_fitsEnd 84 = .ok (.goto 4, 3) := by decide +kernel
theorem d_Rf_fitsEnd_87 : decode b_Rf_fitsEnd 87 = .ok (.iconst 0, 1) := by decide +kernel
theorem d_Rf_fitsEnd_88 : decode b_Rf_fitsEnd 88 = .ok (.ireturn, 1) := by decide +kernel
theorem d_Rf_drop_0 : decode b_Rf_drop 0 = .ok (.aload_n 0, 1) := by decide +kernel
theorem d_Rf_drop_1 : decode b_Rf_drop 1 = .ok (.getfield 26, 3) := by decide +kernel
theorem d_Rf_drop_4 : decode b_Rf_drop 4 = .ok (.invokevirtual 91, 3) := by decide +kernel
theorem d_Rf_drop_7 : decode b_Rf_drop 7 = .ok (.ifCond .ne 6, 3) := by decide +kernel
theorem d_Rf_drop_10 : decode b_Rf_drop 10 = .ok (.bipush (-4), 2) := by decide +kernel
theorem d_Rf_drop_12 : decode b_Rf_drop 12 = .ok (.ireturn, 1) := by decide +kernel
theorem d_Rf_drop_13 : decode b_Rf_drop 13 = .ok (.aload_n 0, 1) := by decide +kernel
theorem d_Rf_drop_14 : decode b_Rf_drop 14 = .ok (.getfield 26, 3) := by decide +kernel
theorem d_Rf_drop_17 : decode b_Rf_drop 17 = .ok (.getfield 109, 3) := by decide +kernel
theorem d_Rf_drop_20 : decode b_Rf_drop 20 = .ok (.istore_n 1, 1) := by decide +kernel
theorem d_Rf_drop_21 : decode b_Rf_drop 21 = .ok (.iconst 0, 1) := by decide +kernel
theorem d_Rf_drop_22 : decode b_Rf_drop 22 = .ok (.istore_n 2, 1) := by decide +kernel
theorem d_Rf_drop_23 : decode b_Rf_drop 23 = .ok (.iload_n 2, 1) := by decide +kernel
theorem d_Rf_drop_24 : decode b_Rf_drop 24 = .ok (.iload_n 1, 1) := by decide +kernel
theorem d_Rf_drop_25 : decode b_Rf_drop 25 = .ok (.if_icmp .ge 25, 3) := by decide +kernel
theorem d_Rf_drop_28 : decode b_Rf_drop 28 = .ok (.aload_n 0, 1) := by decide +kernel
theorem d_Rf_drop_29 : decode b_Rf_drop 29 = .ok (.getfield 19, 3) := by decide +kernel
theorem d_Rf_drop_32 : decode b_Rf_drop 32 = .ok (.aload_n 0, 1) := by decide +kernel
theorem d_Rf_drop_33 : decode b_Rf_drop 33 = .ok (.getfield 26, 3) := by decide +kernel
theorem d_Rf_drop_36 : decode b_Rf_drop 36 = .ok (.getfield 122, 3) := by decide +kernel
theorem d_Rf_drop_39 : decode b_Rf_drop 39 = .ok (.iload_n 2, 1) := by decide +kernel
theorem d_Rf_drop_40 : decode b_Rf_drop 40 = .ok (.iaload, 1) := by decide +kernel
theorem d_Rf_drop_41 : decode b_Rf_drop 41 = .ok (.invokevirtual 133, 3) := by decide +kernel
theorem d_Rf_drop_44 : decode b_Rf_drop 44 = .ok (.iinc 2 1, 3) := by decide +kernel
theorem d_Rf_drop_47 : decode b_Rf_drop 47 = .ok (.goto (-24), 3) := by decide +kernel
theorem d_Rf_drop_50 : decode b_Rf_drop 50 = .ok (.aload_n 0, 1) := by decide +kernel
theorem d_Rf_drop_51 : decode b_Rf_drop 51 = .ok (.getfield 26, 3) := by decide +kernel
theorem d_Rf_drop_54 : decode b_Rf_drop 54 = .ok (.invokevirtual 47, 3) := by decide +kernel
theorem d_Rf_drop_57 : decode b_Rf_drop 57 = .ok (.iload_n 1, 1) := by decide +kernel
theorem d_Rf_drop_58 : decode b_Rf_drop 58 = .ok (.ireturn, 1) := by decide +kernel
theorem d_Rf_told_0 : decode b_Rf_told 0 = .ok (.aload_n 0, 1) := by decide +kernel
theorem d_Rf_told_1 : decode b_Rf_told 1 = .ok (.getfield 19, 3) := by decide +kernel
theorem d_Rf_told_4 : decode b_Rf_told 4 = .ok (.iload_n 1, 1) := by decide +kernel
theorem d_Rf_told_5 : decode b_Rf_told 5 = .ok (.invokevirtual 136, 3) := by decide +kernel
theorem d_Rf_told_8 : decode b_Rf_told 8 = .ok (.ifCond .ne 6, 3) := by decide +kernel
theorem d_Rf_told_11 : decode b_Rf_told 11 = .ok (.bipush (-2), 2) := by decide +kernel
theorem d_Rf_told_13 : decode b_Rf_told 13 = .ok (.ireturn, 1) := by decide +kernel
theorem d_Rf_told_14 : decode b_Rf_told 14 = .ok (.iload_n 2, 1) := by decide +kernel
theorem d_Rf_told_15 : decode b_Rf_told 15 = .ok (.tableswitch 83 0 4 #[33, 43, 53, 63, 73], 33) := by decide +kernel
theorem d_Rf_told_48 : decode b_Rf_told 48 = .ok (.aload_n 0, 1) := by decide +kernel
theorem d_Rf_told_49 : decode b_Rf_told 49 = .ok (.getfield 19, 3) := by decide +kernel
theorem d_Rf_told_52 : decode b_Rf_told 52 = .ok (.getfield 113, 3) := by decide +kernel
theorem d_Rf_told_55 : decode b_Rf_told 55 = .ok (.iload_n 1, 1) := by decide +kernel
theorem d_Rf_told_56 : decode b_Rf_told 56 = .ok (.iaload, 1) := by decide +kernel
theorem d_Rf_told_57 : decode b_Rf_told 57 = .ok (.ireturn, 1) := by decide +kernel
theorem d_Rf_told_58 : decode b_Rf_told 58 = .ok (.aload_n 0, 1) := by decide +kernel
theorem d_Rf_told_59 : decode b_Rf_told 59 = .ok (.getfield 19, 3) := by decide +kernel
theorem d_Rf_told_62 : decode b_Rf_told 62 = .ok (.getfield 137, 3) := by decide +kernel
theorem d_Rf_told_65 : decode b_Rf_told 65 = .ok (.iload_n 1, 1) := by decide +kernel
theorem d_Rf_told_66 : decode b_Rf_told 66 = .ok (.iaload, 1) := by decide +kernel
theorem d_Rf_told_67 : decode b_Rf_told 67 = .ok (.ireturn, 1) := by decide +kernel
theorem d_Rf_told_68 : decode b_Rf_told 68 = .ok (.aload_n 0, 1) := by decide +kernel
theorem d_Rf_told_69 : decode b_Rf_told 69 = .ok (.getfield 19, 3) := by decide +kernel
theorem d_Rf_told_72 : decode b_Rf_told 72 = .ok (.getfield 140, 3) := by decide +kernel
theorem d_Rf_told_75 : decode b_Rf_told 75 = .ok (.iload_n 1, 1) := by decide +kernel
theorem d_Rf_told_76 : decode b_Rf_told 76 = .ok (.iaload, 1) := by decide +kernel
theorem d_Rf_told_77 : decode b_Rf_told 77 = .ok (.ireturn, 1) := by decide +kernel
theorem d_Rf_told_78 : decode b_Rf_told 78 = .ok (.aload_n 0, 1) := by decide +kernel
theorem d_Rf_told_79 : decode b_Rf_told 79 = .ok (.getfield 19, 3) := by decide +kernel
theorem d_Rf_told_82 : decode b_Rf_told 82 = .ok (.getfield 142, 3) := by decide +kernel
theorem d_Rf_told_85 : decode b_Rf_told 85 = .ok (.iload_n 1, 1) := by decide +kernel
theorem d_Rf_told_86 : decode b_Rf_told 86 = .ok (.iaload, 1) := by decide +kernel
theorem d_Rf_told_87 : decode b_Rf_told 87 = .ok (.ireturn, 1) := by decide +kernel
theorem d_Rf_told_88 : decode b_Rf_told 88 = .ok (.aload_n 0, 1) := by decide +kernel
theorem d_Rf_told_89 : decode b_Rf_told 89 = .ok (.getfield 19, 3) := by decide +kernel
theorem d_Rf_told_92 : decode b_Rf_told 92 = .ok (.getfield 145, 3) := by decide +kernel
theorem d_Rf_told_95 : decode b_Rf_told 95 = .ok (.iload_n 1, 1) := by decide +kernel
theorem d_Rf_told_96 : decode b_Rf_told 96 = .ok (.iaload, 1) := by decide +kernel
theorem d_Rf_told_97 : decode b_Rf_told 97 = .ok (.ireturn, 1) := by decide +kernel
theorem d_Rf_told_98 : decode b_Rf_told 98 = .ok (.bipush (-2), 2) := by decide +kernel
theorem d_Rf_told_100 : decode b_Rf_told 100 = .ok (.ireturn, 1) := by decide +kernel
theorem d_Rf_part_0 : decode b_Rf_part 0 = .ok (.aload_n 0, 1) := by decide +kernel
theorem d_Rf_part_1 : decode b_Rf_part 1 = .ok (.getfield 19, 3) := by decide +kernel
theorem d_Rf_part_4 : decode b_Rf_part 4 = .ok (.iload_n 1, 1) := by decide +kernel
theorem d_Rf_part_5 : decode b_Rf_part 5 = .ok (.invokevirtual 136, 3) := by decide +kernel
theorem d_Rf_part_8 : decode b_Rf_part 8 = .ok (.ifCond .eq 20, 3) := by decide +kernel
theorem d_Rf_part_11 : decode b_Rf_part 11 = .ok (.iload_n 2, 1) := by decide +kernel
theorem d_Rf_part_12 : decode b_Rf_part 12 = .ok (.ifCond .lt 16, 3) := by decide +kernel
theorem d_Rf_part_15 : decode b_Rf_part 15 = .ok (.iload_n 2, 1) := by decide +kernel
theorem d_Rf_part_16 : decode b_Rf_part 16 = .ok (.aload_n 0, 1) := by decide +kernel
theorem d_Rf_part_17 : decode b_Rf_part 17 = .ok (.getfield 19, 3) := by decide +kernel
theorem d_Rf_part_20 : decode b_Rf_part 20 = .ok (.getfield 140, 3) := by decide +kernel
theorem d_Rf_part_23 : decode b_Rf_part 23 = .ok (.iload_n 1, 1) := by decide +kernel
theorem d_Rf_part_24 : decode b_Rf_part 24 = .ok (.iaload, 1) := by decide +kernel
theorem d_Rf_part_25 : decode b_Rf_part 25 = .ok (.if_icmp .lt 6, 3) := by decide +kernel
theorem d_Rf_part_28 : decode b_Rf_part 28 = .ok (.bipush (-2), 2) := by decide +kernel
theorem d_Rf_part_30 : decode b_Rf_part 30 = .ok (.ireturn, 1) := by decide +kernel
theorem d_Rf_part_31 : decode b_Rf_part 31 = .ok (.aload_n 0, 1) := by decide +kernel
theorem d_Rf_part_32 : decode b_Rf_part 32 = .ok (.getfield 19, 3) := by decide +kernel
theorem d_Rf_part_35 : decode b_Rf_part 35 = .ok (.iload_n 1, 1) := by decide +kernel
theorem d_Rf_part_36 : decode b_Rf_part 36 = .ok (.iload_n 2, 1) := by decide +kernel
theorem d_Rf_part_37 : decode b_Rf_part 37 = .ok (.invokevirtual 148, 3) := by decide +kernel
theorem d_Rf_part_40 : decode b_Rf_part 40 = .ok (.ireturn, 1) := by decide +kernel
theorem d_Rf_of_0 : decode b_Rf_of 0 = .ok (.iload_n 1, 1) := by decide +kernel
theorem d_Rf_of_1 : decode b_Rf_of 1 = .ok (.tableswitch 77 0 3 #[31, 39, 47, 69], 31) := by decide +kernel
theorem d_Rf_of_32 : decode b_Rf_of 32 = .ok (.aload_n 0, 1) := by decide +kernel
theorem d_Rf_of_33 : decode b_Rf_of 33 = .ok (.getfield 19, 3) := by decide +kernel
theorem d_Rf_of_36 : decode b_Rf_of 36 = .ok (.getfield 39, 3) := by decide +kernel
theorem d_Rf_of_39 : decode b_Rf_of 39 = .ok (.ireturn, 1) := by decide +kernel
theorem d_Rf_of_40 : decode b_Rf_of 40 = .ok (.aload_n 0, 1) := by decide +kernel
theorem d_Rf_of_41 : decode b_Rf_of 41 = .ok (.getfield 15, 3) := by decide +kernel
theorem d_Rf_of_44 : decode b_Rf_of 44 = .ok (.getfield 55, 3) := by decide +kernel
theorem d_Rf_of_47 : decode b_Rf_of 47 = .ok (.ireturn, 1) := by decide +kernel
theorem d_Rf_of_48 : decode b_Rf_of 48 = .ok (.aload_n 0, 1) := by decide +kernel
theorem d_Rf_of_49 : decode b_Rf_of 49 = .ok (.getfield 26, 3) := by decide +kernel
theorem d_Rf_of_52 : decode b_Rf_of 52 = .ok (.invokevirtual 91, 3) := by decide +kernel
theorem d_Rf_of_55 : decode b_Rf_of 55 = .ok (.ifCond .eq 13, 3) := by decide +kernel
theorem d_Rf_of_58 : decode b_Rf_of 58 = .ok (.aload_n 0, 1) := by decide +kernel
theorem d_Rf_of_59 : decode b_Rf_of 59 = .ok (.getfield 26, 3) := by decide +kernel
theorem d_Rf_of_62 : decode b_Rf_of 62 = .ok (.getfield 109, 3) := by decide +kernel
theorem d_Rf_of_65 : decode b_Rf_of 65 = .ok (.goto 4, 3) := by decide +kernel
theorem d_Rf_of_68 : decode b_Rf_of 68 = .ok (.iconst (-1), 1) := by decide +kernel
theorem d_Rf_of_69 : decode b_Rf_of 69 = .ok (.ireturn, 1) := by decide +kernel
theorem d_Rf_of_70 : decode b_Rf_of 70 = .ok (.aload_n 0, 1) := by decide +kernel
theorem d_Rf_of_71 : decode b_Rf_of 71 = .ok (.getfield 35, 3) := by decide +kernel
theorem d_Rf_of_74 : decode b_Rf_of 74 = .ok (.getfield 151, 3) := by decide +kernel
theorem d_Rf_of_77 : decode b_Rf_of 77 = .ok (.ireturn, 1) := by decide +kernel
theorem d_Rf_of_78 : decode b_Rf_of 78 = .ok (.bipush (-2), 2) := by decide +kernel
theorem d_Rf_of_80 : decode b_Rf_of 80 = .ok (.ireturn, 1) := by decide +kernel
theorem d_Rf_check_0 : decode b_Rf_check 0 = .ok (.aload_n 0, 1) := by decide +kernel
theorem d_Rf_check_1 : decode b_Rf_check 1 = .ok (.getfield 19, 3) := by decide +kernel
theorem d_Rf_check_4 : decode b_Rf_check 4 = .ok (.iload_n 1, 1) := by decide +kernel
theorem d_Rf_check_5 : decode b_Rf_check 5 = .ok (.invokevirtual 136, 3) := by decide +kernel
theorem d_Rf_check_8 : decode b_Rf_check 8 = .ok (.ifCond .ne 6, 3) := by decide +kernel
theorem d_Rf_check_11 : decode b_Rf_check 11 = .ok (.bipush (-2), 2) := by decide +kernel
theorem d_Rf_check_13 : decode b_Rf_check 13 = .ok (.ireturn, 1) := by decide +kernel
theorem d_Rf_check_14 : decode b_Rf_check 14 = .ok (.aload_n 0, 1) := by decide +kernel
theorem d_Rf_check_15 : decode b_Rf_check 15 = .ok (.getfield 35, 3) := by decide +kernel
theorem d_Rf_check_18 : decode b_Rf_check 18 = .ok (.iload_n 1, 1) := by decide +kernel
theorem d_Rf_check_19 : decode b_Rf_check 19 = .ok (.invokevirtual 154, 3) := by decide +kernel
theorem d_Rf_check_22 : decode b_Rf_check 22 = .ok (.aload_n 0, 1) := by decide +kernel
theorem d_Rf_check_23 : decode b_Rf_check 23 = .ok (.getfield 35, 3) := by decide +kernel
theorem d_Rf_check_26 : decode b_Rf_check 26 = .ok (.getfield 157, 3) := by decide +kernel
theorem d_Rf_check_29 : decode b_Rf_check 29 = .ok (.ireturn, 1) := by decide +kernel
theorem d_Rf_fault_0 : decode b_Rf_fault 0 = .ok (.iload_n 1, 1) := by decide +kernel
theorem d_Rf_fault_1 : decode b_Rf_fault 1 = .ok (.ifCond .lt 23, 3) := by decide +kernel
theorem d_Rf_fault_4 : decode b_Rf_fault 4 = .ok (.iload_n 1, 1) := by decide +kernel
theorem d_Rf_fault_5 : decode b_Rf_fault 5 = .ok (.aload_n 0, 1) := by decide +kernel
theorem d_Rf_fault_6 : decode b_Rf_fault 6 = .ok (.getfield 35, 3) := by decide +kernel
theorem d_Rf_fault_9 : decode b_Rf_fault 9 = .ok (.getfield 157, 3) := by decide +kernel
theorem d_Rf_fault_12 : decode b_Rf_fault 12 = .ok (.if_icmp .ge 12, 3) := by decide +kernel
theorem d_Rf_fault_15 : decode b_Rf_fault 15 = .ok (.iload_n 2, 1) := by decide +kernel
theorem d_Rf_fault_16 : decode b_Rf_fault 16 = .ok (.ifCond .lt 8, 3) := by decide +kernel
theorem d_Rf_fault_19 : decode b_Rf_fault 19 = .ok (.iload_n 2, 1) := by decide +kernel
theorem d_Rf_fault_20 : decode b_Rf_fault 20 = .ok (.iconst 1, 1) := by decide +kernel
theorem d_Rf_fault_21 : decode b_Rf_fault 21 = .ok (.if_icmp .le 6, 3) := by decide +kernel
theorem d_Rf_fault_24 : decode b_Rf_fault 24 = .ok (.bipush (-2), 2) := by decide +kernel
theorem d_Rf_fault_26 : decode b_Rf_fault 26 = .ok (.ireturn, 1) := by decide +kernel
theorem d_Rf_fault_27 : decode b_Rf_fault 27 = .ok (.iload_n 2, 1) := by decide +kernel
theorem d_Rf_fault_28 : decode b_Rf_fault 28 = .ok (.ifCond .ne 15, 3) := by decide +kernel
theorem d_Rf_fault_31 : decode b_Rf_fault 31 = .ok (.aload_n 0, 1) := by decide +kernel
theorem d_Rf_fault_32 : decode b_Rf_fault 32 = .ok (.getfield 35, 3) := by decide +kernel
theorem d_Rf_fault_35 : decode b_Rf_fault 35 = .ok (.getfield 160, 3) := by decide +kernel
theorem d_Rf_fault_38 : decode b_Rf_fault 38 = .ok (.iload_n 1, 1) := by decide +kernel
theorem d_Rf_fault_39 : decode b_Rf_fault 39 = .ok (.iaload, 1) := by decide +kernel
theorem d_Rf_fault_40 : decode b_Rf_fault 40 = .ok (.goto 12, 3) := by decide +kernel
theorem d_Rf_fault_43 : decode b_Rf_fault 43 = .ok (.aload_n 0, 1) := by decide +kernel
theorem d_Rf_fault_44 : decode b_Rf_fault 44 = .ok (.getfield 35, 3) := by decide +kernel
theorem d_Rf_fault_47 : decode b_Rf_fault 47 = .ok (.getfield 163, 3) := by decide +kernel
theorem d_Rf_fault_50 : decode b_Rf_fault 50 = .ok (.iload_n 1, 1) := by decide +kernel
theorem d_Rf_fault_51 : decode b_Rf_fault 51 = .ok (.iaload, 1) := by decide +kernel
theorem d_Rf_fault_52 : decode b_Rf_fault 52 = .ok (.ireturn, 1) := by decide +kernel
theorem d_Rf_notes_0 : decode b_Rf_notes 0 = .ok (.aload_n 0, 1) := by decide +kernel
theorem d_Rf_notes_1 : decode b_Rf_notes 1 = .ok (.getfield 35, 3) := by decide +kernel
theorem d_Rf_notes_4 : decode b_Rf_notes 4 = .ok (.getfield 166, 3) := by decide +kernel
theorem d_Rf_notes_7 : decode b_Rf_notes 7 = .ok (.ireturn, 1) := by decide +kernel
theorem d_Rf_note_0 : decode b_Rf_note 0 = .ok (.iload_n 1, 1) := by decide +kernel
theorem d_Rf_note_1 : decode b_Rf_note 1 = .ok (.ifCond .lt 14, 3) := by decide +kernel
theorem d_Rf_note_4 : decode b_Rf_note 4 = .ok (.iload_n 1, 1) := by decide +kernel
theorem d_Rf_note_5 : decode b_Rf_note 5 = .ok (.aload_n 0, 1) := by decide +kernel
theorem d_Rf_note_6 : decode b_Rf_note 6 = .ok (.getfield 35, 3) := by decide +kernel
theorem d_Rf_note_9 : decode b_Rf_note 9 = .ok (.getfield 166, 3) := by decide +kernel
theorem d_Rf_note_12 : decode b_Rf_note 12 = .ok (.if_icmp .lt 8, 3) := by decide +kernel
theorem d_Rf_note_15 : decode b_Rf_note 15 = .ok (.bipush (-2), 2) := by decide +kernel
theorem d_Rf_note_17 : decode b_Rf_note 17 = .ok (.goto 12, 3) := by decide +kernel
theorem d_Rf_note_20 : decode b_Rf_note 20 = .ok (.aload_n 0, 1) := by decide +kernel
theorem d_Rf_note_21 : decode b_Rf_note 21 = .ok (.getfield 35, 3) := by decide +kernel
theorem d_Rf_note_24 : decode b_Rf_note 24 = .ok (.getfield 169, 3) := by decide +kernel
theorem d_Rf_note_27 : decode b_Rf_note 27 = .ok (.iload_n 1, 1) := by decide +kernel
theorem d_Rf_note_28 : decode b_Rf_note 28 = .ok (.iaload, 1) := by decide +kernel
theorem d_Rf_note_29 : decode b_Rf_note 29 = .ok (.ireturn, 1) := by decide +kernel
theorem d_Rf_reached_0 : decode b_Rf_reached 0 = .ok (.aload_n 0, 1) := by decide +kernel
theorem d_Rf_reached_1 : decode b_Rf_reached 1 = .ok (.getfield 19, 3) := by decide +kernel
theorem d_Rf_reached_4 : decode b_Rf_reached 4 = .ok (.iload_n 1, 1) := by decide +kernel
theorem d_Rf_reached_5 : decode b_Rf_reached 5 = .ok (.invokevirtual 136, 3) := by decide +kernel
theorem d_Rf_reached_8 : decode b_Rf_reached 8 = .ok (.ifCond .eq 21, 3) := by decide +kernel
theorem d_Rf_reached_11 : decode b_Rf_reached 11 = .ok (.aload_n 0, 1) := by decide +kernel
theorem d_Rf_reached_12 : decode b_Rf_reached 12 = .ok (.getfield 35, 3) := by decide +kernel
theorem d_Rf_reached_15 : decode b_Rf_reached 15 = .ok (.getfield 172, 3) := by decide +kernel
theorem d_Rf_reached_18 : decode b_Rf_reached 18 = .ok (.iload_n 1, 1) := by decide +kernel
theorem d_Rf_reached_19 : decode b_Rf_reached 19 = .ok (.invokevirtual 176, 3) := by decide +kernel
theorem d_Rf_reached_22 : decode b_Rf_reached 22 = .ok (.ifCond .eq 7, 3) := by decide +kernel
theorem d_Rf_reached_25 : decode b_Rf_reached 25 = .ok (.iconst 1, 1) := by decide +kernel
theorem d_Rf_reached_26 : decode b_Rf_reached 26 = .ok (.goto 4, 3) := by decide +kernel
theorem d_Rf_reached_29 : decode b_Rf_reached 29 = .ok (.iconst 0, 1) := by decide +kernel
theorem d_Rf_reached_30 : decode b_Rf_reached 30 = .ok (.ireturn, 1) := by decide +kernel
theorem d_Rf_completes_0 : decode b_Rf_completes 0 = .ok (.aload_n 0, 1) := by decide +kernel
theorem d_Rf_completes_1 : decode b_Rf_completes 1 = .ok (.getfield 19, 3) := by decide +kernel
theorem d_Rf_completes_4 : decode b_Rf_completes 4 = .ok (.iload_n 1, 1) := by decide +kernel
theorem d_Rf_completes_5 : decode b_Rf_completes 5 = .ok (.invokevirtual 136, 3) := by decide +kernel
theorem d_Rf_completes_8 : decode b_Rf_completes 8 = .ok (.ifCond .eq 35, 3) := by decide +kernel
theorem d_Rf_completes_11 : decode b_Rf_completes 11 = .ok (.aload_n 0, 1) := by decide +kernel
theorem d_Rf_completes_12 : decode b_Rf_completes 12 = .ok (.getfield 35, 3) := by decide +kernel
theorem d_Rf_completes_15 : decode b_Rf_completes 15 = .ok (.getfield 172, 3) := by decide +kernel
theorem d_Rf_completes_18 : decode b_Rf_completes 18 = .ok (.iload_n 1, 1) := by decide +kernel
theorem d_Rf_completes_19 : decode b_Rf_completes 19 = .ok (.invokevirtual 176, 3) := by decide +kernel
theorem d_Rf_completes_22 : decode b_Rf_completes 22 = .ok (.ifCond .eq 21, 3) := by decide +kernel
theorem d_Rf_completes_25 : decode b_Rf_completes 25 = .ok (.aload_n 0, 1) := by decide +kernel
theorem d_Rf_completes_26 : decode b_Rf_completes 26 = .ok (.getfield 35, 3) := by decide +kernel
theorem d_Rf_completes_29 : decode b_Rf_completes 29 = .ok (.getfield 172, 3) := by decide +kernel
theorem d_Rf_completes_32 : decode b_Rf_completes 32 = .ok (.iload_n 1, 1) := by decide +kernel
theorem d_Rf_completes_33 : decode b_Rf_completes 33 = .ok (.invokevirtual 181, 3) := by decide +kernel
theorem d_Rf_completes_36 : decode b_Rf_completes 36 = .ok (.ifCond .eq 7, 3) := by decide +kernel
theorem d_Rf_completes_39 : decode b_Rf_completes 39 = .ok (.iconst 1, 1) := by decide +kernel
theorem d_Rf_completes_40 : decode b_Rf_completes 40 = .ok (.goto 4, 3) := by decide +kernel
theorem d_Rf_completes_43 : decode b_Rf_completes 43 = .ok (.iconst 0, 1) := by decide +kernel
theorem d_Rf_completes_44 : decode b_Rf_completes 44 = .ok (.ireturn, 1) := by decide +kernel
theorem d_Rf_can_0 : decode b_Rf_can 0 = .ok (.aload_n 0, 1) := by decide +kernel
theorem d_Rf_can_1 : decode b_Rf_can 1 = .ok (.getfield 19, 3) := by decide +kernel
theorem d_Rf_can_4 : decode b_Rf_can 4 = .ok (.iload_n 1, 1) := by decide +kernel
theorem d_Rf_can_5 : decode b_Rf_can 5 = .ok (.invokevirtual 136, 3) := by decide +kernel
theorem d_Rf_can_8 : decode b_Rf_can 8 = .ok (.ifCond .eq 14, 3) := by decide +kernel
theorem d_Rf_can_11 : decode b_Rf_can 11 = .ok (.aload_n 0, 1) := by decide +kernel
theorem d_Rf_can_12 : decode b_Rf_can 12 = .ok (.getfield 15, 3) := by decide +kernel
theorem d_Rf_can_15 : decode b_Rf_can 15 = .ok (.iload_n 2, 1) := by decide +kernel
theorem d_Rf_can_16 : decode b_Rf_can 16 = .ok (.invokevirtual 51, 3) := by decide +kernel
theorem d_Rf_can_19 : decode b_Rf_can 19 = .ok (.ifCond .ne 6, 3) := by decide +kernel
theorem d_Rf_can_22 : decode b_Rf_can 22 = .ok (.bipush (-2), 2) := by decide +kernel
theorem d_Rf_can_24 : decode b_Rf_can 24 = .ok (.ireturn, 1) := by decide +kernel
theorem d_Rf_can_25 : decode b_Rf_can 25 = .ok (.aload_n 0, 1) := by decide +kernel
theorem d_Rf_can_26 : decode b_Rf_can 26 = .ok (.getfield 35, 3) := by decide +kernel
theorem d_Rf_can_29 : decode b_Rf_can 29 = .ok (.getfield 172, 3) := by decide +kernel
theorem d_Rf_can_32 : decode b_Rf_can 32 = .ok (.iload_n 1, 1) := by decide +kernel
theorem d_Rf_can_33 : decode b_Rf_can 33 = .ok (.invokevirtual 176, 3) := by decide +kernel
theorem d_Rf_can_36 : decode b_Rf_can 36 = .ok (.ifCond .eq 27, 3) := by decide +kernel
theorem d_Rf_can_39 : decode b_Rf_can 39 = .ok (.aload_n 0, 1) := by decide +kernel
theorem d_Rf_can_40 : decode b_Rf_can 40 = .ok (.getfield 35, 3) := by decide +kernel
theorem d_Rf_can_43 : decode b_Rf_can 43 = .ok (.getfield 172, 3) := by decide +kernel
theorem d_Rf_can_46 : decode b_Rf_can 46 = .ok (.getfield 184, 3) := by decide +kernel
theorem d_Rf_can_49 : decode b_Rf_can 49 = .ok (.iload_n 1, 1) := by decide +kernel
theorem d_Rf_can_50 : decode b_Rf_can 50 = .ok (.iaload, 1) := by decide +kernel
theorem d_Rf_can_51 : decode b_Rf_can 51 = .ok (.i2l, 1) := by decide +kernel
theorem d_Rf_can_52 : decode b_Rf_can 52 = .ok (.iload_n 2, 1) := by decide +kernel
theorem d_Rf_can_53 : decode b_Rf_can 53 = .ok (.invokestatic 187, 3) := by decide +kernel
theorem d_Rf_can_56 : decode b_Rf_can 56 = .ok (.ifCond .eq 7, 3) := by decide +kernel
theorem d_Rf_can_59 : decode b_Rf_can 59 = .ok (.iconst 1, 1) := by decide +kernel
theorem d_Rf_can_60 : decode b_Rf_can 60 = .ok (.goto 4, 3) := by decide +kernel
theorem d_Rf_can_63 : decode b_Rf_can 63 = .ok (.iconst 0, 1) := by decide +kernel
theorem d_Rf_can_64 : decode b_Rf_can 64 = .ok (.ireturn, 1) := by decide +kernel
theorem d_Rf_target_0 : decode b_Rf_target 0 = .ok (.aload_n 0, 1) := by decide +kernel
theorem d_Rf_target_1 : decode b_Rf_target 1 = .ok (.getfield 19, 3) := by decide +kernel
theorem d_Rf_target_4 : decode b_Rf_target 4 = .ok (.iload_n 1, 1) := by decide +kernel
theorem d_Rf_target_5 : decode b_Rf_target 5 = .ok (.invokevirtual 136, 3) := by decide +kernel
theorem d_Rf_target_8 : decode b_Rf_target 8 = .ok (.ifCond .eq 15, 3) := by decide +kernel
theorem d_Rf_target_11 : decode b_Rf_target 11 = .ok (.aload_n 0, 1) := by decide +kernel
theorem d_Rf_target_12 : decode b_Rf_target 12 = .ok (.getfield 35, 3) := by decide +kernel
theorem d_Rf_target_15 : decode b_Rf_target 15 = .ok (.getfield 191, 3) := by decide +kernel
theorem d_Rf_target_18 : decode b_Rf_target 18 = .ok (.iload_n 1, 1) := by decide +kernel
theorem d_Rf_target_19 : decode b_Rf_target 19 = .ok (.iaload, 1) := by decide +kernel
theorem d_Rf_target_20 : decode b_Rf_target 20 = .ok (.goto 5, 3) := by decide +kernel
theorem d_Rf_target_23 : decode b_Rf_target 23 = .ok (.bipush (-2), 2) := by decide +kernel
theorem d_Rf_target_25 : decode b_Rf_target 25 = .ok (.ireturn, 1) := by decide +kernel
theorem d_Rf_walked_0 : decode b_Rf_walked 0 = .ok (.aload_n 0, 1) := by decide +kernel
theorem d_Rf_walked_1 : decode b_Rf_walked 1 = .ok (.getfield 19, 3) := by decide +kernel
theorem d_Rf_walked_4 : decode b_Rf_walked 4 = .ok (.iload_n 1, 1) := by decide +kernel
theorem d_Rf_walked_5 : decode b_Rf_walked 5 = .ok (.invokevirtual 136, 3) := by decide +kernel
theorem d_Rf_walked_8 : decode b_Rf_walked 8 = .ok (.ifCond .eq 21, 3) := by decide +kernel
theorem d_Rf_walked_11 : decode b_Rf_walked 11 = .ok (.aload_n 0, 1) := by decide +kernel
theorem d_Rf_walked_12 : decode b_Rf_walked 12 = .ok (.getfield 35, 3) := by decide +kernel
theorem d_Rf_walked_15 : decode b_Rf_walked 15 = .ok (.getfield 194, 3) := by decide +kernel
theorem d_Rf_walked_18 : decode b_Rf_walked 18 = .ok (.iload_n 1, 1) := by decide +kernel
theorem d_Rf_walked_19 : decode b_Rf_walked 19 = .ok (.invokevirtual 176, 3) := by decide +kernel
theorem d_Rf_walked_22 : decode b_Rf_walked 22 = .ok (.ifCond .eq 7, 3) := by decide +kernel
theorem d_Rf_walked_25 : decode b_Rf_walked 25 = .ok (.iconst 1, 1) := by decide +kernel
theorem d_Rf_walked_26 : decode b_Rf_walked 26 = .ok (.goto 4, 3) := by decide +kernel
theorem d_Rf_walked_29 : decode b_Rf_walked 29 = .ok (.iconst 0, 1) := by decide +kernel
theorem d_Rf_walked_30 : decode b_Rf_walked 30 = .ok (.ireturn, 1) := by decide +kernel
theorem d_Rf_ends_0 : decode b_Rf_ends 0 = .ok (.aload_n 0, 1) := by decide +kernel
theorem d_Rf_ends_1 : decode b_Rf_ends 1 = .ok (.getfield 19, 3) := by decide +kernel
theorem d_Rf_ends_4 : decode b_Rf_ends 4 = .ok (.iload_n 1, 1) := by decide +kernel
theorem d_Rf_ends_5 : decode b_Rf_ends 5 = .ok (.invokevirtual 136, 3) := by decide +kernel
theorem d_Rf_ends_8 : decode b_Rf_ends 8 = .ok (.ifCond .eq 12, 3) := by decide +kernel
theorem d_Rf_ends_11 : decode b_Rf_ends 11 = .ok (.aload_n 0, 1) := by decide +kernel
theorem d_Rf_ends_12 : decode b_Rf_ends 12 = .ok (.iload_n 2, 1) := by decide +kernel
theorem d_Rf_ends_13 : decode b_Rf_ends 13 = .ok (.iload_n 3, 1) := by decide +kernel
theorem d_Rf_ends_14 : decode b_Rf_ends 14 = .ok (.invokevirtual 197, 3) := by decide +kernel
theorem d_Rf_ends_17 : decode b_Rf_ends 17 = .ok (.ifCond .ne 6, 3) := by decide +kernel
theorem d_Rf_ends_20 : decode b_Rf_ends 20 = .ok (.bipush (-2), 2) := by decide +kernel
theorem d_Rf_ends_22 : decode b_Rf_ends 22 = .ok (.ireturn, 1) := by decide +kernel
theorem d_Rf_ends_23 : decode b_Rf_ends 23 = .ok (.aload_n 0, 1) := by decide +kernel
theorem d_Rf_ends_24 : decode b_Rf_ends 24 = .ok (.getfield 35, 3) := by decide +kernel
theorem d_Rf_ends_27 : decode b_Rf_ends 27 = .ok (.getfield 194, 3) := by decide +kernel
theorem d_Rf_ends_30 : decode b_Rf_ends 30 = .ok (.iload_n 1, 1) := by decide +kernel
theorem d_Rf_ends_31 : decode b_Rf_ends 31 = .ok (.invokevirtual 176, 3) := by decide +kernel
theorem d_Rf_ends_34 : decode b_Rf_ends 34 = .ok (.ifCond .eq 23, 3) := by decide +kernel
theorem d_Rf_ends_37 : decode b_Rf_ends 37 = .ok (.aload_n 0, 1) := by decide +kernel
theorem d_Rf_ends_38 : decode b_Rf_ends 38 = .ok (.getfield 35, 3) := by decide +kernel
theorem d_Rf_ends_41 : decode b_Rf_ends 41 = .ok (.getfield 194, 3) := by decide +kernel
theorem d_Rf_ends_44 : decode b_Rf_ends 44 = .ok (.iload_n 1, 1) := by decide +kernel
theorem d_Rf_ends_45 : decode b_Rf_ends 45 = .ok (.iload_n 2, 1) := by decide +kernel
theorem d_Rf_ends_46 : decode b_Rf_ends 46 = .ok (.iload_n 3, 1) := by decide +kernel
theorem d_Rf_ends_47 : decode b_Rf_ends 47 = .ok (.invokevirtual 200, 3) := by decide +kernel
theorem d_Rf_ends_50 : decode b_Rf_ends 50 = .ok (.ifCond .eq 7, 3) := by decide +kernel
theorem d_Rf_ends_53 : decode b_Rf_ends 53 = .ok (.iconst 1, 1) := by decide +kernel
theorem d_Rf_ends_54 : decode b_Rf_ends 54 = .ok (.goto 4, 3) := by decide +kernel
theorem d_Rf_ends_57 : decode b_Rf_ends 57 = .ok (.iconst 0, 1) := by decide +kernel
theorem d_Rf_ends_58 : decode b_Rf_ends 58 = .ok (.ireturn, 1) := by decide +kernel
theorem d_Rf_fitsWhich_0 : decode b_Rf_fitsWhich 0 = .ok (.iload_n 1, 1) := by decide +kernel
theorem d_Rf_fitsWhich_1 : decode b_Rf_fitsWhich 1 = .ok (.tableswitch 63 0 4 #[35, 35, 45, 45, 54], 35) := by decide +kernel
theorem d_Rf_fitsWhich_36 : decode b_Rf_fitsWhich 36 = .ok (.iload_n 2, 1) := by decide +kernel
theorem d_Rf_fitsWhich_37 : decode b_Rf_fitsWhich 37 = .ok (.ifCond .ne 7, 3) := by decide +kernel
theorem d_Rf_fitsWhich_40 : decode b_Rf_fitsWhich 40 = .ok (.iconst 1, 1) := by decide +kernel
theorem d_Rf_fitsWhich_41 : decode b_Rf_fitsWhich 41 = .ok (.goto 4, 3) := by decide +kernel
theorem d_Rf_fitsWhich_44 : decode b_Rf_fitsWhich 44 = .ok (.iconst 0, 1) := by decide +kernel
theorem d_Rf_fitsWhich_45 : decode b_Rf_fitsWhich 45 = .ok (.ireturn, 1) := by decide +kernel
theorem d_Rf_fitsWhich_46 : decode b_Rf_fitsWhich 46 = .ok (.aload_n 0, 1) := by decide +kernel
theorem d_Rf_fitsWhich_47 : decode b_Rf_fitsWhich 47 = .ok (.getfield 19, 3) := by decide +kernel
theorem d_Rf_fitsWhich_50 : decode b_Rf_fitsWhich 50 = .ok (.iload_n 2, 1) := by decide +kernel
theorem d_Rf_fitsWhich_51 : decode b_Rf_fitsWhich 51 = .ok (.invokevirtual 136, 3) := by decide +kernel
theorem d_Rf_fitsWhich_54 : decode b_Rf_fitsWhich 54 = .ok (.ireturn, 1) := by decide +kernel
theorem d_Rf_fitsWhich_55 : decode b_Rf_fitsWhich 55 = .ok (.aload_n 0, 1) := by decide +kernel
theorem d_Rf_fitsWhich_56 : decode b_Rf_fitsWhich 56 = .ok (.getfield 15, 3) := by decide +kernel
theorem d_Rf_fitsWhich_59 : decode b_Rf_fitsWhich 59 = .ok (.iload_n 2, 1) := by decide +kernel
theorem d_Rf_fitsWhich_60 : decode b_Rf_fitsWhich 60 = .ok (.invokevirtual 51, 3) := by decide +kernel
theorem d_Rf_fitsWhich_63 : decode b_Rf_fitsWhich 63 = .ok (.ireturn, 1) := by decide +kernel
theorem d_Rf_fitsWhich_64 : decode b_Rf_fitsWhich 64 = .ok (.iconst 0, 1) := by decide +kernel
theorem d_Rf_fitsWhich_65 : decode b_Rf_fitsWhich 65 = .ok (.ireturn, 1) := by decide +kernel
theorem d_Rf_member_0 : decode b_Rf_member 0 = .ok (.aload_n 0, 1) := by decide +kernel
theorem d_Rf_member_1 : decode b_Rf_member 1 = .ok (.getfield 19, 3) := by decide +kernel
theorem d_Rf_member_4 : decode b_Rf_member 4 = .ok (.iload_n 1, 1) := by decide +kernel
theorem d_Rf_member_5 : decode b_Rf_member 5 = .ok (.invokevirtual 136, 3) := by decide +kernel
theorem d_Rf_member_8 : decode b_Rf_member 8 = .ok (.ifCond .eq 12, 3) := by decide +kernel
theorem d_Rf_member_11 : decode b_Rf_member 11 = .ok (.iload_n 2, 1) := by decide +kernel
theorem d_Rf_member_12 : decode b_Rf_member 12 = .ok (.ifCond .lt 8, 3) := by decide +kernel
theorem d_Rf_member_15 : decode b_Rf_member 15 = .ok (.iload_n 2, 1) := by decide +kernel
theorem d_Rf_member_16 : decode b_Rf_member 16 = .ok (.iconst 3, 1) := by decide +kernel
theorem d_Rf_member_17 : decode b_Rf_member 17 = .ok (.if_icmp .le 6, 3) := by decide +kernel
theorem d_Rf_member_20 : decode b_Rf_member 20 = .ok (.bipush (-2), 2) := by decide +kernel
theorem d_Rf_member_22 : decode b_Rf_member 22 = .ok (.ireturn, 1) := by decide +kernel
theorem d_Rf_member_23 : decode b_Rf_member 23 = .ok (.aload_n 0, 1) := by decide +kernel
theorem d_Rf_member_24 : decode b_Rf_member 24 = .ok (.getfield 35, 3) := by decide +kernel
theorem d_Rf_member_27 : decode b_Rf_member 27 = .ok (.iload_n 1, 1) := by decide +kernel
theorem d_Rf_member_28 : decode b_Rf_member 28 = .ok (.invokevirtual 154, 3) := by decide +kernel
theorem d_Rf_member_31 : decode b_Rf_member 31 = .ok (.aload_n 0, 1) := by decide +kernel
theorem d_Rf_member_32 : decode b_Rf_member 32 = .ok (.getfield 35, 3) := by decide +kernel
theorem d_Rf_member_35 : decode b_Rf_member 35 = .ok (.getfield 157, 3) := by decide +kernel
theorem d_Rf_member_38 : decode b_Rf_member 38 = .ok (.ifCond .le 15, 3) := by decide +kernel
theorem d_Rf_member_41 : decode b_Rf_member 41 = .ok (.aload_n 0, 1) := by decide +kernel
theorem d_Rf_member_42 : decode b_Rf_member 42 = .ok (.getfield 35, 3) := by decide +kernel
theorem d_Rf_member_45 : decode b_Rf_member 45 = .ok (.getfield 160, 3) := by decide +kernel
theorem d_Rf_member_48 : decode b_Rf_member 48 = .ok (.iconst 0, 1) := by decide +kernel
theorem d_Rf_member_49 : decode b_Rf_member 49 = .ok (.iaload, 1) := by decide +kernel
theorem d_Rf_member_50 : decode b_Rf_member 50 = .ok (.goto 9, 3) := by decide +kernel
theorem d_Rf_member_53 : decode b_Rf_member 53 = .ok (.aload_n 0, 1) := by decide +kernel
theorem d_Rf_member_54 : decode b_Rf_member 54 = .ok (.iload_n 1, 1) := by decide +kernel
theorem d_Rf_member_55 : decode b_Rf_member 55 = .ok (.iload_n 2, 1) := by decide +kernel
theorem d_Rf_member_56 : decode b_Rf_member 56 = .ok (.invokevirtual 204, 3) := by decide +kernel
theorem d_Rf_member_59 : decode b_Rf_member 59 = .ok (.ireturn, 1) := by decide +kernel
theorem d_Rf_judge_0 : decode b_Rf_judge 0 = .ok (.aload_n 0, 1) := by decide +kernel
theorem d_Rf_judge_1 : decode b_Rf_judge 1 = .ok (.getfield 35, 3) := by decide +kernel
theorem d_Rf_judge_4 : decode b_Rf_judge 4 = .ok (.iconst 1, 1) := by decide +kernel
theorem d_Rf_judge_5 : decode b_Rf_judge 5 = .ok (.invokevirtual 207, 3) := by decide +kernel
theorem d_Rf_judge_8 : decode b_Rf_judge 8 = .ok (.istore_n 3, 1) := by decide +kernel
theorem d_Rf_judge_9 : decode b_Rf_judge 9 = .ok (.aload_n 0, 1) := by decide +kernel
theorem d_Rf_judge_10 : decode b_Rf_judge 10 = .ok (.getfield 35, 3) := by decide +kernel
theorem d_Rf_judge_13 : decode b_Rf_judge 13 = .ok (.iconst 0, 1) := by decide +kernel
theorem d_Rf_judge_14 : decode b_Rf_judge 14 = .ok (.invokevirtual 207, 3) := by decide +kernel
theorem d_Rf_judge_17 : decode b_Rf_judge 17 = .ok (.istore 4, 2) := by decide +kernel
theorem d_Rf_judge_19 : decode b_Rf_judge 19 = .ok (.aload_n 0, 1) := by decide +kernel
theorem d_Rf_judge_20 : decode b_Rf_judge 20 = .ok (.getfield 35, 3) := by decide +kernel
theorem d_Rf_judge_23 : decode b_Rf_judge 23 = .ok (.getfield 172, 3) := by decide +kernel
theorem d_Rf_judge_26 : decode b_Rf_judge 26 = .ok (.iload_n 1, 1) := by decide +kernel
theorem d_Rf_judge_27 : decode b_Rf_judge 27 = .ok (.invokevirtual 181, 3) := by decide +kernel
theorem d_Rf_judge_30 : decode b_Rf_judge 30 = .ok (.istore 5, 2) := by decide +kernel
theorem d_Rf_judge_32 : decode b_Rf_judge 32 = .ok (.iload_n 2, 1) := by decide +kernel
theorem d_Rf_judge_33 : decode b_Rf_judge 33 = .ok (.tableswitch 86 0 2 #[27, 38, 60], 27) := by decide +kernel
theorem d_Rf_judge_60 : decode b_Rf_judge 60 = .ok (.iload_n 3, 1) := by decide +kernel
theorem d_Rf_judge_61 : decode b_Rf_judge 61 = .ok (.ifCond .eq 8, 3) := by decide +kernel
theorem d_Rf_judge_64 : decode b_Rf_judge 64 = .ok (.bipush 6, 2) := by decide +kernel
theorem d_Rf_judge_66 : decode b_Rf_judge 66 = .ok (.goto 4, 3) := by decide +kernel
theorem d_Rf_judge_69 : decode b_Rf_judge 69 = .ok (.iconst 0, 1) := by decide +kernel
theorem d_Rf_judge_70 : decode b_Rf_judge 70 = .ok (.ireturn, 1) := by decide +kernel
theorem d_Rf_judge_71 : decode b_Rf_judge 71 = .ok (.iload 4, 2) := by decide +kernel
theorem d_Rf_judge_73 : decode b_Rf_judge 73 = .ok (.ifCond .eq 8, 3) := by decide +kernel
theorem d_Rf_judge_76 : decode b_Rf_judge 76 = .ok (.bipush 6, 2) := by decide +kernel
theorem d_Rf_judge_78 : decode b_Rf_judge 78 = .ok (.goto 14, 3) := by decide +kernel
theorem d_Rf_judge_81 : decode b_Rf_judge 81 = .ok (.iload 5, 2) := by decide +kernel
theorem d_Rf_judge_83 : decode b_Rf_judge 83 = .ok (.ifCond .eq 8, 3) := by decide +kernel
theorem d_Rf_judge_86 : decode b_Rf_judge 86 = .ok (.bipush 7, 2) := by decide +kernel
theorem d_Rf_judge_88 : decode b_Rf_judge 88 = .ok (.goto 4, 3) := by decide +kernel
theorem d_Rf_judge_91 : decode b_Rf_judge 91 = .ok (.iconst 0, 1) := by decide +kernel
theorem d_Rf_judge_92 : decode b_Rf_judge 92 = .ok (.ireturn, 1) := by decide +kernel
theorem d_Rf_judge_93 : decode b_Rf_judge 93 = .ok (.iload_n 3, 1) := by decide +kernel
theorem d_Rf_judge_94 : decode b_Rf_judge 94 = .ok (.ifCond .ne 8, 3) := by decide +kernel
theorem d_Rf_judge_97 : decode b_Rf_judge 97 = .ok (.iload 4, 2) := by decide +kernel
theorem d_Rf_judge_99 : decode b_Rf_judge 99 = .ok (.ifCond .eq 8, 3) := by decide +kernel
theorem d_Rf_judge_102 : decode b_Rf_judge 102 = .ok (.bipush 6, 2) := by decide +kernel
theorem d_Rf_judge_104 : decode b_Rf_judge 104 = .ok (.goto 14, 3) := by decide +kernel
theorem d_Rf_judge_107 : decode b_Rf_judge 107 = .ok (.iload 5, 2) := by decide +kernel
theorem d_Rf_judge_109 : decode b_Rf_judge 109 = .ok (.ifCond .eq 7, 3) := by decide +kernel
theorem d_Rf_judge_112 : decode b_Rf_judge 112 = .ok (.iconst 0, 1) := by decide +kernel
theorem d_Rf_judge_113 : decode b_Rf_judge 113 = .ok (.goto 5, 3) := by decide +kernel
theorem d_Rf_judge_116 : decode b_Rf_judge 116 = .ok (.bipush 8, 2) := by decide +kernel
theorem d_Rf_judge_118 : decode b_Rf_judge 118 = .ok (.ireturn, 1) := by decide +kernel
theorem d_Rf_judge_119 : decode b_Rf_judge 119 = .ok (.iload_n 3, 1) := by decide +kernel
theorem d_Rf_judge_120 : decode b_Rf_judge 120 = .ok (.ifCond .eq 18, 3) := by decide +kernel
theorem d_Rf_judge_123 : decode b_Rf_judge 123 = .ok (.iload 4, 2) := by decide +kernel
theorem d_Rf_judge_125 : decode b_Rf_judge 125 = .ok (.ifCond .ne 8, 3) := by decide +kernel
theorem d_Rf_judge_128 : decode b_Rf_judge 128 = .ok (.iload 5, 2) := by decide +kernel
theorem d_Rf_judge_130 : decode b_Rf_judge 130 = .ok (.ifCond .eq 8, 3) := by decide +kernel
theorem d_Rf_judge_133 : decode b_Rf_judge 133 = .ok (.bipush 9, 2) := by decide +kernel
theorem d_Rf_judge_135 : decode b_Rf_judge 135 = .ok (.goto 4, 3) := by decide +kernel
theorem d_Rf_judge_138 : decode b_Rf_judge 138 = .ok (.iconst 0, 1) := by decide +kernel
theorem d_Rf_judge_139 : decode b_Rf_judge 139 = .ok (.ireturn, 1) := by decide +kernel
theorem d_Rf_isIn_0 : decode b_Rf_isIn 0 = .ok (.lload_n 0, 1) := by decide +kernel
theorem d_Rf_isIn_1 : decode b_Rf_isIn 1 = .ok (.iload_n 2, 1) := by decide +kernel
theorem d_Rf_isIn_2 : decode b_Rf_isIn 2 = .ok (.lshr, 1) := by decide +kernel
theorem d_Rf_isIn_3 : decode b_Rf_isIn 3 = .ok (.lconst 1, 1) := by decide +kernel
theorem d_Rf_isIn_4 : decode b_Rf_isIn 4 = .ok (.land, 1) := by decide +kernel
theorem d_Rf_isIn_5 : decode b_Rf_isIn 5 = .ok (.lconst 0, 1) := by decide +kernel
theorem d_Rf_isIn_6 : decode b_Rf_isIn 6 = .ok (.lcmp, 1) := by decide +kernel
theorem d_Rf_isIn_7 : decode b_Rf_isIn 7 = .ok (.ifCond .eq 7, 3) := by decide +kernel
theorem d_Rf_isIn_10 : decode b_Rf_isIn 10 = .ok (.iconst 1, 1) := by decide +kernel
theorem d_Rf_isIn_11 : decode b_Rf_isIn 11 = .ok (.goto 4, 3) := by decide +kernel
theorem d_Rf_isIn_14 : decode b_Rf_isIn 14 = .ok (.iconst 0, 1) := by decide +kernel
theorem d_Rf_isIn_15 : decode b_Rf_isIn 15 = .ok (.ireturn, 1) := by decide +kernel
theorem d_Rf_isLoop_0 : decode b_Rf_isLoop 0 = .ok (.iload_n 0, 1) := by decide +kernel
theorem d_Rf_isLoop_1 : decode b_Rf_isLoop 1 = .ok (.iconst 5, 1) := by decide +kernel
theorem d_Rf_isLoop_2 : decode b_Rf_isLoop 2 = .ok (.if_icmp .lt 13, 3) := by decide +kernel
theorem d_Rf_isLoop_5 : decode b_Rf_isLoop 5 = .ok (.iload_n 0, 1) := by decide +kernel
theorem d_Rf_isLoop_6 : decode b_Rf_isLoop 6 = .ok (.bipush 8, 2) := by decide +kernel
theorem d_Rf_isLoop_8 : decode b_Rf_isLoop 8 = .ok (.if_icmp .gt 7, 3) := by decide +kernel
theorem d_Rf_isLoop_11 : decode b_Rf_isLoop 11 = .ok (.iconst 1, 1) := by decide +kernel
theorem d_Rf_isLoop_12 : decode b_Rf_isLoop 12 = .ok (.goto 4, 3) := by decide +kernel
theorem d_Rf_isLoop_15 : decode b_Rf_isLoop 15 = .ok (.iconst 0, 1) := by decide +kernel
theorem d_Rf_isLoop_16 : decode b_Rf_isLoop 16 = .ok (.ireturn, 1) := by decide +kernel
