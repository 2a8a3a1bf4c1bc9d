theorem d_Fl_goesPast_221 : decode b_Fl_goesPast 221 = .ok (.iconst 1, 1) := by decide +kernel
theorem d_Fl_goesPast_222 : decode b_Fl_goesPast 222 = .ok (.goto 4, 3) := by decide +kernel
theorem d_Fl_goesPast_225 : decode b_Fl_goesPast 225 = .ok (.iconst 0, 1) := by decide +kernel
theorem d_Fl_goesPast_226 : decode b_Fl_goesPast 226 = .ok (.ireturn, 1) := by decide +kernel
theorem d_Fl_goesPast_227 : decode b_Fl_goesPast 227 = .ok (.aload_n 0, 1) := by decide +kernel
theorem d_Fl_goesPast_228 : decode b_Fl_goesPast 228 = .ok (.iload_n 1, 1) := by decide +kernel
theorem d_Fl_goesPast_229 : decode b_Fl_goesPast 229 = .ok (.invokevirtual 112, 3) := by decide +kernel
theorem d_Fl_goesPast_232 : decode b_Fl_goesPast 232 = .ok (.ireturn, 1) := by decide +kernel
theorem d_Fl_somePartGoesOn_0 : decode b_Fl_somePartGoesOn 0 = .ok (.aload_n 0, 1) := by decide +kernel
theorem d_Fl_somePartGoesOn_1 : decode b_Fl_somePartGoesOn 1 = .ok (.getfield 22, 3) := by decide +kernel
theorem d_Fl_somePartGoesOn_4 : decode b_Fl_somePartGoesOn 4 = .ok (.getfield 121, 3) := by decide +kernel
theorem d_Fl_somePartGoesOn_7 : decode b_Fl_somePartGoesOn 7 = .ok (.iload_n 1, 1) := by decide +kernel
theorem d_Fl_somePartGoesOn_8 : decode b_Fl_somePartGoesOn 8 = .ok (.laload, 1) := by decide +kernel
theorem d_Fl_somePartGoesOn_9 : decode b_Fl_somePartGoesOn 9 = .ok (.aload_n 0, 1) := by decide +kernel
theorem d_Fl_somePartGoesOn_10 : decode b_Fl_somePartGoesOn 10 = .ok (.getfield 30, 3) := by decide +kernel
theorem d_Fl_somePartGoesOn_13 : decode b_Fl_somePartGoesOn 13 = .ok (.land, 1) := by decide +kernel
theorem d_Fl_somePartGoesOn_14 : decode b_Fl_somePartGoesOn 14 = .ok (.aload_n 0, 1) := by decide +kernel
theorem d_Fl_somePartGoesOn_15 : decode b_Fl_somePartGoesOn 15 = .ok (.getfield 37, 3) := by decide +kernel
theorem d_Fl_somePartGoesOn_18 : decode b_Fl_somePartGoesOn 18 = .ok (.land, 1) := by decide +kernel
theorem d_Fl_somePartGoesOn_19 : decode b_Fl_somePartGoesOn 19 = .ok (.lconst 0, 1) := by decide +kernel
theorem d_Fl_somePartGoesOn_20 : decode b_Fl_somePartGoesOn 20 = .ok (.lcmp, 1) := by decide +kernel
theorem d_Fl_somePartGoesOn_21 : decode b_Fl_somePartGoesOn 21 = .ok (.ifCond .eq 7, 3) := by decide +kernel
theorem d_Fl_somePartGoesOn_24 : decode b_Fl_somePartGoesOn 24 = .ok (.iconst 1, 1) := by decide +kernel
theorem d_Fl_somePartGoesOn_25 : decode b_Fl_somePartGoesOn 25 = .ok (.goto 4, 3) := by decide +kernel
theorem d_Fl_somePartGoesOn_28 : decode b_Fl_somePartGoesOn 28 = .ok (.iconst 0, 1) := by decide +kernel
theorem d_Fl_somePartGoesOn_29 : decode b_Fl_somePartGoesOn 29 = .ok (.ireturn, 1) := by decide +kernel
theorem d_Fl_settleTry_0 : decode b_Fl_settleTry 0 = .ok (.aload_n 0, 1) := by decide +kernel
theorem d_Fl_settleTry_1 : decode b_Fl_settleTry 1 = .ok (.getfield 22, 3) := by decide +kernel
theorem d_Fl_settleTry_4 : decode b_Fl_settleTry 4 = .ok (.iload_n 1, 1) := by decide +kernel
theorem d_Fl_settleTry_5 : decode b_Fl_settleTry 5 = .ok (.iconst 0, 1) := by decide +kernel
theorem d_Fl_settleTry_6 : decode b_Fl_settleTry 6 = .ok (.invokevirtual 84, 3) := by decide +kernel
theorem d_Fl_settleTry_9 : decode b_Fl_settleTry 9 = .ok (.istore_n 2, 1) := by decide +kernel
theorem d_Fl_settleTry_10 : decode b_Fl_settleTry 10 = .ok (.aload_n 0, 1) := by decide +kernel
theorem d_Fl_settleTry_11 : decode b_Fl_settleTry 11 = .ok (.iload_n 1, 1) := by decide +kernel
theorem d_Fl_settleTry_12 : decode b_Fl_settleTry 12 = .ok (.iload_n 2, 1) := by decide +kernel
theorem d_Fl_settleTry_13 : decode b_Fl_settleTry 13 = .ok (.invokevirtual 92, 3) := by decide +kernel
theorem d_Fl_settleTry_16 : decode b_Fl_settleTry 16 = .ok (.aload_n 0, 1) := by decide +kernel
theorem d_Fl_settleTry_17 : decode b_Fl_settleTry 17 = .ok (.getfield 18, 3) := by decide +kernel
theorem d_Fl_settleTry_20 : decode b_Fl_settleTry 20 = .ok (.iload_n 1, 1) := by decide +kernel
theorem d_Fl_settleTry_21 : decode b_Fl_settleTry 21 = .ok (.iconst 0, 1) := by decide +kernel
theorem d_Fl_settleTry_22 : decode b_Fl_settleTry 22 = .ok (.iastore, 1) := by decide +kernel
theorem d_Fl_settleTry_23 : decode b_Fl_settleTry 23 = .ok (.iconst 0, 1) := by decide +kernel
theorem d_Fl_settleTry_24 : decode b_Fl_settleTry 24 = .ok (.istore_n 3, 1) := by decide +kernel
theorem d_Fl_settleTry_25 : decode b_Fl_settleTry 25 = .ok (.iconst 1, 1) := by decide +kernel
theorem d_Fl_settleTry_26 : decode b_Fl_settleTry 26 = .ok (.istore 4, 2) := by decide +kernel
theorem d_Fl_settleTry_28 : decode b_Fl_settleTry 28 = .ok (.iload 4, 2) := by decide +kernel
theorem d_Fl_settleTry_30 : decode b_Fl_settleTry 30 = .ok (.aload_n 0, 1) := by decide +kernel
theorem d_Fl_settleTry_31 : decode b_Fl_settleTry 31 = .ok (.getfield 22, 3) := by decide +kernel
theorem d_Fl_settleTry_34 : decode b_Fl_settleTry 34 = .ok (.iload_n 1, 1) := by decide +kernel
theorem d_Fl_settleTry_35 : decode b_Fl_settleTry 35 = .ok (.invokevirtual 124, 3) := by decide +kernel
theorem d_Fl_settleTry_38 : decode b_Fl_settleTry 38 = .ok (.if_icmp .gt 69, 3) := by decide +kernel
theorem d_Fl_settleTry_41 : decode b_Fl_settleTry 41 = .ok (.aload_n 0, 1) := by decide +kernel
theorem d_Fl_settleTry_42 : decode b_Fl_settleTry 42 = .ok (.getfield 22, 3) := by decide +kernel
theorem d_Fl_settleTry_45 : decode b_Fl_settleTry 45 = .ok (.iload_n 1, 1) := by decide +kernel
theorem d_Fl_settleTry_46 : decode b_Fl_settleTry 46 = .ok (.iload 4, 2) := by decide +kernel
theorem d_Fl_settleTry_48 : decode b_Fl_settleTry 48 = .ok (.invokevirtual 84, 3) := by decide +kernel
theorem d_Fl_settleTry_51 : decode b_Fl_settleTry 51 = .ok (.istore 5, 2) := by decide +kernel
theorem d_Fl_settleTry_53 : decode b_Fl_settleTry 53 = .ok (.aload_n 0, 1) := by decide +kernel
theorem d_Fl_settleTry_54 : decode b_Fl_settleTry 54 = .ok (.getfield 22, 3) := by decide +kernel
theorem d_Fl_settleTry_57 : decode b_Fl_settleTry 57 = .ok (.getfield 109, 3) := by decide +kernel
theorem d_Fl_settleTry_60 : decode b_Fl_settleTry 60 = .ok (.iload 5, 2) := by decide +kernel
theorem d_Fl_settleTry_62 : decode b_Fl_settleTry 62 = .ok (.iaload, 1) := by decide +kernel
theorem d_Fl_settleTry_63 : decode b_Fl_settleTry 63 = .ok (.istore 6, 2) := by decide +kernel
theorem d_Fl_settleTry_65 : decode b_Fl_settleTry 65 = .ok (.aload_n 0, 1) := by decide +kernel
theorem d_Fl_settleTry_66 : decode b_Fl_settleTry 66 = .ok (.iload 6, 2) := by decide +kernel
theorem d_Fl_settleTry_68 : decode b_Fl_settleTry 68 = .ok (.aload_n 0, 1) := by decide +kernel
theorem d_Fl_settleTry_69 : decode b_Fl_settleTry 69 = .ok (.getfield 18, 3) := by decide +kernel
theorem d_Fl_settleTry_72 : decode b_Fl_settleTry 72 = .ok (.iload_n 2, 1) := by decide +kernel
theorem d_Fl_settleTry_73 : decode b_Fl_settleTry 73 = .ok (.iaload, 1) := by decide +kernel
theorem d_Fl_settleTry_74 : decode b_Fl_settleTry 74 = .ok (.iload_n 3, 1) := by decide +kernel
theorem d_Fl_settleTry_75 : decode b_Fl_settleTry 75 = .ok (.invokevirtual 127, 3) := by decide +kernel
theorem d_Fl_settleTry_78 : decode b_Fl_settleTry 78 = .ok (.ifCond .eq 10, 3) := by decide +kernel
theorem d_Fl_settleTry_81 : decode b_Fl_settleTry 81 = .ok (.aload_n 0, 1) := by decide +kernel
theorem d_Fl_settleTry_82 : decode b_Fl_settleTry 82 = .ok (.iload_n 1, 1) := by decide +kernel
theorem d_Fl_settleTry_83 : decode b_Fl_settleTry 83 = .ok (.iload 5, 2) := by decide +kernel
theorem d_Fl_settleTry_85 : decode b_Fl_settleTry 85 = .ok (.invokevirtual 92, 3) := by decide +kernel
theorem d_Fl_settleTry_88 : decode b_Fl_settleTry 88 = .ok (.iload_n 3, 1) := by decide +kernel
theorem d_Fl_settleTry_89 : decode b_Fl_settleTry 89 = .ok (.aload_n 0, 1) := by decide +kernel
theorem d_Fl_settleTry_90 : decode b_Fl_settleTry 90 = .ok (.getfield 26, 3) := by decide +kernel
theorem d_Fl_settleTry_93 : decode b_Fl_settleTry 93 = .ok (.getfield 131, 3) := by decide +kernel
theorem d_Fl_settleTry_96 : decode b_Fl_settleTry 96 = .ok (.iload 6, 2) := by decide +kernel
theorem d_Fl_settleTry_98 : decode b_Fl_settleTry 98 = .ok (.iaload, 1) := by decide +kernel
theorem d_Fl_settleTry_99 : decode b_Fl_settleTry 99 = .ok (.ior, 1) := by decide +kernel
theorem d_Fl_settleTry_100 : decode b_Fl_settleTry 100 = .ok (.istore_n 3, 1) := by decide +kernel
theorem d_Fl_settleTry_101 : decode b_Fl_settleTry 101 = .ok (.iinc 4 1, 3) := by decide +kernel
theorem d_Fl_settleTry_104 : decode b_Fl_settleTry 104 = .ok (.goto (-76), 3) := by decide +kernel
theorem d_Fl_settleTry_107 : decode b_Fl_settleTry 107 = .ok (.aload_n 0, 1) := by decide +kernel
theorem d_Fl_settleTry_108 : decode b_Fl_settleTry 108 = .ok (.getfield 18, 3) := by decide +kernel
theorem d_Fl_settleTry_111 : decode b_Fl_settleTry 111 = .ok (.iload_n 1, 1) := by decide +kernel
theorem d_Fl_settleTry_112 : decode b_Fl_settleTry 112 = .ok (.dup2, 1) := by decide +kernel
theorem d_Fl_settleTry_113 : decode b_Fl_settleTry 113 = .ok (.iaload, 1) := by decide +kernel
theorem d_Fl_settleTry_114 : decode b_Fl_settleTry 114 = .ok (.aload_n 0, 1) := by decide +kernel
theorem d_Fl_settleTry_115 : decode b_Fl_settleTry 115 = .ok (.getfield 18, 3) := by decide +kernel
theorem d_Fl_settleTry_118 : decode b_Fl_settleTry 118 = .ok (.iload_n 2, 1) := by decide +kernel
theorem d_Fl_settleTry_119 : decode b_Fl_settleTry 119 = .ok (.iaload, 1) := by decide +kernel
theorem d_Fl_settleTry_120 : decode b_Fl_settleTry 120 = .ok (.iload_n 3, 1) := by decide +kernel
theorem d_Fl_settleTry_121 : decode b_Fl_settleTry 121 = .ok (.iconst (-1), 1) := by decide +kernel
theorem d_Fl_settleTry_122 : decode b_Fl_settleTry 122 = .ok (.ixor, 1) := by decide +kernel
theorem d_Fl_settleTry_123 : decode b_Fl_settleTry 123 = .ok (.iand, 1) := by decide +kernel
theorem d_Fl_settleTry_124 : decode b_Fl_settleTry 124 = .ok (.ior, 1) := by decide +kernel
theorem d_Fl_settleTry_125 : decode b_Fl_settleTry 125 = .ok (.iastore, 1) := by decide +kernel
theorem d_Fl_settleTry_126 : decode b_Fl_settleTry 126 = .ok (.aload_n 0, 1) := by decide +kernel
theorem d_Fl_settleTry_127 : decode b_Fl_settleTry 127 = .ok (.iload_n 1, 1) := by decide +kernel
theorem d_Fl_settleTry_128 : decode b_Fl_settleTry 128 = .ok (.invokevirtual 112, 3) := by decide +kernel
theorem d_Fl_settleTry_131 : decode b_Fl_settleTry 131 = .ok (.ifCond .eq 15, 3) := by decide +kernel
theorem d_Fl_settleTry_134 : decode b_Fl_settleTry 134 = .ok (.aload_n 0, 1) := by decide +kernel
theorem d_Fl_settleTry_135 : decode b_Fl_settleTry 135 = .ok (.dup, 1) := by decide +kernel
theorem d_Fl_settleTry_136 : decode b_Fl_settleTry 136 = .ok (.getfield 37, 3) := by decide +kernel
theorem d_Fl_settleTry_139 : decode b_Fl_settleTry 139 = .ok (.lconst 1, 1) := by decide +kernel
theorem d_Fl_settleTry_140 : decode b_Fl_settleTry 140 = .ok (.iload_n 1, 1) := by decide +kernel
theorem d_Fl_settleTry_141 : decode b_Fl_settleTry 141 = .ok (.lshl, 1) := by decide +kernel
theorem d_Fl_settleTry_142 : decode b_Fl_settleTry 142 = .ok (.lor, 1) := by decide +kernel
theorem d_Fl_settleTry_143 : decode b_Fl_settleTry 143 = .ok (.putfield 37, 3) := by decide +kernel
theorem d_Fl_settleTry_146 : decode b_Fl_settleTry 146 = .ok (.aload_n 0, 1) := by decide +kernel
theorem d_Fl_settleTry_147 : decode b_Fl_settleTry 147 = .ok (.getfield 22, 3) := by decide +kernel
theorem d_Fl_settleTry_150 : decode b_Fl_settleTry 150 = .ok (.getfield 118, 3) := by decide +kernel
theorem d_Fl_settleTry_153 : decode b_Fl_settleTry 153 = .ok (.iload_n 1, 1) := by decide +kernel
theorem d_Fl_settleTry_154 : decode b_Fl_settleTry 154 = .ok (.iaload, 1) := by decide +kernel
theorem d_Fl_settleTry_155 : decode b_Fl_settleTry 155 = .ok (.istore 4, 2) := by decide +kernel
theorem d_Fl_settleTry_157 : decode b_Fl_settleTry 157 = .ok (.iload 4, 2) := by decide +kernel
theorem d_Fl_settleTry_159 : decode b_Fl_settleTry 159 = .ok (.iconst (-1), 1) := by decide +kernel
theorem d_Fl_settleTry_160 : decode b_Fl_settleTry 160 = .ok (.if_icmp .eq 32, 3) := by decide +kernel
theorem d_Fl_settleTry_163 : decode b_Fl_settleTry 163 = .ok (.aload_n 0, 1) := by decide +kernel
theorem d_Fl_settleTry_164 : decode b_Fl_settleTry 164 = .ok (.iload_n 1, 1) := by decide +kernel
theorem d_Fl_settleTry_165 : decode b_Fl_settleTry 165 = .ok (.invokevirtual 136, 3) := by decide +kernel
theorem d_Fl_settleTry_168 : decode b_Fl_settleTry 168 = .ok (.ifCond .eq 24, 3) := by decide +kernel
theorem d_Fl_settleTry_171 : decode b_Fl_settleTry 171 = .ok (.aload_n 0, 1) := by decide +kernel
theorem d_Fl_settleTry_172 : decode b_Fl_settleTry 172 = .ok (.iload 4, 2) := by decide +kernel
theorem d_Fl_settleTry_174 : decode b_Fl_settleTry 174 = .ok (.invokevirtual 95, 3) := by decide +kernel
theorem d_Fl_settleTry_177 : decode b_Fl_settleTry 177 = .ok (.ifCond .ne 8, 3) := by decide +kernel
theorem d_Fl_settleTry_180 : decode b_Fl_settleTry 180 = .ok (.aload_n 0, 1) := by decide +kernel
theorem d_Fl_settleTry_181 : decode b_Fl_settleTry 181 = .ok (.iload_n 1, 1) := by decide +kernel
theorem d_Fl_settleTry_182 : decode b_Fl_settleTry 182 = .ok (.invokevirtual 59, 3) := by decide +kernel
theorem d_Fl_settleTry_185 : decode b_Fl_settleTry 185 = .ok (.aload_n 0, 1) := by decide +kernel
theorem d_Fl_settleTry_186 : decode b_Fl_settleTry 186 = .ok (.iload_n 1, 1) := by decide +kernel
theorem d_Fl_settleTry_187 : decode b_Fl_settleTry 187 = .ok (.iload 4, 2) := by decide +kernel
theorem d_Fl_settleTry_189 : decode b_Fl_settleTry 189 = .ok (.invokevirtual 92, 3) := by decide +kernel
theorem d_Fl_settleTry_192 : decode b_Fl_settleTry 192 = .ok (.return_, 1) := by decide +kernel
theorem d_Fl_comeTo_0 : decode b_Fl_comeTo 0 = .ok (.aload_n 0, 1) := by decide +kernel
theorem d_Fl_comeTo_1 : decode b_Fl_comeTo 1 = .ok (.dup, 1) := by decide +kernel
theorem d_Fl_comeTo_2 : decode b_Fl_comeTo 2 = .ok (.getfield 30, 3) := by decide +kernel
theorem d_Fl_comeTo_5 : decode b_Fl_comeTo 5 = .ok (.lconst 1, 1) := by decide +kernel
theorem d_Fl_comeTo_6 : decode b_Fl_comeTo 6 = .ok (.iload_n 2, 1) := by decide +kernel
theorem d_Fl_comeTo_7 : decode b_Fl_comeTo 7 = .ok (.lshl, 1) := by decide +kernel
theorem d_Fl_comeTo_8 : decode b_Fl_comeTo 8 = .ok (.lor, 1) := by decide +kernel
theorem d_Fl_comeTo_9 : decode b_Fl_comeTo 9 = .ok (.putfield 30, 3) := by decide +kernel
theorem d_Fl_comeTo_12 : decode b_Fl_comeTo 12 = .ok (.aload_n 0, 1) := by decide +kernel
theorem d_Fl_comeTo_13 : decode b_Fl_comeTo 13 = .ok (.getfield 40, 3) := by decide +kernel
theorem d_Fl_comeTo_16 : decode b_Fl_comeTo 16 = .ok (.iload_n 2, 1) := by decide +kernel
theorem d_Fl_comeTo_17 : decode b_Fl_comeTo 17 = .ok (.invokestatic 55, 3) := by decide +kernel
theorem d_Fl_comeTo_20 : decode b_Fl_comeTo 20 = .ok (.ifCond .eq 15, 3) := by decide +kernel
theorem d_Fl_comeTo_23 : decode b_Fl_comeTo 23 = .ok (.aload_n 0, 1) := by decide +kernel
theorem d_Fl_comeTo_24 : decode b_Fl_comeTo 24 = .ok (.dup, 1) := by decide +kernel
theorem d_Fl_comeTo_25 : decode b_Fl_comeTo 25 = .ok (.getfield 40, 3) := by decide +kernel
theorem d_Fl_comeTo_28 : decode b_Fl_comeTo 28 = .ok (.lconst 1, 1) := by decide +kernel
theorem d_Fl_comeTo_29 : decode b_Fl_comeTo 29 = .ok (.iload_n 1, 1) := by decide +kernel
theorem d_Fl_comeTo_30 : decode b_Fl_comeTo 30 = .ok (.lshl, 1) := by decide +kernel
theorem d_Fl_comeTo_31 : decode b_Fl_comeTo 31 = .ok (.lor, 1) := by decide +kernel
theorem d_Fl_comeTo_32 : decode b_Fl_comeTo 32 = .ok (.putfield 40, 3) := by decide +kernel
theorem d_Fl_comeTo_35 : decode b_Fl_comeTo 35 = .ok (.aload_n 0, 1) := by decide +kernel
theorem d_Fl_comeTo_36 : decode b_Fl_comeTo 36 = .ok (.getfield 9, 3) := by decide +kernel
theorem d_Fl_comeTo_39 : decode b_Fl_comeTo 39 = .ok (.iload_n 1, 1) := by decide +kernel
theorem d_Fl_comeTo_40 : decode b_Fl_comeTo 40 = .ok (.dup2, 1) := by decide +kernel
theorem d_Fl_comeTo_41 : decode b_Fl_comeTo 41 = .ok (.laload, 1) := by decide +kernel
theorem d_Fl_comeTo_42 : decode b_Fl_comeTo 42 = .ok (.aload_n 0, 1) := by decide +kernel
theorem d_Fl_comeTo_43 : decode b_Fl_comeTo 43 = .ok (.getfield 9, 3) := by decide +kernel
theorem d_Fl_comeTo_46 : decode b_Fl_comeTo 46 = .ok (.iload_n 2, 1) := by decide +kernel
theorem d_Fl_comeTo_47 : decode b_Fl_comeTo 47 = .ok (.laload, 1) := by decide +kernel
theorem d_Fl_comeTo_48 : decode b_Fl_comeTo 48 = .ok (.lor, 1) := by decide +kernel
theorem d_Fl_comeTo_49 : decode b_Fl_comeTo 49 = .ok (.lastore, 1) := by decide +kernel
theorem d_Fl_comeTo_50 : decode b_Fl_comeTo 50 = .ok (.aload_n 0, 1) := by decide +kernel
theorem d_Fl_comeTo_51 : decode b_Fl_comeTo 51 = .ok (.getfield 15, 3) := by decide +kernel
theorem d_Fl_comeTo_54 : decode b_Fl_comeTo 54 = .ok (.iload_n 1, 1) := by decide +kernel
theorem d_Fl_comeTo_55 : decode b_Fl_comeTo 55 = .ok (.dup2, 1) := by decide +kernel
theorem d_Fl_comeTo_56 : decode b_Fl_comeTo 56 = .ok (.laload, 1) := by decide +kernel
theorem d_Fl_comeTo_57 : decode b_Fl_comeTo 57 = .ok (.aload_n 0, 1) := by decide +kernel
theorem d_Fl_comeTo_58 : decode b_Fl_comeTo 58 = .ok (.getfield 15, 3) := by decide +kernel
theorem d_Fl_comeTo_61 : decode b_Fl_comeTo 61 = .ok (.iload_n 2, 1) := by decide +kernel
theorem d_Fl_comeTo_62 : decode b_Fl_comeTo 62 = .ok (.laload, 1) := by decide +kernel
theorem d_Fl_comeTo_63 : decode b_Fl_comeTo 63 = .ok (.lor, 1) := by decide +kernel
theorem d_Fl_comeTo_64 : decode b_Fl_comeTo 64 = .ok (.lastore, 1) := by decide +kernel
theorem d_Fl_comeTo_65 : decode b_Fl_comeTo 65 = .ok (.aload_n 0, 1) := by decide +kernel
theorem d_Fl_comeTo_66 : decode b_Fl_comeTo 66 = .ok (.getfield 18, 3) := by decide +kernel
theorem d_Fl_comeTo_69 : decode b_Fl_comeTo 69 = .ok (.iload_n 1, 1) := by decide +kernel
theorem d_Fl_comeTo_70 : decode b_Fl_comeTo 70 = .ok (.dup2, 1) := by decide +kernel
theorem d_Fl_comeTo_71 : decode b_Fl_comeTo 71 = .ok (.iaload, 1) := by decide +kernel
theorem d_Fl_comeTo_72 : decode b_Fl_comeTo 72 = .ok (.aload_n 0, 1) := by decide +kernel
theorem d_Fl_comeTo_73 : decode b_Fl_comeTo 73 = .ok (.getfield 18, 3) := by decide +kernel
theorem d_Fl_comeTo_76 : decode b_Fl_comeTo 76 = .ok (.iload_n 2, 1) := by decide +kernel
theorem d_Fl_comeTo_77 : decode b_Fl_comeTo 77 = .ok (.iaload, 1) := by decide +kernel
theorem d_Fl_comeTo_78 : decode b_Fl_comeTo 78 = .ok (.ior, 1) := by decide +kernel
theorem d_Fl_comeTo_79 : decode b_Fl_comeTo 79 = .ok (.iastore, 1) := by decide +kernel
theorem d_Fl_comeTo_80 : decode b_Fl_comeTo 80 = .ok (.return_, 1) := by decide +kernel
theorem d_Fl_meets_0 : decode b_Fl_meets 0 = .ok (.aload_n 0, 1) := by decide +kernel
theorem d_Fl_meets_1 : decode b_Fl_meets 1 = .ok (.getfield 34, 3) := by decide +kernel
theorem d_Fl_meets_4 : decode b_Fl_meets 4 = .ok (.iload_n 1, 1) := by decide +kernel
theorem d_Fl_meets_5 : decode b_Fl_meets 5 = .ok (.invokestatic 55, 3) := by decide +kernel
theorem d_Fl_meets_8 : decode b_Fl_meets 8 = .ok (.ireturn, 1) := by decide +kernel
theorem d_Fl_endsNormally_0 : decode b_Fl_endsNormally 0 = .ok (.aload_n 0, 1) := by decide +kernel
theorem d_Fl_endsNormally_1 : decode b_Fl_endsNormally 1 = .ok (.getfield 37, 3) := by decide +kernel
theorem d_Fl_endsNormally_4 : decode b_Fl_endsNormally 4 = .ok (.iload_n 1, 1) := by decide +kernel
theorem d_Fl_endsNormally_5 : decode b_Fl_endsNormally 5 = .ok (.invokestatic 55, 3) := by decide +kernel
theorem d_Fl_endsNormally_8 : decode b_Fl_endsNormally 8 = .ok (.ireturn, 1) := by decide +kernel
theorem d_Fl_endsSomehow_0 : decode b_Fl_endsSomehow 0 = .ok (.aload_n 0, 1) := by decide +kernel
theorem d_Fl_endsSomehow_1 : decode b_Fl_endsSomehow 1 = .ok (.getfield 37, 3) := by decide +kernel
theorem d_Fl_endsSomehow_4 : decode b_Fl_endsSomehow 4 = .ok (.aload_n 0, 1) := by decide +kernel
theorem d_Fl_endsSomehow_5 : decode b_Fl_endsSomehow 5 = .ok (.getfield 40, 3) := by decide +kernel
theorem d_Fl_endsSomehow_8 : decode b_Fl_endsSomehow 8 = .ok (.lor, 1) := by decide +kernel
theorem d_Fl_endsSomehow_9 : decode b_Fl_endsSomehow 9 = .ok (.iload_n 1, 1) := by decide +kernel
theorem d_Fl_endsSomehow_10 : decode b_Fl_endsSomehow 10 = .ok (.invokestatic 55, 3) := by decide +kernel
theorem d_Fl_endsSomehow_13 : decode b_Fl_endsSomehow 13 = .ok (.ifCond .ne 29, 3) := by decide +kernel
theorem d_Fl_endsSomehow_16 : decode b_Fl_endsSomehow 16 = .ok (.aload_n 0, 1) := by decide +kernel
theorem d_Fl_endsSomehow_17 : decode b_Fl_endsSomehow 17 = .ok (.getfield 9, 3) := by decide +kernel
theorem d_Fl_endsSomehow_20 : decode b_Fl_endsSomehow 20 = .ok (.iload_n 1, 1) := by decide +kernel
theorem d_Fl_endsSomehow_21 : decode b_Fl_endsSomehow 21 = .ok (.laload, 1) := by decide +kernel
theorem d_Fl_endsSomehow_22 : decode b_Fl_endsSomehow 22 = .ok (.aload_n 0, 1) := by decide +kernel
theorem d_Fl_endsSomehow_23 : decode b_Fl_endsSomehow 23 = .ok (.getfield 15, 3) := by decide +kernel
theorem d_Fl_endsSomehow_26 : decode b_Fl_endsSomehow 26 = .ok (.iload_n 1, 1) := by decide +kernel
theorem d_Fl_endsSomehow_27 : decode b_Fl_endsSomehow 27 = .ok (.laload, 1) := by decide +kernel
theorem d_Fl_endsSomehow_28 : decode b_Fl_endsSomehow 28 = .ok (.lor, 1) := by decide +kernel
theorem d_Fl_endsSomehow_29 : decode b_Fl_endsSomehow 29 = .ok (.aload_n 0, 1) := by decide +kernel
theorem d_Fl_endsSomehow_30 : decode b_Fl_endsSomehow 30 = .ok (.getfield 18, 3) := by decide +kernel
theorem d_Fl_endsSomehow_33 : decode b_Fl_endsSomehow 33 = .ok (.iload_n 1, 1) := by decide +kernel
theorem d_Fl_endsSomehow_34 : decode b_Fl_endsSomehow 34 = .ok (.iaload, 1) := by decide +kernel
theorem d_Fl_endsSomehow_35 : decode b_Fl_endsSomehow 35 = .ok (.i2l, 1) := by decide +kernel
theorem d_Fl_endsSomehow_36 : decode b_Fl_endsSomehow 36 = .ok (.lor, 1) := by decide +kernel
theorem d_Fl_endsSomehow_37 : decode b_Fl_endsSomehow 37 = .ok (.lconst 0, 1) := by decide +kernel
theorem d_Fl_endsSomehow_38 : decode b_Fl_endsSomehow 38 = .ok (.lcmp, 1) := by decide +kernel
theorem d_Fl_endsSomehow_39 : decode b_Fl_endsSomehow 39 = .ok (.ifCond .eq 7, 3) := by decide +kernel
theorem d_Fl_endsSomehow_42 : decode b_Fl_endsSomehow 42 = .ok (.iconst 1, 1) := by decide +kernel
theorem d_Fl_endsSomehow_43 : decode b_Fl_endsSomehow 43 = .ok (.goto 4, 3) := by decide +kernel
theorem d_Fl_endsSomehow_46 : decode b_Fl_endsSomehow 46 = .ok (.iconst 0, 1) := by decide +kernel
theorem d_Fl_endsSomehow_47 : decode b_Fl_endsSomehow 47 = .ok (.ireturn, 1) := by decide +kernel
theorem d_Fl_endsBy_0 : decode b_Fl_endsBy 0 = .ok (.iload_n 2, 1) := by decide +kernel
theorem d_Fl_endsBy_1 : decode b_Fl_endsBy 1 = .ok (.tableswitch 71 0 3 #[31, 40, 49, 60], 31) := by decide +kernel
theorem d_Fl_endsBy_32 : decode b_Fl_endsBy 32 = .ok (.aload_n 0, 1) := by decide +kernel
theorem d_Fl_endsBy_33 : decode b_Fl_endsBy 33 = .ok (.getfield 37, 3) := by decide +kernel
theorem d_Fl_endsBy_36 : decode b_Fl_endsBy 36 = .ok (.iload_n 1, 1) := by decide +kernel
theorem d_Fl_endsBy_37 : decode b_Fl_endsBy 37 = .ok (.invokestatic 55, 3) := by decide +kernel
theorem d_Fl_endsBy_40 : decode b_Fl_endsBy 40 = .ok (.ireturn, 1) := by decide +kernel
theorem d_Fl_endsBy_41 : decode b_Fl_endsBy 41 = .ok (.aload_n 0, 1) := by decide +kernel
theorem d_Fl_endsBy_42 : decode b_Fl_endsBy 42 = .ok (.getfield 40, 3) := by decide +kernel
theorem d_Fl_endsBy_45 : decode b_Fl_endsBy 45 = .ok (.iload_n 1, 1) := by decide +kernel
theorem d_Fl_endsBy_46 : decode b_Fl_endsBy 46 = .ok (.invokestatic 55, 3) := by decide +kernel
theorem d_Fl_endsBy_49 : decode b_Fl_endsBy 49 = .ok (.ireturn, 1) := by decide +kernel
theorem d_Fl_endsBy_50 : decode b_Fl_endsBy 50 = .ok (.aload_n 0, 1) := by decide +kernel
theorem d_Fl_endsBy_51 : decode b_Fl_endsBy 51 = .ok (.getfield 9, 3) := by decide +kernel
theorem d_Fl_endsBy_54 : decode b_Fl_endsBy 54 = .ok (.iload_n 1, 1) := by decide +kernel
theorem d_Fl_endsBy_55 : decode b_Fl_endsBy 55 = .ok (.laload, 1) := by decide +kernel
theorem d_Fl_endsBy_56 : decode b_Fl_endsBy 56 = .ok (.iload_n 3, 1) := by decide +kernel
theorem d_Fl_endsBy_57 : decode b_Fl_endsBy 57 = .ok (.invokestatic 55, 3) := by decide +kernel
theorem d_Fl_endsBy_60 : decode b_Fl_endsBy 60 = .ok (.ireturn, 1) := by decide +kernel
theorem d_Fl_endsBy_61 : decode b_Fl_endsBy 61 = .ok (.aload_n 0, 1) := by decide +kernel
theorem d_Fl_endsBy_62 : decode b_Fl_endsBy 62 = .ok (.getfield 15, 3) := by decide +kernel
theorem d_Fl_endsBy_65 : decode b_Fl_endsBy 65 = .ok (.iload_n 1, 1) := by decide +kernel
theorem d_Fl_endsBy_66 : decode b_Fl_endsBy 66 = .ok (.laload, 1) := by decide +kernel
theorem d_Fl_endsBy_67 : decode b_Fl_endsBy 67 = .ok (.iload_n 3, 1) := by decide +kernel
theorem d_Fl_endsBy_68 : decode b_Fl_endsBy 68 = .ok (.invokestatic 55, 3) := by decide +kernel
theorem d_Fl_endsBy_71 : decode b_Fl_endsBy 71 = .ok (.ireturn, 1) := by decide +kernel
theorem d_Fl_endsBy_72 : decode b_Fl_endsBy 72 = .ok (.aload_n 0, 1) := by decide +kernel
theorem d_Fl_endsBy_73 : decode b_Fl_endsBy 73 = .ok (.getfield 18, 3) := by decide +kernel
theorem d_Fl_endsBy_76 : decode b_Fl_endsBy 76 = .ok (.iload_n 1, 1) := by decide +kernel
theorem d_Fl_endsBy_77 : decode b_Fl_endsBy 77 = .ok (.iaload, 1) := by decide +kernel
theorem d_Fl_endsBy_78 : decode b_Fl_endsBy 78 = .ok (.i2l, 1) := by decide +kernel
theorem d_Fl_endsBy_79 : decode b_Fl_endsBy 79 = .ok (.iload_n 3, 1) := by decide +kernel
theorem d_Fl_endsBy_80 : decode b_Fl_endsBy 80 = .ok (.invokestatic 55, 3) := by decide +kernel
theorem d_Fl_endsBy_83 : decode b_Fl_endsBy 83 = .ok (.ireturn, 1) := by decide +kernel
theorem d_Br_init_0 : decode b_Br_init 0 = .ok (.aload_n 0, 1) := by decide +kernel
theorem d_Br_init_1 : decode b_Br_init 1 = .ok (.aload_n 1, 1) := by decide +kernel
theorem d_Br_init_2 : decode b_Br_init 2 = .ok (.aload_n 2, 1) := by decide +kernel
theorem d_Br_init_3 : decode b_Br_init 3 = .ok (.invokespecial 3, 3) := by decide +kernel
theorem d_Br_init_6 : decode b_Br_init 6 = .ok (.return_, 1) := by decide +kernel
theorem d_Br_thrownAs_0 : decode b_Br_thrownAs 0 = .ok (.iconst 1, 1) := by decide +kernel
theorem d_Br_thrownAs_1 : decode b_Br_thrownAs 1 = .ok (.iload_n 1, 1) := by decide +kernel
theorem d_Br_thrownAs_2 : decode b_Br_thrownAs 2 = .ok (.ishl, 1) := by decide +kernel
theorem d_Br_thrownAs_3 : decode b_Br_thrownAs 3 = .ok (.ireturn, 1) := by decide +kernel
theorem d_Br_testOfIf_0 : decode b_Br_testOfIf 0 = .ok (.iconst 2, 1) := by decide +kernel
theorem d_Br_testOfIf_1 : decode b_Br_testOfIf 1 = .ok (.ireturn, 1) := by decide +kernel
theorem d_Br_opensCatch_0 : decode b_Br_opensCatch 0 = .ok (.aload_n 0, 1) := by decide +kernel
theorem d_Br_opensCatch_1 : decode b_Br_opensCatch 1 = .ok (.getfield 9, 3) := by decide +kernel
theorem d_Br_opensCatch_4 : decode b_Br_opensCatch 4 = .ok (.getfield 15, 3) := by decide +kernel
theorem d_Br_opensCatch_7 : decode b_Br_opensCatch 7 = .ok (.iload_n 1, 1) := by decide +kernel
theorem d_Br_opensCatch_8 : decode b_Br_opensCatch 8 = .ok (.iaload, 1) := by decide +kernel
theorem d_Br_opensCatch_9 : decode b_Br_opensCatch 9 = .ok (.aload_n 0, 1) := by decide +kernel
theorem d_Br_opensCatch_10 : decode b_Br_opensCatch 10 = .ok (.getfield 9, 3) := by decide +kernel
theorem d_Br_opensCatch_13 : decode b_Br_opensCatch 13 = .ok (.getfield 21, 3) := by decide +kernel
theorem d_Br_opensCatch_16 : decode b_Br_opensCatch 16 = .ok (.iload_n 1, 1) := by decide +kernel
theorem d_Br_opensCatch_17 : decode b_Br_opensCatch 17 = .ok (.iaload, 1) := by decide +kernel
theorem d_Br_opensCatch_18 : decode b_Br_opensCatch 18 = .ok (.ior, 1) := by decide +kernel
theorem d_Br_opensCatch_19 : decode b_Br_opensCatch 19 = .ok (.istore 4, 2) := by decide +kernel
theorem d_Br_opensCatch_21 : decode b_Br_opensCatch 21 = .ok (.iload_n 3, 1) := by decide +kernel
theorem d_Br_opensCatch_22 : decode b_Br_opensCatch 22 = .ok (.i2l, 1) := by decide +kernel
theorem d_Br_opensCatch_23 : decode b_Br_opensCatch 23 = .ok (.iload_n 1, 1) := by decide +kernel
theorem d_Br_opensCatch_24 : decode b_Br_opensCatch 24 = .ok (.invokestatic 24, 3) := by decide +kernel
theorem d_Br_opensCatch_27 : decode b_Br_opensCatch 27 = .ok (.ifCond .ne 25, 3) := by decide +kernel
theorem d_Br_opensCatch_30 : decode b_Br_opensCatch 30 = .ok (.aload_n 0, 1) := by decide +kernel
theorem d_Br_opensCatch_31 : decode b_Br_opensCatch 31 = .ok (.getfield 9, 3) := by decide +kernel
theorem d_Br_opensCatch_34 : decode b_Br_opensCatch 34 = .ok (.iload_n 1, 1) := by decide +kernel
theorem d_Br_opensCatch_35 : decode b_Br_opensCatch 35 = .ok (.invokevirtual 28, 3) := by decide +kernel
theorem d_Br_opensCatch_38 : decode b_Br_opensCatch 38 = .ok (.ifCond .ne 10, 3) := by decide +kernel
theorem d_Br_opensCatch_41 : decode b_Br_opensCatch 41 = .ok (.iload_n 2, 1) := by decide +kernel
theorem d_Br_opensCatch_42 : decode b_Br_opensCatch 42 = .ok (.iload 4, 2) := by decide +kernel
theorem d_Br_opensCatch_44 : decode b_Br_opensCatch 44 = .ok (.iand, 1) := by decide +kernel
theorem d_Br_opensCatch_45 : decode b_Br_opensCatch 45 = .ok (.ifCond .eq 7, 3) := by decide +kernel
theorem d_Br_opensCatch_48 : decode b_Br_opensCatch 48 = .ok (.iconst 1, 1) := by decide +kernel
theorem d_Br_opensCatch_49 : decode b_Br_opensCatch 49 = .ok (.goto 4, 3) := by decide +kernel
theorem d_Br_opensCatch_52 : decode b_Br_opensCatch 52 = .ok (.iconst 0, 1) := by decide +kernel
theorem d_Br_opensCatch_53 : decode b_Br_opensCatch 53 = .ok (.ireturn, 1) := by decide +kernel
theorem d_Br_opensEnding_0 : decode b_Br_opensEnding 0 = .ok (.iconst 1, 1) := by decide +kernel
theorem d_Br_opensEnding_1 : decode b_Br_opensEnding 1 = .ok (.ireturn, 1) := by decide +kernel
theorem d_Bw_init_0 : decode b_Bw_init 0 = .ok (.aload_n 0, 1) := by decide +kernel
theorem d_Bw_init_1 : decode b_Bw_init 1 = .ok (.aload_n 1, 1) := by decide +kernel
theorem d_Bw_init_2 : decode b_Bw_init 2 = .ok (.aload_n 2, 1) := by decide +kernel
theorem d_Bw_init_3 : decode b_Bw_init 3 = .ok (.invokespecial 1, 3) := by decide +kernel
theorem d_Bw_init_6 : decode b_Bw_init 6 = .ok (.return_, 1) := by decide +kernel
theorem d_Bw_thrownAs_0 : decode b_Bw_thrownAs 0 = .ok (.aload_n 0, 1) := by decide +kernel
theorem d_Bw_thrownAs_1 : decode b_Bw_thrownAs 1 = .ok (.getfield 7, 3) := by decide +kernel
theorem d_Bw_thrownAs_4 : decode b_Bw_thrownAs 4 = .ok (.getfield 13, 3) := by decide +kernel
theorem d_Bw_thrownAs_7 : decode b_Bw_thrownAs 7 = .ok (.iload_n 1, 1) := by decide +kernel
theorem d_Bw_thrownAs_8 : decode b_Bw_thrownAs 8 = .ok (.iaload, 1) := by decide +kernel
theorem d_Bw_thrownAs_9 : decode b_Bw_thrownAs 9 = .ok (.ireturn, 1) := by decide +kernel
theorem d_Bw_testOfIf_0 : decode b_Bw_testOfIf 0 = .ok (.aload_n 0, 1) := by decide +kernel
theorem d_Bw_testOfIf_1 : decode b_Bw_testOfIf 1 = .ok (.getfield 19, 3) := by decide +kernel
theorem d_Bw_testOfIf_4 : decode b_Bw_testOfIf 4 = .ok (.getfield 23, 3) := by decide +kernel
theorem d_Bw_testOfIf_7 : decode b_Bw_testOfIf 7 = .ok (.iload_n 1, 1) := by decide +kernel
theorem d_Bw_testOfIf_8 : decode b_Bw_testOfIf 8 = .ok (.iaload, 1) := by decide +kernel
theorem d_Bw_testOfIf_9 : decode b_Bw_testOfIf 9 = .ok (.ireturn, 1) := by decide +kernel
theorem d_Bw_opensCatch_0 : decode b_Bw_opensCatch 0 = .ok (.iload_n 2, 1) := by decide +kernel
theorem d_Bw_opensCatch_1 : decode b_Bw_opensCatch 1 = .ok (.iload_n 3, 1) := by decide +kernel
theorem d_Bw_opensCatch_2 : decode b_Bw_opensCatch 2 = .ok (.iconst (-1), 1) := by decide +kernel
theorem d_Bw_opensCatch_3 : decode b_Bw_opensCatch 3 = .ok (.ixor, 1) := by decide +kernel
theorem d_Bw_opensCatch_4 : decode b_Bw_opensCatch 4 = .ok (.iand, 1) := by decide +kernel
theorem d_Bw_opensCatch_5 : decode b_Bw_opensCatch 5 = .ok (.aload_n 0, 1) := by decide +kernel
theorem d_Bw_opensCatch_6 : decode b_Bw_opensCatch 6 = .ok (.getfield 7, 3) := by decide +kernel
theorem d_Bw_opensCatch_9 : decode b_Bw_opensCatch 9 = .ok (.getfield 13, 3) := by decide +kernel
theorem d_Bw_opensCatch_12 : decode b_Bw_opensCatch 12 = .ok (.iload_n 1, 1) := by decide +kernel
theorem d_Bw_opensCatch_13 : decode b_Bw_opensCatch 13 = .ok (.iaload, 1) := by decide +kernel
theorem d_Bw_opensCatch_14 : decode b_Bw_opensCatch 14 = .ok (.iand, 1) := by decide +kernel
theorem d_Bw_opensCatch_15 : decode b_Bw_opensCatch 15 = .ok (.ifCond .eq 7, 3) := by decide +kernel
theorem d_Bw_opensCatch_18 : decode b_Bw_opensCatch 18 = .ok (.iconst 1, 1) := by decide +kernel
theorem d_Bw_opensCatch_19 : decode b_Bw_opensCatch 19 = .ok (.goto 4, 3) := by decide +kernel
theorem d_Bw_opensCatch_22 : decode b_Bw_opensCatch 22 = .ok (.iconst 0, 1) := by decide +kernel
theorem d_Bw_opensCatch_23 : decode b_Bw_opensCatch 23 = .ok (.ireturn, 1) := by decide +kernel
theorem d_Bw_opensEnding_0 : decode b_Bw_opensEnding 0 = .ok (.aload_n 0, 1) := by decide +kernel
theorem d_Bw_opensEnding_1 : decode b_Bw_opensEnding 1 = .ok (.iload_n 1, 1) := by decide +kernel
theorem d_Bw_opensEnding_2 : decode b_Bw_opensEnding 2 = .ok (.invokevirtual 28, 3) := by decide +kernel
theorem d_Bw_opensEnding_5 : decode b_Bw_opensEnding 5 = .ok (.ireturn, 1) := by decide +kernel
theorem d_Lk_init_0 : decode b_Lk_init 0 = .ok (.aload_n 0, 1) := by decide +kernel
theorem d_Lk_init_1 : decode b_Lk_init 1 = .ok (.invokespecial 3, 3) := by decide +kernel
theorem d_Lk_init_4 : decode b_Lk_init 4 = .ok (.aload_n 0, 1) := by decide +kernel
theorem d_Lk_init_5 : decode b_Lk_init 5 = .ok (.bipush 60, 2) := by decide +kernel
theorem d_Lk_init_7 : decode b_Lk_init 7 = .ok (.newarray .int, 2) := by decide +kernel
theorem d_Lk_init_9 : decode b_Lk_init 9 = .ok (.putfield 9, 3) := by decide +kernel
theorem d_Lk_init_12 : decode b_Lk_init 12 = .ok (.aload_n 0, 1) := by decide +kernel
theorem d_Lk_init_13 : decode b_Lk_init 13 = .ok (.bipush 60, 2) := by decide +kernel
theorem d_Lk_init_15 : decode b_Lk_init 15 = .ok (.newarray .int, 2) := by decide +kernel
theorem d_Lk_init_17 : decode b_Lk_init 17 = .ok (.putfield 15, 3) := by decide +kernel
theorem d_Lk_init_20 : decode b_Lk_init 20 = .ok (.aload_n 0, 1) := by decide +kernel
theorem d_Lk_init_21 : decode b_Lk_init 21 = .ok (.bipush 60, 2) := by decide +kernel
theorem d_Lk_init_23 : decode b_Lk_init 23 = .ok (.newarray .int, 2) := by decide +kernel
theorem d_Lk_init_25 : decode b_Lk_init 25 = .ok (.putfield 18, 3) := by decide +kernel
theorem d_Lk_init_28 : decode b_Lk_init 28 = .ok (.aload_n 0, 1) := by decide +kernel
theorem d_Lk_init_29 : decode b_Lk_init 29 = .ok (.bipush 120, 2) := by decide +kernel
theorem d_Lk_init_31 : decode b_Lk_init 31 = .ok (.newarray .int, 2) := by decide +kernel
theorem d_Lk_init_33 : decode b_Lk_init 33 = .ok (.putfield 21, 3) := by decide +kernel
theorem d_Lk_init_36 : decode b_Lk_init 36 = .ok (.aload_n 0, 1) := by decide +kernel
theorem d_Lk_init_37 : decode b_Lk_init 37 = .ok (.bipush 120, 2) := by decide +kernel
theorem d_Lk_init_39 : decode b_Lk_init 39 = .ok (.newarray .int, 2) := by decide +kernel
theorem d_Lk_init_41 : decode b_Lk_init 41 = .ok (.putfield 24, 3) := by decide +kernel
theorem d_Lk_init_44 : decode b_Lk_init 44 = .ok (.aload_n 0, 1) := by decide +kernel
theorem d_Lk_init_45 : decode b_Lk_init 45 = .ok (.bipush 60, 2) := by decide +kernel
theorem d_Lk_init_47 : decode b_Lk_init 47 = .ok (.newarray .int, 2) := by decide +kernel
theorem d_Lk_init_49 : decode b_Lk_init 49 = .ok (.putfield 27, 3) := by decide +kernel
theorem d_Lk_init_52 : decode b_Lk_init 52 = .ok (.aload_n 0, 1) := by decide +kernel
theorem d_Lk_init_53 : decode b_Lk_init 53 = .ok (.aload_n 1, 1) := by decide +kernel
theorem d_Lk_init_54 : decode b_Lk_init 54 = .ok (.putfield 30, 3) := by decide +kernel
theorem d_Lk_init_57 : decode b_Lk_init 57 = .ok (.aload_n 0, 1) := by decide +kernel
theorem d_Lk_init_58 : decode b_Lk_init 58 = .ok (.aload_n 2, 1) := by decide +kernel
theorem d_Lk_init_59 : decode b_Lk_init 59 = .ok (.putfield 34, 3) := by decide +kernel
theorem d_Lk_init_62 : decode b_Lk_init 62 = .ok (.aload_n 0, 1) := by decide +kernel
theorem d_Lk_init_63 : decode b_Lk_init 63 = .ok (.new 38, 3) := by decide +kernel
theorem d_Lk_init_66 : decode b_Lk_init 66 = .ok (.dup, 1) := by decide +kernel
theorem d_Lk_init_67 : decode b_Lk_init 67 = .ok (.aload_n 1, 1) := by decide +kernel
theorem d_Lk_init_68 : decode b_Lk_init 68 = .ok (.aload_n 2, 1) := by decide +kernel
theorem d_Lk_init_69 : decode b_Lk_init 69 = .ok (.invokespecial 40, 3) := by decide +kernel
theorem d_Lk_init_72 : decode b_Lk_init 72 = .ok (.putfield 43, 3) := by decide +kernel
theorem d_Lk_init_75 : decode b_Lk_init 75 = .ok (.aload_n 0, 1) := by decide +kernel
theorem d_Lk_init_76 : decode b_Lk_init 76 = .ok (.new 47, 3) := by decide +kernel
theorem d_Lk_init_79 : decode b_Lk_init 79 = .ok (.dup, 1) := by decide +kernel
theorem d_Lk_init_80 : decode b_Lk_init 80 = .ok (.aload_n 1, 1) := by decide +kernel
theorem d_Lk_init_81 : decode b_Lk_init 81 = .ok (.aload_n 2, 1) := by decide +kernel
theorem d_Lk_init_82 : decode b_Lk_init 82 = .ok (.invokespecial 49, 3) := by decide +kernel
theorem d_Lk_init_85 : decode b_Lk_init 85 = .ok (.putfield 50, 3) := by decide +kernel
theorem d_Lk_init_88 : decode b_Lk_init 88 = .ok (.aload_n 0, 1) := by decide +kernel
theorem d_Lk_init_89 : decode b_Lk_init 89 = .ok (.invokevirtual 53, 3) := by decide +kernel
theorem d_Lk_init_92 : decode b_Lk_init 92 = .ok (.return_, 1) := by decide +kernel
theorem d_Lk_startAgain_0 : decode b_Lk_startAgain 0 = .ok (.aload_n 0, 1) := by decide +kernel
theorem d_Lk_startAgain_1 : decode b_Lk_startAgain 1 = .ok (.iconst (-1), 1) := by decide +kernel
theorem d_Lk_startAgain_2 : decode b_Lk_startAgain 2 = .ok (.putfield 56, 3) := by decide +kernel
theorem d_Lk_startAgain_5 : decode b_Lk_startAgain 5 = .ok (.aload_n 0, 1) := by decide +kernel
theorem d_Lk_startAgain_6 : decode b_Lk_startAgain 6 = .ok (.iconst 0, 1) := by decide +kernel
theorem d_Lk_startAgain_7 : decode b_Lk_startAgain 7 = .ok (.putfield 60, 3) := by decide +kernel
theorem d_Lk_startAgain_10 : decode b_Lk_startAgain 10 = .ok (.aload_n 0, 1) := by decide +kernel
theorem d_Lk_startAgain_11 : decode b_Lk_startAgain 11 = .ok (.iconst 0, 1) := by decide +kernel
theorem d_Lk_startAgain_12 : decode b_Lk_startAgain 12 = .ok (.putfield 63, 3) := by decide +kernel
theorem d_Lk_startAgain_15 : decode b_Lk_startAgain 15 = .ok (.aload_n 0, 1) := by decide +kernel
theorem d_Lk_startAgain_16 : decode b_Lk_startAgain 16 = .ok (.iconst 0, 1) := by decide +kernel
theorem d_Lk_startAgain_17 : decode b_Lk_startAgain 17 = .ok (.putfield 66, 3) := by decide +kernel
theorem d_Lk_startAgain_20 : decode b_Lk_startAgain 20 = .ok (.aload_n 0, 1) := by decide +kernel
theorem d_Lk_startAgain_21 : decode b_Lk_startAgain 21 = .ok (.getfield 43, 3) := by decide +kernel
theorem d_Lk_startAgain_24 : decode b_Lk_startAgain 24 = .ok (.invokevirtual 69, 3) := by decide +kernel
theorem d_Lk_startAgain_27 : decode b_Lk_startAgain 27 = .ok (.aload_n 0, 1) := by decide +kernel
theorem d_Lk_startAgain_28 : decode b_Lk_startAgain 28 = .ok (.getfield 50, 3) := by decide +kernel
theorem d_Lk_startAgain_31 : decode b_Lk_startAgain 31 = .ok (.invokevirtual 69, 3) := by decide +kernel
theorem d_Lk_startAgain_34 : decode b_Lk_startAgain 34 = .ok (.aload_n 0, 1) := by decide +kernel
theorem d_Lk_startAgain_35 : decode b_Lk_startAgain 35 = .ok (.invokevirtual 74, 3) := by decide +kernel
theorem d_Lk_startAgain_38 : decode b_Lk_startAgain 38 = .ok (.return_, 1) := by decide +kernel
theorem d_Lk_forgetTargets_0 : decode b_Lk_forgetTargets 0 = .ok (.iconst 0, 1) := by decide +kernel
theorem d_Lk_forgetTargets_1 : decode b_Lk_forgetTargets 1 = .ok (.istore_n 1, 1) := by decide +kernel
theorem d_Lk_forgetTargets_2 : decode b_Lk_forgetTargets 2 = .ok (.iload_n 1, 1) := by decide +kernel
theorem d_Lk_forgetTargets_3 : decode b_Lk_forgetTargets 3 = .ok (.bipush 60, 2) := by decide +kernel
theorem d_Lk_forgetTargets_5 : decode b_Lk_forgetTargets 5 = .ok (.if_icmp .ge 16, 3) := by decide +kernel
theorem d_Lk_forgetTargets_8 : decode b_Lk_forgetTargets 8 = .ok (.aload_n 0, 1) := by decide +kernel
theorem d_Lk_forgetTargets_9 : decode b_Lk_forgetTargets 9 = .ok (.getfield 18, 3) := by decide +kernel
theorem d_Lk_forgetTargets_12 : decode b_Lk_forgetTargets 12 = .ok (.iload_n 1, 1) := by decide +kernel
theorem d_Lk_forgetTargets_13 : decode b_Lk_forgetTargets 13 = .ok (.iconst (-1), 1) := by decide +kernel
theorem d_Lk_forgetTargets_14 : decode b_Lk_forgetTargets 14 = .ok (.iastore, 1) := by decide +kernel
theorem d_Lk_forgetTargets_15 : decode b_Lk_forgetTargets 15 = .ok (.iinc 1 1, 3) := by decide +kernel
theorem d_Lk_forgetTargets_18 : decode b_Lk_forgetTargets 18 = .ok (.goto (-16), 3) := by decide +kernel
theorem d_Lk_forgetTargets_21 : decode b_Lk_forgetTargets 21 = .ok (.return_, 1) := by decide +kernel
theorem d_Lk_lookAt_0 : decode b_Lk_lookAt 0 = .ok (.aload_n 0, 1) := by decide +kernel
theorem d_Lk_lookAt_1 : decode b_Lk_lookAt 1 = .ok (.iload_n 1, 1) := by decide +kernel
theorem d_Lk_lookAt_2 : decode b_Lk_lookAt 2 = .ok (.putfield 56, 3) := by decide +kernel
theorem d_Lk_lookAt_5 : decode b_Lk_lookAt 5 = .ok (.aload_n 0, 1) := by decide +kernel
theorem d_Lk_lookAt_6 : decode b_Lk_lookAt 6 = .ok (.invokevirtual 77, 3) := by decide +kernel
theorem d_Lk_lookAt_9 : decode b_Lk_lookAt 9 = .ok (.aload_n 0, 1) := by decide +kernel
theorem d_Lk_lookAt_10 : decode b_Lk_lookAt 10 = .ok (.invokevirtual 80, 3) := by decide +kernel
theorem d_Lk_lookAt_13 : decode b_Lk_lookAt 13 = .ok (.aload_n 0, 1) := by decide +kernel
theorem d_Lk_lookAt_14 : decode b_Lk_lookAt 14 = .ok (.getfield 43, 3) := by decide +kernel
theorem d_Lk_lookAt_17 : decode b_Lk_lookAt 17 = .ok (.aload_n 0, 1) := by decide +kernel
theorem d_Lk_lookAt_18 : decode b_Lk_lookAt 18 = .ok (.getfield 9, 3) := by decide +kernel
theorem d_Lk_lookAt_21 : decode b_Lk_lookAt 21 = .ok (.aload_n 0, 1) := by decide +kernel
theorem d_Lk_lookAt_22 : decode b_Lk_lookAt 22 = .ok (.getfield 60, 3) := by decide +kernel
theorem d_Lk_lookAt_25 : decode b_Lk_lookAt 25 = .ok (.aload_n 0, 1) := by decide +kernel
theorem d_Lk_lookAt_26 : decode b_Lk_lookAt 26 = .ok (.getfield 18, 3) := by decide +kernel
theorem d_Lk_lookAt_29 : decode b_Lk_lookAt 29 = .ok (.invokevirtual 83, 3) := by decide +kernel
theorem d_Lk_lookAt_32 : decode b_Lk_lookAt 32 = .ok (.aload_n 0, 1) := by decide +kernel
theorem d_Lk_lookAt_33 : decode b_Lk_lookAt 33 = .ok (.getfield 50, 3) := by decide +kernel
theorem d_Lk_lookAt_36 : decode b_Lk_lookAt 36 = .ok (.aload_n 0, 1) := by decide +kernel
theorem d_Lk_lookAt_37 : decode b_Lk_lookAt 37 = .ok (.getfield 9, 3) := by decide +kernel
theorem d_Lk_lookAt_40 : decode b_Lk_lookAt 40 = .ok (.aload_n 0, 1) := by decide +kernel
theorem d_Lk_lookAt_41 : decode b_Lk_lookAt 41 = .ok (.getfield 60, 3) := by decide +kernel
theorem d_Lk_lookAt_44 : decode b_Lk_lookAt 44 = .ok (.aload_n 0, 1) := by decide +kernel
theorem d_Lk_lookAt_45 : decode b_Lk_lookAt 45 = .ok (.getfield 18, 3) := by decide +kernel
theorem d_Lk_lookAt_48 : decode b_Lk_lookAt 48 = .ok (.invokevirtual 83, 3) := by decide +kernel
theorem d_Lk_lookAt_51 : decode b_Lk_lookAt 51 = .ok (.aload_n 0, 1) := by decide +kernel
theorem d_Lk_lookAt_52 : decode b_Lk_lookAt 52 = .ok (.invokevirtual 87, 3) := by decide +kernel
theorem d_Lk_lookAt_55 : decode b_Lk_lookAt 55 = .ok (.aload_n 0, 1) := by decide +kernel
theorem d_Lk_lookAt_56 : decode b_Lk_lookAt 56 = .ok (.invokevirtual 90, 3) := by decide +kernel
theorem d_Lk_lookAt_59 : decode b_Lk_lookAt 59 = .ok (.return_, 1) := by decide +kernel
theorem d_Lk_orderText_0 : decode b_Lk_orderText 0 = .ok (.aload_n 0, 1) := by decide +kernel
theorem d_Lk_orderText_1 : decode b_Lk_orderText 1 = .ok (.iconst 0, 1) := by decide +kernel
theorem d_Lk_orderText_2 : decode b_Lk_orderText 2 = .ok (.putfield 60, 3) := by decide +kernel
theorem d_Lk_orderText_5 : decode b_Lk_orderText 5 = .ok (.aload_n 0, 1) := by decide +kernel
theorem d_Lk_orderText_6 : decode b_Lk_orderText 6 = .ok (.getfield 15, 3) := by decide +kernel
theorem d_Lk_orderText_9 : decode b_Lk_orderText 9 = .ok (.iconst 0, 1) := by decide +kernel
theorem d_Lk_orderText_10 : decode b_Lk_orderText 10 = .ok (.aload_n 0, 1) := by decide +kernel
theorem d_Lk_orderText_11 : decode b_Lk_orderText 11 = .ok (.getfield 56, 3) := by decide +kernel
theorem d_Lk_orderText_14 : decode b_Lk_orderText 14 = .ok (.iastore, 1) := by decide +kernel
theorem d_Lk_orderText_15 : decode b_Lk_orderText 15 = .ok (.iconst 1, 1) := by decide +kernel
theorem d_Lk_orderText_16 : decode b_Lk_orderText 16 = .ok (.istore_n 1, 1) := by decide +kernel
theorem d_Lk_orderText_17 : decode b_Lk_orderText 17 = .ok (.iload_n 1, 1) := by decide +kernel
theorem d_Lk_orderText_18 : decode b_Lk_orderText 18 = .ok (.ifCond .le 85, 3) := by decide +kernel
theorem d_Lk_orderText_21 : decode b_Lk_orderText 21 = .ok (.aload_n 0, 1) := by decide +kernel
theorem d_Lk_orderText_22 : decode b_Lk_orderText 22 = .ok (.getfield 60, 3) := by decide +kernel
theorem d_Lk_orderText_25 : decode b_Lk_orderText 25 = .ok (.bipush 60, 2) := by decide +kernel
theorem d_Lk_orderText_27 : decode b_Lk_orderText 27 = .ok (.if_icmp .ge 76, 3) := by decide +kernel
theorem d_Lk_orderText_30 : decode b_Lk_orderText 30 = .ok (.iinc 1 (-1), 3) := by decide +kernel
theorem d_Lk_orderText_33 : decode b_Lk_orderText 33 = .ok (.aload_n 0, 1) := by decide +kernel
theorem d_Lk_orderText_34 : decode b_Lk_orderText 34 = .ok (.getfield 15, 3) := by decide +kernel
theorem d_Lk_orderText_37 : decode b_Lk_orderText 37 = .ok (.iload_n 1, 1) := by decide +kernel
theorem d_Lk_orderText_38 : decode b_Lk_orderText 38 = .ok (.iaload, 1) := by decide +kernel
theorem d_Lk_orderText_39 : decode b_Lk_orderText 39 = .ok (.istore_n 2, 1) := by decide +kernel
theorem d_Lk_orderText_40 : decode b_Lk_orderText 40 = .ok (.aload_n 0, 1) := by decide +kernel
theorem d_Lk_orderText_41 : decode b_Lk_orderText 41 = .ok (.getfield 9, 3) := by decide +kernel
theorem d_Lk_orderText_44 : decode b_Lk_orderText 44 = .ok (.aload_n 0, 1) := by decide +kernel
theorem d_Lk_orderText_45 : decode b_Lk_orderText 45 = .ok (.getfield 60, 3) := by decide +kernel
theorem d_Lk_orderText_48 : decode b_Lk_orderText 48 = .ok (.iload_n 2, 1) := by decide +kernel
theorem d_Lk_orderText_49 : decode b_Lk_orderText 49 = .ok (.iastore, 1) := by decide +kernel
theorem d_Lk_orderText_50 : decode b_Lk_orderText 50 = .ok (.aload_n 0, 1) := by decide +kernel
theorem d_Lk_orderText_51 : decode b_Lk_orderText 51 = .ok (.dup, 1) := by decide +kernel
theorem d_Lk_orderText_52 : decode b_Lk_orderText 52 = .ok (.getfield 60, 3) := by decide +kernel
theorem d_Lk_orderText_55 : decode b_Lk_orderText 55 = .ok (.iconst 1, 1) := by decide +kernel
theorem d_Lk_orderText_56 : decode b_Lk_orderText 56 = .ok (.iadd, 1) := by decide +kernel
theorem d_Lk_orderText_57 : decode b_Lk_orderText 57 = .ok (.putfield 60, 3) := by decide +kernel
theorem d_Lk_orderText_60 : decode b_Lk_orderText 60 = .ok (.aload_n 0, 1) := by decide +kernel
theorem d_Lk_orderText_61 : decode b_Lk_orderText 61 = .ok (.getfield 30, 3) := by decide +kernel
theorem d_Lk_orderText_64 : decode b_Lk_orderText 64 = .ok (.getfield 93, 3) := by decide +kernel
theorem d_Lk_orderText_67 : decode b_Lk_orderText 67 = .ok (.iload_n 2, 1) := by decide +kernel
theorem d_Lk_orderText_68 : decode b_Lk_orderText 68 = .ok (.iaload, 1) := by decide +kernel
theorem d_Lk_orderText_69 : decode b_Lk_orderText 69 = .ok (.iconst 1, 1) := by decide +kernel
theorem d_Lk_orderText_70 : decode b_Lk_orderText 70 = .ok (.isub, 1) := by decide +kernel
theorem d_Lk_orderText_71 : decode b_Lk_orderText 71 = .ok (.istore_n 3, 1) := by decide +kernel
theorem d_Lk_orderText_72 : decode b_Lk_orderText 72 = .ok (.iload_n 3, 1) := by decide +kernel
theorem d_Lk_orderText_73 : decode b_Lk_orderText 73 = .ok (.ifCond .lt 27, 3) := by decide +kernel
theorem d_Lk_orderText_76 : decode b_Lk_orderText 76 = .ok (.aload_n 0, 1) := by decide +kernel
theorem d_Lk_orderText_77 : decode b_Lk_orderText 77 = .ok (.getfield 15, 3) := by decide +kernel
theorem d_Lk_orderText_80 : decode b_Lk_orderText 80 = .ok (.iload_n 1, 1) := by decide +kernel
theorem d_Lk_orderText_81 : decode b_Lk_orderText 81 = .ok (.aload_n 0, 1) := by decide +kernel
theorem d_Lk_orderText_82 : decode b_Lk_orderText 82 = .ok (.getfield 30, 3) := by decide +kernel
theorem d_Lk_orderText_85 : decode b_Lk_orderText 85 = .ok (.iload_n 2, 1) := by decide +kernel
theorem d_Lk_orderText_86 : decode b_Lk_orderText 86 = .ok (.iload_n 3, 1) := by decide +kernel
theorem d_Lk_orderText_87 : decode b_Lk_orderText 87 = .ok (.invokevirtual 98, 3) := by decide +kernel
theorem d_Lk_orderText_90 : decode b_Lk_orderText 90 = .ok (.iastore, 1) := by decide +kernel
theorem d_Lk_orderText_91 : decode b_Lk_orderText 91 = .ok (.iinc 1 1, 3) := by decide +kernel
theorem d_Lk_orderText_94 : decode b_Lk_orderText 94 = .ok (.iinc 3 (-1), 3) := by decide +kernel
theorem d_Lk_orderText_97 : decode b_Lk_orderText 97 = .ok (.goto (-25), 3) := by decide +kernel
theorem d_Lk_orderText_100 : decode b_Lk_orderText 100 = .ok (.goto (-83), 3) := by decide +kernel
theorem d_Lk_orderText_103 : decode b_Lk_orderText 103 = .ok (.return_, 1) := by decide +kernel
theorem d_Lk_findTargets_0 : decode b_Lk_findTargets 0 = .ok (.aload_n 0, 1) := by decide +kernel
theorem d_Lk_findTargets_1 : decode b_Lk_findTargets 1 = .ok (.invokevirtual 74, 3) := by decide +kernel
theorem d_Lk_findTargets_4 : decode b_Lk_findTargets 4 = .ok (.iconst 0, 1) := by decide +kernel
theorem d_Lk_findTargets_5 : decode b_Lk_findTargets 5 = .ok (.istore_n 1, 1) := by decide +kernel
theorem d_Lk_findTargets_6 : decode b_Lk_findTargets 6 = .ok (.iload_n 1, 1) := by decide +kernel
theorem d_Lk_findTargets_7 : decode b_Lk_findTargets 7 = .ok (.aload_n 0, 1) := by decide +kernel
theorem d_Lk_findTargets_8 : decode b_Lk_findTargets 8 = .ok (.getfield 60, 3) := by decide +kernel
theorem d_Lk_findTargets_11 : decode b_Lk_findTargets 11 = .ok (.if_icmp .ge 35, 3) := by decide +kernel
theorem d_Lk_findTargets_14 : decode b_Lk_findTargets 14 = .ok (.aload_n 0, 1) := by decide +kernel
theorem d_Lk_findTargets_15 : decode b_Lk_findTargets 15 = .ok (.getfield 9, 3) := by decide +kernel
theorem d_Lk_findTargets_18 : decode b_Lk_findTargets 18 = .ok (.iload_n 1, 1) := by decide +kernel
theorem d_Lk_findTargets_19 : decode b_Lk_findTargets 19 = .ok (.iaload, 1) := by decide +kernel
theorem d_Lk_findTargets_20 : decode b_Lk_findTargets 20 = .ok (.istore_n 2, 1) := by decide +kernel
theorem d_Lk_findTargets_21 : decode b_Lk_findTargets 21 = .ok (.aload_n 0, 1) := by decide +kernel
theorem d_Lk_findTargets_22 : decode b_Lk_findTargets 22 = .ok (.iload_n 2, 1) := by decide +kernel
theorem d_Lk_findTargets_23 : decode b_Lk_findTargets 23 = .ok (.invokevirtual 102, 3) := by decide +kernel
theorem d_Lk_findTargets_26 : decode b_Lk_findTargets 26 = .ok (.ifCond .eq 14, 3) := by decide +kernel
theorem d_Lk_findTargets_29 : decode b_Lk_findTargets 29 = .ok (.aload_n 0, 1) := by decide +kernel
theorem d_Lk_findTargets_30 : decode b_Lk_findTargets 30 = .ok (.getfield 18, 3) := by decide +kernel
theorem d_Lk_findTargets_33 : decode b_Lk_findTargets 33 = .ok (.iload_n 2, 1) := by decide +kernel
theorem d_Lk_findTargets_34 : decode b_Lk_findTargets 34 = .ok (.aload_n 0, 1) := by decide +kernel
theorem d_Lk_findTargets_35 : decode b_Lk_findTargets 35 = .ok (.iload_n 2, 1) := by decide +kernel
theorem d_Lk_findTargets_36 : decode b_Lk_findTargets 36 = .ok (.invokevirtual 106, 3) := by decide +kernel
theorem d_Lk_findTargets_39 : decode b_Lk_findTargets 39 = .ok (.iastore, 1) := by decide +kernel
theorem d_Lk_findTargets_40 : decode b_Lk_findTargets 40 = .ok (.iinc 1 1, 3) := by decide +kernel
theorem d_Lk_findTargets_43 : decode b_Lk_findTargets 43 = .ok (.goto (-37), 3) := by decide +kernel
theorem d_Lk_findTargets_46 : decode b_Lk_findTargets 46 = .ok (.return_, 1) := by decide +kernel
theorem d_Lk_isJump_0 : decode b_Lk_isJump 0 = .ok (.aload_n 0, 1) := by decide +kernel
theorem d_Lk_isJump_1 : decode b_Lk_isJump 1 = .ok (.getfield 30, 3) := by decide +kernel
theorem d_Lk_isJump_4 : decode b_Lk_isJump 4 = .ok (.getfield 110, 3) := by decide +kernel
theorem d_Lk_isJump_7 : decode b_Lk_isJump 7 = .ok (.iload_n 1, 1) := by decide +kernel
theorem d_Lk_isJump_8 : decode b_Lk_isJump 8 = .ok (.iaload, 1) := by decide +kernel
theorem d_Lk_isJump_9 : decode b_Lk_isJump 9 = .ok (.bipush 10, 2) := by decide +kernel
theorem d_Lk_isJump_11 : decode b_Lk_isJump 11 = .ok (.if_icmp .eq 17, 3) := by decide +kernel
theorem d_Lk_isJump_14 : decode b_Lk_isJump 14 = .ok (.aload_n 0, 1) := by decide +kernel
theorem d_Lk_isJump_15 : decode b_Lk_isJump 15 = .ok (.getfield 30, 3) := by decide +kernel
theorem d_Lk_isJump_18 : decode b_Lk_isJump 18 = .ok (.getfield 110, 3) := by decide +kernel
theorem d_Lk_isJump_21 : decode b_Lk_isJump 21 = .ok (.iload_n 1, 1) := by decide +kernel
theorem d_Lk_isJump_22 : decode b_Lk_isJump 22 = .ok (.iaload, 1) := by decide +kernel
theorem d_Lk_isJump_23 : decode b_Lk_isJump 23 = .ok (.bipush 11, 2) := by decide +kernel
theorem d_Lk_isJump_25 : decode b_Lk_isJump 25 = .ok (.if_icmp .ne 7, 3) := by decide +kernel
theorem d_Lk_isJump_28 : decode b_Lk_isJump 28 = .ok (.iconst 1, 1) := by decide +kernel
theorem d_Lk_isJump_29 : decode b_Lk_isJump 29 = .ok (.goto 4, 3) := by decide +kernel
theorem d_Lk_isJump_32 : decode b_Lk_isJump 32 = .ok (.iconst 0, 1) := by decide +kernel
theorem d_Lk_isJump_33 : decode b_Lk_isJump 33 = .ok (.ireturn, 1) := by decide +kernel
theorem d_Lk_targetOf_0 : decode b_Lk_targetOf 0 = .ok (.aload_n 0, 1) := by decide +kernel
theorem d_Lk_targetOf_1 : decode b_Lk_targetOf 1 = .ok (.getfield 30, 3) := by decide +kernel
theorem d_Lk_targetOf_4 : decode b_Lk_targetOf 4 = .ok (.getfield 113, 3) := by decide +kernel
theorem d_Lk_targetOf_7 : decode b_Lk_targetOf 7 = .ok (.iload_n 1, 1) := by decide +kernel
theorem d_Lk_targetOf_8 : decode b_Lk_targetOf 8 = .ok (.iaload, 1) := by decide +kernel
theorem d_Lk_targetOf_9 : decode b_Lk_targetOf 9 = .ok (.istore_n 2, 1) := by decide +kernel
theorem d_Lk_targetOf_10 : decode b_Lk_targetOf 10 = .ok (.iload_n 2, 1) := by decide +kernel
theorem d_Lk_targetOf_11 : decode b_Lk_targetOf 11 = .ok (.iconst (-1), 1) := by decide +kernel
theorem d_Lk_targetOf_12 : decode b_Lk_targetOf 12 = .ok (.if_icmp .eq 39, 3) := by decide +kernel
theorem d_Lk_targetOf_15 : decode b_Lk_targetOf 15 = .ok (.aload_n 0, 1) := by decide +kernel
theorem d_Lk_targetOf_16 : decode b_Lk_targetOf 16 = .ok (.iload_n 1, 1) := by decide +kernel
theorem d_Lk_targetOf_17 : decode b_Lk_targetOf 17 = .ok (.iload_n 2, 1) := by decide +kernel
theorem d_Lk_targetOf_18 : decode b_Lk_targetOf 18 = .ok (.invokevirtual 116, 3) := by decide +kernel
theorem d_Lk_targetOf_21 : decode b_Lk_targetOf 21 = .ok (.istore_n 3, 1) := by decide +kernel
theorem d_Lk_targetOf_22 : decode b_Lk_targetOf 22 = .ok (.aload_n 0, 1) := by decide +kernel
theorem d_Lk_targetOf_23 : decode b_Lk_targetOf 23 = .ok (.getfield 30, 3) := by decide +kernel
theorem d_Lk_targetOf_26 : decode b_Lk_targetOf 26 = .ok (.getfield 110, 3) := by decide +kernel
theorem d_Lk_targetOf_29 : decode b_Lk_targetOf 29 = .ok (.iload_n 1, 1) := by decide +kernel
theorem d_Lk_targetOf_30 : decode b_Lk_targetOf 30 = .ok (.iaload, 1) := by decide +kernel
theorem d_Lk_targetOf_31 : decode b_Lk_targetOf 31 = .ok (.bipush 10, 2) := by decide +kernel
theorem d_Lk_targetOf_33 : decode b_Lk_targetOf 33 = .ok (.if_icmp .eq 8, 3) := by decide +kernel
theorem d_Lk_targetOf_36 : decode b_Lk_targetOf 36 = .ok (.iload_n 3, 1) := by decide +kernel
theorem d_Lk_targetOf_37 : decode b_Lk_targetOf 37 = .ok (.iconst (-1), 1) := by decide +kernel
theorem d_Lk_targetOf_38 : decode b_Lk_targetOf 38 = .ok (.if_icmp .ne 7, 3) := by decide +kernel
theorem d_Lk_targetOf_41 : decode b_Lk_targetOf 41 = .ok (.iload_n 3, 1) := by decide +kernel
theorem d_Lk_targetOf_42 : decode b_Lk_targetOf 42 = .ok (.goto 8, 3) := by decide +kernel
theorem d_Lk_targetOf_45 : decode b_Lk_targetOf 45 = .ok (.aload_n 0, 1) := by decide +kernel
theorem d_Lk_targetOf_46 : decode b_Lk_targetOf 46 = .ok (.iload_n 3, 1) := by decide +kernel
theorem d_Lk_targetOf_47 : decode b_Lk_targetOf 47 = .ok (.invokevirtual 119, 3) := by decide +kernel
theorem d_Lk_targetOf_50 : decode b_Lk_targetOf 50 = .ok (.ireturn, 1) := by decide +kernel
theorem d_Lk_targetOf_51 : decode b_Lk_targetOf 51 = .ok (.iload_n 1, 1) := by decide +kernel
theorem d_Lk_targetOf_52 : decode b_Lk_targetOf 52 = .ok (.istore_n 3, 1) := by decide +kernel
theorem d_Lk_targetOf_53 : decode b_Lk_targetOf 53 = .ok (.iconst 0, 1) := by decide +kernel
theorem d_Lk_targetOf_54 : decode b_Lk_targetOf 54 = .ok (.istore 4, 2) := by decide +kernel
theorem d_Lk_targetOf_56 : decode b_Lk_targetOf 56 = .ok (.iload_n 3, 1) := by decide +kernel
theorem d_Lk_targetOf_57 : decode b_Lk_targetOf 57 = .ok (.aload_n 0, 1) := by decide +kernel
theorem d_Lk_targetOf_58 : decode b_Lk_targetOf 58 = .ok (.getfield 56, 3) := by decide +kernel
theorem d_Lk_targetOf_61 : decode b_Lk_targetOf 61 = .ok (.if_icmp .eq 52, 3) := by decide +kernel
theorem d_Lk_targetOf_64 : decode b_Lk_targetOf 64 = .ok (.iload 4, 2) := by decide +kernel
theorem d_Lk_targetOf_66 : decode b_Lk_targetOf 66 = .ok (.bipush 60, 2) := by decide +kernel
theorem d_Lk_targetOf_68 : decode b_Lk_targetOf 68 = .ok (.if_icmp .ge 45, 3) := by decide +kernel
theorem d_Lk_targetOf_71 : decode b_Lk_targetOf 71 = .ok (.aload_n 0, 1) := by decide +kernel
theorem d_Lk_targetOf_72 : decode b_Lk_targetOf 72 = .ok (.getfield 30, 3) := by decide +kernel
theorem d_Lk_targetOf_75 : decode b_Lk_targetOf 75 = .ok (.getfield 122, 3) := by decide +kernel
theorem d_Lk_targetOf_78 : decode b_Lk_targetOf 78 = .ok (.iload_n 3, 1) := by decide +kernel
theorem d_Lk_targetOf_79 : decode b_Lk_targetOf 79 = .ok (.iaload, 1) := by decide +kernel
theorem d_Lk_targetOf_80 : decode b_Lk_targetOf 80 = .ok (.istore_n 3, 1) := by decide +kernel
theorem d_Lk_targetOf_81 : decode b_Lk_targetOf 81 = .ok (.aload_n 0, 1) := by decide +kernel
theorem d_Lk_targetOf_82 : decode b_Lk_targetOf 82 = .ok (.getfield 30, 3) := by decide +kernel
theorem d_Lk_targetOf_85 : decode b_Lk_targetOf 85 = .ok (.getfield 110, 3) := by decide +kernel
theorem d_Lk_targetOf_88 : decode b_Lk_targetOf 88 = .ok (.iload_n 1, 1) := by decide +kernel
theorem d_Lk_targetOf_89 : decode b_Lk_targetOf 89 = .ok (.iaload, 1) := by decide +kernel
theorem d_Lk_targetOf_90 : decode b_Lk_targetOf 90 = .ok (.aload_n 0, 1) := by decide +kernel
theorem d_Lk_targetOf_91 : decode b_Lk_targetOf 91 = .ok (.getfield 30, 3) := by decide +kernel
theorem d_Lk_targetOf_94 : decode b_Lk_targetOf 94 = .ok (.getfield 110, 3) := by decide +kernel
theorem d_Lk_targetOf_97 : decode b_Lk_targetOf 97 = .ok (.iload_n 3, 1) := by decide +kernel
theorem d_Lk_targetOf_98 : decode b_Lk_targetOf 98 = .ok (.iaload, 1) := by decide +kernel
theorem d_Lk_targetOf_99 : decode b_Lk_targetOf 99 = .ok (.invokestatic 125, 3) := by decide +kernel
theorem d_Lk_targetOf_102 : decode b_Lk_targetOf 102 = .ok (.ifCond .eq 5, 3) := by decide +kernel
theorem d_Lk_targetOf_105 : decode b_Lk_targetOf 105 = .ok (.iload_n 3, 1) := by decide +kernel
theorem d_Lk_targetOf_106 : decode b_Lk_targetOf 106 = .ok (.ireturn, 1) := by decide +kernel
theorem d_Lk_targetOf_107 : decode b_Lk_targetOf 107 = .ok (.iinc 4 1, 3) := by decide +kernel
theorem d_Lk_targetOf_110 : decode b_Lk_targetOf 110 = .ok (.goto (-54), 3) := by decide +kernel
theorem d_Lk_targetOf_113 : decode b_Lk_targetOf 113 = .ok (.iconst (-1), 1) := by decide +kernel
theorem d_Lk_targetOf_114 : decode b_Lk_targetOf 114 = .ok (.ireturn, 1) := by decide +kernel
theorem d_Lk_stopsNameless_0 : decode b_Lk_stopsNameless 0 = .ok (.iload_n 1, 1) := by decide +kernel
theorem d_Lk_stopsNameless_1 : decode b_Lk_stopsNameless 1 = .ok (.invokestatic 129, 3) := by decide +kernel
theorem d_Lk_stopsNameless_4 : decode b_Lk_stopsNameless 4 = .ok (.ifCond .ne 21, 3) := by decide +kernel
theorem d_Lk_stopsNameless_7 : decode b_Lk_stopsNameless 7 = .ok (.iload_n 0, 1) := by decide +kernel
theorem d_Lk_stopsNameless_8 : decode b_Lk_stopsNameless 8 = .ok (.bipush 10, 2) := by decide +kernel
theorem d_Lk_stopsNameless_10 : decode b_Lk_stopsNameless 10 = .ok (.if_icmp .ne 19, 3) := by decide +kernel
theorem d_Lk_stopsNameless_13 : decode b_Lk_stopsNameless 13 = .ok (.iload_n 1, 1) := by decide +kernel
theorem d_Lk_stopsNameless_14 : decode b_Lk_stopsNameless 14 = .ok (.bipush 14, 2) := by decide +kernel
theorem d_Lk_stopsNameless_16 : decode b_Lk_stopsNameless 16 = .ok (.if_icmp .eq 9, 3) := by decide +kernel
theorem d_Lk_stopsNameless_19 : decode b_Lk_stopsNameless 19 = .ok (.iload_n 1, 1) := by decide +kernel
theorem d_Lk_stopsNameless_20 : decode b_Lk_stopsNameless 20 = .ok (.bipush 15, 2) := by decide +kernel
theorem d_Lk_stopsNameless_22 : decode b_Lk_stopsNameless 22 = .ok (.if_icmp .ne 7, 3) := by decide +kernel
theorem d_Lk_stopsNameless_25 : decode b_Lk_stopsNameless 25 = .ok (.iconst 1, 1) := by decide +kernel
theorem d_Lk_stopsNameless_26 : decode b_Lk_stopsNameless 26 = .ok (.goto 4, 3) := by decide +kernel
theorem d_Lk_stopsNameless_29 : decode b_Lk_stopsNameless 29 = .ok (.iconst 0, 1) := by decide +kernel
theorem d_Lk_stopsNameless_30 : decode b_Lk_stopsNameless 30 = .ok (.ireturn, 1) := by decide +kernel
theorem d_Lk_labelAround_0 : decode b_Lk_labelAround 0 = .ok (.iload_n 1, 1) := by decide +kernel
theorem d_Lk_labelAround_1 : decode b_Lk_labelAround 1 = .ok (.istore_n 3, 1) := by decide +kernel
theorem d_Lk_labelAround_2 : decode b_Lk_labelAround 2 = .ok (.iconst 0, 1) := by decide +kernel
theorem d_Lk_labelAround_3 : decode b_Lk_labelAround 3 = .ok (.istore 4, 2) := by decide +kernel
theorem d_Lk_labelAround_5 : decode b_Lk_labelAround 5 = .ok (.iload_n 3, 1) := by decide +kernel
theorem d_Lk_labelAround_6 : decode b_Lk_labelAround 6 = .ok (.aload_n 0, 1) := by decide +kernel
theorem d_Lk_labelAround_7 : decode b_Lk_labelAround 7 = .ok (.getfield 56, 3) := by decide +kernel
theorem d_Lk_labelAround_10 : decode b_Lk_labelAround 10 = .ok (.if_icmp .eq 55, 3) := by decide +kernel
theorem d_Lk_labelAround_13 : decode b_Lk_labelAround 13 = .ok (.iload 4, 2) := by decide +kernel
theorem d_Lk_labelAround_15 : decode b_Lk_labelAround 15 = .ok (.bipush 60, 2) := by decide +kernel
theorem d_Lk_labelAround_17 : decode b_Lk_labelAround 17 = .ok (.if_icmp .ge 48, 3) := by decide +kernel
theorem d_Lk_labelAround_20 : decode b_Lk_labelAround 20 = .ok (.aload_n 0, 1) := by decide +kernel
theorem d_Lk_labelAround_21 : decode b_Lk_labelAround 21 = .ok (.getfield 30, 3) := by decide +kernel
theorem d_Lk_labelAround_24 : decode b_Lk_labelAround 24 = .ok (.getfield 122, 3) := by decide +kernel
theorem d_Lk_labelAround_27 : decode b_Lk_labelAround 27 = .ok (.iload_n 3, 1) := by decide +kernel
theorem d_Lk_labelAround_28 : decode b_Lk_labelAround 28 = .ok (.iaload, 1) := by decide +kernel
theorem d_Lk_labelAround_29 : decode b_Lk_labelAround 29 = .ok (.istore_n 3, 1) := by decide +kernel
theorem d_Lk_labelAround_30 : decode b_Lk_labelAround 30 = .ok (.aload_n 0, 1) := by decide +kernel
theorem d_Lk_labelAround_31 : decode b_Lk_labelAround 31 = .ok (.getfield 30, 3) := by decide +kernel
theorem d_Lk_labelAround_34 : decode b_Lk_labelAround 34 = .ok (.getfield 110, 3) := by decide +kernel
theorem d_Lk_labelAround_37 : decode b_Lk_labelAround 37 = .ok (.iload_n 3, 1) := by decide +kernel
theorem d_Lk_labelAround_38 : decode b_Lk_labelAround 38 = .ok (.iaload, 1) := by decide +kernel
theorem d_Lk_labelAround_39 : decode b_Lk_labelAround 39 = .ok (.bipush 12, 2) := by decide +kernel
theorem d_Lk_labelAround_41 : decode b_Lk_labelAround 41 = .ok (.if_icmp .ne 18, 3) := by decide +kernel
theorem d_Lk_labelAround_44 : decode b_Lk_labelAround 44 = .ok (.aload_n 0, 1) := by decide +kernel
theorem d_Lk_labelAround_45 : decode b_Lk_labelAround 45 = .ok (.getfield 30, 3) := by decide +kernel
theorem d_Lk_labelAround_48 : decode b_Lk_labelAround 48 = .ok (.getfield 113, 3) := by decide +kernel
theorem d_Lk_labelAround_51 : decode b_Lk_labelAround 51 = .ok (.iload_n 3, 1) := by decide +kernel
theorem d_Lk_labelAround_52 : decode b_Lk_labelAround 52 = .ok (.iaload, 1) := by decide +kernel
theorem d_Lk_labelAround_53 : decode b_Lk_labelAround 53 = .ok (.iload_n 2, 1) := by decide +kernel
theorem d_Lk_labelAround_54 : decode b_Lk_labelAround 54 = .ok (.if_icmp .ne 5, 3) := by decide +kernel
theorem d_Lk_labelAround_57 : decode b_Lk_labelAround 57 = .ok (.iload_n 3, 1) := by decide +kernel
theorem d_Lk_labelAround_58 : decode b_Lk_labelAround 58 = .ok (.ireturn, 1) := by decide +kernel
theorem d_Lk_labelAround_59 : decode b_Lk_labelAround 59 = .ok (.iinc 4 1, 3) := by decide +kernel
theorem d_Lk_labelAround_62 : decode b_Lk_labelAround 62 = .ok (.goto (-57), 3) := by decide +kernel
theorem d_Lk_labelAround_65 : decode b_Lk_labelAround 65 = .ok (.iconst (-1), 1) := by decide +kernel
theorem d_Lk_labelAround_66 : decode b_Lk_labelAround 66 = .ok (.ireturn, 1) := by decide +kernel
theorem d_Lk_loopIn_0 : decode b_Lk_loopIn 0 = .ok (.aload_n 0, 1) := by decide +kernel
theorem d_Lk_loopIn_1 : decode b_Lk_loopIn 1 = .ok (.getfield 30, 3) := by decide +kernel
theorem d_Lk_loopIn_4 : decode b_Lk_loopIn 4 = .ok (.iload_n 1, 1) := by decide +kernel
theorem d_Lk_loopIn_5 : decode b_Lk_loopIn 5 = .ok (.iconst 0, 1) := by decide +kernel
theorem d_Lk_loopIn_6 : decode b_Lk_loopIn 6 = .ok (.invokevirtual 98, 3) := by decide +kernel
theorem d_Lk_loopIn_9 : decode b_Lk_loopIn 9 = .ok (.istore_n 2, 1) := by decide +kernel
theorem d_Lk_loopIn_10 : decode b_Lk_loopIn 10 = .ok (.aload_n 0, 1) := by decide +kernel
theorem d_Lk_loopIn_11 : decode b_Lk_loopIn 11 = .ok (.getfield 30, 3) := by decide +kernel
theorem d_Lk_loopIn_14 : decode b_Lk_loopIn 14 = .ok (.getfield 110, 3) := by decide +kernel
theorem d_Lk_loopIn_17 : decode b_Lk_loopIn 17 = .ok (.iload_n 2, 1) := by decide +kernel
theorem d_Lk_loopIn_18 : decode b_Lk_loopIn 18 = .ok (.iaload, 1) := by decide +kernel
theorem d_Lk_loopIn_19 : decode b_Lk_loopIn 19 = .ok (.invokestatic 129, 3) := by decide +kernel
theorem d_Lk_loopIn_22 : decode b_Lk_loopIn 22 = .ok (.ifCond .eq 7, 3) := by decide +kernel
theorem d_Lk_loopIn_25 : decode b_Lk_loopIn 25 = .ok (.iload_n 2, 1) := by decide +kernel
theorem d_Lk_loopIn_26 : decode b_Lk_loopIn 26 = .ok (.goto 4, 3) := by decide +kernel
theorem d_Lk_loopIn_29 : decode b_Lk_loopIn 29 = .ok (.iconst (-1), 1) := by decide +kernel
theorem d_Lk_loopIn_30 : decode b_Lk_loopIn 30 = .ok (.ireturn, 1) := by decide +kernel
theorem d_Lk_listFaults_0 : decode b_Lk_listFaults 0 = .ok (.aload_n 0, 1) := by decide +kernel
theorem d_Lk_listFaults_1 : decode b_Lk_listFaults 1 = .ok (.iconst 0, 1) := by decide +kernel
theorem d_Lk_listFaults_2 : decode b_Lk_listFaults 2 = .ok (.putfield 63, 3) := by decide +kernel
theorem d_Lk_listFaults_5 : decode b_Lk_listFaults 5 = .ok (.iconst 0, 1) := by decide +kernel
theorem d_Lk_listFaults_6 : decode b_Lk_listFaults 6 = .ok (.istore_n 1, 1) := by decide +kernel
theorem d_Lk_listFaults_7 : decode b_Lk_listFaults 7 = .ok (.iload_n 1, 1) := by decide +kernel
theorem d_Lk_listFaults_8 : decode b_Lk_listFaults 8 = .ok (.aload_n 0, 1) := by decide +kernel
theorem d_Lk_listFaults_9 : decode b_Lk_listFaults 9 = .ok (.getfield 60, 3) := by decide +kernel
theorem d_Lk_listFaults_12 : decode b_Lk_listFaults 12 = .ok (.if_icmp .ge 91, 3) := by decide +kernel
theorem d_Lk_listFaults_15 : decode b_Lk_listFaults 15 = .ok (.aload_n 0, 1) := by decide +kernel
theorem d_Lk_listFaults_16 : decode b_Lk_listFaults 16 = .ok (.getfield 9, 3) := by decide +kernel
theorem d_Lk_listFaults_19 : decode b_Lk_listFaults 19 = .ok (.iload_n 1, 1) := by decide +kernel
theorem d_Lk_listFaults_20 : decode b_Lk_listFaults 20 = .ok (.iaload, 1) := by decide +kernel
theorem d_Lk_listFaults_21 : decode b_Lk_listFaults 21 = .ok (.istore_n 2, 1) := by decide +kernel
theorem d_Lk_listFaults_22 : decode b_Lk_listFaults 22 = .ok (.iload_n 2, 1) := by decide +kernel
theorem d_Lk_listFaults_23 : decode b_Lk_listFaults 23 = .ok (.aload_n 0, 1) := by decide +kernel
theorem d_Lk_listFaults_24 : decode b_Lk_listFaults 24 = .ok (.getfield 56, 3) := by decide +kernel
theorem d_Lk_listFaults_27 : decode b_Lk_listFaults 27 = .ok (.if_icmp .eq 8, 3) := by decide +kernel
theorem d_Lk_listFaults_30 : decode b_Lk_listFaults 30 = .ok (.aload_n 0, 1) := by decide +kernel
theorem d_Lk_listFaults_31 : decode b_Lk_listFaults 31 = .ok (.iload_n 2, 1) := by decide +kernel
theorem d_Lk_listFaults_32 : decode b_Lk_listFaults 32 = .ok (.invokevirtual 132, 3) := by decide +kernel
theorem d_Lk_listFaults_35 : decode b_Lk_listFaults 35 = .ok (.aload_n 0, 1) := by decide +kernel
theorem d_Lk_listFaults_36 : decode b_Lk_listFaults 36 = .ok (.iload_n 2, 1) := by decide +kernel
theorem d_Lk_listFaults_37 : decode b_Lk_listFaults 37 = .ok (.invokevirtual 102, 3) := by decide +kernel
theorem d_Lk_listFaults_40 : decode b_Lk_listFaults 40 = .ok (.ifCond .eq 19, 3) := by decide +kernel
theorem d_Lk_listFaults_43 : decode b_Lk_listFaults 43 = .ok (.aload_n 0, 1) := by decide +kernel
theorem d_Lk_listFaults_44 : decode b_Lk_listFaults 44 = .ok (.getfield 18, 3) := by decide +kernel
theorem d_Lk_listFaults_47 : decode b_Lk_listFaults 47 = .ok (.iload_n 2, 1) := by decide +kernel
theorem d_Lk_listFaults_48 : decode b_Lk_listFaults 48 = .ok (.iaload, 1) := by decide +kernel
theorem d_Lk_listFaults_49 : decode b_Lk_listFaults 49 = .ok (.iconst (-1), 1) := by decide +kernel
theorem d_Lk_listFaults_50 : decode b_Lk_listFaults 50 = .ok (.if_icmp .ne 9, 3) := by decide +kernel
theorem d_Lk_listFaults_53 : decode b_Lk_listFaults 53 = .ok (.aload_n 0, 1) := by decide +kernel
theorem d_Lk_listFaults_54 : decode b_Lk_listFaults 54 = .ok (.iconst 2, 1) := by decide +kernel
theorem d_Lk_listFaults_55 : decode b_Lk_listFaults 55 = .ok (.iload_n 2, 1) := by decide +kernel
theorem d_Lk_listFaults_56 : decode b_Lk_listFaults 56 = .ok (.invokevirtual 136, 3) := by decide +kernel
theorem d_Lk_listFaults_59 : decode b_Lk_listFaults 59 = .ok (.aload_n 0, 1) := by decide +kernel
theorem d_Lk_listFaults_60 : decode b_Lk_listFaults 60 = .ok (.getfield 30, 3) := by decide +kernel
theorem d_Lk_listFaults_63 : decode b_Lk_listFaults 63 = .ok (.getfield 110, 3) := by decide +kernel
theorem d_Lk_listFaults_66 : decode b_Lk_listFaults 66 = .ok (.iload_n 2, 1) := by decide +kernel
theorem d_Lk_listFaults_67 : decode b_Lk_listFaults 67 = .ok (.iaload, 1) := by decide +kernel
theorem d_Lk_listFaults_68 : decode b_Lk_listFaults 68 = .ok (.bipush 12, 2) := by decide +kernel
theorem d_Lk_listFaults_70 : decode b_Lk_listFaults 70 = .ok (.if_icmp .ne 27, 3) := by decide +kernel
theorem d_Lk_listFaults_73 : decode b_Lk_listFaults 73 = .ok (.aload_n 0, 1) := by decide +kernel
theorem d_Lk_listFaults_74 : decode b_Lk_listFaults 74 = .ok (.iload_n 2, 1) := by decide +kernel
theorem d_Lk_listFaults_75 : decode b_Lk_listFaults 75 = .ok (.aload_n 0, 1) := by decide +kernel
theorem d_Lk_listFaults_76 : decode b_Lk_listFaults 76 = .ok (.getfield 30, 3) := by decide +kernel
theorem d_Lk_listFaults_79 : decode b_Lk_listFaults 79 = .ok (.getfield 113, 3) := by decide +kernel
theorem d_Lk_listFaults_82 : decode b_Lk_listFaults 82 = .ok (.iload_n 2, 1) := by decide +kernel
theorem d_Lk_listFaults_83 : decode b_Lk_listFaults 83 = .ok (.iaload, 1) := by decide +kernel
theorem d_Lk_listFaults_84 : decode b_Lk_listFaults 84 = .ok (.invokevirtual 116, 3) := by decide +kernel
theorem d_Lk_listFaults_87 : decode b_Lk_listFaults 87 = .ok (.iconst (-1), 1) := by decide +kernel
theorem d_Lk_listFaults_88 : decode b_Lk_listFaults 88 = .ok (.if_icmp .eq 9, 3) := by decide +kernel
theorem d_Lk_listFaults_91 : decode b_Lk_listFaults 91 = .ok (.aload_n 0, 1) := by decide +kernel
theorem d_Lk_listFaults_92 : decode b_Lk_listFaults 92 = .ok (.iconst 5, 1) := by decide +kernel
theorem d_Lk_listFaults_93 : decode b_Lk_listFaults 93 = .ok (.iload_n 2, 1) := by decide +kernel
theorem d_Lk_listFaults_94 : decode b_Lk_listFaults 94 = .ok (.invokevirtual 136, 3) := by decide +kernel
theorem d_Lk_listFaults_97 : decode b_Lk_listFaults 97 = .ok (.iinc 1 1, 3) := by decide +kernel
theorem d_Lk_listFaults_100 : decode b_Lk_listFaults 100 = .ok (.goto (-93), 3) := by decide +kernel
theorem d_Lk_listFaults_103 : decode b_Lk_listFaults 103 = .ok (.return_, 1) := by decide +kernel
theorem d_Lk_listPlaceFault_0 : decode b_Lk_listPlaceFault 0 = .ok (.aload_n 0, 1) := by decide +kernel
theorem d_Lk_listPlaceFault_1 : decode b_Lk_listPlaceFault 1 = .ok (.getfield 43, 3) := by decide +kernel
theorem d_Lk_listPlaceFault_4 : decode b_Lk_listPlaceFault 4 = .ok (.iload_n 1, 1) := by decide +kernel
theorem d_Lk_listPlaceFault_5 : decode b_Lk_listPlaceFault 5 = .ok (.invokevirtual 140, 3) := by decide +kernel
theorem d_Lk_listPlaceFault_8 : decode b_Lk_listPlaceFault 8 = .ok (.ifCond .ne 26, 3) := by decide +kernel
theorem d_Lk_listPlaceFault_11 : decode b_Lk_listPlaceFault 11 = .ok (.aload_n 0, 1) := by decide +kernel
theorem d_Lk_listPlaceFault_12 : decode b_Lk_listPlaceFault 12 = .ok (.getfield 43, 3) := by decide +kernel
theorem d_Lk_listPlaceFault_15 : decode b_Lk_listPlaceFault 15 = .ok (.aload_n 0, 1) := by decide +kernel
theorem d_Lk_listPlaceFault_16 : decode b_Lk_listPlaceFault 16 = .ok (.getfield 30, 3) := by decide +kernel
theorem d_Lk_listPlaceFault_19 : decode b_Lk_listPlaceFault 19 = .ok (.getfield 122, 3) := by decide +kernel
theorem d_Lk_listPlaceFault_22 : decode b_Lk_listPlaceFault 22 = .ok (.iload_n 1, 1) := by decide +kernel
theorem d_Lk_listPlaceFault_23 : decode b_Lk_listPlaceFault 23 = .ok (.iaload, 1) := by decide +kernel
theorem d_Lk_listPlaceFault_24 : decode b_Lk_listPlaceFault 24 = .ok (.invokevirtual 140, 3) := by decide +kernel
theorem d_Lk_listPlaceFault_27 : decode b_Lk_listPlaceFault 27 = .ok (.ifCond .eq 7, 3) := by decide +kernel
theorem d_Lk_listPlaceFault_30 : decode b_Lk_listPlaceFault 30 = .ok (.iconst 1, 1) := by decide +kernel
theorem d_Lk_listPlaceFault_31 : decode b_Lk_listPlaceFault 31 = .ok (.goto 4, 3) := by decide +kernel
theorem d_Lk_listPlaceFault_34 : decode b_Lk_listPlaceFault 34 = .ok (.iconst 0, 1) := by decide +kernel
theorem d_Lk_listPlaceFault_35 : decode b_Lk_listPlaceFault 35 = .ok (.istore_n 2, 1) := by decide +kernel
theorem d_Lk_listPlaceFault_36 : decode b_Lk_listPlaceFault 36 = .ok (.aload_n 0, 1) := by decide +kernel
theorem d_Lk_listPlaceFault_37 : decode b_Lk_listPlaceFault 37 = .ok (.getfield 30, 3) := by decide +kernel
theorem d_Lk_listPlaceFault_40 : decode b_Lk_listPlaceFault 40 = .ok (.iload_n 1, 1) := by decide +kernel
theorem d_Lk_listPlaceFault_41 : decode b_Lk_listPlaceFault 41 = .ok (.invokevirtual 143, 3) := by decide +kernel
theorem d_Lk_listPlaceFault_44 : decode b_Lk_listPlaceFault 44 = .ok (.ifCond .ne 41, 3) := by decide +kernel
theorem d_Lk_listPlaceFault_47 : decode b_Lk_listPlaceFault 47 = .ok (.aload_n 0, 1) := by decide +kernel
theorem d_Lk_listPlaceFault_48 : decode b_Lk_listPlaceFault 48 = .ok (.getfield 30, 3) := by decide +kernel
theorem d_Lk_listPlaceFault_51 : decode b_Lk_listPlaceFault 51 = .ok (.iload_n 1, 1) := by decide +kernel
theorem d_Lk_listPlaceFault_52 : decode b_Lk_listPlaceFault 52 = .ok (.invokevirtual 146, 3) := by decide +kernel
theorem d_Lk_listPlaceFault_55 : decode b_Lk_listPlaceFault 55 = .ok (.istore_n 3, 1) := by decide +kernel
theorem d_Lk_listPlaceFault_56 : decode b_Lk_listPlaceFault 56 = .ok (.iload_n 2, 1) := by decide +kernel
theorem d_Lk_listPlaceFault_57 : decode b_Lk_listPlaceFault 57 = .ok (.ifCond .eq 25, 3) := by decide +kernel
theorem d_Lk_listPlaceFault_60 : decode b_Lk_listPlaceFault 60 = .ok (.iload_n 3, 1) := by decide +kernel
theorem d_Lk_listPlaceFault_61 : decode b_Lk_listPlaceFault 61 = .ok (.iconst (-1), 1) := by decide +kernel
theorem d_Lk_listPlaceFault_62 : decode b_Lk_listPlaceFault 62 = .ok (.if_icmp .eq 14, 3) := by decide +kernel
theorem d_Lk_listPlaceFault_65 : decode b_Lk_listPlaceFault 65 = .ok (.aload_n 0, 1) := by decide +kernel
theorem d_Lk_listPlaceFault_66 : decode b_Lk_listPlaceFault 66 = .ok (.getfield 43, 3) := by decide +kernel
theorem d_Lk_listPlaceFault_69 : decode b_Lk_listPlaceFault 69 = .ok (.iload_n 3, 1) := by decide +kernel
theorem d_Lk_listPlaceFault_70 : decode b_Lk_listPlaceFault 70 = .ok (.invokevirtual 140, 3) := by decide +kernel
theorem d_Lk_listPlaceFault_73 : decode b_Lk_listPlaceFault 73 = .ok (.ifCond .eq 9, 3) := by decide +kernel
theorem d_Lk_listPlaceFault_76 : decode b_Lk_listPlaceFault 76 = .ok (.aload_n 0, 1) := by decide +kernel
theorem d_Lk_listPlaceFault_77 : decode b_Lk_listPlaceFault 77 = .ok (.iconst 1, 1) := by decide +kernel
theorem d_Lk_listPlaceFault_78 : decode b_Lk_listPlaceFault 78 = .ok (.iload_n 1, 1) := by decide +kernel
theorem d_Lk_listPlaceFault_79 : decode b_Lk_listPlaceFault 79 = .ok (.invokevirtual 136, 3) := by decide +kernel
theorem d_Lk_listPlaceFault_82 : decode b_Lk_listPlaceFault 82 = .ok (.goto 30, 3) := by decide +kernel
theorem d_Lk_listPlaceFault_85 : decode b_Lk_listPlaceFault 85 = .ok (.aload_n 0, 1) := by decide +kernel
theorem d_Lk_listPlaceFault_86 : decode b_Lk_listPlaceFault 86 = .ok (.iload_n 1, 1) := by decide +kernel
theorem d_Lk_listPlaceFault_87 : decode b_Lk_listPlaceFault 87 = .ok (.invokevirtual 149, 3) := by decide +kernel
theorem d_Lk_listPlaceFault_90 : decode b_Lk_listPlaceFault 90 = .ok (.ifCond .eq 12, 3) := by decide +kernel
theorem d_Lk_listPlaceFault_93 : decode b_Lk_listPlaceFault 93 = .ok (.aload_n 0, 1) := by decide +kernel
theorem d_Lk_listPlaceFault_94 : decode b_Lk_listPlaceFault 94 = .ok (.iconst 3, 1) := by decide +kernel
theorem d_Lk_listPlaceFault_95 : decode b_Lk_listPlaceFault 95 = .ok (.iload_n 1, 1) := by decide +kernel
theorem d_Lk_listPlaceFault_96 : decode b_Lk_listPlaceFault 96 = .ok (.invokevirtual 136, 3) := by decide +kernel
theorem d_Lk_listPlaceFault_99 : decode b_Lk_listPlaceFault 99 = .ok (.goto 13, 3) := by decide +kernel
theorem d_Lk_listPlaceFault_102 : decode b_Lk_listPlaceFault 102 = .ok (.iload_n 2, 1) := by decide +kernel
theorem d_Lk_listPlaceFault_103 : decode b_Lk_listPlaceFault 103 = .ok (.ifCond .eq 9, 3) := by decide +kernel
theorem d_Lk_listPlaceFault_106 : decode b_Lk_listPlaceFault 106 = .ok (.aload_n 0, 1) := by decide +kernel
theorem d_Lk_listPlaceFault_107 : decode b_Lk_listPlaceFault 107 = .ok (.iconst 4, 1) := by decide +kernel
theorem d_Lk_listPlaceFault_108 : decode b_Lk_listPlaceFault 108 = .ok (.iload_n 1, 1) := by decide +kernel
theorem d_Lk_listPlaceFault_109 : decode b_Lk_listPlaceFault 109 = .ok (.invokevirtual 136, 3) := by decide +kernel
theorem d_Lk_listPlaceFault_112 : decode b_Lk_listPlaceFault 112 = .ok (.return_, 1) := by decide +kernel
theorem d_Lk_isCaughtBefore_0 : decode b_Lk_isCaughtBefore 0 = .ok (.aload_n 0, 1) := by decide +kernel
theorem d_Lk_isCaughtBefore_1 : decode b_Lk_isCaughtBefore 1 = .ok (.getfield 34, 3) := by decide +kernel
theorem d_Lk_isCaughtBefore_4 : decode b_Lk_isCaughtBefore 4 = .ok (.getfield 152, 3) := by decide +kernel
theorem d_Lk_isCaughtBefore_7 : decode b_Lk_isCaughtBefore 7 = .ok (.aload_n 0, 1) := by decide +kernel
theorem d_Lk_isCaughtBefore_8 : decode b_Lk_isCaughtBefore 8 = .ok (.getfield 30, 3) := by decide +kernel
theorem d_Lk_isCaughtBefore_11 : decode b_Lk_isCaughtBefore 11 = .ok (.getfield 157, 3) := by decide +kernel
theorem d_Lk_isCaughtBefore_14 : decode b_Lk_isCaughtBefore 14 = .ok (.iload_n 1, 1) := by decide +kernel
theorem d_Lk_isCaughtBefore_15 : decode b_Lk_isCaughtBefore 15 = .ok (.iaload, 1) := by decide +kernel
theorem d_Lk_isCaughtBefore_16 : decode b_Lk_isCaughtBefore 16 = .ok (.iaload, 1) := by decide +kernel
theorem d_Lk_isCaughtBefore_17 : decode b_Lk_isCaughtBefore 17 = .ok (.istore_n 2, 1) := by decide +kernel
theorem d_Lk_isCaughtBefore_18 : decode b_Lk_isCaughtBefore 18 = .ok (.aload_n 0, 1) := by decide +kernel
theorem d_Lk_isCaughtBefore_19 : decode b_Lk_isCaughtBefore 19 = .ok (.getfield 30, 3) := by decide +kernel
theorem d_Lk_isCaughtBefore_22 : decode b_Lk_isCaughtBefore 22 = .ok (.getfield 122, 3) := by decide +kernel
theorem d_Lk_isCaughtBefore_25 : decode b_Lk_isCaughtBefore 25 = .ok (.iload_n 1, 1) := by decide +kernel
theorem d_Lk_isCaughtBefore_26 : decode b_Lk_isCaughtBefore 26 = .ok (.iaload, 1) := by decide +kernel
theorem d_Lk_isCaughtBefore_27 : decode b_Lk_isCaughtBefore 27 = .ok (.istore_n 3, 1) := by decide +kernel
theorem d_Lk_isCaughtBefore_28 : decode b_Lk_isCaughtBefore 28 = .ok (.iconst 1, 1) := by decide +kernel
theorem d_Lk_isCaughtBefore_29 : decode b_Lk_isCaughtBefore 29 = .ok (.istore 4, 2) := by decide +kernel
theorem d_Lk_isCaughtBefore_31 : decode b_Lk_isCaughtBefore 31 = .ok (.iload 4, 2) := by decide +kernel
theorem d_Lk_isCaughtBefore_33 : decode b_Lk_isCaughtBefore 33 = .ok (.aload_n 0, 1) := by decide +kernel
theorem d_Lk_isCaughtBefore_34 : decode b_Lk_isCaughtBefore 34 = .ok (.getfield 30, 3) := by decide +kernel
theorem d_Lk_isCaughtBefore_37 : decode b_Lk_isCaughtBefore 37 = .ok (.iload_n 3, 1) := by decide +kernel
theorem d_Lk_isCaughtBefore_38 : decode b_Lk_isCaughtBefore 38 = .ok (.invokevirtual 160, 3) := by decide +kernel
theorem d_Lk_isCaughtBefore_41 : decode b_Lk_isCaughtBefore 41 = .ok (.if_icmp .gt 51, 3) := by decide +kernel
theorem d_Lk_isCaughtBefore_44 : decode b_Lk_isCaughtBefore 44 = .ok (.aload_n 0, 1) := by decide +kernel
theorem d_Lk_isCaughtBefore_45 : decode b_Lk_isCaughtBefore 45 = .ok (.getfield 30, 3) := by decide +kernel
theorem d_Lk_isCaughtBefore_48 : decode b_Lk_isCaughtBefore 48 = .ok (.iload_n 3, 1) := by decide +kernel
theorem d_Lk_isCaughtBefore_49 : decode b_Lk_isCaughtBefore 49 = .ok (.iload 4, 2) := by decide +kernel
theorem d_Lk_isCaughtBefore_51 : decode b_Lk_isCaughtBefore 51 = .ok (.invokevirtual 98, 3) := by decide +kernel
theorem d_Lk_isCaughtBefore_54 : decode b_Lk_isCaughtBefore 54 = .ok (.iload_n 1, 1) := by decide +kernel
theorem d_Lk_isCaughtBefore_55 : decode b_Lk_isCaughtBefore 55 = .ok (.if_icmp .eq 37, 3) := by decide +kernel
theorem d_Lk_isCaughtBefore_58 : decode b_Lk_isCaughtBefore 58 = .ok (.iload_n 2, 1) := by decide +kernel
theorem d_Lk_isCaughtBefore_59 : decode b_Lk_isCaughtBefore 59 = .ok (.i2l, 1) := by decide +kernel
theorem d_Lk_isCaughtBefore_60 : decode b_Lk_isCaughtBefore 60 = .ok (.aload_n 0, 1) := by decide +kernel
theorem d_Lk_isCaughtBefore_61 : decode b_Lk_isCaughtBefore 61 = .ok (.getfield 30, 3) := by decide +kernel
theorem d_Lk_isCaughtBefore_64 : decode b_Lk_isCaughtBefore 64 = .ok (.getfield 157, 3) := by decide +kernel
theorem d_Lk_isCaughtBefore_67 : decode b_Lk_isCaughtBefore 67 = .ok (.aload_n 0, 1) := by decide +kernel
theorem d_Lk_isCaughtBefore_68 : decode b_Lk_isCaughtBefore 68 = .ok (.getfield 30, 3) := by decide +kernel
theorem d_Lk_isCaughtBefore_71 : decode b_Lk_isCaughtBefore 71 = .ok (.iload_n 3, 1) := by decide +kernel
theorem d_Lk_isCaughtBefore_72 : decode b_Lk_isCaughtBefore 72 = .ok (.iload 4, 2) := by decide +kernel
theorem d_Lk_isCaughtBefore_74 : decode b_Lk_isCaughtBefore 74 = .ok (.invokevirtual 98, 3) := by decide +kernel
theorem d_Lk_isCaughtBefore_77 : decode b_Lk_isCaughtBefore 77 = .ok (.iaload, 1) := by decide +kernel
theorem d_Lk_isCaughtBefore_78 : decode b_Lk_isCaughtBefore 78 = .ok (.invokestatic 163, 3) := by decide +kernel
theorem d_Lk_isCaughtBefore_81 : decode b_Lk_isCaughtBefore 81 = .ok (.ifCond .eq 5, 3) := by decide +kernel
theorem d_Lk_isCaughtBefore_84 : decode b_Lk_isCaughtBefore 84 = .ok (.iconst 1, 1) := by decide +kernel
theorem d_Lk_isCaughtBefore_85 : decode b_Lk_isCaughtBefore 85 = .ok (.ireturn, 1) := by decide +kernel
theorem d_Lk_isCaughtBefore_86 : decode b_Lk_isCaughtBefore 86 = .ok (.iinc 4 1, 3) := by decide +kernel
theorem d_Lk_isCaughtBefore_89 : decode b_Lk_isCaughtBefore 89 = .ok (.goto (-58), 3) := by decide +kernel
theorem d_Lk_isCaughtBefore_92 : decode b_Lk_isCaughtBefore 92 = .ok (.iconst 0, 1) := by decide +kernel
theorem d_Lk_isCaughtBefore_93 : decode b_Lk_isCaughtBefore 93 = .ok (.ireturn, 1) := by decide +kernel
theorem d_Lk_addFault_0 : decode b_Lk_addFault 0 = .ok (.aload_n 0, 1) := by decide +kernel
theorem d_Lk_addFault_1 : decode b_Lk_addFault 1 = .ok (.getfield 21, 3) := by decide +kernel
theorem d_Lk_addFault_4 : decode b_Lk_addFault 4 = .ok (.aload_n 0, 1) := by decide +kernel
theorem d_Lk_addFault_5 : decode b_Lk_addFault 5 = .ok (.getfield 63, 3) := by decide +kernel
theorem d_Lk_addFault_8 : decode b_Lk_addFault 8 = .ok (.iload_n 1, 1) := by decide +kernel
theorem d_Lk_addFault_9 : decode b_Lk_addFault 9 = .ok (.iastore, 1) := by decide +kernel
theorem d_Lk_addFault_10 : decode b_Lk_addFault 10 = .ok (.aload_n 0, 1) := by decide +kernel
theorem d_Lk_addFault_11 : decode b_Lk_addFault 11 = .ok (.getfield 24, 3) := by decide +kernel
theorem d_Lk_addFault_14 : decode b_Lk_addFault 14 = .ok (.aload_n 0, 1) := by decide +kernel
theorem d_Lk_addFault_15 : decode b_Lk_addFault 15 = .ok (.getfield 63, 3) := by decide +kernel
theorem d_Lk_addFault_18 : decode b_Lk_addFault 18 = .ok (.iload_n 2, 1) := by decide +kernel
theorem d_Lk_addFault_19 : decode b_Lk_addFault 19 = .ok (.iastore, 1) := by decide +kernel
theorem d_Lk_addFault_20 : decode b_Lk_addFault 20 = .ok (.aload_n 0, 1) := by decide +kernel
theorem d_Lk_addFault_21 : decode b_Lk_addFault 21 = .ok (.dup, 1) := by decide +kernel
theorem d_Lk_addFault_22 : decode b_Lk_addFault 22 = .ok (.getfield 63, 3) := by decide +kernel
theorem d_Lk_addFault_25 : decode b_Lk_addFault 25 = .ok (.iconst 1, 1) := by decide +kernel
theorem d_Lk_addFault_26 : decode b_Lk_addFault 26 = .ok (.iadd, 1) := by decide +kernel
theorem d_Lk_addFault_27 : decode b_Lk_addFault 27 = .ok (.putfield 63, 3) := by decide +kernel
theorem d_Lk_addFault_30 : decode b_Lk_addFault 30 = .ok (.return_, 1) := by decide +kernel
theorem d_Lk_listNotes_0 : decode b_Lk_listNotes 0 = .ok (.aload_n 0, 1) := by decide +kernel
theorem d_Lk_listNotes_1 : decode b_Lk_listNotes 1 = .ok (.iconst 0, 1) := by decide +kernel
theorem d_Lk_listNotes_2 : decode b_Lk_listNotes 2 = .ok (.putfield 66, 3) := by decide +kernel
theorem d_Lk_listNotes_5 : decode b_Lk_listNotes 5 = .ok (.iconst 1, 1) := by decide +kernel
theorem d_Lk_listNotes_6 : decode b_Lk_listNotes 6 = .ok (.istore_n 1, 1) := by decide +kernel
theorem d_Lk_listNotes_7 : decode b_Lk_listNotes 7 = .ok (.iload_n 1, 1) := by decide +kernel
theorem d_Lk_listNotes_8 : decode b_Lk_listNotes 8 = .ok (.aload_n 0, 1) := by decide +kernel
theorem d_Lk_listNotes_9 : decode b_Lk_listNotes 9 = .ok (.getfield 60, 3) := by decide +kernel
theorem d_Lk_listNotes_12 : decode b_Lk_listNotes 12 = .ok (.if_icmp .ge 77, 3) := by decide +kernel
theorem d_Lk_listNotes_15 : decode b_Lk_listNotes 15 = .ok (.aload_n 0, 1) := by decide +kernel
theorem d_Lk_listNotes_16 : decode b_Lk_listNotes 16 = .ok (.getfield 9, 3) := by decide +kernel
theorem d_Lk_listNotes_19 : decode b_Lk_listNotes 19 = .ok (.iload_n 1, 1) := by decide +kernel
theorem d_Lk_listNotes_20 : decode b_Lk_listNotes 20 = .ok (.iaload, 1) := by decide +kernel
theorem d_Lk_listNotes_21 : decode b_Lk_listNotes 21 = .ok (.istore_n 2, 1) := by decide +kernel
theorem d_Lk_listNotes_22 : decode b_Lk_listNotes 22 = .ok (.aload_n 0, 1) := by decide +kernel
theorem d_Lk_listNotes_23 : decode b_Lk_listNotes 23 = .ok (.getfield 43, 3) := by decide +kernel
theorem d_Lk_listNotes_26 : decode b_Lk_listNotes 26 = .ok (.iload_n 2, 1) := by decide +kernel
theorem d_Lk_listNotes_27 : decode b_Lk_listNotes 27 = .ok (.invokevirtual 140, 3) := by decide +kernel
theorem d_Lk_listNotes_30 : decode b_Lk_listNotes 30 = .ok (.ifCond .eq 53, 3) := by decide +kernel
theorem d_Lk_listNotes_33 : decode b_Lk_listNotes 33 = .ok (.aload_n 0, 1) := by decide +kernel
theorem d_Lk_listNotes_34 : decode b_Lk_listNotes 34 = .ok (.getfield 50, 3) := by decide +kernel
theorem d_Lk_listNotes_37 : decode b_Lk_listNotes 37 = .ok (.iload_n 2, 1) := by decide +kernel
theorem d_Lk_listNotes_38 : decode b_Lk_listNotes 38 = .ok (.invokevirtual 140, 3) := by decide +kernel
theorem d_Lk_listNotes_41 : decode b_Lk_listNotes 41 = .ok (.ifCond .ne 42, 3) := by decide +kernel
theorem d_Lk_listNotes_44 : decode b_Lk_listNotes 44 = .ok (.aload_n 0, 1) := by decide +kernel
theorem d_Lk_listNotes_45 : decode b_Lk_listNotes 45 = .ok (.getfield 50, 3) := by decide +kernel
theorem d_Lk_listNotes_48 : decode b_Lk_listNotes 48 = .ok (.aload_n 0, 1) := by decide +kernel
theorem d_Lk_listNotes_49 : decode b_Lk_listNotes 49 = .ok (.getfield 30, 3) := by decide +kernel
theorem d_Lk_listNotes_52 : decode b_Lk_listNotes 52 = .ok (.getfield 122, 3) := by decide +kernel
theorem d_Lk_listNotes_55 : decode b_Lk_listNotes 55 = .ok (.iload_n 2, 1) := by decide +kernel
theorem d_Lk_listNotes_56 : decode b_Lk_listNotes 56 = .ok (.iaload, 1) := by decide +kernel
theorem d_Lk_listNotes_57 : decode b_Lk_listNotes 57 = .ok (.invokevirtual 140, 3) := by decide +kernel
theorem d_Lk_listNotes_60 : decode b_Lk_listNotes 60 = .ok (.ifCond .eq 23, 3) := by decide +kernel
theorem d_Lk_listNotes_63 : decode b_Lk_listNotes 63 = .ok (.aload_n 0, 1) := by decide +kernel
theorem d_Lk_listNotes_64 : decode b_Lk_listNotes 64 = .ok (.getfield 27, 3) := by decide +kernel
theorem d_Lk_listNotes_67 : decode b_Lk_listNotes 67 = .ok (.aload_n 0, 1) := by decide +kernel
theorem d_Lk_listNotes_68 : decode b_Lk_listNotes 68 = .ok (.getfield 66, 3) := by decide +kernel
theorem d_Lk_listNotes_71 : decode b_Lk_listNotes 71 = .ok (.iload_n 2, 1) := by decide +kernel
theorem d_Lk_listNotes_72 : decode b_Lk_listNotes 72 = .ok (.iastore, 1) := by decide +kernel
theorem d_Lk_listNotes_73 : decode b_Lk_listNotes 73 = .ok (.aload_n 0, 1) := by decide +kernel
theorem d_Lk_listNotes_74 : decode b_Lk_listNotes 74 = .ok (.dup, 1) := by decide +kernel
theorem d_Lk_listNotes_75 : decode b_Lk_listNotes 75 = .ok (.getfield 66, 3) := by decide +kernel
theorem d_Lk_listNotes_78 : decode b_Lk_listNotes 78 = .ok (.iconst 1, 1) := by decide +kernel
theorem d_Lk_listNotes_79 : decode b_Lk_listNotes 79 = .ok (.iadd, 1) := by decide +kernel
theorem d_Lk_listNotes_80 : decode b_Lk_listNotes 80 = .ok (.putfield 66, 3) := by decide +kernel
theorem d_Lk_listNotes_83 : decode b_Lk_listNotes 83 = .ok (.iinc 1 1, 3) := by decide +kernel
theorem d_Lk_listNotes_86 : decode b_Lk_listNotes 86 = .ok (.goto (-79), 3) := by decide +kernel
theorem d_Lk_listNotes_89 : decode b_Lk_listNotes 89 = .ok (.return_, 1) := by decide +kernel
theorem d_Lk_hasReturn_0 : decode b_Lk_hasReturn 0 = .ok (.iconst 0, 1) := by decide +kernel
theorem d_Lk_hasReturn_1 : decode b_Lk_hasReturn 1 = .ok (.istore_n 2, 1) := by decide +kernel
theorem d_Lk_hasReturn_2 : decode b_Lk_hasReturn 2 = .ok (.iload_n 2, 1) := by decide +kernel
theorem d_Lk_hasReturn_3 : decode b_Lk_hasReturn 3 = .ok (.aload_n 0, 1) := by decide +kernel
theorem d_Lk_hasReturn_4 : decode b_Lk_hasReturn 4 = .ok (.getfield 60, 3) := by decide +kernel
theorem d_Lk_hasReturn_7 : decode b_Lk_hasReturn 7 = .ok (.if_icmp .ge 47, 3) := by decide +kernel
theorem d_Lk_hasReturn_10 : decode b_Lk_hasReturn 10 = .ok (.aload_n 0, 1) := by decide +kernel
theorem d_Lk_hasReturn_11 : decode b_Lk_hasReturn 11 = .ok (.getfield 30, 3) := by decide +kernel
theorem d_Lk_hasReturn_14 : decode b_Lk_hasReturn 14 = .ok (.getfield 110, 3) := by decide +kernel
theorem d_Lk_hasReturn_17 : decode b_Lk_hasReturn 17 = .ok (.aload_n 0, 1) := by decide +kernel
theorem d_Lk_hasReturn_18 : decode b_Lk_hasReturn 18 = .ok (.getfield 9, 3) := by decide +kernel
theorem d_Lk_hasReturn_21 : decode b_Lk_hasReturn 21 = .ok (.iload_n 2, 1) := by decide +kernel
theorem d_Lk_hasReturn_22 : decode b_Lk_hasReturn 22 = .ok (.iaload, 1) := by decide +kernel
theorem d_Lk_hasReturn_23 : decode b_Lk_hasReturn 23 = .ok (.iaload, 1) := by decide +kernel
theorem d_Lk_hasReturn_24 : decode b_Lk_hasReturn 24 = .ok (.iconst 3, 1) := by decide +kernel
theorem d_Lk_hasReturn_25 : decode b_Lk_hasReturn 25 = .ok (.if_icmp .ne 23, 3) := by decide +kernel
theorem d_Lk_hasReturn_28 : decode b_Lk_hasReturn 28 = .ok (.aload_n 0, 1) := by decide +kernel
theorem d_Lk_hasReturn_29 : decode b_Lk_hasReturn 29 = .ok (.getfield 30, 3) := by decide +kernel
theorem d_Lk_hasReturn_32 : decode b_Lk_hasReturn 32 = .ok (.getfield 113, 3) := by decide +kernel
theorem d_Lk_hasReturn_35 : decode b_Lk_hasReturn 35 = .ok (.aload_n 0, 1) := by decide +kernel
theorem d_Lk_hasReturn_36 : decode b_Lk_hasReturn 36 = .ok (.getfield 9, 3) := by decide +kernel
theorem d_Lk_hasReturn_39 : decode b_Lk_hasReturn 39 = .ok (.iload_n 2, 1) := by decide +kernel
theorem d_Lk_hasReturn_40 : decode b_Lk_hasReturn 40 = .ok (.iaload, 1) := by decide +kernel
theorem d_Lk_hasReturn_41 : decode b_Lk_hasReturn 41 = .ok (.iaload, 1) := by decide +kernel
theorem d_Lk_hasReturn_42 : decode b_Lk_hasReturn 42 = .ok (.iload_n 1, 1) := by decide +kernel
theorem d_Lk_hasReturn_43 : decode b_Lk_hasReturn 43 = .ok (.if_icmp .ne 5, 3) := by decide +kernel
theorem d_Lk_hasReturn_46 : decode b_Lk_hasReturn 46 = .ok (.iconst 1, 1) := by decide +kernel
theorem d_Lk_hasReturn_47 : decode b_Lk_hasReturn 47 = .ok (.ireturn, 1) := by decide +kernel
theorem d_Lk_hasReturn_48 : decode b_Lk_hasReturn 48 = .ok (.iinc 2 1, 3) := by decide +kernel
theorem d_Lk_hasReturn_51 : decode b_Lk_hasReturn 51 = .ok (.goto (-49), 3) := by decide +kernel
theorem d_Lk_hasReturn_54 : decode b_Lk_hasReturn 54 = .ok (.iconst 0, 1) := by decide +kernel
theorem d_Lk_hasReturn_55 : decode b_Lk_hasReturn 55 = .ok (.ireturn, 1) := by decide +kernel
theorem d_Rf_init_0 : decode b_Rf_init 0 = .ok (.aload_n 0, 1) := by decide +kernel
theorem d_Rf_init_1 : decode b_Rf_init 1 = .ok (.invokespecial 3, 3) := by decide +kernel
theorem d_Rf_init_4 : decode b_Rf_init 4 = .ok (.new 9, 3) := by decide +kernel
theorem d_Rf_init_7 : decode b_Rf_init 7 = .ok (.dup, 1) := by decide +kernel
theorem d_Rf_init_8 : decode b_Rf_init 8 = .ok (.invokespecial 11, 3) := by decide +kernel
theorem d_Rf_init_11 : decode b_Rf_init 11 = .ok (.astore_n 1, 1) := by decide +kernel
theorem d_Rf_init_12 : decode b_Rf_init 12 = .ok (.new 12, 3) := by decide +kernel
theorem d_Rf_init_15 : decode b_Rf_init 15 = .ok (.dup, 1) := by decide +kernel
theorem d_Rf_init_16 : decode b_Rf_init 16 = .ok (.invokespecial 14, 3) := by decide +kernel
theorem d_Rf_init_19 : decode b_Rf_init 19 = .ok (.astore_n 2, 1) := by decide +kernel
theorem d_Rf_init_20 : decode b_Rf_init 20 = .ok (.aload_n 0, 1) := by decide +kernel
theorem d_Rf_init_21 : decode b_Rf_init 21 = .ok (.aload_n 1, 1) := by decide +kernel
theorem d_Rf_init_22 : decode b_Rf_init 22 = .ok (.putfield 15, 3) := by decide +kernel
theorem d_Rf_init_25 : decode b_Rf_init 25 = .ok (.aload_n 0, 1) := by decide +kernel
theorem d_Rf_init_26 : decode b_Rf_init 26 = .ok (.aload_n 2, 1) := by decide +kernel
theorem d_Rf_init_27 : decode b_Rf_init 27 = .ok (.putfield 19, 3) := by decide +kernel
theorem d_Rf_init_30 : decode b_Rf_init 30 = .ok (.aload_n 0, 1) := by decide +kernel
theorem d_Rf_init_31 : decode b_Rf_init 31 = .ok (.new 23, 3) := by decide +kernel
theorem d_Rf_init_34 : decode b_Rf_init 34 = .ok (.dup, 1) := by decide +kernel
theorem d_Rf_init_35 : decode b_Rf_init 35 = .ok (.invokespecial 25, 3) := by decide +kernel
theorem d_Rf_init_38 : decode b_Rf_init 38 = .ok (.putfield 26, 3) := by decide +kernel
theorem d_Rf_init_41 : decode b_Rf_init 41 = .ok (.aload_n 0, 1) := by decide +kernel
theorem d_Rf_init_42 : decode b_Rf_init 42 = .ok (.new 30, 3) := by decide +kernel
theorem d_Rf_init_45 : decode b_Rf_init 45 = .ok (.dup, 1) := by decide +kernel
theorem d_Rf_init_46 : decode b_Rf_init 46 = .ok (.aload_n 2, 1) := by decide +kernel
theorem d_Rf_init_47 : decode b_Rf_init 47 = .ok (.aload_n 1, 1) := by decide +kernel
theorem d_Rf_init_48 : decode b_Rf_init 48 = .ok (.invokespecial 32, 3) := by decide +kernel
theorem d_Rf_init_51 : decode b_Rf_init 51 = .ok (.putfield 35, 3) := by decide +kernel
theorem d_Rf_init_54 : decode b_Rf_init 54 = .ok (.return_, 1) := by decide +kernel
theorem d_Rf_clear_0 : decode b_Rf_clear 0 = .ok (.aload_n 0, 1) := by decide +kernel
theorem d_Rf_clear_1 : decode b_Rf_clear 1 = .ok (.getfield 19, 3) := by decide +kernel
theorem d_Rf_clear_4 : decode b_Rf_clear 4 = .ok (.getfield 39, 3) := by decide +kernel
theorem d_Rf_clear_7 : decode b_Rf_clear 7 = .ok (.istore_n 1, 1) := by decide +kernel
theorem d_Rf_clear_8 : decode b_Rf_clear 8 = .ok (.aload_n 0, 1) := by decide +kernel
