theorem d_Md_init_0 : decode b_Md_init 0 = .ok (.aload_n 0, 1) := by decide +kernel
theorem d_Md_init_1 : decode b_Md_init 1 = .ok (.invokespecial 1, 3) := by decide +kernel
theorem d_Md_init_4 : decode b_Md_init 4 = .ok (.aload_n 0, 1) := by decide +kernel
theorem d_Md_init_5 : decode b_Md_init 5 = .ok (.bipush 12, 2) := by decide +kernel
theorem d_Md_init_7 : decode b_Md_init 7 = .ok (.newarray .int, 2) := by decide +kernel
theorem d_Md_init_9 : decode b_Md_init 9 = .ok (.putfield 7, 3) := by decide +kernel
theorem d_Md_init_12 : decode b_Md_init 12 = .ok (.aload_n 0, 1) := by decide +kernel
theorem d_Md_init_13 : decode b_Md_init 13 = .ok (.bipush 60, 2) := by decide +kernel
theorem d_Md_init_15 : decode b_Md_init 15 = .ok (.newarray .int, 2) := by decide +kernel
theorem d_Md_init_17 : decode b_Md_init 17 = .ok (.putfield 13, 3) := by decide +kernel
theorem d_Md_init_20 : decode b_Md_init 20 = .ok (.aload_n 0, 1) := by decide +kernel
theorem d_Md_init_21 : decode b_Md_init 21 = .ok (.bipush 60, 2) := by decide +kernel
theorem d_Md_init_23 : decode b_Md_init 23 = .ok (.newarray .int, 2) := by decide +kernel
theorem d_Md_init_25 : decode b_Md_init 25 = .ok (.putfield 16, 3) := by decide +kernel
theorem d_Md_init_28 : decode b_Md_init 28 = .ok (.aload_n 0, 1) := by decide +kernel
theorem d_Md_init_29 : decode b_Md_init 29 = .ok (.bipush 60, 2) := by decide +kernel
theorem d_Md_init_31 : decode b_Md_init 31 = .ok (.newarray .int, 2) := by decide +kernel
theorem d_Md_init_33 : decode b_Md_init 33 = .ok (.putfield 19, 3) := by decide +kernel
theorem d_Md_init_36 : decode b_Md_init 36 = .ok (.aload_n 0, 1) := by decide +kernel
theorem d_Md_init_37 : decode b_Md_init 37 = .ok (.bipush 60, 2) := by decide +kernel
theorem d_Md_init_39 : decode b_Md_init 39 = .ok (.newarray .int, 2) := by decide +kernel
theorem d_Md_init_41 : decode b_Md_init 41 = .ok (.putfield 22, 3) := by decide +kernel
theorem d_Md_init_44 : decode b_Md_init 44 = .ok (.aload_n 0, 1) := by decide +kernel
theorem d_Md_init_45 : decode b_Md_init 45 = .ok (.bipush 60, 2) := by decide +kernel
theorem d_Md_init_47 : decode b_Md_init 47 = .ok (.newarray .int, 2) := by decide +kernel
theorem d_Md_init_49 : decode b_Md_init 49 = .ok (.putfield 25, 3) := by decide +kernel
theorem d_Md_init_52 : decode b_Md_init 52 = .ok (.aload_n 0, 1) := by decide +kernel
theorem d_Md_init_53 : decode b_Md_init 53 = .ok (.bipush 60, 2) := by decide +kernel
theorem d_Md_init_55 : decode b_Md_init 55 = .ok (.newarray .int, 2) := by decide +kernel
theorem d_Md_init_57 : decode b_Md_init 57 = .ok (.putfield 28, 3) := by decide +kernel
theorem d_Md_init_60 : decode b_Md_init 60 = .ok (.aload_n 0, 1) := by decide +kernel
theorem d_Md_init_61 : decode b_Md_init 61 = .ok (.bipush 60, 2) := by decide +kernel
theorem d_Md_init_63 : decode b_Md_init 63 = .ok (.newarray .int, 2) := by decide +kernel
theorem d_Md_init_65 : decode b_Md_init 65 = .ok (.putfield 31, 3) := by decide +kernel
theorem d_Md_init_68 : decode b_Md_init 68 = .ok (.aload_n 0, 1) := by decide +kernel
theorem d_Md_init_69 : decode b_Md_init 69 = .ok (.bipush 60, 2) := by decide +kernel
theorem d_Md_init_71 : decode b_Md_init 71 = .ok (.newarray .int, 2) := by decide +kernel
theorem d_Md_init_73 : decode b_Md_init 73 = .ok (.putfield 34, 3) := by decide +kernel
theorem d_Md_init_76 : decode b_Md_init 76 = .ok (.aload_n 0, 1) := by decide +kernel
theorem d_Md_init_77 : decode b_Md_init 77 = .ok (.bipush 60, 2) := by decide +kernel
theorem d_Md_init_79 : decode b_Md_init 79 = .ok (.newarray .boolean, 2) := by decide +kernel
theorem d_Md_init_81 : decode b_Md_init 81 = .ok (.putfield 37, 3) := by decide +kernel
theorem d_Md_init_84 : decode b_Md_init 84 = .ok (.aload_n 0, 1) := by decide +kernel
theorem d_Md_init_85 : decode b_Md_init 85 = .ok (.bipush 60, 2) := by decide +kernel
theorem d_Md_init_87 : decode b_Md_init 87 = .ok (.newarray .int, 2) := by decide +kernel
theorem d_Md_init_89 : decode b_Md_init 89 = .ok (.putfield 41, 3) := by decide +kernel
theorem d_Md_init_92 : decode b_Md_init 92 = .ok (.aload_n 0, 1) := by decide +kernel
theorem d_Md_init_93 : decode b_Md_init 93 = .ok (.bipush 60, 2) := by decide +kernel
theorem d_Md_init_95 : decode b_Md_init 95 = .ok (.newarray .boolean, 2) := by decide +kernel
theorem d_Md_init_97 : decode b_Md_init 97 = .ok (.putfield 44, 3) := by decide +kernel
theorem d_Md_init_100 : decode b_Md_init 100 = .ok (.aload_n 0, 1) := by decide +kernel
theorem d_Md_init_101 : decode b_Md_init 101 = .ok (.bipush 60, 2) := by decide +kernel
theorem d_Md_init_103 : decode b_Md_init 103 = .ok (.newarray .int, 2) := by decide +kernel
theorem d_Md_init_105 : decode b_Md_init 105 = .ok (.putfield 47, 3) := by decide +kernel
theorem d_Md_init_108 : decode b_Md_init 108 = .ok (.aload_n 0, 1) := by decide +kernel
theorem d_Md_init_109 : decode b_Md_init 109 = .ok (.bipush 60, 2) := by decide +kernel
theorem d_Md_init_111 : decode b_Md_init 111 = .ok (.newarray .boolean, 2) := by decide +kernel
theorem d_Md_init_113 : decode b_Md_init 113 = .ok (.putfield 50, 3) := by decide +kernel
theorem d_Md_init_116 : decode b_Md_init 116 = .ok (.aload_n 0, 1) := by decide +kernel
theorem d_Md_init_117 : decode b_Md_init 117 = .ok (.bipush 60, 2) := by decide +kernel
theorem d_Md_init_119 : decode b_Md_init 119 = .ok (.newarray .int, 2) := by decide +kernel
theorem d_Md_init_121 : decode b_Md_init 121 = .ok (.putfield 53, 3) := by decide +kernel
theorem d_Md_init_124 : decode b_Md_init 124 = .ok (.aload_n 0, 1) := by decide +kernel
theorem d_Md_init_125 : decode b_Md_init 125 = .ok (.bipush 60, 2) := by decide +kernel
theorem d_Md_init_127 : decode b_Md_init 127 = .ok (.newarray .boolean, 2) := by decide +kernel
theorem d_Md_init_129 : decode b_Md_init 129 = .ok (.putfield 56, 3) := by decide +kernel
theorem d_Md_init_132 : decode b_Md_init 132 = .ok (.aload_n 0, 1) := by decide +kernel
theorem d_Md_init_133 : decode b_Md_init 133 = .ok (.bipush 60, 2) := by decide +kernel
theorem d_Md_init_135 : decode b_Md_init 135 = .ok (.newarray .boolean, 2) := by decide +kernel
theorem d_Md_init_137 : decode b_Md_init 137 = .ok (.putfield 59, 3) := by decide +kernel
theorem d_Md_init_140 : decode b_Md_init 140 = .ok (.aload_n 0, 1) := by decide +kernel
theorem d_Md_init_141 : decode b_Md_init 141 = .ok (.sipush 720, 3) := by decide +kernel
theorem d_Md_init_144 : decode b_Md_init 144 = .ok (.newarray .boolean, 2) := by decide +kernel
theorem d_Md_init_146 : decode b_Md_init 146 = .ok (.putfield 62, 3) := by decide +kernel
theorem d_Md_init_149 : decode b_Md_init 149 = .ok (.aload_n 0, 1) := by decide +kernel
theorem d_Md_init_150 : decode b_Md_init 150 = .ok (.bipush 60, 2) := by decide +kernel
theorem d_Md_init_152 : decode b_Md_init 152 = .ok (.newarray .boolean, 2) := by decide +kernel
theorem d_Md_init_154 : decode b_Md_init 154 = .ok (.putfield 65, 3) := by decide +kernel
theorem d_Md_init_157 : decode b_Md_init 157 = .ok (.aload_n 0, 1) := by decide +kernel
theorem d_Md_init_158 : decode b_Md_init 158 = .ok (.sipush 8040, 3) := by decide +kernel
theorem d_Md_init_161 : decode b_Md_init 161 = .ok (.newarray .boolean, 2) := by decide +kernel
theorem d_Md_init_163 : decode b_Md_init 163 = .ok (.putfield 68, 3) := by decide +kernel
theorem d_Md_init_166 : decode b_Md_init 166 = .ok (.aload_n 0, 1) := by decide +kernel
theorem d_Md_init_167 : decode b_Md_init 167 = .ok (.sipush 180, 3) := by decide +kernel
theorem d_Md_init_170 : decode b_Md_init 170 = .ok (.newarray .int, 2) := by decide +kernel
theorem d_Md_init_172 : decode b_Md_init 172 = .ok (.putfield 71, 3) := by decide +kernel
theorem d_Md_init_175 : decode b_Md_init 175 = .ok (.aload_n 0, 1) := by decide +kernel
theorem d_Md_init_176 : decode b_Md_init 176 = .ok (.sipush 180, 3) := by decide +kernel
theorem d_Md_init_179 : decode b_Md_init 179 = .ok (.newarray .int, 2) := by decide +kernel
theorem d_Md_init_181 : decode b_Md_init 181 = .ok (.putfield 74, 3) := by decide +kernel
theorem d_Md_init_184 : decode b_Md_init 184 = .ok (.aload_n 0, 1) := by decide +kernel
theorem d_Md_init_185 : decode b_Md_init 185 = .ok (.bipush 60, 2) := by decide +kernel
theorem d_Md_init_187 : decode b_Md_init 187 = .ok (.newarray .int, 2) := by decide +kernel
theorem d_Md_init_189 : decode b_Md_init 189 = .ok (.putfield 77, 3) := by decide +kernel
theorem d_Md_init_192 : decode b_Md_init 192 = .ok (.aload_n 0, 1) := by decide +kernel
theorem d_Md_init_193 : decode b_Md_init 193 = .ok (.invokevirtual 80, 3) := by decide +kernel
theorem d_Md_init_196 : decode b_Md_init 196 = .ok (.return_, 1) := by decide +kernel
theorem d_Md_begin_0 : decode b_Md_begin 0 = .ok (.aload_n 0, 1) := by decide +kernel
theorem d_Md_begin_1 : decode b_Md_begin 1 = .ok (.iconst 4, 1) := by decide +kernel
theorem d_Md_begin_2 : decode b_Md_begin 2 = .ok (.putfield 83, 3) := by decide +kernel
theorem d_Md_begin_5 : decode b_Md_begin 5 = .ok (.aload_n 0, 1) := by decide +kernel
theorem d_Md_begin_6 : decode b_Md_begin 6 = .ok (.getfield 7, 3) := by decide +kernel
theorem d_Md_begin_9 : decode b_Md_begin 9 = .ok (.iconst 0, 1) := by decide +kernel
theorem d_Md_begin_10 : decode b_Md_begin 10 = .ok (.iconst (-1), 1) := by decide +kernel
theorem d_Md_begin_11 : decode b_Md_begin 11 = .ok (.iastore, 1) := by decide +kernel
theorem d_Md_begin_12 : decode b_Md_begin 12 = .ok (.aload_n 0, 1) := by decide +kernel
theorem d_Md_begin_13 : decode b_Md_begin 13 = .ok (.getfield 7, 3) := by decide +kernel
theorem d_Md_begin_16 : decode b_Md_begin 16 = .ok (.iconst 1, 1) := by decide +kernel
theorem d_Md_begin_17 : decode b_Md_begin 17 = .ok (.iconst 0, 1) := by decide +kernel
theorem d_Md_begin_18 : decode b_Md_begin 18 = .ok (.iastore, 1) := by decide +kernel
theorem d_Md_begin_19 : decode b_Md_begin 19 = .ok (.aload_n 0, 1) := by decide +kernel
theorem d_Md_begin_20 : decode b_Md_begin 20 = .ok (.getfield 7, 3) := by decide +kernel
theorem d_Md_begin_23 : decode b_Md_begin 23 = .ok (.iconst 2, 1) := by decide +kernel
theorem d_Md_begin_24 : decode b_Md_begin 24 = .ok (.iconst 1, 1) := by decide +kernel
theorem d_Md_begin_25 : decode b_Md_begin 25 = .ok (.iastore, 1) := by decide +kernel
theorem d_Md_begin_26 : decode b_Md_begin 26 = .ok (.aload_n 0, 1) := by decide +kernel
theorem d_Md_begin_27 : decode b_Md_begin 27 = .ok (.getfield 7, 3) := by decide +kernel
theorem d_Md_begin_30 : decode b_Md_begin 30 = .ok (.iconst 3, 1) := by decide +kernel
theorem d_Md_begin_31 : decode b_Md_begin 31 = .ok (.iconst 0, 1) := by decide +kernel
theorem d_Md_begin_32 : decode b_Md_begin 32 = .ok (.iastore, 1) := by decide +kernel
theorem d_Md_begin_33 : decode b_Md_begin 33 = .ok (.aload_n 0, 1) := by decide +kernel
theorem d_Md_begin_34 : decode b_Md_begin 34 = .ok (.iconst 0, 1) := by decide +kernel
theorem d_Md_begin_35 : decode b_Md_begin 35 = .ok (.putfield 87, 3) := by decide +kernel
theorem d_Md_begin_38 : decode b_Md_begin 38 = .ok (.aload_n 0, 1) := by decide +kernel
theorem d_Md_begin_39 : decode b_Md_begin 39 = .ok (.iconst (-1), 1) := by decide +kernel
theorem d_Md_begin_40 : decode b_Md_begin 40 = .ok (.putfield 90, 3) := by decide +kernel
theorem d_Md_begin_43 : decode b_Md_begin 43 = .ok (.aload_n 0, 1) := by decide +kernel
theorem d_Md_begin_44 : decode b_Md_begin 44 = .ok (.iconst (-1), 1) := by decide +kernel
theorem d_Md_begin_45 : decode b_Md_begin 45 = .ok (.putfield 93, 3) := by decide +kernel
theorem d_Md_begin_48 : decode b_Md_begin 48 = .ok (.return_, 1) := by decide +kernel
theorem d_Md_clear_0 : decode b_Md_clear 0 = .ok (.aload_n 0, 1) := by decide +kernel
theorem d_Md_clear_1 : decode b_Md_clear 1 = .ok (.getfield 87, 3) := by decide +kernel
theorem d_Md_clear_4 : decode b_Md_clear 4 = .ok (.istore_n 1, 1) := by decide +kernel
theorem d_Md_clear_5 : decode b_Md_clear 5 = .ok (.aload_n 0, 1) := by decide +kernel
theorem d_Md_clear_6 : decode b_Md_clear 6 = .ok (.invokevirtual 80, 3) := by decide +kernel
theorem d_Md_clear_9 : decode b_Md_clear 9 = .ok (.iload_n 1, 1) := by decide +kernel
theorem d_Md_clear_10 : decode b_Md_clear 10 = .ok (.ireturn, 1) := by decide +kernel
theorem d_Md_isIn_0 : decode b_Md_isIn 0 = .ok (.iload_n 0, 1) := by decide +kernel
theorem d_Md_isIn_1 : decode b_Md_isIn 1 = .ok (.iload_n 1, 1) := by decide +kernel
theorem d_Md_isIn_2 : decode b_Md_isIn 2 = .ok (.if_icmp .lt 12, 3) := by decide +kernel
theorem d_Md_isIn_5 : decode b_Md_isIn 5 = .ok (.iload_n 0, 1) := by decide +kernel
theorem d_Md_isIn_6 : decode b_Md_isIn 6 = .ok (.iload_n 2, 1) := by decide +kernel
theorem d_Md_isIn_7 : decode b_Md_isIn 7 = .ok (.if_icmp .gt 7, 3) := by decide +kernel
theorem d_Md_isIn_10 : decode b_Md_isIn 10 = .ok (.iconst 1, 1) := by decide +kernel
theorem d_Md_isIn_11 : decode b_Md_isIn 11 = .ok (.goto 4, 3) := by decide +kernel
theorem d_Md_isIn_14 : decode b_Md_isIn 14 = .ok (.iconst 0, 1) := by decide +kernel
theorem d_Md_isIn_15 : decode b_Md_isIn 15 = .ok (.ireturn, 1) := by decide +kernel
theorem d_Md_isKind_0 : decode b_Md_isKind 0 = .ok (.iload_n 1, 1) := by decide +kernel
theorem d_Md_isKind_1 : decode b_Md_isKind 1 = .ok (.iconst 0, 1) := by decide +kernel
theorem d_Md_isKind_2 : decode b_Md_isKind 2 = .ok (.aload_n 0, 1) := by decide +kernel
theorem d_Md_isKind_3 : decode b_Md_isKind 3 = .ok (.getfield 83, 3) := by decide +kernel
theorem d_Md_isKind_6 : decode b_Md_isKind 6 = .ok (.iconst 1, 1) := by decide +kernel
theorem d_Md_isKind_7 : decode b_Md_isKind 7 = .ok (.isub, 1) := by decide +kernel
theorem d_Md_isKind_8 : decode b_Md_isKind 8 = .ok (.invokestatic 96, 3) := by decide +kernel
theorem d_Md_isKind_11 : decode b_Md_isKind 11 = .ok (.ireturn, 1) := by decide +kernel
theorem d_Md_isNode_0 : decode b_Md_isNode 0 = .ok (.iload_n 1, 1) := by decide +kernel
theorem d_Md_isNode_1 : decode b_Md_isNode 1 = .ok (.iconst 0, 1) := by decide +kernel
theorem d_Md_isNode_2 : decode b_Md_isNode 2 = .ok (.aload_n 0, 1) := by decide +kernel
theorem d_Md_isNode_3 : decode b_Md_isNode 3 = .ok (.getfield 87, 3) := by decide +kernel
theorem d_Md_isNode_6 : decode b_Md_isNode 6 = .ok (.iconst 1, 1) := by decide +kernel
theorem d_Md_isNode_7 : decode b_Md_isNode 7 = .ok (.isub, 1) := by decide +kernel
theorem d_Md_isNode_8 : decode b_Md_isNode 8 = .ok (.invokestatic 96, 3) := by decide +kernel
theorem d_Md_isNode_11 : decode b_Md_isNode 11 = .ok (.ireturn, 1) := by decide +kernel
theorem d_Md_isFree_0 : decode b_Md_isFree 0 = .ok (.aload_n 0, 1) := by decide +kernel
theorem d_Md_isFree_1 : decode b_Md_isFree 1 = .ok (.iload_n 1, 1) := by decide +kernel
theorem d_Md_isFree_2 : decode b_Md_isFree 2 = .ok (.invokevirtual 100, 3) := by decide +kernel
theorem d_Md_isFree_5 : decode b_Md_isFree 5 = .ok (.ifCond .eq 26, 3) := by decide +kernel
theorem d_Md_isFree_8 : decode b_Md_isFree 8 = .ok (.aload_n 0, 1) := by decide +kernel
theorem d_Md_isFree_9 : decode b_Md_isFree 9 = .ok (.getfield 19, 3) := by decide +kernel
theorem d_Md_isFree_12 : decode b_Md_isFree 12 = .ok (.iload_n 1, 1) := by decide +kernel
theorem d_Md_isFree_13 : decode b_Md_isFree 13 = .ok (.iaload, 1) := by decide +kernel
theorem d_Md_isFree_14 : decode b_Md_isFree 14 = .ok (.iconst (-1), 1) := by decide +kernel
theorem d_Md_isFree_15 : decode b_Md_isFree 15 = .ok (.if_icmp .ne 16, 3) := by decide +kernel
theorem d_Md_isFree_18 : decode b_Md_isFree 18 = .ok (.aload_n 0, 1) := by decide +kernel
theorem d_Md_isFree_19 : decode b_Md_isFree 19 = .ok (.getfield 44, 3) := by decide +kernel
theorem d_Md_isFree_22 : decode b_Md_isFree 22 = .ok (.iload_n 1, 1) := by decide +kernel
theorem d_Md_isFree_23 : decode b_Md_isFree 23 = .ok (.baload, 1) := by decide +kernel
theorem d_Md_isFree_24 : decode b_Md_isFree 24 = .ok (.ifCond .ne 7, 3) := by decide +kernel
theorem d_Md_isFree_27 : decode b_Md_isFree 27 = .ok (.iconst 1, 1) := by decide +kernel
theorem d_Md_isFree_28 : decode b_Md_isFree 28 = .ok (.goto 4, 3) := by decide +kernel
theorem d_Md_isFree_31 : decode b_Md_isFree 31 = .ok (.iconst 0, 1) := by decide +kernel
theorem d_Md_isFree_32 : decode b_Md_isFree 32 = .ok (.ireturn, 1) := by decide +kernel
theorem d_Md_isBelow_0 : decode b_Md_isBelow 0 = .ok (.iload_n 1, 1) := by decide +kernel
theorem d_Md_isBelow_1 : decode b_Md_isBelow 1 = .ok (.istore_n 3, 1) := by decide +kernel
theorem d_Md_isBelow_2 : decode b_Md_isBelow 2 = .ok (.iload_n 3, 1) := by decide +kernel
theorem d_Md_isBelow_3 : decode b_Md_isBelow 3 = .ok (.iconst (-1), 1) := by decide +kernel
theorem d_Md_isBelow_4 : decode b_Md_isBelow 4 = .ok (.if_icmp .eq 18, 3) := by decide +kernel
theorem d_Md_isBelow_7 : decode b_Md_isBelow 7 = .ok (.iload_n 3, 1) := by decide +kernel
theorem d_Md_isBelow_8 : decode b_Md_isBelow 8 = .ok (.iload_n 2, 1) := by decide +kernel
theorem d_Md_isBelow_9 : decode b_Md_isBelow 9 = .ok (.if_icmp .eq 13, 3) := by decide +kernel
theorem d_Md_isBelow_12 : decode b_Md_isBelow 12 = .ok (.aload_n 0, 1) := by decide +kernel
theorem d_Md_isBelow_13 : decode b_Md_isBelow 13 = .ok (.getfield 7, 3) := by decide +kernel
theorem d_Md_isBelow_16 : decode b_Md_isBelow 16 = .ok (.iload_n 3, 1) := by decide +kernel
theorem d_Md_isBelow_17 : decode b_Md_isBelow 17 = .ok (.iaload, 1) := by decide +kernel
theorem d_Md_isBelow_18 : decode b_Md_isBelow 18 = .ok (.istore_n 3, 1) := by decide +kernel
theorem d_Md_isBelow_19 : decode b_Md_isBelow 19 = .ok (.goto (-17), 3) := by decide +kernel
theorem d_Md_isBelow_22 : decode b_Md_isBelow 22 = .ok (.iload_n 3, 1) := by decide +kernel
theorem d_Md_isBelow_23 : decode b_Md_isBelow 23 = .ok (.iload_n 2, 1) := by decide +kernel
theorem d_Md_isBelow_24 : decode b_Md_isBelow 24 = .ok (.if_icmp .ne 7, 3) := by decide +kernel
theorem d_Md_isBelow_27 : decode b_Md_isBelow 27 = .ok (.iconst 1, 1) := by decide +kernel
theorem d_Md_isBelow_28 : decode b_Md_isBelow 28 = .ok (.goto 4, 3) := by decide +kernel
theorem d_Md_isBelow_31 : decode b_Md_isBelow 31 = .ok (.iconst 0, 1) := by decide +kernel
theorem d_Md_isBelow_32 : decode b_Md_isBelow 32 = .ok (.ireturn, 1) := by decide +kernel
theorem d_Md_exception_0 : decode b_Md_exception 0 = .ok (.aload_n 0, 1) := by decide +kernel
theorem d_Md_exception_1 : decode b_Md_exception 1 = .ok (.iload_n 1, 1) := by decide +kernel
theorem d_Md_exception_2 : decode b_Md_exception 2 = .ok (.invokevirtual 104, 3) := by decide +kernel
theorem d_Md_exception_5 : decode b_Md_exception 5 = .ok (.ifCond .ne 6, 3) := by decide +kernel
theorem d_Md_exception_8 : decode b_Md_exception 8 = .ok (.bipush (-2), 2) := by decide +kernel
theorem d_Md_exception_10 : decode b_Md_exception 10 = .ok (.ireturn, 1) := by decide +kernel
theorem d_Md_exception_11 : decode b_Md_exception 11 = .ok (.aload_n 0, 1) := by decide +kernel
theorem d_Md_exception_12 : decode b_Md_exception 12 = .ok (.getfield 83, 3) := by decide +kernel
theorem d_Md_exception_15 : decode b_Md_exception 15 = .ok (.bipush 12, 2) := by decide +kernel
theorem d_Md_exception_17 : decode b_Md_exception 17 = .ok (.if_icmp .ne 6, 3) := by decide +kernel
theorem d_Md_exception_20 : decode b_Md_exception 20 = .ok (.bipush (-3), 2) := by decide +kernel
theorem d_Md_exception_22 : decode b_Md_exception 22 = .ok (.ireturn, 1) := by decide +kernel
theorem d_Md_exception_23 : decode b_Md_exception 23 = .ok (.aload_n 0, 1) := by decide +kernel
theorem d_Md_exception_24 : decode b_Md_exception 24 = .ok (.getfield 7, 3) := by decide +kernel
theorem d_Md_exception_27 : decode b_Md_exception 27 = .ok (.aload_n 0, 1) := by decide +kernel
theorem d_Md_exception_28 : decode b_Md_exception 28 = .ok (.getfield 83, 3) := by decide +kernel
theorem d_Md_exception_31 : decode b_Md_exception 31 = .ok (.iload_n 1, 1) := by decide +kernel
theorem d_Md_exception_32 : decode b_Md_exception 32 = .ok (.iastore, 1) := by decide +kernel
theorem d_Md_exception_33 : decode b_Md_exception 33 = .ok (.aload_n 0, 1) := by decide +kernel
theorem d_Md_exception_34 : decode b_Md_exception 34 = .ok (.dup, 1) := by decide +kernel
theorem d_Md_exception_35 : decode b_Md_exception 35 = .ok (.getfield 83, 3) := by decide +kernel
theorem d_Md_exception_38 : decode b_Md_exception 38 = .ok (.iconst 1, 1) := by decide +kernel
theorem d_Md_exception_39 : decode b_Md_exception 39 = .ok (.iadd, 1) := by decide +kernel
theorem d_Md_exception_40 : decode b_Md_exception 40 = .ok (.putfield 83, 3) := by decide +kernel
theorem d_Md_exception_43 : decode b_Md_exception 43 = .ok (.aload_n 0, 1) := by decide +kernel
theorem d_Md_exception_44 : decode b_Md_exception 44 = .ok (.getfield 83, 3) := by decide +kernel
theorem d_Md_exception_47 : decode b_Md_exception 47 = .ok (.iconst 1, 1) := by decide +kernel
theorem d_Md_exception_48 : decode b_Md_exception 48 = .ok (.isub, 1) := by decide +kernel
theorem d_Md_exception_49 : decode b_Md_exception 49 = .ok (.ireturn, 1) := by decide +kernel
theorem d_Md_make_0 : decode b_Md_make 0 = .ok (.aload_n 0, 1) := by decide +kernel
theorem d_Md_make_1 : decode b_Md_make 1 = .ok (.getfield 87, 3) := by decide +kernel
theorem d_Md_make_4 : decode b_Md_make 4 = .ok (.istore_n 3, 1) := by decide +kernel
theorem d_Md_make_5 : decode b_Md_make 5 = .ok (.aload_n 0, 1) := by decide +kernel
theorem d_Md_make_6 : decode b_Md_make 6 = .ok (.dup, 1) := by decide +kernel
theorem d_Md_make_7 : decode b_Md_make 7 = .ok (.getfield 87, 3) := by decide +kernel
theorem d_Md_make_10 : decode b_Md_make 10 = .ok (.iconst 1, 1) := by decide +kernel
theorem d_Md_make_11 : decode b_Md_make 11 = .ok (.iadd, 1) := by decide +kernel
theorem d_Md_make_12 : decode b_Md_make 12 = .ok (.putfield 87, 3) := by decide +kernel
theorem d_Md_make_15 : decode b_Md_make 15 = .ok (.aload_n 0, 1) := by decide +kernel
theorem d_Md_make_16 : decode b_Md_make 16 = .ok (.getfield 13, 3) := by decide +kernel
theorem d_Md_make_19 : decode b_Md_make 19 = .ok (.iload_n 3, 1) := by decide +kernel
theorem d_Md_make_20 : decode b_Md_make 20 = .ok (.iload_n 1, 1) := by decide +kernel
theorem d_Md_make_21 : decode b_Md_make 21 = .ok (.iastore, 1) := by decide +kernel
theorem d_Md_make_22 : decode b_Md_make 22 = .ok (.aload_n 0, 1) := by decide +kernel
theorem d_Md_make_23 : decode b_Md_make 23 = .ok (.getfield 16, 3) := by decide +kernel
theorem d_Md_make_26 : decode b_Md_make 26 = .ok (.iload_n 3, 1) := by decide +kernel
theorem d_Md_make_27 : decode b_Md_make 27 = .ok (.iload_n 2, 1) := by decide +kernel
theorem d_Md_make_28 : decode b_Md_make 28 = .ok (.iastore, 1) := by decide +kernel
theorem d_Md_make_29 : decode b_Md_make 29 = .ok (.aload_n 0, 1) := by decide +kernel
theorem d_Md_make_30 : decode b_Md_make 30 = .ok (.getfield 19, 3) := by decide +kernel
theorem d_Md_make_33 : decode b_Md_make 33 = .ok (.iload_n 3, 1) := by decide +kernel
theorem d_Md_make_34 : decode b_Md_make 34 = .ok (.iconst (-1), 1) := by decide +kernel
theorem d_Md_make_35 : decode b_Md_make 35 = .ok (.iastore, 1) := by decide +kernel
theorem d_Md_make_36 : decode b_Md_make 36 = .ok (.aload_n 0, 1) := by decide +kernel
theorem d_Md_make_37 : decode b_Md_make 37 = .ok (.getfield 22, 3) := by decide +kernel
theorem d_Md_make_40 : decode b_Md_make 40 = .ok (.iload_n 3, 1) := by decide +kernel
theorem d_Md_make_41 : decode b_Md_make 41 = .ok (.iconst (-1), 1) := by decide +kernel
theorem d_Md_make_42 : decode b_Md_make 42 = .ok (.iastore, 1) := by decide +kernel
theorem d_Md_make_43 : decode b_Md_make 43 = .ok (.aload_n 0, 1) := by decide +kernel
theorem d_Md_make_44 : decode b_Md_make 44 = .ok (.getfield 25, 3) := by decide +kernel
theorem d_Md_make_47 : decode b_Md_make 47 = .ok (.iload_n 3, 1) := by decide +kernel
theorem d_Md_make_48 : decode b_Md_make 48 = .ok (.iconst (-1), 1) := by decide +kernel
theorem d_Md_make_49 : decode b_Md_make 49 = .ok (.iastore, 1) := by decide +kernel
theorem d_Md_make_50 : decode b_Md_make 50 = .ok (.aload_n 0, 1) := by decide +kernel
theorem d_Md_make_51 : decode b_Md_make 51 = .ok (.getfield 28, 3) := by decide +kernel
theorem d_Md_make_54 : decode b_Md_make 54 = .ok (.iload_n 3, 1) := by decide +kernel
theorem d_Md_make_55 : decode b_Md_make 55 = .ok (.iconst (-1), 1) := by decide +kernel
theorem d_Md_make_56 : decode b_Md_make 56 = .ok (.iastore, 1) := by decide +kernel
theorem d_Md_make_57 : decode b_Md_make 57 = .ok (.aload_n 0, 1) := by decide +kernel
theorem d_Md_make_58 : decode b_Md_make 58 = .ok (.getfield 31, 3) := by decide +kernel
theorem d_Md_make_61 : decode b_Md_make 61 = .ok (.iload_n 3, 1) := by decide +kernel
theorem d_Md_make_62 : decode b_Md_make 62 = .ok (.iconst (-1), 1) := by decide +kernel
theorem d_Md_make_63 : decode b_Md_make 63 = .ok (.iastore, 1) := by decide +kernel
theorem d_Md_make_64 : decode b_Md_make 64 = .ok (.aload_n 0, 1) := by decide +kernel
theorem d_Md_make_65 : decode b_Md_make 65 = .ok (.getfield 34, 3) := by decide +kernel
theorem d_Md_make_68 : decode b_Md_make 68 = .ok (.iload_n 3, 1) := by decide +kernel
theorem d_Md_make_69 : decode b_Md_make 69 = .ok (.iconst (-1), 1) := by decide +kernel
theorem d_Md_make_70 : decode b_Md_make 70 = .ok (.iastore, 1) := by decide +kernel
theorem d_Md_make_71 : decode b_Md_make 71 = .ok (.aload_n 0, 1) := by decide +kernel
theorem d_Md_make_72 : decode b_Md_make 72 = .ok (.getfield 37, 3) := by decide +kernel
theorem d_Md_make_75 : decode b_Md_make 75 = .ok (.iload_n 3, 1) := by decide +kernel
theorem d_Md_make_76 : decode b_Md_make 76 = .ok (.iconst 0, 1) := by decide +kernel
theorem d_Md_make_77 : decode b_Md_make 77 = .ok (.bastore, 1) := by decide +kernel
theorem d_Md_make_78 : decode b_Md_make 78 = .ok (.aload_n 0, 1) := by decide +kernel
theorem d_Md_make_79 : decode b_Md_make 79 = .ok (.getfield 41, 3) := by decide +kernel
theorem d_Md_make_82 : decode b_Md_make 82 = .ok (.iload_n 3, 1) := by decide +kernel
theorem d_Md_make_83 : decode b_Md_make 83 = .ok (.iconst 0, 1) := by decide +kernel
theorem d_Md_make_84 : decode b_Md_make 84 = .ok (.iastore, 1) := by decide +kernel
theorem d_Md_make_85 : decode b_Md_make 85 = .ok (.aload_n 0, 1) := by decide +kernel
theorem d_Md_make_86 : decode b_Md_make 86 = .ok (.getfield 44, 3) := by decide +kernel
theorem d_Md_make_89 : decode b_Md_make 89 = .ok (.iload_n 3, 1) := by decide +kernel
theorem d_Md_make_90 : decode b_Md_make 90 = .ok (.iconst 0, 1) := by decide +kernel
theorem d_Md_make_91 : decode b_Md_make 91 = .ok (.bastore, 1) := by decide +kernel
theorem d_Md_make_92 : decode b_Md_make 92 = .ok (.aload_n 0, 1) := by decide +kernel
theorem d_Md_make_93 : decode b_Md_make 93 = .ok (.getfield 50, 3) := by decide +kernel
theorem d_Md_make_96 : decode b_Md_make 96 = .ok (.iload_n 3, 1) := by decide +kernel
theorem d_Md_make_97 : decode b_Md_make 97 = .ok (.iconst 0, 1) := by decide +kernel
theorem d_Md_make_98 : decode b_Md_make 98 = .ok (.bastore, 1) := by decide +kernel
theorem d_Md_make_99 : decode b_Md_make 99 = .ok (.iload_n 3, 1) := by decide +kernel
theorem d_Md_make_100 : decode b_Md_make 100 = .ok (.ireturn, 1) := by decide +kernel
theorem d_Md_join_0 : decode b_Md_join 0 = .ok (.aload_n 0, 1) := by decide +kernel
theorem d_Md_join_1 : decode b_Md_join 1 = .ok (.getfield 19, 3) := by decide +kernel
theorem d_Md_join_4 : decode b_Md_join 4 = .ok (.iload_n 2, 1) := by decide +kernel
theorem d_Md_join_5 : decode b_Md_join 5 = .ok (.iload_n 1, 1) := by decide +kernel
theorem d_Md_join_6 : decode b_Md_join 6 = .ok (.iastore, 1) := by decide +kernel
theorem d_Md_join_7 : decode b_Md_join 7 = .ok (.aload_n 0, 1) := by decide +kernel
theorem d_Md_join_8 : decode b_Md_join 8 = .ok (.getfield 44, 3) := by decide +kernel
theorem d_Md_join_11 : decode b_Md_join 11 = .ok (.iload_n 2, 1) := by decide +kernel
theorem d_Md_join_12 : decode b_Md_join 12 = .ok (.iconst 0, 1) := by decide +kernel
theorem d_Md_join_13 : decode b_Md_join 13 = .ok (.bastore, 1) := by decide +kernel
theorem d_Md_join_14 : decode b_Md_join 14 = .ok (.aload_n 0, 1) := by decide +kernel
theorem d_Md_join_15 : decode b_Md_join 15 = .ok (.getfield 34, 3) := by decide +kernel
theorem d_Md_join_18 : decode b_Md_join 18 = .ok (.iload_n 2, 1) := by decide +kernel
theorem d_Md_join_19 : decode b_Md_join 19 = .ok (.aload_n 0, 1) := by decide +kernel
theorem d_Md_join_20 : decode b_Md_join 20 = .ok (.getfield 28, 3) := by decide +kernel
theorem d_Md_join_23 : decode b_Md_join 23 = .ok (.iload_n 1, 1) := by decide +kernel
theorem d_Md_join_24 : decode b_Md_join 24 = .ok (.iaload, 1) := by decide +kernel
theorem d_Md_join_25 : decode b_Md_join 25 = .ok (.iastore, 1) := by decide +kernel
theorem d_Md_join_26 : decode b_Md_join 26 = .ok (.aload_n 0, 1) := by decide +kernel
theorem d_Md_join_27 : decode b_Md_join 27 = .ok (.getfield 31, 3) := by decide +kernel
theorem d_Md_join_30 : decode b_Md_join 30 = .ok (.iload_n 2, 1) := by decide +kernel
theorem d_Md_join_31 : decode b_Md_join 31 = .ok (.iconst (-1), 1) := by decide +kernel
theorem d_Md_join_32 : decode b_Md_join 32 = .ok (.iastore, 1) := by decide +kernel
theorem d_Md_join_33 : decode b_Md_join 33 = .ok (.aload_n 0, 1) := by decide +kernel
theorem d_Md_join_34 : decode b_Md_join 34 = .ok (.getfield 28, 3) := by decide +kernel
theorem d_Md_join_37 : decode b_Md_join 37 = .ok (.iload_n 1, 1) := by decide +kernel
theorem d_Md_join_38 : decode b_Md_join 38 = .ok (.iaload, 1) := by decide +kernel
theorem d_Md_join_39 : decode b_Md_join 39 = .ok (.iconst (-1), 1) := by decide +kernel
theorem d_Md_join_40 : decode b_Md_join 40 = .ok (.if_icmp .ne 13, 3) := by decide +kernel
theorem d_Md_join_43 : decode b_Md_join 43 = .ok (.aload_n 0, 1) := by decide +kernel
theorem d_Md_join_44 : decode b_Md_join 44 = .ok (.getfield 25, 3) := by decide +kernel
theorem d_Md_join_47 : decode b_Md_join 47 = .ok (.iload_n 1, 1) := by decide +kernel
theorem d_Md_join_48 : decode b_Md_join 48 = .ok (.iload_n 2, 1) := by decide +kernel
theorem d_Md_join_49 : decode b_Md_join 49 = .ok (.iastore, 1) := by decide +kernel
theorem d_Md_join_50 : decode b_Md_join 50 = .ok (.goto 15, 3) := by decide +kernel
theorem d_Md_join_53 : decode b_Md_join 53 = .ok (.aload_n 0, 1) := by decide +kernel
theorem d_Md_join_54 : decode b_Md_join 54 = .ok (.getfield 31, 3) := by decide +kernel
theorem d_Md_join_57 : decode b_Md_join 57 = .ok (.aload_n 0, 1) := by decide +kernel
theorem d_Md_join_58 : decode b_Md_join 58 = .ok (.getfield 28, 3) := by decide +kernel
theorem d_Md_join_61 : decode b_Md_join 61 = .ok (.iload_n 1, 1) := by decide +kernel
theorem d_Md_join_62 : decode b_Md_join 62 = .ok (.iaload, 1) := by decide +kernel
theorem d_Md_join_63 : decode b_Md_join 63 = .ok (.iload_n 2, 1) := by decide +kernel
theorem d_Md_join_64 : decode b_Md_join 64 = .ok (.iastore, 1) := by decide +kernel
theorem d_Md_join_65 : decode b_Md_join 65 = .ok (.aload_n 0, 1) := by decide +kernel
theorem d_Md_join_66 : decode b_Md_join 66 = .ok (.getfield 28, 3) := by decide +kernel
theorem d_Md_join_69 : decode b_Md_join 69 = .ok (.iload_n 1, 1) := by decide +kernel
theorem d_Md_join_70 : decode b_Md_join 70 = .ok (.iload_n 2, 1) := by decide +kernel
theorem d_Md_join_71 : decode b_Md_join 71 = .ok (.iastore, 1) := by decide +kernel
theorem d_Md_join_72 : decode b_Md_join 72 = .ok (.return_, 1) := by decide +kernel
theorem d_Md_mayBe_0 : decode b_Md_mayBe 0 = .ok (.iload_n 1, 1) := by decide +kernel
theorem d_Md_mayBe_1 : decode b_Md_mayBe 1 = .ok (.iconst 0, 1) := by decide +kernel
theorem d_Md_mayBe_2 : decode b_Md_mayBe 2 = .ok (.bipush 9, 2) := by decide +kernel
theorem d_Md_mayBe_4 : decode b_Md_mayBe 4 = .ok (.invokestatic 96, 3) := by decide +kernel
theorem d_Md_mayBe_7 : decode b_Md_mayBe 7 = .ok (.ifCond .ne 5, 3) := by decide +kernel
theorem d_Md_mayBe_10 : decode b_Md_mayBe 10 = .ok (.iconst 0, 1) := by decide +kernel
theorem d_Md_mayBe_11 : decode b_Md_mayBe 11 = .ok (.ireturn, 1) := by decide +kernel
theorem d_Md_mayBe_12 : decode b_Md_mayBe 12 = .ok (.iload_n 1, 1) := by decide +kernel
theorem d_Md_mayBe_13 : decode b_Md_mayBe 13 = .ok (.iconst 4, 1) := by decide +kernel
theorem d_Md_mayBe_14 : decode b_Md_mayBe 14 = .ok (.bipush 7, 2) := by decide +kernel
theorem d_Md_mayBe_16 : decode b_Md_mayBe 16 = .ok (.invokestatic 96, 3) := by decide +kernel
theorem d_Md_mayBe_19 : decode b_Md_mayBe 19 = .ok (.istore 5, 2) := by decide +kernel
theorem d_Md_mayBe_21 : decode b_Md_mayBe 21 = .ok (.iload_n 2, 1) := by decide +kernel
theorem d_Md_mayBe_22 : decode b_Md_mayBe 22 = .ok (.iconst 0, 1) := by decide +kernel
theorem d_Md_mayBe_23 : decode b_Md_mayBe 23 = .ok (.iload_n 1, 1) := by decide +kernel
theorem d_Md_mayBe_24 : decode b_Md_mayBe 24 = .ok (.bipush 7, 2) := by decide +kernel
theorem d_Md_mayBe_26 : decode b_Md_mayBe 26 = .ok (.if_icmp .ne 7, 3) := by decide +kernel
theorem d_Md_mayBe_29 : decode b_Md_mayBe 29 = .ok (.iconst 3, 1) := by decide +kernel
theorem d_Md_mayBe_30 : decode b_Md_mayBe 30 = .ok (.goto 13, 3) := by decide +kernel
theorem d_Md_mayBe_33 : decode b_Md_mayBe 33 = .ok (.iload 5, 2) := by decide +kernel
theorem d_Md_mayBe_35 : decode b_Md_mayBe 35 = .ok (.ifCond .eq 7, 3) := by decide +kernel
theorem d_Md_mayBe_38 : decode b_Md_mayBe 38 = .ok (.iconst 2, 1) := by decide +kernel
theorem d_Md_mayBe_39 : decode b_Md_mayBe 39 = .ok (.goto 4, 3) := by decide +kernel
theorem d_Md_mayBe_42 : decode b_Md_mayBe 42 = .ok (.iconst 0, 1) := by decide +kernel
theorem d_Md_mayBe_43 : decode b_Md_mayBe 43 = .ok (.invokestatic 96, 3) := by decide +kernel
theorem d_Md_mayBe_46 : decode b_Md_mayBe 46 = .ok (.istore 6, 2) := by decide +kernel
theorem d_Md_mayBe_48 : decode b_Md_mayBe 48 = .ok (.iload_n 1, 1) := by decide +kernel
theorem d_Md_mayBe_49 : decode b_Md_mayBe 49 = .ok (.tableswitch 184 0 9 #[55, 75, 103, 126, 184, 184, 184, 184, 184, 150], 55) := by decide +kernel
theorem d_Md_mayBe_104 : decode b_Md_mayBe 104 = .ok (.iload 6, 2) := by decide +kernel
theorem d_Md_mayBe_106 : decode b_Md_mayBe 106 = .ok (.ifCond .eq 12, 3) := by decide +kernel
theorem d_Md_mayBe_109 : decode b_Md_mayBe 109 = .ok (.iload_n 3, 1) := by decide +kernel
theorem d_Md_mayBe_110 : decode b_Md_mayBe 110 = .ok (.iconst (-1), 1) := by decide +kernel
theorem d_Md_mayBe_111 : decode b_Md_mayBe 111 = .ok (.if_icmp .ne 7, 3) := by decide +kernel
theorem d_Md_mayBe_114 : decode b_Md_mayBe 114 = .ok (.iconst 1, 1) := by decide +kernel
theorem d_Md_mayBe_115 : decode b_Md_mayBe 115 = .ok (.goto 4, 3) := by decide +kernel
theorem d_Md_mayBe_118 : decode b_Md_mayBe 118 = .ok (.iconst 0, 1) := by decide +kernel
theorem d_Md_mayBe_119 : decode b_Md_mayBe 119 = .ok (.istore 6, 2) := by decide +kernel
theorem d_Md_mayBe_121 : decode b_Md_mayBe 121 = .ok (.goto 132, 3) := by decide +kernel
theorem d_Md_mayBe_124 : decode b_Md_mayBe 124 = .ok (.iload 6, 2) := by decide +kernel
theorem d_Md_mayBe_126 : decode b_Md_mayBe 126 = .ok (.ifCond .eq 20, 3) := by decide +kernel
theorem d_Md_mayBe_129 : decode b_Md_mayBe 129 = .ok (.iload_n 3, 1) := by decide +kernel
theorem d_Md_mayBe_130 : decode b_Md_mayBe 130 = .ok (.iconst (-1), 1) := by decide +kernel
theorem d_Md_mayBe_131 : decode b_Md_mayBe 131 = .ok (.if_icmp .eq 11, 3) := by decide +kernel
theorem d_Md_mayBe_134 : decode b_Md_mayBe 134 = .ok (.aload_n 0, 1) := by decide +kernel
theorem d_Md_mayBe_135 : decode b_Md_mayBe 135 = .ok (.iload_n 3, 1) := by decide +kernel
theorem d_Md_mayBe_136 : decode b_Md_mayBe 136 = .ok (.invokevirtual 104, 3) := by decide +kernel
theorem d_Md_mayBe_139 : decode b_Md_mayBe 139 = .ok (.ifCond .eq 7, 3) := by decide +kernel
theorem d_Md_mayBe_142 : decode b_Md_mayBe 142 = .ok (.iconst 1, 1) := by decide +kernel
theorem d_Md_mayBe_143 : decode b_Md_mayBe 143 = .ok (.goto 4, 3) := by decide +kernel
theorem d_Md_mayBe_146 : decode b_Md_mayBe 146 = .ok (.iconst 0, 1) := by decide +kernel
theorem d_Md_mayBe_147 : decode b_Md_mayBe 147 = .ok (.istore 6, 2) := by decide +kernel
theorem d_Md_mayBe_149 : decode b_Md_mayBe 149 = .ok (.goto 104, 3) := by decide +kernel
theorem d_Md_mayBe_152 : decode b_Md_mayBe 152 = .ok (.iload 6, 2) := by decide +kernel
theorem d_Md_mayBe_154 : decode b_Md_mayBe 154 = .ok (.ifCond .eq 15, 3) := by decide +kernel
theorem d_Md_mayBe_157 : decode b_Md_mayBe 157 = .ok (.aload_n 0, 1) := by decide +kernel
theorem d_Md_mayBe_158 : decode b_Md_mayBe 158 = .ok (.iload_n 3, 1) := by decide +kernel
theorem d_Md_mayBe_159 : decode b_Md_mayBe 159 = .ok (.invokevirtual 104, 3) := by decide +kernel
theorem d_Md_mayBe_162 : decode b_Md_mayBe 162 = .ok (.ifCond .eq 7, 3) := by decide +kernel
theorem d_Md_mayBe_165 : decode b_Md_mayBe 165 = .ok (.iconst 1, 1) := by decide +kernel
theorem d_Md_mayBe_166 : decode b_Md_mayBe 166 = .ok (.goto 4, 3) := by decide +kernel
theorem d_Md_mayBe_169 : decode b_Md_mayBe 169 = .ok (.iconst 0, 1) := by decide +kernel
theorem d_Md_mayBe_170 : decode b_Md_mayBe 170 = .ok (.istore 6, 2) := by decide +kernel
theorem d_Md_mayBe_172 : decode b_Md_mayBe 172 = .ok (.goto 81, 3) := by decide +kernel
theorem d_Md_mayBe_175 : decode b_Md_mayBe 175 = .ok (.iload 6, 2) := by decide +kernel
theorem d_Md_mayBe_177 : decode b_Md_mayBe 177 = .ok (.ifCond .eq 16, 3) := by decide +kernel
theorem d_Md_mayBe_180 : decode b_Md_mayBe 180 = .ok (.iload_n 3, 1) := by decide +kernel
theorem d_Md_mayBe_181 : decode b_Md_mayBe 181 = .ok (.iconst 0, 1) := by decide +kernel
theorem d_Md_mayBe_182 : decode b_Md_mayBe 182 = .ok (.iconst 1, 1) := by decide +kernel
theorem d_Md_mayBe_183 : decode b_Md_mayBe 183 = .ok (.invokestatic 96, 3) := by decide +kernel
theorem d_Md_mayBe_186 : decode b_Md_mayBe 186 = .ok (.ifCond .eq 7, 3) := by decide +kernel
theorem d_Md_mayBe_189 : decode b_Md_mayBe 189 = .ok (.iconst 1, 1) := by decide +kernel
theorem d_Md_mayBe_190 : decode b_Md_mayBe 190 = .ok (.goto 4, 3) := by decide +kernel
theorem d_Md_mayBe_193 : decode b_Md_mayBe 193 = .ok (.iconst 0, 1) := by decide +kernel
theorem d_Md_mayBe_194 : decode b_Md_mayBe 194 = .ok (.istore 6, 2) := by decide +kernel
theorem d_Md_mayBe_196 : decode b_Md_mayBe 196 = .ok (.goto 57, 3) := by decide +kernel
theorem d_Md_mayBe_199 : decode b_Md_mayBe 199 = .ok (.iload 6, 2) := by decide +kernel
theorem d_Md_mayBe_201 : decode b_Md_mayBe 201 = .ok (.ifCond .eq 26, 3) := by decide +kernel
theorem d_Md_mayBe_204 : decode b_Md_mayBe 204 = .ok (.aload_n 0, 1) := by decide +kernel
theorem d_Md_mayBe_205 : decode b_Md_mayBe 205 = .ok (.iload_n 3, 1) := by decide +kernel
theorem d_Md_mayBe_206 : decode b_Md_mayBe 206 = .ok (.invokevirtual 107, 3) := by decide +kernel
theorem d_Md_mayBe_209 : decode b_Md_mayBe 209 = .ok (.ifCond .eq 18, 3) := by decide +kernel
theorem d_Md_mayBe_212 : decode b_Md_mayBe 212 = .ok (.aload_n 0, 1) := by decide +kernel
theorem d_Md_mayBe_213 : decode b_Md_mayBe 213 = .ok (.getfield 13, 3) := by decide +kernel
theorem d_Md_mayBe_216 : decode b_Md_mayBe 216 = .ok (.iload_n 3, 1) := by decide +kernel
theorem d_Md_mayBe_217 : decode b_Md_mayBe 217 = .ok (.iaload, 1) := by decide +kernel
theorem d_Md_mayBe_218 : decode b_Md_mayBe 218 = .ok (.bipush 13, 2) := by decide +kernel
theorem d_Md_mayBe_220 : decode b_Md_mayBe 220 = .ok (.if_icmp .ne 7, 3) := by decide +kernel
theorem d_Md_mayBe_223 : decode b_Md_mayBe 223 = .ok (.iconst 1, 1) := by decide +kernel
theorem d_Md_mayBe_224 : decode b_Md_mayBe 224 = .ok (.goto 4, 3) := by decide +kernel
theorem d_Md_mayBe_227 : decode b_Md_mayBe 227 = .ok (.iconst 0, 1) := by decide +kernel
theorem d_Md_mayBe_228 : decode b_Md_mayBe 228 = .ok (.istore 6, 2) := by decide +kernel
theorem d_Md_mayBe_230 : decode b_Md_mayBe 230 = .ok (.goto 23, 3) := by decide +kernel
theorem d_Md_mayBe_233 : decode b_Md_mayBe 233 = .ok (.iload 6, 2) := by decide +kernel
theorem d_Md_mayBe_235 : decode b_Md_mayBe 235 = .ok (.ifCond .eq 15, 3) := by decide +kernel
theorem d_Md_mayBe_238 : decode b_Md_mayBe 238 = .ok (.aload_n 0, 1) := by decide +kernel
theorem d_Md_mayBe_239 : decode b_Md_mayBe 239 = .ok (.iload_n 3, 1) := by decide +kernel
theorem d_Md_mayBe_240 : decode b_Md_mayBe 240 = .ok (.invokevirtual 107, 3) := by decide +kernel
theorem d_Md_mayBe_243 : decode b_Md_mayBe 243 = .ok (.ifCond .eq 7, 3) := by decide +kernel
theorem d_Md_mayBe_246 : decode b_Md_mayBe 246 = .ok (.iconst 1, 1) := by decide +kernel
theorem d_Md_mayBe_247 : decode b_Md_mayBe 247 = .ok (.goto 4, 3) := by decide +kernel
theorem d_Md_mayBe_250 : decode b_Md_mayBe 250 = .ok (.iconst 0, 1) := by decide +kernel
theorem d_Md_mayBe_251 : decode b_Md_mayBe 251 = .ok (.istore 6, 2) := by decide +kernel
theorem d_Md_mayBe_253 : decode b_Md_mayBe 253 = .ok (.iload 6, 2) := by decide +kernel
theorem d_Md_mayBe_255 : decode b_Md_mayBe 255 = .ok (.ifCond .eq 33, 3) := by decide +kernel
theorem d_Md_mayBe_258 : decode b_Md_mayBe 258 = .ok (.iload 4, 2) := by decide +kernel
theorem d_Md_mayBe_260 : decode b_Md_mayBe 260 = .ok (.iconst (-1), 1) := by decide +kernel
theorem d_Md_mayBe_261 : decode b_Md_mayBe 261 = .ok (.if_icmp .eq 23, 3) := by decide +kernel
theorem d_Md_mayBe_264 : decode b_Md_mayBe 264 = .ok (.iload_n 1, 1) := by decide +kernel
theorem d_Md_mayBe_265 : decode b_Md_mayBe 265 = .ok (.iconst 4, 1) := by decide +kernel
theorem d_Md_mayBe_266 : decode b_Md_mayBe 266 = .ok (.if_icmp .ne 22, 3) := by decide +kernel
theorem d_Md_mayBe_269 : decode b_Md_mayBe 269 = .ok (.aload_n 0, 1) := by decide +kernel
theorem d_Md_mayBe_270 : decode b_Md_mayBe 270 = .ok (.iload 4, 2) := by decide +kernel
theorem d_Md_mayBe_272 : decode b_Md_mayBe 272 = .ok (.invokevirtual 107, 3) := by decide +kernel
theorem d_Md_mayBe_275 : decode b_Md_mayBe 275 = .ok (.ifCond .eq 13, 3) := by decide +kernel
theorem d_Md_mayBe_278 : decode b_Md_mayBe 278 = .ok (.iload_n 3, 1) := by decide +kernel
theorem d_Md_mayBe_279 : decode b_Md_mayBe 279 = .ok (.iload 4, 2) := by decide +kernel
theorem d_Md_mayBe_281 : decode b_Md_mayBe 281 = .ok (.if_icmp .eq 7, 3) := by decide +kernel
theorem d_Md_mayBe_284 : decode b_Md_mayBe 284 = .ok (.iconst 1, 1) := by decide +kernel
theorem d_Md_mayBe_285 : decode b_Md_mayBe 285 = .ok (.goto 4, 3) := by decide +kernel
theorem d_Md_mayBe_288 : decode b_Md_mayBe 288 = .ok (.iconst 0, 1) := by decide +kernel
theorem d_Md_mayBe_289 : decode b_Md_mayBe 289 = .ok (.ireturn, 1) := by decide +kernel
theorem d_Md_node_0 : decode b_Md_node 0 = .ok (.aload_n 0, 1) := by decide +kernel
theorem d_Md_node_1 : decode b_Md_node 1 = .ok (.iload_n 1, 1) := by decide +kernel
theorem d_Md_node_2 : decode b_Md_node 2 = .ok (.iload_n 2, 1) := by decide +kernel
theorem d_Md_node_3 : decode b_Md_node 3 = .ok (.iload_n 3, 1) := by decide +kernel
theorem d_Md_node_4 : decode b_Md_node 4 = .ok (.iload 4, 2) := by decide +kernel
theorem d_Md_node_6 : decode b_Md_node 6 = .ok (.invokevirtual 110, 3) := by decide +kernel
theorem d_Md_node_9 : decode b_Md_node 9 = .ok (.ifCond .ne 6, 3) := by decide +kernel
theorem d_Md_node_12 : decode b_Md_node 12 = .ok (.bipush (-2), 2) := by decide +kernel
theorem d_Md_node_14 : decode b_Md_node 14 = .ok (.ireturn, 1) := by decide +kernel
theorem d_Md_node_15 : decode b_Md_node 15 = .ok (.aload_n 0, 1) := by decide +kernel
theorem d_Md_node_16 : decode b_Md_node 16 = .ok (.getfield 87, 3) := by decide +kernel
theorem d_Md_node_19 : decode b_Md_node 19 = .ok (.bipush 60, 2) := by decide +kernel
theorem d_Md_node_21 : decode b_Md_node 21 = .ok (.if_icmp .ne 6, 3) := by decide +kernel
theorem d_Md_node_24 : decode b_Md_node 24 = .ok (.bipush (-3), 2) := by decide +kernel
theorem d_Md_node_26 : decode b_Md_node 26 = .ok (.ireturn, 1) := by decide +kernel
theorem d_Md_node_27 : decode b_Md_node 27 = .ok (.aload_n 0, 1) := by decide +kernel
theorem d_Md_node_28 : decode b_Md_node 28 = .ok (.iload_n 1, 1) := by decide +kernel
theorem d_Md_node_29 : decode b_Md_node 29 = .ok (.iload_n 1, 1) := by decide +kernel
theorem d_Md_node_30 : decode b_Md_node 30 = .ok (.iconst 4, 1) := by decide +kernel
theorem d_Md_node_31 : decode b_Md_node 31 = .ok (.if_icmp .lt 7, 3) := by decide +kernel
theorem d_Md_node_34 : decode b_Md_node 34 = .ok (.iload_n 2, 1) := by decide +kernel
theorem d_Md_node_35 : decode b_Md_node 35 = .ok (.goto 12, 3) := by decide +kernel
theorem d_Md_node_38 : decode b_Md_node 38 = .ok (.iload_n 1, 1) := by decide +kernel
theorem d_Md_node_39 : decode b_Md_node 39 = .ok (.ifCond .ne 7, 3) := by decide +kernel
theorem d_Md_node_42 : decode b_Md_node 42 = .ok (.iconst 0, 1) := by decide +kernel
theorem d_Md_node_43 : decode b_Md_node 43 = .ok (.goto 4, 3) := by decide +kernel
theorem d_Md_node_46 : decode b_Md_node 46 = .ok (.iload_n 3, 1) := by decide +kernel
theorem d_Md_node_47 : decode b_Md_node 47 = .ok (.invokevirtual 114, 3) := by decide +kernel
theorem d_Md_node_50 : decode b_Md_node 50 = .ok (.istore 5, 2) := by decide +kernel
theorem d_Md_node_52 : decode b_Md_node 52 = .ok (.iload_n 1, 1) := by decide +kernel
theorem d_Md_node_53 : decode b_Md_node 53 = .ok (.iconst 4, 1) := by decide +kernel
theorem d_Md_node_54 : decode b_Md_node 54 = .ok (.if_icmp .lt 10, 3) := by decide +kernel
theorem d_Md_node_57 : decode b_Md_node 57 = .ok (.aload_n 0, 1) := by decide +kernel
theorem d_Md_node_58 : decode b_Md_node 58 = .ok (.iload 5, 2) := by decide +kernel
theorem d_Md_node_60 : decode b_Md_node 60 = .ok (.iload_n 3, 1) := by decide +kernel
theorem d_Md_node_61 : decode b_Md_node 61 = .ok (.invokevirtual 118, 3) := by decide +kernel
theorem d_Md_node_64 : decode b_Md_node 64 = .ok (.iload 4, 2) := by decide +kernel
theorem d_Md_node_66 : decode b_Md_node 66 = .ok (.iconst (-1), 1) := by decide +kernel
theorem d_Md_node_67 : decode b_Md_node 67 = .ok (.if_icmp .eq 11, 3) := by decide +kernel
theorem d_Md_node_70 : decode b_Md_node 70 = .ok (.aload_n 0, 1) := by decide +kernel
theorem d_Md_node_71 : decode b_Md_node 71 = .ok (.iload 5, 2) := by decide +kernel
theorem d_Md_node_73 : decode b_Md_node 73 = .ok (.iload 4, 2) := by decide +kernel
theorem d_Md_node_75 : decode b_Md_node 75 = .ok (.invokevirtual 118, 3) := by decide +kernel
theorem d_Md_node_78 : decode b_Md_node 78 = .ok (.iload 5, 2) := by decide +kernel
theorem d_Md_node_80 : decode b_Md_node 80 = .ok (.ireturn, 1) := by decide +kernel
theorem d_Md_jump_0 : decode b_Md_jump 0 = .ok (.iload_n 1, 1) := by decide +kernel
theorem d_Md_jump_1 : decode b_Md_jump 1 = .ok (.iconst 0, 1) := by decide +kernel
theorem d_Md_jump_2 : decode b_Md_jump 2 = .ok (.iconst 1, 1) := by decide +kernel
theorem d_Md_jump_3 : decode b_Md_jump 3 = .ok (.invokestatic 96, 3) := by decide +kernel
theorem d_Md_jump_6 : decode b_Md_jump 6 = .ok (.ifCond .eq 12, 3) := by decide +kernel
theorem d_Md_jump_9 : decode b_Md_jump 9 = .ok (.iload_n 2, 1) := by decide +kernel
theorem d_Md_jump_10 : decode b_Md_jump 10 = .ok (.iconst (-1), 1) := by decide +kernel
theorem d_Md_jump_11 : decode b_Md_jump 11 = .ok (.iconst 5, 1) := by decide +kernel
theorem d_Md_jump_12 : decode b_Md_jump 12 = .ok (.invokestatic 96, 3) := by decide +kernel
theorem d_Md_jump_15 : decode b_Md_jump 15 = .ok (.ifCond .ne 6, 3) := by decide +kernel
theorem d_Md_jump_18 : decode b_Md_jump 18 = .ok (.bipush (-2), 2) := by decide +kernel
theorem d_Md_jump_20 : decode b_Md_jump 20 = .ok (.ireturn, 1) := by decide +kernel
theorem d_Md_jump_21 : decode b_Md_jump 21 = .ok (.aload_n 0, 1) := by decide +kernel
theorem d_Md_jump_22 : decode b_Md_jump 22 = .ok (.getfield 87, 3) := by decide +kernel
theorem d_Md_jump_25 : decode b_Md_jump 25 = .ok (.bipush 60, 2) := by decide +kernel
theorem d_Md_jump_27 : decode b_Md_jump 27 = .ok (.if_icmp .ne 8, 3) := by decide +kernel
theorem d_Md_jump_30 : decode b_Md_jump 30 = .ok (.bipush (-3), 2) := by decide +kernel
theorem d_Md_jump_32 : decode b_Md_jump 32 = .ok (.goto 12, 3) := by decide +kernel
theorem d_Md_jump_35 : decode b_Md_jump 35 = .ok (.aload_n 0, 1) := by decide +kernel
theorem d_Md_jump_36 : decode b_Md_jump 36 = .ok (.bipush 10, 2) := by decide +kernel
theorem d_Md_jump_38 : decode b_Md_jump 38 = .ok (.iload_n 1, 1) := by decide +kernel
theorem d_Md_jump_39 : decode b_Md_jump 39 = .ok (.iadd, 1) := by decide +kernel
theorem d_Md_jump_40 : decode b_Md_jump 40 = .ok (.iload_n 2, 1) := by decide +kernel
theorem d_Md_jump_41 : decode b_Md_jump 41 = .ok (.invokevirtual 114, 3) := by decide +kernel
theorem d_Md_jump_44 : decode b_Md_jump 44 = .ok (.ireturn, 1) := by decide +kernel
theorem d_Md_label_0 : decode b_Md_label 0 = .ok (.iload_n 1, 1) := by decide +kernel
theorem d_Md_label_1 : decode b_Md_label 1 = .ok (.iconst 0, 1) := by decide +kernel
theorem d_Md_label_2 : decode b_Md_label 2 = .ok (.iconst 5, 1) := by decide +kernel
theorem d_Md_label_3 : decode b_Md_label 3 = .ok (.invokestatic 96, 3) := by decide +kernel
theorem d_Md_label_6 : decode b_Md_label 6 = .ok (.ifCond .eq 11, 3) := by decide +kernel
theorem d_Md_label_9 : decode b_Md_label 9 = .ok (.aload_n 0, 1) := by decide +kernel
theorem d_Md_label_10 : decode b_Md_label 10 = .ok (.iload_n 2, 1) := by decide +kernel
theorem d_Md_label_11 : decode b_Md_label 11 = .ok (.invokevirtual 107, 3) := by decide +kernel
theorem d_Md_label_14 : decode b_Md_label 14 = .ok (.ifCond .ne 6, 3) := by decide +kernel
theorem d_Md_label_17 : decode b_Md_label 17 = .ok (.bipush (-2), 2) := by decide +kernel
theorem d_Md_label_19 : decode b_Md_label 19 = .ok (.ireturn, 1) := by decide +kernel
theorem d_Md_label_20 : decode b_Md_label 20 = .ok (.aload_n 0, 1) := by decide +kernel
theorem d_Md_label_21 : decode b_Md_label 21 = .ok (.getfield 87, 3) := by decide +kernel
theorem d_Md_label_24 : decode b_Md_label 24 = .ok (.bipush 60, 2) := by decide +kernel
theorem d_Md_label_26 : decode b_Md_label 26 = .ok (.if_icmp .ne 6, 3) := by decide +kernel
theorem d_Md_label_29 : decode b_Md_label 29 = .ok (.bipush (-3), 2) := by decide +kernel
theorem d_Md_label_31 : decode b_Md_label 31 = .ok (.ireturn, 1) := by decide +kernel
theorem d_Md_label_32 : decode b_Md_label 32 = .ok (.aload_n 0, 1) := by decide +kernel
theorem d_Md_label_33 : decode b_Md_label 33 = .ok (.bipush 12, 2) := by decide +kernel
theorem d_Md_label_35 : decode b_Md_label 35 = .ok (.iload_n 1, 1) := by decide +kernel
theorem d_Md_label_36 : decode b_Md_label 36 = .ok (.invokevirtual 114, 3) := by decide +kernel
theorem d_Md_label_39 : decode b_Md_label 39 = .ok (.istore_n 3, 1) := by decide +kernel
theorem d_Md_label_40 : decode b_Md_label 40 = .ok (.aload_n 0, 1) := by decide +kernel
theorem d_Md_label_41 : decode b_Md_label 41 = .ok (.iload_n 3, 1) := by decide +kernel
theorem d_Md_label_42 : decode b_Md_label 42 = .ok (.iload_n 2, 1) := by decide +kernel
theorem d_Md_label_43 : decode b_Md_label 43 = .ok (.invokevirtual 118, 3) := by decide +kernel
theorem d_Md_label_46 : decode b_Md_label 46 = .ok (.iload_n 3, 1) := by decide +kernel
theorem d_Md_label_47 : decode b_Md_label 47 = .ok (.ireturn, 1) := by decide +kernel
theorem d_Md_row_0 : decode b_Md_row 0 = .ok (.iload_n 1, 1) := by decide +kernel
theorem d_Md_row_1 : decode b_Md_row 1 = .ok (.iconst 0, 1) := by decide +kernel
theorem d_Md_row_2 : decode b_Md_row 2 = .ok (.iconst 3, 1) := by decide +kernel
theorem d_Md_row_3 : decode b_Md_row 3 = .ok (.invokestatic 96, 3) := by decide +kernel
theorem d_Md_row_6 : decode b_Md_row 6 = .ok (.ifCond .ne 6, 3) := by decide +kernel
theorem d_Md_row_9 : decode b_Md_row 9 = .ok (.bipush (-2), 2) := by decide +kernel
theorem d_Md_row_11 : decode b_Md_row 11 = .ok (.ireturn, 1) := by decide +kernel
theorem d_Md_row_12 : decode b_Md_row 12 = .ok (.aload_n 0, 1) := by decide +kernel
theorem d_Md_row_13 : decode b_Md_row 13 = .ok (.getfield 90, 3) := by decide +kernel
theorem d_Md_row_16 : decode b_Md_row 16 = .ok (.iconst (-1), 1) := by decide +kernel
theorem d_Md_row_17 : decode b_Md_row 17 = .ok (.if_icmp .eq 6, 3) := by decide +kernel
theorem d_Md_row_20 : decode b_Md_row 20 = .ok (.bipush (-4), 2) := by decide +kernel
theorem d_Md_row_22 : decode b_Md_row 22 = .ok (.ireturn, 1) := by decide +kernel
theorem d_Md_row_23 : decode b_Md_row 23 = .ok (.aload_n 0, 1) := by decide +kernel
theorem d_Md_row_24 : decode b_Md_row 24 = .ok (.iload_n 1, 1) := by decide +kernel
theorem d_Md_row_25 : decode b_Md_row 25 = .ok (.putfield 90, 3) := by decide +kernel
theorem d_Md_row_28 : decode b_Md_row 28 = .ok (.aload_n 0, 1) := by decide +kernel
theorem d_Md_row_29 : decode b_Md_row 29 = .ok (.iconst (-1), 1) := by decide +kernel
theorem d_Md_row_30 : decode b_Md_row 30 = .ok (.putfield 122, 3) := by decide +kernel
theorem d_Md_row_33 : decode b_Md_row 33 = .ok (.aload_n 0, 1) := by decide +kernel
theorem d_Md_row_34 : decode b_Md_row 34 = .ok (.iconst (-1), 1) := by decide +kernel
theorem d_Md_row_35 : decode b_Md_row 35 = .ok (.putfield 125, 3) := by decide +kernel
theorem d_Md_row_38 : decode b_Md_row 38 = .ok (.aload_n 0, 1) := by decide +kernel
theorem d_Md_row_39 : decode b_Md_row 39 = .ok (.iconst 0, 1) := by decide +kernel
theorem d_Md_row_40 : decode b_Md_row 40 = .ok (.putfield 128, 3) := by decide +kernel
theorem d_Md_row_43 : decode b_Md_row 43 = .ok (.iload_n 1, 1) := by decide +kernel
theorem d_Md_row_44 : decode b_Md_row 44 = .ok (.ireturn, 1) := by decide +kernel
theorem d_Md_hasDefault_0 : decode b_Md_hasDefault 0 = .ok (.iconst 0, 1) := by decide +kernel
theorem d_Md_hasDefault_1 : decode b_Md_hasDefault 1 = .ok (.istore_n 1, 1) := by decide +kernel
theorem d_Md_hasDefault_2 : decode b_Md_hasDefault 2 = .ok (.aload_n 0, 1) := by decide +kernel
theorem d_Md_hasDefault_3 : decode b_Md_hasDefault 3 = .ok (.getfield 122, 3) := by decide +kernel
theorem d_Md_hasDefault_6 : decode b_Md_hasDefault 6 = .ok (.istore_n 2, 1) := by decide +kernel
theorem d_Md_hasDefault_7 : decode b_Md_hasDefault 7 = .ok (.iload_n 2, 1) := by decide +kernel
theorem d_Md_hasDefault_8 : decode b_Md_hasDefault 8 = .ok (.iconst (-1), 1) := by decide +kernel
theorem d_Md_hasDefault_9 : decode b_Md_hasDefault 9 = .ok (.if_icmp .eq 33, 3) := by decide +kernel
theorem d_Md_hasDefault_12 : decode b_Md_hasDefault 12 = .ok (.iload_n 1, 1) := by decide +kernel
theorem d_Md_hasDefault_13 : decode b_Md_hasDefault 13 = .ok (.ifCond .ne 13, 3) := by decide +kernel
theorem d_Md_hasDefault_16 : decode b_Md_hasDefault 16 = .ok (.aload_n 0, 1) := by decide +kernel
theorem d_Md_hasDefault_17 : decode b_Md_hasDefault 17 = .ok (.getfield 22, 3) := by decide +kernel
theorem d_Md_hasDefault_20 : decode b_Md_hasDefault 20 = .ok (.iload_n 2, 1) := by decide +kernel
theorem d_Md_hasDefault_21 : decode b_Md_hasDefault 21 = .ok (.iaload, 1) := by decide +kernel
theorem d_Md_hasDefault_22 : decode b_Md_hasDefault 22 = .ok (.iconst 2, 1) := by decide +kernel
theorem d_Md_hasDefault_23 : decode b_Md_hasDefault 23 = .ok (.if_icmp .ne 7, 3) := by decide +kernel
theorem d_Md_hasDefault_26 : decode b_Md_hasDefault 26 = .ok (.iconst 1, 1) := by decide +kernel
theorem d_Md_hasDefault_27 : decode b_Md_hasDefault 27 = .ok (.goto 4, 3) := by decide +kernel
theorem d_Md_hasDefault_30 : decode b_Md_hasDefault 30 = .ok (.iconst 0, 1) := by decide +kernel
theorem d_Md_hasDefault_31 : decode b_Md_hasDefault 31 = .ok (.istore_n 1, 1) := by decide +kernel
theorem d_Md_hasDefault_32 : decode b_Md_hasDefault 32 = .ok (.aload_n 0, 1) := by decide +kernel
theorem d_Md_hasDefault_33 : decode b_Md_hasDefault 33 = .ok (.getfield 31, 3) := by decide +kernel
theorem d_Md_hasDefault_36 : decode b_Md_hasDefault 36 = .ok (.iload_n 2, 1) := by decide +kernel
theorem d_Md_hasDefault_37 : decode b_Md_hasDefault 37 = .ok (.iaload, 1) := by decide +kernel
theorem d_Md_hasDefault_38 : decode b_Md_hasDefault 38 = .ok (.istore_n 2, 1) := by decide +kernel
theorem d_Md_hasDefault_39 : decode b_Md_hasDefault 39 = .ok (.goto (-32), 3) := by decide +kernel
theorem d_Md_hasDefault_42 : decode b_Md_hasDefault 42 = .ok (.iload_n 1, 1) := by decide +kernel
theorem d_Md_hasDefault_43 : decode b_Md_hasDefault 43 = .ok (.ireturn, 1) := by decide +kernel
theorem d_Md_mayPut_0 : decode b_Md_mayPut 0 = .ok (.aload_n 0, 1) := by decide +kernel
theorem d_Md_mayPut_1 : decode b_Md_mayPut 1 = .ok (.iload_n 1, 1) := by decide +kernel
theorem d_Md_mayPut_2 : decode b_Md_mayPut 2 = .ok (.invokevirtual 107, 3) := by decide +kernel
theorem d_Md_mayPut_5 : decode b_Md_mayPut 5 = .ok (.ifCond .ne 5, 3) := by decide +kernel
theorem d_Md_mayPut_8 : decode b_Md_mayPut 8 = .ok (.iconst 0, 1) := by decide +kernel
theorem d_Md_mayPut_9 : decode b_Md_mayPut 9 = .ok (.ireturn, 1) := by decide +kernel
theorem d_Md_mayPut_10 : decode b_Md_mayPut 10 = .ok (.aload_n 0, 1) := by decide +kernel
theorem d_Md_mayPut_11 : decode b_Md_mayPut 11 = .ok (.getfield 13, 3) := by decide +kernel
theorem d_Md_mayPut_14 : decode b_Md_mayPut 14 = .ok (.iload_n 1, 1) := by decide +kernel
theorem d_Md_mayPut_15 : decode b_Md_mayPut 15 = .ok (.iaload, 1) := by decide +kernel
theorem d_Md_mayPut_16 : decode b_Md_mayPut 16 = .ok (.istore_n 3, 1) := by decide +kernel
theorem d_Md_mayPut_17 : decode b_Md_mayPut 17 = .ok (.aload_n 0, 1) := by decide +kernel
theorem d_Md_mayPut_18 : decode b_Md_mayPut 18 = .ok (.getfield 90, 3) := by decide +kernel
theorem d_Md_mayPut_21 : decode b_Md_mayPut 21 = .ok (.tableswitch 118 0 2 #[27, 37, 75], 27) := by decide +kernel
theorem d_Md_mayPut_48 : decode b_Md_mayPut 48 = .ok (.iload_n 2, 1) := by decide +kernel
theorem d_Md_mayPut_49 : decode b_Md_mayPut 49 = .ok (.ifCond .ne 7, 3) := by decide +kernel
theorem d_Md_mayPut_52 : decode b_Md_mayPut 52 = .ok (.iconst 1, 1) := by decide +kernel
theorem d_Md_mayPut_53 : decode b_Md_mayPut 53 = .ok (.goto 4, 3) := by decide +kernel
theorem d_Md_mayPut_56 : decode b_Md_mayPut 56 = .ok (.iconst 0, 1) := by decide +kernel
theorem d_Md_mayPut_57 : decode b_Md_mayPut 57 = .ok (.ireturn, 1) := by decide +kernel
theorem d_Md_mayPut_58 : decode b_Md_mayPut 58 = .ok (.iload_n 2, 1) := by decide +kernel
theorem d_Md_mayPut_59 : decode b_Md_mayPut 59 = .ok (.aload_n 0, 1) := by decide +kernel
theorem d_Md_mayPut_60 : decode b_Md_mayPut 60 = .ok (.getfield 128, 3) := by decide +kernel
theorem d_Md_mayPut_63 : decode b_Md_mayPut 63 = .ok (.ifCond .ne 7, 3) := by decide +kernel
theorem d_Md_mayPut_66 : decode b_Md_mayPut 66 = .ok (.iconst 1, 1) := by decide +kernel
theorem d_Md_mayPut_67 : decode b_Md_mayPut 67 = .ok (.goto 4, 3) := by decide +kernel
theorem d_Md_mayPut_70 : decode b_Md_mayPut 70 = .ok (.iconst 0, 1) := by decide +kernel
theorem d_Md_mayPut_71 : decode b_Md_mayPut 71 = .ok (.iconst 2, 1) := by decide +kernel
theorem d_Md_mayPut_72 : decode b_Md_mayPut 72 = .ok (.invokestatic 96, 3) := by decide +kernel
theorem d_Md_mayPut_75 : decode b_Md_mayPut 75 = .ok (.ifCond .eq 19, 3) := by decide +kernel
theorem d_Md_mayPut_78 : decode b_Md_mayPut 78 = .ok (.iload_n 2, 1) := by decide +kernel
theorem d_Md_mayPut_79 : decode b_Md_mayPut 79 = .ok (.iconst 2, 1) := by decide +kernel
theorem d_Md_mayPut_80 : decode b_Md_mayPut 80 = .ok (.if_icmp .ne 10, 3) := by decide +kernel
theorem d_Md_mayPut_83 : decode b_Md_mayPut 83 = .ok (.aload_n 0, 1) := by decide +kernel
theorem d_Md_mayPut_84 : decode b_Md_mayPut 84 = .ok (.invokevirtual 131, 3) := by decide +kernel
theorem d_Md_mayPut_87 : decode b_Md_mayPut 87 = .ok (.ifCond .ne 7, 3) := by decide +kernel
theorem d_Md_mayPut_90 : decode b_Md_mayPut 90 = .ok (.iconst 1, 1) := by decide +kernel
theorem d_Md_mayPut_91 : decode b_Md_mayPut 91 = .ok (.goto 4, 3) := by decide +kernel
theorem d_Md_mayPut_94 : decode b_Md_mayPut 94 = .ok (.iconst 0, 1) := by decide +kernel
theorem d_Md_mayPut_95 : decode b_Md_mayPut 95 = .ok (.ireturn, 1) := by decide +kernel
theorem d_Md_mayPut_96 : decode b_Md_mayPut 96 = .ok (.iload_n 2, 1) := by decide +kernel
theorem d_Md_mayPut_97 : decode b_Md_mayPut 97 = .ok (.iconst 1, 1) := by decide +kernel
theorem d_Md_mayPut_98 : decode b_Md_mayPut 98 = .ok (.iconst 2, 1) := by decide +kernel
theorem d_Md_mayPut_99 : decode b_Md_mayPut 99 = .ok (.invokestatic 96, 3) := by decide +kernel
theorem d_Md_mayPut_102 : decode b_Md_mayPut 102 = .ok (.ifCond .eq 35, 3) := by decide +kernel
theorem d_Md_mayPut_105 : decode b_Md_mayPut 105 = .ok (.iload_n 3, 1) := by decide +kernel
theorem d_Md_mayPut_106 : decode b_Md_mayPut 106 = .ok (.bipush 13, 2) := by decide +kernel
theorem d_Md_mayPut_108 : decode b_Md_mayPut 108 = .ok (.if_icmp .eq 13, 3) := by decide +kernel
theorem d_Md_mayPut_111 : decode b_Md_mayPut 111 = .ok (.iload_n 3, 1) := by decide +kernel
theorem d_Md_mayPut_112 : decode b_Md_mayPut 112 = .ok (.iconst 1, 1) := by decide +kernel
theorem d_Md_mayPut_113 : decode b_Md_mayPut 113 = .ok (.if_icmp .eq 8, 3) := by decide +kernel
theorem d_Md_mayPut_116 : decode b_Md_mayPut 116 = .ok (.iload_n 3, 1) := by decide +kernel
theorem d_Md_mayPut_117 : decode b_Md_mayPut 117 = .ok (.iconst 2, 1) := by decide +kernel
theorem d_Md_mayPut_118 : decode b_Md_mayPut 118 = .ok (.if_icmp .ne 19, 3) := by decide +kernel
theorem d_Md_mayPut_121 : decode b_Md_mayPut 121 = .ok (.iload_n 2, 1) := by decide +kernel
theorem d_Md_mayPut_122 : decode b_Md_mayPut 122 = .ok (.iconst 2, 1) := by decide +kernel
theorem d_Md_mayPut_123 : decode b_Md_mayPut 123 = .ok (.if_icmp .ne 10, 3) := by decide +kernel
theorem d_Md_mayPut_126 : decode b_Md_mayPut 126 = .ok (.aload_n 0, 1) := by decide +kernel
theorem d_Md_mayPut_127 : decode b_Md_mayPut 127 = .ok (.invokevirtual 131, 3) := by decide +kernel
theorem d_Md_mayPut_130 : decode b_Md_mayPut 130 = .ok (.ifCond .ne 7, 3) := by decide +kernel
theorem d_Md_mayPut_133 : decode b_Md_mayPut 133 = .ok (.iconst 1, 1) := by decide +kernel
theorem d_Md_mayPut_134 : decode b_Md_mayPut 134 = .ok (.goto 4, 3) := by decide +kernel
theorem d_Md_mayPut_137 : decode b_Md_mayPut 137 = .ok (.iconst 0, 1) := by decide +kernel
theorem d_Md_mayPut_138 : decode b_Md_mayPut 138 = .ok (.ireturn, 1) := by decide +kernel
theorem d_Md_mayPut_139 : decode b_Md_mayPut 139 = .ok (.iload_n 3, 1) := by decide +kernel
theorem d_Md_mayPut_140 : decode b_Md_mayPut 140 = .ok (.bipush 13, 2) := by decide +kernel
theorem d_Md_mayPut_142 : decode b_Md_mayPut 142 = .ok (.if_icmp .ne 30, 3) := by decide +kernel
theorem d_Md_mayPut_145 : decode b_Md_mayPut 145 = .ok (.aload_n 0, 1) := by decide +kernel
theorem d_Md_mayPut_146 : decode b_Md_mayPut 146 = .ok (.getfield 128, 3) := by decide +kernel
theorem d_Md_mayPut_149 : decode b_Md_mayPut 149 = .ok (.ifCond .ne 11, 3) := by decide +kernel
theorem d_Md_mayPut_152 : decode b_Md_mayPut 152 = .ok (.iload_n 2, 1) := by decide +kernel
theorem d_Md_mayPut_153 : decode b_Md_mayPut 153 = .ok (.iconst (-1), 1) := by decide +kernel
theorem d_Md_mayPut_154 : decode b_Md_mayPut 154 = .ok (.if_icmp .ne 18, 3) := by decide +kernel
theorem d_Md_mayPut_157 : decode b_Md_mayPut 157 = .ok (.goto 11, 3) := by decide +kernel
theorem d_Md_mayPut_160 : decode b_Md_mayPut 160 = .ok (.aload_n 0, 1) := by decide +kernel
theorem d_Md_mayPut_161 : decode b_Md_mayPut 161 = .ok (.iload_n 2, 1) := by decide +kernel
theorem d_Md_mayPut_162 : decode b_Md_mayPut 162 = .ok (.invokevirtual 104, 3) := by decide +kernel
theorem d_Md_mayPut_165 : decode b_Md_mayPut 165 = .ok (.ifCond .eq 7, 3) := by decide +kernel
theorem d_Md_mayPut_168 : decode b_Md_mayPut 168 = .ok (.iconst 1, 1) := by decide +kernel
theorem d_Md_mayPut_169 : decode b_Md_mayPut 169 = .ok (.goto 4, 3) := by decide +kernel
theorem d_Md_mayPut_172 : decode b_Md_mayPut 172 = .ok (.iconst 0, 1) := by decide +kernel
theorem d_Md_mayPut_173 : decode b_Md_mayPut 173 = .ok (.ireturn, 1) := by decide +kernel
theorem d_Md_put_0 : decode b_Md_put 0 = .ok (.aload_n 0, 1) := by decide +kernel
theorem d_Md_put_1 : decode b_Md_put 1 = .ok (.getfield 90, 3) := by decide +kernel
theorem d_Md_put_4 : decode b_Md_put 4 = .ok (.iconst (-1), 1) := by decide +kernel
theorem d_Md_put_5 : decode b_Md_put 5 = .ok (.if_icmp .ne 6, 3) := by decide +kernel
theorem d_Md_put_8 : decode b_Md_put 8 = .ok (.bipush (-4), 2) := by decide +kernel
theorem d_Md_put_10 : decode b_Md_put 10 = .ok (.ireturn, 1) := by decide +kernel
theorem d_Md_put_11 : decode b_Md_put 11 = .ok (.aload_n 0, 1) := by decide +kernel
theorem d_Md_put_12 : decode b_Md_put 12 = .ok (.iload_n 1, 1) := by decide +kernel
theorem d_Md_put_13 : decode b_Md_put 13 = .ok (.iload_n 2, 1) := by decide +kernel
theorem d_Md_put_14 : decode b_Md_put 14 = .ok (.invokevirtual 135, 3) := by decide +kernel
theorem d_Md_put_17 : decode b_Md_put 17 = .ok (.ifCond .ne 6, 3) := by decide +kernel
theorem d_Md_put_20 : decode b_Md_put 20 = .ok (.bipush (-2), 2) := by decide +kernel
theorem d_Md_put_22 : decode b_Md_put 22 = .ok (.ireturn, 1) := by decide +kernel
theorem d_Md_put_23 : decode b_Md_put 23 = .ok (.aload_n 0, 1) := by decide +kernel
theorem d_Md_put_24 : decode b_Md_put 24 = .ok (.getfield 44, 3) := by decide +kernel
theorem d_Md_put_27 : decode b_Md_put 27 = .ok (.iload_n 1, 1) := by decide +kernel
theorem d_Md_put_28 : decode b_Md_put 28 = .ok (.iconst 1, 1) := by decide +kernel
theorem d_Md_put_29 : decode b_Md_put 29 = .ok (.bastore, 1) := by decide +kernel
theorem d_Md_put_30 : decode b_Md_put 30 = .ok (.aload_n 0, 1) := by decide +kernel
theorem d_Md_put_31 : decode b_Md_put 31 = .ok (.getfield 22, 3) := by decide +kernel
theorem d_Md_put_34 : decode b_Md_put 34 = .ok (.iload_n 1, 1) := by decide +kernel
theorem d_Md_put_35 : decode b_Md_put 35 = .ok (.aload_n 0, 1) := by decide +kernel
theorem d_Md_put_36 : decode b_Md_put 36 = .ok (.getfield 90, 3) := by decide +kernel
theorem d_Md_put_39 : decode b_Md_put 39 = .ok (.ifCond .ne 7, 3) := by decide +kernel
theorem d_Md_put_42 : decode b_Md_put 42 = .ok (.iconst (-1), 1) := by decide +kernel
theorem d_Md_put_43 : decode b_Md_put 43 = .ok (.goto 4, 3) := by decide +kernel
theorem d_Md_put_46 : decode b_Md_put 46 = .ok (.iload_n 2, 1) := by decide +kernel
theorem d_Md_put_47 : decode b_Md_put 47 = .ok (.iastore, 1) := by decide +kernel
theorem d_Md_put_48 : decode b_Md_put 48 = .ok (.aload_n 0, 1) := by decide +kernel
theorem d_Md_put_49 : decode b_Md_put 49 = .ok (.getfield 31, 3) := by decide +kernel
theorem d_Md_put_52 : decode b_Md_put 52 = .ok (.iload_n 1, 1) := by decide +kernel
theorem d_Md_put_53 : decode b_Md_put 53 = .ok (.iconst (-1), 1) := by decide +kernel
theorem d_Md_put_54 : decode b_Md_put 54 = .ok (.iastore, 1) := by decide +kernel
theorem d_Md_put_55 : decode b_Md_put 55 = .ok (.aload_n 0, 1) := by decide +kernel
theorem d_Md_put_56 : decode b_Md_put 56 = .ok (.getfield 125, 3) := by decide +kernel
theorem d_Md_put_59 : decode b_Md_put 59 = .ok (.iconst (-1), 1) := by decide +kernel
theorem d_Md_put_60 : decode b_Md_put 60 = .ok (.if_icmp .ne 11, 3) := by decide +kernel
theorem d_Md_put_63 : decode b_Md_put 63 = .ok (.aload_n 0, 1) := by decide +kernel
theorem d_Md_put_64 : decode b_Md_put 64 = .ok (.iload_n 1, 1) := by decide +kernel
theorem d_Md_put_65 : decode b_Md_put 65 = .ok (.putfield 122, 3) := by decide +kernel
theorem d_Md_put_68 : decode b_Md_put 68 = .ok (.goto 13, 3) := by decide +kernel
theorem d_Md_put_71 : decode b_Md_put 71 = .ok (.aload_n 0, 1) := by decide +kernel
theorem d_Md_put_72 : decode b_Md_put 72 = .ok (.getfield 31, 3) := by decide +kernel
theorem d_Md_put_75 : decode b_Md_put 75 = .ok (.aload_n 0, 1) := by decide +kernel
theorem d_Md_put_76 : decode b_Md_put 76 = .ok (.getfield 125, 3) := by decide +kernel
theorem d_Md_put_79 : decode b_Md_put 79 = .ok (.iload_n 1, 1) := by decide +kernel
theorem d_Md_put_80 : decode b_Md_put 80 = .ok (.iastore, 1) := by decide +kernel
theorem d_Md_put_81 : decode b_Md_put 81 = .ok (.aload_n 0, 1) := by decide +kernel
theorem d_Md_put_82 : decode b_Md_put 82 = .ok (.iload_n 1, 1) := by decide +kernel
theorem d_Md_put_83 : decode b_Md_put 83 = .ok (.putfield 125, 3) := by decide +kernel
theorem d_Md_put_86 : decode b_Md_put 86 = .ok (.aload_n 0, 1) := by decide +kernel
theorem d_Md_put_87 : decode b_Md_put 87 = .ok (.dup, 1) := by decide +kernel
theorem d_Md_put_88 : decode b_Md_put 88 = .ok (.getfield 128, 3) := by decide +kernel
theorem d_Md_put_91 : decode b_Md_put 91 = .ok (.iconst 1, 1) := by decide +kernel
theorem d_Md_put_92 : decode b_Md_put 92 = .ok (.iadd, 1) := by decide +kernel
theorem d_Md_put_93 : decode b_Md_put 93 = .ok (.putfield 128, 3) := by decide +kernel
theorem d_Md_put_96 : decode b_Md_put 96 = .ok (.aload_n 0, 1) := by decide +kernel
theorem d_Md_put_97 : decode b_Md_put 97 = .ok (.getfield 128, 3) := by decide +kernel
theorem d_Md_put_100 : decode b_Md_put 100 = .ok (.ireturn, 1) := by decide +kernel
theorem d_Md_mayEnd_0 : decode b_Md_mayEnd 0 = .ok (.aload_n 0, 1) := by decide +kernel
theorem d_Md_mayEnd_1 : decode b_Md_mayEnd 1 = .ok (.getfield 90, 3) := by decide +kernel
theorem d_Md_mayEnd_4 : decode b_Md_mayEnd 4 = .ok (.lookupswitch 103 #[(1, 28), (3, 55)], 28) := by decide +kernel
theorem d_Md_mayEnd_32 : decode b_Md_mayEnd 32 = .ok (.iload_n 1, 1) := by decide +kernel
theorem d_Md_mayEnd_33 : decode b_Md_mayEnd 33 = .ok (.iconst 0, 1) := by decide +kernel
theorem d_Md_mayEnd_34 : decode b_Md_mayEnd 34 = .ok (.iconst 2, 1) := by decide +kernel
theorem d_Md_mayEnd_35 : decode b_Md_mayEnd 35 = .ok (.invokestatic 96, 3) := by decide +kernel
theorem d_Md_mayEnd_38 : decode b_Md_mayEnd 38 = .ok (.ifCond .eq 19, 3) := by decide +kernel
theorem d_Md_mayEnd_41 : decode b_Md_mayEnd 41 = .ok (.iload_n 1, 1) := by decide +kernel
theorem d_Md_mayEnd_42 : decode b_Md_mayEnd 42 = .ok (.iconst 2, 1) := by decide +kernel
theorem d_Md_mayEnd_43 : decode b_Md_mayEnd 43 = .ok (.if_icmp .ne 10, 3) := by decide +kernel
theorem d_Md_mayEnd_46 : decode b_Md_mayEnd 46 = .ok (.aload_n 0, 1) := by decide +kernel
theorem d_Md_mayEnd_47 : decode b_Md_mayEnd 47 = .ok (.invokevirtual 131, 3) := by decide +kernel
theorem d_Md_mayEnd_50 : decode b_Md_mayEnd 50 = .ok (.ifCond .ne 7, 3) := by decide +kernel
theorem d_Md_mayEnd_53 : decode b_Md_mayEnd 53 = .ok (.iconst 1, 1) := by decide +kernel
theorem d_Md_mayEnd_54 : decode b_Md_mayEnd 54 = .ok (.goto 4, 3) := by decide +kernel
theorem d_Md_mayEnd_57 : decode b_Md_mayEnd 57 = .ok (.iconst 0, 1) := by decide +kernel
theorem d_Md_mayEnd_58 : decode b_Md_mayEnd 58 = .ok (.ireturn, 1) := by decide +kernel
theorem d_Md_mayEnd_59 : decode b_Md_mayEnd 59 = .ok (.aload_n 0, 1) := by decide +kernel
theorem d_Md_mayEnd_60 : decode b_Md_mayEnd 60 = .ok (.getfield 128, 3) := by decide +kernel
theorem d_Md_mayEnd_63 : decode b_Md_mayEnd 63 = .ok (.ifCond .le 42, 3) := by decide +kernel
theorem d_Md_mayEnd_66 : decode b_Md_mayEnd 66 = .ok (.iload_n 1, 1) := by decide +kernel
theorem d_Md_mayEnd_67 : decode b_Md_mayEnd 67 = .ok (.iconst (-1), 1) := by decide +kernel
theorem d_Md_mayEnd_68 : decode b_Md_mayEnd 68 = .ok (.if_icmp .ne 14, 3) := by decide +kernel
theorem d_Md_mayEnd_71 : decode b_Md_mayEnd 71 = .ok (.aload_n 0, 1) := by decide +kernel
theorem d_Md_mayEnd_72 : decode b_Md_mayEnd 72 = .ok (.getfield 128, 3) := by decide +kernel
theorem d_Md_mayEnd_75 : decode b_Md_mayEnd 75 = .ok (.iconst 1, 1) := by decide +kernel
theorem d_Md_mayEnd_76 : decode b_Md_mayEnd 76 = .ok (.if_icmp .le 29, 3) := by decide +kernel
theorem d_Md_mayEnd_79 : decode b_Md_mayEnd 79 = .ok (.goto 22, 3) := by decide +kernel
theorem d_Md_mayEnd_82 : decode b_Md_mayEnd 82 = .ok (.aload_n 0, 1) := by decide +kernel
theorem d_Md_mayEnd_83 : decode b_Md_mayEnd 83 = .ok (.iload_n 1, 1) := by decide +kernel
theorem d_Md_mayEnd_84 : decode b_Md_mayEnd 84 = .ok (.invokevirtual 107, 3) := by decide +kernel
theorem d_Md_mayEnd_87 : decode b_Md_mayEnd 87 = .ok (.ifCond .eq 18, 3) := by decide +kernel
theorem d_Md_mayEnd_90 : decode b_Md_mayEnd 90 = .ok (.aload_n 0, 1) := by decide +kernel
theorem d_Md_mayEnd_91 : decode b_Md_mayEnd 91 = .ok (.getfield 13, 3) := by decide +kernel
theorem d_Md_mayEnd_94 : decode b_Md_mayEnd 94 = .ok (.iload_n 1, 1) := by decide +kernel
theorem d_Md_mayEnd_95 : decode b_Md_mayEnd 95 = .ok (.iaload, 1) := by decide +kernel
theorem d_Md_mayEnd_96 : decode b_Md_mayEnd 96 = .ok (.bipush 13, 2) := by decide +kernel
theorem d_Md_mayEnd_98 : decode b_Md_mayEnd 98 = .ok (.if_icmp .ne 7, 3) := by decide +kernel
theorem d_Md_mayEnd_101 : decode b_Md_mayEnd 101 = .ok (.iconst 1, 1) := by decide +kernel
theorem d_Md_mayEnd_102 : decode b_Md_mayEnd 102 = .ok (.goto 4, 3) := by decide +kernel
theorem d_Md_mayEnd_105 : decode b_Md_mayEnd 105 = .ok (.iconst 0, 1) := by decide +kernel
theorem d_Md_mayEnd_106 : decode b_Md_mayEnd 106 = .ok (.ireturn, 1) := by decide +kernel
theorem d_Md_mayEnd_107 : decode b_Md_mayEnd 107 = .ok (.iload_n 1, 1) := by decide +kernel
theorem d_Md_mayEnd_108 : decode b_Md_mayEnd 108 = .ok (.ifCond .ne 7, 3) := by decide +kernel
theorem d_Md_mayEnd_111 : decode b_Md_mayEnd 111 = .ok (.iconst 1, 1) := by decide +kernel
theorem d_Md_mayEnd_112 : decode b_Md_mayEnd 112 = .ok (.goto 4, 3) := by decide +kernel
theorem d_Md_mayEnd_115 : decode b_Md_mayEnd 115 = .ok (.iconst 0, 1) := by decide +kernel
theorem d_Md_mayEnd_116 : decode b_Md_mayEnd 116 = .ok (.ireturn, 1) := by decide +kernel
theorem d_Md_end_0 : decode b_Md_end 0 = .ok (.aload_n 0, 1) := by decide +kernel
theorem d_Md_end_1 : decode b_Md_end 1 = .ok (.getfield 90, 3) := by decide +kernel
theorem d_Md_end_4 : decode b_Md_end 4 = .ok (.iconst (-1), 1) := by decide +kernel
theorem d_Md_end_5 : decode b_Md_end 5 = .ok (.if_icmp .ne 6, 3) := by decide +kernel
theorem d_Md_end_8 : decode b_Md_end 8 = .ok (.bipush (-4), 2) := by decide +kernel
theorem d_Md_end_10 : decode b_Md_end 10 = .ok (.ireturn, 1) := by decide +kernel
theorem d_Md_end_11 : decode b_Md_end 11 = .ok (.aload_n 0, 1) := by decide +kernel
theorem d_Md_end_12 : decode b_Md_end 12 = .ok (.iload_n 1, 1) := by decide +kernel
theorem d_Md_end_13 : decode b_Md_end 13 = .ok (.invokevirtual 139, 3) := by decide +kernel
theorem d_Md_end_16 : decode b_Md_end 16 = .ok (.ifCond .ne 6, 3) := by decide +kernel
theorem d_Md_end_19 : decode b_Md_end 19 = .ok (.bipush (-2), 2) := by decide +kernel
theorem d_Md_end_21 : decode b_Md_end 21 = .ok (.ireturn, 1) := by decide +kernel
theorem d_Md_end_22 : decode b_Md_end 22 = .ok (.aload_n 0, 1) := by decide +kernel
theorem d_Md_end_23 : decode b_Md_end 23 = .ok (.getfield 87, 3) := by decide +kernel
theorem d_Md_end_26 : decode b_Md_end 26 = .ok (.bipush 60, 2) := by decide +kernel
theorem d_Md_end_28 : decode b_Md_end 28 = .ok (.if_icmp .ne 6, 3) := by decide +kernel
theorem d_Md_end_31 : decode b_Md_end 31 = .ok (.bipush (-3), 2) := by decide +kernel
theorem d_Md_end_33 : decode b_Md_end 33 = .ok (.ireturn, 1) := by decide +kernel
theorem d_Md_end_34 : decode b_Md_end 34 = .ok (.aload_n 0, 1) := by decide +kernel
theorem d_Md_end_35 : decode b_Md_end 35 = .ok (.bipush 13, 2) := by decide +kernel
theorem d_Md_end_37 : decode b_Md_end 37 = .ok (.aload_n 0, 1) := by decide +kernel
theorem d_Md_end_38 : decode b_Md_end 38 = .ok (.getfield 90, 3) := by decide +kernel
theorem d_Md_end_41 : decode b_Md_end 41 = .ok (.iadd, 1) := by decide +kernel
theorem d_Md_end_42 : decode b_Md_end 42 = .ok (.iconst 0, 1) := by decide +kernel
theorem d_Md_end_43 : decode b_Md_end 43 = .ok (.invokevirtual 114, 3) := by decide +kernel
theorem d_Md_end_46 : decode b_Md_end 46 = .ok (.istore_n 2, 1) := by decide +kernel
theorem d_Md_end_47 : decode b_Md_end 47 = .ok (.aload_n 0, 1) := by decide +kernel
theorem d_Md_end_48 : decode b_Md_end 48 = .ok (.getfield 122, 3) := by decide +kernel
theorem d_Md_end_51 : decode b_Md_end 51 = .ok (.istore_n 3, 1) := by decide +kernel
theorem d_Md_end_52 : decode b_Md_end 52 = .ok (.iload_n 3, 1) := by decide +kernel
theorem d_Md_end_53 : decode b_Md_end 53 = .ok (.iconst (-1), 1) := by decide +kernel
theorem d_Md_end_54 : decode b_Md_end 54 = .ok (.if_icmp .eq 23, 3) := by decide +kernel
theorem d_Md_end_57 : decode b_Md_end 57 = .ok (.aload_n 0, 1) := by decide +kernel
theorem d_Md_end_58 : decode b_Md_end 58 = .ok (.getfield 31, 3) := by decide +kernel
theorem d_Md_end_61 : decode b_Md_end 61 = .ok (.iload_n 3, 1) := by decide +kernel
theorem d_Md_end_62 : decode b_Md_end 62 = .ok (.iaload, 1) := by decide +kernel
theorem d_Md_end_63 : decode b_Md_end 63 = .ok (.istore 4, 2) := by decide +kernel
theorem d_Md_end_65 : decode b_Md_end 65 = .ok (.aload_n 0, 1) := by decide +kernel
theorem d_Md_end_66 : decode b_Md_end 66 = .ok (.iload_n 2, 1) := by decide +kernel
theorem d_Md_end_67 : decode b_Md_end 67 = .ok (.iload_n 3, 1) := by decide +kernel
theorem d_Md_end_68 : decode b_Md_end 68 = .ok (.invokevirtual 118, 3) := by decide +kernel
theorem d_Md_end_71 : decode b_Md_end 71 = .ok (.iload 4, 2) := by decide +kernel
theorem d_Md_end_73 : decode b_Md_end 73 = .ok (.istore_n 3, 1) := by decide +kernel
theorem d_Md_end_74 : decode b_Md_end 74 = .ok (.goto (-22), 3) := by decide +kernel
theorem d_Md_end_77 : decode b_Md_end 77 = .ok (.aload_n 0, 1) := by decide +kernel
theorem d_Md_end_78 : decode b_Md_end 78 = .ok (.getfield 90, 3) := by decide +kernel
theorem d_Md_end_81 : decode b_Md_end 81 = .ok (.iconst 1, 1) := by decide +kernel
theorem d_Md_end_82 : decode b_Md_end 82 = .ok (.if_icmp .ne 10, 3) := by decide +kernel
theorem d_Md_end_85 : decode b_Md_end 85 = .ok (.aload_n 0, 1) := by decide +kernel
theorem d_Md_end_86 : decode b_Md_end 86 = .ok (.getfield 41, 3) := by decide +kernel
theorem d_Md_end_89 : decode b_Md_end 89 = .ok (.iload_n 2, 1) := by decide +kernel
theorem d_Md_end_90 : decode b_Md_end 90 = .ok (.iload_n 1, 1) := by decide +kernel
theorem d_Md_end_91 : decode b_Md_end 91 = .ok (.iastore, 1) := by decide +kernel
theorem d_Md_end_92 : decode b_Md_end 92 = .ok (.aload_n 0, 1) := by decide +kernel
theorem d_Md_end_93 : decode b_Md_end 93 = .ok (.getfield 90, 3) := by decide +kernel
theorem d_Md_end_96 : decode b_Md_end 96 = .ok (.iconst 3, 1) := by decide +kernel
theorem d_Md_end_97 : decode b_Md_end 97 = .ok (.if_icmp .ne 21, 3) := by decide +kernel
theorem d_Md_end_100 : decode b_Md_end 100 = .ok (.iload_n 1, 1) := by decide +kernel
theorem d_Md_end_101 : decode b_Md_end 101 = .ok (.iconst (-1), 1) := by decide +kernel
theorem d_Md_end_102 : decode b_Md_end 102 = .ok (.if_icmp .eq 16, 3) := by decide +kernel
theorem d_Md_end_105 : decode b_Md_end 105 = .ok (.aload_n 0, 1) := by decide +kernel
theorem d_Md_end_106 : decode b_Md_end 106 = .ok (.iload_n 2, 1) := by decide +kernel
theorem d_Md_end_107 : decode b_Md_end 107 = .ok (.iload_n 1, 1) := by decide +kernel
theorem d_Md_end_108 : decode b_Md_end 108 = .ok (.invokevirtual 118, 3) := by decide +kernel
theorem d_Md_end_111 : decode b_Md_end 111 = .ok (.aload_n 0, 1) := by decide +kernel
theorem d_Md_end_112 : decode b_Md_end 112 = .ok (.getfield 37, 3) := by decide +kernel
theorem d_Md_end_115 : decode b_Md_end 115 = .ok (.iload_n 2, 1) := by decide +kernel
theorem d_Md_end_116 : decode b_Md_end 116 = .ok (.iconst 1, 1) := by decide +kernel
theorem d_Md_end_117 : decode b_Md_end 117 = .ok (.bastore, 1) := by decide +kernel
theorem d_Md_end_118 : decode b_Md_end 118 = .ok (.aload_n 0, 1) := by decide +kernel
theorem d_Md_end_119 : decode b_Md_end 119 = .ok (.iconst (-1), 1) := by decide +kernel
theorem d_Md_end_120 : decode b_Md_end 120 = .ok (.putfield 90, 3) := by decide +kernel
theorem d_Md_end_123 : decode b_Md_end 123 = .ok (.iload_n 2, 1) := by decide +kernel
theorem d_Md_end_124 : decode b_Md_end 124 = .ok (.ireturn, 1) := by decide +kernel
theorem d_Md_drop_0 : decode b_Md_drop 0 = .ok (.aload_n 0, 1) := by decide +kernel
theorem d_Md_drop_1 : decode b_Md_drop 1 = .ok (.getfield 90, 3) := by decide +kernel
theorem d_Md_drop_4 : decode b_Md_drop 4 = .ok (.iconst (-1), 1) := by decide +kernel
theorem d_Md_drop_5 : decode b_Md_drop 5 = .ok (.if_icmp .ne 6, 3) := by decide +kernel
theorem d_Md_drop_8 : decode b_Md_drop 8 = .ok (.bipush (-4), 2) := by decide +kernel
theorem d_Md_drop_10 : decode b_Md_drop 10 = .ok (.ireturn, 1) := by decide +kernel
theorem d_Md_drop_11 : decode b_Md_drop 11 = .ok (.aload_n 0, 1) := by decide +kernel
theorem d_Md_drop_12 : decode b_Md_drop 12 = .ok (.getfield 122, 3) := by decide +kernel
theorem d_Md_drop_15 : decode b_Md_drop 15 = .ok (.istore_n 1, 1) := by decide +kernel
theorem d_Md_drop_16 : decode b_Md_drop 16 = .ok (.iload_n 1, 1) := by decide +kernel
theorem d_Md_drop_17 : decode b_Md_drop 17 = .ok (.iconst (-1), 1) := by decide +kernel
theorem d_Md_drop_18 : decode b_Md_drop 18 = .ok (.if_icmp .eq 27, 3) := by decide +kernel
theorem d_Md_drop_21 : decode b_Md_drop 21 = .ok (.aload_n 0, 1) := by decide +kernel
theorem d_Md_drop_22 : decode b_Md_drop 22 = .ok (.getfield 44, 3) := by decide +kernel
theorem d_Md_drop_25 : decode b_Md_drop 25 = .ok (.iload_n 1, 1) := by decide +kernel
theorem d_Md_drop_26 : decode b_Md_drop 26 = .ok (.iconst 0, 1) := by decide +kernel
theorem d_Md_drop_27 : decode b_Md_drop 27 = .ok (.bastore, 1) := by decide +kernel
theorem d_Md_drop_28 : decode b_Md_drop 28 = .ok (.aload_n 0, 1) := by decide +kernel
theorem d_Md_drop_29 : decode b_Md_drop 29 = .ok (.getfield 22, 3) := by decide +kernel
theorem d_Md_drop_32 : decode b_Md_drop 32 = .ok (.iload_n 1, 1) := by decide +kernel
theorem d_Md_drop_33 : decode b_Md_drop 33 = .ok (.iconst (-1), 1) := by decide +kernel
theorem d_Md_drop_34 : decode b_Md_drop 34 = .ok (.iastore, 1) := by decide +kernel
theorem d_Md_drop_35 : decode b_Md_drop 35 = .ok (.aload_n 0, 1) := by decide +kernel
theorem d_Md_drop_36 : decode b_Md_drop 36 = .ok (.getfield 31, 3) := by decide +kernel
theorem d_Md_drop_39 : decode b_Md_drop 39 = .ok (.iload_n 1, 1) := by decide +kernel
theorem d_Md_drop_40 : decode b_Md_drop 40 = .ok (.iaload, 1) := by decide +kernel
theorem d_Md_drop_41 : decode b_Md_drop 41 = .ok (.istore_n 1, 1) := by decide +kernel
theorem d_Md_drop_42 : decode b_Md_drop 42 = .ok (.goto (-26), 3) := by decide +kernel
theorem d_Md_drop_45 : decode b_Md_drop 45 = .ok (.aload_n 0, 1) := by decide +kernel
theorem d_Md_drop_46 : decode b_Md_drop 46 = .ok (.iconst (-1), 1) := by decide +kernel
theorem d_Md_drop_47 : decode b_Md_drop 47 = .ok (.putfield 90, 3) := by decide +kernel
theorem d_Md_drop_50 : decode b_Md_drop 50 = .ok (.aload_n 0, 1) := by decide +kernel
theorem d_Md_drop_51 : decode b_Md_drop 51 = .ok (.getfield 128, 3) := by decide +kernel
theorem d_Md_drop_54 : decode b_Md_drop 54 = .ok (.ireturn, 1) := by decide +kernel
theorem d_Md_told_0 : decode b_Md_told 0 = .ok (.aload_n 0, 1) := by decide +kernel
theorem d_Md_told_1 : decode b_Md_told 1 = .ok (.iload_n 1, 1) := by decide +kernel
theorem d_Md_told_2 : decode b_Md_told 2 = .ok (.invokevirtual 100, 3) := by decide +kernel
theorem d_Md_told_5 : decode b_Md_told 5 = .ok (.ifCond .eq 12, 3) := by decide +kernel
theorem d_Md_told_8 : decode b_Md_told 8 = .ok (.iload_n 2, 1) := by decide +kernel
theorem d_Md_told_9 : decode b_Md_told 9 = .ok (.iconst 0, 1) := by decide +kernel
theorem d_Md_told_10 : decode b_Md_told 10 = .ok (.iconst 4, 1) := by decide +kernel
theorem d_Md_told_11 : decode b_Md_told 11 = .ok (.invokestatic 96, 3) := by decide +kernel
theorem d_Md_told_14 : decode b_Md_told 14 = .ok (.ifCond .ne 6, 3) := by decide +kernel
theorem d_Md_told_17 : decode b_Md_told 17 = .ok (.bipush (-2), 2) := by decide +kernel
theorem d_Md_told_19 : decode b_Md_told 19 = .ok (.ireturn, 1) := by decide +kernel
theorem d_Md_told_20 : decode b_Md_told 20 = .ok (.iload_n 2, 1) := by decide +kernel
theorem d_Md_told_21 : decode b_Md_told 21 = .ok (.tableswitch 85 0 3 #[31, 38, 45, 78], 31) := by decide +kernel
theorem d_Md_told_52 : decode b_Md_told 52 = .ok (.aload_n 0, 1) := by decide +kernel
theorem d_Md_told_53 : decode b_Md_told 53 = .ok (.getfield 13, 3) := by decide +kernel
theorem d_Md_told_56 : decode b_Md_told 56 = .ok (.iload_n 1, 1) := by decide +kernel
theorem d_Md_told_57 : decode b_Md_told 57 = .ok (.iaload, 1) := by decide +kernel
theorem d_Md_told_58 : decode b_Md_told 58 = .ok (.ireturn, 1) := by decide +kernel
theorem d_Md_told_59 : decode b_Md_told 59 = .ok (.aload_n 0, 1) := by decide +kernel
theorem d_Md_told_60 : decode b_Md_told 60 = .ok (.getfield 16, 3) := by decide +kernel
theorem d_Md_told_63 : decode b_Md_told 63 = .ok (.iload_n 1, 1) := by decide +kernel
theorem d_Md_told_64 : decode b_Md_told 64 = .ok (.iaload, 1) := by decide +kernel
theorem d_Md_told_65 : decode b_Md_told 65 = .ok (.ireturn, 1) := by decide +kernel
theorem d_Md_told_66 : decode b_Md_told 66 = .ok (.iconst 0, 1) := by decide +kernel
theorem d_Md_told_67 : decode b_Md_told 67 = .ok (.istore_n 3, 1) := by decide +kernel
theorem d_Md_told_68 : decode b_Md_told 68 = .ok (.aload_n 0, 1) := by decide +kernel
theorem d_Md_told_69 : decode b_Md_told 69 = .ok (.getfield 25, 3) := by decide +kernel
theorem d_Md_told_72 : decode b_Md_told 72 = .ok (.iload_n 1, 1) := by decide +kernel
theorem d_Md_told_73 : decode b_Md_told 73 = .ok (.iaload, 1) := by decide +kernel
theorem d_Md_told_74 : decode b_Md_told 74 = .ok (.istore 4, 2) := by decide +kernel
theorem d_Md_told_76 : decode b_Md_told 76 = .ok (.iload 4, 2) := by decide +kernel
theorem d_Md_told_78 : decode b_Md_told 78 = .ok (.iconst (-1), 1) := by decide +kernel
theorem d_Md_told_79 : decode b_Md_told 79 = .ok (.if_icmp .eq 18, 3) := by decide +kernel
theorem d_Md_told_82 : decode b_Md_told 82 = .ok (.iinc 3 1, 3) := by decide +kernel
theorem d_Md_told_85 : decode b_Md_told 85 = .ok (.aload_n 0, 1) := by decide +kernel
theorem d_Md_told_86 : decode b_Md_told 86 = .ok (.getfield 31, 3) := by decide +kernel
theorem d_Md_told_89 : decode b_Md_told 89 = .ok (.iload 4, 2) := by decide +kernel
theorem d_Md_told_91 : decode b_Md_told 91 = .ok (.iaload, 1) := by decide +kernel
theorem d_Md_told_92 : decode b_Md_told 92 = .ok (.istore 4, 2) := by decide +kernel
theorem d_Md_told_94 : decode b_Md_told 94 = .ok (.goto (-18), 3) := by decide +kernel
theorem d_Md_told_97 : decode b_Md_told 97 = .ok (.iload_n 3, 1) := by decide +kernel
theorem d_Md_told_98 : decode b_Md_told 98 = .ok (.ireturn, 1) := by decide +kernel
theorem d_Md_told_99 : decode b_Md_told 99 = .ok (.aload_n 0, 1) := by decide +kernel
theorem d_Md_told_100 : decode b_Md_told 100 = .ok (.getfield 19, 3) := by decide +kernel
theorem d_Md_told_103 : decode b_Md_told 103 = .ok (.iload_n 1, 1) := by decide +kernel
theorem d_Md_told_104 : decode b_Md_told 104 = .ok (.iaload, 1) := by decide +kernel
theorem d_Md_told_105 : decode b_Md_told 105 = .ok (.ireturn, 1) := by decide +kernel
theorem d_Md_told_106 : decode b_Md_told 106 = .ok (.aload_n 0, 1) := by decide +kernel
theorem d_Md_told_107 : decode b_Md_told 107 = .ok (.getfield 22, 3) := by decide +kernel
theorem d_Md_told_110 : decode b_Md_told 110 = .ok (.iload_n 1, 1) := by decide +kernel
theorem d_Md_told_111 : decode b_Md_told 111 = .ok (.iaload, 1) := by decide +kernel
theorem d_Md_told_112 : decode b_Md_told 112 = .ok (.ireturn, 1) := by decide +kernel
theorem d_Md_part_0 : decode b_Md_part 0 = .ok (.aload_n 0, 1) := by decide +kernel
theorem d_Md_part_1 : decode b_Md_part 1 = .ok (.iload_n 1, 1) := by decide +kernel
theorem d_Md_part_2 : decode b_Md_part 2 = .ok (.invokevirtual 100, 3) := by decide +kernel
theorem d_Md_part_5 : decode b_Md_part 5 = .ok (.ifCond .eq 7, 3) := by decide +kernel
theorem d_Md_part_8 : decode b_Md_part 8 = .ok (.iload_n 2, 1) := by decide +kernel
theorem d_Md_part_9 : decode b_Md_part 9 = .ok (.ifCond .ge 6, 3) := by decide +kernel
theorem d_Md_part_12 : decode b_Md_part 12 = .ok (.bipush (-2), 2) := by decide +kernel
theorem d_Md_part_14 : decode b_Md_part 14 = .ok (.ireturn, 1) := by decide +kernel
theorem d_Md_part_15 : decode b_Md_part 15 = .ok (.aload_n 0, 1) := by decide +kernel
theorem d_Md_part_16 : decode b_Md_part 16 = .ok (.getfield 25, 3) := by decide +kernel
theorem d_Md_part_19 : decode b_Md_part 19 = .ok (.iload_n 1, 1) := by decide +kernel
theorem d_Md_part_20 : decode b_Md_part 20 = .ok (.iaload, 1) := by decide +kernel
theorem d_Md_part_21 : decode b_Md_part 21 = .ok (.istore_n 3, 1) := by decide +kernel
theorem d_Md_part_22 : decode b_Md_part 22 = .ok (.iconst 0, 1) := by decide +kernel
theorem d_Md_part_23 : decode b_Md_part 23 = .ok (.istore 4, 2) := by decide +kernel
theorem d_Md_part_25 : decode b_Md_part 25 = .ok (.iload 4, 2) := by decide +kernel
theorem d_Md_part_27 : decode b_Md_part 27 = .ok (.iload_n 2, 1) := by decide +kernel
theorem d_Md_part_28 : decode b_Md_part 28 = .ok (.if_icmp .ge 21, 3) := by decide +kernel
theorem d_Md_part_31 : decode b_Md_part 31 = .ok (.iload_n 3, 1) := by decide +kernel
theorem d_Md_part_32 : decode b_Md_part 32 = .ok (.iconst (-1), 1) := by decide +kernel
theorem d_Md_part_33 : decode b_Md_part 33 = .ok (.if_icmp .eq 16, 3) := by decide +kernel
theorem d_Md_part_36 : decode b_Md_part 36 = .ok (.aload_n 0, 1) := by decide +kernel
theorem d_Md_part_37 : decode b_Md_part 37 = .ok (.getfield 31, 3) := by decide +kernel
theorem d_Md_part_40 : decode b_Md_part 40 = .ok (.iload_n 3, 1) := by decide +kernel
