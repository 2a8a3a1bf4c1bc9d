theorem d_Md_part_41 : decode b_Md_part 41 = .ok (.iaload, 1) := by decide +kernel
theorem d_Md_part_42 : decode b_Md_part 42 = .ok (.istore_n 3, 1) := by decide +kernel
theorem d_Md_part_43 : decode b_Md_part 43 = .ok (.iinc 4 1, 3) := by decide +kernel
theorem d_Md_part_46 : decode b_Md_part 46 = .ok (.goto (-21), 3) := by decide +kernel
theorem d_Md_part_49 : decode b_Md_part 49 = .ok (.iload_n 3, 1) := by decide +kernel
theorem d_Md_part_50 : decode b_Md_part 50 = .ok (.iconst (-1), 1) := by decide +kernel
theorem d_Md_part_51 : decode b_Md_part 51 = .ok (.if_icmp .ne 8, 3) := by decide +kernel
theorem d_Md_part_54 : decode b_Md_part 54 = .ok (.bipush (-2), 2) := by decide +kernel
theorem d_Md_part_56 : decode b_Md_part 56 = .ok (.goto 4, 3) := by decide +kernel
theorem d_Md_part_59 : decode b_Md_part 59 = .ok (.iload_n 3, 1) := by decide +kernel
theorem d_Md_part_60 : decode b_Md_part 60 = .ok (.ireturn, 1) := by decide +kernel
theorem d_Md_of_0 : decode b_Md_of 0 = .ok (.iload_n 1, 1) := by decide +kernel
theorem d_Md_of_1 : decode b_Md_of 1 = .ok (.tableswitch 63 0 3 #[31, 36, 41, 58], 31) := by decide +kernel
theorem d_Md_of_32 : decode b_Md_of 32 = .ok (.aload_n 0, 1) := by decide +kernel
theorem d_Md_of_33 : decode b_Md_of 33 = .ok (.getfield 87, 3) := by decide +kernel
theorem d_Md_of_36 : decode b_Md_of 36 = .ok (.ireturn, 1) := by decide +kernel
theorem d_Md_of_37 : decode b_Md_of 37 = .ok (.aload_n 0, 1) := by decide +kernel
theorem d_Md_of_38 : decode b_Md_of 38 = .ok (.getfield 83, 3) := by decide +kernel
theorem d_Md_of_41 : decode b_Md_of 41 = .ok (.ireturn, 1) := by decide +kernel
theorem d_Md_of_42 : decode b_Md_of 42 = .ok (.aload_n 0, 1) := by decide +kernel
theorem d_Md_of_43 : decode b_Md_of 43 = .ok (.getfield 90, 3) := by decide +kernel
theorem d_Md_of_46 : decode b_Md_of 46 = .ok (.iconst (-1), 1) := by decide +kernel
theorem d_Md_of_47 : decode b_Md_of 47 = .ok (.if_icmp .ne 7, 3) := by decide +kernel
theorem d_Md_of_50 : decode b_Md_of 50 = .ok (.iconst (-1), 1) := by decide +kernel
theorem d_Md_of_51 : decode b_Md_of 51 = .ok (.goto 7, 3) := by decide +kernel
theorem d_Md_of_54 : decode b_Md_of 54 = .ok (.aload_n 0, 1) := by decide +kernel
theorem d_Md_of_55 : decode b_Md_of 55 = .ok (.getfield 128, 3) := by decide +kernel
theorem d_Md_of_58 : decode b_Md_of 58 = .ok (.ireturn, 1) := by decide +kernel
theorem d_Md_of_59 : decode b_Md_of 59 = .ok (.aload_n 0, 1) := by decide +kernel
theorem d_Md_of_60 : decode b_Md_of 60 = .ok (.getfield 93, 3) := by decide +kernel
theorem d_Md_of_63 : decode b_Md_of 63 = .ok (.ireturn, 1) := by decide +kernel
theorem d_Md_of_64 : decode b_Md_of 64 = .ok (.bipush (-2), 2) := by decide +kernel
theorem d_Md_of_66 : decode b_Md_of 66 = .ok (.ireturn, 1) := by decide +kernel
theorem d_Md_isAsked_0 : decode b_Md_isAsked 0 = .ok (.aload_n 0, 1) := by decide +kernel
theorem d_Md_isAsked_1 : decode b_Md_isAsked 1 = .ok (.getfield 93, 3) := by decide +kernel
theorem d_Md_isAsked_4 : decode b_Md_isAsked 4 = .ok (.iconst (-1), 1) := by decide +kernel
theorem d_Md_isAsked_5 : decode b_Md_isAsked 5 = .ok (.if_icmp .eq 24, 3) := by decide +kernel
theorem d_Md_isAsked_8 : decode b_Md_isAsked 8 = .ok (.aload_n 0, 1) := by decide +kernel
theorem d_Md_isAsked_9 : decode b_Md_isAsked 9 = .ok (.iload_n 1, 1) := by decide +kernel
theorem d_Md_isAsked_10 : decode b_Md_isAsked 10 = .ok (.invokevirtual 100, 3) := by decide +kernel
theorem d_Md_isAsked_13 : decode b_Md_isAsked 13 = .ok (.ifCond .eq 16, 3) := by decide +kernel
theorem d_Md_isAsked_16 : decode b_Md_isAsked 16 = .ok (.aload_n 0, 1) := by decide +kernel
theorem d_Md_isAsked_17 : decode b_Md_isAsked 17 = .ok (.getfield 50, 3) := by decide +kernel
theorem d_Md_isAsked_20 : decode b_Md_isAsked 20 = .ok (.iload_n 1, 1) := by decide +kernel
theorem d_Md_isAsked_21 : decode b_Md_isAsked 21 = .ok (.baload, 1) := by decide +kernel
theorem d_Md_isAsked_22 : decode b_Md_isAsked 22 = .ok (.ifCond .eq 7, 3) := by decide +kernel
theorem d_Md_isAsked_25 : decode b_Md_isAsked 25 = .ok (.iconst 1, 1) := by decide +kernel
theorem d_Md_isAsked_26 : decode b_Md_isAsked 26 = .ok (.goto 4, 3) := by decide +kernel
theorem d_Md_isAsked_29 : decode b_Md_isAsked 29 = .ok (.iconst 0, 1) := by decide +kernel
theorem d_Md_isAsked_30 : decode b_Md_isAsked 30 = .ok (.ireturn, 1) := by decide +kernel
theorem d_Md_up_0 : decode b_Md_up 0 = .ok (.iload_n 1, 1) := by decide +kernel
theorem d_Md_up_1 : decode b_Md_up 1 = .ok (.aload_n 0, 1) := by decide +kernel
theorem d_Md_up_2 : decode b_Md_up 2 = .ok (.getfield 93, 3) := by decide +kernel
theorem d_Md_up_5 : decode b_Md_up 5 = .ok (.if_icmp .ne 7, 3) := by decide +kernel
theorem d_Md_up_8 : decode b_Md_up 8 = .ok (.iconst (-1), 1) := by decide +kernel
theorem d_Md_up_9 : decode b_Md_up 9 = .ok (.goto 9, 3) := by decide +kernel
theorem d_Md_up_12 : decode b_Md_up 12 = .ok (.aload_n 0, 1) := by decide +kernel
theorem d_Md_up_13 : decode b_Md_up 13 = .ok (.getfield 19, 3) := by decide +kernel
theorem d_Md_up_16 : decode b_Md_up 16 = .ok (.iload_n 1, 1) := by decide +kernel
theorem d_Md_up_17 : decode b_Md_up 17 = .ok (.iaload, 1) := by decide +kernel
theorem d_Md_up_18 : decode b_Md_up 18 = .ok (.ireturn, 1) := by decide +kernel
theorem d_Md_isLoop_0 : decode b_Md_isLoop 0 = .ok (.aload_n 0, 1) := by decide +kernel
theorem d_Md_isLoop_1 : decode b_Md_isLoop 1 = .ok (.getfield 13, 3) := by decide +kernel
theorem d_Md_isLoop_4 : decode b_Md_isLoop 4 = .ok (.iload_n 1, 1) := by decide +kernel
theorem d_Md_isLoop_5 : decode b_Md_isLoop 5 = .ok (.iaload, 1) := by decide +kernel
theorem d_Md_isLoop_6 : decode b_Md_isLoop 6 = .ok (.iconst 5, 1) := by decide +kernel
theorem d_Md_isLoop_7 : decode b_Md_isLoop 7 = .ok (.bipush 8, 2) := by decide +kernel
theorem d_Md_isLoop_9 : decode b_Md_isLoop 9 = .ok (.invokestatic 96, 3) := by decide +kernel
theorem d_Md_isLoop_12 : decode b_Md_isLoop 12 = .ok (.ireturn, 1) := by decide +kernel
theorem d_Md_line_0 : decode b_Md_line 0 = .ok (.iconst 0, 1) := by decide +kernel
theorem d_Md_line_1 : decode b_Md_line 1 = .ok (.istore_n 1, 1) := by decide +kernel
theorem d_Md_line_2 : decode b_Md_line 2 = .ok (.iload_n 1, 1) := by decide +kernel
theorem d_Md_line_3 : decode b_Md_line 3 = .ok (.aload_n 0, 1) := by decide +kernel
theorem d_Md_line_4 : decode b_Md_line 4 = .ok (.getfield 87, 3) := by decide +kernel
theorem d_Md_line_7 : decode b_Md_line 7 = .ok (.if_icmp .ge 16, 3) := by decide +kernel
theorem d_Md_line_10 : decode b_Md_line 10 = .ok (.aload_n 0, 1) := by decide +kernel
theorem d_Md_line_11 : decode b_Md_line 11 = .ok (.getfield 50, 3) := by decide +kernel
theorem d_Md_line_14 : decode b_Md_line 14 = .ok (.iload_n 1, 1) := by decide +kernel
theorem d_Md_line_15 : decode b_Md_line 15 = .ok (.iconst 0, 1) := by decide +kernel
theorem d_Md_line_16 : decode b_Md_line 16 = .ok (.bastore, 1) := by decide +kernel
theorem d_Md_line_17 : decode b_Md_line 17 = .ok (.iinc 1 1, 3) := by decide +kernel
theorem d_Md_line_20 : decode b_Md_line 20 = .ok (.goto (-18), 3) := by decide +kernel
theorem d_Md_line_23 : decode b_Md_line 23 = .ok (.aload_n 0, 1) := by decide +kernel
theorem d_Md_line_24 : decode b_Md_line 24 = .ok (.iconst 0, 1) := by decide +kernel
theorem d_Md_line_25 : decode b_Md_line 25 = .ok (.putfield 142, 3) := by decide +kernel
theorem d_Md_line_28 : decode b_Md_line 28 = .ok (.aload_n 0, 1) := by decide +kernel
theorem d_Md_line_29 : decode b_Md_line 29 = .ok (.getfield 93, 3) := by decide +kernel
theorem d_Md_line_32 : decode b_Md_line 32 = .ok (.istore_n 1, 1) := by decide +kernel
theorem d_Md_line_33 : decode b_Md_line 33 = .ok (.iload_n 1, 1) := by decide +kernel
theorem d_Md_line_34 : decode b_Md_line 34 = .ok (.iconst (-1), 1) := by decide +kernel
theorem d_Md_line_35 : decode b_Md_line 35 = .ok (.if_icmp .eq 101, 3) := by decide +kernel
theorem d_Md_line_38 : decode b_Md_line 38 = .ok (.aload_n 0, 1) := by decide +kernel
theorem d_Md_line_39 : decode b_Md_line 39 = .ok (.getfield 47, 3) := by decide +kernel
theorem d_Md_line_42 : decode b_Md_line 42 = .ok (.aload_n 0, 1) := by decide +kernel
theorem d_Md_line_43 : decode b_Md_line 43 = .ok (.getfield 142, 3) := by decide +kernel
theorem d_Md_line_46 : decode b_Md_line 46 = .ok (.iload_n 1, 1) := by decide +kernel
theorem d_Md_line_47 : decode b_Md_line 47 = .ok (.iastore, 1) := by decide +kernel
theorem d_Md_line_48 : decode b_Md_line 48 = .ok (.aload_n 0, 1) := by decide +kernel
theorem d_Md_line_49 : decode b_Md_line 49 = .ok (.getfield 50, 3) := by decide +kernel
theorem d_Md_line_52 : decode b_Md_line 52 = .ok (.iload_n 1, 1) := by decide +kernel
theorem d_Md_line_53 : decode b_Md_line 53 = .ok (.iconst 1, 1) := by decide +kernel
theorem d_Md_line_54 : decode b_Md_line 54 = .ok (.bastore, 1) := by decide +kernel
theorem d_Md_line_55 : decode b_Md_line 55 = .ok (.aload_n 0, 1) := by decide +kernel
theorem d_Md_line_56 : decode b_Md_line 56 = .ok (.dup, 1) := by decide +kernel
theorem d_Md_line_57 : decode b_Md_line 57 = .ok (.getfield 142, 3) := by decide +kernel
theorem d_Md_line_60 : decode b_Md_line 60 = .ok (.iconst 1, 1) := by decide +kernel
theorem d_Md_line_61 : decode b_Md_line 61 = .ok (.iadd, 1) := by decide +kernel
theorem d_Md_line_62 : decode b_Md_line 62 = .ok (.putfield 142, 3) := by decide +kernel
theorem d_Md_line_65 : decode b_Md_line 65 = .ok (.aload_n 0, 1) := by decide +kernel
theorem d_Md_line_66 : decode b_Md_line 66 = .ok (.getfield 25, 3) := by decide +kernel
theorem d_Md_line_69 : decode b_Md_line 69 = .ok (.iload_n 1, 1) := by decide +kernel
theorem d_Md_line_70 : decode b_Md_line 70 = .ok (.iaload, 1) := by decide +kernel
theorem d_Md_line_71 : decode b_Md_line 71 = .ok (.iconst (-1), 1) := by decide +kernel
theorem d_Md_line_72 : decode b_Md_line 72 = .ok (.if_icmp .eq 13, 3) := by decide +kernel
theorem d_Md_line_75 : decode b_Md_line 75 = .ok (.aload_n 0, 1) := by decide +kernel
theorem d_Md_line_76 : decode b_Md_line 76 = .ok (.getfield 25, 3) := by decide +kernel
theorem d_Md_line_79 : decode b_Md_line 79 = .ok (.iload_n 1, 1) := by decide +kernel
theorem d_Md_line_80 : decode b_Md_line 80 = .ok (.iaload, 1) := by decide +kernel
theorem d_Md_line_81 : decode b_Md_line 81 = .ok (.istore_n 1, 1) := by decide +kernel
theorem d_Md_line_82 : decode b_Md_line 82 = .ok (.goto (-49), 3) := by decide +kernel
theorem d_Md_line_85 : decode b_Md_line 85 = .ok (.iload_n 1, 1) := by decide +kernel
theorem d_Md_line_86 : decode b_Md_line 86 = .ok (.iconst (-1), 1) := by decide +kernel
theorem d_Md_line_87 : decode b_Md_line 87 = .ok (.if_icmp .eq 30, 3) := by decide +kernel
theorem d_Md_line_90 : decode b_Md_line 90 = .ok (.iload_n 1, 1) := by decide +kernel
theorem d_Md_line_91 : decode b_Md_line 91 = .ok (.aload_n 0, 1) := by decide +kernel
theorem d_Md_line_92 : decode b_Md_line 92 = .ok (.getfield 93, 3) := by decide +kernel
theorem d_Md_line_95 : decode b_Md_line 95 = .ok (.if_icmp .eq 13, 3) := by decide +kernel
theorem d_Md_line_98 : decode b_Md_line 98 = .ok (.aload_n 0, 1) := by decide +kernel
theorem d_Md_line_99 : decode b_Md_line 99 = .ok (.getfield 31, 3) := by decide +kernel
theorem d_Md_line_102 : decode b_Md_line 102 = .ok (.iload_n 1, 1) := by decide +kernel
theorem d_Md_line_103 : decode b_Md_line 103 = .ok (.iaload, 1) := by decide +kernel
theorem d_Md_line_104 : decode b_Md_line 104 = .ok (.iconst (-1), 1) := by decide +kernel
theorem d_Md_line_105 : decode b_Md_line 105 = .ok (.if_icmp .ne 12, 3) := by decide +kernel
theorem d_Md_line_108 : decode b_Md_line 108 = .ok (.aload_n 0, 1) := by decide +kernel
theorem d_Md_line_109 : decode b_Md_line 109 = .ok (.iload_n 1, 1) := by decide +kernel
theorem d_Md_line_110 : decode b_Md_line 110 = .ok (.invokevirtual 145, 3) := by decide +kernel
theorem d_Md_line_113 : decode b_Md_line 113 = .ok (.istore_n 1, 1) := by decide +kernel
theorem d_Md_line_114 : decode b_Md_line 114 = .ok (.goto (-29), 3) := by decide +kernel
theorem d_Md_line_117 : decode b_Md_line 117 = .ok (.iload_n 1, 1) := by decide +kernel
theorem d_Md_line_118 : decode b_Md_line 118 = .ok (.iconst (-1), 1) := by decide +kernel
theorem d_Md_line_119 : decode b_Md_line 119 = .ok (.if_icmp .ne 7, 3) := by decide +kernel
theorem d_Md_line_122 : decode b_Md_line 122 = .ok (.iconst (-1), 1) := by decide +kernel
theorem d_Md_line_123 : decode b_Md_line 123 = .ok (.goto 9, 3) := by decide +kernel
theorem d_Md_line_126 : decode b_Md_line 126 = .ok (.aload_n 0, 1) := by decide +kernel
theorem d_Md_line_127 : decode b_Md_line 127 = .ok (.getfield 31, 3) := by decide +kernel
theorem d_Md_line_130 : decode b_Md_line 130 = .ok (.iload_n 1, 1) := by decide +kernel
theorem d_Md_line_131 : decode b_Md_line 131 = .ok (.iaload, 1) := by decide +kernel
theorem d_Md_line_132 : decode b_Md_line 132 = .ok (.istore_n 1, 1) := by decide +kernel
theorem d_Md_line_133 : decode b_Md_line 133 = .ok (.goto (-100), 3) := by decide +kernel
theorem d_Md_line_136 : decode b_Md_line 136 = .ok (.return_, 1) := by decide +kernel
theorem d_Md_targetOf_0 : decode b_Md_targetOf 0 = .ok (.aload_n 0, 1) := by decide +kernel
theorem d_Md_targetOf_1 : decode b_Md_targetOf 1 = .ok (.getfield 13, 3) := by decide +kernel
theorem d_Md_targetOf_4 : decode b_Md_targetOf 4 = .ok (.iload_n 1, 1) := by decide +kernel
theorem d_Md_targetOf_5 : decode b_Md_targetOf 5 = .ok (.iaload, 1) := by decide +kernel
theorem d_Md_targetOf_6 : decode b_Md_targetOf 6 = .ok (.bipush 10, 2) := by decide +kernel
theorem d_Md_targetOf_8 : decode b_Md_targetOf 8 = .ok (.if_icmp .ne 7, 3) := by decide +kernel
theorem d_Md_targetOf_11 : decode b_Md_targetOf 11 = .ok (.iconst 1, 1) := by decide +kernel
theorem d_Md_targetOf_12 : decode b_Md_targetOf 12 = .ok (.goto 4, 3) := by decide +kernel
theorem d_Md_targetOf_15 : decode b_Md_targetOf 15 = .ok (.iconst 0, 1) := by decide +kernel
theorem d_Md_targetOf_16 : decode b_Md_targetOf 16 = .ok (.istore_n 2, 1) := by decide +kernel
theorem d_Md_targetOf_17 : decode b_Md_targetOf 17 = .ok (.aload_n 0, 1) := by decide +kernel
theorem d_Md_targetOf_18 : decode b_Md_targetOf 18 = .ok (.iload_n 1, 1) := by decide +kernel
theorem d_Md_targetOf_19 : decode b_Md_targetOf 19 = .ok (.invokevirtual 145, 3) := by decide +kernel
theorem d_Md_targetOf_22 : decode b_Md_targetOf 22 = .ok (.istore_n 3, 1) := by decide +kernel
theorem d_Md_targetOf_23 : decode b_Md_targetOf 23 = .ok (.iload_n 3, 1) := by decide +kernel
theorem d_Md_targetOf_24 : decode b_Md_targetOf 24 = .ok (.iconst (-1), 1) := by decide +kernel
theorem d_Md_targetOf_25 : decode b_Md_targetOf 25 = .ok (.if_icmp .eq 116, 3) := by decide +kernel
theorem d_Md_targetOf_28 : decode b_Md_targetOf 28 = .ok (.aload_n 0, 1) := by decide +kernel
theorem d_Md_targetOf_29 : decode b_Md_targetOf 29 = .ok (.getfield 16, 3) := by decide +kernel
theorem d_Md_targetOf_32 : decode b_Md_targetOf 32 = .ok (.iload_n 1, 1) := by decide +kernel
theorem d_Md_targetOf_33 : decode b_Md_targetOf 33 = .ok (.iaload, 1) := by decide +kernel
theorem d_Md_targetOf_34 : decode b_Md_targetOf 34 = .ok (.iconst (-1), 1) := by decide +kernel
theorem d_Md_targetOf_35 : decode b_Md_targetOf 35 = .ok (.if_icmp .ne 39, 3) := by decide +kernel
theorem d_Md_targetOf_38 : decode b_Md_targetOf 38 = .ok (.aload_n 0, 1) := by decide +kernel
theorem d_Md_targetOf_39 : decode b_Md_targetOf 39 = .ok (.iload_n 3, 1) := by decide +kernel
theorem d_Md_targetOf_40 : decode b_Md_targetOf 40 = .ok (.invokevirtual 149, 3) := by decide +kernel
theorem d_Md_targetOf_43 : decode b_Md_targetOf 43 = .ok (.ifCond .ne 29, 3) := by decide +kernel
theorem d_Md_targetOf_46 : decode b_Md_targetOf 46 = .ok (.iload_n 2, 1) := by decide +kernel
theorem d_Md_targetOf_47 : decode b_Md_targetOf 47 = .ok (.ifCond .eq 85, 3) := by decide +kernel
theorem d_Md_targetOf_50 : decode b_Md_targetOf 50 = .ok (.aload_n 0, 1) := by decide +kernel
theorem d_Md_targetOf_51 : decode b_Md_targetOf 51 = .ok (.getfield 13, 3) := by decide +kernel
theorem d_Md_targetOf_54 : decode b_Md_targetOf 54 = .ok (.iload_n 3, 1) := by decide +kernel
theorem d_Md_targetOf_55 : decode b_Md_targetOf 55 = .ok (.iaload, 1) := by decide +kernel
theorem d_Md_targetOf_56 : decode b_Md_targetOf 56 = .ok (.bipush 14, 2) := by decide +kernel
theorem d_Md_targetOf_58 : decode b_Md_targetOf 58 = .ok (.if_icmp .eq 14, 3) := by decide +kernel
theorem d_Md_targetOf_61 : decode b_Md_targetOf 61 = .ok (.aload_n 0, 1) := by decide +kernel
theorem d_Md_targetOf_62 : decode b_Md_targetOf 62 = .ok (.getfield 13, 3) := by decide +kernel
theorem d_Md_targetOf_65 : decode b_Md_targetOf 65 = .ok (.iload_n 3, 1) := by decide +kernel
theorem d_Md_targetOf_66 : decode b_Md_targetOf 66 = .ok (.iaload, 1) := by decide +kernel
theorem d_Md_targetOf_67 : decode b_Md_targetOf 67 = .ok (.bipush 15, 2) := by decide +kernel
theorem d_Md_targetOf_69 : decode b_Md_targetOf 69 = .ok (.if_icmp .ne 63, 3) := by decide +kernel
theorem d_Md_targetOf_72 : decode b_Md_targetOf 72 = .ok (.iload_n 3, 1) := by decide +kernel
theorem d_Md_targetOf_73 : decode b_Md_targetOf 73 = .ok (.ireturn, 1) := by decide +kernel
theorem d_Md_targetOf_74 : decode b_Md_targetOf 74 = .ok (.aload_n 0, 1) := by decide +kernel
theorem d_Md_targetOf_75 : decode b_Md_targetOf 75 = .ok (.getfield 13, 3) := by decide +kernel
theorem d_Md_targetOf_78 : decode b_Md_targetOf 78 = .ok (.iload_n 3, 1) := by decide +kernel
theorem d_Md_targetOf_79 : decode b_Md_targetOf 79 = .ok (.iaload, 1) := by decide +kernel
theorem d_Md_targetOf_80 : decode b_Md_targetOf 80 = .ok (.bipush 12, 2) := by decide +kernel
theorem d_Md_targetOf_82 : decode b_Md_targetOf 82 = .ok (.if_icmp .ne 50, 3) := by decide +kernel
theorem d_Md_targetOf_85 : decode b_Md_targetOf 85 = .ok (.aload_n 0, 1) := by decide +kernel
theorem d_Md_targetOf_86 : decode b_Md_targetOf 86 = .ok (.getfield 16, 3) := by decide +kernel
theorem d_Md_targetOf_89 : decode b_Md_targetOf 89 = .ok (.iload_n 3, 1) := by decide +kernel
theorem d_Md_targetOf_90 : decode b_Md_targetOf 90 = .ok (.iaload, 1) := by decide +kernel
theorem d_Md_targetOf_91 : decode b_Md_targetOf 91 = .ok (.aload_n 0, 1) := by decide +kernel
theorem d_Md_targetOf_92 : decode b_Md_targetOf 92 = .ok (.getfield 16, 3) := by decide +kernel
theorem d_Md_targetOf_95 : decode b_Md_targetOf 95 = .ok (.iload_n 1, 1) := by decide +kernel
theorem d_Md_targetOf_96 : decode b_Md_targetOf 96 = .ok (.iaload, 1) := by decide +kernel
theorem d_Md_targetOf_97 : decode b_Md_targetOf 97 = .ok (.if_icmp .ne 35, 3) := by decide +kernel
theorem d_Md_targetOf_100 : decode b_Md_targetOf 100 = .ok (.iload_n 2, 1) := by decide +kernel
theorem d_Md_targetOf_101 : decode b_Md_targetOf 101 = .ok (.ifCond .eq 7, 3) := by decide +kernel
theorem d_Md_targetOf_104 : decode b_Md_targetOf 104 = .ok (.iload_n 3, 1) := by decide +kernel
theorem d_Md_targetOf_105 : decode b_Md_targetOf 105 = .ok (.goto 26, 3) := by decide +kernel
theorem d_Md_targetOf_108 : decode b_Md_targetOf 108 = .ok (.aload_n 0, 1) := by decide +kernel
theorem d_Md_targetOf_109 : decode b_Md_targetOf 109 = .ok (.aload_n 0, 1) := by decide +kernel
theorem d_Md_targetOf_110 : decode b_Md_targetOf 110 = .ok (.getfield 25, 3) := by decide +kernel
theorem d_Md_targetOf_113 : decode b_Md_targetOf 113 = .ok (.iload_n 3, 1) := by decide +kernel
theorem d_Md_targetOf_114 : decode b_Md_targetOf 114 = .ok (.iaload, 1) := by decide +kernel
theorem d_Md_targetOf_115 : decode b_Md_targetOf 115 = .ok (.invokevirtual 149, 3) := by decide +kernel
theorem d_Md_targetOf_118 : decode b_Md_targetOf 118 = .ok (.ifCond .eq 12, 3) := by decide +kernel
theorem d_Md_targetOf_121 : decode b_Md_targetOf 121 = .ok (.aload_n 0, 1) := by decide +kernel
theorem d_Md_targetOf_122 : decode b_Md_targetOf 122 = .ok (.getfield 25, 3) := by decide +kernel
theorem d_Md_targetOf_125 : decode b_Md_targetOf 125 = .ok (.iload_n 3, 1) := by decide +kernel
theorem d_Md_targetOf_126 : decode b_Md_targetOf 126 = .ok (.iaload, 1) := by decide +kernel
theorem d_Md_targetOf_127 : decode b_Md_targetOf 127 = .ok (.goto 4, 3) := by decide +kernel
theorem d_Md_targetOf_130 : decode b_Md_targetOf 130 = .ok (.iconst (-1), 1) := by decide +kernel
theorem d_Md_targetOf_131 : decode b_Md_targetOf 131 = .ok (.ireturn, 1) := by decide +kernel
theorem d_Md_targetOf_132 : decode b_Md_targetOf 132 = .ok (.aload_n 0, 1) := by decide +kernel
theorem d_Md_targetOf_133 : decode b_Md_targetOf 133 = .ok (.iload_n 3, 1) := by decide +kernel
theorem d_Md_targetOf_134 : decode b_Md_targetOf 134 = .ok (.invokevirtual 145, 3) := by decide +kernel
theorem d_Md_targetOf_137 : decode b_Md_targetOf 137 = .ok (.istore_n 3, 1) := by decide +kernel
theorem d_Md_targetOf_138 : decode b_Md_targetOf 138 = .ok (.goto (-115), 3) := by decide +kernel
theorem d_Md_targetOf_141 : decode b_Md_targetOf 141 = .ok (.iconst (-1), 1) := by decide +kernel
theorem d_Md_targetOf_142 : decode b_Md_targetOf 142 = .ok (.ireturn, 1) := by decide +kernel
theorem d_Md_isEnding_0 : decode b_Md_isEnding 0 = .ok (.iload_n 1, 1) := by decide +kernel
theorem d_Md_isEnding_1 : decode b_Md_isEnding 1 = .ok (.aload_n 0, 1) := by decide +kernel
theorem d_Md_isEnding_2 : decode b_Md_isEnding 2 = .ok (.getfield 93, 3) := by decide +kernel
theorem d_Md_isEnding_5 : decode b_Md_isEnding 5 = .ok (.if_icmp .eq 47, 3) := by decide +kernel
theorem d_Md_isEnding_8 : decode b_Md_isEnding 8 = .ok (.aload_n 0, 1) := by decide +kernel
theorem d_Md_isEnding_9 : decode b_Md_isEnding 9 = .ok (.getfield 13, 3) := by decide +kernel
theorem d_Md_isEnding_12 : decode b_Md_isEnding 12 = .ok (.aload_n 0, 1) := by decide +kernel
theorem d_Md_isEnding_13 : decode b_Md_isEnding 13 = .ok (.getfield 19, 3) := by decide +kernel
theorem d_Md_isEnding_16 : decode b_Md_isEnding 16 = .ok (.iload_n 1, 1) := by decide +kernel
theorem d_Md_isEnding_17 : decode b_Md_isEnding 17 = .ok (.iaload, 1) := by decide +kernel
theorem d_Md_isEnding_18 : decode b_Md_isEnding 18 = .ok (.iaload, 1) := by decide +kernel
theorem d_Md_isEnding_19 : decode b_Md_isEnding 19 = .ok (.bipush 16, 2) := by decide +kernel
theorem d_Md_isEnding_21 : decode b_Md_isEnding 21 = .ok (.if_icmp .ne 31, 3) := by decide +kernel
theorem d_Md_isEnding_24 : decode b_Md_isEnding 24 = .ok (.aload_n 0, 1) := by decide +kernel
theorem d_Md_isEnding_25 : decode b_Md_isEnding 25 = .ok (.getfield 37, 3) := by decide +kernel
theorem d_Md_isEnding_28 : decode b_Md_isEnding 28 = .ok (.aload_n 0, 1) := by decide +kernel
theorem d_Md_isEnding_29 : decode b_Md_isEnding 29 = .ok (.getfield 19, 3) := by decide +kernel
theorem d_Md_isEnding_32 : decode b_Md_isEnding 32 = .ok (.iload_n 1, 1) := by decide +kernel
theorem d_Md_isEnding_33 : decode b_Md_isEnding 33 = .ok (.iaload, 1) := by decide +kernel
theorem d_Md_isEnding_34 : decode b_Md_isEnding 34 = .ok (.baload, 1) := by decide +kernel
theorem d_Md_isEnding_35 : decode b_Md_isEnding 35 = .ok (.ifCond .eq 17, 3) := by decide +kernel
theorem d_Md_isEnding_38 : decode b_Md_isEnding 38 = .ok (.aload_n 0, 1) := by decide +kernel
theorem d_Md_isEnding_39 : decode b_Md_isEnding 39 = .ok (.getfield 31, 3) := by decide +kernel
theorem d_Md_isEnding_42 : decode b_Md_isEnding 42 = .ok (.iload_n 1, 1) := by decide +kernel
theorem d_Md_isEnding_43 : decode b_Md_isEnding 43 = .ok (.iaload, 1) := by decide +kernel
theorem d_Md_isEnding_44 : decode b_Md_isEnding 44 = .ok (.iconst (-1), 1) := by decide +kernel
theorem d_Md_isEnding_45 : decode b_Md_isEnding 45 = .ok (.if_icmp .ne 7, 3) := by decide +kernel
theorem d_Md_isEnding_48 : decode b_Md_isEnding 48 = .ok (.iconst 1, 1) := by decide +kernel
theorem d_Md_isEnding_49 : decode b_Md_isEnding 49 = .ok (.goto 4, 3) := by decide +kernel
theorem d_Md_isEnding_52 : decode b_Md_isEnding 52 = .ok (.iconst 0, 1) := by decide +kernel
theorem d_Md_isEnding_53 : decode b_Md_isEnding 53 = .ok (.ireturn, 1) := by decide +kernel
theorem d_Md_isCatch_0 : decode b_Md_isCatch 0 = .ok (.iload_n 1, 1) := by decide +kernel
theorem d_Md_isCatch_1 : decode b_Md_isCatch 1 = .ok (.aload_n 0, 1) := by decide +kernel
theorem d_Md_isCatch_2 : decode b_Md_isCatch 2 = .ok (.getfield 93, 3) := by decide +kernel
theorem d_Md_isCatch_5 : decode b_Md_isCatch 5 = .ok (.if_icmp .eq 41, 3) := by decide +kernel
theorem d_Md_isCatch_8 : decode b_Md_isCatch 8 = .ok (.aload_n 0, 1) := by decide +kernel
theorem d_Md_isCatch_9 : decode b_Md_isCatch 9 = .ok (.getfield 13, 3) := by decide +kernel
theorem d_Md_isCatch_12 : decode b_Md_isCatch 12 = .ok (.aload_n 0, 1) := by decide +kernel
theorem d_Md_isCatch_13 : decode b_Md_isCatch 13 = .ok (.getfield 19, 3) := by decide +kernel
theorem d_Md_isCatch_16 : decode b_Md_isCatch 16 = .ok (.iload_n 1, 1) := by decide +kernel
theorem d_Md_isCatch_17 : decode b_Md_isCatch 17 = .ok (.iaload, 1) := by decide +kernel
theorem d_Md_isCatch_18 : decode b_Md_isCatch 18 = .ok (.iaload, 1) := by decide +kernel
theorem d_Md_isCatch_19 : decode b_Md_isCatch 19 = .ok (.bipush 16, 2) := by decide +kernel
theorem d_Md_isCatch_21 : decode b_Md_isCatch 21 = .ok (.if_icmp .ne 25, 3) := by decide +kernel
theorem d_Md_isCatch_24 : decode b_Md_isCatch 24 = .ok (.aload_n 0, 1) := by decide +kernel
theorem d_Md_isCatch_25 : decode b_Md_isCatch 25 = .ok (.getfield 34, 3) := by decide +kernel
theorem d_Md_isCatch_28 : decode b_Md_isCatch 28 = .ok (.iload_n 1, 1) := by decide +kernel
theorem d_Md_isCatch_29 : decode b_Md_isCatch 29 = .ok (.iaload, 1) := by decide +kernel
theorem d_Md_isCatch_30 : decode b_Md_isCatch 30 = .ok (.iconst (-1), 1) := by decide +kernel
theorem d_Md_isCatch_31 : decode b_Md_isCatch 31 = .ok (.if_icmp .eq 15, 3) := by decide +kernel
theorem d_Md_isCatch_34 : decode b_Md_isCatch 34 = .ok (.aload_n 0, 1) := by decide +kernel
theorem d_Md_isCatch_35 : decode b_Md_isCatch 35 = .ok (.iload_n 1, 1) := by decide +kernel
theorem d_Md_isCatch_36 : decode b_Md_isCatch 36 = .ok (.invokevirtual 152, 3) := by decide +kernel
theorem d_Md_isCatch_39 : decode b_Md_isCatch 39 = .ok (.ifCond .ne 7, 3) := by decide +kernel
theorem d_Md_isCatch_42 : decode b_Md_isCatch 42 = .ok (.iconst 1, 1) := by decide +kernel
theorem d_Md_isCatch_43 : decode b_Md_isCatch 43 = .ok (.goto 4, 3) := by decide +kernel
theorem d_Md_isCatch_46 : decode b_Md_isCatch 46 = .ok (.iconst 0, 1) := by decide +kernel
theorem d_Md_isCatch_47 : decode b_Md_isCatch 47 = .ok (.ireturn, 1) := by decide +kernel
theorem d_Md_exits_0 : decode b_Md_exits 0 = .ok (.aload_n 0, 1) := by decide +kernel
theorem d_Md_exits_1 : decode b_Md_exits 1 = .ok (.getfield 56, 3) := by decide +kernel
theorem d_Md_exits_4 : decode b_Md_exits 4 = .ok (.iload_n 1, 1) := by decide +kernel
theorem d_Md_exits_5 : decode b_Md_exits 5 = .ok (.baload, 1) := by decide +kernel
theorem d_Md_exits_6 : decode b_Md_exits 6 = .ok (.ifCond .eq 17, 3) := by decide +kernel
theorem d_Md_exits_9 : decode b_Md_exits 9 = .ok (.aload_n 0, 1) := by decide +kernel
theorem d_Md_exits_10 : decode b_Md_exits 10 = .ok (.getfield 53, 3) := by decide +kernel
theorem d_Md_exits_13 : decode b_Md_exits 13 = .ok (.iload_n 1, 1) := by decide +kernel
theorem d_Md_exits_14 : decode b_Md_exits 14 = .ok (.iaload, 1) := by decide +kernel
theorem d_Md_exits_15 : decode b_Md_exits 15 = .ok (.iconst (-1), 1) := by decide +kernel
theorem d_Md_exits_16 : decode b_Md_exits 16 = .ok (.if_icmp .eq 7, 3) := by decide +kernel
theorem d_Md_exits_19 : decode b_Md_exits 19 = .ok (.iconst 1, 1) := by decide +kernel
theorem d_Md_exits_20 : decode b_Md_exits 20 = .ok (.goto 4, 3) := by decide +kernel
theorem d_Md_exits_23 : decode b_Md_exits 23 = .ok (.iconst 0, 1) := by decide +kernel
theorem d_Md_exits_24 : decode b_Md_exits 24 = .ok (.istore_n 2, 1) := by decide +kernel
theorem d_Md_exits_25 : decode b_Md_exits 25 = .ok (.iload_n 1, 1) := by decide +kernel
theorem d_Md_exits_26 : decode b_Md_exits 26 = .ok (.istore_n 3, 1) := by decide +kernel
theorem d_Md_exits_27 : decode b_Md_exits 27 = .ok (.iload_n 2, 1) := by decide +kernel
theorem d_Md_exits_28 : decode b_Md_exits 28 = .ok (.ifCond .eq 83, 3) := by decide +kernel
theorem d_Md_exits_31 : decode b_Md_exits 31 = .ok (.iload_n 3, 1) := by decide +kernel
theorem d_Md_exits_32 : decode b_Md_exits 32 = .ok (.aload_n 0, 1) := by decide +kernel
theorem d_Md_exits_33 : decode b_Md_exits 33 = .ok (.getfield 53, 3) := by decide +kernel
theorem d_Md_exits_36 : decode b_Md_exits 36 = .ok (.iload_n 1, 1) := by decide +kernel
theorem d_Md_exits_37 : decode b_Md_exits 37 = .ok (.iaload, 1) := by decide +kernel
theorem d_Md_exits_38 : decode b_Md_exits 38 = .ok (.if_icmp .eq 73, 3) := by decide +kernel
theorem d_Md_exits_41 : decode b_Md_exits 41 = .ok (.aload_n 0, 1) := by decide +kernel
theorem d_Md_exits_42 : decode b_Md_exits 42 = .ok (.iload_n 3, 1) := by decide +kernel
theorem d_Md_exits_43 : decode b_Md_exits 43 = .ok (.invokevirtual 145, 3) := by decide +kernel
theorem d_Md_exits_46 : decode b_Md_exits 46 = .ok (.istore 4, 2) := by decide +kernel
theorem d_Md_exits_48 : decode b_Md_exits 48 = .ok (.iload 4, 2) := by decide +kernel
theorem d_Md_exits_50 : decode b_Md_exits 50 = .ok (.aload_n 0, 1) := by decide +kernel
theorem d_Md_exits_51 : decode b_Md_exits 51 = .ok (.getfield 53, 3) := by decide +kernel
theorem d_Md_exits_54 : decode b_Md_exits 54 = .ok (.iload_n 1, 1) := by decide +kernel
theorem d_Md_exits_55 : decode b_Md_exits 55 = .ok (.iaload, 1) := by decide +kernel
theorem d_Md_exits_56 : decode b_Md_exits 56 = .ok (.if_icmp .eq 46, 3) := by decide +kernel
theorem d_Md_exits_59 : decode b_Md_exits 59 = .ok (.aload_n 0, 1) := by decide +kernel
theorem d_Md_exits_60 : decode b_Md_exits 60 = .ok (.getfield 13, 3) := by decide +kernel
theorem d_Md_exits_63 : decode b_Md_exits 63 = .ok (.iload 4, 2) := by decide +kernel
theorem d_Md_exits_65 : decode b_Md_exits 65 = .ok (.iaload, 1) := by decide +kernel
theorem d_Md_exits_66 : decode b_Md_exits 66 = .ok (.bipush 16, 2) := by decide +kernel
theorem d_Md_exits_68 : decode b_Md_exits 68 = .ok (.if_icmp .ne 34, 3) := by decide +kernel
theorem d_Md_exits_71 : decode b_Md_exits 71 = .ok (.aload_n 0, 1) := by decide +kernel
theorem d_Md_exits_72 : decode b_Md_exits 72 = .ok (.getfield 37, 3) := by decide +kernel
theorem d_Md_exits_75 : decode b_Md_exits 75 = .ok (.iload 4, 2) := by decide +kernel
theorem d_Md_exits_77 : decode b_Md_exits 77 = .ok (.baload, 1) := by decide +kernel
theorem d_Md_exits_78 : decode b_Md_exits 78 = .ok (.ifCond .eq 24, 3) := by decide +kernel
theorem d_Md_exits_81 : decode b_Md_exits 81 = .ok (.aload_n 0, 1) := by decide +kernel
theorem d_Md_exits_82 : decode b_Md_exits 82 = .ok (.iload_n 3, 1) := by decide +kernel
theorem d_Md_exits_83 : decode b_Md_exits 83 = .ok (.invokevirtual 152, 3) := by decide +kernel
theorem d_Md_exits_86 : decode b_Md_exits 86 = .ok (.ifCond .ne 16, 3) := by decide +kernel
theorem d_Md_exits_89 : decode b_Md_exits 89 = .ok (.aload_n 0, 1) := by decide +kernel
theorem d_Md_exits_90 : decode b_Md_exits 90 = .ok (.getfield 59, 3) := by decide +kernel
theorem d_Md_exits_93 : decode b_Md_exits 93 = .ok (.aload_n 0, 1) := by decide +kernel
theorem d_Md_exits_94 : decode b_Md_exits 94 = .ok (.getfield 28, 3) := by decide +kernel
theorem d_Md_exits_97 : decode b_Md_exits 97 = .ok (.iload 4, 2) := by decide +kernel
theorem d_Md_exits_99 : decode b_Md_exits 99 = .ok (.iaload, 1) := by decide +kernel
theorem d_Md_exits_100 : decode b_Md_exits 100 = .ok (.baload, 1) := by decide +kernel
theorem d_Md_exits_101 : decode b_Md_exits 101 = .ok (.istore_n 2, 1) := by decide +kernel
theorem d_Md_exits_102 : decode b_Md_exits 102 = .ok (.aload_n 0, 1) := by decide +kernel
theorem d_Md_exits_103 : decode b_Md_exits 103 = .ok (.iload_n 3, 1) := by decide +kernel
theorem d_Md_exits_104 : decode b_Md_exits 104 = .ok (.invokevirtual 145, 3) := by decide +kernel
theorem d_Md_exits_107 : decode b_Md_exits 107 = .ok (.istore_n 3, 1) := by decide +kernel
theorem d_Md_exits_108 : decode b_Md_exits 108 = .ok (.goto (-81), 3) := by decide +kernel
theorem d_Md_exits_111 : decode b_Md_exits 111 = .ok (.iload_n 2, 1) := by decide +kernel
theorem d_Md_exits_112 : decode b_Md_exits 112 = .ok (.ireturn, 1) := by decide +kernel
theorem d_Md_isExit_0 : decode b_Md_isExit 0 = .ok (.iconst 0, 1) := by decide +kernel
theorem d_Md_isExit_1 : decode b_Md_isExit 1 = .ok (.istore_n 3, 1) := by decide +kernel
theorem d_Md_isExit_2 : decode b_Md_isExit 2 = .ok (.iconst 0, 1) := by decide +kernel
theorem d_Md_isExit_3 : decode b_Md_isExit 3 = .ok (.istore 4, 2) := by decide +kernel
theorem d_Md_isExit_5 : decode b_Md_isExit 5 = .ok (.iload 4, 2) := by decide +kernel
theorem d_Md_isExit_7 : decode b_Md_isExit 7 = .ok (.aload_n 0, 1) := by decide +kernel
theorem d_Md_isExit_8 : decode b_Md_isExit 8 = .ok (.getfield 142, 3) := by decide +kernel
theorem d_Md_isExit_11 : decode b_Md_isExit 11 = .ok (.if_icmp .ge 59, 3) := by decide +kernel
theorem d_Md_isExit_14 : decode b_Md_isExit 14 = .ok (.iload_n 3, 1) := by decide +kernel
theorem d_Md_isExit_15 : decode b_Md_isExit 15 = .ok (.ifCond .ne 55, 3) := by decide +kernel
theorem d_Md_isExit_18 : decode b_Md_isExit 18 = .ok (.aload_n 0, 1) := by decide +kernel
theorem d_Md_isExit_19 : decode b_Md_isExit 19 = .ok (.getfield 47, 3) := by decide +kernel
theorem d_Md_isExit_22 : decode b_Md_isExit 22 = .ok (.iload 4, 2) := by decide +kernel
theorem d_Md_isExit_24 : decode b_Md_isExit 24 = .ok (.iaload, 1) := by decide +kernel
theorem d_Md_isExit_25 : decode b_Md_isExit 25 = .ok (.istore 5, 2) := by decide +kernel
theorem d_Md_isExit_27 : decode b_Md_isExit 27 = .ok (.aload_n 0, 1) := by decide +kernel
theorem d_Md_isExit_28 : decode b_Md_isExit 28 = .ok (.getfield 13, 3) := by decide +kernel
theorem d_Md_isExit_31 : decode b_Md_isExit 31 = .ok (.iload 5, 2) := by decide +kernel
theorem d_Md_isExit_33 : decode b_Md_isExit 33 = .ok (.iaload, 1) := by decide +kernel
theorem d_Md_isExit_34 : decode b_Md_isExit 34 = .ok (.iload_n 2, 1) := by decide +kernel
theorem d_Md_isExit_35 : decode b_Md_isExit 35 = .ok (.if_icmp .ne 27, 3) := by decide +kernel
theorem d_Md_isExit_38 : decode b_Md_isExit 38 = .ok (.aload_n 0, 1) := by decide +kernel
theorem d_Md_isExit_39 : decode b_Md_isExit 39 = .ok (.getfield 53, 3) := by decide +kernel
theorem d_Md_isExit_42 : decode b_Md_isExit 42 = .ok (.iload 5, 2) := by decide +kernel
theorem d_Md_isExit_44 : decode b_Md_isExit 44 = .ok (.iaload, 1) := by decide +kernel
theorem d_Md_isExit_45 : decode b_Md_isExit 45 = .ok (.iload_n 1, 1) := by decide +kernel
theorem d_Md_isExit_46 : decode b_Md_isExit 46 = .ok (.if_icmp .ne 16, 3) := by decide +kernel
theorem d_Md_isExit_49 : decode b_Md_isExit 49 = .ok (.aload_n 0, 1) := by decide +kernel
theorem d_Md_isExit_50 : decode b_Md_isExit 50 = .ok (.iload 5, 2) := by decide +kernel
theorem d_Md_isExit_52 : decode b_Md_isExit 52 = .ok (.invokevirtual 155, 3) := by decide +kernel
theorem d_Md_isExit_55 : decode b_Md_isExit 55 = .ok (.ifCond .eq 7, 3) := by decide +kernel
theorem d_Md_isExit_58 : decode b_Md_isExit 58 = .ok (.iconst 1, 1) := by decide +kernel
theorem d_Md_isExit_59 : decode b_Md_isExit 59 = .ok (.goto 4, 3) := by decide +kernel
theorem d_Md_isExit_62 : decode b_Md_isExit 62 = .ok (.iconst 0, 1) := by decide +kernel
theorem d_Md_isExit_63 : decode b_Md_isExit 63 = .ok (.istore_n 3, 1) := by decide +kernel
theorem d_Md_isExit_64 : decode b_Md_isExit 64 = .ok (.iinc 4 1, 3) := by decide +kernel
theorem d_Md_isExit_67 : decode b_Md_isExit 67 = .ok (.goto (-62), 3) := by decide +kernel
theorem d_Md_isExit_70 : decode b_Md_isExit 70 = .ok (.iload_n 3, 1) := by decide +kernel
theorem d_Md_isExit_71 : decode b_Md_isExit 71 = .ok (.ireturn, 1) := by decide +kernel
theorem d_Md_mustReach_0 : decode b_Md_mustReach 0 = .ok (.iload_n 1, 1) := by decide +kernel
theorem d_Md_mustReach_1 : decode b_Md_mustReach 1 = .ok (.aload_n 0, 1) := by decide +kernel
theorem d_Md_mustReach_2 : decode b_Md_mustReach 2 = .ok (.getfield 93, 3) := by decide +kernel
theorem d_Md_mustReach_5 : decode b_Md_mustReach 5 = .ok (.if_icmp .ne 5, 3) := by decide +kernel
theorem d_Md_mustReach_8 : decode b_Md_mustReach 8 = .ok (.iconst 1, 1) := by decide +kernel
theorem d_Md_mustReach_9 : decode b_Md_mustReach 9 = .ok (.ireturn, 1) := by decide +kernel
theorem d_Md_mustReach_10 : decode b_Md_mustReach 10 = .ok (.aload_n 0, 1) := by decide +kernel
theorem d_Md_mustReach_11 : decode b_Md_mustReach 11 = .ok (.getfield 19, 3) := by decide +kernel
theorem d_Md_mustReach_14 : decode b_Md_mustReach 14 = .ok (.iload_n 1, 1) := by decide +kernel
theorem d_Md_mustReach_15 : decode b_Md_mustReach 15 = .ok (.iaload, 1) := by decide +kernel
theorem d_Md_mustReach_16 : decode b_Md_mustReach 16 = .ok (.istore_n 2, 1) := by decide +kernel
theorem d_Md_mustReach_17 : decode b_Md_mustReach 17 = .ok (.aload_n 0, 1) := by decide +kernel
theorem d_Md_mustReach_18 : decode b_Md_mustReach 18 = .ok (.getfield 56, 3) := by decide +kernel
theorem d_Md_mustReach_21 : decode b_Md_mustReach 21 = .ok (.iload_n 2, 1) := by decide +kernel
theorem d_Md_mustReach_22 : decode b_Md_mustReach 22 = .ok (.baload, 1) := by decide +kernel
theorem d_Md_mustReach_23 : decode b_Md_mustReach 23 = .ok (.ifCond .ne 5, 3) := by decide +kernel
theorem d_Md_mustReach_26 : decode b_Md_mustReach 26 = .ok (.iconst 0, 1) := by decide +kernel
theorem d_Md_mustReach_27 : decode b_Md_mustReach 27 = .ok (.ireturn, 1) := by decide +kernel
theorem d_Md_mustReach_28 : decode b_Md_mustReach 28 = .ok (.aload_n 0, 1) := by decide +kernel
theorem d_Md_mustReach_29 : decode b_Md_mustReach 29 = .ok (.getfield 13, 3) := by decide +kernel
theorem d_Md_mustReach_32 : decode b_Md_mustReach 32 = .ok (.iload_n 2, 1) := by decide +kernel
theorem d_Md_mustReach_33 : decode b_Md_mustReach 33 = .ok (.iaload, 1) := by decide +kernel
theorem d_Md_mustReach_34 : decode b_Md_mustReach 34 = .ok (.tableswitch 159 5 16 #[62, 159, 62, 159, 159, 159, 159, 159, 77, 107, 159, 136], 62) := by decide +kernel
theorem d_Md_mustReach_96 : decode b_Md_mustReach 96 = .ok (.aload_n 0, 1) := by decide +kernel
theorem d_Md_mustReach_97 : decode b_Md_mustReach 97 = .ok (.getfield 16, 3) := by decide +kernel
theorem d_Md_mustReach_100 : decode b_Md_mustReach 100 = .ok (.iload_n 2, 1) := by decide +kernel
theorem d_Md_mustReach_101 : decode b_Md_mustReach 101 = .ok (.iaload, 1) := by decide +kernel
theorem d_Md_mustReach_102 : decode b_Md_mustReach 102 = .ok (.ifCond .eq 7, 3) := by decide +kernel
theorem d_Md_mustReach_105 : decode b_Md_mustReach 105 = .ok (.iconst 1, 1) := by decide +kernel
theorem d_Md_mustReach_106 : decode b_Md_mustReach 106 = .ok (.goto 4, 3) := by decide +kernel
theorem d_Md_mustReach_109 : decode b_Md_mustReach 109 = .ok (.iconst 0, 1) := by decide +kernel
theorem d_Md_mustReach_110 : decode b_Md_mustReach 110 = .ok (.ireturn, 1) := by decide +kernel
theorem d_Md_mustReach_111 : decode b_Md_mustReach 111 = .ok (.aload_n 0, 1) := by decide +kernel
theorem d_Md_mustReach_112 : decode b_Md_mustReach 112 = .ok (.getfield 34, 3) := by decide +kernel
theorem d_Md_mustReach_115 : decode b_Md_mustReach 115 = .ok (.iload_n 1, 1) := by decide +kernel
theorem d_Md_mustReach_116 : decode b_Md_mustReach 116 = .ok (.iaload, 1) := by decide +kernel
theorem d_Md_mustReach_117 : decode b_Md_mustReach 117 = .ok (.iconst (-1), 1) := by decide +kernel
theorem d_Md_mustReach_118 : decode b_Md_mustReach 118 = .ok (.if_icmp .eq 17, 3) := by decide +kernel
theorem d_Md_mustReach_121 : decode b_Md_mustReach 121 = .ok (.aload_n 0, 1) := by decide +kernel
theorem d_Md_mustReach_122 : decode b_Md_mustReach 122 = .ok (.getfield 59, 3) := by decide +kernel
theorem d_Md_mustReach_125 : decode b_Md_mustReach 125 = .ok (.aload_n 0, 1) := by decide +kernel
theorem d_Md_mustReach_126 : decode b_Md_mustReach 126 = .ok (.getfield 34, 3) := by decide +kernel
theorem d_Md_mustReach_129 : decode b_Md_mustReach 129 = .ok (.iload_n 1, 1) := by decide +kernel
theorem d_Md_mustReach_130 : decode b_Md_mustReach 130 = .ok (.iaload, 1) := by decide +kernel
theorem d_Md_mustReach_131 : decode b_Md_mustReach 131 = .ok (.baload, 1) := by decide +kernel
theorem d_Md_mustReach_132 : decode b_Md_mustReach 132 = .ok (.ifCond .eq 7, 3) := by decide +kernel
theorem d_Md_mustReach_135 : decode b_Md_mustReach 135 = .ok (.iconst 1, 1) := by decide +kernel
theorem d_Md_mustReach_136 : decode b_Md_mustReach 136 = .ok (.goto 4, 3) := by decide +kernel
theorem d_Md_mustReach_139 : decode b_Md_mustReach 139 = .ok (.iconst 0, 1) := by decide +kernel
theorem d_Md_mustReach_140 : decode b_Md_mustReach 140 = .ok (.ireturn, 1) := by decide +kernel
theorem d_Md_mustReach_141 : decode b_Md_mustReach 141 = .ok (.aload_n 0, 1) := by decide +kernel
theorem d_Md_mustReach_142 : decode b_Md_mustReach 142 = .ok (.getfield 22, 3) := by decide +kernel
theorem d_Md_mustReach_145 : decode b_Md_mustReach 145 = .ok (.iload_n 1, 1) := by decide +kernel
theorem d_Md_mustReach_146 : decode b_Md_mustReach 146 = .ok (.iaload, 1) := by decide +kernel
theorem d_Md_mustReach_147 : decode b_Md_mustReach 147 = .ok (.ifCond .gt 17, 3) := by decide +kernel
theorem d_Md_mustReach_150 : decode b_Md_mustReach 150 = .ok (.aload_n 0, 1) := by decide +kernel
theorem d_Md_mustReach_151 : decode b_Md_mustReach 151 = .ok (.getfield 59, 3) := by decide +kernel
theorem d_Md_mustReach_154 : decode b_Md_mustReach 154 = .ok (.aload_n 0, 1) := by decide +kernel
theorem d_Md_mustReach_155 : decode b_Md_mustReach 155 = .ok (.getfield 34, 3) := by decide +kernel
theorem d_Md_mustReach_158 : decode b_Md_mustReach 158 = .ok (.iload_n 1, 1) := by decide +kernel
theorem d_Md_mustReach_159 : decode b_Md_mustReach 159 = .ok (.iaload, 1) := by decide +kernel
theorem d_Md_mustReach_160 : decode b_Md_mustReach 160 = .ok (.baload, 1) := by decide +kernel
theorem d_Md_mustReach_161 : decode b_Md_mustReach 161 = .ok (.ifCond .eq 7, 3) := by decide +kernel
theorem d_Md_mustReach_164 : decode b_Md_mustReach 164 = .ok (.iconst 1, 1) := by decide +kernel
theorem d_Md_mustReach_165 : decode b_Md_mustReach 165 = .ok (.goto 4, 3) := by decide +kernel
theorem d_Md_mustReach_168 : decode b_Md_mustReach 168 = .ok (.iconst 0, 1) := by decide +kernel
theorem d_Md_mustReach_169 : decode b_Md_mustReach 169 = .ok (.ireturn, 1) := by decide +kernel
theorem d_Md_mustReach_170 : decode b_Md_mustReach 170 = .ok (.aload_n 0, 1) := by decide +kernel
theorem d_Md_mustReach_171 : decode b_Md_mustReach 171 = .ok (.iload_n 1, 1) := by decide +kernel
theorem d_Md_mustReach_172 : decode b_Md_mustReach 172 = .ok (.invokevirtual 158, 3) := by decide +kernel
theorem d_Md_mustReach_175 : decode b_Md_mustReach 175 = .ok (.ifCond .eq 12, 3) := by decide +kernel
theorem d_Md_mustReach_178 : decode b_Md_mustReach 178 = .ok (.aload_n 0, 1) := by decide +kernel
theorem d_Md_mustReach_179 : decode b_Md_mustReach 179 = .ok (.iload_n 2, 1) := by decide +kernel
theorem d_Md_mustReach_180 : decode b_Md_mustReach 180 = .ok (.iload_n 1, 1) := by decide +kernel
theorem d_Md_mustReach_181 : decode b_Md_mustReach 181 = .ok (.invokevirtual 161, 3) := by decide +kernel
theorem d_Md_mustReach_184 : decode b_Md_mustReach 184 = .ok (.ifCond .eq 7, 3) := by decide +kernel
theorem d_Md_mustReach_187 : decode b_Md_mustReach 187 = .ok (.iconst 1, 1) := by decide +kernel
theorem d_Md_mustReach_188 : decode b_Md_mustReach 188 = .ok (.goto 4, 3) := by decide +kernel
theorem d_Md_mustReach_191 : decode b_Md_mustReach 191 = .ok (.iconst 0, 1) := by decide +kernel
theorem d_Md_mustReach_192 : decode b_Md_mustReach 192 = .ok (.ireturn, 1) := by decide +kernel
theorem d_Md_mustReach_193 : decode b_Md_mustReach 193 = .ok (.iconst 1, 1) := by decide +kernel
theorem d_Md_mustReach_194 : decode b_Md_mustReach 194 = .ok (.ireturn, 1) := by decide +kernel
theorem d_Md_catches_0 : decode b_Md_catches 0 = .ok (.aload_n 0, 1) := by decide +kernel
theorem d_Md_catches_1 : decode b_Md_catches 1 = .ok (.getfield 22, 3) := by decide +kernel
theorem d_Md_catches_4 : decode b_Md_catches 4 = .ok (.iload_n 2, 1) := by decide +kernel
theorem d_Md_catches_5 : decode b_Md_catches 5 = .ok (.iaload, 1) := by decide +kernel
theorem d_Md_catches_6 : decode b_Md_catches 6 = .ok (.istore_n 3, 1) := by decide +kernel
theorem d_Md_catches_7 : decode b_Md_catches 7 = .ok (.aload_n 0, 1) := by decide +kernel
theorem d_Md_catches_8 : decode b_Md_catches 8 = .ok (.getfield 31, 3) := by decide +kernel
theorem d_Md_catches_11 : decode b_Md_catches 11 = .ok (.aload_n 0, 1) := by decide +kernel
theorem d_Md_catches_12 : decode b_Md_catches 12 = .ok (.getfield 25, 3) := by decide +kernel
theorem d_Md_catches_15 : decode b_Md_catches 15 = .ok (.iload_n 1, 1) := by decide +kernel
theorem d_Md_catches_16 : decode b_Md_catches 16 = .ok (.iaload, 1) := by decide +kernel
theorem d_Md_catches_17 : decode b_Md_catches 17 = .ok (.iaload, 1) := by decide +kernel
theorem d_Md_catches_18 : decode b_Md_catches 18 = .ok (.istore 4, 2) := by decide +kernel
theorem d_Md_catches_20 : decode b_Md_catches 20 = .ok (.iload 4, 2) := by decide +kernel
theorem d_Md_catches_22 : decode b_Md_catches 22 = .ok (.iload_n 2, 1) := by decide +kernel
theorem d_Md_catches_23 : decode b_Md_catches 23 = .ok (.if_icmp .eq 32, 3) := by decide +kernel
theorem d_Md_catches_26 : decode b_Md_catches 26 = .ok (.aload_n 0, 1) := by decide +kernel
theorem d_Md_catches_27 : decode b_Md_catches 27 = .ok (.iload_n 3, 1) := by decide +kernel
theorem d_Md_catches_28 : decode b_Md_catches 28 = .ok (.aload_n 0, 1) := by decide +kernel
theorem d_Md_catches_29 : decode b_Md_catches 29 = .ok (.getfield 22, 3) := by decide +kernel
theorem d_Md_catches_32 : decode b_Md_catches 32 = .ok (.iload 4, 2) := by decide +kernel
theorem d_Md_catches_34 : decode b_Md_catches 34 = .ok (.iaload, 1) := by decide +kernel
theorem d_Md_catches_35 : decode b_Md_catches 35 = .ok (.invokevirtual 164, 3) := by decide +kernel
theorem d_Md_catches_38 : decode b_Md_catches 38 = .ok (.ifCond .eq 5, 3) := by decide +kernel
theorem d_Md_catches_41 : decode b_Md_catches 41 = .ok (.iconst 0, 1) := by decide +kernel
theorem d_Md_catches_42 : decode b_Md_catches 42 = .ok (.ireturn, 1) := by decide +kernel
theorem d_Md_catches_43 : decode b_Md_catches 43 = .ok (.aload_n 0, 1) := by decide +kernel
theorem d_Md_catches_44 : decode b_Md_catches 44 = .ok (.getfield 31, 3) := by decide +kernel
theorem d_Md_catches_47 : decode b_Md_catches 47 = .ok (.iload 4, 2) := by decide +kernel
theorem d_Md_catches_49 : decode b_Md_catches 49 = .ok (.iaload, 1) := by decide +kernel
theorem d_Md_catches_50 : decode b_Md_catches 50 = .ok (.istore 4, 2) := by decide +kernel
theorem d_Md_catches_52 : decode b_Md_catches 52 = .ok (.goto (-32), 3) := by decide +kernel
theorem d_Md_catches_55 : decode b_Md_catches 55 = .ok (.iload_n 3, 1) := by decide +kernel
theorem d_Md_catches_56 : decode b_Md_catches 56 = .ok (.iconst 2, 1) := by decide +kernel
theorem d_Md_catches_57 : decode b_Md_catches 57 = .ok (.if_icmp .lt 21, 3) := by decide +kernel
theorem d_Md_catches_60 : decode b_Md_catches 60 = .ok (.aload_n 0, 1) := by decide +kernel
theorem d_Md_catches_61 : decode b_Md_catches 61 = .ok (.iload_n 3, 1) := by decide +kernel
theorem d_Md_catches_62 : decode b_Md_catches 62 = .ok (.iconst 2, 1) := by decide +kernel
theorem d_Md_catches_63 : decode b_Md_catches 63 = .ok (.invokevirtual 164, 3) := by decide +kernel
theorem d_Md_catches_66 : decode b_Md_catches 66 = .ok (.ifCond .ne 12, 3) := by decide +kernel
theorem d_Md_catches_69 : decode b_Md_catches 69 = .ok (.aload_n 0, 1) := by decide +kernel
theorem d_Md_catches_70 : decode b_Md_catches 70 = .ok (.iload_n 3, 1) := by decide +kernel
theorem d_Md_catches_71 : decode b_Md_catches 71 = .ok (.iconst 3, 1) := by decide +kernel
theorem d_Md_catches_72 : decode b_Md_catches 72 = .ok (.invokevirtual 164, 3) := by decide +kernel
theorem d_Md_catches_75 : decode b_Md_catches 75 = .ok (.ifCond .eq 7, 3) := by decide +kernel
theorem d_Md_catches_78 : decode b_Md_catches 78 = .ok (.iconst 1, 1) := by decide +kernel
theorem d_Md_catches_79 : decode b_Md_catches 79 = .ok (.goto 4, 3) := by decide +kernel
theorem d_Md_catches_82 : decode b_Md_catches 82 = .ok (.iconst 0, 1) := by decide +kernel
theorem d_Md_catches_83 : decode b_Md_catches 83 = .ok (.istore 4, 2) := by decide +kernel
theorem d_Md_catches_85 : decode b_Md_catches 85 = .ok (.iconst 0, 1) := by decide +kernel
theorem d_Md_catches_86 : decode b_Md_catches 86 = .ok (.istore 5, 2) := by decide +kernel
theorem d_Md_catches_88 : decode b_Md_catches 88 = .ok (.iload 5, 2) := by decide +kernel
theorem d_Md_catches_90 : decode b_Md_catches 90 = .ok (.aload_n 0, 1) := by decide +kernel
theorem d_Md_catches_91 : decode b_Md_catches 91 = .ok (.getfield 167, 3) := by decide +kernel
theorem d_Md_catches_94 : decode b_Md_catches 94 = .ok (.if_icmp .ge 61, 3) := by decide +kernel
theorem d_Md_catches_97 : decode b_Md_catches 97 = .ok (.iload 4, 2) := by decide +kernel
theorem d_Md_catches_99 : decode b_Md_catches 99 = .ok (.ifCond .ne 56, 3) := by decide +kernel
theorem d_Md_catches_102 : decode b_Md_catches 102 = .ok (.aload_n 0, 1) := by decide +kernel
theorem d_Md_catches_103 : decode b_Md_catches 103 = .ok (.getfield 62, 3) := by decide +kernel
theorem d_Md_catches_106 : decode b_Md_catches 106 = .ok (.bipush 12, 2) := by decide +kernel
theorem d_Md_catches_108 : decode b_Md_catches 108 = .ok (.aload_n 0, 1) := by decide +kernel
theorem d_Md_catches_109 : decode b_Md_catches 109 = .ok (.getfield 25, 3) := by decide +kernel
theorem d_Md_catches_112 : decode b_Md_catches 112 = .ok (.iload_n 1, 1) := by decide +kernel
theorem d_Md_catches_113 : decode b_Md_catches 113 = .ok (.iaload, 1) := by decide +kernel
theorem d_Md_catches_114 : decode b_Md_catches 114 = .ok (.imul, 1) := by decide +kernel
theorem d_Md_catches_115 : decode b_Md_catches 115 = .ok (.iload 5, 2) := by decide +kernel
theorem d_Md_catches_117 : decode b_Md_catches 117 = .ok (.iadd, 1) := by decide +kernel
theorem d_Md_catches_118 : decode b_Md_catches 118 = .ok (.baload, 1) := by decide +kernel
theorem d_Md_catches_119 : decode b_Md_catches 119 = .ok (.ifCond .eq 27, 3) := by decide +kernel
theorem d_Md_catches_122 : decode b_Md_catches 122 = .ok (.aload_n 0, 1) := by decide +kernel
theorem d_Md_catches_123 : decode b_Md_catches 123 = .ok (.iload 5, 2) := by decide +kernel
theorem d_Md_catches_125 : decode b_Md_catches 125 = .ok (.iload_n 3, 1) := by decide +kernel
theorem d_Md_catches_126 : decode b_Md_catches 126 = .ok (.invokevirtual 164, 3) := by decide +kernel
theorem d_Md_catches_129 : decode b_Md_catches 129 = .ok (.ifCond .ne 13, 3) := by decide +kernel
theorem d_Md_catches_132 : decode b_Md_catches 132 = .ok (.aload_n 0, 1) := by decide +kernel
theorem d_Md_catches_133 : decode b_Md_catches 133 = .ok (.iload_n 3, 1) := by decide +kernel
theorem d_Md_catches_134 : decode b_Md_catches 134 = .ok (.iload 5, 2) := by decide +kernel
theorem d_Md_catches_136 : decode b_Md_catches 136 = .ok (.invokevirtual 164, 3) := by decide +kernel
theorem d_Md_catches_139 : decode b_Md_catches 139 = .ok (.ifCond .eq 7, 3) := by decide +kernel
theorem d_Md_catches_142 : decode b_Md_catches 142 = .ok (.iconst 1, 1) := by decide +kernel
theorem d_Md_catches_143 : decode b_Md_catches 143 = .ok (.goto 4, 3) := by decide +kernel
theorem d_Md_catches_146 : decode b_Md_catches 146 = .ok (.iconst 0, 1) := by decide +kernel
theorem d_Md_catches_147 : decode b_Md_catches 147 = .ok (.istore 4, 2) := by decide +kernel
theorem d_Md_catches_149 : decode b_Md_catches 149 = .ok (.iinc 5 1, 3) := by decide +kernel
theorem d_Md_catches_152 : decode b_Md_catches 152 = .ok (.goto (-64), 3) := by decide +kernel
theorem d_Md_catches_155 : decode b_Md_catches 155 = .ok (.iload 4, 2) := by decide +kernel
theorem d_Md_catches_157 : decode b_Md_catches 157 = .ok (.ireturn, 1) := by decide +kernel
theorem d_Md_anyComplete_0 : decode b_Md_anyComplete 0 = .ok (.iconst 0, 1) := by decide +kernel
theorem d_Md_anyComplete_1 : decode b_Md_anyComplete 1 = .ok (.istore_n 2, 1) := by decide +kernel
theorem d_Md_anyComplete_2 : decode b_Md_anyComplete 2 = .ok (.aload_n 0, 1) := by decide +kernel
theorem d_Md_anyComplete_3 : decode b_Md_anyComplete 3 = .ok (.getfield 25, 3) := by decide +kernel
theorem d_Md_anyComplete_6 : decode b_Md_anyComplete 6 = .ok (.iload_n 1, 1) := by decide +kernel
theorem d_Md_anyComplete_7 : decode b_Md_anyComplete 7 = .ok (.iaload, 1) := by decide +kernel
theorem d_Md_anyComplete_8 : decode b_Md_anyComplete 8 = .ok (.istore_n 3, 1) := by decide +kernel
theorem d_Md_anyComplete_9 : decode b_Md_anyComplete 9 = .ok (.iload_n 3, 1) := by decide +kernel
theorem d_Md_anyComplete_10 : decode b_Md_anyComplete 10 = .ok (.iconst (-1), 1) := by decide +kernel
theorem d_Md_anyComplete_11 : decode b_Md_anyComplete 11 = .ok (.if_icmp .eq 32, 3) := by decide +kernel
theorem d_Md_anyComplete_14 : decode b_Md_anyComplete 14 = .ok (.iload_n 2, 1) := by decide +kernel
theorem d_Md_anyComplete_15 : decode b_Md_anyComplete 15 = .ok (.ifCond .ne 12, 3) := by decide +kernel
theorem d_Md_anyComplete_18 : decode b_Md_anyComplete 18 = .ok (.aload_n 0, 1) := by decide +kernel
theorem d_Md_anyComplete_19 : decode b_Md_anyComplete 19 = .ok (.getfield 59, 3) := by decide +kernel
theorem d_Md_anyComplete_22 : decode b_Md_anyComplete 22 = .ok (.iload_n 3, 1) := by decide +kernel
theorem d_Md_anyComplete_23 : decode b_Md_anyComplete 23 = .ok (.baload, 1) := by decide +kernel
theorem d_Md_anyComplete_24 : decode b_Md_anyComplete 24 = .ok (.ifCond .eq 7, 3) := by decide +kernel
theorem d_Md_anyComplete_27 : decode b_Md_anyComplete 27 = .ok (.iconst 1, 1) := by decide +kernel
theorem d_Md_anyComplete_28 : decode b_Md_anyComplete 28 = .ok (.goto 4, 3) := by decide +kernel
theorem d_Md_anyComplete_31 : decode b_Md_anyComplete 31 = .ok (.iconst 0, 1) := by decide +kernel
theorem d_Md_anyComplete_32 : decode b_Md_anyComplete 32 = .ok (.istore_n 2, 1) := by decide +kernel
theorem d_Md_anyComplete_33 : decode b_Md_anyComplete 33 = .ok (.aload_n 0, 1) := by decide +kernel
theorem d_Md_anyComplete_34 : decode b_Md_anyComplete 34 = .ok (.getfield 31, 3) := by decide +kernel
theorem d_Md_anyComplete_37 : decode b_Md_anyComplete 37 = .ok (.iload_n 3, 1) := by decide +kernel
theorem d_Md_anyComplete_38 : decode b_Md_anyComplete 38 = .ok (.iaload, 1) := by decide +kernel
theorem d_Md_anyComplete_39 : decode b_Md_anyComplete 39 = .ok (.istore_n 3, 1) := by decide +kernel
theorem d_Md_anyComplete_40 : decode b_Md_anyComplete 40 = .ok (.goto (-31), 3) := by decide +kernel
theorem d_Md_anyComplete_43 : decode b_Md_anyComplete 43 = .ok (.iload_n 2, 1) := by decide +kernel
theorem d_Md_anyComplete_44 : decode b_Md_anyComplete 44 = .ok (.ireturn, 1) := by decide +kernel
theorem d_Md_isWhole_0 : decode b_Md_isWhole 0 = .ok (.aload_n 0, 1) := by decide +kernel
theorem d_Md_isWhole_1 : decode b_Md_isWhole 1 = .ok (.getfield 41, 3) := by decide +kernel
theorem d_Md_isWhole_4 : decode b_Md_isWhole 4 = .ok (.iload_n 1, 1) := by decide +kernel
theorem d_Md_isWhole_5 : decode b_Md_isWhole 5 = .ok (.iaload, 1) := by decide +kernel
theorem d_Md_isWhole_6 : decode b_Md_isWhole 6 = .ok (.iconst 2, 1) := by decide +kernel
theorem d_Md_isWhole_7 : decode b_Md_isWhole 7 = .ok (.if_icmp .ne 7, 3) := by decide +kernel
theorem d_Md_isWhole_10 : decode b_Md_isWhole 10 = .ok (.iconst 1, 1) := by decide +kernel
theorem d_Md_isWhole_11 : decode b_Md_isWhole 11 = .ok (.goto 4, 3) := by decide +kernel
theorem d_Md_isWhole_14 : decode b_Md_isWhole 14 = .ok (.iconst 0, 1) := by decide +kernel
theorem d_Md_isWhole_15 : decode b_Md_isWhole 15 = .ok (.istore_n 2, 1) := by decide +kernel
theorem d_Md_isWhole_16 : decode b_Md_isWhole 16 = .ok (.aload_n 0, 1) := by decide +kernel
theorem d_Md_isWhole_17 : decode b_Md_isWhole 17 = .ok (.getfield 25, 3) := by decide +kernel
theorem d_Md_isWhole_20 : decode b_Md_isWhole 20 = .ok (.iload_n 1, 1) := by decide +kernel
theorem d_Md_isWhole_21 : decode b_Md_isWhole 21 = .ok (.iaload, 1) := by decide +kernel
theorem d_Md_isWhole_22 : decode b_Md_isWhole 22 = .ok (.istore_n 3, 1) := by decide +kernel
theorem d_Md_isWhole_23 : decode b_Md_isWhole 23 = .ok (.iload_n 3, 1) := by decide +kernel
theorem d_Md_isWhole_24 : decode b_Md_isWhole 24 = .ok (.iconst (-1), 1) := by decide +kernel
theorem d_Md_isWhole_25 : decode b_Md_isWhole 25 = .ok (.if_icmp .eq 33, 3) := by decide +kernel
theorem d_Md_isWhole_28 : decode b_Md_isWhole 28 = .ok (.iload_n 2, 1) := by decide +kernel
theorem d_Md_isWhole_29 : decode b_Md_isWhole 29 = .ok (.ifCond .ne 13, 3) := by decide +kernel
theorem d_Md_isWhole_32 : decode b_Md_isWhole 32 = .ok (.aload_n 0, 1) := by decide +kernel
theorem d_Md_isWhole_33 : decode b_Md_isWhole 33 = .ok (.getfield 22, 3) := by decide +kernel
theorem d_Md_isWhole_36 : decode b_Md_isWhole 36 = .ok (.iload_n 3, 1) := by decide +kernel
theorem d_Md_isWhole_37 : decode b_Md_isWhole 37 = .ok (.iaload, 1) := by decide +kernel
theorem d_Md_isWhole_38 : decode b_Md_isWhole 38 = .ok (.iconst 2, 1) := by decide +kernel
theorem d_Md_isWhole_39 : decode b_Md_isWhole 39 = .ok (.if_icmp .ne 7, 3) := by decide +kernel
theorem d_Md_isWhole_42 : decode b_Md_isWhole 42 = .ok (.iconst 1, 1) := by decide +kernel
theorem d_Md_isWhole_43 : decode b_Md_isWhole 43 = .ok (.goto 4, 3) := by decide +kernel
theorem d_Md_isWhole_46 : decode b_Md_isWhole 46 = .ok (.iconst 0, 1) := by decide +kernel
theorem d_Md_isWhole_47 : decode b_Md_isWhole 47 = .ok (.istore_n 2, 1) := by decide +kernel
theorem d_Md_isWhole_48 : decode b_Md_isWhole 48 = .ok (.aload_n 0, 1) := by decide +kernel
theorem d_Md_isWhole_49 : decode b_Md_isWhole 49 = .ok (.getfield 31, 3) := by decide +kernel
theorem d_Md_isWhole_52 : decode b_Md_isWhole 52 = .ok (.iload_n 3, 1) := by decide +kernel
theorem d_Md_isWhole_53 : decode b_Md_isWhole 53 = .ok (.iaload, 1) := by decide +kernel
theorem d_Md_isWhole_54 : decode b_Md_isWhole 54 = .ok (.istore_n 3, 1) := by decide +kernel
theorem d_Md_isWhole_55 : decode b_Md_isWhole 55 = .ok (.goto (-32), 3) := by decide +kernel
theorem d_Md_isWhole_58 : decode b_Md_isWhole 58 = .ok (.iload_n 2, 1) := by decide +kernel
theorem d_Md_isWhole_59 : decode b_Md_isWhole 59 = .ok (.ireturn, 1) := by decide +kernel
theorem d_Md_mustComplete_0 : decode b_Md_mustComplete 0 = .ok (.aload_n 0, 1) := by decide +kernel
theorem d_Md_mustComplete_1 : decode b_Md_mustComplete 1 = .ok (.getfield 56, 3) := by decide +kernel
theorem d_Md_mustComplete_4 : decode b_Md_mustComplete 4 = .ok (.iload_n 1, 1) := by decide +kernel
theorem d_Md_mustComplete_5 : decode b_Md_mustComplete 5 = .ok (.baload, 1) := by decide +kernel
theorem d_Md_mustComplete_6 : decode b_Md_mustComplete 6 = .ok (.ifCond .ne 5, 3) := by decide +kernel
theorem d_Md_mustComplete_9 : decode b_Md_mustComplete 9 = .ok (.iconst 0, 1) := by decide +kernel
theorem d_Md_mustComplete_10 : decode b_Md_mustComplete 10 = .ok (.ireturn, 1) := by decide +kernel
theorem d_Md_mustComplete_11 : decode b_Md_mustComplete 11 = .ok (.aload_n 0, 1) := by decide +kernel
theorem d_Md_mustComplete_12 : decode b_Md_mustComplete 12 = .ok (.getfield 16, 3) := by decide +kernel
theorem d_Md_mustComplete_15 : decode b_Md_mustComplete 15 = .ok (.iload_n 1, 1) := by decide +kernel
theorem d_Md_mustComplete_16 : decode b_Md_mustComplete 16 = .ok (.iaload, 1) := by decide +kernel
theorem d_Md_mustComplete_17 : decode b_Md_mustComplete 17 = .ok (.istore_n 2, 1) := by decide +kernel
theorem d_Md_mustComplete_18 : decode b_Md_mustComplete 18 = .ok (.aload_n 0, 1) := by decide +kernel
theorem d_Md_mustComplete_19 : decode b_Md_mustComplete 19 = .ok (.getfield 13, 3) := by decide +kernel
theorem d_Md_mustComplete_22 : decode b_Md_mustComplete 22 = .ok (.iload_n 1, 1) := by decide +kernel
theorem d_Md_mustComplete_23 : decode b_Md_mustComplete 23 = .ok (.iaload, 1) := by decide +kernel
theorem d_Md_mustComplete_24 : decode b_Md_mustComplete 24 = .ok (.tableswitch 352 0 16 #[84, 84, 352, 352, 86, 115, 140, 115, 84, 185, 352, 352, 197, 227, 257, 314, 346], 84) := by decide +kernel
theorem d_Md_mustComplete_108 : decode b_Md_mustComplete 108 = .ok (.iconst 1, 1) := by decide +kernel
theorem d_Md_mustComplete_109 : decode b_Md_mustComplete 109 = .ok (.ireturn, 1) := by decide +kernel
theorem d_Md_mustComplete_110 : decode b_Md_mustComplete 110 = .ok (.aload_n 0, 1) := by decide +kernel
theorem d_Md_mustComplete_111 : decode b_Md_mustComplete 111 = .ok (.getfield 31, 3) := by decide +kernel
theorem d_Md_mustComplete_114 : decode b_Md_mustComplete 114 = .ok (.aload_n 0, 1) := by decide +kernel
theorem d_Md_mustComplete_115 : decode b_Md_mustComplete 115 = .ok (.getfield 25, 3) := by decide +kernel
theorem d_Md_mustComplete_118 : decode b_Md_mustComplete 118 = .ok (.iload_n 1, 1) := by decide +kernel
theorem d_Md_mustComplete_119 : decode b_Md_mustComplete 119 = .ok (.iaload, 1) := by decide +kernel
theorem d_Md_mustComplete_120 : decode b_Md_mustComplete 120 = .ok (.iaload, 1) := by decide +kernel
theorem d_Md_mustComplete_121 : decode b_Md_mustComplete 121 = .ok (.iconst (-1), 1) := by decide +kernel
theorem d_Md_mustComplete_122 : decode b_Md_mustComplete 122 = .ok (.if_icmp .eq 11, 3) := by decide +kernel
theorem d_Md_mustComplete_125 : decode b_Md_mustComplete 125 = .ok (.aload_n 0, 1) := by decide +kernel
theorem d_Md_mustComplete_126 : decode b_Md_mustComplete 126 = .ok (.iload_n 1, 1) := by decide +kernel
theorem d_Md_mustComplete_127 : decode b_Md_mustComplete 127 = .ok (.invokevirtual 170, 3) := by decide +kernel
theorem d_Md_mustComplete_130 : decode b_Md_mustComplete 130 = .ok (.ifCond .eq 7, 3) := by decide +kernel
theorem d_Md_mustComplete_133 : decode b_Md_mustComplete 133 = .ok (.iconst 1, 1) := by decide +kernel
theorem d_Md_mustComplete_134 : decode b_Md_mustComplete 134 = .ok (.goto 4, 3) := by decide +kernel
theorem d_Md_mustComplete_137 : decode b_Md_mustComplete 137 = .ok (.iconst 0, 1) := by decide +kernel
theorem d_Md_mustComplete_138 : decode b_Md_mustComplete 138 = .ok (.ireturn, 1) := by decide +kernel
theorem d_Md_mustComplete_139 : decode b_Md_mustComplete 139 = .ok (.iload_n 2, 1) := by decide +kernel
theorem d_Md_mustComplete_140 : decode b_Md_mustComplete 140 = .ok (.ifCond .eq 18, 3) := by decide +kernel
theorem d_Md_mustComplete_143 : decode b_Md_mustComplete 143 = .ok (.iload_n 2, 1) := by decide +kernel
theorem d_Md_mustComplete_144 : decode b_Md_mustComplete 144 = .ok (.iconst 2, 1) := by decide +kernel
theorem d_Md_mustComplete_145 : decode b_Md_mustComplete 145 = .ok (.if_icmp .eq 13, 3) := by decide +kernel
theorem d_Md_mustComplete_148 : decode b_Md_mustComplete 148 = .ok (.aload_n 0, 1) := by decide +kernel
theorem d_Md_mustComplete_149 : decode b_Md_mustComplete 149 = .ok (.iload_n 1, 1) := by decide +kernel
theorem d_Md_mustComplete_150 : decode b_Md_mustComplete 150 = .ok (.bipush 10, 2) := by decide +kernel
theorem d_Md_mustComplete_152 : decode b_Md_mustComplete 152 = .ok (.invokevirtual 173, 3) := by decide +kernel
theorem d_Md_mustComplete_155 : decode b_Md_mustComplete 155 = .ok (.ifCond .eq 7, 3) := by decide +kernel
theorem d_Md_mustComplete_158 : decode b_Md_mustComplete 158 = .ok (.iconst 1, 1) := by decide +kernel
theorem d_Md_mustComplete_159 : decode b_Md_mustComplete 159 = .ok (.goto 4, 3) := by decide +kernel
theorem d_Md_mustComplete_162 : decode b_Md_mustComplete 162 = .ok (.iconst 0, 1) := by decide +kernel
theorem d_Md_mustComplete_163 : decode b_Md_mustComplete 163 = .ok (.ireturn, 1) := by decide +kernel
theorem d_Md_mustComplete_164 : decode b_Md_mustComplete 164 = .ok (.iload_n 2, 1) := by decide +kernel
theorem d_Md_mustComplete_165 : decode b_Md_mustComplete 165 = .ok (.iconst 1, 1) := by decide +kernel
theorem d_Md_mustComplete_166 : decode b_Md_mustComplete 166 = .ok (.if_icmp .eq 27, 3) := by decide +kernel
theorem d_Md_mustComplete_169 : decode b_Md_mustComplete 169 = .ok (.aload_n 0, 1) := by decide +kernel
theorem d_Md_mustComplete_170 : decode b_Md_mustComplete 170 = .ok (.getfield 59, 3) := by decide +kernel
theorem d_Md_mustComplete_173 : decode b_Md_mustComplete 173 = .ok (.aload_n 0, 1) := by decide +kernel
theorem d_Md_mustComplete_174 : decode b_Md_mustComplete 174 = .ok (.getfield 25, 3) := by decide +kernel
theorem d_Md_mustComplete_177 : decode b_Md_mustComplete 177 = .ok (.iload_n 1, 1) := by decide +kernel
theorem d_Md_mustComplete_178 : decode b_Md_mustComplete 178 = .ok (.iaload, 1) := by decide +kernel
theorem d_Md_mustComplete_179 : decode b_Md_mustComplete 179 = .ok (.baload, 1) := by decide +kernel
theorem d_Md_mustComplete_180 : decode b_Md_mustComplete 180 = .ok (.ifCond .ne 23, 3) := by decide +kernel
theorem d_Md_mustComplete_183 : decode b_Md_mustComplete 183 = .ok (.aload_n 0, 1) := by decide +kernel
theorem d_Md_mustComplete_184 : decode b_Md_mustComplete 184 = .ok (.iload_n 1, 1) := by decide +kernel
theorem d_Md_mustComplete_185 : decode b_Md_mustComplete 185 = .ok (.bipush 11, 2) := by decide +kernel
theorem d_Md_mustComplete_187 : decode b_Md_mustComplete 187 = .ok (.invokevirtual 173, 3) := by decide +kernel
theorem d_Md_mustComplete_190 : decode b_Md_mustComplete 190 = .ok (.ifCond .ne 13, 3) := by decide +kernel
theorem d_Md_mustComplete_193 : decode b_Md_mustComplete 193 = .ok (.aload_n 0, 1) := by decide +kernel
theorem d_Md_mustComplete_194 : decode b_Md_mustComplete 194 = .ok (.iload_n 1, 1) := by decide +kernel
theorem d_Md_mustComplete_195 : decode b_Md_mustComplete 195 = .ok (.bipush 10, 2) := by decide +kernel
theorem d_Md_mustComplete_197 : decode b_Md_mustComplete 197 = .ok (.invokevirtual 173, 3) := by decide +kernel
theorem d_Md_mustComplete_200 : decode b_Md_mustComplete 200 = .ok (.ifCond .eq 7, 3) := by decide +kernel
theorem d_Md_mustComplete_203 : decode b_Md_mustComplete 203 = .ok (.iconst 1, 1) := by decide +kernel
theorem d_Md_mustComplete_204 : decode b_Md_mustComplete 204 = .ok (.goto 4, 3) := by decide +kernel
theorem d_Md_mustComplete_207 : decode b_Md_mustComplete 207 = .ok (.iconst 0, 1) := by decide +kernel
theorem d_Md_mustComplete_208 : decode b_Md_mustComplete 208 = .ok (.ireturn, 1) := by decide +kernel
theorem d_Md_mustComplete_209 : decode b_Md_mustComplete 209 = .ok (.aload_n 0, 1) := by decide +kernel
theorem d_Md_mustComplete_210 : decode b_Md_mustComplete 210 = .ok (.getfield 59, 3) := by decide +kernel
theorem d_Md_mustComplete_213 : decode b_Md_mustComplete 213 = .ok (.aload_n 0, 1) := by decide +kernel
theorem d_Md_mustComplete_214 : decode b_Md_mustComplete 214 = .ok (.getfield 25, 3) := by decide +kernel
theorem d_Md_mustComplete_217 : decode b_Md_mustComplete 217 = .ok (.iload_n 1, 1) := by decide +kernel
theorem d_Md_mustComplete_218 : decode b_Md_mustComplete 218 = .ok (.iaload, 1) := by decide +kernel
theorem d_Md_mustComplete_219 : decode b_Md_mustComplete 219 = .ok (.baload, 1) := by decide +kernel
theorem d_Md_mustComplete_220 : decode b_Md_mustComplete 220 = .ok (.ireturn, 1) := by decide +kernel
theorem d_Md_mustComplete_221 : decode b_Md_mustComplete 221 = .ok (.aload_n 0, 1) := by decide +kernel
theorem d_Md_mustComplete_222 : decode b_Md_mustComplete 222 = .ok (.getfield 59, 3) := by decide +kernel
theorem d_Md_mustComplete_225 : decode b_Md_mustComplete 225 = .ok (.aload_n 0, 1) := by decide +kernel
theorem d_Md_mustComplete_226 : decode b_Md_mustComplete 226 = .ok (.getfield 25, 3) := by decide +kernel
theorem d_Md_mustComplete_229 : decode b_Md_mustComplete 229 = .ok (.iload_n 1, 1) := by decide +kernel
theorem d_Md_mustComplete_230 : decode b_Md_mustComplete 230 = .ok (.iaload, 1) := by decide +kernel
theorem d_Md_mustComplete_231 : decode b_Md_mustComplete 231 = .ok (.baload, 1) := by decide +kernel
theorem d_Md_mustComplete_232 : decode b_Md_mustComplete 232 = .ok (.ifCond .ne 13, 3) := by decide +kernel
theorem d_Md_mustComplete_235 : decode b_Md_mustComplete 235 = .ok (.aload_n 0, 1) := by decide +kernel
theorem d_Md_mustComplete_236 : decode b_Md_mustComplete 236 = .ok (.iload_n 1, 1) := by decide +kernel
theorem d_Md_mustComplete_237 : decode b_Md_mustComplete 237 = .ok (.bipush 10, 2) := by decide +kernel
theorem d_Md_mustComplete_239 : decode b_Md_mustComplete 239 = .ok (.invokevirtual 173, 3) := by decide +kernel
theorem d_Md_mustComplete_242 : decode b_Md_mustComplete 242 = .ok (.ifCond .eq 7, 3) := by decide +kernel
theorem d_Md_mustComplete_245 : decode b_Md_mustComplete 245 = .ok (.iconst 1, 1) := by decide +kernel
theorem d_Md_mustComplete_246 : decode b_Md_mustComplete 246 = .ok (.goto 4, 3) := by decide +kernel
theorem d_Md_mustComplete_249 : decode b_Md_mustComplete 249 = .ok (.iconst 0, 1) := by decide +kernel
theorem d_Md_mustComplete_250 : decode b_Md_mustComplete 250 = .ok (.ireturn, 1) := by decide +kernel
theorem d_Md_mustComplete_251 : decode b_Md_mustComplete 251 = .ok (.aload_n 0, 1) := by decide +kernel
theorem d_Md_mustComplete_252 : decode b_Md_mustComplete 252 = .ok (.getfield 28, 3) := by decide +kernel
theorem d_Md_mustComplete_255 : decode b_Md_mustComplete 255 = .ok (.iload_n 1, 1) := by decide +kernel
theorem d_Md_mustComplete_256 : decode b_Md_mustComplete 256 = .ok (.iaload, 1) := by decide +kernel
theorem d_Md_mustComplete_257 : decode b_Md_mustComplete 257 = .ok (.iconst (-1), 1) := by decide +kernel
theorem d_Md_mustComplete_258 : decode b_Md_mustComplete 258 = .ok (.if_icmp .eq 17, 3) := by decide +kernel
theorem d_Md_mustComplete_261 : decode b_Md_mustComplete 261 = .ok (.aload_n 0, 1) := by decide +kernel
theorem d_Md_mustComplete_262 : decode b_Md_mustComplete 262 = .ok (.getfield 59, 3) := by decide +kernel
theorem d_Md_mustComplete_265 : decode b_Md_mustComplete 265 = .ok (.aload_n 0, 1) := by decide +kernel
theorem d_Md_mustComplete_266 : decode b_Md_mustComplete 266 = .ok (.getfield 28, 3) := by decide +kernel
theorem d_Md_mustComplete_269 : decode b_Md_mustComplete 269 = .ok (.iload_n 1, 1) := by decide +kernel
theorem d_Md_mustComplete_270 : decode b_Md_mustComplete 270 = .ok (.iaload, 1) := by decide +kernel
theorem d_Md_mustComplete_271 : decode b_Md_mustComplete 271 = .ok (.baload, 1) := by decide +kernel
theorem d_Md_mustComplete_272 : decode b_Md_mustComplete 272 = .ok (.ifCond .eq 7, 3) := by decide +kernel
theorem d_Md_mustComplete_275 : decode b_Md_mustComplete 275 = .ok (.iconst 1, 1) := by decide +kernel
theorem d_Md_mustComplete_276 : decode b_Md_mustComplete 276 = .ok (.goto 4, 3) := by decide +kernel
theorem d_Md_mustComplete_279 : decode b_Md_mustComplete 279 = .ok (.iconst 0, 1) := by decide +kernel
theorem d_Md_mustComplete_280 : decode b_Md_mustComplete 280 = .ok (.ireturn, 1) := by decide +kernel
theorem d_Md_mustComplete_281 : decode b_Md_mustComplete 281 = .ok (.aload_n 0, 1) := by decide +kernel
theorem d_Md_mustComplete_282 : decode b_Md_mustComplete 282 = .ok (.iload_n 1, 1) := by decide +kernel
theorem d_Md_mustComplete_283 : decode b_Md_mustComplete 283 = .ok (.invokevirtual 176, 3) := by decide +kernel
theorem d_Md_mustComplete_286 : decode b_Md_mustComplete 286 = .ok (.ifCond .eq 46, 3) := by decide +kernel
theorem d_Md_mustComplete_289 : decode b_Md_mustComplete 289 = .ok (.aload_n 0, 1) := by decide +kernel
theorem d_Md_mustComplete_290 : decode b_Md_mustComplete 290 = .ok (.getfield 28, 3) := by decide +kernel
theorem d_Md_mustComplete_293 : decode b_Md_mustComplete 293 = .ok (.iload_n 1, 1) := by decide +kernel
theorem d_Md_mustComplete_294 : decode b_Md_mustComplete 294 = .ok (.iaload, 1) := by decide +kernel
theorem d_Md_mustComplete_295 : decode b_Md_mustComplete 295 = .ok (.iconst (-1), 1) := by decide +kernel
theorem d_Md_mustComplete_296 : decode b_Md_mustComplete 296 = .ok (.if_icmp .eq 36, 3) := by decide +kernel
theorem d_Md_mustComplete_299 : decode b_Md_mustComplete 299 = .ok (.aload_n 0, 1) := by decide +kernel
theorem d_Md_mustComplete_300 : decode b_Md_mustComplete 300 = .ok (.getfield 41, 3) := by decide +kernel
theorem d_Md_mustComplete_303 : decode b_Md_mustComplete 303 = .ok (.iload_n 1, 1) := by decide +kernel
theorem d_Md_mustComplete_304 : decode b_Md_mustComplete 304 = .ok (.iaload, 1) := by decide +kernel
theorem d_Md_mustComplete_305 : decode b_Md_mustComplete 305 = .ok (.ifCond .gt 27, 3) := by decide +kernel
theorem d_Md_mustComplete_308 : decode b_Md_mustComplete 308 = .ok (.aload_n 0, 1) := by decide +kernel
theorem d_Md_mustComplete_309 : decode b_Md_mustComplete 309 = .ok (.getfield 59, 3) := by decide +kernel
theorem d_Md_mustComplete_312 : decode b_Md_mustComplete 312 = .ok (.aload_n 0, 1) := by decide +kernel
theorem d_Md_mustComplete_313 : decode b_Md_mustComplete 313 = .ok (.getfield 28, 3) := by decide +kernel
theorem d_Md_mustComplete_316 : decode b_Md_mustComplete 316 = .ok (.iload_n 1, 1) := by decide +kernel
theorem d_Md_mustComplete_317 : decode b_Md_mustComplete 317 = .ok (.iaload, 1) := by decide +kernel
theorem d_Md_mustComplete_318 : decode b_Md_mustComplete 318 = .ok (.baload, 1) := by decide +kernel
theorem d_Md_mustComplete_319 : decode b_Md_mustComplete 319 = .ok (.ifCond .ne 13, 3) := by decide +kernel
theorem d_Md_mustComplete_322 : decode b_Md_mustComplete 322 = .ok (.aload_n 0, 1) := by decide +kernel
theorem d_Md_mustComplete_323 : decode b_Md_mustComplete 323 = .ok (.iload_n 1, 1) := by decide +kernel
theorem d_Md_mustComplete_324 : decode b_Md_mustComplete 324 = .ok (.bipush 10, 2) := by decide +kernel
theorem d_Md_mustComplete_326 : decode b_Md_mustComplete 326 = .ok (.invokevirtual 173, 3) := by decide +kernel
theorem d_Md_mustComplete_329 : decode b_Md_mustComplete 329 = .ok (.ifCond .eq 7, 3) := by decide +kernel
theorem d_Md_mustComplete_332 : decode b_Md_mustComplete 332 = .ok (.iconst 1, 1) := by decide +kernel
theorem d_Md_mustComplete_333 : decode b_Md_mustComplete 333 = .ok (.goto 4, 3) := by decide +kernel
theorem d_Md_mustComplete_336 : decode b_Md_mustComplete 336 = .ok (.iconst 0, 1) := by decide +kernel
theorem d_Md_mustComplete_337 : decode b_Md_mustComplete 337 = .ok (.ireturn, 1) := by decide +kernel
theorem d_Md_mustComplete_338 : decode b_Md_mustComplete 338 = .ok (.aload_n 0, 1) := by decide +kernel
theorem d_Md_mustComplete_339 : decode b_Md_mustComplete 339 = .ok (.iload_n 1, 1) := by decide +kernel
theorem d_Md_mustComplete_340 : decode b_Md_mustComplete 340 = .ok (.invokevirtual 176, 3) := by decide +kernel
theorem d_Md_mustComplete_343 : decode b_Md_mustComplete 343 = .ok (.ifCond .eq 21, 3) := by decide +kernel
theorem d_Md_mustComplete_346 : decode b_Md_mustComplete 346 = .ok (.aload_n 0, 1) := by decide +kernel
theorem d_Md_mustComplete_347 : decode b_Md_mustComplete 347 = .ok (.iload_n 1, 1) := by decide +kernel
theorem d_Md_mustComplete_348 : decode b_Md_mustComplete 348 = .ok (.invokevirtual 170, 3) := by decide +kernel
theorem d_Md_mustComplete_351 : decode b_Md_mustComplete 351 = .ok (.ifCond .ne 13, 3) := by decide +kernel
theorem d_Md_mustComplete_354 : decode b_Md_mustComplete 354 = .ok (.aload_n 0, 1) := by decide +kernel
theorem d_Md_mustComplete_355 : decode b_Md_mustComplete 355 = .ok (.iload_n 1, 1) := by decide +kernel
theorem d_Md_mustComplete_356 : decode b_Md_mustComplete 356 = .ok (.bipush 10, 2) := by decide +kernel
theorem d_Md_mustComplete_358 : decode b_Md_mustComplete 358 = .ok (.invokevirtual 173, 3) := by decide +kernel
theorem d_Md_mustComplete_361 : decode b_Md_mustComplete 361 = .ok (.ifCond .eq 7, 3) := by decide +kernel
theorem d_Md_mustComplete_364 : decode b_Md_mustComplete 364 = .ok (.iconst 1, 1) := by decide +kernel
theorem d_Md_mustComplete_365 : decode b_Md_mustComplete 365 = .ok (.goto 4, 3) := by decide +kernel
theorem d_Md_mustComplete_368 : decode b_Md_mustComplete 368 = .ok (.iconst 0, 1) := by decide +kernel
theorem d_Md_mustComplete_369 : decode b_Md_mustComplete 369 = .ok (.ireturn, 1) := by decide +kernel
theorem d_Md_mustComplete_370 : decode b_Md_mustComplete 370 = .ok (.aload_n 0, 1) := by decide +kernel
theorem d_Md_mustComplete_371 : decode b_Md_mustComplete 371 = .ok (.iload_n 1, 1) := by decide +kernel
theorem d_Md_mustComplete_372 : decode b_Md_mustComplete 372 = .ok (.invokevirtual 179, 3) := by decide +kernel
theorem d_Md_mustComplete_375 : decode b_Md_mustComplete 375 = .ok (.ireturn, 1) := by decide +kernel
theorem d_Md_mustComplete_376 : decode b_Md_mustComplete 376 = .ok (.iconst 0, 1) := by decide +kernel
theorem d_Md_mustComplete_377 : decode b_Md_mustComplete 377 = .ok (.ireturn, 1) := by decide +kernel
theorem d_Md_triesComplete_0 : decode b_Md_triesComplete 0 = .ok (.aload_n 0, 1) := by decide +kernel
theorem d_Md_triesComplete_1 : decode b_Md_triesComplete 1 = .ok (.getfield 37, 3) := by decide +kernel
theorem d_Md_triesComplete_4 : decode b_Md_triesComplete 4 = .ok (.iload_n 1, 1) := by decide +kernel
theorem d_Md_triesComplete_5 : decode b_Md_triesComplete 5 = .ok (.baload, 1) := by decide +kernel
theorem d_Md_triesComplete_6 : decode b_Md_triesComplete 6 = .ok (.ifCond .eq 12, 3) := by decide +kernel
theorem d_Md_triesComplete_9 : decode b_Md_triesComplete 9 = .ok (.aload_n 0, 1) := by decide +kernel
theorem d_Md_triesComplete_10 : decode b_Md_triesComplete 10 = .ok (.getfield 28, 3) := by decide +kernel
theorem d_Md_triesComplete_13 : decode b_Md_triesComplete 13 = .ok (.iload_n 1, 1) := by decide +kernel
theorem d_Md_triesComplete_14 : decode b_Md_triesComplete 14 = .ok (.iaload, 1) := by decide +kernel
theorem d_Md_triesComplete_15 : decode b_Md_triesComplete 15 = .ok (.goto 4, 3) := by decide +kernel
theorem d_Md_triesComplete_18 : decode b_Md_triesComplete 18 = .ok (.iconst (-1), 1) := by decide +kernel
theorem d_Md_triesComplete_19 : decode b_Md_triesComplete 19 = .ok (.istore_n 2, 1) := by decide +kernel
theorem d_Md_triesComplete_20 : decode b_Md_triesComplete 20 = .ok (.iconst 0, 1) := by decide +kernel
theorem d_Md_triesComplete_21 : decode b_Md_triesComplete 21 = .ok (.istore_n 3, 1) := by decide +kernel
theorem d_Md_triesComplete_22 : decode b_Md_triesComplete 22 = .ok (.aload_n 0, 1) := by decide +kernel
theorem d_Md_triesComplete_23 : decode b_Md_triesComplete 23 = .ok (.getfield 25, 3) := by decide +kernel
theorem d_Md_triesComplete_26 : decode b_Md_triesComplete 26 = .ok (.iload_n 1, 1) := by decide +kernel
theorem d_Md_triesComplete_27 : decode b_Md_triesComplete 27 = .ok (.iaload, 1) := by decide +kernel
theorem d_Md_triesComplete_28 : decode b_Md_triesComplete 28 = .ok (.istore 4, 2) := by decide +kernel
theorem d_Md_triesComplete_30 : decode b_Md_triesComplete 30 = .ok (.iload 4, 2) := by decide +kernel
theorem d_Md_triesComplete_32 : decode b_Md_triesComplete 32 = .ok (.iload_n 2, 1) := by decide +kernel
theorem d_Md_triesComplete_33 : decode b_Md_triesComplete 33 = .ok (.if_icmp .eq 35, 3) := by decide +kernel
theorem d_Md_triesComplete_36 : decode b_Md_triesComplete 36 = .ok (.iload_n 3, 1) := by decide +kernel
theorem d_Md_triesComplete_37 : decode b_Md_triesComplete 37 = .ok (.ifCond .ne 13, 3) := by decide +kernel
theorem d_Md_triesComplete_40 : decode b_Md_triesComplete 40 = .ok (.aload_n 0, 1) := by decide +kernel
theorem d_Md_triesComplete_41 : decode b_Md_triesComplete 41 = .ok (.getfield 59, 3) := by decide +kernel
theorem d_Md_triesComplete_44 : decode b_Md_triesComplete 44 = .ok (.iload 4, 2) := by decide +kernel
theorem d_Md_triesComplete_46 : decode b_Md_triesComplete 46 = .ok (.baload, 1) := by decide +kernel
theorem d_Md_triesComplete_47 : decode b_Md_triesComplete 47 = .ok (.ifCond .eq 7, 3) := by decide +kernel
theorem d_Md_triesComplete_50 : decode b_Md_triesComplete 50 = .ok (.iconst 1, 1) := by decide +kernel
theorem d_Md_triesComplete_51 : decode b_Md_triesComplete 51 = .ok (.goto 4, 3) := by decide +kernel
theorem d_Md_triesComplete_54 : decode b_Md_triesComplete 54 = .ok (.iconst 0, 1) := by decide +kernel
theorem d_Md_triesComplete_55 : decode b_Md_triesComplete 55 = .ok (.istore_n 3, 1) := by decide +kernel
theorem d_Md_triesComplete_56 : decode b_Md_triesComplete 56 = .ok (.aload_n 0, 1) := by decide +kernel
theorem d_Md_triesComplete_57 : decode b_Md_triesComplete 57 = .ok (.getfield 31, 3) := by decide +kernel
theorem d_Md_triesComplete_60 : decode b_Md_triesComplete 60 = .ok (.iload 4, 2) := by decide +kernel
theorem d_Md_triesComplete_62 : decode b_Md_triesComplete 62 = .ok (.iaload, 1) := by decide +kernel
theorem d_Md_triesComplete_63 : decode b_Md_triesComplete 63 = .ok (.istore 4, 2) := by decide +kernel
theorem d_Md_triesComplete_65 : decode b_Md_triesComplete 65 = .ok (.goto (-35), 3) := by decide +kernel
theorem d_Md_triesComplete_68 : decode b_Md_triesComplete 68 = .ok (.iload_n 3, 1) := by decide +kernel
theorem d_Md_triesComplete_69 : decode b_Md_triesComplete 69 = .ok (.ifCond .eq 21, 3) := by decide +kernel
theorem d_Md_triesComplete_72 : decode b_Md_triesComplete 72 = .ok (.iload_n 2, 1) := by decide +kernel
theorem d_Md_triesComplete_73 : decode b_Md_triesComplete 73 = .ok (.iconst (-1), 1) := by decide +kernel
theorem d_Md_triesComplete_74 : decode b_Md_triesComplete 74 = .ok (.if_icmp .eq 12, 3) := by decide +kernel
theorem d_Md_triesComplete_77 : decode b_Md_triesComplete 77 = .ok (.aload_n 0, 1) := by decide +kernel
theorem d_Md_triesComplete_78 : decode b_Md_triesComplete 78 = .ok (.getfield 59, 3) := by decide +kernel
theorem d_Md_triesComplete_81 : decode b_Md_triesComplete 81 = .ok (.iload_n 2, 1) := by decide +kernel
theorem d_Md_triesComplete_82 : decode b_Md_triesComplete 82 = .ok (.baload, 1) := by decide +kernel
theorem d_Md_triesComplete_83 : decode b_Md_triesComplete 83 = .ok (.ifCond .eq 7, 3) := by decide +kernel
theorem d_Md_triesComplete_86 : decode b_Md_triesComplete 86 = .ok (.iconst 1, 1) := by decide +kernel
theorem d_Md_triesComplete_87 : decode b_Md_triesComplete 87 = .ok (.goto 4, 3) := by decide +kernel
theorem d_Md_triesComplete_90 : decode b_Md_triesComplete 90 = .ok (.iconst 0, 1) := by decide +kernel
theorem d_Md_triesComplete_91 : decode b_Md_triesComplete 91 = .ok (.ireturn, 1) := by decide +kernel
theorem d_Md_mustThrow_0 : decode b_Md_mustThrow 0 = .ok (.aload_n 0, 1) := by decide +kernel
theorem d_Md_mustThrow_1 : decode b_Md_mustThrow 1 = .ok (.getfield 56, 3) := by decide +kernel
theorem d_Md_mustThrow_4 : decode b_Md_mustThrow 4 = .ok (.iload_n 1, 1) := by decide +kernel
theorem d_Md_mustThrow_5 : decode b_Md_mustThrow 5 = .ok (.baload, 1) := by decide +kernel
theorem d_Md_mustThrow_6 : decode b_Md_mustThrow 6 = .ok (.ifCond .ne 5, 3) := by decide +kernel
theorem d_Md_mustThrow_9 : decode b_Md_mustThrow 9 = .ok (.iconst 0, 1) := by decide +kernel
theorem d_Md_mustThrow_10 : decode b_Md_mustThrow 10 = .ok (.ireturn, 1) := by decide +kernel
theorem d_Md_mustThrow_11 : decode b_Md_mustThrow 11 = .ok (.aload_n 0, 1) := by decide +kernel
theorem d_Md_mustThrow_12 : decode b_Md_mustThrow 12 = .ok (.getfield 13, 3) := by decide +kernel
theorem d_Md_mustThrow_15 : decode b_Md_mustThrow 15 = .ok (.iload_n 1, 1) := by decide +kernel
theorem d_Md_mustThrow_16 : decode b_Md_mustThrow 16 = .ok (.iaload, 1) := by decide +kernel
theorem d_Md_mustThrow_17 : decode b_Md_mustThrow 17 = .ok (.iconst 1, 1) := by decide +kernel
theorem d_Md_mustThrow_18 : decode b_Md_mustThrow 18 = .ok (.if_icmp .eq 13, 3) := by decide +kernel
theorem d_Md_mustThrow_21 : decode b_Md_mustThrow 21 = .ok (.aload_n 0, 1) := by decide +kernel
theorem d_Md_mustThrow_22 : decode b_Md_mustThrow 22 = .ok (.getfield 13, 3) := by decide +kernel
theorem d_Md_mustThrow_25 : decode b_Md_mustThrow 25 = .ok (.iload_n 1, 1) := by decide +kernel
theorem d_Md_mustThrow_26 : decode b_Md_mustThrow 26 = .ok (.iaload, 1) := by decide +kernel
theorem d_Md_mustThrow_27 : decode b_Md_mustThrow 27 = .ok (.iconst 2, 1) := by decide +kernel
theorem d_Md_mustThrow_28 : decode b_Md_mustThrow 28 = .ok (.if_icmp .ne 19, 3) := by decide +kernel
theorem d_Md_mustThrow_31 : decode b_Md_mustThrow 31 = .ok (.aload_n 0, 1) := by decide +kernel
theorem d_Md_mustThrow_32 : decode b_Md_mustThrow 32 = .ok (.getfield 16, 3) := by decide +kernel
theorem d_Md_mustThrow_35 : decode b_Md_mustThrow 35 = .ok (.iload_n 1, 1) := by decide +kernel
theorem d_Md_mustThrow_36 : decode b_Md_mustThrow 36 = .ok (.iaload, 1) := by decide +kernel
theorem d_Md_mustThrow_37 : decode b_Md_mustThrow 37 = .ok (.iload_n 2, 1) := by decide +kernel
theorem d_Md_mustThrow_38 : decode b_Md_mustThrow 38 = .ok (.if_icmp .ne 7, 3) := by decide +kernel
theorem d_Md_mustThrow_41 : decode b_Md_mustThrow 41 = .ok (.iconst 1, 1) := by decide +kernel
theorem d_Md_mustThrow_42 : decode b_Md_mustThrow 42 = .ok (.goto 4, 3) := by decide +kernel
theorem d_Md_mustThrow_45 : decode b_Md_mustThrow 45 = .ok (.iconst 0, 1) := by decide +kernel
theorem d_Md_mustThrow_46 : decode b_Md_mustThrow 46 = .ok (.ireturn, 1) := by decide +kernel
theorem d_Md_mustThrow_47 : decode b_Md_mustThrow 47 = .ok (.iconst 0, 1) := by decide +kernel
theorem d_Md_mustThrow_48 : decode b_Md_mustThrow 48 = .ok (.istore_n 3, 1) := by decide +kernel
theorem d_Md_mustThrow_49 : decode b_Md_mustThrow 49 = .ok (.aload_n 0, 1) := by decide +kernel
theorem d_Md_mustThrow_50 : decode b_Md_mustThrow 50 = .ok (.getfield 13, 3) := by decide +kernel
theorem d_Md_mustThrow_53 : decode b_Md_mustThrow 53 = .ok (.iload_n 1, 1) := by decide +kernel
theorem d_Md_mustThrow_54 : decode b_Md_mustThrow 54 = .ok (.iaload, 1) := by decide +kernel
theorem d_Md_mustThrow_55 : decode b_Md_mustThrow 55 = .ok (.bipush 16, 2) := by decide +kernel
theorem d_Md_mustThrow_57 : decode b_Md_mustThrow 57 = .ok (.if_icmp .eq 56, 3) := by decide +kernel
theorem d_Md_mustThrow_60 : decode b_Md_mustThrow 60 = .ok (.aload_n 0, 1) := by decide +kernel
theorem d_Md_mustThrow_61 : decode b_Md_mustThrow 61 = .ok (.getfield 25, 3) := by decide +kernel
theorem d_Md_mustThrow_64 : decode b_Md_mustThrow 64 = .ok (.iload_n 1, 1) := by decide +kernel
theorem d_Md_mustThrow_65 : decode b_Md_mustThrow 65 = .ok (.iaload, 1) := by decide +kernel
theorem d_Md_mustThrow_66 : decode b_Md_mustThrow 66 = .ok (.istore 4, 2) := by decide +kernel
theorem d_Md_mustThrow_68 : decode b_Md_mustThrow 68 = .ok (.iload 4, 2) := by decide +kernel
theorem d_Md_mustThrow_70 : decode b_Md_mustThrow 70 = .ok (.iconst (-1), 1) := by decide +kernel
theorem d_Md_mustThrow_71 : decode b_Md_mustThrow 71 = .ok (.if_icmp .eq 40, 3) := by decide +kernel
theorem d_Md_mustThrow_74 : decode b_Md_mustThrow 74 = .ok (.iload_n 3, 1) := by decide +kernel
theorem d_Md_mustThrow_75 : decode b_Md_mustThrow 75 = .ok (.ifCond .ne 18, 3) := by decide +kernel
theorem d_Md_mustThrow_78 : decode b_Md_mustThrow 78 = .ok (.aload_n 0, 1) := by decide +kernel
theorem d_Md_mustThrow_79 : decode b_Md_mustThrow 79 = .ok (.getfield 62, 3) := by decide +kernel
theorem d_Md_mustThrow_82 : decode b_Md_mustThrow 82 = .ok (.bipush 12, 2) := by decide +kernel
theorem d_Md_mustThrow_84 : decode b_Md_mustThrow 84 = .ok (.iload 4, 2) := by decide +kernel
theorem d_Md_mustThrow_86 : decode b_Md_mustThrow 86 = .ok (.imul, 1) := by decide +kernel
theorem d_Md_mustThrow_87 : decode b_Md_mustThrow 87 = .ok (.iload_n 2, 1) := by decide +kernel
theorem d_Md_mustThrow_88 : decode b_Md_mustThrow 88 = .ok (.iadd, 1) := by decide +kernel
theorem d_Md_mustThrow_89 : decode b_Md_mustThrow 89 = .ok (.baload, 1) := by decide +kernel
theorem d_Md_mustThrow_90 : decode b_Md_mustThrow 90 = .ok (.ifCond .eq 7, 3) := by decide +kernel
theorem d_Md_mustThrow_93 : decode b_Md_mustThrow 93 = .ok (.iconst 1, 1) := by decide +kernel
theorem d_Md_mustThrow_94 : decode b_Md_mustThrow 94 = .ok (.goto 4, 3) := by decide +kernel
theorem d_Md_mustThrow_97 : decode b_Md_mustThrow 97 = .ok (.iconst 0, 1) := by decide +kernel
theorem d_Md_mustThrow_98 : decode b_Md_mustThrow 98 = .ok (.istore_n 3, 1) := by decide +kernel
theorem d_Md_mustThrow_99 : decode b_Md_mustThrow 99 = .ok (.aload_n 0, 1) := by decide +kernel
theorem d_Md_mustThrow_100 : decode b_Md_mustThrow 100 = .ok (.getfield 31, 3) := by decide +kernel
theorem d_Md_mustThrow_103 : decode b_Md_mustThrow 103 = .ok (.iload 4, 2) := by decide +kernel
theorem d_Md_mustThrow_105 : decode b_Md_mustThrow 105 = .ok (.iaload, 1) := by decide +kernel
theorem d_Md_mustThrow_106 : decode b_Md_mustThrow 106 = .ok (.istore 4, 2) := by decide +kernel
theorem d_Md_mustThrow_108 : decode b_Md_mustThrow 108 = .ok (.goto (-40), 3) := by decide +kernel
theorem d_Md_mustThrow_111 : decode b_Md_mustThrow 111 = .ok (.iload_n 3, 1) := by decide +kernel
theorem d_Md_mustThrow_112 : decode b_Md_mustThrow 112 = .ok (.ireturn, 1) := by decide +kernel
theorem d_Md_mustThrow_113 : decode b_Md_mustThrow 113 = .ok (.aload_n 0, 1) := by decide +kernel
theorem d_Md_mustThrow_114 : decode b_Md_mustThrow 114 = .ok (.getfield 37, 3) := by decide +kernel
theorem d_Md_mustThrow_117 : decode b_Md_mustThrow 117 = .ok (.iload_n 1, 1) := by decide +kernel
theorem d_Md_mustThrow_118 : decode b_Md_mustThrow 118 = .ok (.baload, 1) := by decide +kernel
theorem d_Md_mustThrow_119 : decode b_Md_mustThrow 119 = .ok (.ifCond .eq 12, 3) := by decide +kernel
theorem d_Md_mustThrow_122 : decode b_Md_mustThrow 122 = .ok (.aload_n 0, 1) := by decide +kernel
theorem d_Md_mustThrow_123 : decode b_Md_mustThrow 123 = .ok (.getfield 28, 3) := by decide +kernel
theorem d_Md_mustThrow_126 : decode b_Md_mustThrow 126 = .ok (.iload_n 1, 1) := by decide +kernel
theorem d_Md_mustThrow_127 : decode b_Md_mustThrow 127 = .ok (.iaload, 1) := by decide +kernel
theorem d_Md_mustThrow_128 : decode b_Md_mustThrow 128 = .ok (.goto 4, 3) := by decide +kernel
theorem d_Md_mustThrow_131 : decode b_Md_mustThrow 131 = .ok (.iconst (-1), 1) := by decide +kernel
theorem d_Md_mustThrow_132 : decode b_Md_mustThrow 132 = .ok (.istore 4, 2) := by decide +kernel
theorem d_Md_mustThrow_134 : decode b_Md_mustThrow 134 = .ok (.iconst 0, 1) := by decide +kernel
theorem d_Md_mustThrow_135 : decode b_Md_mustThrow 135 = .ok (.istore 5, 2) := by decide +kernel
theorem d_Md_mustThrow_137 : decode b_Md_mustThrow 137 = .ok (.aload_n 0, 1) := by decide +kernel
theorem d_Md_mustThrow_138 : decode b_Md_mustThrow 138 = .ok (.getfield 31, 3) := by decide +kernel
theorem d_Md_mustThrow_141 : decode b_Md_mustThrow 141 = .ok (.aload_n 0, 1) := by decide +kernel
theorem d_Md_mustThrow_142 : decode b_Md_mustThrow 142 = .ok (.getfield 25, 3) := by decide +kernel
theorem d_Md_mustThrow_145 : decode b_Md_mustThrow 145 = .ok (.iload_n 1, 1) := by decide +kernel
theorem d_Md_mustThrow_146 : decode b_Md_mustThrow 146 = .ok (.iaload, 1) := by decide +kernel
theorem d_Md_mustThrow_147 : decode b_Md_mustThrow 147 = .ok (.iaload, 1) := by decide +kernel
theorem d_Md_mustThrow_148 : decode b_Md_mustThrow 148 = .ok (.istore 6, 2) := by decide +kernel
theorem d_Md_mustThrow_150 : decode b_Md_mustThrow 150 = .ok (.iload 6, 2) := by decide +kernel
theorem d_Md_mustThrow_152 : decode b_Md_mustThrow 152 = .ok (.iload 4, 2) := by decide +kernel
theorem d_Md_mustThrow_154 : decode b_Md_mustThrow 154 = .ok (.if_icmp .eq 67, 3) := by decide +kernel
theorem d_Md_mustThrow_157 : decode b_Md_mustThrow 157 = .ok (.iload 5, 2) := by decide +kernel
theorem d_Md_mustThrow_159 : decode b_Md_mustThrow 159 = .ok (.ifCond .ne 18, 3) := by decide +kernel
theorem d_Md_mustThrow_162 : decode b_Md_mustThrow 162 = .ok (.aload_n 0, 1) := by decide +kernel
theorem d_Md_mustThrow_163 : decode b_Md_mustThrow 163 = .ok (.iload_n 2, 1) := by decide +kernel
theorem d_Md_mustThrow_164 : decode b_Md_mustThrow 164 = .ok (.aload_n 0, 1) := by decide +kernel
theorem d_Md_mustThrow_165 : decode b_Md_mustThrow 165 = .ok (.getfield 22, 3) := by decide +kernel
theorem d_Md_mustThrow_168 : decode b_Md_mustThrow 168 = .ok (.iload 6, 2) := by decide +kernel
theorem d_Md_mustThrow_170 : decode b_Md_mustThrow 170 = .ok (.iaload, 1) := by decide +kernel
theorem d_Md_mustThrow_171 : decode b_Md_mustThrow 171 = .ok (.invokevirtual 164, 3) := by decide +kernel
theorem d_Md_mustThrow_174 : decode b_Md_mustThrow 174 = .ok (.ifCond .eq 7, 3) := by decide +kernel
theorem d_Md_mustThrow_177 : decode b_Md_mustThrow 177 = .ok (.iconst 1, 1) := by decide +kernel
theorem d_Md_mustThrow_178 : decode b_Md_mustThrow 178 = .ok (.goto 4, 3) := by decide +kernel
theorem d_Md_mustThrow_181 : decode b_Md_mustThrow 181 = .ok (.iconst 0, 1) := by decide +kernel
theorem d_Md_mustThrow_182 : decode b_Md_mustThrow 182 = .ok (.istore 5, 2) := by decide +kernel
theorem d_Md_mustThrow_184 : decode b_Md_mustThrow 184 = .ok (.iload_n 3, 1) := by decide +kernel
theorem d_Md_mustThrow_185 : decode b_Md_mustThrow 185 = .ok (.ifCond .ne 18, 3) := by decide +kernel
theorem d_Md_mustThrow_188 : decode b_Md_mustThrow 188 = .ok (.aload_n 0, 1) := by decide +kernel
theorem d_Md_mustThrow_189 : decode b_Md_mustThrow 189 = .ok (.getfield 62, 3) := by decide +kernel
theorem d_Md_mustThrow_192 : decode b_Md_mustThrow 192 = .ok (.bipush 12, 2) := by decide +kernel
theorem d_Md_mustThrow_194 : decode b_Md_mustThrow 194 = .ok (.iload 6, 2) := by decide +kernel
theorem d_Md_mustThrow_196 : decode b_Md_mustThrow 196 = .ok (.imul, 1) := by decide +kernel
theorem d_Md_mustThrow_197 : decode b_Md_mustThrow 197 = .ok (.iload_n 2, 1) := by decide +kernel
theorem d_Md_mustThrow_198 : decode b_Md_mustThrow 198 = .ok (.iadd, 1) := by decide +kernel
theorem d_Md_mustThrow_199 : decode b_Md_mustThrow 199 = .ok (.baload, 1) := by decide +kernel
theorem d_Md_mustThrow_200 : decode b_Md_mustThrow 200 = .ok (.ifCond .eq 7, 3) := by decide +kernel
theorem d_Md_mustThrow_203 : decode b_Md_mustThrow 203 = .ok (.iconst 1, 1) := by decide +kernel
theorem d_Md_mustThrow_204 : decode b_Md_mustThrow 204 = .ok (.goto 4, 3) := by decide +kernel
theorem d_Md_mustThrow_207 : decode b_Md_mustThrow 207 = .ok (.iconst 0, 1) := by decide +kernel
theorem d_Md_mustThrow_208 : decode b_Md_mustThrow 208 = .ok (.istore_n 3, 1) := by decide +kernel
theorem d_Md_mustThrow_209 : decode b_Md_mustThrow 209 = .ok (.aload_n 0, 1) := by decide +kernel
theorem d_Md_mustThrow_210 : decode b_Md_mustThrow 210 = .ok (.getfield 31, 3) := by decide +kernel
theorem d_Md_mustThrow_213 : decode b_Md_mustThrow 213 = .ok (.iload 6, 2) := by decide +kernel
theorem d_Md_mustThrow_215 : decode b_Md_mustThrow 215 = .ok (.iaload, 1) := by decide +kernel
theorem d_Md_mustThrow_216 : decode b_Md_mustThrow 216 = .ok (.istore 6, 2) := by decide +kernel
theorem d_Md_mustThrow_218 : decode b_Md_mustThrow 218 = .ok (.goto (-68), 3) := by decide +kernel
theorem d_Md_mustThrow_221 : decode b_Md_mustThrow 221 = .ok (.iload_n 3, 1) := by decide +kernel
theorem d_Md_mustThrow_222 : decode b_Md_mustThrow 222 = .ok (.ifCond .ne 27, 3) := by decide +kernel
theorem d_Md_mustThrow_225 : decode b_Md_mustThrow 225 = .ok (.aload_n 0, 1) := by decide +kernel
theorem d_Md_mustThrow_226 : decode b_Md_mustThrow 226 = .ok (.getfield 62, 3) := by decide +kernel
theorem d_Md_mustThrow_229 : decode b_Md_mustThrow 229 = .ok (.bipush 12, 2) := by decide +kernel
theorem d_Md_mustThrow_231 : decode b_Md_mustThrow 231 = .ok (.aload_n 0, 1) := by decide +kernel
theorem d_Md_mustThrow_232 : decode b_Md_mustThrow 232 = .ok (.getfield 25, 3) := by decide +kernel
theorem d_Md_mustThrow_235 : decode b_Md_mustThrow 235 = .ok (.iload_n 1, 1) := by decide +kernel
theorem d_Md_mustThrow_236 : decode b_Md_mustThrow 236 = .ok (.iaload, 1) := by decide +kernel
theorem d_Md_mustThrow_237 : decode b_Md_mustThrow 237 = .ok (.imul, 1) := by decide +kernel
theorem d_Md_mustThrow_238 : decode b_Md_mustThrow 238 = .ok (.iload_n 2, 1) := by decide +kernel
theorem d_Md_mustThrow_239 : decode b_Md_mustThrow 239 = .ok (.iadd, 1) := by decide +kernel
theorem d_Md_mustThrow_240 : decode b_Md_mustThrow 240 = .ok (.baload, 1) := by decide +kernel
theorem d_Md_mustThrow_241 : decode b_Md_mustThrow 241 = .ok (.ifCond .eq 12, 3) := by decide +kernel
theorem d_Md_mustThrow_244 : decode b_Md_mustThrow 244 = .ok (.iload 5, 2) := by decide +kernel
