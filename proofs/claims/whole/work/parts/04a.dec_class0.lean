theorem d_Kn_init_0 : decode b_Kn_init 0 = .ok (.aload_n 0, 1) := by decide +kernel
theorem d_Kn_init_1 : decode b_Kn_init 1 = .ok (.invokespecial 3, 3) := by decide +kernel
theorem d_Kn_init_4 : decode b_Kn_init 4 = .ok (.aload_n 0, 1) := by decide +kernel
theorem d_Kn_init_5 : decode b_Kn_init 5 = .ok (.bipush 12, 2) := by decide +kernel
theorem d_Kn_init_7 : decode b_Kn_init 7 = .ok (.newarray .int, 2) := by decide +kernel
theorem d_Kn_init_9 : decode b_Kn_init 9 = .ok (.putfield 9, 3) := by decide +kernel
theorem d_Kn_init_12 : decode b_Kn_init 12 = .ok (.aload_n 0, 1) := by decide +kernel
theorem d_Kn_init_13 : decode b_Kn_init 13 = .ok (.bipush 12, 2) := by decide +kernel
theorem d_Kn_init_15 : decode b_Kn_init 15 = .ok (.newarray .int, 2) := by decide +kernel
theorem d_Kn_init_17 : decode b_Kn_init 17 = .ok (.putfield 15, 3) := by decide +kernel
theorem d_Kn_init_20 : decode b_Kn_init 20 = .ok (.aload_n 0, 1) := by decide +kernel
theorem d_Kn_init_21 : decode b_Kn_init 21 = .ok (.invokevirtual 18, 3) := by decide +kernel
theorem d_Kn_init_24 : decode b_Kn_init 24 = .ok (.return_, 1) := by decide +kernel
theorem d_Kn_startAgain_0 : decode b_Kn_startAgain 0 = .ok (.aload_n 0, 1) := by decide +kernel
theorem d_Kn_startAgain_1 : decode b_Kn_startAgain 1 = .ok (.getfield 9, 3) := by decide +kernel
theorem d_Kn_startAgain_4 : decode b_Kn_startAgain 4 = .ok (.iconst 0, 1) := by decide +kernel
theorem d_Kn_startAgain_5 : decode b_Kn_startAgain 5 = .ok (.iconst 1, 1) := by decide +kernel
theorem d_Kn_startAgain_6 : decode b_Kn_startAgain 6 = .ok (.iastore, 1) := by decide +kernel
theorem d_Kn_startAgain_7 : decode b_Kn_startAgain 7 = .ok (.aload_n 0, 1) := by decide +kernel
theorem d_Kn_startAgain_8 : decode b_Kn_startAgain 8 = .ok (.getfield 15, 3) := by decide +kernel
theorem d_Kn_startAgain_11 : decode b_Kn_startAgain 11 = .ok (.iconst 0, 1) := by decide +kernel
theorem d_Kn_startAgain_12 : decode b_Kn_startAgain 12 = .ok (.iconst 1, 1) := by decide +kernel
theorem d_Kn_startAgain_13 : decode b_Kn_startAgain 13 = .ok (.iastore, 1) := by decide +kernel
theorem d_Kn_startAgain_14 : decode b_Kn_startAgain 14 = .ok (.aload_n 0, 1) := by decide +kernel
theorem d_Kn_startAgain_15 : decode b_Kn_startAgain 15 = .ok (.iconst 1, 1) := by decide +kernel
theorem d_Kn_startAgain_16 : decode b_Kn_startAgain 16 = .ok (.putfield 21, 3) := by decide +kernel
theorem d_Kn_startAgain_19 : decode b_Kn_startAgain 19 = .ok (.aload_n 0, 1) := by decide +kernel
theorem d_Kn_startAgain_20 : decode b_Kn_startAgain 20 = .ok (.iconst 0, 1) := by decide +kernel
theorem d_Kn_startAgain_21 : decode b_Kn_startAgain 21 = .ok (.invokevirtual 25, 3) := by decide +kernel
theorem d_Kn_startAgain_24 : decode b_Kn_startAgain 24 = .ok (.pop, 1) := by decide +kernel
theorem d_Kn_startAgain_25 : decode b_Kn_startAgain 25 = .ok (.aload_n 0, 1) := by decide +kernel
theorem d_Kn_startAgain_26 : decode b_Kn_startAgain 26 = .ok (.iconst 1, 1) := by decide +kernel
theorem d_Kn_startAgain_27 : decode b_Kn_startAgain 27 = .ok (.invokevirtual 25, 3) := by decide +kernel
theorem d_Kn_startAgain_30 : decode b_Kn_startAgain 30 = .ok (.pop, 1) := by decide +kernel
theorem d_Kn_startAgain_31 : decode b_Kn_startAgain 31 = .ok (.aload_n 0, 1) := by decide +kernel
theorem d_Kn_startAgain_32 : decode b_Kn_startAgain 32 = .ok (.iconst 0, 1) := by decide +kernel
theorem d_Kn_startAgain_33 : decode b_Kn_startAgain 33 = .ok (.invokevirtual 25, 3) := by decide +kernel
theorem d_Kn_startAgain_36 : decode b_Kn_startAgain 36 = .ok (.pop, 1) := by decide +kernel
theorem d_Kn_startAgain_37 : decode b_Kn_startAgain 37 = .ok (.return_, 1) := by decide +kernel
theorem d_Kn_has_0 : decode b_Kn_has 0 = .ok (.iload_n 1, 1) := by decide +kernel
theorem d_Kn_has_1 : decode b_Kn_has 1 = .ok (.ifCond .lt 15, 3) := by decide +kernel
theorem d_Kn_has_4 : decode b_Kn_has 4 = .ok (.iload_n 1, 1) := by decide +kernel
theorem d_Kn_has_5 : decode b_Kn_has 5 = .ok (.aload_n 0, 1) := by decide +kernel
theorem d_Kn_has_6 : decode b_Kn_has 6 = .ok (.getfield 21, 3) := by decide +kernel
theorem d_Kn_has_9 : decode b_Kn_has 9 = .ok (.if_icmp .ge 7, 3) := by decide +kernel
theorem d_Kn_has_12 : decode b_Kn_has 12 = .ok (.iconst 1, 1) := by decide +kernel
theorem d_Kn_has_13 : decode b_Kn_has 13 = .ok (.goto 4, 3) := by decide +kernel
theorem d_Kn_has_16 : decode b_Kn_has 16 = .ok (.iconst 0, 1) := by decide +kernel
theorem d_Kn_has_17 : decode b_Kn_has 17 = .ok (.ireturn, 1) := by decide +kernel
theorem d_Kn_addBelow_0 : decode b_Kn_addBelow 0 = .ok (.aload_n 0, 1) := by decide +kernel
theorem d_Kn_addBelow_1 : decode b_Kn_addBelow 1 = .ok (.getfield 21, 3) := by decide +kernel
theorem d_Kn_addBelow_4 : decode b_Kn_addBelow 4 = .ok (.istore_n 2, 1) := by decide +kernel
theorem d_Kn_addBelow_5 : decode b_Kn_addBelow 5 = .ok (.aload_n 0, 1) := by decide +kernel
theorem d_Kn_addBelow_6 : decode b_Kn_addBelow 6 = .ok (.dup, 1) := by decide +kernel
theorem d_Kn_addBelow_7 : decode b_Kn_addBelow 7 = .ok (.getfield 21, 3) := by decide +kernel
theorem d_Kn_addBelow_10 : decode b_Kn_addBelow 10 = .ok (.iconst 1, 1) := by decide +kernel
theorem d_Kn_addBelow_11 : decode b_Kn_addBelow 11 = .ok (.iadd, 1) := by decide +kernel
theorem d_Kn_addBelow_12 : decode b_Kn_addBelow 12 = .ok (.putfield 21, 3) := by decide +kernel
theorem d_Kn_addBelow_15 : decode b_Kn_addBelow 15 = .ok (.aload_n 0, 1) := by decide +kernel
theorem d_Kn_addBelow_16 : decode b_Kn_addBelow 16 = .ok (.getfield 9, 3) := by decide +kernel
theorem d_Kn_addBelow_19 : decode b_Kn_addBelow 19 = .ok (.iload_n 2, 1) := by decide +kernel
theorem d_Kn_addBelow_20 : decode b_Kn_addBelow 20 = .ok (.iconst 0, 1) := by decide +kernel
theorem d_Kn_addBelow_21 : decode b_Kn_addBelow 21 = .ok (.iastore, 1) := by decide +kernel
theorem d_Kn_addBelow_22 : decode b_Kn_addBelow 22 = .ok (.aload_n 0, 1) := by decide +kernel
theorem d_Kn_addBelow_23 : decode b_Kn_addBelow 23 = .ok (.getfield 15, 3) := by decide +kernel
theorem d_Kn_addBelow_26 : decode b_Kn_addBelow 26 = .ok (.iload_n 2, 1) := by decide +kernel
theorem d_Kn_addBelow_27 : decode b_Kn_addBelow 27 = .ok (.aload_n 0, 1) := by decide +kernel
theorem d_Kn_addBelow_28 : decode b_Kn_addBelow 28 = .ok (.getfield 15, 3) := by decide +kernel
theorem d_Kn_addBelow_31 : decode b_Kn_addBelow 31 = .ok (.iload_n 1, 1) := by decide +kernel
theorem d_Kn_addBelow_32 : decode b_Kn_addBelow 32 = .ok (.iaload, 1) := by decide +kernel
theorem d_Kn_addBelow_33 : decode b_Kn_addBelow 33 = .ok (.iconst 1, 1) := by decide +kernel
theorem d_Kn_addBelow_34 : decode b_Kn_addBelow 34 = .ok (.iload_n 2, 1) := by decide +kernel
theorem d_Kn_addBelow_35 : decode b_Kn_addBelow 35 = .ok (.ishl, 1) := by decide +kernel
theorem d_Kn_addBelow_36 : decode b_Kn_addBelow 36 = .ok (.ior, 1) := by decide +kernel
theorem d_Kn_addBelow_37 : decode b_Kn_addBelow 37 = .ok (.iastore, 1) := by decide +kernel
theorem d_Kn_addBelow_38 : decode b_Kn_addBelow 38 = .ok (.iconst 0, 1) := by decide +kernel
theorem d_Kn_addBelow_39 : decode b_Kn_addBelow 39 = .ok (.istore_n 3, 1) := by decide +kernel
theorem d_Kn_addBelow_40 : decode b_Kn_addBelow 40 = .ok (.iload_n 3, 1) := by decide +kernel
theorem d_Kn_addBelow_41 : decode b_Kn_addBelow 41 = .ok (.iload_n 2, 1) := by decide +kernel
theorem d_Kn_addBelow_42 : decode b_Kn_addBelow 42 = .ok (.if_icmp .gt 35, 3) := by decide +kernel
theorem d_Kn_addBelow_45 : decode b_Kn_addBelow 45 = .ok (.aload_n 0, 1) := by decide +kernel
theorem d_Kn_addBelow_46 : decode b_Kn_addBelow 46 = .ok (.getfield 15, 3) := by decide +kernel
theorem d_Kn_addBelow_49 : decode b_Kn_addBelow 49 = .ok (.iload_n 2, 1) := by decide +kernel
theorem d_Kn_addBelow_50 : decode b_Kn_addBelow 50 = .ok (.iaload, 1) := by decide +kernel
theorem d_Kn_addBelow_51 : decode b_Kn_addBelow 51 = .ok (.i2l, 1) := by decide +kernel
theorem d_Kn_addBelow_52 : decode b_Kn_addBelow 52 = .ok (.iload_n 3, 1) := by decide +kernel
theorem d_Kn_addBelow_53 : decode b_Kn_addBelow 53 = .ok (.invokestatic 29, 3) := by decide +kernel
theorem d_Kn_addBelow_56 : decode b_Kn_addBelow 56 = .ok (.ifCond .eq 15, 3) := by decide +kernel
theorem d_Kn_addBelow_59 : decode b_Kn_addBelow 59 = .ok (.aload_n 0, 1) := by decide +kernel
theorem d_Kn_addBelow_60 : decode b_Kn_addBelow 60 = .ok (.getfield 9, 3) := by decide +kernel
theorem d_Kn_addBelow_63 : decode b_Kn_addBelow 63 = .ok (.iload_n 3, 1) := by decide +kernel
theorem d_Kn_addBelow_64 : decode b_Kn_addBelow 64 = .ok (.dup2, 1) := by decide +kernel
theorem d_Kn_addBelow_65 : decode b_Kn_addBelow 65 = .ok (.iaload, 1) := by decide +kernel
theorem d_Kn_addBelow_66 : decode b_Kn_addBelow 66 = .ok (.iconst 1, 1) := by decide +kernel
theorem d_Kn_addBelow_67 : decode b_Kn_addBelow 67 = .ok (.iload_n 2, 1) := by decide +kernel
theorem d_Kn_addBelow_68 : decode b_Kn_addBelow 68 = .ok (.ishl, 1) := by decide +kernel
theorem d_Kn_addBelow_69 : decode b_Kn_addBelow 69 = .ok (.ior, 1) := by decide +kernel
theorem d_Kn_addBelow_70 : decode b_Kn_addBelow 70 = .ok (.iastore, 1) := by decide +kernel
theorem d_Kn_addBelow_71 : decode b_Kn_addBelow 71 = .ok (.iinc 3 1, 3) := by decide +kernel
theorem d_Kn_addBelow_74 : decode b_Kn_addBelow 74 = .ok (.goto (-34), 3) := by decide +kernel
theorem d_Kn_addBelow_77 : decode b_Kn_addBelow 77 = .ok (.iload_n 2, 1) := by decide +kernel
theorem d_Kn_addBelow_78 : decode b_Kn_addBelow 78 = .ok (.ireturn, 1) := by decide +kernel
theorem d_Kn_needsNoThrower_0 : decode b_Kn_needsNoThrower 0 = .ok (.iload_n 1, 1) := by decide +kernel
theorem d_Kn_needsNoThrower_1 : decode b_Kn_needsNoThrower 1 = .ok (.iconst 1, 1) := by decide +kernel
theorem d_Kn_needsNoThrower_2 : decode b_Kn_needsNoThrower 2 = .ok (.if_icmp .le 15, 3) := by decide +kernel
theorem d_Kn_needsNoThrower_5 : decode b_Kn_needsNoThrower 5 = .ok (.aload_n 0, 1) := by decide +kernel
theorem d_Kn_needsNoThrower_6 : decode b_Kn_needsNoThrower 6 = .ok (.getfield 15, 3) := by decide +kernel
theorem d_Kn_needsNoThrower_9 : decode b_Kn_needsNoThrower 9 = .ok (.iload_n 1, 1) := by decide +kernel
theorem d_Kn_needsNoThrower_10 : decode b_Kn_needsNoThrower 10 = .ok (.iaload, 1) := by decide +kernel
theorem d_Kn_needsNoThrower_11 : decode b_Kn_needsNoThrower 11 = .ok (.bipush 12, 2) := by decide +kernel
theorem d_Kn_needsNoThrower_13 : decode b_Kn_needsNoThrower 13 = .ok (.iand, 1) := by decide +kernel
theorem d_Kn_needsNoThrower_14 : decode b_Kn_needsNoThrower 14 = .ok (.ifCond .eq 7, 3) := by decide +kernel
theorem d_Kn_needsNoThrower_17 : decode b_Kn_needsNoThrower 17 = .ok (.iconst 1, 1) := by decide +kernel
theorem d_Kn_needsNoThrower_18 : decode b_Kn_needsNoThrower 18 = .ok (.goto 4, 3) := by decide +kernel
theorem d_Kn_needsNoThrower_21 : decode b_Kn_needsNoThrower 21 = .ok (.iconst 0, 1) := by decide +kernel
theorem d_Kn_needsNoThrower_22 : decode b_Kn_needsNoThrower 22 = .ok (.ireturn, 1) := by decide +kernel
theorem d_Tr_init_0 : decode b_Tr_init 0 = .ok (.aload_n 0, 1) := by decide +kernel
theorem d_Tr_init_1 : decode b_Tr_init 1 = .ok (.invokespecial 3, 3) := by decide +kernel
theorem d_Tr_init_4 : decode b_Tr_init 4 = .ok (.aload_n 0, 1) := by decide +kernel
theorem d_Tr_init_5 : decode b_Tr_init 5 = .ok (.bipush 60, 2) := by decide +kernel
theorem d_Tr_init_7 : decode b_Tr_init 7 = .ok (.newarray .int, 2) := by decide +kernel
theorem d_Tr_init_9 : decode b_Tr_init 9 = .ok (.putfield 9, 3) := by decide +kernel
theorem d_Tr_init_12 : decode b_Tr_init 12 = .ok (.aload_n 0, 1) := by decide +kernel
theorem d_Tr_init_13 : decode b_Tr_init 13 = .ok (.bipush 60, 2) := by decide +kernel
theorem d_Tr_init_15 : decode b_Tr_init 15 = .ok (.newarray .int, 2) := by decide +kernel
theorem d_Tr_init_17 : decode b_Tr_init 17 = .ok (.putfield 15, 3) := by decide +kernel
theorem d_Tr_init_20 : decode b_Tr_init 20 = .ok (.aload_n 0, 1) := by decide +kernel
theorem d_Tr_init_21 : decode b_Tr_init 21 = .ok (.bipush 60, 2) := by decide +kernel
theorem d_Tr_init_23 : decode b_Tr_init 23 = .ok (.newarray .int, 2) := by decide +kernel
theorem d_Tr_init_25 : decode b_Tr_init 25 = .ok (.putfield 18, 3) := by decide +kernel
theorem d_Tr_init_28 : decode b_Tr_init 28 = .ok (.aload_n 0, 1) := by decide +kernel
theorem d_Tr_init_29 : decode b_Tr_init 29 = .ok (.bipush 60, 2) := by decide +kernel
theorem d_Tr_init_31 : decode b_Tr_init 31 = .ok (.newarray .int, 2) := by decide +kernel
theorem d_Tr_init_33 : decode b_Tr_init 33 = .ok (.putfield 21, 3) := by decide +kernel
theorem d_Tr_init_36 : decode b_Tr_init 36 = .ok (.aload_n 0, 1) := by decide +kernel
theorem d_Tr_init_37 : decode b_Tr_init 37 = .ok (.bipush 60, 2) := by decide +kernel
theorem d_Tr_init_39 : decode b_Tr_init 39 = .ok (.newarray .int, 2) := by decide +kernel
theorem d_Tr_init_41 : decode b_Tr_init 41 = .ok (.putfield 24, 3) := by decide +kernel
theorem d_Tr_init_44 : decode b_Tr_init 44 = .ok (.aload_n 0, 1) := by decide +kernel
theorem d_Tr_init_45 : decode b_Tr_init 45 = .ok (.bipush 60, 2) := by decide +kernel
theorem d_Tr_init_47 : decode b_Tr_init 47 = .ok (.newarray .int, 2) := by decide +kernel
theorem d_Tr_init_49 : decode b_Tr_init 49 = .ok (.putfield 27, 3) := by decide +kernel
theorem d_Tr_init_52 : decode b_Tr_init 52 = .ok (.aload_n 0, 1) := by decide +kernel
theorem d_Tr_init_53 : decode b_Tr_init 53 = .ok (.bipush 60, 2) := by decide +kernel
theorem d_Tr_init_55 : decode b_Tr_init 55 = .ok (.newarray .long, 2) := by decide +kernel
theorem d_Tr_init_57 : decode b_Tr_init 57 = .ok (.putfield 30, 3) := by decide +kernel
theorem d_Tr_init_60 : decode b_Tr_init 60 = .ok (.aload_n 0, 1) := by decide +kernel
theorem d_Tr_init_61 : decode b_Tr_init 61 = .ok (.bipush 60, 2) := by decide +kernel
theorem d_Tr_init_63 : decode b_Tr_init 63 = .ok (.newarray .int, 2) := by decide +kernel
theorem d_Tr_init_65 : decode b_Tr_init 65 = .ok (.putfield 34, 3) := by decide +kernel
theorem d_Tr_init_68 : decode b_Tr_init 68 = .ok (.aload_n 0, 1) := by decide +kernel
theorem d_Tr_init_69 : decode b_Tr_init 69 = .ok (.bipush 60, 2) := by decide +kernel
theorem d_Tr_init_71 : decode b_Tr_init 71 = .ok (.newarray .int, 2) := by decide +kernel
theorem d_Tr_init_73 : decode b_Tr_init 73 = .ok (.putfield 37, 3) := by decide +kernel
theorem d_Tr_init_76 : decode b_Tr_init 76 = .ok (.aload_n 0, 1) := by decide +kernel
theorem d_Tr_init_77 : decode b_Tr_init 77 = .ok (.bipush 60, 2) := by decide +kernel
theorem d_Tr_init_79 : decode b_Tr_init 79 = .ok (.newarray .int, 2) := by decide +kernel
theorem d_Tr_init_81 : decode b_Tr_init 81 = .ok (.putfield 40, 3) := by decide +kernel
theorem d_Tr_init_84 : decode b_Tr_init 84 = .ok (.return_, 1) := by decide +kernel
theorem d_Tr_startAgain_0 : decode b_Tr_startAgain 0 = .ok (.aload_n 0, 1) := by decide +kernel
theorem d_Tr_startAgain_1 : decode b_Tr_startAgain 1 = .ok (.iconst 0, 1) := by decide +kernel
theorem d_Tr_startAgain_2 : decode b_Tr_startAgain 2 = .ok (.putfield 43, 3) := by decide +kernel
theorem d_Tr_startAgain_5 : decode b_Tr_startAgain 5 = .ok (.aload_n 0, 1) := by decide +kernel
theorem d_Tr_startAgain_6 : decode b_Tr_startAgain 6 = .ok (.iconst 0, 1) := by decide +kernel
theorem d_Tr_startAgain_7 : decode b_Tr_startAgain 7 = .ok (.putfield 47, 3) := by decide +kernel
theorem d_Tr_startAgain_10 : decode b_Tr_startAgain 10 = .ok (.aload_n 0, 1) := by decide +kernel
theorem d_Tr_startAgain_11 : decode b_Tr_startAgain 11 = .ok (.lconst 0, 1) := by decide +kernel
theorem d_Tr_startAgain_12 : decode b_Tr_startAgain 12 = .ok (.putfield 50, 3) := by decide +kernel
theorem d_Tr_startAgain_15 : decode b_Tr_startAgain 15 = .ok (.aload_n 0, 1) := by decide +kernel
theorem d_Tr_startAgain_16 : decode b_Tr_startAgain 16 = .ok (.lconst 0, 1) := by decide +kernel
theorem d_Tr_startAgain_17 : decode b_Tr_startAgain 17 = .ok (.putfield 54, 3) := by decide +kernel
theorem d_Tr_startAgain_20 : decode b_Tr_startAgain 20 = .ok (.return_, 1) := by decide +kernel
theorem d_Tr_has_0 : decode b_Tr_has 0 = .ok (.iload_n 1, 1) := by decide +kernel
theorem d_Tr_has_1 : decode b_Tr_has 1 = .ok (.ifCond .lt 15, 3) := by decide +kernel
theorem d_Tr_has_4 : decode b_Tr_has 4 = .ok (.iload_n 1, 1) := by decide +kernel
theorem d_Tr_has_5 : decode b_Tr_has 5 = .ok (.aload_n 0, 1) := by decide +kernel
theorem d_Tr_has_6 : decode b_Tr_has 6 = .ok (.getfield 43, 3) := by decide +kernel
theorem d_Tr_has_9 : decode b_Tr_has 9 = .ok (.if_icmp .ge 7, 3) := by decide +kernel
theorem d_Tr_has_12 : decode b_Tr_has 12 = .ok (.iconst 1, 1) := by decide +kernel
theorem d_Tr_has_13 : decode b_Tr_has 13 = .ok (.goto 4, 3) := by decide +kernel
theorem d_Tr_has_16 : decode b_Tr_has 16 = .ok (.iconst 0, 1) := by decide +kernel
theorem d_Tr_has_17 : decode b_Tr_has 17 = .ok (.ireturn, 1) := by decide +kernel
theorem d_Tr_isFull_0 : decode b_Tr_isFull 0 = .ok (.aload_n 0, 1) := by decide +kernel
theorem d_Tr_isFull_1 : decode b_Tr_isFull 1 = .ok (.getfield 43, 3) := by decide +kernel
theorem d_Tr_isFull_4 : decode b_Tr_isFull 4 = .ok (.bipush 60, 2) := by decide +kernel
theorem d_Tr_isFull_6 : decode b_Tr_isFull 6 = .ok (.if_icmp .lt 7, 3) := by decide +kernel
theorem d_Tr_isFull_9 : decode b_Tr_isFull 9 = .ok (.iconst 1, 1) := by decide +kernel
theorem d_Tr_isFull_10 : decode b_Tr_isFull 10 = .ok (.goto 4, 3) := by decide +kernel
theorem d_Tr_isFull_13 : decode b_Tr_isFull 13 = .ok (.iconst 0, 1) := by decide +kernel
theorem d_Tr_isFull_14 : decode b_Tr_isFull 14 = .ok (.ireturn, 1) := by decide +kernel
theorem d_Tr_isFree_0 : decode b_Tr_isFree 0 = .ok (.aload_n 0, 1) := by decide +kernel
theorem d_Tr_isFree_1 : decode b_Tr_isFree 1 = .ok (.iload_n 1, 1) := by decide +kernel
theorem d_Tr_isFree_2 : decode b_Tr_isFree 2 = .ok (.invokevirtual 57, 3) := by decide +kernel
theorem d_Tr_isFree_5 : decode b_Tr_isFree 5 = .ok (.ifCond .eq 18, 3) := by decide +kernel
theorem d_Tr_isFree_8 : decode b_Tr_isFree 8 = .ok (.aload_n 0, 1) := by decide +kernel
theorem d_Tr_isFree_9 : decode b_Tr_isFree 9 = .ok (.getfield 50, 3) := by decide +kernel
theorem d_Tr_isFree_12 : decode b_Tr_isFree 12 = .ok (.iload_n 1, 1) := by decide +kernel
theorem d_Tr_isFree_13 : decode b_Tr_isFree 13 = .ok (.invokestatic 61, 3) := by decide +kernel
theorem d_Tr_isFree_16 : decode b_Tr_isFree 16 = .ok (.ifCond .ne 7, 3) := by decide +kernel
theorem d_Tr_isFree_19 : decode b_Tr_isFree 19 = .ok (.iconst 1, 1) := by decide +kernel
theorem d_Tr_isFree_20 : decode b_Tr_isFree 20 = .ok (.goto 4, 3) := by decide +kernel
theorem d_Tr_isFree_23 : decode b_Tr_isFree 23 = .ok (.iconst 0, 1) := by decide +kernel
theorem d_Tr_isFree_24 : decode b_Tr_isFree 24 = .ok (.ireturn, 1) := by decide +kernel
theorem d_Tr_isFreeBlock_0 : decode b_Tr_isFreeBlock 0 = .ok (.aload_n 0, 1) := by decide +kernel
theorem d_Tr_isFreeBlock_1 : decode b_Tr_isFreeBlock 1 = .ok (.iload_n 1, 1) := by decide +kernel
theorem d_Tr_isFreeBlock_2 : decode b_Tr_isFreeBlock 2 = .ok (.invokevirtual 65, 3) := by decide +kernel
theorem d_Tr_isFreeBlock_5 : decode b_Tr_isFreeBlock 5 = .ok (.ifCond .eq 18, 3) := by decide +kernel
theorem d_Tr_isFreeBlock_8 : decode b_Tr_isFreeBlock 8 = .ok (.aload_n 0, 1) := by decide +kernel
theorem d_Tr_isFreeBlock_9 : decode b_Tr_isFreeBlock 9 = .ok (.getfield 9, 3) := by decide +kernel
theorem d_Tr_isFreeBlock_12 : decode b_Tr_isFreeBlock 12 = .ok (.iload_n 1, 1) := by decide +kernel
theorem d_Tr_isFreeBlock_13 : decode b_Tr_isFreeBlock 13 = .ok (.iaload, 1) := by decide +kernel
theorem d_Tr_isFreeBlock_14 : decode b_Tr_isFreeBlock 14 = .ok (.bipush 13, 2) := by decide +kernel
theorem d_Tr_isFreeBlock_16 : decode b_Tr_isFreeBlock 16 = .ok (.if_icmp .ne 7, 3) := by decide +kernel
theorem d_Tr_isFreeBlock_19 : decode b_Tr_isFreeBlock 19 = .ok (.iconst 1, 1) := by decide +kernel
theorem d_Tr_isFreeBlock_20 : decode b_Tr_isFreeBlock 20 = .ok (.goto 4, 3) := by decide +kernel
theorem d_Tr_isFreeBlock_23 : decode b_Tr_isFreeBlock 23 = .ok (.iconst 0, 1) := by decide +kernel
theorem d_Tr_isFreeBlock_24 : decode b_Tr_isFreeBlock 24 = .ok (.ireturn, 1) := by decide +kernel
theorem d_Tr_add_0 : decode b_Tr_add 0 = .ok (.aload_n 0, 1) := by decide +kernel
theorem d_Tr_add_1 : decode b_Tr_add 1 = .ok (.getfield 43, 3) := by decide +kernel
theorem d_Tr_add_4 : decode b_Tr_add 4 = .ok (.istore_n 3, 1) := by decide +kernel
theorem d_Tr_add_5 : decode b_Tr_add 5 = .ok (.aload_n 0, 1) := by decide +kernel
theorem d_Tr_add_6 : decode b_Tr_add 6 = .ok (.dup, 1) := by decide +kernel
theorem d_Tr_add_7 : decode b_Tr_add 7 = .ok (.getfield 43, 3) := by decide +kernel
theorem d_Tr_add_10 : decode b_Tr_add 10 = .ok (.iconst 1, 1) := by decide +kernel
theorem d_Tr_add_11 : decode b_Tr_add 11 = .ok (.iadd, 1) := by decide +kernel
theorem d_Tr_add_12 : decode b_Tr_add 12 = .ok (.putfield 43, 3) := by decide +kernel
theorem d_Tr_add_15 : decode b_Tr_add 15 = .ok (.aload_n 0, 1) := by decide +kernel
theorem d_Tr_add_16 : decode b_Tr_add 16 = .ok (.getfield 9, 3) := by decide +kernel
theorem d_Tr_add_19 : decode b_Tr_add 19 = .ok (.iload_n 3, 1) := by decide +kernel
theorem d_Tr_add_20 : decode b_Tr_add 20 = .ok (.iload_n 1, 1) := by decide +kernel
theorem d_Tr_add_21 : decode b_Tr_add 21 = .ok (.iastore, 1) := by decide +kernel
theorem d_Tr_add_22 : decode b_Tr_add 22 = .ok (.aload_n 0, 1) := by decide +kernel
theorem d_Tr_add_23 : decode b_Tr_add 23 = .ok (.getfield 15, 3) := by decide +kernel
theorem d_Tr_add_26 : decode b_Tr_add 26 = .ok (.iload_n 3, 1) := by decide +kernel
theorem d_Tr_add_27 : decode b_Tr_add 27 = .ok (.iload_n 2, 1) := by decide +kernel
theorem d_Tr_add_28 : decode b_Tr_add 28 = .ok (.iastore, 1) := by decide +kernel
theorem d_Tr_add_29 : decode b_Tr_add 29 = .ok (.aload_n 0, 1) := by decide +kernel
theorem d_Tr_add_30 : decode b_Tr_add 30 = .ok (.getfield 18, 3) := by decide +kernel
theorem d_Tr_add_33 : decode b_Tr_add 33 = .ok (.iload_n 3, 1) := by decide +kernel
theorem d_Tr_add_34 : decode b_Tr_add 34 = .ok (.iconst (-1), 1) := by decide +kernel
theorem d_Tr_add_35 : decode b_Tr_add 35 = .ok (.iastore, 1) := by decide +kernel
theorem d_Tr_add_36 : decode b_Tr_add 36 = .ok (.aload_n 0, 1) := by decide +kernel
theorem d_Tr_add_37 : decode b_Tr_add 37 = .ok (.getfield 21, 3) := by decide +kernel
theorem d_Tr_add_40 : decode b_Tr_add 40 = .ok (.iload_n 3, 1) := by decide +kernel
theorem d_Tr_add_41 : decode b_Tr_add 41 = .ok (.iconst (-1), 1) := by decide +kernel
theorem d_Tr_add_42 : decode b_Tr_add 42 = .ok (.iastore, 1) := by decide +kernel
theorem d_Tr_add_43 : decode b_Tr_add 43 = .ok (.aload_n 0, 1) := by decide +kernel
theorem d_Tr_add_44 : decode b_Tr_add 44 = .ok (.getfield 24, 3) := by decide +kernel
theorem d_Tr_add_47 : decode b_Tr_add 47 = .ok (.iload_n 3, 1) := by decide +kernel
theorem d_Tr_add_48 : decode b_Tr_add 48 = .ok (.iconst 0, 1) := by decide +kernel
theorem d_Tr_add_49 : decode b_Tr_add 49 = .ok (.iastore, 1) := by decide +kernel
theorem d_Tr_add_50 : decode b_Tr_add 50 = .ok (.aload_n 0, 1) := by decide +kernel
theorem d_Tr_add_51 : decode b_Tr_add 51 = .ok (.getfield 27, 3) := by decide +kernel
theorem d_Tr_add_54 : decode b_Tr_add 54 = .ok (.iload_n 3, 1) := by decide +kernel
theorem d_Tr_add_55 : decode b_Tr_add 55 = .ok (.iconst (-1), 1) := by decide +kernel
theorem d_Tr_add_56 : decode b_Tr_add 56 = .ok (.iastore, 1) := by decide +kernel
theorem d_Tr_add_57 : decode b_Tr_add 57 = .ok (.aload_n 0, 1) := by decide +kernel
theorem d_Tr_add_58 : decode b_Tr_add 58 = .ok (.getfield 30, 3) := by decide +kernel
theorem d_Tr_add_61 : decode b_Tr_add 61 = .ok (.iload_n 3, 1) := by decide +kernel
theorem d_Tr_add_62 : decode b_Tr_add 62 = .ok (.lconst 0, 1) := by decide +kernel
theorem d_Tr_add_63 : decode b_Tr_add 63 = .ok (.lastore, 1) := by decide +kernel
theorem d_Tr_add_64 : decode b_Tr_add 64 = .ok (.aload_n 0, 1) := by decide +kernel
theorem d_Tr_add_65 : decode b_Tr_add 65 = .ok (.getfield 37, 3) := by decide +kernel
theorem d_Tr_add_68 : decode b_Tr_add 68 = .ok (.iload_n 3, 1) := by decide +kernel
theorem d_Tr_add_69 : decode b_Tr_add 69 = .ok (.aload_n 0, 1) := by decide +kernel
theorem d_Tr_add_70 : decode b_Tr_add 70 = .ok (.getfield 47, 3) := by decide +kernel
theorem d_Tr_add_73 : decode b_Tr_add 73 = .ok (.iastore, 1) := by decide +kernel
theorem d_Tr_add_74 : decode b_Tr_add 74 = .ok (.iload_n 3, 1) := by decide +kernel
theorem d_Tr_add_75 : decode b_Tr_add 75 = .ok (.ireturn, 1) := by decide +kernel
theorem d_Tr_take_0 : decode b_Tr_take 0 = .ok (.aload_n 0, 1) := by decide +kernel
theorem d_Tr_take_1 : decode b_Tr_take 1 = .ok (.dup, 1) := by decide +kernel
theorem d_Tr_take_2 : decode b_Tr_take 2 = .ok (.getfield 50, 3) := by decide +kernel
theorem d_Tr_take_5 : decode b_Tr_take 5 = .ok (.lconst 1, 1) := by decide +kernel
theorem d_Tr_take_6 : decode b_Tr_take 6 = .ok (.iload_n 1, 1) := by decide +kernel
theorem d_Tr_take_7 : decode b_Tr_take 7 = .ok (.lshl, 1) := by decide +kernel
theorem d_Tr_take_8 : decode b_Tr_take 8 = .ok (.lor, 1) := by decide +kernel
theorem d_Tr_take_9 : decode b_Tr_take 9 = .ok (.putfield 50, 3) := by decide +kernel
theorem d_Tr_take_12 : decode b_Tr_take 12 = .ok (.aload_n 0, 1) := by decide +kernel
theorem d_Tr_take_13 : decode b_Tr_take 13 = .ok (.getfield 18, 3) := by decide +kernel
theorem d_Tr_take_16 : decode b_Tr_take 16 = .ok (.iload_n 1, 1) := by decide +kernel
theorem d_Tr_take_17 : decode b_Tr_take 17 = .ok (.iload_n 2, 1) := by decide +kernel
theorem d_Tr_take_18 : decode b_Tr_take 18 = .ok (.iastore, 1) := by decide +kernel
theorem d_Tr_take_19 : decode b_Tr_take 19 = .ok (.return_, 1) := by decide +kernel
theorem d_Tr_release_0 : decode b_Tr_release 0 = .ok (.aload_n 0, 1) := by decide +kernel
theorem d_Tr_release_1 : decode b_Tr_release 1 = .ok (.dup, 1) := by decide +kernel
theorem d_Tr_release_2 : decode b_Tr_release 2 = .ok (.getfield 50, 3) := by decide +kernel
theorem d_Tr_release_5 : decode b_Tr_release 5 = .ok (.lconst 1, 1) := by decide +kernel
theorem d_Tr_release_6 : decode b_Tr_release 6 = .ok (.iload_n 1, 1) := by decide +kernel
theorem d_Tr_release_7 : decode b_Tr_release 7 = .ok (.lshl, 1) := by decide +kernel
theorem d_Tr_release_8 : decode b_Tr_release 8 = .ok (.ldc2_w 68, 3) := by decide +kernel
theorem d_Tr_release_11 : decode b_Tr_release 11 = .ok (.lxor, 1) := by decide +kernel
theorem d_Tr_release_12 : decode b_Tr_release 12 = .ok (.land, 1) := by decide +kernel
theorem d_Tr_release_13 : decode b_Tr_release 13 = .ok (.putfield 50, 3) := by decide +kernel
theorem d_Tr_release_16 : decode b_Tr_release 16 = .ok (.aload_n 0, 1) := by decide +kernel
theorem d_Tr_release_17 : decode b_Tr_release 17 = .ok (.getfield 18, 3) := by decide +kernel
theorem d_Tr_release_20 : decode b_Tr_release 20 = .ok (.iload_n 1, 1) := by decide +kernel
theorem d_Tr_release_21 : decode b_Tr_release 21 = .ok (.iconst (-1), 1) := by decide +kernel
theorem d_Tr_release_22 : decode b_Tr_release 22 = .ok (.iastore, 1) := by decide +kernel
theorem d_Tr_release_23 : decode b_Tr_release 23 = .ok (.return_, 1) := by decide +kernel
theorem d_Tr_adopt_0 : decode b_Tr_adopt 0 = .ok (.aload_n 0, 1) := by decide +kernel
theorem d_Tr_adopt_1 : decode b_Tr_adopt 1 = .ok (.dup, 1) := by decide +kernel
theorem d_Tr_adopt_2 : decode b_Tr_adopt 2 = .ok (.getfield 50, 3) := by decide +kernel
theorem d_Tr_adopt_5 : decode b_Tr_adopt 5 = .ok (.lconst 1, 1) := by decide +kernel
theorem d_Tr_adopt_6 : decode b_Tr_adopt 6 = .ok (.iload_n 2, 1) := by decide +kernel
theorem d_Tr_adopt_7 : decode b_Tr_adopt 7 = .ok (.lshl, 1) := by decide +kernel
theorem d_Tr_adopt_8 : decode b_Tr_adopt 8 = .ok (.lor, 1) := by decide +kernel
theorem d_Tr_adopt_9 : decode b_Tr_adopt 9 = .ok (.putfield 50, 3) := by decide +kernel
theorem d_Tr_adopt_12 : decode b_Tr_adopt 12 = .ok (.aload_n 0, 1) := by decide +kernel
theorem d_Tr_adopt_13 : decode b_Tr_adopt 13 = .ok (.getfield 21, 3) := by decide +kernel
theorem d_Tr_adopt_16 : decode b_Tr_adopt 16 = .ok (.iload_n 2, 1) := by decide +kernel
theorem d_Tr_adopt_17 : decode b_Tr_adopt 17 = .ok (.iload_n 1, 1) := by decide +kernel
theorem d_Tr_adopt_18 : decode b_Tr_adopt 18 = .ok (.iastore, 1) := by decide +kernel
theorem d_Tr_adopt_19 : decode b_Tr_adopt 19 = .ok (.aload_n 0, 1) := by decide +kernel
theorem d_Tr_adopt_20 : decode b_Tr_adopt 20 = .ok (.getfield 40, 3) := by decide +kernel
theorem d_Tr_adopt_23 : decode b_Tr_adopt 23 = .ok (.iload_n 2, 1) := by decide +kernel
theorem d_Tr_adopt_24 : decode b_Tr_adopt 24 = .ok (.aload_n 0, 1) := by decide +kernel
theorem d_Tr_adopt_25 : decode b_Tr_adopt 25 = .ok (.getfield 47, 3) := by decide +kernel
theorem d_Tr_adopt_28 : decode b_Tr_adopt 28 = .ok (.iastore, 1) := by decide +kernel
theorem d_Tr_adopt_29 : decode b_Tr_adopt 29 = .ok (.aload_n 0, 1) := by decide +kernel
theorem d_Tr_adopt_30 : decode b_Tr_adopt 30 = .ok (.getfield 34, 3) := by decide +kernel
theorem d_Tr_adopt_33 : decode b_Tr_adopt 33 = .ok (.aload_n 0, 1) := by decide +kernel
theorem d_Tr_adopt_34 : decode b_Tr_adopt 34 = .ok (.getfield 47, 3) := by decide +kernel
theorem d_Tr_adopt_37 : decode b_Tr_adopt 37 = .ok (.iload_n 2, 1) := by decide +kernel
theorem d_Tr_adopt_38 : decode b_Tr_adopt 38 = .ok (.iastore, 1) := by decide +kernel
theorem d_Tr_adopt_39 : decode b_Tr_adopt 39 = .ok (.aload_n 0, 1) := by decide +kernel
theorem d_Tr_adopt_40 : decode b_Tr_adopt 40 = .ok (.dup, 1) := by decide +kernel
theorem d_Tr_adopt_41 : decode b_Tr_adopt 41 = .ok (.getfield 47, 3) := by decide +kernel
theorem d_Tr_adopt_44 : decode b_Tr_adopt 44 = .ok (.iconst 1, 1) := by decide +kernel
theorem d_Tr_adopt_45 : decode b_Tr_adopt 45 = .ok (.iadd, 1) := by decide +kernel
theorem d_Tr_adopt_46 : decode b_Tr_adopt 46 = .ok (.putfield 47, 3) := by decide +kernel
theorem d_Tr_adopt_49 : decode b_Tr_adopt 49 = .ok (.aload_n 0, 1) := by decide +kernel
theorem d_Tr_adopt_50 : decode b_Tr_adopt 50 = .ok (.getfield 24, 3) := by decide +kernel
theorem d_Tr_adopt_53 : decode b_Tr_adopt 53 = .ok (.iload_n 1, 1) := by decide +kernel
theorem d_Tr_adopt_54 : decode b_Tr_adopt 54 = .ok (.dup2, 1) := by decide +kernel
theorem d_Tr_adopt_55 : decode b_Tr_adopt 55 = .ok (.iaload, 1) := by decide +kernel
theorem d_Tr_adopt_56 : decode b_Tr_adopt 56 = .ok (.iconst 1, 1) := by decide +kernel
theorem d_Tr_adopt_57 : decode b_Tr_adopt 57 = .ok (.iadd, 1) := by decide +kernel
theorem d_Tr_adopt_58 : decode b_Tr_adopt 58 = .ok (.iastore, 1) := by decide +kernel
theorem d_Tr_adopt_59 : decode b_Tr_adopt 59 = .ok (.aload_n 0, 1) := by decide +kernel
theorem d_Tr_adopt_60 : decode b_Tr_adopt 60 = .ok (.getfield 30, 3) := by decide +kernel
theorem d_Tr_adopt_63 : decode b_Tr_adopt 63 = .ok (.iload_n 1, 1) := by decide +kernel
theorem d_Tr_adopt_64 : decode b_Tr_adopt 64 = .ok (.dup2, 1) := by decide +kernel
theorem d_Tr_adopt_65 : decode b_Tr_adopt 65 = .ok (.laload, 1) := by decide +kernel
theorem d_Tr_adopt_66 : decode b_Tr_adopt 66 = .ok (.lconst 1, 1) := by decide +kernel
theorem d_Tr_adopt_67 : decode b_Tr_adopt 67 = .ok (.iload_n 2, 1) := by decide +kernel
theorem d_Tr_adopt_68 : decode b_Tr_adopt 68 = .ok (.lshl, 1) := by decide +kernel
theorem d_Tr_adopt_69 : decode b_Tr_adopt 69 = .ok (.lor, 1) := by decide +kernel
theorem d_Tr_adopt_70 : decode b_Tr_adopt 70 = .ok (.lastore, 1) := by decide +kernel
theorem d_Tr_adopt_71 : decode b_Tr_adopt 71 = .ok (.return_, 1) := by decide +kernel
theorem d_Tr_closeRow_0 : decode b_Tr_closeRow 0 = .ok (.aload_n 0, 1) := by decide +kernel
theorem d_Tr_closeRow_1 : decode b_Tr_closeRow 1 = .ok (.getfield 27, 3) := by decide +kernel
theorem d_Tr_closeRow_4 : decode b_Tr_closeRow 4 = .ok (.iload_n 1, 1) := by decide +kernel
theorem d_Tr_closeRow_5 : decode b_Tr_closeRow 5 = .ok (.iload_n 2, 1) := by decide +kernel
theorem d_Tr_closeRow_6 : decode b_Tr_closeRow 6 = .ok (.iastore, 1) := by decide +kernel
theorem d_Tr_closeRow_7 : decode b_Tr_closeRow 7 = .ok (.aload_n 0, 1) := by decide +kernel
theorem d_Tr_closeRow_8 : decode b_Tr_closeRow 8 = .ok (.getfield 9, 3) := by decide +kernel
theorem d_Tr_closeRow_11 : decode b_Tr_closeRow 11 = .ok (.iload_n 1, 1) := by decide +kernel
theorem d_Tr_closeRow_12 : decode b_Tr_closeRow 12 = .ok (.iaload, 1) := by decide +kernel
theorem d_Tr_closeRow_13 : decode b_Tr_closeRow 13 = .ok (.bipush 16, 2) := by decide +kernel
theorem d_Tr_closeRow_15 : decode b_Tr_closeRow 15 = .ok (.if_icmp .ne 17, 3) := by decide +kernel
theorem d_Tr_closeRow_18 : decode b_Tr_closeRow 18 = .ok (.iload_n 2, 1) := by decide +kernel
theorem d_Tr_closeRow_19 : decode b_Tr_closeRow 19 = .ok (.iconst (-1), 1) := by decide +kernel
theorem d_Tr_closeRow_20 : decode b_Tr_closeRow 20 = .ok (.if_icmp .eq 33, 3) := by decide +kernel
theorem d_Tr_closeRow_23 : decode b_Tr_closeRow 23 = .ok (.aload_n 0, 1) := by decide +kernel
theorem d_Tr_closeRow_24 : decode b_Tr_closeRow 24 = .ok (.iload_n 1, 1) := by decide +kernel
theorem d_Tr_closeRow_25 : decode b_Tr_closeRow 25 = .ok (.iload_n 2, 1) := by decide +kernel
theorem d_Tr_closeRow_26 : decode b_Tr_closeRow 26 = .ok (.invokevirtual 70, 3) := by decide +kernel
theorem d_Tr_closeRow_29 : decode b_Tr_closeRow 29 = .ok (.goto 24, 3) := by decide +kernel
theorem d_Tr_closeRow_32 : decode b_Tr_closeRow 32 = .ok (.iload_n 3, 1) := by decide +kernel
theorem d_Tr_closeRow_33 : decode b_Tr_closeRow 33 = .ok (.ifCond .ne 8, 3) := by decide +kernel
theorem d_Tr_closeRow_36 : decode b_Tr_closeRow 36 = .ok (.iload_n 2, 1) := by decide +kernel
theorem d_Tr_closeRow_37 : decode b_Tr_closeRow 37 = .ok (.iconst 2, 1) := by decide +kernel
theorem d_Tr_closeRow_38 : decode b_Tr_closeRow 38 = .ok (.if_icmp .ne 15, 3) := by decide +kernel
theorem d_Tr_closeRow_41 : decode b_Tr_closeRow 41 = .ok (.aload_n 0, 1) := by decide +kernel
theorem d_Tr_closeRow_42 : decode b_Tr_closeRow 42 = .ok (.dup, 1) := by decide +kernel
theorem d_Tr_closeRow_43 : decode b_Tr_closeRow 43 = .ok (.getfield 54, 3) := by decide +kernel
theorem d_Tr_closeRow_46 : decode b_Tr_closeRow 46 = .ok (.lconst 1, 1) := by decide +kernel
theorem d_Tr_closeRow_47 : decode b_Tr_closeRow 47 = .ok (.iload_n 1, 1) := by decide +kernel
theorem d_Tr_closeRow_48 : decode b_Tr_closeRow 48 = .ok (.lshl, 1) := by decide +kernel
theorem d_Tr_closeRow_49 : decode b_Tr_closeRow 49 = .ok (.lor, 1) := by decide +kernel
theorem d_Tr_closeRow_50 : decode b_Tr_closeRow 50 = .ok (.putfield 54, 3) := by decide +kernel
theorem d_Tr_closeRow_53 : decode b_Tr_closeRow 53 = .ok (.return_, 1) := by decide +kernel
theorem d_Tr_kid_0 : decode b_Tr_kid 0 = .ok (.aload_n 0, 1) := by decide +kernel
theorem d_Tr_kid_1 : decode b_Tr_kid 1 = .ok (.getfield 34, 3) := by decide +kernel
theorem d_Tr_kid_4 : decode b_Tr_kid 4 = .ok (.aload_n 0, 1) := by decide +kernel
theorem d_Tr_kid_5 : decode b_Tr_kid 5 = .ok (.getfield 37, 3) := by decide +kernel
theorem d_Tr_kid_8 : decode b_Tr_kid 8 = .ok (.iload_n 1, 1) := by decide +kernel
theorem d_Tr_kid_9 : decode b_Tr_kid 9 = .ok (.iaload, 1) := by decide +kernel
theorem d_Tr_kid_10 : decode b_Tr_kid 10 = .ok (.iload_n 2, 1) := by decide +kernel
theorem d_Tr_kid_11 : decode b_Tr_kid 11 = .ok (.iadd, 1) := by decide +kernel
theorem d_Tr_kid_12 : decode b_Tr_kid 12 = .ok (.iaload, 1) := by decide +kernel
theorem d_Tr_kid_13 : decode b_Tr_kid 13 = .ok (.ireturn, 1) := by decide +kernel
theorem d_Tr_kidBefore_0 : decode b_Tr_kidBefore 0 = .ok (.aload_n 0, 1) := by decide +kernel
theorem d_Tr_kidBefore_1 : decode b_Tr_kidBefore 1 = .ok (.getfield 40, 3) := by decide +kernel
theorem d_Tr_kidBefore_4 : decode b_Tr_kidBefore 4 = .ok (.iload_n 1, 1) := by decide +kernel
theorem d_Tr_kidBefore_5 : decode b_Tr_kidBefore 5 = .ok (.iaload, 1) := by decide +kernel
theorem d_Tr_kidBefore_6 : decode b_Tr_kidBefore 6 = .ok (.aload_n 0, 1) := by decide +kernel
theorem d_Tr_kidBefore_7 : decode b_Tr_kidBefore 7 = .ok (.getfield 37, 3) := by decide +kernel
theorem d_Tr_kidBefore_10 : decode b_Tr_kidBefore 10 = .ok (.aload_n 0, 1) := by decide +kernel
theorem d_Tr_kidBefore_11 : decode b_Tr_kidBefore 11 = .ok (.getfield 21, 3) := by decide +kernel
theorem d_Tr_kidBefore_14 : decode b_Tr_kidBefore 14 = .ok (.iload_n 1, 1) := by decide +kernel
theorem d_Tr_kidBefore_15 : decode b_Tr_kidBefore 15 = .ok (.iaload, 1) := by decide +kernel
theorem d_Tr_kidBefore_16 : decode b_Tr_kidBefore 16 = .ok (.iaload, 1) := by decide +kernel
theorem d_Tr_kidBefore_17 : decode b_Tr_kidBefore 17 = .ok (.if_icmp .ne 7, 3) := by decide +kernel
theorem d_Tr_kidBefore_20 : decode b_Tr_kidBefore 20 = .ok (.iconst (-1), 1) := by decide +kernel
theorem d_Tr_kidBefore_21 : decode b_Tr_kidBefore 21 = .ok (.goto 16, 3) := by decide +kernel
theorem d_Tr_kidBefore_24 : decode b_Tr_kidBefore 24 = .ok (.aload_n 0, 1) := by decide +kernel
theorem d_Tr_kidBefore_25 : decode b_Tr_kidBefore 25 = .ok (.getfield 34, 3) := by decide +kernel
theorem d_Tr_kidBefore_28 : decode b_Tr_kidBefore 28 = .ok (.aload_n 0, 1) := by decide +kernel
theorem d_Tr_kidBefore_29 : decode b_Tr_kidBefore 29 = .ok (.getfield 40, 3) := by decide +kernel
theorem d_Tr_kidBefore_32 : decode b_Tr_kidBefore 32 = .ok (.iload_n 1, 1) := by decide +kernel
theorem d_Tr_kidBefore_33 : decode b_Tr_kidBefore 33 = .ok (.iaload, 1) := by decide +kernel
theorem d_Tr_kidBefore_34 : decode b_Tr_kidBefore 34 = .ok (.iconst 1, 1) := by decide +kernel
theorem d_Tr_kidBefore_35 : decode b_Tr_kidBefore 35 = .ok (.isub, 1) := by decide +kernel
theorem d_Tr_kidBefore_36 : decode b_Tr_kidBefore 36 = .ok (.iaload, 1) := by decide +kernel
theorem d_Tr_kidBefore_37 : decode b_Tr_kidBefore 37 = .ok (.ireturn, 1) := by decide +kernel
theorem d_Tr_hasDefault_0 : decode b_Tr_hasDefault 0 = .ok (.aload_n 0, 1) := by decide +kernel
theorem d_Tr_hasDefault_1 : decode b_Tr_hasDefault 1 = .ok (.getfield 54, 3) := by decide +kernel
theorem d_Tr_hasDefault_4 : decode b_Tr_hasDefault 4 = .ok (.iload_n 1, 1) := by decide +kernel
theorem d_Tr_hasDefault_5 : decode b_Tr_hasDefault 5 = .ok (.invokestatic 61, 3) := by decide +kernel
theorem d_Tr_hasDefault_8 : decode b_Tr_hasDefault 8 = .ok (.ireturn, 1) := by decide +kernel
theorem d_Tr_testOf_0 : decode b_Tr_testOf 0 = .ok (.aload_n 0, 1) := by decide +kernel
theorem d_Tr_testOf_1 : decode b_Tr_testOf 1 = .ok (.getfield 15, 3) := by decide +kernel
theorem d_Tr_testOf_4 : decode b_Tr_testOf 4 = .ok (.iload_n 1, 1) := by decide +kernel
theorem d_Tr_testOf_5 : decode b_Tr_testOf 5 = .ok (.iaload, 1) := by decide +kernel
theorem d_Tr_testOf_6 : decode b_Tr_testOf 6 = .ok (.iconst 3, 1) := by decide +kernel
theorem d_Tr_testOf_7 : decode b_Tr_testOf 7 = .ok (.if_icmp .ne 7, 3) := by decide +kernel
theorem d_Tr_testOf_10 : decode b_Tr_testOf 10 = .ok (.iconst 1, 1) := by decide +kernel
theorem d_Tr_testOf_11 : decode b_Tr_testOf 11 = .ok (.goto 9, 3) := by decide +kernel
theorem d_Tr_testOf_14 : decode b_Tr_testOf 14 = .ok (.aload_n 0, 1) := by decide +kernel
theorem d_Tr_testOf_15 : decode b_Tr_testOf 15 = .ok (.getfield 15, 3) := by decide +kernel
theorem d_Tr_testOf_18 : decode b_Tr_testOf 18 = .ok (.iload_n 1, 1) := by decide +kernel
theorem d_Tr_testOf_19 : decode b_Tr_testOf 19 = .ok (.iaload, 1) := by decide +kernel
theorem d_Tr_testOf_20 : decode b_Tr_testOf 20 = .ok (.ireturn, 1) := by decide +kernel
theorem d_Tr_catchCount_0 : decode b_Tr_catchCount 0 = .ok (.aload_n 0, 1) := by decide +kernel
theorem d_Tr_catchCount_1 : decode b_Tr_catchCount 1 = .ok (.getfield 27, 3) := by decide +kernel
theorem d_Tr_catchCount_4 : decode b_Tr_catchCount 4 = .ok (.iload_n 1, 1) := by decide +kernel
theorem d_Tr_catchCount_5 : decode b_Tr_catchCount 5 = .ok (.iaload, 1) := by decide +kernel
theorem d_Tr_catchCount_6 : decode b_Tr_catchCount 6 = .ok (.iconst (-1), 1) := by decide +kernel
theorem d_Tr_catchCount_7 : decode b_Tr_catchCount 7 = .ok (.if_icmp .ne 14, 3) := by decide +kernel
theorem d_Tr_catchCount_10 : decode b_Tr_catchCount 10 = .ok (.aload_n 0, 1) := by decide +kernel
theorem d_Tr_catchCount_11 : decode b_Tr_catchCount 11 = .ok (.getfield 24, 3) := by decide +kernel
theorem d_Tr_catchCount_14 : decode b_Tr_catchCount 14 = .ok (.iload_n 1, 1) := by decide +kernel
theorem d_Tr_catchCount_15 : decode b_Tr_catchCount 15 = .ok (.iaload, 1) := by decide +kernel
theorem d_Tr_catchCount_16 : decode b_Tr_catchCount 16 = .ok (.iconst 1, 1) := by decide +kernel
theorem d_Tr_catchCount_17 : decode b_Tr_catchCount 17 = .ok (.isub, 1) := by decide +kernel
theorem d_Tr_catchCount_18 : decode b_Tr_catchCount 18 = .ok (.goto 11, 3) := by decide +kernel
theorem d_Tr_catchCount_21 : decode b_Tr_catchCount 21 = .ok (.aload_n 0, 1) := by decide +kernel
theorem d_Tr_catchCount_22 : decode b_Tr_catchCount 22 = .ok (.getfield 24, 3) := by decide +kernel
theorem d_Tr_catchCount_25 : decode b_Tr_catchCount 25 = .ok (.iload_n 1, 1) := by decide +kernel
theorem d_Tr_catchCount_26 : decode b_Tr_catchCount 26 = .ok (.iaload, 1) := by decide +kernel
theorem d_Tr_catchCount_27 : decode b_Tr_catchCount 27 = .ok (.iconst 2, 1) := by decide +kernel
theorem d_Tr_catchCount_28 : decode b_Tr_catchCount 28 = .ok (.isub, 1) := by decide +kernel
theorem d_Tr_catchCount_29 : decode b_Tr_catchCount 29 = .ok (.ireturn, 1) := by decide +kernel
theorem d_Tr_isCatch_0 : decode b_Tr_isCatch 0 = .ok (.aload_n 0, 1) := by decide +kernel
theorem d_Tr_isCatch_1 : decode b_Tr_isCatch 1 = .ok (.getfield 21, 3) := by decide +kernel
theorem d_Tr_isCatch_4 : decode b_Tr_isCatch 4 = .ok (.iload_n 1, 1) := by decide +kernel
theorem d_Tr_isCatch_5 : decode b_Tr_isCatch 5 = .ok (.iaload, 1) := by decide +kernel
theorem d_Tr_isCatch_6 : decode b_Tr_isCatch 6 = .ok (.iconst (-1), 1) := by decide +kernel
theorem d_Tr_isCatch_7 : decode b_Tr_isCatch 7 = .ok (.if_icmp .eq 33, 3) := by decide +kernel
theorem d_Tr_isCatch_10 : decode b_Tr_isCatch 10 = .ok (.aload_n 0, 1) := by decide +kernel
theorem d_Tr_isCatch_11 : decode b_Tr_isCatch 11 = .ok (.getfield 9, 3) := by decide +kernel
theorem d_Tr_isCatch_14 : decode b_Tr_isCatch 14 = .ok (.aload_n 0, 1) := by decide +kernel
theorem d_Tr_isCatch_15 : decode b_Tr_isCatch 15 = .ok (.getfield 21, 3) := by decide +kernel
theorem d_Tr_isCatch_18 : decode b_Tr_isCatch 18 = .ok (.iload_n 1, 1) := by decide +kernel
theorem d_Tr_isCatch_19 : decode b_Tr_isCatch 19 = .ok (.iaload, 1) := by decide +kernel
theorem d_Tr_isCatch_20 : decode b_Tr_isCatch 20 = .ok (.iaload, 1) := by decide +kernel
theorem d_Tr_isCatch_21 : decode b_Tr_isCatch 21 = .ok (.bipush 16, 2) := by decide +kernel
theorem d_Tr_isCatch_23 : decode b_Tr_isCatch 23 = .ok (.if_icmp .ne 17, 3) := by decide +kernel
theorem d_Tr_isCatch_26 : decode b_Tr_isCatch 26 = .ok (.aload_n 0, 1) := by decide +kernel
theorem d_Tr_isCatch_27 : decode b_Tr_isCatch 27 = .ok (.getfield 18, 3) := by decide +kernel
theorem d_Tr_isCatch_30 : decode b_Tr_isCatch 30 = .ok (.iload_n 1, 1) := by decide +kernel
theorem d_Tr_isCatch_31 : decode b_Tr_isCatch 31 = .ok (.iaload, 1) := by decide +kernel
theorem d_Tr_isCatch_32 : decode b_Tr_isCatch 32 = .ok (.iconst (-1), 1) := by decide +kernel
theorem d_Tr_isCatch_33 : decode b_Tr_isCatch 33 = .ok (.if_icmp .eq 7, 3) := by decide +kernel
theorem d_Tr_isCatch_36 : decode b_Tr_isCatch 36 = .ok (.iconst 1, 1) := by decide +kernel
theorem d_Tr_isCatch_37 : decode b_Tr_isCatch 37 = .ok (.goto 4, 3) := by decide +kernel
theorem d_Tr_isCatch_40 : decode b_Tr_isCatch 40 = .ok (.iconst 0, 1) := by decide +kernel
theorem d_Tr_isCatch_41 : decode b_Tr_isCatch 41 = .ok (.ireturn, 1) := by decide +kernel
theorem d_Rw_init_0 : decode b_Rw_init 0 = .ok (.aload_n 0, 1) := by decide +kernel
theorem d_Rw_init_1 : decode b_Rw_init 1 = .ok (.invokespecial 3, 3) := by decide +kernel
theorem d_Rw_init_4 : decode b_Rw_init 4 = .ok (.aload_n 0, 1) := by decide +kernel
theorem d_Rw_init_5 : decode b_Rw_init 5 = .ok (.iconst (-1), 1) := by decide +kernel
theorem d_Rw_init_6 : decode b_Rw_init 6 = .ok (.putfield 9, 3) := by decide +kernel
theorem d_Rw_init_9 : decode b_Rw_init 9 = .ok (.aload_n 0, 1) := by decide +kernel
theorem d_Rw_init_10 : decode b_Rw_init 10 = .ok (.bipush 60, 2) := by decide +kernel
theorem d_Rw_init_12 : decode b_Rw_init 12 = .ok (.newarray .int, 2) := by decide +kernel
theorem d_Rw_init_14 : decode b_Rw_init 14 = .ok (.putfield 15, 3) := by decide +kernel
theorem d_Rw_init_17 : decode b_Rw_init 17 = .ok (.return_, 1) := by decide +kernel
theorem d_Rw_isOpen_0 : decode b_Rw_isOpen 0 = .ok (.aload_n 0, 1) := by decide +kernel
theorem d_Rw_isOpen_1 : decode b_Rw_isOpen 1 = .ok (.getfield 9, 3) := by decide +kernel
theorem d_Rw_isOpen_4 : decode b_Rw_isOpen 4 = .ok (.iconst (-1), 1) := by decide +kernel
theorem d_Rw_isOpen_5 : decode b_Rw_isOpen 5 = .ok (.if_icmp .eq 7, 3) := by decide +kernel
theorem d_Rw_isOpen_8 : decode b_Rw_isOpen 8 = .ok (.iconst 1, 1) := by decide +kernel
theorem d_Rw_isOpen_9 : decode b_Rw_isOpen 9 = .ok (.goto 4, 3) := by decide +kernel
theorem d_Rw_isOpen_12 : decode b_Rw_isOpen 12 = .ok (.iconst 0, 1) := by decide +kernel
theorem d_Rw_isOpen_13 : decode b_Rw_isOpen 13 = .ok (.ireturn, 1) := by decide +kernel
theorem d_Rw_start_0 : decode b_Rw_start 0 = .ok (.aload_n 0, 1) := by decide +kernel
theorem d_Rw_start_1 : decode b_Rw_start 1 = .ok (.iload_n 1, 1) := by decide +kernel
theorem d_Rw_start_2 : decode b_Rw_start 2 = .ok (.putfield 9, 3) := by decide +kernel
theorem d_Rw_start_5 : decode b_Rw_start 5 = .ok (.return_, 1) := by decide +kernel
theorem d_Rw_close_0 : decode b_Rw_close 0 = .ok (.aload_n 0, 1) := by decide +kernel
theorem d_Rw_close_1 : decode b_Rw_close 1 = .ok (.iconst (-1), 1) := by decide +kernel
theorem d_Rw_close_2 : decode b_Rw_close 2 = .ok (.putfield 9, 3) := by decide +kernel
theorem d_Rw_close_5 : decode b_Rw_close 5 = .ok (.aload_n 0, 1) := by decide +kernel
theorem d_Rw_close_6 : decode b_Rw_close 6 = .ok (.iconst 0, 1) := by decide +kernel
theorem d_Rw_close_7 : decode b_Rw_close 7 = .ok (.putfield 19, 3) := by decide +kernel
theorem d_Rw_close_10 : decode b_Rw_close 10 = .ok (.aload_n 0, 1) := by decide +kernel
theorem d_Rw_close_11 : decode b_Rw_close 11 = .ok (.iconst 0, 1) := by decide +kernel
theorem d_Rw_close_12 : decode b_Rw_close 12 = .ok (.putfield 22, 3) := by decide +kernel
theorem d_Rw_close_15 : decode b_Rw_close 15 = .ok (.return_, 1) := by decide +kernel
theorem d_Rw_fitsMark_0 : decode b_Rw_fitsMark 0 = .ok (.iload_n 1, 1) := by decide +kernel
theorem d_Rw_fitsMark_1 : decode b_Rw_fitsMark 1 = .ok (.ifCond .eq 20, 3) := by decide +kernel
theorem d_Rw_fitsMark_4 : decode b_Rw_fitsMark 4 = .ok (.iload_n 1, 1) := by decide +kernel
theorem d_Rw_fitsMark_5 : decode b_Rw_fitsMark 5 = .ok (.iconst 1, 1) := by decide +kernel
theorem d_Rw_fitsMark_6 : decode b_Rw_fitsMark 6 = .ok (.if_icmp .eq 15, 3) := by decide +kernel
theorem d_Rw_fitsMark_9 : decode b_Rw_fitsMark 9 = .ok (.iload_n 1, 1) := by decide +kernel
theorem d_Rw_fitsMark_10 : decode b_Rw_fitsMark 10 = .ok (.iconst 2, 1) := by decide +kernel
theorem d_Rw_fitsMark_11 : decode b_Rw_fitsMark 11 = .ok (.if_icmp .ne 14, 3) := by decide +kernel
theorem d_Rw_fitsMark_14 : decode b_Rw_fitsMark 14 = .ok (.aload_n 0, 1) := by decide +kernel
theorem d_Rw_fitsMark_15 : decode b_Rw_fitsMark 15 = .ok (.getfield 22, 3) := by decide +kernel
theorem d_Rw_fitsMark_18 : decode b_Rw_fitsMark 18 = .ok (.ifCond .ne 7, 3) := by decide +kernel
theorem d_Rw_fitsMark_21 : decode b_Rw_fitsMark 21 = .ok (.iconst 1, 1) := by decide +kernel
theorem d_Rw_fitsMark_22 : decode b_Rw_fitsMark 22 = .ok (.goto 4, 3) := by decide +kernel
theorem d_Rw_fitsMark_25 : decode b_Rw_fitsMark 25 = .ok (.iconst 0, 1) := by decide +kernel
theorem d_Rw_fitsMark_26 : decode b_Rw_fitsMark 26 = .ok (.ireturn, 1) := by decide +kernel
theorem d_Rw_add_0 : decode b_Rw_add 0 = .ok (.aload_n 0, 1) := by decide +kernel
theorem d_Rw_add_1 : decode b_Rw_add 1 = .ok (.getfield 15, 3) := by decide +kernel
theorem d_Rw_add_4 : decode b_Rw_add 4 = .ok (.aload_n 0, 1) := by decide +kernel
theorem d_Rw_add_5 : decode b_Rw_add 5 = .ok (.getfield 19, 3) := by decide +kernel
theorem d_Rw_add_8 : decode b_Rw_add 8 = .ok (.iload_n 1, 1) := by decide +kernel
theorem d_Rw_add_9 : decode b_Rw_add 9 = .ok (.iastore, 1) := by decide +kernel
theorem d_Rw_add_10 : decode b_Rw_add 10 = .ok (.aload_n 0, 1) := by decide +kernel
theorem d_Rw_add_11 : decode b_Rw_add 11 = .ok (.dup, 1) := by decide +kernel
theorem d_Rw_add_12 : decode b_Rw_add 12 = .ok (.getfield 19, 3) := by decide +kernel
theorem d_Rw_add_15 : decode b_Rw_add 15 = .ok (.iconst 1, 1) := by decide +kernel
theorem d_Rw_add_16 : decode b_Rw_add 16 = .ok (.iadd, 1) := by decide +kernel
theorem d_Rw_add_17 : decode b_Rw_add 17 = .ok (.putfield 19, 3) := by decide +kernel
theorem d_Rw_add_20 : decode b_Rw_add 20 = .ok (.aload_n 0, 1) := by decide +kernel
theorem d_Rw_add_21 : decode b_Rw_add 21 = .ok (.getfield 9, 3) := by decide +kernel
theorem d_Rw_add_24 : decode b_Rw_add 24 = .ok (.bipush 16, 2) := by decide +kernel
theorem d_Rw_add_26 : decode b_Rw_add 26 = .ok (.if_icmp .eq 13, 3) := by decide +kernel
theorem d_Rw_add_29 : decode b_Rw_add 29 = .ok (.iload_n 2, 1) := by decide +kernel
theorem d_Rw_add_30 : decode b_Rw_add 30 = .ok (.iconst 2, 1) := by decide +kernel
theorem d_Rw_add_31 : decode b_Rw_add 31 = .ok (.if_icmp .ne 8, 3) := by decide +kernel
theorem d_Rw_add_34 : decode b_Rw_add 34 = .ok (.aload_n 0, 1) := by decide +kernel
theorem d_Rw_add_35 : decode b_Rw_add 35 = .ok (.iconst 1, 1) := by decide +kernel
theorem d_Rw_add_36 : decode b_Rw_add 36 = .ok (.putfield 22, 3) := by decide +kernel
theorem d_Rw_add_39 : decode b_Rw_add 39 = .ok (.return_, 1) := by decide +kernel
theorem d_Fl_init_0 : decode b_Fl_init 0 = .ok (.aload_n 0, 1) := by decide +kernel
theorem d_Fl_init_1 : decode b_Fl_init 1 = .ok (.invokespecial 3, 3) := by decide +kernel
theorem d_Fl_init_4 : decode b_Fl_init 4 = .ok (.aload_n 0, 1) := by decide +kernel
theorem d_Fl_init_5 : decode b_Fl_init 5 = .ok (.bipush 60, 2) := by decide +kernel
theorem d_Fl_init_7 : decode b_Fl_init 7 = .ok (.newarray .long, 2) := by decide +kernel
theorem d_Fl_init_9 : decode b_Fl_init 9 = .ok (.putfield 9, 3) := by decide +kernel
theorem d_Fl_init_12 : decode b_Fl_init 12 = .ok (.aload_n 0, 1) := by decide +kernel
theorem d_Fl_init_13 : decode b_Fl_init 13 = .ok (.bipush 60, 2) := by decide +kernel
theorem d_Fl_init_15 : decode b_Fl_init 15 = .ok (.newarray .long, 2) := by decide +kernel
theorem d_Fl_init_17 : decode b_Fl_init 17 = .ok (.putfield 15, 3) := by decide +kernel
theorem d_Fl_init_20 : decode b_Fl_init 20 = .ok (.aload_n 0, 1) := by decide +kernel
theorem d_Fl_init_21 : decode b_Fl_init 21 = .ok (.bipush 60, 2) := by decide +kernel
theorem d_Fl_init_23 : decode b_Fl_init 23 = .ok (.newarray .int, 2) := by decide +kernel
theorem d_Fl_init_25 : decode b_Fl_init 25 = .ok (.putfield 18, 3) := by decide +kernel
theorem d_Fl_init_28 : decode b_Fl_init 28 = .ok (.aload_n 0, 1) := by decide +kernel
theorem d_Fl_init_29 : decode b_Fl_init 29 = .ok (.aload_n 1, 1) := by decide +kernel
theorem d_Fl_init_30 : decode b_Fl_init 30 = .ok (.putfield 22, 3) := by decide +kernel
theorem d_Fl_init_33 : decode b_Fl_init 33 = .ok (.aload_n 0, 1) := by decide +kernel
theorem d_Fl_init_34 : decode b_Fl_init 34 = .ok (.aload_n 2, 1) := by decide +kernel
theorem d_Fl_init_35 : decode b_Fl_init 35 = .ok (.putfield 26, 3) := by decide +kernel
theorem d_Fl_init_38 : decode b_Fl_init 38 = .ok (.return_, 1) := by decide +kernel
theorem d_Fl_forget_0 : decode b_Fl_forget 0 = .ok (.aload_n 0, 1) := by decide +kernel
theorem d_Fl_forget_1 : decode b_Fl_forget 1 = .ok (.lconst 0, 1) := by decide +kernel
theorem d_Fl_forget_2 : decode b_Fl_forget 2 = .ok (.putfield 30, 3) := by decide +kernel
theorem d_Fl_forget_5 : decode b_Fl_forget 5 = .ok (.aload_n 0, 1) := by decide +kernel
theorem d_Fl_forget_6 : decode b_Fl_forget 6 = .ok (.lconst 0, 1) := by decide +kernel
theorem d_Fl_forget_7 : decode b_Fl_forget 7 = .ok (.putfield 34, 3) := by decide +kernel
theorem d_Fl_forget_10 : decode b_Fl_forget 10 = .ok (.aload_n 0, 1) := by decide +kernel
theorem d_Fl_forget_11 : decode b_Fl_forget 11 = .ok (.lconst 0, 1) := by decide +kernel
theorem d_Fl_forget_12 : decode b_Fl_forget 12 = .ok (.putfield 37, 3) := by decide +kernel
theorem d_Fl_forget_15 : decode b_Fl_forget 15 = .ok (.aload_n 0, 1) := by decide +kernel
theorem d_Fl_forget_16 : decode b_Fl_forget 16 = .ok (.lconst 0, 1) := by decide +kernel
theorem d_Fl_forget_17 : decode b_Fl_forget 17 = .ok (.putfield 40, 3) := by decide +kernel
theorem d_Fl_forget_20 : decode b_Fl_forget 20 = .ok (.return_, 1) := by decide +kernel
theorem d_Fl_flow_0 : decode b_Fl_flow 0 = .ok (.aload_n 0, 1) := by decide +kernel
theorem d_Fl_flow_1 : decode b_Fl_flow 1 = .ok (.invokevirtual 43, 3) := by decide +kernel
theorem d_Fl_flow_4 : decode b_Fl_flow 4 = .ok (.iload_n 2, 1) := by decide +kernel
theorem d_Fl_flow_5 : decode b_Fl_flow 5 = .ok (.iconst 1, 1) := by decide +kernel
theorem d_Fl_flow_6 : decode b_Fl_flow 6 = .ok (.isub, 1) := by decide +kernel
theorem d_Fl_flow_7 : decode b_Fl_flow 7 = .ok (.istore 4, 2) := by decide +kernel
theorem d_Fl_flow_9 : decode b_Fl_flow 9 = .ok (.iload 4, 2) := by decide +kernel
theorem d_Fl_flow_11 : decode b_Fl_flow 11 = .ok (.ifCond .lt 23, 3) := by decide +kernel
theorem d_Fl_flow_14 : decode b_Fl_flow 14 = .ok (.aload_n 0, 1) := by decide +kernel
theorem d_Fl_flow_15 : decode b_Fl_flow 15 = .ok (.aload_n 1, 1) := by decide +kernel
theorem d_Fl_flow_16 : decode b_Fl_flow 16 = .ok (.iload 4, 2) := by decide +kernel
theorem d_Fl_flow_18 : decode b_Fl_flow 18 = .ok (.iaload, 1) := by decide +kernel
theorem d_Fl_flow_19 : decode b_Fl_flow 19 = .ok (.aload_n 3, 1) := by decide +kernel
theorem d_Fl_flow_20 : decode b_Fl_flow 20 = .ok (.aload_n 1, 1) := by decide +kernel
theorem d_Fl_flow_21 : decode b_Fl_flow 21 = .ok (.iload 4, 2) := by decide +kernel
theorem d_Fl_flow_23 : decode b_Fl_flow 23 = .ok (.iaload, 1) := by decide +kernel
theorem d_Fl_flow_24 : decode b_Fl_flow 24 = .ok (.iaload, 1) := by decide +kernel
theorem d_Fl_flow_25 : decode b_Fl_flow 25 = .ok (.invokevirtual 46, 3) := by decide +kernel
theorem d_Fl_flow_28 : decode b_Fl_flow 28 = .ok (.iinc 4 (-1), 3) := by decide +kernel
theorem d_Fl_flow_31 : decode b_Fl_flow 31 = .ok (.goto (-22), 3) := by decide +kernel
theorem d_Fl_flow_34 : decode b_Fl_flow 34 = .ok (.iconst 0, 1) := by decide +kernel
theorem d_Fl_flow_35 : decode b_Fl_flow 35 = .ok (.istore 4, 2) := by decide +kernel
theorem d_Fl_flow_37 : decode b_Fl_flow 37 = .ok (.iload 4, 2) := by decide +kernel
theorem d_Fl_flow_39 : decode b_Fl_flow 39 = .ok (.iload_n 2, 1) := by decide +kernel
theorem d_Fl_flow_40 : decode b_Fl_flow 40 = .ok (.if_icmp .ge 65, 3) := by decide +kernel
theorem d_Fl_flow_43 : decode b_Fl_flow 43 = .ok (.aload_n 1, 1) := by decide +kernel
theorem d_Fl_flow_44 : decode b_Fl_flow 44 = .ok (.iload 4, 2) := by decide +kernel
theorem d_Fl_flow_46 : decode b_Fl_flow 46 = .ok (.iaload, 1) := by decide +kernel
theorem d_Fl_flow_47 : decode b_Fl_flow 47 = .ok (.istore 5, 2) := by decide +kernel
theorem d_Fl_flow_49 : decode b_Fl_flow 49 = .ok (.iload 4, 2) := by decide +kernel
theorem d_Fl_flow_51 : decode b_Fl_flow 51 = .ok (.ifCond .eq 35, 3) := by decide +kernel
theorem d_Fl_flow_54 : decode b_Fl_flow 54 = .ok (.aload_n 0, 1) := by decide +kernel
theorem d_Fl_flow_55 : decode b_Fl_flow 55 = .ok (.getfield 34, 3) := by decide +kernel
theorem d_Fl_flow_58 : decode b_Fl_flow 58 = .ok (.aload_n 0, 1) := by decide +kernel
theorem d_Fl_flow_59 : decode b_Fl_flow 59 = .ok (.getfield 22, 3) := by decide +kernel
theorem d_Fl_flow_62 : decode b_Fl_flow 62 = .ok (.getfield 50, 3) := by decide +kernel
theorem d_Fl_flow_65 : decode b_Fl_flow 65 = .ok (.iload 5, 2) := by decide +kernel
theorem d_Fl_flow_67 : decode b_Fl_flow 67 = .ok (.iaload, 1) := by decide +kernel
theorem d_Fl_flow_68 : decode b_Fl_flow 68 = .ok (.invokestatic 55, 3) := by decide +kernel
theorem d_Fl_flow_71 : decode b_Fl_flow 71 = .ok (.ifCond .eq 28, 3) := by decide +kernel
theorem d_Fl_flow_74 : decode b_Fl_flow 74 = .ok (.aload_n 0, 1) := by decide +kernel
theorem d_Fl_flow_75 : decode b_Fl_flow 75 = .ok (.getfield 30, 3) := by decide +kernel
theorem d_Fl_flow_78 : decode b_Fl_flow 78 = .ok (.iload 5, 2) := by decide +kernel
theorem d_Fl_flow_80 : decode b_Fl_flow 80 = .ok (.invokestatic 55, 3) := by decide +kernel
theorem d_Fl_flow_83 : decode b_Fl_flow 83 = .ok (.ifCond .eq 16, 3) := by decide +kernel
theorem d_Fl_flow_86 : decode b_Fl_flow 86 = .ok (.aload_n 0, 1) := by decide +kernel
theorem d_Fl_flow_87 : decode b_Fl_flow 87 = .ok (.dup, 1) := by decide +kernel
theorem d_Fl_flow_88 : decode b_Fl_flow 88 = .ok (.getfield 34, 3) := by decide +kernel
theorem d_Fl_flow_91 : decode b_Fl_flow 91 = .ok (.lconst 1, 1) := by decide +kernel
theorem d_Fl_flow_92 : decode b_Fl_flow 92 = .ok (.iload 5, 2) := by decide +kernel
theorem d_Fl_flow_94 : decode b_Fl_flow 94 = .ok (.lshl, 1) := by decide +kernel
theorem d_Fl_flow_95 : decode b_Fl_flow 95 = .ok (.lor, 1) := by decide +kernel
theorem d_Fl_flow_96 : decode b_Fl_flow 96 = .ok (.putfield 34, 3) := by decide +kernel
theorem d_Fl_flow_99 : decode b_Fl_flow 99 = .ok (.iinc 4 1, 3) := by decide +kernel
theorem d_Fl_flow_102 : decode b_Fl_flow 102 = .ok (.goto (-65), 3) := by decide +kernel
theorem d_Fl_flow_105 : decode b_Fl_flow 105 = .ok (.return_, 1) := by decide +kernel
theorem d_Fl_settle_0 : decode b_Fl_settle 0 = .ok (.aload_n 0, 1) := by decide +kernel
theorem d_Fl_settle_1 : decode b_Fl_settle 1 = .ok (.iload_n 1, 1) := by decide +kernel
theorem d_Fl_settle_2 : decode b_Fl_settle 2 = .ok (.invokevirtual 59, 3) := by decide +kernel
theorem d_Fl_settle_5 : decode b_Fl_settle 5 = .ok (.aload_n 0, 1) := by decide +kernel
theorem d_Fl_settle_6 : decode b_Fl_settle 6 = .ok (.getfield 22, 3) := by decide +kernel
theorem d_Fl_settle_9 : decode b_Fl_settle 9 = .ok (.getfield 63, 3) := by decide +kernel
theorem d_Fl_settle_12 : decode b_Fl_settle 12 = .ok (.iload_n 1, 1) := by decide +kernel
theorem d_Fl_settle_13 : decode b_Fl_settle 13 = .ok (.iaload, 1) := by decide +kernel
theorem d_Fl_settle_14 : decode b_Fl_settle 14 = .ok (.tableswitch 235 0 16 #[82, 97, 148, 170, 235, 235, 235, 235, 235, 235, 185, 206, 235, 235, 235, 235, 227], 82) := by decide +kernel
theorem d_Fl_settle_96 : decode b_Fl_settle 96 = .ok (.aload_n 0, 1) := by decide +kernel
theorem d_Fl_settle_97 : decode b_Fl_settle 97 = .ok (.dup, 1) := by decide +kernel
theorem d_Fl_settle_98 : decode b_Fl_settle 98 = .ok (.getfield 37, 3) := by decide +kernel
theorem d_Fl_settle_101 : decode b_Fl_settle 101 = .ok (.lconst 1, 1) := by decide +kernel
theorem d_Fl_settle_102 : decode b_Fl_settle 102 = .ok (.iload_n 1, 1) := by decide +kernel
theorem d_Fl_settle_103 : decode b_Fl_settle 103 = .ok (.lshl, 1) := by decide +kernel
theorem d_Fl_settle_104 : decode b_Fl_settle 104 = .ok (.lor, 1) := by decide +kernel
theorem d_Fl_settle_105 : decode b_Fl_settle 105 = .ok (.putfield 37, 3) := by decide +kernel
theorem d_Fl_settle_108 : decode b_Fl_settle 108 = .ok (.goto 146, 3) := by decide +kernel
theorem d_Fl_settle_111 : decode b_Fl_settle 111 = .ok (.aload_n 0, 1) := by decide +kernel
theorem d_Fl_settle_112 : decode b_Fl_settle 112 = .ok (.dup, 1) := by decide +kernel
theorem d_Fl_settle_113 : decode b_Fl_settle 113 = .ok (.getfield 37, 3) := by decide +kernel
theorem d_Fl_settle_116 : decode b_Fl_settle 116 = .ok (.lconst 1, 1) := by decide +kernel
theorem d_Fl_settle_117 : decode b_Fl_settle 117 = .ok (.iload_n 1, 1) := by decide +kernel
theorem d_Fl_settle_118 : decode b_Fl_settle 118 = .ok (.lshl, 1) := by decide +kernel
theorem d_Fl_settle_119 : decode b_Fl_settle 119 = .ok (.lor, 1) := by decide +kernel
theorem d_Fl_settle_120 : decode b_Fl_settle 120 = .ok (.putfield 37, 3) := by decide +kernel
theorem d_Fl_settle_123 : decode b_Fl_settle 123 = .ok (.aload_n 0, 1) := by decide +kernel
theorem d_Fl_settle_124 : decode b_Fl_settle 124 = .ok (.getfield 18, 3) := by decide +kernel
theorem d_Fl_settle_127 : decode b_Fl_settle 127 = .ok (.iload_n 1, 1) := by decide +kernel
theorem d_Fl_settle_128 : decode b_Fl_settle 128 = .ok (.aload_n 0, 1) := by decide +kernel
theorem d_Fl_settle_129 : decode b_Fl_settle 129 = .ok (.getfield 22, 3) := by decide +kernel
theorem d_Fl_settle_132 : decode b_Fl_settle 132 = .ok (.getfield 66, 3) := by decide +kernel
theorem d_Fl_settle_135 : decode b_Fl_settle 135 = .ok (.iload_n 1, 1) := by decide +kernel
theorem d_Fl_settle_136 : decode b_Fl_settle 136 = .ok (.iaload, 1) := by decide +kernel
theorem d_Fl_settle_137 : decode b_Fl_settle 137 = .ok (.iconst (-1), 1) := by decide +kernel
theorem d_Fl_settle_138 : decode b_Fl_settle 138 = .ok (.if_icmp .ne 7, 3) := by decide +kernel
theorem d_Fl_settle_141 : decode b_Fl_settle 141 = .ok (.iconst 0, 1) := by decide +kernel
theorem d_Fl_settle_142 : decode b_Fl_settle 142 = .ok (.goto 16, 3) := by decide +kernel
theorem d_Fl_settle_145 : decode b_Fl_settle 145 = .ok (.aload_n 0, 1) := by decide +kernel
theorem d_Fl_settle_146 : decode b_Fl_settle 146 = .ok (.aload_n 0, 1) := by decide +kernel
theorem d_Fl_settle_147 : decode b_Fl_settle 147 = .ok (.getfield 22, 3) := by decide +kernel
theorem d_Fl_settle_150 : decode b_Fl_settle 150 = .ok (.getfield 66, 3) := by decide +kernel
theorem d_Fl_settle_153 : decode b_Fl_settle 153 = .ok (.iload_n 1, 1) := by decide +kernel
theorem d_Fl_settle_154 : decode b_Fl_settle 154 = .ok (.iaload, 1) := by decide +kernel
theorem d_Fl_settle_155 : decode b_Fl_settle 155 = .ok (.invokevirtual 69, 3) := by decide +kernel
theorem d_Fl_settle_158 : decode b_Fl_settle 158 = .ok (.iastore, 1) := by decide +kernel
theorem d_Fl_settle_159 : decode b_Fl_settle 159 = .ok (.goto 95, 3) := by decide +kernel
theorem d_Fl_settle_162 : decode b_Fl_settle 162 = .ok (.aload_n 0, 1) := by decide +kernel
theorem d_Fl_settle_163 : decode b_Fl_settle 163 = .ok (.getfield 18, 3) := by decide +kernel
theorem d_Fl_settle_166 : decode b_Fl_settle 166 = .ok (.iload_n 1, 1) := by decide +kernel
theorem d_Fl_settle_167 : decode b_Fl_settle 167 = .ok (.aload_n 0, 1) := by decide +kernel
theorem d_Fl_settle_168 : decode b_Fl_settle 168 = .ok (.aload_n 0, 1) := by decide +kernel
theorem d_Fl_settle_169 : decode b_Fl_settle 169 = .ok (.getfield 22, 3) := by decide +kernel
theorem d_Fl_settle_172 : decode b_Fl_settle 172 = .ok (.getfield 66, 3) := by decide +kernel
theorem d_Fl_settle_175 : decode b_Fl_settle 175 = .ok (.iload_n 1, 1) := by decide +kernel
theorem d_Fl_settle_176 : decode b_Fl_settle 176 = .ok (.iaload, 1) := by decide +kernel
theorem d_Fl_settle_177 : decode b_Fl_settle 177 = .ok (.invokevirtual 69, 3) := by decide +kernel
theorem d_Fl_settle_180 : decode b_Fl_settle 180 = .ok (.iastore, 1) := by decide +kernel
theorem d_Fl_settle_181 : decode b_Fl_settle 181 = .ok (.goto 73, 3) := by decide +kernel
theorem d_Fl_settle_184 : decode b_Fl_settle 184 = .ok (.aload_n 0, 1) := by decide +kernel
theorem d_Fl_settle_185 : decode b_Fl_settle 185 = .ok (.dup, 1) := by decide +kernel
theorem d_Fl_settle_186 : decode b_Fl_settle 186 = .ok (.getfield 40, 3) := by decide +kernel
theorem d_Fl_settle_189 : decode b_Fl_settle 189 = .ok (.lconst 1, 1) := by decide +kernel
theorem d_Fl_settle_190 : decode b_Fl_settle 190 = .ok (.iload_n 1, 1) := by decide +kernel
theorem d_Fl_settle_191 : decode b_Fl_settle 191 = .ok (.lshl, 1) := by decide +kernel
theorem d_Fl_settle_192 : decode b_Fl_settle 192 = .ok (.lor, 1) := by decide +kernel
theorem d_Fl_settle_193 : decode b_Fl_settle 193 = .ok (.putfield 40, 3) := by decide +kernel
theorem d_Fl_settle_196 : decode b_Fl_settle 196 = .ok (.goto 58, 3) := by decide +kernel
theorem d_Fl_settle_199 : decode b_Fl_settle 199 = .ok (.aload_n 0, 1) := by decide +kernel
theorem d_Fl_settle_200 : decode b_Fl_settle 200 = .ok (.getfield 9, 3) := by decide +kernel
theorem d_Fl_settle_203 : decode b_Fl_settle 203 = .ok (.iload_n 1, 1) := by decide +kernel
theorem d_Fl_settle_204 : decode b_Fl_settle 204 = .ok (.iload_n 2, 1) := by decide +kernel
theorem d_Fl_settle_205 : decode b_Fl_settle 205 = .ok (.iconst (-1), 1) := by decide +kernel
theorem d_Fl_settle_206 : decode b_Fl_settle 206 = .ok (.if_icmp .ne 7, 3) := by decide +kernel
theorem d_Fl_settle_209 : decode b_Fl_settle 209 = .ok (.lconst 0, 1) := by decide +kernel
theorem d_Fl_settle_210 : decode b_Fl_settle 210 = .ok (.goto 6, 3) := by decide +kernel
theorem d_Fl_settle_213 : decode b_Fl_settle 213 = .ok (.lconst 1, 1) := by decide +kernel
theorem d_Fl_settle_214 : decode b_Fl_settle 214 = .ok (.iload_n 2, 1) := by decide +kernel
theorem d_Fl_settle_215 : decode b_Fl_settle 215 = .ok (.lshl, 1) := by decide +kernel
theorem d_Fl_settle_216 : decode b_Fl_settle 216 = .ok (.lastore, 1) := by decide +kernel
theorem d_Fl_settle_217 : decode b_Fl_settle 217 = .ok (.goto 37, 3) := by decide +kernel
theorem d_Fl_settle_220 : decode b_Fl_settle 220 = .ok (.aload_n 0, 1) := by decide +kernel
theorem d_Fl_settle_221 : decode b_Fl_settle 221 = .ok (.getfield 15, 3) := by decide +kernel
theorem d_Fl_settle_224 : decode b_Fl_settle 224 = .ok (.iload_n 1, 1) := by decide +kernel
theorem d_Fl_settle_225 : decode b_Fl_settle 225 = .ok (.iload_n 2, 1) := by decide +kernel
theorem d_Fl_settle_226 : decode b_Fl_settle 226 = .ok (.iconst (-1), 1) := by decide +kernel
theorem d_Fl_settle_227 : decode b_Fl_settle 227 = .ok (.if_icmp .ne 7, 3) := by decide +kernel
theorem d_Fl_settle_230 : decode b_Fl_settle 230 = .ok (.lconst 0, 1) := by decide +kernel
theorem d_Fl_settle_231 : decode b_Fl_settle 231 = .ok (.goto 6, 3) := by decide +kernel
theorem d_Fl_settle_234 : decode b_Fl_settle 234 = .ok (.lconst 1, 1) := by decide +kernel
theorem d_Fl_settle_235 : decode b_Fl_settle 235 = .ok (.iload_n 2, 1) := by decide +kernel
theorem d_Fl_settle_236 : decode b_Fl_settle 236 = .ok (.lshl, 1) := by decide +kernel
theorem d_Fl_settle_237 : decode b_Fl_settle 237 = .ok (.lastore, 1) := by decide +kernel
theorem d_Fl_settle_238 : decode b_Fl_settle 238 = .ok (.goto 16, 3) := by decide +kernel
theorem d_Fl_settle_241 : decode b_Fl_settle 241 = .ok (.aload_n 0, 1) := by decide +kernel
theorem d_Fl_settle_242 : decode b_Fl_settle 242 = .ok (.iload_n 1, 1) := by decide +kernel
theorem d_Fl_settle_243 : decode b_Fl_settle 243 = .ok (.invokevirtual 73, 3) := by decide +kernel
theorem d_Fl_settle_246 : decode b_Fl_settle 246 = .ok (.goto 8, 3) := by decide +kernel
theorem d_Fl_settle_249 : decode b_Fl_settle 249 = .ok (.aload_n 0, 1) := by decide +kernel
theorem d_Fl_settle_250 : decode b_Fl_settle 250 = .ok (.iload_n 1, 1) := by decide +kernel
theorem d_Fl_settle_251 : decode b_Fl_settle 251 = .ok (.invokevirtual 76, 3) := by decide +kernel
theorem d_Fl_settle_254 : decode b_Fl_settle 254 = .ok (.return_, 1) := by decide +kernel
theorem d_Fl_wipe_0 : decode b_Fl_wipe 0 = .ok (.aload_n 0, 1) := by decide +kernel
theorem d_Fl_wipe_1 : decode b_Fl_wipe 1 = .ok (.dup, 1) := by decide +kernel
theorem d_Fl_wipe_2 : decode b_Fl_wipe 2 = .ok (.getfield 37, 3) := by decide +kernel
theorem d_Fl_wipe_5 : decode b_Fl_wipe 5 = .ok (.lconst 1, 1) := by decide +kernel
theorem d_Fl_wipe_6 : decode b_Fl_wipe 6 = .ok (.iload_n 1, 1) := by decide +kernel
theorem d_Fl_wipe_7 : decode b_Fl_wipe 7 = .ok (.lshl, 1) := by decide +kernel
theorem d_Fl_wipe_8 : decode b_Fl_wipe 8 = .ok (.ldc2_w 79, 3) := by decide +kernel
theorem d_Fl_wipe_11 : decode b_Fl_wipe 11 = .ok (.lxor, 1) := by decide +kernel
theorem d_Fl_wipe_12 : decode b_Fl_wipe 12 = .ok (.land, 1) := by decide +kernel
theorem d_Fl_wipe_13 : decode b_Fl_wipe 13 = .ok (.putfield 37, 3) := by decide +kernel
theorem d_Fl_wipe_16 : decode b_Fl_wipe 16 = .ok (.aload_n 0, 1) := by decide +kernel
theorem d_Fl_wipe_17 : decode b_Fl_wipe 17 = .ok (.dup, 1) := by decide +kernel
theorem d_Fl_wipe_18 : decode b_Fl_wipe 18 = .ok (.getfield 40, 3) := by decide +kernel
theorem d_Fl_wipe_21 : decode b_Fl_wipe 21 = .ok (.lconst 1, 1) := by decide +kernel
theorem d_Fl_wipe_22 : decode b_Fl_wipe 22 = .ok (.iload_n 1, 1) := by decide +kernel
theorem d_Fl_wipe_23 : decode b_Fl_wipe 23 = .ok (.lshl, 1) := by decide +kernel
theorem d_Fl_wipe_24 : decode b_Fl_wipe 24 = .ok (.ldc2_w 79, 3) := by decide +kernel
theorem d_Fl_wipe_27 : decode b_Fl_wipe 27 = .ok (.lxor, 1) := by decide +kernel
theorem d_Fl_wipe_28 : decode b_Fl_wipe 28 = .ok (.land, 1) := by decide +kernel
theorem d_Fl_wipe_29 : decode b_Fl_wipe 29 = .ok (.putfield 40, 3) := by decide +kernel
theorem d_Fl_wipe_32 : decode b_Fl_wipe 32 = .ok (.aload_n 0, 1) := by decide +kernel
theorem d_Fl_wipe_33 : decode b_Fl_wipe 33 = .ok (.getfield 9, 3) := by decide +kernel
theorem d_Fl_wipe_36 : decode b_Fl_wipe 36 = .ok (.iload_n 1, 1) := by decide +kernel
theorem d_Fl_wipe_37 : decode b_Fl_wipe 37 = .ok (.lconst 0, 1) := by decide +kernel
theorem d_Fl_wipe_38 : decode b_Fl_wipe 38 = .ok (.lastore, 1) := by decide +kernel
theorem d_Fl_wipe_39 : decode b_Fl_wipe 39 = .ok (.aload_n 0, 1) := by decide +kernel
theorem d_Fl_wipe_40 : decode b_Fl_wipe 40 = .ok (.getfield 15, 3) := by decide +kernel
theorem d_Fl_wipe_43 : decode b_Fl_wipe 43 = .ok (.iload_n 1, 1) := by decide +kernel
theorem d_Fl_wipe_44 : decode b_Fl_wipe 44 = .ok (.lconst 0, 1) := by decide +kernel
theorem d_Fl_wipe_45 : decode b_Fl_wipe 45 = .ok (.lastore, 1) := by decide +kernel
theorem d_Fl_wipe_46 : decode b_Fl_wipe 46 = .ok (.aload_n 0, 1) := by decide +kernel
theorem d_Fl_wipe_47 : decode b_Fl_wipe 47 = .ok (.getfield 18, 3) := by decide +kernel
theorem d_Fl_wipe_50 : decode b_Fl_wipe 50 = .ok (.iload_n 1, 1) := by decide +kernel
theorem d_Fl_wipe_51 : decode b_Fl_wipe 51 = .ok (.iconst 0, 1) := by decide +kernel
theorem d_Fl_wipe_52 : decode b_Fl_wipe 52 = .ok (.iastore, 1) := by decide +kernel
theorem d_Fl_wipe_53 : decode b_Fl_wipe 53 = .ok (.return_, 1) := by decide +kernel
theorem d_Fl_settleWhole_0 : decode b_Fl_settleWhole 0 = .ok (.iconst 1, 1) := by decide +kernel
theorem d_Fl_settleWhole_1 : decode b_Fl_settleWhole 1 = .ok (.istore_n 2, 1) := by decide +kernel
theorem d_Fl_settleWhole_2 : decode b_Fl_settleWhole 2 = .ok (.iconst 0, 1) := by decide +kernel
theorem d_Fl_settleWhole_3 : decode b_Fl_settleWhole 3 = .ok (.istore_n 3, 1) := by decide +kernel
theorem d_Fl_settleWhole_4 : decode b_Fl_settleWhole 4 = .ok (.iload_n 3, 1) := by decide +kernel
theorem d_Fl_settleWhole_5 : decode b_Fl_settleWhole 5 = .ok (.aload_n 0, 1) := by decide +kernel
theorem d_Fl_settleWhole_6 : decode b_Fl_settleWhole 6 = .ok (.getfield 22, 3) := by decide +kernel
theorem d_Fl_settleWhole_9 : decode b_Fl_settleWhole 9 = .ok (.getfield 81, 3) := by decide +kernel
theorem d_Fl_settleWhole_12 : decode b_Fl_settleWhole 12 = .ok (.iload_n 1, 1) := by decide +kernel
theorem d_Fl_settleWhole_13 : decode b_Fl_settleWhole 13 = .ok (.iaload, 1) := by decide +kernel
theorem d_Fl_settleWhole_14 : decode b_Fl_settleWhole 14 = .ok (.if_icmp .ge 63, 3) := by decide +kernel
theorem d_Fl_settleWhole_17 : decode b_Fl_settleWhole 17 = .ok (.aload_n 0, 1) := by decide +kernel
theorem d_Fl_settleWhole_18 : decode b_Fl_settleWhole 18 = .ok (.getfield 22, 3) := by decide +kernel
theorem d_Fl_settleWhole_21 : decode b_Fl_settleWhole 21 = .ok (.iload_n 1, 1) := by decide +kernel
theorem d_Fl_settleWhole_22 : decode b_Fl_settleWhole 22 = .ok (.iload_n 3, 1) := by decide +kernel
theorem d_Fl_settleWhole_23 : decode b_Fl_settleWhole 23 = .ok (.invokevirtual 84, 3) := by decide +kernel
theorem d_Fl_settleWhole_26 : decode b_Fl_settleWhole 26 = .ok (.istore 4, 2) := by decide +kernel
theorem d_Fl_settleWhole_28 : decode b_Fl_settleWhole 28 = .ok (.aload_n 0, 1) := by decide +kernel
theorem d_Fl_settleWhole_29 : decode b_Fl_settleWhole 29 = .ok (.iload_n 1, 1) := by decide +kernel
theorem d_Fl_settleWhole_30 : decode b_Fl_settleWhole 30 = .ok (.iload 4, 2) := by decide +kernel
theorem d_Fl_settleWhole_32 : decode b_Fl_settleWhole 32 = .ok (.iload_n 3, 1) := by decide +kernel
theorem d_Fl_settleWhole_33 : decode b_Fl_settleWhole 33 = .ok (.iload_n 2, 1) := by decide +kernel
theorem d_Fl_settleWhole_34 : decode b_Fl_settleWhole 34 = .ok (.invokevirtual 88, 3) := by decide +kernel
theorem d_Fl_settleWhole_37 : decode b_Fl_settleWhole 37 = .ok (.istore 5, 2) := by decide +kernel
theorem d_Fl_settleWhole_39 : decode b_Fl_settleWhole 39 = .ok (.iload 5, 2) := by decide +kernel
theorem d_Fl_settleWhole_41 : decode b_Fl_settleWhole 41 = .ok (.ifCond .eq 10, 3) := by decide +kernel
theorem d_Fl_settleWhole_44 : decode b_Fl_settleWhole 44 = .ok (.aload_n 0, 1) := by decide +kernel
theorem d_Fl_settleWhole_45 : decode b_Fl_settleWhole 45 = .ok (.iload_n 1, 1) := by decide +kernel
theorem d_Fl_settleWhole_46 : decode b_Fl_settleWhole 46 = .ok (.iload 4, 2) := by decide +kernel
theorem d_Fl_settleWhole_48 : decode b_Fl_settleWhole 48 = .ok (.invokevirtual 92, 3) := by decide +kernel
theorem d_Fl_settleWhole_51 : decode b_Fl_settleWhole 51 = .ok (.iload 5, 2) := by decide +kernel
theorem d_Fl_settleWhole_53 : decode b_Fl_settleWhole 53 = .ok (.ifCond .eq 16, 3) := by decide +kernel
theorem d_Fl_settleWhole_56 : decode b_Fl_settleWhole 56 = .ok (.aload_n 0, 1) := by decide +kernel
theorem d_Fl_settleWhole_57 : decode b_Fl_settleWhole 57 = .ok (.iload 4, 2) := by decide +kernel
theorem d_Fl_settleWhole_59 : decode b_Fl_settleWhole 59 = .ok (.invokevirtual 95, 3) := by decide +kernel
theorem d_Fl_settleWhole_62 : decode b_Fl_settleWhole 62 = .ok (.ifCond .eq 7, 3) := by decide +kernel
theorem d_Fl_settleWhole_65 : decode b_Fl_settleWhole 65 = .ok (.iconst 1, 1) := by decide +kernel
theorem d_Fl_settleWhole_66 : decode b_Fl_settleWhole 66 = .ok (.goto 4, 3) := by decide +kernel
theorem d_Fl_settleWhole_69 : decode b_Fl_settleWhole 69 = .ok (.iconst 0, 1) := by decide +kernel
theorem d_Fl_settleWhole_70 : decode b_Fl_settleWhole 70 = .ok (.istore_n 2, 1) := by decide +kernel
theorem d_Fl_settleWhole_71 : decode b_Fl_settleWhole 71 = .ok (.iinc 3 1, 3) := by decide +kernel
theorem d_Fl_settleWhole_74 : decode b_Fl_settleWhole 74 = .ok (.goto (-70), 3) := by decide +kernel
theorem d_Fl_settleWhole_77 : decode b_Fl_settleWhole 77 = .ok (.aload_n 0, 1) := by decide +kernel
theorem d_Fl_settleWhole_78 : decode b_Fl_settleWhole 78 = .ok (.iload_n 1, 1) := by decide +kernel
theorem d_Fl_settleWhole_79 : decode b_Fl_settleWhole 79 = .ok (.iload_n 2, 1) := by decide +kernel
theorem d_Fl_settleWhole_80 : decode b_Fl_settleWhole 80 = .ok (.invokevirtual 99, 3) := by decide +kernel
theorem d_Fl_settleWhole_83 : decode b_Fl_settleWhole 83 = .ok (.ifCond .ne 16, 3) := by decide +kernel
theorem d_Fl_settleWhole_86 : decode b_Fl_settleWhole 86 = .ok (.aload_n 0, 1) := by decide +kernel
theorem d_Fl_settleWhole_87 : decode b_Fl_settleWhole 87 = .ok (.getfield 9, 3) := by decide +kernel
theorem d_Fl_settleWhole_90 : decode b_Fl_settleWhole 90 = .ok (.iload_n 1, 1) := by decide +kernel
theorem d_Fl_settleWhole_91 : decode b_Fl_settleWhole 91 = .ok (.laload, 1) := by decide +kernel
theorem d_Fl_settleWhole_92 : decode b_Fl_settleWhole 92 = .ok (.iload_n 1, 1) := by decide +kernel
theorem d_Fl_settleWhole_93 : decode b_Fl_settleWhole 93 = .ok (.invokestatic 55, 3) := by decide +kernel
theorem d_Fl_settleWhole_96 : decode b_Fl_settleWhole 96 = .ok (.ifCond .eq 15, 3) := by decide +kernel
theorem d_Fl_settleWhole_99 : decode b_Fl_settleWhole 99 = .ok (.aload_n 0, 1) := by decide +kernel
theorem d_Fl_settleWhole_100 : decode b_Fl_settleWhole 100 = .ok (.dup, 1) := by decide +kernel
theorem d_Fl_settleWhole_101 : decode b_Fl_settleWhole 101 = .ok (.getfield 37, 3) := by decide +kernel
theorem d_Fl_settleWhole_104 : decode b_Fl_settleWhole 104 = .ok (.lconst 1, 1) := by decide +kernel
theorem d_Fl_settleWhole_105 : decode b_Fl_settleWhole 105 = .ok (.iload_n 1, 1) := by decide +kernel
theorem d_Fl_settleWhole_106 : decode b_Fl_settleWhole 106 = .ok (.lshl, 1) := by decide +kernel
theorem d_Fl_settleWhole_107 : decode b_Fl_settleWhole 107 = .ok (.lor, 1) := by decide +kernel
theorem d_Fl_settleWhole_108 : decode b_Fl_settleWhole 108 = .ok (.putfield 37, 3) := by decide +kernel
theorem d_Fl_settleWhole_111 : decode b_Fl_settleWhole 111 = .ok (.aload_n 0, 1) := by decide +kernel
theorem d_Fl_settleWhole_112 : decode b_Fl_settleWhole 112 = .ok (.getfield 9, 3) := by decide +kernel
theorem d_Fl_settleWhole_115 : decode b_Fl_settleWhole 115 = .ok (.iload_n 1, 1) := by decide +kernel
theorem d_Fl_settleWhole_116 : decode b_Fl_settleWhole 116 = .ok (.dup2, 1) := by decide +kernel
theorem d_Fl_settleWhole_117 : decode b_Fl_settleWhole 117 = .ok (.laload, 1) := by decide +kernel
theorem d_Fl_settleWhole_118 : decode b_Fl_settleWhole 118 = .ok (.lconst 1, 1) := by decide +kernel
theorem d_Fl_settleWhole_119 : decode b_Fl_settleWhole 119 = .ok (.iload_n 1, 1) := by decide +kernel
theorem d_Fl_settleWhole_120 : decode b_Fl_settleWhole 120 = .ok (.lshl, 1) := by decide +kernel
theorem d_Fl_settleWhole_121 : decode b_Fl_settleWhole 121 = .ok (.ldc2_w 79, 3) := by decide +kernel
theorem d_Fl_settleWhole_124 : decode b_Fl_settleWhole 124 = .ok (.lxor, 1) := by decide +kernel
theorem d_Fl_settleWhole_125 : decode b_Fl_settleWhole 125 = .ok (.land, 1) := by decide +kernel
theorem d_Fl_settleWhole_126 : decode b_Fl_settleWhole 126 = .ok (.lastore, 1) := by decide +kernel
theorem d_Fl_settleWhole_127 : decode b_Fl_settleWhole 127 = .ok (.aload_n 0, 1) := by decide +kernel
theorem d_Fl_settleWhole_128 : decode b_Fl_settleWhole 128 = .ok (.getfield 15, 3) := by decide +kernel
theorem d_Fl_settleWhole_131 : decode b_Fl_settleWhole 131 = .ok (.iload_n 1, 1) := by decide +kernel
theorem d_Fl_settleWhole_132 : decode b_Fl_settleWhole 132 = .ok (.dup2, 1) := by decide +kernel
theorem d_Fl_settleWhole_133 : decode b_Fl_settleWhole 133 = .ok (.laload, 1) := by decide +kernel
theorem d_Fl_settleWhole_134 : decode b_Fl_settleWhole 134 = .ok (.lconst 1, 1) := by decide +kernel
theorem d_Fl_settleWhole_135 : decode b_Fl_settleWhole 135 = .ok (.iload_n 1, 1) := by decide +kernel
theorem d_Fl_settleWhole_136 : decode b_Fl_settleWhole 136 = .ok (.lshl, 1) := by decide +kernel
theorem d_Fl_settleWhole_137 : decode b_Fl_settleWhole 137 = .ok (.ldc2_w 79, 3) := by decide +kernel
theorem d_Fl_settleWhole_140 : decode b_Fl_settleWhole 140 = .ok (.lxor, 1) := by decide +kernel
theorem d_Fl_settleWhole_141 : decode b_Fl_settleWhole 141 = .ok (.land, 1) := by decide +kernel
theorem d_Fl_settleWhole_142 : decode b_Fl_settleWhole 142 = .ok (.lastore, 1) := by decide +kernel
theorem d_Fl_settleWhole_143 : decode b_Fl_settleWhole 143 = .ok (.return_, 1) := by decide +kernel
theorem d_Fl_opensPart_0 : decode b_Fl_opensPart 0 = .ok (.aload_n 0, 1) := by decide +kernel
theorem d_Fl_opensPart_1 : decode b_Fl_opensPart 1 = .ok (.getfield 22, 3) := by decide +kernel
theorem d_Fl_opensPart_4 : decode b_Fl_opensPart 4 = .ok (.getfield 63, 3) := by decide +kernel
theorem d_Fl_opensPart_7 : decode b_Fl_opensPart 7 = .ok (.iload_n 1, 1) := by decide +kernel
theorem d_Fl_opensPart_8 : decode b_Fl_opensPart 8 = .ok (.iaload, 1) := by decide +kernel
theorem d_Fl_opensPart_9 : decode b_Fl_opensPart 9 = .ok (.tableswitch 134 4 14 #[59, 91, 134, 91, 134, 134, 134, 134, 134, 108, 111], 59) := by decide +kernel
theorem d_Fl_opensPart_68 : decode b_Fl_opensPart 68 = .ok (.aload_n 0, 1) := by decide +kernel
theorem d_Fl_opensPart_69 : decode b_Fl_opensPart 69 = .ok (.iload_n 1, 1) := by decide +kernel
theorem d_Fl_opensPart_70 : decode b_Fl_opensPart 70 = .ok (.invokevirtual 103, 3) := by decide +kernel
theorem d_Fl_opensPart_73 : decode b_Fl_opensPart 73 = .ok (.iconst 2, 1) := by decide +kernel
theorem d_Fl_opensPart_74 : decode b_Fl_opensPart 74 = .ok (.if_icmp .eq 20, 3) := by decide +kernel
theorem d_Fl_opensPart_77 : decode b_Fl_opensPart 77 = .ok (.aload_n 0, 1) := by decide +kernel
theorem d_Fl_opensPart_78 : decode b_Fl_opensPart 78 = .ok (.iload_n 1, 1) := by decide +kernel
theorem d_Fl_opensPart_79 : decode b_Fl_opensPart 79 = .ok (.invokevirtual 103, 3) := by decide +kernel
theorem d_Fl_opensPart_82 : decode b_Fl_opensPart 82 = .ok (.iload_n 3, 1) := by decide +kernel
theorem d_Fl_opensPart_83 : decode b_Fl_opensPart 83 = .ok (.ifCond .ne 7, 3) := by decide +kernel
theorem d_Fl_opensPart_86 : decode b_Fl_opensPart 86 = .ok (.iconst 1, 1) := by decide +kernel
theorem d_Fl_opensPart_87 : decode b_Fl_opensPart 87 = .ok (.goto 4, 3) := by decide +kernel
theorem d_Fl_opensPart_90 : decode b_Fl_opensPart 90 = .ok (.iconst 0, 1) := by decide +kernel
theorem d_Fl_opensPart_91 : decode b_Fl_opensPart 91 = .ok (.if_icmp .ne 7, 3) := by decide +kernel
theorem d_Fl_opensPart_94 : decode b_Fl_opensPart 94 = .ok (.iconst 1, 1) := by decide +kernel
theorem d_Fl_opensPart_95 : decode b_Fl_opensPart 95 = .ok (.goto 4, 3) := by decide +kernel
theorem d_Fl_opensPart_98 : decode b_Fl_opensPart 98 = .ok (.iconst 0, 1) := by decide +kernel
theorem d_Fl_opensPart_99 : decode b_Fl_opensPart 99 = .ok (.ireturn, 1) := by decide +kernel
theorem d_Fl_opensPart_100 : decode b_Fl_opensPart 100 = .ok (.aload_n 0, 1) := by decide +kernel
theorem d_Fl_opensPart_101 : decode b_Fl_opensPart 101 = .ok (.getfield 22, 3) := by decide +kernel
theorem d_Fl_opensPart_104 : decode b_Fl_opensPart 104 = .ok (.iload_n 1, 1) := by decide +kernel
theorem d_Fl_opensPart_105 : decode b_Fl_opensPart 105 = .ok (.invokevirtual 106, 3) := by decide +kernel
theorem d_Fl_opensPart_108 : decode b_Fl_opensPart 108 = .ok (.ifCond .eq 7, 3) := by decide +kernel
theorem d_Fl_opensPart_111 : decode b_Fl_opensPart 111 = .ok (.iconst 1, 1) := by decide +kernel
theorem d_Fl_opensPart_112 : decode b_Fl_opensPart 112 = .ok (.goto 4, 3) := by decide +kernel
theorem d_Fl_opensPart_115 : decode b_Fl_opensPart 115 = .ok (.iconst 0, 1) := by decide +kernel
theorem d_Fl_opensPart_116 : decode b_Fl_opensPart 116 = .ok (.ireturn, 1) := by decide +kernel
theorem d_Fl_opensPart_117 : decode b_Fl_opensPart 117 = .ok (.iload 4, 2) := by decide +kernel
theorem d_Fl_opensPart_119 : decode b_Fl_opensPart 119 = .ok (.ireturn, 1) := by decide +kernel
theorem d_Fl_opensPart_120 : decode b_Fl_opensPart 120 = .ok (.iload 4, 2) := by decide +kernel
theorem d_Fl_opensPart_122 : decode b_Fl_opensPart 122 = .ok (.ifCond .ne 15, 3) := by decide +kernel
theorem d_Fl_opensPart_125 : decode b_Fl_opensPart 125 = .ok (.aload_n 0, 1) := by decide +kernel
theorem d_Fl_opensPart_126 : decode b_Fl_opensPart 126 = .ok (.getfield 22, 3) := by decide +kernel
theorem d_Fl_opensPart_129 : decode b_Fl_opensPart 129 = .ok (.getfield 109, 3) := by decide +kernel
theorem d_Fl_opensPart_132 : decode b_Fl_opensPart 132 = .ok (.iload_n 2, 1) := by decide +kernel
theorem d_Fl_opensPart_133 : decode b_Fl_opensPart 133 = .ok (.iaload, 1) := by decide +kernel
theorem d_Fl_opensPart_134 : decode b_Fl_opensPart 134 = .ok (.ifCond .eq 7, 3) := by decide +kernel
theorem d_Fl_opensPart_137 : decode b_Fl_opensPart 137 = .ok (.iconst 1, 1) := by decide +kernel
theorem d_Fl_opensPart_138 : decode b_Fl_opensPart 138 = .ok (.goto 4, 3) := by decide +kernel
theorem d_Fl_opensPart_141 : decode b_Fl_opensPart 141 = .ok (.iconst 0, 1) := by decide +kernel
theorem d_Fl_opensPart_142 : decode b_Fl_opensPart 142 = .ok (.ireturn, 1) := by decide +kernel
theorem d_Fl_opensPart_143 : decode b_Fl_opensPart 143 = .ok (.iconst 1, 1) := by decide +kernel
theorem d_Fl_opensPart_144 : decode b_Fl_opensPart 144 = .ok (.ireturn, 1) := by decide +kernel
theorem d_Fl_goesPast_0 : decode b_Fl_goesPast 0 = .ok (.aload_n 0, 1) := by decide +kernel
theorem d_Fl_goesPast_1 : decode b_Fl_goesPast 1 = .ok (.getfield 22, 3) := by decide +kernel
theorem d_Fl_goesPast_4 : decode b_Fl_goesPast 4 = .ok (.getfield 63, 3) := by decide +kernel
theorem d_Fl_goesPast_7 : decode b_Fl_goesPast 7 = .ok (.iload_n 1, 1) := by decide +kernel
theorem d_Fl_goesPast_8 : decode b_Fl_goesPast 8 = .ok (.iaload, 1) := by decide +kernel
theorem d_Fl_goesPast_9 : decode b_Fl_goesPast 9 = .ok (.tableswitch 218 4 15 #[63, 99, 117, 99, 156, 218, 218, 218, 218, 158, 160, 193], 63) := by decide +kernel
theorem d_Fl_goesPast_72 : decode b_Fl_goesPast 72 = .ok (.aload_n 0, 1) := by decide +kernel
theorem d_Fl_goesPast_73 : decode b_Fl_goesPast 73 = .ok (.getfield 22, 3) := by decide +kernel
theorem d_Fl_goesPast_76 : decode b_Fl_goesPast 76 = .ok (.getfield 81, 3) := by decide +kernel
theorem d_Fl_goesPast_79 : decode b_Fl_goesPast 79 = .ok (.iload_n 1, 1) := by decide +kernel
theorem d_Fl_goesPast_80 : decode b_Fl_goesPast 80 = .ok (.iaload, 1) := by decide +kernel
theorem d_Fl_goesPast_81 : decode b_Fl_goesPast 81 = .ok (.iconst 1, 1) := by decide +kernel
theorem d_Fl_goesPast_82 : decode b_Fl_goesPast 82 = .ok (.if_icmp .ne 12, 3) := by decide +kernel
theorem d_Fl_goesPast_85 : decode b_Fl_goesPast 85 = .ok (.aload_n 0, 1) := by decide +kernel
theorem d_Fl_goesPast_86 : decode b_Fl_goesPast 86 = .ok (.iload_n 1, 1) := by decide +kernel
theorem d_Fl_goesPast_87 : decode b_Fl_goesPast 87 = .ok (.invokevirtual 103, 3) := by decide +kernel
theorem d_Fl_goesPast_90 : decode b_Fl_goesPast 90 = .ok (.iconst 1, 1) := by decide +kernel
theorem d_Fl_goesPast_91 : decode b_Fl_goesPast 91 = .ok (.if_icmp .ne 11, 3) := by decide +kernel
theorem d_Fl_goesPast_94 : decode b_Fl_goesPast 94 = .ok (.aload_n 0, 1) := by decide +kernel
theorem d_Fl_goesPast_95 : decode b_Fl_goesPast 95 = .ok (.iload_n 1, 1) := by decide +kernel
theorem d_Fl_goesPast_96 : decode b_Fl_goesPast 96 = .ok (.invokevirtual 112, 3) := by decide +kernel
theorem d_Fl_goesPast_99 : decode b_Fl_goesPast 99 = .ok (.ifCond .eq 7, 3) := by decide +kernel
theorem d_Fl_goesPast_102 : decode b_Fl_goesPast 102 = .ok (.iconst 1, 1) := by decide +kernel
theorem d_Fl_goesPast_103 : decode b_Fl_goesPast 103 = .ok (.goto 4, 3) := by decide +kernel
theorem d_Fl_goesPast_106 : decode b_Fl_goesPast 106 = .ok (.iconst 0, 1) := by decide +kernel
theorem d_Fl_goesPast_107 : decode b_Fl_goesPast 107 = .ok (.ireturn, 1) := by decide +kernel
theorem d_Fl_goesPast_108 : decode b_Fl_goesPast 108 = .ok (.aload_n 0, 1) := by decide +kernel
theorem d_Fl_goesPast_109 : decode b_Fl_goesPast 109 = .ok (.getfield 22, 3) := by decide +kernel
theorem d_Fl_goesPast_112 : decode b_Fl_goesPast 112 = .ok (.iload_n 1, 1) := by decide +kernel
theorem d_Fl_goesPast_113 : decode b_Fl_goesPast 113 = .ok (.invokevirtual 106, 3) := by decide +kernel
theorem d_Fl_goesPast_116 : decode b_Fl_goesPast 116 = .ok (.iconst 1, 1) := by decide +kernel
theorem d_Fl_goesPast_117 : decode b_Fl_goesPast 117 = .ok (.if_icmp .eq 7, 3) := by decide +kernel
theorem d_Fl_goesPast_120 : decode b_Fl_goesPast 120 = .ok (.iconst 1, 1) := by decide +kernel
theorem d_Fl_goesPast_121 : decode b_Fl_goesPast 121 = .ok (.goto 4, 3) := by decide +kernel
theorem d_Fl_goesPast_124 : decode b_Fl_goesPast 124 = .ok (.iconst 0, 1) := by decide +kernel
theorem d_Fl_goesPast_125 : decode b_Fl_goesPast 125 = .ok (.ireturn, 1) := by decide +kernel
theorem d_Fl_goesPast_126 : decode b_Fl_goesPast 126 = .ok (.aload_n 0, 1) := by decide +kernel
theorem d_Fl_goesPast_127 : decode b_Fl_goesPast 127 = .ok (.getfield 22, 3) := by decide +kernel
theorem d_Fl_goesPast_130 : decode b_Fl_goesPast 130 = .ok (.iload_n 1, 1) := by decide +kernel
theorem d_Fl_goesPast_131 : decode b_Fl_goesPast 131 = .ok (.invokevirtual 106, 3) := by decide +kernel
theorem d_Fl_goesPast_134 : decode b_Fl_goesPast 134 = .ok (.iconst 1, 1) := by decide +kernel
theorem d_Fl_goesPast_135 : decode b_Fl_goesPast 135 = .ok (.if_icmp .eq 28, 3) := by decide +kernel
theorem d_Fl_goesPast_138 : decode b_Fl_goesPast 138 = .ok (.aload_n 0, 1) := by decide +kernel
theorem d_Fl_goesPast_139 : decode b_Fl_goesPast 139 = .ok (.iload_n 1, 1) := by decide +kernel
theorem d_Fl_goesPast_140 : decode b_Fl_goesPast 140 = .ok (.invokevirtual 112, 3) := by decide +kernel
theorem d_Fl_goesPast_143 : decode b_Fl_goesPast 143 = .ok (.ifCond .ne 16, 3) := by decide +kernel
theorem d_Fl_goesPast_146 : decode b_Fl_goesPast 146 = .ok (.aload_n 0, 1) := by decide +kernel
theorem d_Fl_goesPast_147 : decode b_Fl_goesPast 147 = .ok (.getfield 15, 3) := by decide +kernel
theorem d_Fl_goesPast_150 : decode b_Fl_goesPast 150 = .ok (.iload_n 1, 1) := by decide +kernel
theorem d_Fl_goesPast_151 : decode b_Fl_goesPast 151 = .ok (.laload, 1) := by decide +kernel
theorem d_Fl_goesPast_152 : decode b_Fl_goesPast 152 = .ok (.iload_n 1, 1) := by decide +kernel
theorem d_Fl_goesPast_153 : decode b_Fl_goesPast 153 = .ok (.invokestatic 55, 3) := by decide +kernel
theorem d_Fl_goesPast_156 : decode b_Fl_goesPast 156 = .ok (.ifCond .eq 7, 3) := by decide +kernel
theorem d_Fl_goesPast_159 : decode b_Fl_goesPast 159 = .ok (.iconst 1, 1) := by decide +kernel
theorem d_Fl_goesPast_160 : decode b_Fl_goesPast 160 = .ok (.goto 4, 3) := by decide +kernel
theorem d_Fl_goesPast_163 : decode b_Fl_goesPast 163 = .ok (.iconst 0, 1) := by decide +kernel
theorem d_Fl_goesPast_164 : decode b_Fl_goesPast 164 = .ok (.ireturn, 1) := by decide +kernel
theorem d_Fl_goesPast_165 : decode b_Fl_goesPast 165 = .ok (.iconst 1, 1) := by decide +kernel
theorem d_Fl_goesPast_166 : decode b_Fl_goesPast 166 = .ok (.ireturn, 1) := by decide +kernel
theorem d_Fl_goesPast_167 : decode b_Fl_goesPast 167 = .ok (.iload_n 2, 1) := by decide +kernel
theorem d_Fl_goesPast_168 : decode b_Fl_goesPast 168 = .ok (.ireturn, 1) := by decide +kernel
theorem d_Fl_goesPast_169 : decode b_Fl_goesPast 169 = .ok (.aload_n 0, 1) := by decide +kernel
theorem d_Fl_goesPast_170 : decode b_Fl_goesPast 170 = .ok (.getfield 22, 3) := by decide +kernel
theorem d_Fl_goesPast_173 : decode b_Fl_goesPast 173 = .ok (.iload_n 1, 1) := by decide +kernel
theorem d_Fl_goesPast_174 : decode b_Fl_goesPast 174 = .ok (.invokevirtual 115, 3) := by decide +kernel
theorem d_Fl_goesPast_177 : decode b_Fl_goesPast 177 = .ok (.ifCond .eq 19, 3) := by decide +kernel
theorem d_Fl_goesPast_180 : decode b_Fl_goesPast 180 = .ok (.aload_n 0, 1) := by decide +kernel
theorem d_Fl_goesPast_181 : decode b_Fl_goesPast 181 = .ok (.getfield 22, 3) := by decide +kernel
theorem d_Fl_goesPast_184 : decode b_Fl_goesPast 184 = .ok (.getfield 118, 3) := by decide +kernel
theorem d_Fl_goesPast_187 : decode b_Fl_goesPast 187 = .ok (.iload_n 1, 1) := by decide +kernel
theorem d_Fl_goesPast_188 : decode b_Fl_goesPast 188 = .ok (.iaload, 1) := by decide +kernel
theorem d_Fl_goesPast_189 : decode b_Fl_goesPast 189 = .ok (.ifCond .ne 7, 3) := by decide +kernel
theorem d_Fl_goesPast_192 : decode b_Fl_goesPast 192 = .ok (.iload_n 2, 1) := by decide +kernel
theorem d_Fl_goesPast_193 : decode b_Fl_goesPast 193 = .ok (.ifCond .eq 7, 3) := by decide +kernel
theorem d_Fl_goesPast_196 : decode b_Fl_goesPast 196 = .ok (.iconst 1, 1) := by decide +kernel
theorem d_Fl_goesPast_197 : decode b_Fl_goesPast 197 = .ok (.goto 4, 3) := by decide +kernel
theorem d_Fl_goesPast_200 : decode b_Fl_goesPast 200 = .ok (.iconst 0, 1) := by decide +kernel
theorem d_Fl_goesPast_201 : decode b_Fl_goesPast 201 = .ok (.ireturn, 1) := by decide +kernel
theorem d_Fl_goesPast_202 : decode b_Fl_goesPast 202 = .ok (.aload_n 0, 1) := by decide +kernel
theorem d_Fl_goesPast_203 : decode b_Fl_goesPast 203 = .ok (.getfield 22, 3) := by decide +kernel
theorem d_Fl_goesPast_206 : decode b_Fl_goesPast 206 = .ok (.iload_n 1, 1) := by decide +kernel
theorem d_Fl_goesPast_207 : decode b_Fl_goesPast 207 = .ok (.invokevirtual 115, 3) := by decide +kernel
theorem d_Fl_goesPast_210 : decode b_Fl_goesPast 210 = .ok (.ifCond .eq 11, 3) := by decide +kernel
theorem d_Fl_goesPast_213 : decode b_Fl_goesPast 213 = .ok (.aload_n 0, 1) := by decide +kernel
theorem d_Fl_goesPast_214 : decode b_Fl_goesPast 214 = .ok (.iload_n 1, 1) := by decide +kernel
theorem d_Fl_goesPast_215 : decode b_Fl_goesPast 215 = .ok (.invokevirtual 112, 3) := by decide +kernel
theorem d_Fl_goesPast_218 : decode b_Fl_goesPast 218 = .ok (.ifCond .eq 7, 3) := by decide +kernel
