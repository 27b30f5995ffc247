theorem dX0_init_0 : decode cX0_init 0 = .ok (.aload_n 0, 1) := by decide +kernel
theorem dX0_init_1 : decode cX0_init 1 = .ok (.invokespecial 3, 3) := by decide +kernel
theorem dX0_init_4 : decode cX0_init 4 = .ok (.aload_n 0, 1) := by decide +kernel
theorem dX0_init_5 : decode cX0_init 5 = .ok (.bipush 7, 2) := by decide +kernel
theorem dX0_init_7 : decode cX0_init 7 = .ok (.newarray .int, 2) := by decide +kernel
theorem dX0_init_9 : decode cX0_init 9 = .ok (.putfield 9, 3) := by decide +kernel
theorem dX0_init_12 : decode cX0_init 12 = .ok (.aload_n 0, 1) := by decide +kernel
theorem dX0_init_13 : decode cX0_init 13 = .ok (.bipush 20, 2) := by decide +kernel
theorem dX0_init_15 : decode cX0_init 15 = .ok (.newarray .int, 2) := by decide +kernel
theorem dX0_init_17 : decode cX0_init 17 = .ok (.putfield 15, 3) := by decide +kernel
theorem dX0_init_20 : decode cX0_init 20 = .ok (.aload_n 0, 1) := by decide +kernel
theorem dX0_init_21 : decode cX0_init 21 = .ok (.bipush 7, 2) := by decide +kernel
theorem dX0_init_23 : decode cX0_init 23 = .ok (.newarray .int, 2) := by decide +kernel
theorem dX0_init_25 : decode cX0_init 25 = .ok (.putfield 18, 3) := by decide +kernel
theorem dX0_init_28 : decode cX0_init 28 = .ok (.aload_n 0, 1) := by decide +kernel
theorem dX0_init_29 : decode cX0_init 29 = .ok (.bipush 7, 2) := by decide +kernel
theorem dX0_init_31 : decode cX0_init 31 = .ok (.newarray .int, 2) := by decide +kernel
theorem dX0_init_33 : decode cX0_init 33 = .ok (.putfield 21, 3) := by decide +kernel
theorem dX0_init_36 : decode cX0_init 36 = .ok (.return_, 1) := by decide +kernel
theorem dX0_find_0 : decode cX0_find 0 = .ok (.aload_n 0, 1) := by decide +kernel
theorem dX0_find_1 : decode cX0_find 1 = .ok (.aload_n 1, 1) := by decide +kernel
theorem dX0_find_2 : decode cX0_find 2 = .ok (.getfield 24, 3) := by decide +kernel
theorem dX0_find_5 : decode cX0_find 5 = .ok (.putfield 30, 3) := by decide +kernel
theorem dX0_find_8 : decode cX0_find 8 = .ok (.aload_n 0, 1) := by decide +kernel
theorem dX0_find_9 : decode cX0_find 9 = .ok (.aload_n 1, 1) := by decide +kernel
theorem dX0_find_10 : decode cX0_find 10 = .ok (.invokevirtual 31, 3) := by decide +kernel
theorem dX0_find_13 : decode cX0_find 13 = .ok (.putfield 35, 3) := by decide +kernel
theorem dX0_find_16 : decode cX0_find 16 = .ok (.aload_n 0, 1) := by decide +kernel
theorem dX0_find_17 : decode cX0_find 17 = .ok (.iconst 0, 1) := by decide +kernel
theorem dX0_find_18 : decode cX0_find 18 = .ok (.putfield 37, 3) := by decide +kernel
theorem dX0_find_21 : decode cX0_find 21 = .ok (.iconst 0, 1) := by decide +kernel
theorem dX0_find_22 : decode cX0_find 22 = .ok (.istore_n 2, 1) := by decide +kernel
theorem dX0_find_23 : decode cX0_find 23 = .ok (.iload_n 2, 1) := by decide +kernel
theorem dX0_find_24 : decode cX0_find 24 = .ok (.aload_n 0, 1) := by decide +kernel
theorem dX0_find_25 : decode cX0_find 25 = .ok (.getfield 35, 3) := by decide +kernel
theorem dX0_find_28 : decode cX0_find 28 = .ok (.if_icmp .ge 16, 3) := by decide +kernel
theorem dX0_find_31 : decode cX0_find 31 = .ok (.aload_n 0, 1) := by decide +kernel
theorem dX0_find_32 : decode cX0_find 32 = .ok (.getfield 15, 3) := by decide +kernel
theorem dX0_find_35 : decode cX0_find 35 = .ok (.iload_n 2, 1) := by decide +kernel
theorem dX0_find_36 : decode cX0_find 36 = .ok (.iconst 0, 1) := by decide +kernel
theorem dX0_find_37 : decode cX0_find 37 = .ok (.iastore, 1) := by decide +kernel
theorem dX0_find_38 : decode cX0_find 38 = .ok (.iinc 2 1, 3) := by decide +kernel
theorem dX0_find_41 : decode cX0_find 41 = .ok (.goto (-18), 3) := by decide +kernel
theorem dX0_find_44 : decode cX0_find 44 = .ok (.iconst 0, 1) := by decide +kernel
theorem dX0_find_45 : decode cX0_find 45 = .ok (.istore_n 2, 1) := by decide +kernel
theorem dX0_find_46 : decode cX0_find 46 = .ok (.iload_n 2, 1) := by decide +kernel
theorem dX0_find_47 : decode cX0_find 47 = .ok (.aload_n 0, 1) := by decide +kernel
theorem dX0_find_48 : decode cX0_find 48 = .ok (.getfield 30, 3) := by decide +kernel
theorem dX0_find_51 : decode cX0_find 51 = .ok (.if_icmp .ge 83, 3) := by decide +kernel
theorem dX0_find_54 : decode cX0_find 54 = .ok (.aload_n 0, 1) := by decide +kernel
theorem dX0_find_55 : decode cX0_find 55 = .ok (.getfield 18, 3) := by decide +kernel
theorem dX0_find_58 : decode cX0_find 58 = .ok (.iload_n 2, 1) := by decide +kernel
theorem dX0_find_59 : decode cX0_find 59 = .ok (.aload_n 1, 1) := by decide +kernel
theorem dX0_find_60 : decode cX0_find 60 = .ok (.iload_n 2, 1) := by decide +kernel
theorem dX0_find_61 : decode cX0_find 61 = .ok (.invokevirtual 40, 3) := by decide +kernel
theorem dX0_find_64 : decode cX0_find 64 = .ok (.iastore, 1) := by decide +kernel
theorem dX0_find_65 : decode cX0_find 65 = .ok (.aload_n 0, 1) := by decide +kernel
theorem dX0_find_66 : decode cX0_find 66 = .ok (.getfield 9, 3) := by decide +kernel
theorem dX0_find_69 : decode cX0_find 69 = .ok (.iload_n 2, 1) := by decide +kernel
theorem dX0_find_70 : decode cX0_find 70 = .ok (.aload_n 1, 1) := by decide +kernel
theorem dX0_find_71 : decode cX0_find 71 = .ok (.iload_n 2, 1) := by decide +kernel
theorem dX0_find_72 : decode cX0_find 72 = .ok (.invokevirtual 44, 3) := by decide +kernel
theorem dX0_find_75 : decode cX0_find 75 = .ok (.iastore, 1) := by decide +kernel
theorem dX0_find_76 : decode cX0_find 76 = .ok (.aload_n 0, 1) := by decide +kernel
theorem dX0_find_77 : decode cX0_find 77 = .ok (.dup, 1) := by decide +kernel
theorem dX0_find_78 : decode cX0_find 78 = .ok (.getfield 37, 3) := by decide +kernel
theorem dX0_find_81 : decode cX0_find 81 = .ok (.aload_n 0, 1) := by decide +kernel
theorem dX0_find_82 : decode cX0_find 82 = .ok (.getfield 9, 3) := by decide +kernel
theorem dX0_find_85 : decode cX0_find 85 = .ok (.iload_n 2, 1) := by decide +kernel
theorem dX0_find_86 : decode cX0_find 86 = .ok (.iaload, 1) := by decide +kernel
theorem dX0_find_87 : decode cX0_find 87 = .ok (.ior, 1) := by decide +kernel
theorem dX0_find_88 : decode cX0_find 88 = .ok (.putfield 37, 3) := by decide +kernel
theorem dX0_find_91 : decode cX0_find 91 = .ok (.iconst 0, 1) := by decide +kernel
theorem dX0_find_92 : decode cX0_find 92 = .ok (.istore_n 3, 1) := by decide +kernel
theorem dX0_find_93 : decode cX0_find 93 = .ok (.iload_n 3, 1) := by decide +kernel
theorem dX0_find_94 : decode cX0_find 94 = .ok (.aload_n 0, 1) := by decide +kernel
theorem dX0_find_95 : decode cX0_find 95 = .ok (.getfield 35, 3) := by decide +kernel
theorem dX0_find_98 : decode cX0_find 98 = .ok (.if_icmp .ge 30, 3) := by decide +kernel
theorem dX0_find_101 : decode cX0_find 101 = .ok (.aload_n 0, 1) := by decide +kernel
theorem dX0_find_102 : decode cX0_find 102 = .ok (.getfield 15, 3) := by decide +kernel
theorem dX0_find_105 : decode cX0_find 105 = .ok (.iload_n 3, 1) := by decide +kernel
theorem dX0_find_106 : decode cX0_find 106 = .ok (.dup2, 1) := by decide +kernel
theorem dX0_find_107 : decode cX0_find 107 = .ok (.iaload, 1) := by decide +kernel
theorem dX0_find_108 : decode cX0_find 108 = .ok (.aload_n 0, 1) := by decide +kernel
theorem dX0_find_109 : decode cX0_find 109 = .ok (.getfield 9, 3) := by decide +kernel
theorem dX0_find_112 : decode cX0_find 112 = .ok (.iload_n 2, 1) := by decide +kernel
theorem dX0_find_113 : decode cX0_find 113 = .ok (.iaload, 1) := by decide +kernel
theorem dX0_find_114 : decode cX0_find 114 = .ok (.iload_n 3, 1) := by decide +kernel
theorem dX0_find_115 : decode cX0_find 115 = .ok (.ishr, 1) := by decide +kernel
theorem dX0_find_116 : decode cX0_find 116 = .ok (.iconst 1, 1) := by decide +kernel
theorem dX0_find_117 : decode cX0_find 117 = .ok (.iand, 1) := by decide +kernel
theorem dX0_find_118 : decode cX0_find 118 = .ok (.iload_n 2, 1) := by decide +kernel
theorem dX0_find_119 : decode cX0_find 119 = .ok (.ishl, 1) := by decide +kernel
theorem dX0_find_120 : decode cX0_find 120 = .ok (.ior, 1) := by decide +kernel
theorem dX0_find_121 : decode cX0_find 121 = .ok (.iastore, 1) := by decide +kernel
theorem dX0_find_122 : decode cX0_find 122 = .ok (.iinc 3 1, 3) := by decide +kernel
theorem dX0_find_125 : decode cX0_find 125 = .ok (.goto (-32), 3) := by decide +kernel
theorem dX0_find_128 : decode cX0_find 128 = .ok (.iinc 2 1, 3) := by decide +kernel
theorem dX0_find_131 : decode cX0_find 131 = .ok (.goto (-85), 3) := by decide +kernel
theorem dX0_find_134 : decode cX0_find 134 = .ok (.return_, 1) := by decide +kernel
theorem dX0_isSubsumed_0 : decode cX0_isSubsumed 0 = .ok (.aload_n 0, 1) := by decide +kernel
theorem dX0_isSubsumed_1 : decode cX0_isSubsumed 1 = .ok (.getfield 15, 3) := by decide +kernel
theorem dX0_isSubsumed_4 : decode cX0_isSubsumed 4 = .ok (.iload_n 2, 1) := by decide +kernel
theorem dX0_isSubsumed_5 : decode cX0_isSubsumed 5 = .ok (.iaload, 1) := by decide +kernel
theorem dX0_isSubsumed_6 : decode cX0_isSubsumed 6 = .ok (.ifCond .eq 25, 3) := by decide +kernel
theorem dX0_isSubsumed_9 : decode cX0_isSubsumed 9 = .ok (.aload_n 0, 1) := by decide +kernel
theorem dX0_isSubsumed_10 : decode cX0_isSubsumed 10 = .ok (.getfield 15, 3) := by decide +kernel
theorem dX0_isSubsumed_13 : decode cX0_isSubsumed 13 = .ok (.iload_n 2, 1) := by decide +kernel
theorem dX0_isSubsumed_14 : decode cX0_isSubsumed 14 = .ok (.iaload, 1) := by decide +kernel
theorem dX0_isSubsumed_15 : decode cX0_isSubsumed 15 = .ok (.aload_n 0, 1) := by decide +kernel
theorem dX0_isSubsumed_16 : decode cX0_isSubsumed 16 = .ok (.getfield 15, 3) := by decide +kernel
theorem dX0_isSubsumed_19 : decode cX0_isSubsumed 19 = .ok (.iload_n 1, 1) := by decide +kernel
theorem dX0_isSubsumed_20 : decode cX0_isSubsumed 20 = .ok (.iaload, 1) := by decide +kernel
theorem dX0_isSubsumed_21 : decode cX0_isSubsumed 21 = .ok (.iconst (-1), 1) := by decide +kernel
theorem dX0_isSubsumed_22 : decode cX0_isSubsumed 22 = .ok (.ixor, 1) := by decide +kernel
theorem dX0_isSubsumed_23 : decode cX0_isSubsumed 23 = .ok (.iand, 1) := by decide +kernel
theorem dX0_isSubsumed_24 : decode cX0_isSubsumed 24 = .ok (.ifCond .ne 7, 3) := by decide +kernel
theorem dX0_isSubsumed_27 : decode cX0_isSubsumed 27 = .ok (.iconst 1, 1) := by decide +kernel
theorem dX0_isSubsumed_28 : decode cX0_isSubsumed 28 = .ok (.goto 4, 3) := by decide +kernel
theorem dX0_isSubsumed_31 : decode cX0_isSubsumed 31 = .ok (.iconst 0, 1) := by decide +kernel
theorem dX0_isSubsumed_32 : decode cX0_isSubsumed 32 = .ok (.ireturn, 1) := by decide +kernel
theorem dX0_countSubsumed_0 : decode cX0_countSubsumed 0 = .ok (.iconst 0, 1) := by decide +kernel
theorem dX0_countSubsumed_1 : decode cX0_countSubsumed 1 = .ok (.istore_n 2, 1) := by decide +kernel
theorem dX0_countSubsumed_2 : decode cX0_countSubsumed 2 = .ok (.iconst 0, 1) := by decide +kernel
theorem dX0_countSubsumed_3 : decode cX0_countSubsumed 3 = .ok (.istore_n 3, 1) := by decide +kernel
theorem dX0_countSubsumed_4 : decode cX0_countSubsumed 4 = .ok (.iload_n 3, 1) := by decide +kernel
theorem dX0_countSubsumed_5 : decode cX0_countSubsumed 5 = .ok (.aload_n 0, 1) := by decide +kernel
theorem dX0_countSubsumed_6 : decode cX0_countSubsumed 6 = .ok (.getfield 35, 3) := by decide +kernel
theorem dX0_countSubsumed_9 : decode cX0_countSubsumed 9 = .ok (.if_icmp .ge 21, 3) := by decide +kernel
theorem dX0_countSubsumed_12 : decode cX0_countSubsumed 12 = .ok (.aload_n 0, 1) := by decide +kernel
theorem dX0_countSubsumed_13 : decode cX0_countSubsumed 13 = .ok (.iload_n 3, 1) := by decide +kernel
theorem dX0_countSubsumed_14 : decode cX0_countSubsumed 14 = .ok (.iload_n 1, 1) := by decide +kernel
theorem dX0_countSubsumed_15 : decode cX0_countSubsumed 15 = .ok (.invokevirtual 47, 3) := by decide +kernel
theorem dX0_countSubsumed_18 : decode cX0_countSubsumed 18 = .ok (.ifCond .eq 6, 3) := by decide +kernel
theorem dX0_countSubsumed_21 : decode cX0_countSubsumed 21 = .ok (.iinc 2 1, 3) := by decide +kernel
theorem dX0_countSubsumed_24 : decode cX0_countSubsumed 24 = .ok (.iinc 3 1, 3) := by decide +kernel
theorem dX0_countSubsumed_27 : decode cX0_countSubsumed 27 = .ok (.goto (-23), 3) := by decide +kernel
theorem dX0_countSubsumed_30 : decode cX0_countSubsumed 30 = .ok (.iload_n 2, 1) := by decide +kernel
theorem dX0_countSubsumed_31 : decode cX0_countSubsumed 31 = .ok (.ireturn, 1) := by decide +kernel
theorem dX0_isLeast_0 : decode cX0_isLeast 0 = .ok (.aload_n 0, 1) := by decide +kernel
theorem dX0_isLeast_1 : decode cX0_isLeast 1 = .ok (.getfield 15, 3) := by decide +kernel
theorem dX0_isLeast_4 : decode cX0_isLeast 4 = .ok (.iload_n 1, 1) := by decide +kernel
theorem dX0_isLeast_5 : decode cX0_isLeast 5 = .ok (.iaload, 1) := by decide +kernel
theorem dX0_isLeast_6 : decode cX0_isLeast 6 = .ok (.ifCond .ne 5, 3) := by decide +kernel
theorem dX0_isLeast_9 : decode cX0_isLeast 9 = .ok (.iconst 0, 1) := by decide +kernel
theorem dX0_isLeast_10 : decode cX0_isLeast 10 = .ok (.ireturn, 1) := by decide +kernel
theorem dX0_isLeast_11 : decode cX0_isLeast 11 = .ok (.iconst 0, 1) := by decide +kernel
theorem dX0_isLeast_12 : decode cX0_isLeast 12 = .ok (.istore_n 2, 1) := by decide +kernel
theorem dX0_isLeast_13 : decode cX0_isLeast 13 = .ok (.iload_n 2, 1) := by decide +kernel
theorem dX0_isLeast_14 : decode cX0_isLeast 14 = .ok (.aload_n 0, 1) := by decide +kernel
theorem dX0_isLeast_15 : decode cX0_isLeast 15 = .ok (.getfield 35, 3) := by decide +kernel
theorem dX0_isLeast_18 : decode cX0_isLeast 18 = .ok (.if_icmp .ge 40, 3) := by decide +kernel
theorem dX0_isLeast_21 : decode cX0_isLeast 21 = .ok (.aload_n 0, 1) := by decide +kernel
theorem dX0_isLeast_22 : decode cX0_isLeast 22 = .ok (.iload_n 1, 1) := by decide +kernel
theorem dX0_isLeast_23 : decode cX0_isLeast 23 = .ok (.iload_n 2, 1) := by decide +kernel
theorem dX0_isLeast_24 : decode cX0_isLeast 24 = .ok (.invokevirtual 47, 3) := by decide +kernel
theorem dX0_isLeast_27 : decode cX0_isLeast 27 = .ok (.ifCond .eq 25, 3) := by decide +kernel
theorem dX0_isLeast_30 : decode cX0_isLeast 30 = .ok (.aload_n 0, 1) := by decide +kernel
theorem dX0_isLeast_31 : decode cX0_isLeast 31 = .ok (.getfield 15, 3) := by decide +kernel
theorem dX0_isLeast_34 : decode cX0_isLeast 34 = .ok (.iload_n 2, 1) := by decide +kernel
theorem dX0_isLeast_35 : decode cX0_isLeast 35 = .ok (.iaload, 1) := by decide +kernel
theorem dX0_isLeast_36 : decode cX0_isLeast 36 = .ok (.aload_n 0, 1) := by decide +kernel
theorem dX0_isLeast_37 : decode cX0_isLeast 37 = .ok (.getfield 15, 3) := by decide +kernel
theorem dX0_isLeast_40 : decode cX0_isLeast 40 = .ok (.iload_n 1, 1) := by decide +kernel
theorem dX0_isLeast_41 : decode cX0_isLeast 41 = .ok (.iaload, 1) := by decide +kernel
theorem dX0_isLeast_42 : decode cX0_isLeast 42 = .ok (.if_icmp .ne 8, 3) := by decide +kernel
theorem dX0_isLeast_45 : decode cX0_isLeast 45 = .ok (.iload_n 2, 1) := by decide +kernel
theorem dX0_isLeast_46 : decode cX0_isLeast 46 = .ok (.iload_n 1, 1) := by decide +kernel
theorem dX0_isLeast_47 : decode cX0_isLeast 47 = .ok (.if_icmp .ge 5, 3) := by decide +kernel
theorem dX0_isLeast_50 : decode cX0_isLeast 50 = .ok (.iconst 0, 1) := by decide +kernel
theorem dX0_isLeast_51 : decode cX0_isLeast 51 = .ok (.ireturn, 1) := by decide +kernel
theorem dX0_isLeast_52 : decode cX0_isLeast 52 = .ok (.iinc 2 1, 3) := by decide +kernel
theorem dX0_isLeast_55 : decode cX0_isLeast 55 = .ok (.goto (-42), 3) := by decide +kernel
theorem dX0_isLeast_58 : decode cX0_isLeast 58 = .ok (.iconst 1, 1) := by decide +kernel
theorem dX0_isLeast_59 : decode cX0_isLeast 59 = .ok (.ireturn, 1) := by decide +kernel
theorem dX0_countLeast_0 : decode cX0_countLeast 0 = .ok (.iconst 0, 1) := by decide +kernel
theorem dX0_countLeast_1 : decode cX0_countLeast 1 = .ok (.istore_n 1, 1) := by decide +kernel
theorem dX0_countLeast_2 : decode cX0_countLeast 2 = .ok (.iconst 0, 1) := by decide +kernel
theorem dX0_countLeast_3 : decode cX0_countLeast 3 = .ok (.istore_n 2, 1) := by decide +kernel
theorem dX0_countLeast_4 : decode cX0_countLeast 4 = .ok (.iload_n 2, 1) := by decide +kernel
theorem dX0_countLeast_5 : decode cX0_countLeast 5 = .ok (.aload_n 0, 1) := by decide +kernel
theorem dX0_countLeast_6 : decode cX0_countLeast 6 = .ok (.getfield 35, 3) := by decide +kernel
theorem dX0_countLeast_9 : decode cX0_countLeast 9 = .ok (.if_icmp .ge 20, 3) := by decide +kernel
theorem dX0_countLeast_12 : decode cX0_countLeast 12 = .ok (.aload_n 0, 1) := by decide +kernel
theorem dX0_countLeast_13 : decode cX0_countLeast 13 = .ok (.iload_n 2, 1) := by decide +kernel
theorem dX0_countLeast_14 : decode cX0_countLeast 14 = .ok (.invokevirtual 51, 3) := by decide +kernel
theorem dX0_countLeast_17 : decode cX0_countLeast 17 = .ok (.ifCond .eq 6, 3) := by decide +kernel
theorem dX0_countLeast_20 : decode cX0_countLeast 20 = .ok (.iinc 1 1, 3) := by decide +kernel
theorem dX0_countLeast_23 : decode cX0_countLeast 23 = .ok (.iinc 2 1, 3) := by decide +kernel
theorem dX0_countLeast_26 : decode cX0_countLeast 26 = .ok (.goto (-22), 3) := by decide +kernel
theorem dX0_countLeast_29 : decode cX0_countLeast 29 = .ok (.iload_n 1, 1) := by decide +kernel
theorem dX0_countLeast_30 : decode cX0_countLeast 30 = .ok (.ireturn, 1) := by decide +kernel
theorem dX0_hardestMutant_0 : decode cX0_hardestMutant 0 = .ok (.bipush (-9), 2) := by decide +kernel
theorem dX0_hardestMutant_2 : decode cX0_hardestMutant 2 = .ok (.istore_n 1, 1) := by decide +kernel
theorem dX0_hardestMutant_3 : decode cX0_hardestMutant 3 = .ok (.bipush 8, 2) := by decide +kernel
theorem dX0_hardestMutant_5 : decode cX0_hardestMutant 5 = .ok (.istore_n 2, 1) := by decide +kernel
theorem dX0_hardestMutant_6 : decode cX0_hardestMutant 6 = .ok (.iconst 0, 1) := by decide +kernel
theorem dX0_hardestMutant_7 : decode cX0_hardestMutant 7 = .ok (.istore_n 3, 1) := by decide +kernel
theorem dX0_hardestMutant_8 : decode cX0_hardestMutant 8 = .ok (.iload_n 3, 1) := by decide +kernel
theorem dX0_hardestMutant_9 : decode cX0_hardestMutant 9 = .ok (.aload_n 0, 1) := by decide +kernel
theorem dX0_hardestMutant_10 : decode cX0_hardestMutant 10 = .ok (.getfield 35, 3) := by decide +kernel
theorem dX0_hardestMutant_13 : decode cX0_hardestMutant 13 = .ok (.if_icmp .ge 36, 3) := by decide +kernel
theorem dX0_hardestMutant_16 : decode cX0_hardestMutant 16 = .ok (.aload_n 0, 1) := by decide +kernel
theorem dX0_hardestMutant_17 : decode cX0_hardestMutant 17 = .ok (.getfield 15, 3) := by decide +kernel
theorem dX0_hardestMutant_20 : decode cX0_hardestMutant 20 = .ok (.iload_n 3, 1) := by decide +kernel
theorem dX0_hardestMutant_21 : decode cX0_hardestMutant 21 = .ok (.iaload, 1) := by decide +kernel
theorem dX0_hardestMutant_22 : decode cX0_hardestMutant 22 = .ok (.invokestatic 55, 3) := by decide +kernel
theorem dX0_hardestMutant_25 : decode cX0_hardestMutant 25 = .ok (.istore 4, 2) := by decide +kernel
theorem dX0_hardestMutant_27 : decode cX0_hardestMutant 27 = .ok (.iload 4, 2) := by decide +kernel
theorem dX0_hardestMutant_29 : decode cX0_hardestMutant 29 = .ok (.ifCond .le 14, 3) := by decide +kernel
theorem dX0_hardestMutant_32 : decode cX0_hardestMutant 32 = .ok (.iload 4, 2) := by decide +kernel
theorem dX0_hardestMutant_34 : decode cX0_hardestMutant 34 = .ok (.iload_n 2, 1) := by decide +kernel
theorem dX0_hardestMutant_35 : decode cX0_hardestMutant 35 = .ok (.if_icmp .ge 8, 3) := by decide +kernel
theorem dX0_hardestMutant_38 : decode cX0_hardestMutant 38 = .ok (.iload_n 3, 1) := by decide +kernel
theorem dX0_hardestMutant_39 : decode cX0_hardestMutant 39 = .ok (.istore_n 1, 1) := by decide +kernel
theorem dX0_hardestMutant_40 : decode cX0_hardestMutant 40 = .ok (.iload 4, 2) := by decide +kernel
theorem dX0_hardestMutant_42 : decode cX0_hardestMutant 42 = .ok (.istore_n 2, 1) := by decide +kernel
theorem dX0_hardestMutant_43 : decode cX0_hardestMutant 43 = .ok (.iinc 3 1, 3) := by decide +kernel
theorem dX0_hardestMutant_46 : decode cX0_hardestMutant 46 = .ok (.goto (-38), 3) := by decide +kernel
theorem dX0_hardestMutant_49 : decode cX0_hardestMutant 49 = .ok (.iload_n 1, 1) := by decide +kernel
theorem dX0_hardestMutant_50 : decode cX0_hardestMutant 50 = .ok (.ireturn, 1) := by decide +kernel
theorem dX0_weightOf_0 : decode cX0_weightOf 0 = .ok (.iconst 0, 1) := by decide +kernel
theorem dX0_weightOf_1 : decode cX0_weightOf 1 = .ok (.istore_n 2, 1) := by decide +kernel
theorem dX0_weightOf_2 : decode cX0_weightOf 2 = .ok (.iconst 0, 1) := by decide +kernel
theorem dX0_weightOf_3 : decode cX0_weightOf 3 = .ok (.istore_n 3, 1) := by decide +kernel
theorem dX0_weightOf_4 : decode cX0_weightOf 4 = .ok (.iload_n 3, 1) := by decide +kernel
theorem dX0_weightOf_5 : decode cX0_weightOf 5 = .ok (.aload_n 0, 1) := by decide +kernel
theorem dX0_weightOf_6 : decode cX0_weightOf 6 = .ok (.getfield 30, 3) := by decide +kernel
theorem dX0_weightOf_9 : decode cX0_weightOf 9 = .ok (.if_icmp .ge 24, 3) := by decide +kernel
theorem dX0_weightOf_12 : decode cX0_weightOf 12 = .ok (.iload_n 2, 1) := by decide +kernel
theorem dX0_weightOf_13 : decode cX0_weightOf 13 = .ok (.iload_n 1, 1) := by decide +kernel
theorem dX0_weightOf_14 : decode cX0_weightOf 14 = .ok (.iload_n 3, 1) := by decide +kernel
theorem dX0_weightOf_15 : decode cX0_weightOf 15 = .ok (.ishr, 1) := by decide +kernel
theorem dX0_weightOf_16 : decode cX0_weightOf 16 = .ok (.iconst 1, 1) := by decide +kernel
theorem dX0_weightOf_17 : decode cX0_weightOf 17 = .ok (.iand, 1) := by decide +kernel
theorem dX0_weightOf_18 : decode cX0_weightOf 18 = .ok (.aload_n 0, 1) := by decide +kernel
theorem dX0_weightOf_19 : decode cX0_weightOf 19 = .ok (.getfield 18, 3) := by decide +kernel
theorem dX0_weightOf_22 : decode cX0_weightOf 22 = .ok (.iload_n 3, 1) := by decide +kernel
theorem dX0_weightOf_23 : decode cX0_weightOf 23 = .ok (.iaload, 1) := by decide +kernel
theorem dX0_weightOf_24 : decode cX0_weightOf 24 = .ok (.imul, 1) := by decide +kernel
theorem dX0_weightOf_25 : decode cX0_weightOf 25 = .ok (.iadd, 1) := by decide +kernel
theorem dX0_weightOf_26 : decode cX0_weightOf 26 = .ok (.istore_n 2, 1) := by decide +kernel
theorem dX0_weightOf_27 : decode cX0_weightOf 27 = .ok (.iinc 3 1, 3) := by decide +kernel
theorem dX0_weightOf_30 : decode cX0_weightOf 30 = .ok (.goto (-26), 3) := by decide +kernel
theorem dX0_weightOf_33 : decode cX0_weightOf 33 = .ok (.iload_n 2, 1) := by decide +kernel
theorem dX0_weightOf_34 : decode cX0_weightOf 34 = .ok (.ireturn, 1) := by decide +kernel
theorem dX0_killedBy_0 : decode cX0_killedBy 0 = .ok (.iconst 0, 1) := by decide +kernel
theorem dX0_killedBy_1 : decode cX0_killedBy 1 = .ok (.istore_n 2, 1) := by decide +kernel
theorem dX0_killedBy_2 : decode cX0_killedBy 2 = .ok (.iconst 0, 1) := by decide +kernel
theorem dX0_killedBy_3 : decode cX0_killedBy 3 = .ok (.istore_n 3, 1) := by decide +kernel
theorem dX0_killedBy_4 : decode cX0_killedBy 4 = .ok (.iload_n 3, 1) := by decide +kernel
theorem dX0_killedBy_5 : decode cX0_killedBy 5 = .ok (.aload_n 0, 1) := by decide +kernel
theorem dX0_killedBy_6 : decode cX0_killedBy 6 = .ok (.getfield 30, 3) := by decide +kernel
theorem dX0_killedBy_9 : decode cX0_killedBy 9 = .ok (.if_icmp .ge 26, 3) := by decide +kernel
theorem dX0_killedBy_12 : decode cX0_killedBy 12 = .ok (.iload_n 1, 1) := by decide +kernel
theorem dX0_killedBy_13 : decode cX0_killedBy 13 = .ok (.iload_n 3, 1) := by decide +kernel
theorem dX0_killedBy_14 : decode cX0_killedBy 14 = .ok (.ishr, 1) := by decide +kernel
theorem dX0_killedBy_15 : decode cX0_killedBy 15 = .ok (.iconst 1, 1) := by decide +kernel
theorem dX0_killedBy_16 : decode cX0_killedBy 16 = .ok (.iand, 1) := by decide +kernel
theorem dX0_killedBy_17 : decode cX0_killedBy 17 = .ok (.ifCond .eq 12, 3) := by decide +kernel
theorem dX0_killedBy_20 : decode cX0_killedBy 20 = .ok (.iload_n 2, 1) := by decide +kernel
theorem dX0_killedBy_21 : decode cX0_killedBy 21 = .ok (.aload_n 0, 1) := by decide +kernel
theorem dX0_killedBy_22 : decode cX0_killedBy 22 = .ok (.getfield 9, 3) := by decide +kernel
theorem dX0_killedBy_25 : decode cX0_killedBy 25 = .ok (.iload_n 3, 1) := by decide +kernel
theorem dX0_killedBy_26 : decode cX0_killedBy 26 = .ok (.iaload, 1) := by decide +kernel
theorem dX0_killedBy_27 : decode cX0_killedBy 27 = .ok (.ior, 1) := by decide +kernel
theorem dX0_killedBy_28 : decode cX0_killedBy 28 = .ok (.istore_n 2, 1) := by decide +kernel
theorem dX0_killedBy_29 : decode cX0_killedBy 29 = .ok (.iinc 3 1, 3) := by decide +kernel
theorem dX0_killedBy_32 : decode cX0_killedBy 32 = .ok (.goto (-28), 3) := by decide +kernel
theorem dX0_killedBy_35 : decode cX0_killedBy 35 = .ok (.iload_n 2, 1) := by decide +kernel
theorem dX0_killedBy_36 : decode cX0_killedBy 36 = .ok (.ireturn, 1) := by decide +kernel
theorem dX0_lightestTests_0 : decode cX0_lightestTests 0 = .ok (.iconst 0, 1) := by decide +kernel
theorem dX0_lightestTests_1 : decode cX0_lightestTests 1 = .ok (.istore_n 1, 1) := by decide +kernel
theorem dX0_lightestTests_2 : decode cX0_lightestTests 2 = .ok (.ldc 60, 2) := by decide +kernel
theorem dX0_lightestTests_4 : decode cX0_lightestTests 4 = .ok (.istore_n 2, 1) := by decide +kernel
theorem dX0_lightestTests_5 : decode cX0_lightestTests 5 = .ok (.iconst 0, 1) := by decide +kernel
theorem dX0_lightestTests_6 : decode cX0_lightestTests 6 = .ok (.istore_n 3, 1) := by decide +kernel
theorem dX0_lightestTests_7 : decode cX0_lightestTests 7 = .ok (.iload_n 3, 1) := by decide +kernel
theorem dX0_lightestTests_8 : decode cX0_lightestTests 8 = .ok (.iconst 1, 1) := by decide +kernel
theorem dX0_lightestTests_9 : decode cX0_lightestTests 9 = .ok (.aload_n 0, 1) := by decide +kernel
theorem dX0_lightestTests_10 : decode cX0_lightestTests 10 = .ok (.getfield 30, 3) := by decide +kernel
theorem dX0_lightestTests_13 : decode cX0_lightestTests 13 = .ok (.ishl, 1) := by decide +kernel
theorem dX0_lightestTests_14 : decode cX0_lightestTests 14 = .ok (.if_icmp .ge 39, 3) := by decide +kernel
theorem dX0_lightestTests_17 : decode cX0_lightestTests 17 = .ok (.aload_n 0, 1) := by decide +kernel
theorem dX0_lightestTests_18 : decode cX0_lightestTests 18 = .ok (.iload_n 3, 1) := by decide +kernel
theorem dX0_lightestTests_19 : decode cX0_lightestTests 19 = .ok (.invokevirtual 61, 3) := by decide +kernel
theorem dX0_lightestTests_22 : decode cX0_lightestTests 22 = .ok (.istore 4, 2) := by decide +kernel
theorem dX0_lightestTests_24 : decode cX0_lightestTests 24 = .ok (.iload 4, 2) := by decide +kernel
theorem dX0_lightestTests_26 : decode cX0_lightestTests 26 = .ok (.iload_n 2, 1) := by decide +kernel
theorem dX0_lightestTests_27 : decode cX0_lightestTests 27 = .ok (.if_icmp .ge 20, 3) := by decide +kernel
theorem dX0_lightestTests_30 : decode cX0_lightestTests 30 = .ok (.aload_n 0, 1) := by decide +kernel
theorem dX0_lightestTests_31 : decode cX0_lightestTests 31 = .ok (.iload_n 3, 1) := by decide +kernel
theorem dX0_lightestTests_32 : decode cX0_lightestTests 32 = .ok (.invokevirtual 64, 3) := by decide +kernel
theorem dX0_lightestTests_35 : decode cX0_lightestTests 35 = .ok (.aload_n 0, 1) := by decide +kernel
theorem dX0_lightestTests_36 : decode cX0_lightestTests 36 = .ok (.getfield 37, 3) := by decide +kernel
theorem dX0_lightestTests_39 : decode cX0_lightestTests 39 = .ok (.if_icmp .ne 8, 3) := by decide +kernel
theorem dX0_lightestTests_42 : decode cX0_lightestTests 42 = .ok (.iload_n 3, 1) := by decide +kernel
theorem dX0_lightestTests_43 : decode cX0_lightestTests 43 = .ok (.istore_n 1, 1) := by decide +kernel
theorem dX0_lightestTests_44 : decode cX0_lightestTests 44 = .ok (.iload 4, 2) := by decide +kernel
theorem dX0_lightestTests_46 : decode cX0_lightestTests 46 = .ok (.istore_n 2, 1) := by decide +kernel
theorem dX0_lightestTests_47 : decode cX0_lightestTests 47 = .ok (.iinc 3 1, 3) := by decide +kernel
theorem dX0_lightestTests_50 : decode cX0_lightestTests 50 = .ok (.goto (-43), 3) := by decide +kernel
theorem dX0_lightestTests_53 : decode cX0_lightestTests 53 = .ok (.iload_n 1, 1) := by decide +kernel
theorem dX0_lightestTests_54 : decode cX0_lightestTests 54 = .ok (.ireturn, 1) := by decide +kernel
theorem dX0_chooseTests_0 : decode cX0_chooseTests 0 = .ok (.aload_n 0, 1) := by decide +kernel
theorem dX0_chooseTests_1 : decode cX0_chooseTests 1 = .ok (.getfield 37, 3) := by decide +kernel
theorem dX0_chooseTests_4 : decode cX0_chooseTests 4 = .ok (.istore_n 2, 1) := by decide +kernel
theorem dX0_chooseTests_5 : decode cX0_chooseTests 5 = .ok (.iconst 0, 1) := by decide +kernel
theorem dX0_chooseTests_6 : decode cX0_chooseTests 6 = .ok (.istore_n 3, 1) := by decide +kernel
theorem dX0_chooseTests_7 : decode cX0_chooseTests 7 = .ok (.iload_n 2, 1) := by decide +kernel
theorem dX0_chooseTests_8 : decode cX0_chooseTests 8 = .ok (.ifCond .eq 45, 3) := by decide +kernel
theorem dX0_chooseTests_11 : decode cX0_chooseTests 11 = .ok (.iload_n 3, 1) := by decide +kernel
theorem dX0_chooseTests_12 : decode cX0_chooseTests 12 = .ok (.aload_n 0, 1) := by decide +kernel
theorem dX0_chooseTests_13 : decode cX0_chooseTests 13 = .ok (.getfield 30, 3) := by decide +kernel
theorem dX0_chooseTests_16 : decode cX0_chooseTests 16 = .ok (.if_icmp .ge 37, 3) := by decide +kernel
theorem dX0_chooseTests_19 : decode cX0_chooseTests 19 = .ok (.aload_n 0, 1) := by decide +kernel
theorem dX0_chooseTests_20 : decode cX0_chooseTests 20 = .ok (.getfield 21, 3) := by decide +kernel
theorem dX0_chooseTests_23 : decode cX0_chooseTests 23 = .ok (.iload_n 3, 1) := by decide +kernel
theorem dX0_chooseTests_24 : decode cX0_chooseTests 24 = .ok (.aload_n 0, 1) := by decide +kernel
theorem dX0_chooseTests_25 : decode cX0_chooseTests 25 = .ok (.iload_n 1, 1) := by decide +kernel
theorem dX0_chooseTests_26 : decode cX0_chooseTests 26 = .ok (.iload_n 2, 1) := by decide +kernel
theorem dX0_chooseTests_27 : decode cX0_chooseTests 27 = .ok (.invokevirtual 67, 3) := by decide +kernel
theorem dX0_chooseTests_30 : decode cX0_chooseTests 30 = .ok (.iastore, 1) := by decide +kernel
theorem dX0_chooseTests_31 : decode cX0_chooseTests 31 = .ok (.iload_n 2, 1) := by decide +kernel
theorem dX0_chooseTests_32 : decode cX0_chooseTests 32 = .ok (.aload_n 0, 1) := by decide +kernel
theorem dX0_chooseTests_33 : decode cX0_chooseTests 33 = .ok (.getfield 9, 3) := by decide +kernel
theorem dX0_chooseTests_36 : decode cX0_chooseTests 36 = .ok (.aload_n 0, 1) := by decide +kernel
theorem dX0_chooseTests_37 : decode cX0_chooseTests 37 = .ok (.getfield 21, 3) := by decide +kernel
theorem dX0_chooseTests_40 : decode cX0_chooseTests 40 = .ok (.iload_n 3, 1) := by decide +kernel
theorem dX0_chooseTests_41 : decode cX0_chooseTests 41 = .ok (.iaload, 1) := by decide +kernel
theorem dX0_chooseTests_42 : decode cX0_chooseTests 42 = .ok (.iaload, 1) := by decide +kernel
theorem dX0_chooseTests_43 : decode cX0_chooseTests 43 = .ok (.iconst (-1), 1) := by decide +kernel
theorem dX0_chooseTests_44 : decode cX0_chooseTests 44 = .ok (.ixor, 1) := by decide +kernel
theorem dX0_chooseTests_45 : decode cX0_chooseTests 45 = .ok (.iand, 1) := by decide +kernel
theorem dX0_chooseTests_46 : decode cX0_chooseTests 46 = .ok (.istore_n 2, 1) := by decide +kernel
theorem dX0_chooseTests_47 : decode cX0_chooseTests 47 = .ok (.iinc 3 1, 3) := by decide +kernel
theorem dX0_chooseTests_50 : decode cX0_chooseTests 50 = .ok (.goto (-43), 3) := by decide +kernel
theorem dX0_chooseTests_53 : decode cX0_chooseTests 53 = .ok (.iload_n 3, 1) := by decide +kernel
theorem dX0_chooseTests_54 : decode cX0_chooseTests 54 = .ok (.ireturn, 1) := by decide +kernel
theorem dX0_bestTest_0 : decode cX0_bestTest 0 = .ok (.iconst 0, 1) := by decide +kernel
theorem dX0_bestTest_1 : decode cX0_bestTest 1 = .ok (.istore_n 3, 1) := by decide +kernel
theorem dX0_bestTest_2 : decode cX0_bestTest 2 = .ok (.iconst 1, 1) := by decide +kernel
theorem dX0_bestTest_3 : decode cX0_bestTest 3 = .ok (.istore 4, 2) := by decide +kernel
theorem dX0_bestTest_5 : decode cX0_bestTest 5 = .ok (.iload 4, 2) := by decide +kernel
theorem dX0_bestTest_7 : decode cX0_bestTest 7 = .ok (.aload_n 0, 1) := by decide +kernel
theorem dX0_bestTest_8 : decode cX0_bestTest 8 = .ok (.getfield 30, 3) := by decide +kernel
theorem dX0_bestTest_11 : decode cX0_bestTest 11 = .ok (.if_icmp .ge 47, 3) := by decide +kernel
theorem dX0_bestTest_14 : decode cX0_bestTest 14 = .ok (.aload_n 0, 1) := by decide +kernel
theorem dX0_bestTest_15 : decode cX0_bestTest 15 = .ok (.getfield 9, 3) := by decide +kernel
theorem dX0_bestTest_18 : decode cX0_bestTest 18 = .ok (.iload 4, 2) := by decide +kernel
theorem dX0_bestTest_20 : decode cX0_bestTest 20 = .ok (.iaload, 1) := by decide +kernel
theorem dX0_bestTest_21 : decode cX0_bestTest 21 = .ok (.iload_n 2, 1) := by decide +kernel
theorem dX0_bestTest_22 : decode cX0_bestTest 22 = .ok (.iand, 1) := by decide +kernel
theorem dX0_bestTest_23 : decode cX0_bestTest 23 = .ok (.ifCond .eq 29, 3) := by decide +kernel
theorem dX0_bestTest_26 : decode cX0_bestTest 26 = .ok (.aload_n 0, 1) := by decide +kernel
theorem dX0_bestTest_27 : decode cX0_bestTest 27 = .ok (.getfield 9, 3) := by decide +kernel
theorem dX0_bestTest_30 : decode cX0_bestTest 30 = .ok (.iload_n 3, 1) := by decide +kernel
theorem dX0_bestTest_31 : decode cX0_bestTest 31 = .ok (.iaload, 1) := by decide +kernel
theorem dX0_bestTest_32 : decode cX0_bestTest 32 = .ok (.iload_n 2, 1) := by decide +kernel
theorem dX0_bestTest_33 : decode cX0_bestTest 33 = .ok (.iand, 1) := by decide +kernel
theorem dX0_bestTest_34 : decode cX0_bestTest 34 = .ok (.ifCond .eq 15, 3) := by decide +kernel
theorem dX0_bestTest_37 : decode cX0_bestTest 37 = .ok (.aload_n 0, 1) := by decide +kernel
theorem dX0_bestTest_38 : decode cX0_bestTest 38 = .ok (.iload_n 1, 1) := by decide +kernel
theorem dX0_bestTest_39 : decode cX0_bestTest 39 = .ok (.iload 4, 2) := by decide +kernel
theorem dX0_bestTest_41 : decode cX0_bestTest 41 = .ok (.iload_n 3, 1) := by decide +kernel
theorem dX0_bestTest_42 : decode cX0_bestTest 42 = .ok (.iload_n 2, 1) := by decide +kernel
theorem dX0_bestTest_43 : decode cX0_bestTest 43 = .ok (.invokevirtual 71, 3) := by decide +kernel
theorem dX0_bestTest_46 : decode cX0_bestTest 46 = .ok (.ifCond .eq 6, 3) := by decide +kernel
theorem dX0_bestTest_49 : decode cX0_bestTest 49 = .ok (.iload 4, 2) := by decide +kernel
theorem dX0_bestTest_51 : decode cX0_bestTest 51 = .ok (.istore_n 3, 1) := by decide +kernel
theorem dX0_bestTest_52 : decode cX0_bestTest 52 = .ok (.iinc 4 1, 3) := by decide +kernel
theorem dX0_bestTest_55 : decode cX0_bestTest 55 = .ok (.goto (-50), 3) := by decide +kernel
theorem dX0_bestTest_58 : decode cX0_bestTest 58 = .ok (.iload_n 3, 1) := by decide +kernel
theorem dX0_bestTest_59 : decode cX0_bestTest 59 = .ok (.ireturn, 1) := by decide +kernel
theorem dX0_isBetter_0 : decode cX0_isBetter 0 = .ok (.aload_n 0, 1) := by decide +kernel
theorem dX0_isBetter_1 : decode cX0_isBetter 1 = .ok (.getfield 9, 3) := by decide +kernel
theorem dX0_isBetter_4 : decode cX0_isBetter 4 = .ok (.iload_n 2, 1) := by decide +kernel
theorem dX0_isBetter_5 : decode cX0_isBetter 5 = .ok (.iaload, 1) := by decide +kernel
theorem dX0_isBetter_6 : decode cX0_isBetter 6 = .ok (.iload 4, 2) := by decide +kernel
theorem dX0_isBetter_8 : decode cX0_isBetter 8 = .ok (.iand, 1) := by decide +kernel
theorem dX0_isBetter_9 : decode cX0_isBetter 9 = .ok (.invokestatic 55, 3) := by decide +kernel
theorem dX0_isBetter_12 : decode cX0_isBetter 12 = .ok (.istore 5, 2) := by decide +kernel
theorem dX0_isBetter_14 : decode cX0_isBetter 14 = .ok (.aload_n 0, 1) := by decide +kernel
theorem dX0_isBetter_15 : decode cX0_isBetter 15 = .ok (.getfield 9, 3) := by decide +kernel
theorem dX0_isBetter_18 : decode cX0_isBetter 18 = .ok (.iload_n 3, 1) := by decide +kernel
theorem dX0_isBetter_19 : decode cX0_isBetter 19 = .ok (.iaload, 1) := by decide +kernel
theorem dX0_isBetter_20 : decode cX0_isBetter 20 = .ok (.iload 4, 2) := by decide +kernel
theorem dX0_isBetter_22 : decode cX0_isBetter 22 = .ok (.iand, 1) := by decide +kernel
theorem dX0_isBetter_23 : decode cX0_isBetter 23 = .ok (.invokestatic 55, 3) := by decide +kernel
theorem dX0_isBetter_26 : decode cX0_isBetter 26 = .ok (.istore 6, 2) := by decide +kernel
theorem dX0_isBetter_28 : decode cX0_isBetter 28 = .ok (.iload_n 1, 1) := by decide +kernel
theorem dX0_isBetter_29 : decode cX0_isBetter 29 = .ok (.lookupswitch 61 #[(0, 27), (1, 40)], 27) := by decide +kernel
theorem dX0_isBetter_56 : decode cX0_isBetter 56 = .ok (.iload 5, 2) := by decide +kernel
theorem dX0_isBetter_58 : decode cX0_isBetter 58 = .ok (.iload 6, 2) := by decide +kernel
theorem dX0_isBetter_60 : decode cX0_isBetter 60 = .ok (.if_icmp .le 7, 3) := by decide +kernel
theorem dX0_isBetter_63 : decode cX0_isBetter 63 = .ok (.iconst 1, 1) := by decide +kernel
theorem dX0_isBetter_64 : decode cX0_isBetter 64 = .ok (.goto 4, 3) := by decide +kernel
theorem dX0_isBetter_67 : decode cX0_isBetter 67 = .ok (.iconst 0, 1) := by decide +kernel
theorem dX0_isBetter_68 : decode cX0_isBetter 68 = .ok (.ireturn, 1) := by decide +kernel
theorem dX0_isBetter_69 : decode cX0_isBetter 69 = .ok (.aload_n 0, 1) := by decide +kernel
theorem dX0_isBetter_70 : decode cX0_isBetter 70 = .ok (.getfield 18, 3) := by decide +kernel
theorem dX0_isBetter_73 : decode cX0_isBetter 73 = .ok (.iload_n 2, 1) := by decide +kernel
theorem dX0_isBetter_74 : decode cX0_isBetter 74 = .ok (.iaload, 1) := by decide +kernel
theorem dX0_isBetter_75 : decode cX0_isBetter 75 = .ok (.aload_n 0, 1) := by decide +kernel
theorem dX0_isBetter_76 : decode cX0_isBetter 76 = .ok (.getfield 18, 3) := by decide +kernel
theorem dX0_isBetter_79 : decode cX0_isBetter 79 = .ok (.iload_n 3, 1) := by decide +kernel
theorem dX0_isBetter_80 : decode cX0_isBetter 80 = .ok (.iaload, 1) := by decide +kernel
theorem dX0_isBetter_81 : decode cX0_isBetter 81 = .ok (.if_icmp .ge 7, 3) := by decide +kernel
theorem dX0_isBetter_84 : decode cX0_isBetter 84 = .ok (.iconst 1, 1) := by decide +kernel
theorem dX0_isBetter_85 : decode cX0_isBetter 85 = .ok (.goto 4, 3) := by decide +kernel
theorem dX0_isBetter_88 : decode cX0_isBetter 88 = .ok (.iconst 0, 1) := by decide +kernel
theorem dX0_isBetter_89 : decode cX0_isBetter 89 = .ok (.ireturn, 1) := by decide +kernel
theorem dX0_isBetter_90 : decode cX0_isBetter 90 = .ok (.iload 5, 2) := by decide +kernel
theorem dX0_isBetter_92 : decode cX0_isBetter 92 = .ok (.aload_n 0, 1) := by decide +kernel
theorem dX0_isBetter_93 : decode cX0_isBetter 93 = .ok (.getfield 18, 3) := by decide +kernel
theorem dX0_isBetter_96 : decode cX0_isBetter 96 = .ok (.iload_n 3, 1) := by decide +kernel
theorem dX0_isBetter_97 : decode cX0_isBetter 97 = .ok (.iaload, 1) := by decide +kernel
theorem dX0_isBetter_98 : decode cX0_isBetter 98 = .ok (.imul, 1) := by decide +kernel
theorem dX0_isBetter_99 : decode cX0_isBetter 99 = .ok (.iload 6, 2) := by decide +kernel
theorem dX0_isBetter_101 : decode cX0_isBetter 101 = .ok (.aload_n 0, 1) := by decide +kernel
theorem dX0_isBetter_102 : decode cX0_isBetter 102 = .ok (.getfield 18, 3) := by decide +kernel
theorem dX0_isBetter_105 : decode cX0_isBetter 105 = .ok (.iload_n 2, 1) := by decide +kernel
theorem dX0_isBetter_106 : decode cX0_isBetter 106 = .ok (.iaload, 1) := by decide +kernel
theorem dX0_isBetter_107 : decode cX0_isBetter 107 = .ok (.imul, 1) := by decide +kernel
theorem dX0_isBetter_108 : decode cX0_isBetter 108 = .ok (.if_icmp .le 7, 3) := by decide +kernel
theorem dX0_isBetter_111 : decode cX0_isBetter 111 = .ok (.iconst 1, 1) := by decide +kernel
theorem dX0_isBetter_112 : decode cX0_isBetter 112 = .ok (.goto 4, 3) := by decide +kernel
theorem dX0_isBetter_115 : decode cX0_isBetter 115 = .ok (.iconst 0, 1) := by decide +kernel
theorem dX0_isBetter_116 : decode cX0_isBetter 116 = .ok (.ireturn, 1) := by decide +kernel
theorem dX0_chosenSet_0 : decode cX0_chosenSet 0 = .ok (.iconst 0, 1) := by decide +kernel
theorem dX0_chosenSet_1 : decode cX0_chosenSet 1 = .ok (.istore_n 2, 1) := by decide +kernel
theorem dX0_chosenSet_2 : decode cX0_chosenSet 2 = .ok (.iconst 0, 1) := by decide +kernel
theorem dX0_chosenSet_3 : decode cX0_chosenSet 3 = .ok (.istore_n 3, 1) := by decide +kernel
theorem dX0_chosenSet_4 : decode cX0_chosenSet 4 = .ok (.iload_n 3, 1) := by decide +kernel
theorem dX0_chosenSet_5 : decode cX0_chosenSet 5 = .ok (.iload_n 1, 1) := by decide +kernel
theorem dX0_chosenSet_6 : decode cX0_chosenSet 6 = .ok (.if_icmp .ge 20, 3) := by decide +kernel
theorem dX0_chosenSet_9 : decode cX0_chosenSet 9 = .ok (.iload_n 2, 1) := by decide +kernel
theorem dX0_chosenSet_10 : decode cX0_chosenSet 10 = .ok (.iconst 1, 1) := by decide +kernel
theorem dX0_chosenSet_11 : decode cX0_chosenSet 11 = .ok (.aload_n 0, 1) := by decide +kernel
theorem dX0_chosenSet_12 : decode cX0_chosenSet 12 = .ok (.getfield 21, 3) := by decide +kernel
theorem dX0_chosenSet_15 : decode cX0_chosenSet 15 = .ok (.iload_n 3, 1) := by decide +kernel
theorem dX0_chosenSet_16 : decode cX0_chosenSet 16 = .ok (.iaload, 1) := by decide +kernel
theorem dX0_chosenSet_17 : decode cX0_chosenSet 17 = .ok (.ishl, 1) := by decide +kernel
theorem dX0_chosenSet_18 : decode cX0_chosenSet 18 = .ok (.ior, 1) := by decide +kernel
theorem dX0_chosenSet_19 : decode cX0_chosenSet 19 = .ok (.istore_n 2, 1) := by decide +kernel
theorem dX0_chosenSet_20 : decode cX0_chosenSet 20 = .ok (.iinc 3 1, 3) := by decide +kernel
theorem dX0_chosenSet_23 : decode cX0_chosenSet 23 = .ok (.goto (-19), 3) := by decide +kernel
theorem dX0_chosenSet_26 : decode cX0_chosenSet 26 = .ok (.iload_n 2, 1) := by decide +kernel
theorem dX0_chosenSet_27 : decode cX0_chosenSet 27 = .ok (.ireturn, 1) := by decide +kernel
theorem dX1_init_0 : decode cX1_init 0 = .ok (.aload_n 0, 1) := by decide +kernel
theorem dX1_init_1 : decode cX1_init 1 = .ok (.invokespecial 3, 3) := by decide +kernel
theorem dX1_init_4 : decode cX1_init 4 = .ok (.aload_n 0, 1) := by decide +kernel
theorem dX1_init_5 : decode cX1_init 5 = .ok (.iconst 5, 1) := by decide +kernel
theorem dX1_init_6 : decode cX1_init 6 = .ok (.newarray .int, 2) := by decide +kernel
theorem dX1_init_8 : decode cX1_init 8 = .ok (.putfield 9, 3) := by decide +kernel
theorem dX1_init_11 : decode cX1_init 11 = .ok (.aload_n 0, 1) := by decide +kernel
theorem dX1_init_12 : decode cX1_init 12 = .ok (.iconst 5, 1) := by decide +kernel
theorem dX1_init_13 : decode cX1_init 13 = .ok (.newarray .int, 2) := by decide +kernel
theorem dX1_init_15 : decode cX1_init 15 = .ok (.putfield 15, 3) := by decide +kernel
theorem dX1_init_18 : decode cX1_init 18 = .ok (.aload_n 0, 1) := by decide +kernel
theorem dX1_init_19 : decode cX1_init 19 = .ok (.iconst 5, 1) := by decide +kernel
theorem dX1_init_20 : decode cX1_init 20 = .ok (.newarray .int, 2) := by decide +kernel
theorem dX1_init_22 : decode cX1_init 22 = .ok (.putfield 18, 3) := by decide +kernel
theorem dX1_init_25 : decode cX1_init 25 = .ok (.aload_n 0, 1) := by decide +kernel
theorem dX1_init_26 : decode cX1_init 26 = .ok (.bipush 7, 2) := by decide +kernel
theorem dX1_init_28 : decode cX1_init 28 = .ok (.newarray .int, 2) := by decide +kernel
theorem dX1_init_30 : decode cX1_init 30 = .ok (.putfield 21, 3) := by decide +kernel
theorem dX1_init_33 : decode cX1_init 33 = .ok (.aload_n 0, 1) := by decide +kernel
theorem dX1_init_34 : decode cX1_init 34 = .ok (.bipush 7, 2) := by decide +kernel
theorem dX1_init_36 : decode cX1_init 36 = .ok (.newarray .int, 2) := by decide +kernel
theorem dX1_init_38 : decode cX1_init 38 = .ok (.putfield 24, 3) := by decide +kernel
theorem dX1_init_41 : decode cX1_init 41 = .ok (.aload_n 0, 1) := by decide +kernel
theorem dX1_init_42 : decode cX1_init 42 = .ok (.bipush 7, 2) := by decide +kernel
theorem dX1_init_44 : decode cX1_init 44 = .ok (.newarray .int, 2) := by decide +kernel
theorem dX1_init_46 : decode cX1_init 46 = .ok (.putfield 27, 3) := by decide +kernel
theorem dX1_init_49 : decode cX1_init 49 = .ok (.aload_n 0, 1) := by decide +kernel
theorem dX1_init_50 : decode cX1_init 50 = .ok (.bipush 7, 2) := by decide +kernel
theorem dX1_init_52 : decode cX1_init 52 = .ok (.newarray .int, 2) := by decide +kernel
theorem dX1_init_54 : decode cX1_init 54 = .ok (.putfield 30, 3) := by decide +kernel
theorem dX1_init_57 : decode cX1_init 57 = .ok (.aload_n 0, 1) := by decide +kernel
theorem dX1_init_58 : decode cX1_init 58 = .ok (.bipush 7, 2) := by decide +kernel
theorem dX1_init_60 : decode cX1_init 60 = .ok (.newarray .int, 2) := by decide +kernel
theorem dX1_init_62 : decode cX1_init 62 = .ok (.putfield 33, 3) := by decide +kernel
theorem dX1_init_65 : decode cX1_init 65 = .ok (.aload_n 0, 1) := by decide +kernel
theorem dX1_init_66 : decode cX1_init 66 = .ok (.bipush 7, 2) := by decide +kernel
theorem dX1_init_68 : decode cX1_init 68 = .ok (.newarray .int, 2) := by decide +kernel
theorem dX1_init_70 : decode cX1_init 70 = .ok (.putfield 36, 3) := by decide +kernel
theorem dX1_init_73 : decode cX1_init 73 = .ok (.return_, 1) := by decide +kernel
theorem dX1_becomeEmpty_0 : decode cX1_becomeEmpty 0 = .ok (.aload_n 0, 1) := by decide +kernel
theorem dX1_becomeEmpty_1 : decode cX1_becomeEmpty 1 = .ok (.iconst 0, 1) := by decide +kernel
theorem dX1_becomeEmpty_2 : decode cX1_becomeEmpty 2 = .ok (.putfield 39, 3) := by decide +kernel
theorem dX1_becomeEmpty_5 : decode cX1_becomeEmpty 5 = .ok (.aload_n 0, 1) := by decide +kernel
theorem dX1_becomeEmpty_6 : decode cX1_becomeEmpty 6 = .ok (.iconst 0, 1) := by decide +kernel
theorem dX1_becomeEmpty_7 : decode cX1_becomeEmpty 7 = .ok (.putfield 43, 3) := by decide +kernel
theorem dX1_becomeEmpty_10 : decode cX1_becomeEmpty 10 = .ok (.return_, 1) := by decide +kernel
theorem dX1_becomeLike_0 : decode cX1_becomeLike 0 = .ok (.aload_n 0, 1) := by decide +kernel
theorem dX1_becomeLike_1 : decode cX1_becomeLike 1 = .ok (.aload_n 1, 1) := by decide +kernel
theorem dX1_becomeLike_2 : decode cX1_becomeLike 2 = .ok (.getfield 39, 3) := by decide +kernel
theorem dX1_becomeLike_5 : decode cX1_becomeLike 5 = .ok (.putfield 39, 3) := by decide +kernel
theorem dX1_becomeLike_8 : decode cX1_becomeLike 8 = .ok (.iconst 0, 1) := by decide +kernel
theorem dX1_becomeLike_9 : decode cX1_becomeLike 9 = .ok (.istore_n 2, 1) := by decide +kernel
theorem dX1_becomeLike_10 : decode cX1_becomeLike 10 = .ok (.iload_n 2, 1) := by decide +kernel
theorem dX1_becomeLike_11 : decode cX1_becomeLike 11 = .ok (.aload_n 0, 1) := by decide +kernel
theorem dX1_becomeLike_12 : decode cX1_becomeLike 12 = .ok (.getfield 39, 3) := by decide +kernel
theorem dX1_becomeLike_15 : decode cX1_becomeLike 15 = .ok (.if_icmp .ge 45, 3) := by decide +kernel
theorem dX1_becomeLike_18 : decode cX1_becomeLike 18 = .ok (.aload_n 0, 1) := by decide +kernel
theorem dX1_becomeLike_19 : decode cX1_becomeLike 19 = .ok (.getfield 9, 3) := by decide +kernel
theorem dX1_becomeLike_22 : decode cX1_becomeLike 22 = .ok (.iload_n 2, 1) := by decide +kernel
theorem dX1_becomeLike_23 : decode cX1_becomeLike 23 = .ok (.aload_n 1, 1) := by decide +kernel
theorem dX1_becomeLike_24 : decode cX1_becomeLike 24 = .ok (.getfield 9, 3) := by decide +kernel
theorem dX1_becomeLike_27 : decode cX1_becomeLike 27 = .ok (.iload_n 2, 1) := by decide +kernel
theorem dX1_becomeLike_28 : decode cX1_becomeLike 28 = .ok (.iaload, 1) := by decide +kernel
theorem dX1_becomeLike_29 : decode cX1_becomeLike 29 = .ok (.iastore, 1) := by decide +kernel
theorem dX1_becomeLike_30 : decode cX1_becomeLike 30 = .ok (.aload_n 0, 1) := by decide +kernel
theorem dX1_becomeLike_31 : decode cX1_becomeLike 31 = .ok (.getfield 15, 3) := by decide +kernel
theorem dX1_becomeLike_34 : decode cX1_becomeLike 34 = .ok (.iload_n 2, 1) := by decide +kernel
theorem dX1_becomeLike_35 : decode cX1_becomeLike 35 = .ok (.aload_n 1, 1) := by decide +kernel
theorem dX1_becomeLike_36 : decode cX1_becomeLike 36 = .ok (.getfield 15, 3) := by decide +kernel
theorem dX1_becomeLike_39 : decode cX1_becomeLike 39 = .ok (.iload_n 2, 1) := by decide +kernel
theorem dX1_becomeLike_40 : decode cX1_becomeLike 40 = .ok (.iaload, 1) := by decide +kernel
theorem dX1_becomeLike_41 : decode cX1_becomeLike 41 = .ok (.iastore, 1) := by decide +kernel
theorem dX1_becomeLike_42 : decode cX1_becomeLike 42 = .ok (.aload_n 0, 1) := by decide +kernel
theorem dX1_becomeLike_43 : decode cX1_becomeLike 43 = .ok (.getfield 18, 3) := by decide +kernel
theorem dX1_becomeLike_46 : decode cX1_becomeLike 46 = .ok (.iload_n 2, 1) := by decide +kernel
theorem dX1_becomeLike_47 : decode cX1_becomeLike 47 = .ok (.aload_n 1, 1) := by decide +kernel
theorem dX1_becomeLike_48 : decode cX1_becomeLike 48 = .ok (.getfield 18, 3) := by decide +kernel
theorem dX1_becomeLike_51 : decode cX1_becomeLike 51 = .ok (.iload_n 2, 1) := by decide +kernel
theorem dX1_becomeLike_52 : decode cX1_becomeLike 52 = .ok (.iaload, 1) := by decide +kernel
theorem dX1_becomeLike_53 : decode cX1_becomeLike 53 = .ok (.iastore, 1) := by decide +kernel
theorem dX1_becomeLike_54 : decode cX1_becomeLike 54 = .ok (.iinc 2 1, 3) := by decide +kernel
theorem dX1_becomeLike_57 : decode cX1_becomeLike 57 = .ok (.goto (-47), 3) := by decide +kernel
theorem dX1_becomeLike_60 : decode cX1_becomeLike 60 = .ok (.aload_n 0, 1) := by decide +kernel
theorem dX1_becomeLike_61 : decode cX1_becomeLike 61 = .ok (.aload_n 1, 1) := by decide +kernel
theorem dX1_becomeLike_62 : decode cX1_becomeLike 62 = .ok (.getfield 43, 3) := by decide +kernel
theorem dX1_becomeLike_65 : decode cX1_becomeLike 65 = .ok (.putfield 43, 3) := by decide +kernel
theorem dX1_becomeLike_68 : decode cX1_becomeLike 68 = .ok (.iconst 0, 1) := by decide +kernel
theorem dX1_becomeLike_69 : decode cX1_becomeLike 69 = .ok (.istore_n 2, 1) := by decide +kernel
theorem dX1_becomeLike_70 : decode cX1_becomeLike 70 = .ok (.iload_n 2, 1) := by decide +kernel
theorem dX1_becomeLike_71 : decode cX1_becomeLike 71 = .ok (.aload_n 0, 1) := by decide +kernel
theorem dX1_becomeLike_72 : decode cX1_becomeLike 72 = .ok (.getfield 43, 3) := by decide +kernel
theorem dX1_becomeLike_75 : decode cX1_becomeLike 75 = .ok (.if_icmp .ge 57, 3) := by decide +kernel
theorem dX1_becomeLike_78 : decode cX1_becomeLike 78 = .ok (.aload_n 0, 1) := by decide +kernel
theorem dX1_becomeLike_79 : decode cX1_becomeLike 79 = .ok (.getfield 21, 3) := by decide +kernel
theorem dX1_becomeLike_82 : decode cX1_becomeLike 82 = .ok (.iload_n 2, 1) := by decide +kernel
theorem dX1_becomeLike_83 : decode cX1_becomeLike 83 = .ok (.aload_n 1, 1) := by decide +kernel
theorem dX1_becomeLike_84 : decode cX1_becomeLike 84 = .ok (.getfield 21, 3) := by decide +kernel
theorem dX1_becomeLike_87 : decode cX1_becomeLike 87 = .ok (.iload_n 2, 1) := by decide +kernel
theorem dX1_becomeLike_88 : decode cX1_becomeLike 88 = .ok (.iaload, 1) := by decide +kernel
theorem dX1_becomeLike_89 : decode cX1_becomeLike 89 = .ok (.iastore, 1) := by decide +kernel
theorem dX1_becomeLike_90 : decode cX1_becomeLike 90 = .ok (.aload_n 0, 1) := by decide +kernel
theorem dX1_becomeLike_91 : decode cX1_becomeLike 91 = .ok (.getfield 24, 3) := by decide +kernel
theorem dX1_becomeLike_94 : decode cX1_becomeLike 94 = .ok (.iload_n 2, 1) := by decide +kernel
theorem dX1_becomeLike_95 : decode cX1_becomeLike 95 = .ok (.aload_n 1, 1) := by decide +kernel
theorem dX1_becomeLike_96 : decode cX1_becomeLike 96 = .ok (.getfield 24, 3) := by decide +kernel
theorem dX1_becomeLike_99 : decode cX1_becomeLike 99 = .ok (.iload_n 2, 1) := by decide +kernel
theorem dX1_becomeLike_100 : decode cX1_becomeLike 100 = .ok (.iaload, 1) := by decide +kernel
theorem dX1_becomeLike_101 : decode cX1_becomeLike 101 = .ok (.iastore, 1) := by decide +kernel
theorem dX1_becomeLike_102 : decode cX1_becomeLike 102 = .ok (.aload_n 0, 1) := by decide +kernel
theorem dX1_becomeLike_103 : decode cX1_becomeLike 103 = .ok (.getfield 27, 3) := by decide +kernel
theorem dX1_becomeLike_106 : decode cX1_becomeLike 106 = .ok (.iload_n 2, 1) := by decide +kernel
theorem dX1_becomeLike_107 : decode cX1_becomeLike 107 = .ok (.aload_n 1, 1) := by decide +kernel
theorem dX1_becomeLike_108 : decode cX1_becomeLike 108 = .ok (.getfield 27, 3) := by decide +kernel
theorem dX1_becomeLike_111 : decode cX1_becomeLike 111 = .ok (.iload_n 2, 1) := by decide +kernel
theorem dX1_becomeLike_112 : decode cX1_becomeLike 112 = .ok (.iaload, 1) := by decide +kernel
theorem dX1_becomeLike_113 : decode cX1_becomeLike 113 = .ok (.iastore, 1) := by decide +kernel
theorem dX1_becomeLike_114 : decode cX1_becomeLike 114 = .ok (.aload_n 0, 1) := by decide +kernel
theorem dX1_becomeLike_115 : decode cX1_becomeLike 115 = .ok (.getfield 30, 3) := by decide +kernel
theorem dX1_becomeLike_118 : decode cX1_becomeLike 118 = .ok (.iload_n 2, 1) := by decide +kernel
theorem dX1_becomeLike_119 : decode cX1_becomeLike 119 = .ok (.aload_n 1, 1) := by decide +kernel
theorem dX1_becomeLike_120 : decode cX1_becomeLike 120 = .ok (.getfield 30, 3) := by decide +kernel
theorem dX1_becomeLike_123 : decode cX1_becomeLike 123 = .ok (.iload_n 2, 1) := by decide +kernel
theorem dX1_becomeLike_124 : decode cX1_becomeLike 124 = .ok (.iaload, 1) := by decide +kernel
theorem dX1_becomeLike_125 : decode cX1_becomeLike 125 = .ok (.iastore, 1) := by decide +kernel
theorem dX1_becomeLike_126 : decode cX1_becomeLike 126 = .ok (.iinc 2 1, 3) := by decide +kernel
theorem dX1_becomeLike_129 : decode cX1_becomeLike 129 = .ok (.goto (-59), 3) := by decide +kernel
theorem dX1_becomeLike_132 : decode cX1_becomeLike 132 = .ok (.return_, 1) := by decide +kernel
theorem dX1_isEmpty_0 : decode cX1_isEmpty 0 = .ok (.aload_n 0, 1) := by decide +kernel
theorem dX1_isEmpty_1 : decode cX1_isEmpty 1 = .ok (.getfield 39, 3) := by decide +kernel
theorem dX1_isEmpty_4 : decode cX1_isEmpty 4 = .ok (.ifCond .ne 7, 3) := by decide +kernel
theorem dX1_isEmpty_7 : decode cX1_isEmpty 7 = .ok (.iconst 1, 1) := by decide +kernel
theorem dX1_isEmpty_8 : decode cX1_isEmpty 8 = .ok (.goto 4, 3) := by decide +kernel
theorem dX1_isEmpty_11 : decode cX1_isEmpty 11 = .ok (.iconst 0, 1) := by decide +kernel
theorem dX1_isEmpty_12 : decode cX1_isEmpty 12 = .ok (.ireturn, 1) := by decide +kernel
theorem dX1_hasStep_0 : decode cX1_hasStep 0 = .ok (.iload_n 1, 1) := by decide +kernel
theorem dX1_hasStep_1 : decode cX1_hasStep 1 = .ok (.ifCond .lt 15, 3) := by decide +kernel
theorem dX1_hasStep_4 : decode cX1_hasStep 4 = .ok (.iload_n 1, 1) := by decide +kernel
theorem dX1_hasStep_5 : decode cX1_hasStep 5 = .ok (.aload_n 0, 1) := by decide +kernel
theorem dX1_hasStep_6 : decode cX1_hasStep 6 = .ok (.getfield 39, 3) := by decide +kernel
theorem dX1_hasStep_9 : decode cX1_hasStep 9 = .ok (.if_icmp .ge 7, 3) := by decide +kernel
theorem dX1_hasStep_12 : decode cX1_hasStep 12 = .ok (.iconst 1, 1) := by decide +kernel
theorem dX1_hasStep_13 : decode cX1_hasStep 13 = .ok (.goto 4, 3) := by decide +kernel
theorem dX1_hasStep_16 : decode cX1_hasStep 16 = .ok (.iconst 0, 1) := by decide +kernel
theorem dX1_hasStep_17 : decode cX1_hasStep 17 = .ok (.ireturn, 1) := by decide +kernel
theorem dX1_hasTest_0 : decode cX1_hasTest 0 = .ok (.iload_n 1, 1) := by decide +kernel
theorem dX1_hasTest_1 : decode cX1_hasTest 1 = .ok (.ifCond .lt 15, 3) := by decide +kernel
theorem dX1_hasTest_4 : decode cX1_hasTest 4 = .ok (.iload_n 1, 1) := by decide +kernel
theorem dX1_hasTest_5 : decode cX1_hasTest 5 = .ok (.aload_n 0, 1) := by decide +kernel
theorem dX1_hasTest_6 : decode cX1_hasTest 6 = .ok (.getfield 43, 3) := by decide +kernel
theorem dX1_hasTest_9 : decode cX1_hasTest 9 = .ok (.if_icmp .ge 7, 3) := by decide +kernel
theorem dX1_hasTest_12 : decode cX1_hasTest 12 = .ok (.iconst 1, 1) := by decide +kernel
theorem dX1_hasTest_13 : decode cX1_hasTest 13 = .ok (.goto 4, 3) := by decide +kernel
theorem dX1_hasTest_16 : decode cX1_hasTest 16 = .ok (.iconst 0, 1) := by decide +kernel
theorem dX1_hasTest_17 : decode cX1_hasTest 17 = .ok (.ireturn, 1) := by decide +kernel
theorem dX1_hasMutant_0 : decode cX1_hasMutant 0 = .ok (.iload_n 1, 1) := by decide +kernel
theorem dX1_hasMutant_1 : decode cX1_hasMutant 1 = .ok (.ifCond .lt 15, 3) := by decide +kernel
theorem dX1_hasMutant_4 : decode cX1_hasMutant 4 = .ok (.iload_n 1, 1) := by decide +kernel
theorem dX1_hasMutant_5 : decode cX1_hasMutant 5 = .ok (.aload_n 0, 1) := by decide +kernel
theorem dX1_hasMutant_6 : decode cX1_hasMutant 6 = .ok (.invokevirtual 46, 3) := by decide +kernel
theorem dX1_hasMutant_9 : decode cX1_hasMutant 9 = .ok (.if_icmp .ge 7, 3) := by decide +kernel
theorem dX1_hasMutant_12 : decode cX1_hasMutant 12 = .ok (.iconst 1, 1) := by decide +kernel
theorem dX1_hasMutant_13 : decode cX1_hasMutant 13 = .ok (.goto 4, 3) := by decide +kernel
theorem dX1_hasMutant_16 : decode cX1_hasMutant 16 = .ok (.iconst 0, 1) := by decide +kernel
theorem dX1_hasMutant_17 : decode cX1_hasMutant 17 = .ok (.ireturn, 1) := by decide +kernel
theorem dX1_mutants_0 : decode cX1_mutants 0 = .ok (.iconst 4, 1) := by decide +kernel
theorem dX1_mutants_1 : decode cX1_mutants 1 = .ok (.aload_n 0, 1) := by decide +kernel
theorem dX1_mutants_2 : decode cX1_mutants 2 = .ok (.getfield 39, 3) := by decide +kernel
theorem dX1_mutants_5 : decode cX1_mutants 5 = .ok (.imul, 1) := by decide +kernel
theorem dX1_mutants_6 : decode cX1_mutants 6 = .ok (.ireturn, 1) := by decide +kernel
theorem dX1_allMutants_0 : decode cX1_allMutants 0 = .ok (.iconst 1, 1) := by decide +kernel
theorem dX1_allMutants_1 : decode cX1_allMutants 1 = .ok (.aload_n 0, 1) := by decide +kernel
theorem dX1_allMutants_2 : decode cX1_allMutants 2 = .ok (.invokevirtual 46, 3) := by decide +kernel
theorem dX1_allMutants_5 : decode cX1_allMutants 5 = .ok (.ishl, 1) := by decide +kernel
theorem dX1_allMutants_6 : decode cX1_allMutants 6 = .ok (.iconst 1, 1) := by decide +kernel
theorem dX1_allMutants_7 : decode cX1_allMutants 7 = .ok (.isub, 1) := by decide +kernel
theorem dX1_allMutants_8 : decode cX1_allMutants 8 = .ok (.ireturn, 1) := by decide +kernel
theorem dX1_stepOf_0 : decode cX1_stepOf 0 = .ok (.iload_n 1, 1) := by decide +kernel
theorem dX1_stepOf_1 : decode cX1_stepOf 1 = .ok (.iconst 4, 1) := by decide +kernel
theorem dX1_stepOf_2 : decode cX1_stepOf 2 = .ok (.idiv, 1) := by decide +kernel
theorem dX1_stepOf_3 : decode cX1_stepOf 3 = .ok (.ireturn, 1) := by decide +kernel
theorem dX1_otherWay_0 : decode cX1_otherWay 0 = .ok (.iload_n 1, 1) := by decide +kernel
theorem dX1_otherWay_1 : decode cX1_otherWay 1 = .ok (.iconst 4, 1) := by decide +kernel
theorem dX1_otherWay_2 : decode cX1_otherWay 2 = .ok (.irem, 1) := by decide +kernel
theorem dX1_otherWay_3 : decode cX1_otherWay 3 = .ok (.istore_n 2, 1) := by decide +kernel
theorem dX1_otherWay_4 : decode cX1_otherWay 4 = .ok (.iload_n 2, 1) := by decide +kernel
theorem dX1_otherWay_5 : decode cX1_otherWay 5 = .ok (.aload_n 0, 1) := by decide +kernel
theorem dX1_otherWay_6 : decode cX1_otherWay 6 = .ok (.getfield 9, 3) := by decide +kernel
theorem dX1_otherWay_9 : decode cX1_otherWay 9 = .ok (.iload_n 1, 1) := by decide +kernel
theorem dX1_otherWay_10 : decode cX1_otherWay 10 = .ok (.iconst 4, 1) := by decide +kernel
theorem dX1_otherWay_11 : decode cX1_otherWay 11 = .ok (.idiv, 1) := by decide +kernel
theorem dX1_otherWay_12 : decode cX1_otherWay 12 = .ok (.iaload, 1) := by decide +kernel
theorem dX1_otherWay_13 : decode cX1_otherWay 13 = .ok (.if_icmp .ge 7, 3) := by decide +kernel
theorem dX1_otherWay_16 : decode cX1_otherWay 16 = .ok (.iload_n 2, 1) := by decide +kernel
theorem dX1_otherWay_17 : decode cX1_otherWay 17 = .ok (.goto 6, 3) := by decide +kernel
theorem dX1_otherWay_20 : decode cX1_otherWay 20 = .ok (.iload_n 2, 1) := by decide +kernel
theorem dX1_otherWay_21 : decode cX1_otherWay 21 = .ok (.iconst 1, 1) := by decide +kernel
theorem dX1_otherWay_22 : decode cX1_otherWay 22 = .ok (.iadd, 1) := by decide +kernel
theorem dX1_otherWay_23 : decode cX1_otherWay 23 = .ok (.ireturn, 1) := by decide +kernel
theorem dX1_weight_0 : decode cX1_weight 0 = .ok (.aload_n 0, 1) := by decide +kernel
theorem dX1_weight_1 : decode cX1_weight 1 = .ok (.getfield 21, 3) := by decide +kernel
theorem dX1_weight_4 : decode cX1_weight 4 = .ok (.iload_n 1, 1) := by decide +kernel
theorem dX1_weight_5 : decode cX1_weight 5 = .ok (.iaload, 1) := by decide +kernel
theorem dX1_weight_6 : decode cX1_weight 6 = .ok (.lookupswitch 42 #[(0, 26), (1, 33)], 26) := by decide +kernel
theorem dX1_weight_32 : decode cX1_weight 32 = .ok (.aload_n 0, 1) := by decide +kernel
theorem dX1_weight_33 : decode cX1_weight 33 = .ok (.getfield 24, 3) := by decide +kernel
theorem dX1_weight_36 : decode cX1_weight 36 = .ok (.iload_n 1, 1) := by decide +kernel
theorem dX1_weight_37 : decode cX1_weight 37 = .ok (.iaload, 1) := by decide +kernel
theorem dX1_weight_38 : decode cX1_weight 38 = .ok (.ireturn, 1) := by decide +kernel
theorem dX1_weight_39 : decode cX1_weight 39 = .ok (.aload_n 0, 1) := by decide +kernel
theorem dX1_weight_40 : decode cX1_weight 40 = .ok (.getfield 24, 3) := by decide +kernel
theorem dX1_weight_43 : decode cX1_weight 43 = .ok (.iload_n 1, 1) := by decide +kernel
theorem dX1_weight_44 : decode cX1_weight 44 = .ok (.iaload, 1) := by decide +kernel
theorem dX1_weight_45 : decode cX1_weight 45 = .ok (.iconst 1, 1) := by decide +kernel
theorem dX1_weight_46 : decode cX1_weight 46 = .ok (.iadd, 1) := by decide +kernel
theorem dX1_weight_47 : decode cX1_weight 47 = .ok (.ireturn, 1) := by decide +kernel
theorem dX1_weight_48 : decode cX1_weight 48 = .ok (.iconst 2, 1) := by decide +kernel
theorem dX1_weight_49 : decode cX1_weight 49 = .ok (.aload_n 0, 1) := by decide +kernel
theorem dX1_weight_50 : decode cX1_weight 50 = .ok (.getfield 24, 3) := by decide +kernel
theorem dX1_weight_53 : decode cX1_weight 53 = .ok (.iload_n 1, 1) := by decide +kernel
theorem dX1_weight_54 : decode cX1_weight 54 = .ok (.iaload, 1) := by decide +kernel
theorem dX1_weight_55 : decode cX1_weight 55 = .ok (.imul, 1) := by decide +kernel
theorem dX1_weight_56 : decode cX1_weight 56 = .ok (.ireturn, 1) := by decide +kernel
theorem dX1_make_0 : decode cX1_make 0 = .ok (.iload_n 0, 1) := by decide +kernel
theorem dX1_make_1 : decode cX1_make 1 = .ok (.tableswitch 74 0 3 #[31, 38, 56, 63], 31) := by decide +kernel
theorem dX1_make_32 : decode cX1_make 32 = .ok (.iload_n 1, 1) := by decide +kernel
theorem dX1_make_33 : decode cX1_make 33 = .ok (.iload_n 2, 1) := by decide +kernel
theorem dX1_make_34 : decode cX1_make 34 = .ok (.iadd, 1) := by decide +kernel
theorem dX1_make_35 : decode cX1_make 35 = .ok (.bipush 10, 2) := by decide +kernel
theorem dX1_make_37 : decode cX1_make 37 = .ok (.irem, 1) := by decide +kernel
theorem dX1_make_38 : decode cX1_make 38 = .ok (.ireturn, 1) := by decide +kernel
theorem dX1_make_39 : decode cX1_make 39 = .ok (.iload_n 1, 1) := by decide +kernel
theorem dX1_make_40 : decode cX1_make 40 = .ok (.iload_n 2, 1) := by decide +kernel
theorem dX1_make_41 : decode cX1_make 41 = .ok (.if_icmp .ge 12, 3) := by decide +kernel
theorem dX1_make_44 : decode cX1_make 44 = .ok (.iload_n 1, 1) := by decide +kernel
theorem dX1_make_45 : decode cX1_make 45 = .ok (.iload_n 2, 1) := by decide +kernel
theorem dX1_make_46 : decode cX1_make 46 = .ok (.isub, 1) := by decide +kernel
theorem dX1_make_47 : decode cX1_make 47 = .ok (.bipush 10, 2) := by decide +kernel
theorem dX1_make_49 : decode cX1_make 49 = .ok (.iadd, 1) := by decide +kernel
theorem dX1_make_50 : decode cX1_make 50 = .ok (.goto 6, 3) := by decide +kernel
theorem dX1_make_53 : decode cX1_make 53 = .ok (.iload_n 1, 1) := by decide +kernel
theorem dX1_make_54 : decode cX1_make 54 = .ok (.iload_n 2, 1) := by decide +kernel
theorem dX1_make_55 : decode cX1_make 55 = .ok (.isub, 1) := by decide +kernel
theorem dX1_make_56 : decode cX1_make 56 = .ok (.ireturn, 1) := by decide +kernel
theorem dX1_make_57 : decode cX1_make 57 = .ok (.iload_n 1, 1) := by decide +kernel
theorem dX1_make_58 : decode cX1_make 58 = .ok (.iload_n 2, 1) := by decide +kernel
theorem dX1_make_59 : decode cX1_make 59 = .ok (.imul, 1) := by decide +kernel
theorem dX1_make_60 : decode cX1_make 60 = .ok (.bipush 10, 2) := by decide +kernel
theorem dX1_make_62 : decode cX1_make 62 = .ok (.irem, 1) := by decide +kernel
theorem dX1_make_63 : decode cX1_make 63 = .ok (.ireturn, 1) := by decide +kernel
theorem dX1_make_64 : decode cX1_make 64 = .ok (.iload_n 1, 1) := by decide +kernel
theorem dX1_make_65 : decode cX1_make 65 = .ok (.iload_n 2, 1) := by decide +kernel
theorem dX1_make_66 : decode cX1_make 66 = .ok (.if_icmp .le 7, 3) := by decide +kernel
theorem dX1_make_69 : decode cX1_make 69 = .ok (.iload_n 1, 1) := by decide +kernel
theorem dX1_make_70 : decode cX1_make 70 = .ok (.goto 4, 3) := by decide +kernel
theorem dX1_make_73 : decode cX1_make 73 = .ok (.iload_n 2, 1) := by decide +kernel
theorem dX1_make_74 : decode cX1_make 74 = .ok (.ireturn, 1) := by decide +kernel
theorem dX1_make_75 : decode cX1_make 75 = .ok (.iload_n 1, 1) := by decide +kernel
theorem dX1_make_76 : decode cX1_make 76 = .ok (.iload_n 2, 1) := by decide +kernel
theorem dX1_make_77 : decode cX1_make 77 = .ok (.if_icmp .ge 7, 3) := by decide +kernel
theorem dX1_make_80 : decode cX1_make 80 = .ok (.iload_n 1, 1) := by decide +kernel
theorem dX1_make_81 : decode cX1_make 81 = .ok (.goto 4, 3) := by decide +kernel
theorem dX1_make_84 : decode cX1_make 84 = .ok (.iload_n 2, 1) := by decide +kernel
theorem dX1_make_85 : decode cX1_make 85 = .ok (.ireturn, 1) := by decide +kernel
theorem dX1_run_0 : decode cX1_run 0 = .ok (.aload_n 0, 1) := by decide +kernel
theorem dX1_run_1 : decode cX1_run 1 = .ok (.getfield 33, 3) := by decide +kernel
theorem dX1_run_4 : decode cX1_run 4 = .ok (.iconst 5, 1) := by decide +kernel
theorem dX1_run_5 : decode cX1_run 5 = .ok (.iload_n 1, 1) := by decide +kernel
theorem dX1_run_6 : decode cX1_run 6 = .ok (.iastore, 1) := by decide +kernel
theorem dX1_run_7 : decode cX1_run 7 = .ok (.aload_n 0, 1) := by decide +kernel
theorem dX1_run_8 : decode cX1_run 8 = .ok (.getfield 33, 3) := by decide +kernel
theorem dX1_run_11 : decode cX1_run 11 = .ok (.bipush 6, 2) := by decide +kernel
theorem dX1_run_13 : decode cX1_run 13 = .ok (.iload_n 2, 1) := by decide +kernel
theorem dX1_run_14 : decode cX1_run 14 = .ok (.iastore, 1) := by decide +kernel
theorem dX1_run_15 : decode cX1_run 15 = .ok (.iconst 0, 1) := by decide +kernel
theorem dX1_run_16 : decode cX1_run 16 = .ok (.istore_n 3, 1) := by decide +kernel
theorem dX1_run_17 : decode cX1_run 17 = .ok (.iconst 0, 1) := by decide +kernel
theorem dX1_run_18 : decode cX1_run 18 = .ok (.istore 4, 2) := by decide +kernel
theorem dX1_run_20 : decode cX1_run 20 = .ok (.iload 4, 2) := by decide +kernel
theorem dX1_run_22 : decode cX1_run 22 = .ok (.aload_n 0, 1) := by decide +kernel
theorem dX1_run_23 : decode cX1_run 23 = .ok (.getfield 39, 3) := by decide +kernel
theorem dX1_run_26 : decode cX1_run 26 = .ok (.if_icmp .ge 52, 3) := by decide +kernel
theorem dX1_run_29 : decode cX1_run 29 = .ok (.aload_n 0, 1) := by decide +kernel
theorem dX1_run_30 : decode cX1_run 30 = .ok (.getfield 9, 3) := by decide +kernel
theorem dX1_run_33 : decode cX1_run 33 = .ok (.iload 4, 2) := by decide +kernel
theorem dX1_run_35 : decode cX1_run 35 = .ok (.iaload, 1) := by decide +kernel
theorem dX1_run_36 : decode cX1_run 36 = .ok (.aload_n 0, 1) := by decide +kernel
theorem dX1_run_37 : decode cX1_run 37 = .ok (.getfield 33, 3) := by decide +kernel
theorem dX1_run_40 : decode cX1_run 40 = .ok (.aload_n 0, 1) := by decide +kernel
theorem dX1_run_41 : decode cX1_run 41 = .ok (.getfield 15, 3) := by decide +kernel
theorem dX1_run_44 : decode cX1_run 44 = .ok (.iload 4, 2) := by decide +kernel
theorem dX1_run_46 : decode cX1_run 46 = .ok (.iaload, 1) := by decide +kernel
theorem dX1_run_47 : decode cX1_run 47 = .ok (.iaload, 1) := by decide +kernel
theorem dX1_run_48 : decode cX1_run 48 = .ok (.aload_n 0, 1) := by decide +kernel
theorem dX1_run_49 : decode cX1_run 49 = .ok (.getfield 33, 3) := by decide +kernel
theorem dX1_run_52 : decode cX1_run 52 = .ok (.aload_n 0, 1) := by decide +kernel
theorem dX1_run_53 : decode cX1_run 53 = .ok (.getfield 18, 3) := by decide +kernel
theorem dX1_run_56 : decode cX1_run 56 = .ok (.iload 4, 2) := by decide +kernel
theorem dX1_run_58 : decode cX1_run 58 = .ok (.iaload, 1) := by decide +kernel
theorem dX1_run_59 : decode cX1_run 59 = .ok (.iaload, 1) := by decide +kernel
theorem dX1_run_60 : decode cX1_run 60 = .ok (.invokestatic 50, 3) := by decide +kernel
theorem dX1_run_63 : decode cX1_run 63 = .ok (.istore_n 3, 1) := by decide +kernel
theorem dX1_run_64 : decode cX1_run 64 = .ok (.aload_n 0, 1) := by decide +kernel
theorem dX1_run_65 : decode cX1_run 65 = .ok (.getfield 33, 3) := by decide +kernel
theorem dX1_run_68 : decode cX1_run 68 = .ok (.iload 4, 2) := by decide +kernel
theorem dX1_run_70 : decode cX1_run 70 = .ok (.iload_n 3, 1) := by decide +kernel
theorem dX1_run_71 : decode cX1_run 71 = .ok (.iastore, 1) := by decide +kernel
theorem dX1_run_72 : decode cX1_run 72 = .ok (.iinc 4 1, 3) := by decide +kernel
theorem dX1_run_75 : decode cX1_run 75 = .ok (.goto (-55), 3) := by decide +kernel
theorem dX1_run_78 : decode cX1_run 78 = .ok (.iload_n 3, 1) := by decide +kernel
theorem dX1_run_79 : decode cX1_run 79 = .ok (.ireturn, 1) := by decide +kernel
theorem dX1_runTest_0 : decode cX1_runTest 0 = .ok (.aload_n 0, 1) := by decide +kernel
theorem dX1_runTest_1 : decode cX1_runTest 1 = .ok (.aload_n 0, 1) := by decide +kernel
theorem dX1_runTest_2 : decode cX1_runTest 2 = .ok (.getfield 27, 3) := by decide +kernel
theorem dX1_runTest_5 : decode cX1_runTest 5 = .ok (.iload_n 1, 1) := by decide +kernel
theorem dX1_runTest_6 : decode cX1_runTest 6 = .ok (.iaload, 1) := by decide +kernel
theorem dX1_runTest_7 : decode cX1_runTest 7 = .ok (.aload_n 0, 1) := by decide +kernel
theorem dX1_runTest_8 : decode cX1_runTest 8 = .ok (.getfield 30, 3) := by decide +kernel
theorem dX1_runTest_11 : decode cX1_runTest 11 = .ok (.iload_n 1, 1) := by decide +kernel
theorem dX1_runTest_12 : decode cX1_runTest 12 = .ok (.iaload, 1) := by decide +kernel
theorem dX1_runTest_13 : decode cX1_runTest 13 = .ok (.invokevirtual 54, 3) := by decide +kernel
theorem dX1_runTest_16 : decode cX1_runTest 16 = .ok (.ireturn, 1) := by decide +kernel
theorem dX1_effect_0 : decode cX1_effect 0 = .ok (.aload_n 0, 1) := by decide +kernel
theorem dX1_effect_1 : decode cX1_effect 1 = .ok (.iload_n 1, 1) := by decide +kernel
theorem dX1_effect_2 : decode cX1_effect 2 = .ok (.invokevirtual 58, 3) := by decide +kernel
theorem dX1_effect_5 : decode cX1_effect 5 = .ok (.istore_n 2, 1) := by decide +kernel
theorem dX1_effect_6 : decode cX1_effect 6 = .ok (.aload_n 0, 1) := by decide +kernel
theorem dX1_effect_7 : decode cX1_effect 7 = .ok (.iload_n 1, 1) := by decide +kernel
theorem dX1_effect_8 : decode cX1_effect 8 = .ok (.invokevirtual 62, 3) := by decide +kernel
theorem dX1_effect_11 : decode cX1_effect 11 = .ok (.aload_n 0, 1) := by decide +kernel
theorem dX1_effect_12 : decode cX1_effect 12 = .ok (.getfield 33, 3) := by decide +kernel
theorem dX1_effect_15 : decode cX1_effect 15 = .ok (.aload_n 0, 1) := by decide +kernel
theorem dX1_effect_16 : decode cX1_effect 16 = .ok (.getfield 15, 3) := by decide +kernel
theorem dX1_effect_19 : decode cX1_effect 19 = .ok (.iload_n 2, 1) := by decide +kernel
theorem dX1_effect_20 : decode cX1_effect 20 = .ok (.iaload, 1) := by decide +kernel
theorem dX1_effect_21 : decode cX1_effect 21 = .ok (.iaload, 1) := by decide +kernel
theorem dX1_effect_22 : decode cX1_effect 22 = .ok (.aload_n 0, 1) := by decide +kernel
theorem dX1_effect_23 : decode cX1_effect 23 = .ok (.getfield 33, 3) := by decide +kernel
theorem dX1_effect_26 : decode cX1_effect 26 = .ok (.aload_n 0, 1) := by decide +kernel
theorem dX1_effect_27 : decode cX1_effect 27 = .ok (.getfield 18, 3) := by decide +kernel
theorem dX1_effect_30 : decode cX1_effect 30 = .ok (.iload_n 2, 1) := by decide +kernel
theorem dX1_effect_31 : decode cX1_effect 31 = .ok (.iaload, 1) := by decide +kernel
theorem dX1_effect_32 : decode cX1_effect 32 = .ok (.iaload, 1) := by decide +kernel
theorem dX1_effect_33 : decode cX1_effect 33 = .ok (.invokestatic 50, 3) := by decide +kernel
theorem dX1_effect_36 : decode cX1_effect 36 = .ok (.istore_n 3, 1) := by decide +kernel
theorem dX1_effect_37 : decode cX1_effect 37 = .ok (.iload_n 3, 1) := by decide +kernel
theorem dX1_effect_38 : decode cX1_effect 38 = .ok (.aload_n 0, 1) := by decide +kernel
theorem dX1_effect_39 : decode cX1_effect 39 = .ok (.getfield 33, 3) := by decide +kernel
theorem dX1_effect_42 : decode cX1_effect 42 = .ok (.iload_n 2, 1) := by decide +kernel
theorem dX1_effect_43 : decode cX1_effect 43 = .ok (.iaload, 1) := by decide +kernel
theorem dX1_effect_44 : decode cX1_effect 44 = .ok (.if_icmp .ne 5, 3) := by decide +kernel
theorem dX1_effect_47 : decode cX1_effect 47 = .ok (.iconst 0, 1) := by decide +kernel
theorem dX1_effect_48 : decode cX1_effect 48 = .ok (.ireturn, 1) := by decide +kernel
theorem dX1_effect_49 : decode cX1_effect 49 = .ok (.aload_n 0, 1) := by decide +kernel
theorem dX1_effect_50 : decode cX1_effect 50 = .ok (.getfield 33, 3) := by decide +kernel
theorem dX1_effect_53 : decode cX1_effect 53 = .ok (.iconst 0, 1) := by decide +kernel
theorem dX1_effect_54 : decode cX1_effect 54 = .ok (.aload_n 0, 1) := by decide +kernel
theorem dX1_effect_55 : decode cX1_effect 55 = .ok (.getfield 36, 3) := by decide +kernel
theorem dX1_effect_58 : decode cX1_effect 58 = .ok (.iconst 0, 1) := by decide +kernel
theorem dX1_effect_59 : decode cX1_effect 59 = .ok (.bipush 7, 2) := by decide +kernel
theorem dX1_effect_61 : decode cX1_effect 61 = .ok (.invokestatic 65, 3) := by decide +kernel
theorem dX1_effect_64 : decode cX1_effect 64 = .ok (.aload_n 0, 1) := by decide +kernel
theorem dX1_effect_65 : decode cX1_effect 65 = .ok (.getfield 36, 3) := by decide +kernel
theorem dX1_effect_68 : decode cX1_effect 68 = .ok (.iload_n 2, 1) := by decide +kernel
theorem dX1_effect_69 : decode cX1_effect 69 = .ok (.iload_n 3, 1) := by decide +kernel
theorem dX1_effect_70 : decode cX1_effect 70 = .ok (.iastore, 1) := by decide +kernel
theorem dX1_effect_71 : decode cX1_effect 71 = .ok (.aload_n 0, 1) := by decide +kernel
theorem dX1_effect_72 : decode cX1_effect 72 = .ok (.getfield 33, 3) := by decide +kernel
theorem dX1_effect_75 : decode cX1_effect 75 = .ok (.iload_n 2, 1) := by decide +kernel
theorem dX1_effect_76 : decode cX1_effect 76 = .ok (.iaload, 1) := by decide +kernel
theorem dX1_effect_77 : decode cX1_effect 77 = .ok (.istore 4, 2) := by decide +kernel
theorem dX1_effect_79 : decode cX1_effect 79 = .ok (.iload_n 2, 1) := by decide +kernel
theorem dX1_effect_80 : decode cX1_effect 80 = .ok (.iconst 1, 1) := by decide +kernel
theorem dX1_effect_81 : decode cX1_effect 81 = .ok (.iadd, 1) := by decide +kernel
theorem dX1_effect_82 : decode cX1_effect 82 = .ok (.istore 5, 2) := by decide +kernel
theorem dX1_effect_84 : decode cX1_effect 84 = .ok (.iload 5, 2) := by decide +kernel
theorem dX1_effect_86 : decode cX1_effect 86 = .ok (.aload_n 0, 1) := by decide +kernel
theorem dX1_effect_87 : decode cX1_effect 87 = .ok (.getfield 39, 3) := by decide +kernel
theorem dX1_effect_90 : decode cX1_effect 90 = .ok (.if_icmp .ge 61, 3) := by decide +kernel
theorem dX1_effect_93 : decode cX1_effect 93 = .ok (.aload_n 0, 1) := by decide +kernel
theorem dX1_effect_94 : decode cX1_effect 94 = .ok (.getfield 9, 3) := by decide +kernel
theorem dX1_effect_97 : decode cX1_effect 97 = .ok (.iload 5, 2) := by decide +kernel
theorem dX1_effect_99 : decode cX1_effect 99 = .ok (.iaload, 1) := by decide +kernel
theorem dX1_effect_100 : decode cX1_effect 100 = .ok (.aload_n 0, 1) := by decide +kernel
theorem dX1_effect_101 : decode cX1_effect 101 = .ok (.getfield 36, 3) := by decide +kernel
theorem dX1_effect_104 : decode cX1_effect 104 = .ok (.aload_n 0, 1) := by decide +kernel
theorem dX1_effect_105 : decode cX1_effect 105 = .ok (.getfield 15, 3) := by decide +kernel
theorem dX1_effect_108 : decode cX1_effect 108 = .ok (.iload 5, 2) := by decide +kernel
theorem dX1_effect_110 : decode cX1_effect 110 = .ok (.iaload, 1) := by decide +kernel
theorem dX1_effect_111 : decode cX1_effect 111 = .ok (.iaload, 1) := by decide +kernel
theorem dX1_effect_112 : decode cX1_effect 112 = .ok (.aload_n 0, 1) := by decide +kernel
theorem dX1_effect_113 : decode cX1_effect 113 = .ok (.getfield 36, 3) := by decide +kernel
theorem dX1_effect_116 : decode cX1_effect 116 = .ok (.aload_n 0, 1) := by decide +kernel
theorem dX1_effect_117 : decode cX1_effect 117 = .ok (.getfield 18, 3) := by decide +kernel
theorem dX1_effect_120 : decode cX1_effect 120 = .ok (.iload 5, 2) := by decide +kernel
theorem dX1_effect_122 : decode cX1_effect 122 = .ok (.iaload, 1) := by decide +kernel
theorem dX1_effect_123 : decode cX1_effect 123 = .ok (.iaload, 1) := by decide +kernel
theorem dX1_effect_124 : decode cX1_effect 124 = .ok (.invokestatic 50, 3) := by decide +kernel
theorem dX1_effect_127 : decode cX1_effect 127 = .ok (.istore_n 3, 1) := by decide +kernel
theorem dX1_effect_128 : decode cX1_effect 128 = .ok (.aload_n 0, 1) := by decide +kernel
theorem dX1_effect_129 : decode cX1_effect 129 = .ok (.getfield 36, 3) := by decide +kernel
theorem dX1_effect_132 : decode cX1_effect 132 = .ok (.iload 5, 2) := by decide +kernel
theorem dX1_effect_134 : decode cX1_effect 134 = .ok (.iload_n 3, 1) := by decide +kernel
theorem dX1_effect_135 : decode cX1_effect 135 = .ok (.iastore, 1) := by decide +kernel
theorem dX1_effect_136 : decode cX1_effect 136 = .ok (.aload_n 0, 1) := by decide +kernel
theorem dX1_effect_137 : decode cX1_effect 137 = .ok (.getfield 33, 3) := by decide +kernel
theorem dX1_effect_140 : decode cX1_effect 140 = .ok (.iload 5, 2) := by decide +kernel
theorem dX1_effect_142 : decode cX1_effect 142 = .ok (.iaload, 1) := by decide +kernel
theorem dX1_effect_143 : decode cX1_effect 143 = .ok (.istore 4, 2) := by decide +kernel
theorem dX1_effect_145 : decode cX1_effect 145 = .ok (.iinc 5 1, 3) := by decide +kernel
theorem dX1_effect_148 : decode cX1_effect 148 = .ok (.goto (-64), 3) := by decide +kernel
theorem dX1_effect_151 : decode cX1_effect 151 = .ok (.iload_n 3, 1) := by decide +kernel
theorem dX1_effect_152 : decode cX1_effect 152 = .ok (.iload 4, 2) := by decide +kernel
theorem dX1_effect_154 : decode cX1_effect 154 = .ok (.if_icmp .ne 7, 3) := by decide +kernel
theorem dX1_effect_157 : decode cX1_effect 157 = .ok (.iconst 1, 1) := by decide +kernel
theorem dX1_effect_158 : decode cX1_effect 158 = .ok (.goto 4, 3) := by decide +kernel
theorem dX1_effect_161 : decode cX1_effect 161 = .ok (.iconst 2, 1) := by decide +kernel
theorem dX1_effect_162 : decode cX1_effect 162 = .ok (.ireturn, 1) := by decide +kernel
theorem dX1_killedAmong_0 : decode cX1_killedAmong 0 = .ok (.iconst 0, 1) := by decide +kernel
theorem dX1_killedAmong_1 : decode cX1_killedAmong 1 = .ok (.istore_n 2, 1) := by decide +kernel
theorem dX1_killedAmong_2 : decode cX1_killedAmong 2 = .ok (.iconst 0, 1) := by decide +kernel
theorem dX1_killedAmong_3 : decode cX1_killedAmong 3 = .ok (.istore_n 3, 1) := by decide +kernel
theorem dX1_killedAmong_4 : decode cX1_killedAmong 4 = .ok (.iload_n 3, 1) := by decide +kernel
theorem dX1_killedAmong_5 : decode cX1_killedAmong 5 = .ok (.aload_n 0, 1) := by decide +kernel
theorem dX1_killedAmong_6 : decode cX1_killedAmong 6 = .ok (.invokevirtual 46, 3) := by decide +kernel
theorem dX1_killedAmong_9 : decode cX1_killedAmong 9 = .ok (.if_icmp .ge 32, 3) := by decide +kernel
theorem dX1_killedAmong_12 : decode cX1_killedAmong 12 = .ok (.iload_n 1, 1) := by decide +kernel
theorem dX1_killedAmong_13 : decode cX1_killedAmong 13 = .ok (.iload_n 3, 1) := by decide +kernel
theorem dX1_killedAmong_14 : decode cX1_killedAmong 14 = .ok (.ishr, 1) := by decide +kernel
theorem dX1_killedAmong_15 : decode cX1_killedAmong 15 = .ok (.iconst 1, 1) := by decide +kernel
theorem dX1_killedAmong_16 : decode cX1_killedAmong 16 = .ok (.iand, 1) := by decide +kernel
theorem dX1_killedAmong_17 : decode cX1_killedAmong 17 = .ok (.ifCond .eq 18, 3) := by decide +kernel
theorem dX1_killedAmong_20 : decode cX1_killedAmong 20 = .ok (.aload_n 0, 1) := by decide +kernel
theorem dX1_killedAmong_21 : decode cX1_killedAmong 21 = .ok (.iload_n 3, 1) := by decide +kernel
theorem dX1_killedAmong_22 : decode cX1_killedAmong 22 = .ok (.invokevirtual 71, 3) := by decide +kernel
theorem dX1_killedAmong_25 : decode cX1_killedAmong 25 = .ok (.iconst 2, 1) := by decide +kernel
theorem dX1_killedAmong_26 : decode cX1_killedAmong 26 = .ok (.if_icmp .ne 9, 3) := by decide +kernel
theorem dX1_killedAmong_29 : decode cX1_killedAmong 29 = .ok (.iload_n 2, 1) := by decide +kernel
theorem dX1_killedAmong_30 : decode cX1_killedAmong 30 = .ok (.iconst 1, 1) := by decide +kernel
theorem dX1_killedAmong_31 : decode cX1_killedAmong 31 = .ok (.iload_n 3, 1) := by decide +kernel
theorem dX1_killedAmong_32 : decode cX1_killedAmong 32 = .ok (.ishl, 1) := by decide +kernel
theorem dX1_killedAmong_33 : decode cX1_killedAmong 33 = .ok (.ior, 1) := by decide +kernel
theorem dX1_killedAmong_34 : decode cX1_killedAmong 34 = .ok (.istore_n 2, 1) := by decide +kernel
theorem dX1_killedAmong_35 : decode cX1_killedAmong 35 = .ok (.iinc 3 1, 3) := by decide +kernel
theorem dX1_killedAmong_38 : decode cX1_killedAmong 38 = .ok (.goto (-34), 3) := by decide +kernel
theorem dX1_killedAmong_41 : decode cX1_killedAmong 41 = .ok (.iload_n 2, 1) := by decide +kernel
theorem dX1_killedAmong_42 : decode cX1_killedAmong 42 = .ok (.ireturn, 1) := by decide +kernel
theorem dX1_killedByTest_0 : decode cX1_killedByTest 0 = .ok (.aload_n 0, 1) := by decide +kernel
theorem dX1_killedByTest_1 : decode cX1_killedByTest 1 = .ok (.iload_n 1, 1) := by decide +kernel
theorem dX1_killedByTest_2 : decode cX1_killedByTest 2 = .ok (.invokevirtual 74, 3) := by decide +kernel
theorem dX1_killedByTest_5 : decode cX1_killedByTest 5 = .ok (.pop, 1) := by decide +kernel
theorem dX1_killedByTest_6 : decode cX1_killedByTest 6 = .ok (.aload_n 0, 1) := by decide +kernel
theorem dX1_killedByTest_7 : decode cX1_killedByTest 7 = .ok (.aload_n 0, 1) := by decide +kernel
theorem dX1_killedByTest_8 : decode cX1_killedByTest 8 = .ok (.invokevirtual 77, 3) := by decide +kernel
theorem dX1_killedByTest_11 : decode cX1_killedByTest 11 = .ok (.invokevirtual 80, 3) := by decide +kernel
theorem dX1_killedByTest_14 : decode cX1_killedByTest 14 = .ok (.ireturn, 1) := by decide +kernel
theorem dX1_unequalMutants_0 : decode cX1_unequalMutants 0 = .ok (.aload_n 0, 1) := by decide +kernel
theorem dX1_unequalMutants_1 : decode cX1_unequalMutants 1 = .ok (.invokevirtual 77, 3) := by decide +kernel
theorem dX1_unequalMutants_4 : decode cX1_unequalMutants 4 = .ok (.istore_n 1, 1) := by decide +kernel
theorem dX1_unequalMutants_5 : decode cX1_unequalMutants 5 = .ok (.iconst 0, 1) := by decide +kernel
theorem dX1_unequalMutants_6 : decode cX1_unequalMutants 6 = .ok (.istore_n 2, 1) := by decide +kernel
theorem dX1_unequalMutants_7 : decode cX1_unequalMutants 7 = .ok (.iload_n 2, 1) := by decide +kernel
theorem dX1_unequalMutants_8 : decode cX1_unequalMutants 8 = .ok (.bipush 100, 2) := by decide +kernel
theorem dX1_unequalMutants_10 : decode cX1_unequalMutants 10 = .ok (.if_icmp .ge 36, 3) := by decide +kernel
theorem dX1_unequalMutants_13 : decode cX1_unequalMutants 13 = .ok (.iload_n 1, 1) := by decide +kernel
theorem dX1_unequalMutants_14 : decode cX1_unequalMutants 14 = .ok (.ifCond .eq 32, 3) := by decide +kernel
theorem dX1_unequalMutants_17 : decode cX1_unequalMutants 17 = .ok (.aload_n 0, 1) := by decide +kernel
theorem dX1_unequalMutants_18 : decode cX1_unequalMutants 18 = .ok (.iload_n 2, 1) := by decide +kernel
theorem dX1_unequalMutants_19 : decode cX1_unequalMutants 19 = .ok (.bipush 10, 2) := by decide +kernel
theorem dX1_unequalMutants_21 : decode cX1_unequalMutants 21 = .ok (.idiv, 1) := by decide +kernel
theorem dX1_unequalMutants_22 : decode cX1_unequalMutants 22 = .ok (.iload_n 2, 1) := by decide +kernel
theorem dX1_unequalMutants_23 : decode cX1_unequalMutants 23 = .ok (.bipush 10, 2) := by decide +kernel
theorem dX1_unequalMutants_25 : decode cX1_unequalMutants 25 = .ok (.irem, 1) := by decide +kernel
theorem dX1_unequalMutants_26 : decode cX1_unequalMutants 26 = .ok (.invokevirtual 54, 3) := by decide +kernel
theorem dX1_unequalMutants_29 : decode cX1_unequalMutants 29 = .ok (.pop, 1) := by decide +kernel
theorem dX1_unequalMutants_30 : decode cX1_unequalMutants 30 = .ok (.iload_n 1, 1) := by decide +kernel
theorem dX1_unequalMutants_31 : decode cX1_unequalMutants 31 = .ok (.aload_n 0, 1) := by decide +kernel
theorem dX1_unequalMutants_32 : decode cX1_unequalMutants 32 = .ok (.iload_n 1, 1) := by decide +kernel
theorem dX1_unequalMutants_33 : decode cX1_unequalMutants 33 = .ok (.invokevirtual 80, 3) := by decide +kernel
theorem dX1_unequalMutants_36 : decode cX1_unequalMutants 36 = .ok (.iconst (-1), 1) := by decide +kernel
theorem dX1_unequalMutants_37 : decode cX1_unequalMutants 37 = .ok (.ixor, 1) := by decide +kernel
theorem dX1_unequalMutants_38 : decode cX1_unequalMutants 38 = .ok (.iand, 1) := by decide +kernel
theorem dX1_unequalMutants_39 : decode cX1_unequalMutants 39 = .ok (.istore_n 1, 1) := by decide +kernel
theorem dX1_unequalMutants_40 : decode cX1_unequalMutants 40 = .ok (.iinc 2 1, 3) := by decide +kernel
theorem dX1_unequalMutants_43 : decode cX1_unequalMutants 43 = .ok (.goto (-36), 3) := by decide +kernel
theorem dX1_unequalMutants_46 : decode cX1_unequalMutants 46 = .ok (.aload_n 0, 1) := by decide +kernel
theorem dX1_unequalMutants_47 : decode cX1_unequalMutants 47 = .ok (.invokevirtual 77, 3) := by decide +kernel
theorem dX1_unequalMutants_50 : decode cX1_unequalMutants 50 = .ok (.iload_n 1, 1) := by decide +kernel
theorem dX1_unequalMutants_51 : decode cX1_unequalMutants 51 = .ok (.iconst (-1), 1) := by decide +kernel
theorem dX1_unequalMutants_52 : decode cX1_unequalMutants 52 = .ok (.ixor, 1) := by decide +kernel
theorem dX1_unequalMutants_53 : decode cX1_unequalMutants 53 = .ok (.iand, 1) := by decide +kernel
theorem dX1_unequalMutants_54 : decode cX1_unequalMutants 54 = .ok (.ireturn, 1) := by decide +kernel
theorem dX1_countEqual_0 : decode cX1_countEqual 0 = .ok (.aload_n 0, 1) := by decide +kernel
theorem dX1_countEqual_1 : decode cX1_countEqual 1 = .ok (.invokevirtual 46, 3) := by decide +kernel
theorem dX1_countEqual_4 : decode cX1_countEqual 4 = .ok (.aload_n 0, 1) := by decide +kernel
theorem dX1_countEqual_5 : decode cX1_countEqual 5 = .ok (.invokevirtual 83, 3) := by decide +kernel
theorem dX1_countEqual_8 : decode cX1_countEqual 8 = .ok (.invokestatic 86, 3) := by decide +kernel
theorem dX1_countEqual_11 : decode cX1_countEqual 11 = .ok (.isub, 1) := by decide +kernel
theorem dX1_countEqual_12 : decode cX1_countEqual 12 = .ok (.ireturn, 1) := by decide +kernel
theorem dX1_differences_0 : decode cX1_differences 0 = .ok (.iconst 0, 1) := by decide +kernel
theorem dX1_differences_1 : decode cX1_differences 1 = .ok (.istore_n 2, 1) := by decide +kernel
theorem dX1_differences_2 : decode cX1_differences 2 = .ok (.iconst 0, 1) := by decide +kernel
theorem dX1_differences_3 : decode cX1_differences 3 = .ok (.istore_n 3, 1) := by decide +kernel
theorem dX1_differences_4 : decode cX1_differences 4 = .ok (.iload_n 3, 1) := by decide +kernel
theorem dX1_differences_5 : decode cX1_differences 5 = .ok (.bipush 100, 2) := by decide +kernel
theorem dX1_differences_7 : decode cX1_differences 7 = .ok (.if_icmp .ge 34, 3) := by decide +kernel
theorem dX1_differences_10 : decode cX1_differences 10 = .ok (.aload_n 0, 1) := by decide +kernel
theorem dX1_differences_11 : decode cX1_differences 11 = .ok (.iload_n 3, 1) := by decide +kernel
theorem dX1_differences_12 : decode cX1_differences 12 = .ok (.bipush 10, 2) := by decide +kernel
theorem dX1_differences_14 : decode cX1_differences 14 = .ok (.idiv, 1) := by decide +kernel
theorem dX1_differences_15 : decode cX1_differences 15 = .ok (.iload_n 3, 1) := by decide +kernel
theorem dX1_differences_16 : decode cX1_differences 16 = .ok (.bipush 10, 2) := by decide +kernel
theorem dX1_differences_18 : decode cX1_differences 18 = .ok (.irem, 1) := by decide +kernel
theorem dX1_differences_19 : decode cX1_differences 19 = .ok (.invokevirtual 54, 3) := by decide +kernel
theorem dX1_differences_22 : decode cX1_differences 22 = .ok (.pop, 1) := by decide +kernel
theorem dX1_differences_23 : decode cX1_differences 23 = .ok (.aload_n 0, 1) := by decide +kernel
theorem dX1_differences_24 : decode cX1_differences 24 = .ok (.iload_n 1, 1) := by decide +kernel
theorem dX1_differences_25 : decode cX1_differences 25 = .ok (.invokevirtual 71, 3) := by decide +kernel
theorem dX1_differences_28 : decode cX1_differences 28 = .ok (.iconst 2, 1) := by decide +kernel
theorem dX1_differences_29 : decode cX1_differences 29 = .ok (.if_icmp .ne 6, 3) := by decide +kernel
theorem dX1_differences_32 : decode cX1_differences 32 = .ok (.iinc 2 1, 3) := by decide +kernel
theorem dX1_differences_35 : decode cX1_differences 35 = .ok (.iinc 3 1, 3) := by decide +kernel
theorem dX1_differences_38 : decode cX1_differences 38 = .ok (.goto (-34), 3) := by decide +kernel
theorem dX1_differences_41 : decode cX1_differences 41 = .ok (.iload_n 2, 1) := by decide +kernel
theorem dX1_differences_42 : decode cX1_differences 42 = .ok (.ireturn, 1) := by decide +kernel
theorem dX1_act_0 : decode cX1_act 0 = .ok (.iload_n 2, 1) := by decide +kernel
theorem dX1_act_1 : decode cX1_act 1 = .ok (.bipush 10, 2) := by decide +kernel
theorem dX1_act_3 : decode cX1_act 3 = .ok (.if_icmp .ge 10, 3) := by decide +kernel
theorem dX1_act_6 : decode cX1_act 6 = .ok (.aload_n 0, 1) := by decide +kernel
theorem dX1_act_7 : decode cX1_act 7 = .ok (.iload_n 2, 1) := by decide +kernel
theorem dX1_act_8 : decode cX1_act 8 = .ok (.iload_n 1, 1) := by decide +kernel
theorem dX1_act_9 : decode cX1_act 9 = .ok (.invokevirtual 91, 3) := by decide +kernel
theorem dX1_act_12 : decode cX1_act 12 = .ok (.ireturn, 1) := by decide +kernel
theorem dX1_act_13 : decode cX1_act 13 = .ok (.iload_n 2, 1) := by decide +kernel
theorem dX1_act_14 : decode cX1_act 14 = .ok (.bipush 20, 2) := by decide +kernel
theorem dX1_act_16 : decode cX1_act 16 = .ok (.if_icmp .ge 13, 3) := by decide +kernel
theorem dX1_act_19 : decode cX1_act 19 = .ok (.aload_n 0, 1) := by decide +kernel
theorem dX1_act_20 : decode cX1_act 20 = .ok (.iload_n 2, 1) := by decide +kernel
theorem dX1_act_21 : decode cX1_act 21 = .ok (.bipush 10, 2) := by decide +kernel
theorem dX1_act_23 : decode cX1_act 23 = .ok (.isub, 1) := by decide +kernel
theorem dX1_act_24 : decode cX1_act 24 = .ok (.iload_n 1, 1) := by decide +kernel
theorem dX1_act_25 : decode cX1_act 25 = .ok (.invokevirtual 95, 3) := by decide +kernel
theorem dX1_act_28 : decode cX1_act 28 = .ok (.ireturn, 1) := by decide +kernel
theorem dX1_act_29 : decode cX1_act 29 = .ok (.aload_n 0, 1) := by decide +kernel
theorem dX1_act_30 : decode cX1_act 30 = .ok (.iload_n 2, 1) := by decide +kernel
theorem dX1_act_31 : decode cX1_act 31 = .ok (.bipush 20, 2) := by decide +kernel
theorem dX1_act_33 : decode cX1_act 33 = .ok (.isub, 1) := by decide +kernel
theorem dX1_act_34 : decode cX1_act 34 = .ok (.iload_n 1, 1) := by decide +kernel
theorem dX1_act_35 : decode cX1_act 35 = .ok (.invokevirtual 98, 3) := by decide +kernel
theorem dX1_act_38 : decode cX1_act 38 = .ok (.ireturn, 1) := by decide +kernel
theorem dX1_actOnStep_0 : decode cX1_actOnStep 0 = .ok (.aload_n 0, 1) := by decide +kernel
theorem dX1_actOnStep_1 : decode cX1_actOnStep 1 = .ok (.iload_n 1, 1) := by decide +kernel
theorem dX1_actOnStep_2 : decode cX1_actOnStep 2 = .ok (.invokevirtual 101, 3) := by decide +kernel
theorem dX1_actOnStep_5 : decode cX1_actOnStep 5 = .ok (.ifCond .ne 5, 3) := by decide +kernel
theorem dX1_actOnStep_8 : decode cX1_actOnStep 8 = .ok (.iconst 0, 1) := by decide +kernel
theorem dX1_actOnStep_9 : decode cX1_actOnStep 9 = .ok (.ireturn, 1) := by decide +kernel
theorem dX1_actOnStep_10 : decode cX1_actOnStep 10 = .ok (.aload_n 0, 1) := by decide +kernel
theorem dX1_actOnStep_11 : decode cX1_actOnStep 11 = .ok (.getfield 9, 3) := by decide +kernel
theorem dX1_actOnStep_14 : decode cX1_actOnStep 14 = .ok (.iload_n 1, 1) := by decide +kernel
theorem dX1_actOnStep_15 : decode cX1_actOnStep 15 = .ok (.iload_n 2, 1) := by decide +kernel
theorem dX1_actOnStep_16 : decode cX1_actOnStep 16 = .ok (.iastore, 1) := by decide +kernel
theorem dX1_actOnStep_17 : decode cX1_actOnStep 17 = .ok (.iconst 1, 1) := by decide +kernel
theorem dX1_actOnStep_18 : decode cX1_actOnStep 18 = .ok (.ireturn, 1) := by decide +kernel
theorem dX1_actOnTime_0 : decode cX1_actOnTime 0 = .ok (.aload_n 0, 1) := by decide +kernel
theorem dX1_actOnTime_1 : decode cX1_actOnTime 1 = .ok (.iload_n 1, 1) := by decide +kernel
theorem dX1_actOnTime_2 : decode cX1_actOnTime 2 = .ok (.invokevirtual 105, 3) := by decide +kernel
theorem dX1_actOnTime_5 : decode cX1_actOnTime 5 = .ok (.ifCond .ne 5, 3) := by decide +kernel
theorem dX1_actOnTime_8 : decode cX1_actOnTime 8 = .ok (.iconst 0, 1) := by decide +kernel
theorem dX1_actOnTime_9 : decode cX1_actOnTime 9 = .ok (.ireturn, 1) := by decide +kernel
theorem dX1_actOnTime_10 : decode cX1_actOnTime 10 = .ok (.aload_n 0, 1) := by decide +kernel
theorem dX1_actOnTime_11 : decode cX1_actOnTime 11 = .ok (.getfield 24, 3) := by decide +kernel
theorem dX1_actOnTime_14 : decode cX1_actOnTime 14 = .ok (.iload_n 1, 1) := by decide +kernel
theorem dX1_actOnTime_15 : decode cX1_actOnTime 15 = .ok (.iload_n 2, 1) := by decide +kernel
theorem dX1_actOnTime_16 : decode cX1_actOnTime 16 = .ok (.iastore, 1) := by decide +kernel
theorem dX1_actOnTime_17 : decode cX1_actOnTime 17 = .ok (.iconst 1, 1) := by decide +kernel
theorem dX1_actOnTime_18 : decode cX1_actOnTime 18 = .ok (.ireturn, 1) := by decide +kernel
theorem dX1_actOnInputs_0 : decode cX1_actOnInputs 0 = .ok (.aload_n 0, 1) := by decide +kernel
theorem dX1_actOnInputs_1 : decode cX1_actOnInputs 1 = .ok (.iload_n 1, 1) := by decide +kernel
theorem dX1_actOnInputs_2 : decode cX1_actOnInputs 2 = .ok (.invokevirtual 105, 3) := by decide +kernel
theorem dX1_actOnInputs_5 : decode cX1_actOnInputs 5 = .ok (.ifCond .ne 5, 3) := by decide +kernel
theorem dX1_actOnInputs_8 : decode cX1_actOnInputs 8 = .ok (.iconst 0, 1) := by decide +kernel
theorem dX1_actOnInputs_9 : decode cX1_actOnInputs 9 = .ok (.ireturn, 1) := by decide +kernel
theorem dX1_actOnInputs_10 : decode cX1_actOnInputs 10 = .ok (.aload_n 0, 1) := by decide +kernel
theorem dX1_actOnInputs_11 : decode cX1_actOnInputs 11 = .ok (.getfield 27, 3) := by decide +kernel
theorem dX1_actOnInputs_14 : decode cX1_actOnInputs 14 = .ok (.iload_n 1, 1) := by decide +kernel
theorem dX1_actOnInputs_15 : decode cX1_actOnInputs 15 = .ok (.iload_n 2, 1) := by decide +kernel
theorem dX1_actOnInputs_16 : decode cX1_actOnInputs 16 = .ok (.bipush 10, 2) := by decide +kernel
theorem dX1_actOnInputs_18 : decode cX1_actOnInputs 18 = .ok (.idiv, 1) := by decide +kernel
theorem dX1_actOnInputs_19 : decode cX1_actOnInputs 19 = .ok (.iastore, 1) := by decide +kernel
theorem dX1_actOnInputs_20 : decode cX1_actOnInputs 20 = .ok (.aload_n 0, 1) := by decide +kernel
theorem dX1_actOnInputs_21 : decode cX1_actOnInputs 21 = .ok (.getfield 30, 3) := by decide +kernel
theorem dX1_actOnInputs_24 : decode cX1_actOnInputs 24 = .ok (.iload_n 1, 1) := by decide +kernel
theorem dX1_actOnInputs_25 : decode cX1_actOnInputs 25 = .ok (.iload_n 2, 1) := by decide +kernel
theorem dX1_actOnInputs_26 : decode cX1_actOnInputs 26 = .ok (.bipush 10, 2) := by decide +kernel
theorem dX1_actOnInputs_28 : decode cX1_actOnInputs 28 = .ok (.irem, 1) := by decide +kernel
theorem dX1_actOnInputs_29 : decode cX1_actOnInputs 29 = .ok (.iastore, 1) := by decide +kernel
theorem dX1_actOnInputs_30 : decode cX1_actOnInputs 30 = .ok (.iconst 1, 1) := by decide +kernel
theorem dX1_actOnInputs_31 : decode cX1_actOnInputs 31 = .ok (.ireturn, 1) := by decide +kernel
theorem dX2_init_0 : decode cX2_init 0 = .ok (.aload_n 0, 1) := by decide +kernel
theorem dX2_init_1 : decode cX2_init 1 = .ok (.invokespecial 3, 3) := by decide +kernel
theorem dX2_init_4 : decode cX2_init 4 = .ok (.aload_n 0, 1) := by decide +kernel
theorem dX2_init_5 : decode cX2_init 5 = .ok (.bipush 60, 2) := by decide +kernel
theorem dX2_init_7 : decode cX2_init 7 = .ok (.newarray .int, 2) := by decide +kernel
theorem dX2_init_9 : decode cX2_init 9 = .ok (.putfield 9, 3) := by decide +kernel
theorem dX2_init_12 : decode cX2_init 12 = .ok (.aload_n 0, 1) := by decide +kernel
theorem dX2_init_13 : decode cX2_init 13 = .ok (.iconst (-1), 1) := by decide +kernel
theorem dX2_init_14 : decode cX2_init 14 = .ok (.putfield 15, 3) := by decide +kernel
theorem dX2_init_17 : decode cX2_init 17 = .ok (.return_, 1) := by decide +kernel
theorem dX2_isNothing_0 : decode cX2_isNothing 0 = .ok (.aload_n 0, 1) := by decide +kernel
theorem dX2_isNothing_1 : decode cX2_isNothing 1 = .ok (.getfield 15, 3) := by decide +kernel
theorem dX2_isNothing_4 : decode cX2_isNothing 4 = .ok (.iconst (-1), 1) := by decide +kernel
theorem dX2_isNothing_5 : decode cX2_isNothing 5 = .ok (.if_icmp .ne 7, 3) := by decide +kernel
theorem dX2_isNothing_8 : decode cX2_isNothing 8 = .ok (.iconst 1, 1) := by decide +kernel
theorem dX2_isNothing_9 : decode cX2_isNothing 9 = .ok (.goto 4, 3) := by decide +kernel
theorem dX2_isNothing_12 : decode cX2_isNothing 12 = .ok (.iconst 0, 1) := by decide +kernel
theorem dX2_isNothing_13 : decode cX2_isNothing 13 = .ok (.ireturn, 1) := by decide +kernel
theorem dX2_becomeNothing_0 : decode cX2_becomeNothing 0 = .ok (.aload_n 0, 1) := by decide +kernel
theorem dX2_becomeNothing_1 : decode cX2_becomeNothing 1 = .ok (.iconst (-1), 1) := by decide +kernel
theorem dX2_becomeNothing_2 : decode cX2_becomeNothing 2 = .ok (.putfield 15, 3) := by decide +kernel
theorem dX2_becomeNothing_5 : decode cX2_becomeNothing 5 = .ok (.aload_n 0, 1) := by decide +kernel
theorem dX2_becomeNothing_6 : decode cX2_becomeNothing 6 = .ok (.iconst 0, 1) := by decide +kernel
theorem dX2_becomeNothing_7 : decode cX2_becomeNothing 7 = .ok (.putfield 19, 3) := by decide +kernel
theorem dX2_becomeNothing_10 : decode cX2_becomeNothing 10 = .ok (.return_, 1) := by decide +kernel
theorem dX2_renew_0 : decode cX2_renew 0 = .ok (.aload_n 0, 1) := by decide +kernel
theorem dX2_renew_1 : decode cX2_renew 1 = .ok (.iload_n 1, 1) := by decide +kernel
theorem dX2_renew_2 : decode cX2_renew 2 = .ok (.putfield 15, 3) := by decide +kernel
theorem dX2_renew_5 : decode cX2_renew 5 = .ok (.aload_n 0, 1) := by decide +kernel
theorem dX2_renew_6 : decode cX2_renew 6 = .ok (.iload_n 2, 1) := by decide +kernel
theorem dX2_renew_7 : decode cX2_renew 7 = .ok (.putfield 19, 3) := by decide +kernel
theorem dX2_renew_10 : decode cX2_renew 10 = .ok (.iconst 0, 1) := by decide +kernel
theorem dX2_renew_11 : decode cX2_renew 11 = .ok (.istore_n 3, 1) := by decide +kernel
theorem dX2_renew_12 : decode cX2_renew 12 = .ok (.iload_n 3, 1) := by decide +kernel
theorem dX2_renew_13 : decode cX2_renew 13 = .ok (.iload_n 2, 1) := by decide +kernel
theorem dX2_renew_14 : decode cX2_renew 14 = .ok (.if_icmp .ge 16, 3) := by decide +kernel
theorem dX2_renew_17 : decode cX2_renew 17 = .ok (.aload_n 0, 1) := by decide +kernel
theorem dX2_renew_18 : decode cX2_renew 18 = .ok (.getfield 9, 3) := by decide +kernel
theorem dX2_renew_21 : decode cX2_renew 21 = .ok (.iload_n 3, 1) := by decide +kernel
theorem dX2_renew_22 : decode cX2_renew 22 = .ok (.iconst 0, 1) := by decide +kernel
theorem dX2_renew_23 : decode cX2_renew 23 = .ok (.iastore, 1) := by decide +kernel
theorem dX2_renew_24 : decode cX2_renew 24 = .ok (.iinc 3 1, 3) := by decide +kernel
theorem dX2_renew_27 : decode cX2_renew 27 = .ok (.goto (-15), 3) := by decide +kernel
theorem dX2_renew_30 : decode cX2_renew 30 = .ok (.return_, 1) := by decide +kernel
theorem dX2_faultAs_0 : decode cX2_faultAs 0 = .ok (.aload_n 0, 1) := by decide +kernel
theorem dX2_faultAs_1 : decode cX2_faultAs 1 = .ok (.invokevirtual 22, 3) := by decide +kernel
theorem dX2_faultAs_4 : decode cX2_faultAs 4 = .ok (.ifCond .eq 5, 3) := by decide +kernel
theorem dX2_faultAs_7 : decode cX2_faultAs 7 = .ok (.iconst 1, 1) := by decide +kernel
theorem dX2_faultAs_8 : decode cX2_faultAs 8 = .ok (.ireturn, 1) := by decide +kernel
theorem dX2_faultAs_9 : decode cX2_faultAs 9 = .ok (.aload_n 0, 1) := by decide +kernel
theorem dX2_faultAs_10 : decode cX2_faultAs 10 = .ok (.getfield 15, 3) := by decide +kernel
theorem dX2_faultAs_13 : decode cX2_faultAs 13 = .ok (.iload_n 1, 1) := by decide +kernel
theorem dX2_faultAs_14 : decode cX2_faultAs 14 = .ok (.if_icmp .ne 7, 3) := by decide +kernel
theorem dX2_faultAs_17 : decode cX2_faultAs 17 = .ok (.iconst 0, 1) := by decide +kernel
theorem dX2_faultAs_18 : decode cX2_faultAs 18 = .ok (.goto 4, 3) := by decide +kernel
theorem dX2_faultAs_21 : decode cX2_faultAs 21 = .ok (.iconst 2, 1) := by decide +kernel
theorem dX2_faultAs_22 : decode cX2_faultAs 22 = .ok (.ireturn, 1) := by decide +kernel
theorem dX2_hasCell_0 : decode cX2_hasCell 0 = .ok (.iload_n 1, 1) := by decide +kernel
theorem dX2_hasCell_1 : decode cX2_hasCell 1 = .ok (.ifCond .lt 15, 3) := by decide +kernel
theorem dX2_hasCell_4 : decode cX2_hasCell 4 = .ok (.iload_n 1, 1) := by decide +kernel
theorem dX2_hasCell_5 : decode cX2_hasCell 5 = .ok (.aload_n 0, 1) := by decide +kernel
theorem dX2_hasCell_6 : decode cX2_hasCell 6 = .ok (.getfield 19, 3) := by decide +kernel
theorem dX2_hasCell_9 : decode cX2_hasCell 9 = .ok (.if_icmp .ge 7, 3) := by decide +kernel
theorem dX2_hasCell_12 : decode cX2_hasCell 12 = .ok (.iconst 1, 1) := by decide +kernel
theorem dX2_hasCell_13 : decode cX2_hasCell 13 = .ok (.goto 4, 3) := by decide +kernel
theorem dX2_hasCell_16 : decode cX2_hasCell 16 = .ok (.iconst 0, 1) := by decide +kernel
theorem dX2_hasCell_17 : decode cX2_hasCell 17 = .ok (.ireturn, 1) := by decide +kernel
theorem dX2_hasCells_0 : decode cX2_hasCells 0 = .ok (.iload_n 1, 1) := by decide +kernel
theorem dX2_hasCells_1 : decode cX2_hasCells 1 = .ok (.ifCond .lt 29, 3) := by decide +kernel
theorem dX2_hasCells_4 : decode cX2_hasCells 4 = .ok (.iload_n 1, 1) := by decide +kernel
theorem dX2_hasCells_5 : decode cX2_hasCells 5 = .ok (.aload_n 0, 1) := by decide +kernel
theorem dX2_hasCells_6 : decode cX2_hasCells 6 = .ok (.getfield 19, 3) := by decide +kernel
theorem dX2_hasCells_9 : decode cX2_hasCells 9 = .ok (.if_icmp .gt 21, 3) := by decide +kernel
theorem dX2_hasCells_12 : decode cX2_hasCells 12 = .ok (.iload_n 2, 1) := by decide +kernel
theorem dX2_hasCells_13 : decode cX2_hasCells 13 = .ok (.ifCond .lt 17, 3) := by decide +kernel
theorem dX2_hasCells_16 : decode cX2_hasCells 16 = .ok (.iload_n 2, 1) := by decide +kernel
theorem dX2_hasCells_17 : decode cX2_hasCells 17 = .ok (.aload_n 0, 1) := by decide +kernel
theorem dX2_hasCells_18 : decode cX2_hasCells 18 = .ok (.getfield 19, 3) := by decide +kernel
theorem dX2_hasCells_21 : decode cX2_hasCells 21 = .ok (.iload_n 1, 1) := by decide +kernel
theorem dX2_hasCells_22 : decode cX2_hasCells 22 = .ok (.isub, 1) := by decide +kernel
theorem dX2_hasCells_23 : decode cX2_hasCells 23 = .ok (.if_icmp .gt 7, 3) := by decide +kernel
theorem dX2_hasCells_26 : decode cX2_hasCells 26 = .ok (.iconst 1, 1) := by decide +kernel
theorem dX2_hasCells_27 : decode cX2_hasCells 27 = .ok (.goto 4, 3) := by decide +kernel
theorem dX2_hasCells_30 : decode cX2_hasCells 30 = .ok (.iconst 0, 1) := by decide +kernel
theorem dX2_hasCells_31 : decode cX2_hasCells 31 = .ok (.ireturn, 1) := by decide +kernel
theorem dX2_cut_0 : decode cX2_cut 0 = .ok (.aload_n 0, 1) := by decide +kernel
theorem dX2_cut_1 : decode cX2_cut 1 = .ok (.getfield 15, 3) := by decide +kernel
theorem dX2_cut_4 : decode cX2_cut 4 = .ok (.lookupswitch 34 #[(0, 28), (1, 31)], 28) := by decide +kernel
theorem dX2_cut_32 : decode cX2_cut 32 = .ok (.iload_n 1, 1) := by decide +kernel
theorem dX2_cut_33 : decode cX2_cut 33 = .ok (.i2b, 1) := by decide +kernel
theorem dX2_cut_34 : decode cX2_cut 34 = .ok (.ireturn, 1) := by decide +kernel
theorem dX2_cut_35 : decode cX2_cut 35 = .ok (.iload_n 1, 1) := by decide +kernel
theorem dX2_cut_36 : decode cX2_cut 36 = .ok (.i2s, 1) := by decide +kernel
theorem dX2_cut_37 : decode cX2_cut 37 = .ok (.ireturn, 1) := by decide +kernel
theorem dX2_cut_38 : decode cX2_cut 38 = .ok (.iload_n 1, 1) := by decide +kernel
theorem dX2_cut_39 : decode cX2_cut 39 = .ok (.ireturn, 1) := by decide +kernel
theorem dX3_init_0 : decode cX3_init 0 = .ok (.aload_n 0, 1) := by decide +kernel
theorem dX3_init_1 : decode cX3_init 1 = .ok (.invokespecial 3, 3) := by decide +kernel
theorem dX3_init_4 : decode cX3_init 4 = .ok (.aload_n 0, 1) := by decide +kernel
theorem dX3_init_5 : decode cX3_init 5 = .ok (.new 9, 3) := by decide +kernel
theorem dX3_init_8 : decode cX3_init 8 = .ok (.dup, 1) := by decide +kernel
theorem dX3_init_9 : decode cX3_init 9 = .ok (.invokespecial 11, 3) := by decide +kernel
theorem dX3_init_12 : decode cX3_init 12 = .ok (.putfield 12, 3) := by decide +kernel
theorem dX3_init_15 : decode cX3_init 15 = .ok (.aload_n 0, 1) := by decide +kernel
theorem dX3_init_16 : decode cX3_init 16 = .ok (.bipush 60, 2) := by decide +kernel
theorem dX3_init_18 : decode cX3_init 18 = .ok (.newarray .int, 2) := by decide +kernel
theorem dX3_init_20 : decode cX3_init 20 = .ok (.putfield 18, 3) := by decide +kernel
theorem dX3_init_23 : decode cX3_init 23 = .ok (.return_, 1) := by decide +kernel
theorem dX3_reads_0 : decode cX3_reads 0 = .ok (.aload_n 1, 1) := by decide +kernel
theorem dX3_reads_1 : decode cX3_reads 1 = .ok (.getfield 22, 3) := by decide +kernel
theorem dX3_reads_4 : decode cX3_reads 4 = .ok (.iload_n 2, 1) := by decide +kernel
theorem dX3_reads_5 : decode cX3_reads 5 = .ok (.aload_n 0, 1) := by decide +kernel
theorem dX3_reads_6 : decode cX3_reads 6 = .ok (.getfield 18, 3) := by decide +kernel
theorem dX3_reads_9 : decode cX3_reads 9 = .ok (.iconst 0, 1) := by decide +kernel
theorem dX3_reads_10 : decode cX3_reads 10 = .ok (.iload_n 3, 1) := by decide +kernel
theorem dX3_reads_11 : decode cX3_reads 11 = .ok (.invokestatic 27, 3) := by decide +kernel
theorem dX3_reads_14 : decode cX3_reads 14 = .ok (.aload_n 0, 1) := by decide +kernel
theorem dX3_reads_15 : decode cX3_reads 15 = .ok (.iload_n 3, 1) := by decide +kernel
theorem dX3_reads_16 : decode cX3_reads 16 = .ok (.putfield 33, 3) := by decide +kernel
theorem dX3_reads_19 : decode cX3_reads 19 = .ok (.aload_n 0, 1) := by decide +kernel
theorem dX3_reads_20 : decode cX3_reads 20 = .ok (.iconst 0, 1) := by decide +kernel
theorem dX3_reads_21 : decode cX3_reads 21 = .ok (.putfield 37, 3) := by decide +kernel
theorem dX3_reads_24 : decode cX3_reads 24 = .ok (.aload_n 0, 1) := by decide +kernel
theorem dX3_reads_25 : decode cX3_reads 25 = .ok (.getfield 12, 3) := by decide +kernel
theorem dX3_reads_28 : decode cX3_reads 28 = .ok (.invokevirtual 40, 3) := by decide +kernel
theorem dX3_reads_31 : decode cX3_reads 31 = .ok (.aload_n 0, 1) := by decide +kernel
theorem dX3_reads_32 : decode cX3_reads 32 = .ok (.bipush 109, 2) := by decide +kernel
theorem dX3_reads_34 : decode cX3_reads 34 = .ok (.invokevirtual 43, 3) := by decide +kernel
theorem dX3_reads_37 : decode cX3_reads 37 = .ok (.ifCond .eq 32, 3) := by decide +kernel
theorem dX3_reads_40 : decode cX3_reads 40 = .ok (.aload_n 0, 1) := by decide +kernel
theorem dX3_reads_41 : decode cX3_reads 41 = .ok (.invokevirtual 47, 3) := by decide +kernel
theorem dX3_reads_44 : decode cX3_reads 44 = .ok (.ifCond .eq 25, 3) := by decide +kernel
theorem dX3_reads_47 : decode cX3_reads 47 = .ok (.aload_n 0, 1) := by decide +kernel
theorem dX3_reads_48 : decode cX3_reads 48 = .ok (.invokevirtual 51, 3) := by decide +kernel
theorem dX3_reads_51 : decode cX3_reads 51 = .ok (.ifCond .eq 18, 3) := by decide +kernel
theorem dX3_reads_54 : decode cX3_reads 54 = .ok (.aload_n 0, 1) := by decide +kernel
theorem dX3_reads_55 : decode cX3_reads 55 = .ok (.getfield 37, 3) := by decide +kernel
theorem dX3_reads_58 : decode cX3_reads 58 = .ok (.aload_n 0, 1) := by decide +kernel
theorem dX3_reads_59 : decode cX3_reads 59 = .ok (.getfield 33, 3) := by decide +kernel
theorem dX3_reads_62 : decode cX3_reads 62 = .ok (.if_icmp .ne 7, 3) := by decide +kernel
theorem dX3_reads_65 : decode cX3_reads 65 = .ok (.iconst 1, 1) := by decide +kernel
theorem dX3_reads_66 : decode cX3_reads 66 = .ok (.goto 4, 3) := by decide +kernel
theorem dX3_reads_69 : decode cX3_reads 69 = .ok (.iconst 0, 1) := by decide +kernel
theorem dX3_reads_70 : decode cX3_reads 70 = .ok (.ireturn, 1) := by decide +kernel
theorem dX3_readSteps_0 : decode cX3_readSteps 0 = .ok (.aload_n 0, 1) := by decide +kernel
theorem dX3_readSteps_1 : decode cX3_readSteps 1 = .ok (.invokevirtual 54, 3) := by decide +kernel
theorem dX3_readSteps_4 : decode cX3_readSteps 4 = .ok (.istore_n 1, 1) := by decide +kernel
theorem dX3_readSteps_5 : decode cX3_readSteps 5 = .ok (.iconst 1, 1) := by decide +kernel
theorem dX3_readSteps_6 : decode cX3_readSteps 6 = .ok (.istore_n 2, 1) := by decide +kernel
theorem dX3_readSteps_7 : decode cX3_readSteps 7 = .ok (.iload_n 2, 1) := by decide +kernel
theorem dX3_readSteps_8 : decode cX3_readSteps 8 = .ok (.iconst 5, 1) := by decide +kernel
theorem dX3_readSteps_9 : decode cX3_readSteps 9 = .ok (.if_icmp .ge 27, 3) := by decide +kernel
theorem dX3_readSteps_12 : decode cX3_readSteps 12 = .ok (.iload_n 1, 1) := by decide +kernel
theorem dX3_readSteps_13 : decode cX3_readSteps 13 = .ok (.ifCond .eq 23, 3) := by decide +kernel
theorem dX3_readSteps_16 : decode cX3_readSteps 16 = .ok (.aload_n 0, 1) := by decide +kernel
theorem dX3_readSteps_17 : decode cX3_readSteps 17 = .ok (.invokevirtual 57, 3) := by decide +kernel
theorem dX3_readSteps_20 : decode cX3_readSteps 20 = .ok (.bipush 59, 2) := by decide +kernel
theorem dX3_readSteps_22 : decode cX3_readSteps 22 = .ok (.if_icmp .ne 14, 3) := by decide +kernel
theorem dX3_readSteps_25 : decode cX3_readSteps 25 = .ok (.aload_n 0, 1) := by decide +kernel
theorem dX3_readSteps_26 : decode cX3_readSteps 26 = .ok (.invokevirtual 54, 3) := by decide +kernel
theorem dX3_readSteps_29 : decode cX3_readSteps 29 = .ok (.istore_n 1, 1) := by decide +kernel
theorem dX3_readSteps_30 : decode cX3_readSteps 30 = .ok (.iinc 2 1, 3) := by decide +kernel
theorem dX3_readSteps_33 : decode cX3_readSteps 33 = .ok (.goto (-26), 3) := by decide +kernel
theorem dX3_readSteps_36 : decode cX3_readSteps 36 = .ok (.iload_n 1, 1) := by decide +kernel
theorem dX3_readSteps_37 : decode cX3_readSteps 37 = .ok (.ireturn, 1) := by decide +kernel
theorem dX3_readStep_0 : decode cX3_readStep 0 = .ok (.aload_n 0, 1) := by decide +kernel
theorem dX3_readStep_1 : decode cX3_readStep 1 = .ok (.bipush 59, 2) := by decide +kernel
theorem dX3_readStep_3 : decode cX3_readStep 3 = .ok (.invokevirtual 43, 3) := by decide +kernel
theorem dX3_readStep_6 : decode cX3_readStep 6 = .ok (.ifCond .ne 5, 3) := by decide +kernel
theorem dX3_readStep_9 : decode cX3_readStep 9 = .ok (.iconst 0, 1) := by decide +kernel
theorem dX3_readStep_10 : decode cX3_readStep 10 = .ok (.ireturn, 1) := by decide +kernel
theorem dX3_readStep_11 : decode cX3_readStep 11 = .ok (.aload_n 0, 1) := by decide +kernel
theorem dX3_readStep_12 : decode cX3_readStep 12 = .ok (.getstatic 61, 3) := by decide +kernel
theorem dX3_readStep_15 : decode cX3_readStep 15 = .ok (.invokevirtual 64, 3) := by decide +kernel
theorem dX3_readStep_18 : decode cX3_readStep 18 = .ok (.istore_n 1, 1) := by decide +kernel
theorem dX3_readStep_19 : decode cX3_readStep 19 = .ok (.iload_n 1, 1) := by decide +kernel
theorem dX3_readStep_20 : decode cX3_readStep 20 = .ok (.iconst (-1), 1) := by decide +kernel
theorem dX3_readStep_21 : decode cX3_readStep 21 = .ok (.if_icmp .ne 7, 3) := by decide +kernel
theorem dX3_readStep_24 : decode cX3_readStep 24 = .ok (.iconst (-1), 1) := by decide +kernel
theorem dX3_readStep_25 : decode cX3_readStep 25 = .ok (.goto 7, 3) := by decide +kernel
theorem dX3_readStep_28 : decode cX3_readStep 28 = .ok (.aload_n 0, 1) := by decide +kernel
theorem dX3_readStep_29 : decode cX3_readStep 29 = .ok (.invokevirtual 68, 3) := by decide +kernel
theorem dX3_readStep_32 : decode cX3_readStep 32 = .ok (.istore_n 2, 1) := by decide +kernel
theorem dX3_readStep_33 : decode cX3_readStep 33 = .ok (.iload_n 2, 1) := by decide +kernel
theorem dX3_readStep_34 : decode cX3_readStep 34 = .ok (.iconst (-1), 1) := by decide +kernel
theorem dX3_readStep_35 : decode cX3_readStep 35 = .ok (.if_icmp .ne 7, 3) := by decide +kernel
theorem dX3_readStep_38 : decode cX3_readStep 38 = .ok (.iconst (-1), 1) := by decide +kernel
theorem dX3_readStep_39 : decode cX3_readStep 39 = .ok (.goto 7, 3) := by decide +kernel
theorem dX3_readStep_42 : decode cX3_readStep 42 = .ok (.aload_n 0, 1) := by decide +kernel
theorem dX3_readStep_43 : decode cX3_readStep 43 = .ok (.invokevirtual 68, 3) := by decide +kernel
theorem dX3_readStep_46 : decode cX3_readStep 46 = .ok (.istore_n 3, 1) := by decide +kernel
theorem dX3_readStep_47 : decode cX3_readStep 47 = .ok (.aload_n 0, 1) := by decide +kernel
theorem dX3_readStep_48 : decode cX3_readStep 48 = .ok (.getfield 12, 3) := by decide +kernel
theorem dX3_readStep_51 : decode cX3_readStep 51 = .ok (.getfield 71, 3) := by decide +kernel
theorem dX3_readStep_54 : decode cX3_readStep 54 = .ok (.istore 4, 2) := by decide +kernel
theorem dX3_readStep_56 : decode cX3_readStep 56 = .ok (.iload_n 3, 1) := by decide +kernel
theorem dX3_readStep_57 : decode cX3_readStep 57 = .ok (.iconst (-1), 1) := by decide +kernel
theorem dX3_readStep_58 : decode cX3_readStep 58 = .ok (.if_icmp .eq 9, 3) := by decide +kernel
theorem dX3_readStep_61 : decode cX3_readStep 61 = .ok (.iload 4, 2) := by decide +kernel
theorem dX3_readStep_63 : decode cX3_readStep 63 = .ok (.iconst 5, 1) := by decide +kernel
theorem dX3_readStep_64 : decode cX3_readStep 64 = .ok (.if_icmp .lt 5, 3) := by decide +kernel
theorem dX3_readStep_67 : decode cX3_readStep 67 = .ok (.iconst 0, 1) := by decide +kernel
theorem dX3_readStep_68 : decode cX3_readStep 68 = .ok (.ireturn, 1) := by decide +kernel
theorem dX3_readStep_69 : decode cX3_readStep 69 = .ok (.aload_n 0, 1) := by decide +kernel
theorem dX3_readStep_70 : decode cX3_readStep 70 = .ok (.getfield 12, 3) := by decide +kernel
theorem dX3_readStep_73 : decode cX3_readStep 73 = .ok (.getfield 74, 3) := by decide +kernel
theorem dX3_readStep_76 : decode cX3_readStep 76 = .ok (.iload 4, 2) := by decide +kernel
theorem dX3_readStep_78 : decode cX3_readStep 78 = .ok (.iload_n 1, 1) := by decide +kernel
theorem dX3_readStep_79 : decode cX3_readStep 79 = .ok (.iastore, 1) := by decide +kernel
theorem dX3_readStep_80 : decode cX3_readStep 80 = .ok (.aload_n 0, 1) := by decide +kernel
theorem dX3_readStep_81 : decode cX3_readStep 81 = .ok (.getfield 12, 3) := by decide +kernel
theorem dX3_readStep_84 : decode cX3_readStep 84 = .ok (.getfield 77, 3) := by decide +kernel
theorem dX3_readStep_87 : decode cX3_readStep 87 = .ok (.iload 4, 2) := by decide +kernel
theorem dX3_readStep_89 : decode cX3_readStep 89 = .ok (.iload_n 2, 1) := by decide +kernel
theorem dX3_readStep_90 : decode cX3_readStep 90 = .ok (.iastore, 1) := by decide +kernel
theorem dX3_readStep_91 : decode cX3_readStep 91 = .ok (.aload_n 0, 1) := by decide +kernel
theorem dX3_readStep_92 : decode cX3_readStep 92 = .ok (.getfield 12, 3) := by decide +kernel
theorem dX3_readStep_95 : decode cX3_readStep 95 = .ok (.getfield 80, 3) := by decide +kernel
theorem dX3_readStep_98 : decode cX3_readStep 98 = .ok (.iload 4, 2) := by decide +kernel
theorem dX3_readStep_100 : decode cX3_readStep 100 = .ok (.iload_n 3, 1) := by decide +kernel
theorem dX3_readStep_101 : decode cX3_readStep 101 = .ok (.iastore, 1) := by decide +kernel
theorem dX3_readStep_102 : decode cX3_readStep 102 = .ok (.aload_n 0, 1) := by decide +kernel
theorem dX3_readStep_103 : decode cX3_readStep 103 = .ok (.getfield 12, 3) := by decide +kernel
theorem dX3_readStep_106 : decode cX3_readStep 106 = .ok (.dup, 1) := by decide +kernel
theorem dX3_readStep_107 : decode cX3_readStep 107 = .ok (.getfield 71, 3) := by decide +kernel
theorem dX3_readStep_110 : decode cX3_readStep 110 = .ok (.iconst 1, 1) := by decide +kernel
theorem dX3_readStep_111 : decode cX3_readStep 111 = .ok (.iadd, 1) := by decide +kernel
theorem dX3_readStep_112 : decode cX3_readStep 112 = .ok (.putfield 71, 3) := by decide +kernel
theorem dX3_readStep_115 : decode cX3_readStep 115 = .ok (.iconst 1, 1) := by decide +kernel
theorem dX3_readStep_116 : decode cX3_readStep 116 = .ok (.ireturn, 1) := by decide +kernel
theorem dX3_readTests_0 : decode cX3_readTests 0 = .ok (.aload_n 0, 1) := by decide +kernel
theorem dX3_readTests_1 : decode cX3_readTests 1 = .ok (.invokevirtual 83, 3) := by decide +kernel
theorem dX3_readTests_4 : decode cX3_readTests 4 = .ok (.istore_n 1, 1) := by decide +kernel
theorem dX3_readTests_5 : decode cX3_readTests 5 = .ok (.iconst 1, 1) := by decide +kernel
theorem dX3_readTests_6 : decode cX3_readTests 6 = .ok (.istore_n 2, 1) := by decide +kernel
theorem dX3_readTests_7 : decode cX3_readTests 7 = .ok (.iload_n 2, 1) := by decide +kernel
theorem dX3_readTests_8 : decode cX3_readTests 8 = .ok (.bipush 7, 2) := by decide +kernel
theorem dX3_readTests_10 : decode cX3_readTests 10 = .ok (.if_icmp .ge 27, 3) := by decide +kernel
theorem dX3_readTests_13 : decode cX3_readTests 13 = .ok (.iload_n 1, 1) := by decide +kernel
theorem dX3_readTests_14 : decode cX3_readTests 14 = .ok (.ifCond .eq 23, 3) := by decide +kernel
theorem dX3_readTests_17 : decode cX3_readTests 17 = .ok (.aload_n 0, 1) := by decide +kernel
theorem dX3_readTests_18 : decode cX3_readTests 18 = .ok (.invokevirtual 57, 3) := by decide +kernel
theorem dX3_readTests_21 : decode cX3_readTests 21 = .ok (.bipush 44, 2) := by decide +kernel
theorem dX3_readTests_23 : decode cX3_readTests 23 = .ok (.if_icmp .ne 14, 3) := by decide +kernel
theorem dX3_readTests_26 : decode cX3_readTests 26 = .ok (.aload_n 0, 1) := by decide +kernel
theorem dX3_readTests_27 : decode cX3_readTests 27 = .ok (.invokevirtual 83, 3) := by decide +kernel
theorem dX3_readTests_30 : decode cX3_readTests 30 = .ok (.istore_n 1, 1) := by decide +kernel
theorem dX3_readTests_31 : decode cX3_readTests 31 = .ok (.iinc 2 1, 3) := by decide +kernel
theorem dX3_readTests_34 : decode cX3_readTests 34 = .ok (.goto (-27), 3) := by decide +kernel
theorem dX3_readTests_37 : decode cX3_readTests 37 = .ok (.iload_n 1, 1) := by decide +kernel
theorem dX3_readTests_38 : decode cX3_readTests 38 = .ok (.ireturn, 1) := by decide +kernel
theorem dX3_readTest_0 : decode cX3_readTest 0 = .ok (.aload_n 0, 1) := by decide +kernel
theorem dX3_readTest_1 : decode cX3_readTest 1 = .ok (.bipush 44, 2) := by decide +kernel
theorem dX3_readTest_3 : decode cX3_readTest 3 = .ok (.invokevirtual 43, 3) := by decide +kernel
theorem dX3_readTest_6 : decode cX3_readTest 6 = .ok (.ifCond .ne 5, 3) := by decide +kernel
theorem dX3_readTest_9 : decode cX3_readTest 9 = .ok (.iconst 0, 1) := by decide +kernel
theorem dX3_readTest_10 : decode cX3_readTest 10 = .ok (.ireturn, 1) := by decide +kernel
theorem dX3_readTest_11 : decode cX3_readTest 11 = .ok (.aload_n 0, 1) := by decide +kernel
theorem dX3_readTest_12 : decode cX3_readTest 12 = .ok (.getstatic 86, 3) := by decide +kernel
theorem dX3_readTest_15 : decode cX3_readTest 15 = .ok (.invokevirtual 64, 3) := by decide +kernel
theorem dX3_readTest_18 : decode cX3_readTest 18 = .ok (.istore_n 1, 1) := by decide +kernel
theorem dX3_readTest_19 : decode cX3_readTest 19 = .ok (.iload_n 1, 1) := by decide +kernel
theorem dX3_readTest_20 : decode cX3_readTest 20 = .ok (.iconst (-1), 1) := by decide +kernel
theorem dX3_readTest_21 : decode cX3_readTest 21 = .ok (.if_icmp .ne 7, 3) := by decide +kernel
theorem dX3_readTest_24 : decode cX3_readTest 24 = .ok (.iconst (-1), 1) := by decide +kernel
theorem dX3_readTest_25 : decode cX3_readTest 25 = .ok (.goto 10, 3) := by decide +kernel
theorem dX3_readTest_28 : decode cX3_readTest 28 = .ok (.aload_n 0, 1) := by decide +kernel
theorem dX3_readTest_29 : decode cX3_readTest 29 = .ok (.iconst 1, 1) := by decide +kernel
theorem dX3_readTest_30 : decode cX3_readTest 30 = .ok (.bipush 9, 2) := by decide +kernel
theorem dX3_readTest_32 : decode cX3_readTest 32 = .ok (.invokevirtual 89, 3) := by decide +kernel
theorem dX3_readTest_35 : decode cX3_readTest 35 = .ok (.istore_n 2, 1) := by decide +kernel
theorem dX3_readTest_36 : decode cX3_readTest 36 = .ok (.iload_n 2, 1) := by decide +kernel
theorem dX3_readTest_37 : decode cX3_readTest 37 = .ok (.iconst (-1), 1) := by decide +kernel
theorem dX3_readTest_38 : decode cX3_readTest 38 = .ok (.if_icmp .ne 7, 3) := by decide +kernel
theorem dX3_readTest_41 : decode cX3_readTest 41 = .ok (.iconst (-1), 1) := by decide +kernel
theorem dX3_readTest_42 : decode cX3_readTest 42 = .ok (.goto 10, 3) := by decide +kernel
theorem dX3_readTest_45 : decode cX3_readTest 45 = .ok (.aload_n 0, 1) := by decide +kernel
theorem dX3_readTest_46 : decode cX3_readTest 46 = .ok (.iconst 0, 1) := by decide +kernel
theorem dX3_readTest_47 : decode cX3_readTest 47 = .ok (.bipush 9, 2) := by decide +kernel
theorem dX3_readTest_49 : decode cX3_readTest 49 = .ok (.invokevirtual 89, 3) := by decide +kernel
theorem dX3_readTest_52 : decode cX3_readTest 52 = .ok (.istore_n 3, 1) := by decide +kernel
theorem dX3_readTest_53 : decode cX3_readTest 53 = .ok (.iload_n 3, 1) := by decide +kernel
theorem dX3_readTest_54 : decode cX3_readTest 54 = .ok (.iconst (-1), 1) := by decide +kernel
theorem dX3_readTest_55 : decode cX3_readTest 55 = .ok (.if_icmp .ne 7, 3) := by decide +kernel
theorem dX3_readTest_58 : decode cX3_readTest 58 = .ok (.iconst (-1), 1) := by decide +kernel
theorem dX3_readTest_59 : decode cX3_readTest 59 = .ok (.goto 10, 3) := by decide +kernel
theorem dX3_readTest_62 : decode cX3_readTest 62 = .ok (.aload_n 0, 1) := by decide +kernel
theorem dX3_readTest_63 : decode cX3_readTest 63 = .ok (.iconst 0, 1) := by decide +kernel
theorem dX3_readTest_64 : decode cX3_readTest 64 = .ok (.bipush 9, 2) := by decide +kernel
theorem dX3_readTest_66 : decode cX3_readTest 66 = .ok (.invokevirtual 89, 3) := by decide +kernel
theorem dX3_readTest_69 : decode cX3_readTest 69 = .ok (.istore 4, 2) := by decide +kernel
theorem dX3_readTest_71 : decode cX3_readTest 71 = .ok (.aload_n 0, 1) := by decide +kernel
theorem dX3_readTest_72 : decode cX3_readTest 72 = .ok (.getfield 12, 3) := by decide +kernel
theorem dX3_readTest_75 : decode cX3_readTest 75 = .ok (.getfield 93, 3) := by decide +kernel
theorem dX3_readTest_78 : decode cX3_readTest 78 = .ok (.istore 5, 2) := by decide +kernel
theorem dX3_readTest_80 : decode cX3_readTest 80 = .ok (.iload 4, 2) := by decide +kernel
theorem dX3_readTest_82 : decode cX3_readTest 82 = .ok (.iconst (-1), 1) := by decide +kernel
theorem dX3_readTest_83 : decode cX3_readTest 83 = .ok (.if_icmp .eq 10, 3) := by decide +kernel
theorem dX3_readTest_86 : decode cX3_readTest 86 = .ok (.iload 5, 2) := by decide +kernel
theorem dX3_readTest_88 : decode cX3_readTest 88 = .ok (.bipush 7, 2) := by decide +kernel
theorem dX3_readTest_90 : decode cX3_readTest 90 = .ok (.if_icmp .lt 5, 3) := by decide +kernel
theorem dX3_readTest_93 : decode cX3_readTest 93 = .ok (.iconst 0, 1) := by decide +kernel
theorem dX3_readTest_94 : decode cX3_readTest 94 = .ok (.ireturn, 1) := by decide +kernel
theorem dX3_readTest_95 : decode cX3_readTest 95 = .ok (.aload_n 0, 1) := by decide +kernel
theorem dX3_readTest_96 : decode cX3_readTest 96 = .ok (.getfield 12, 3) := by decide +kernel
theorem dX3_readTest_99 : decode cX3_readTest 99 = .ok (.getfield 96, 3) := by decide +kernel
theorem dX3_readTest_102 : decode cX3_readTest 102 = .ok (.iload 5, 2) := by decide +kernel
theorem dX3_readTest_104 : decode cX3_readTest 104 = .ok (.iload_n 1, 1) := by decide +kernel
theorem dX3_readTest_105 : decode cX3_readTest 105 = .ok (.iastore, 1) := by decide +kernel
theorem dX3_readTest_106 : decode cX3_readTest 106 = .ok (.aload_n 0, 1) := by decide +kernel
theorem dX3_readTest_107 : decode cX3_readTest 107 = .ok (.getfield 12, 3) := by decide +kernel
theorem dX3_readTest_110 : decode cX3_readTest 110 = .ok (.getfield 99, 3) := by decide +kernel
theorem dX3_readTest_113 : decode cX3_readTest 113 = .ok (.iload 5, 2) := by decide +kernel
theorem dX3_readTest_115 : decode cX3_readTest 115 = .ok (.iload_n 2, 1) := by decide +kernel
theorem dX3_readTest_116 : decode cX3_readTest 116 = .ok (.iastore, 1) := by decide +kernel
theorem dX3_readTest_117 : decode cX3_readTest 117 = .ok (.aload_n 0, 1) := by decide +kernel
theorem dX3_readTest_118 : decode cX3_readTest 118 = .ok (.getfield 12, 3) := by decide +kernel
theorem dX3_readTest_121 : decode cX3_readTest 121 = .ok (.getfield 102, 3) := by decide +kernel
theorem dX3_readTest_124 : decode cX3_readTest 124 = .ok (.iload 5, 2) := by decide +kernel
theorem dX3_readTest_126 : decode cX3_readTest 126 = .ok (.iload_n 3, 1) := by decide +kernel
theorem dX3_readTest_127 : decode cX3_readTest 127 = .ok (.iastore, 1) := by decide +kernel
theorem dX3_readTest_128 : decode cX3_readTest 128 = .ok (.aload_n 0, 1) := by decide +kernel
theorem dX3_readTest_129 : decode cX3_readTest 129 = .ok (.getfield 12, 3) := by decide +kernel
theorem dX3_readTest_132 : decode cX3_readTest 132 = .ok (.getfield 105, 3) := by decide +kernel
theorem dX3_readTest_135 : decode cX3_readTest 135 = .ok (.iload 5, 2) := by decide +kernel
theorem dX3_readTest_137 : decode cX3_readTest 137 = .ok (.iload 4, 2) := by decide +kernel
theorem dX3_readTest_139 : decode cX3_readTest 139 = .ok (.iastore, 1) := by decide +kernel
theorem dX3_readTest_140 : decode cX3_readTest 140 = .ok (.aload_n 0, 1) := by decide +kernel
theorem dX3_readTest_141 : decode cX3_readTest 141 = .ok (.getfield 12, 3) := by decide +kernel
theorem dX3_readTest_144 : decode cX3_readTest 144 = .ok (.dup, 1) := by decide +kernel
theorem dX3_readTest_145 : decode cX3_readTest 145 = .ok (.getfield 93, 3) := by decide +kernel
theorem dX3_readTest_148 : decode cX3_readTest 148 = .ok (.iconst 1, 1) := by decide +kernel
theorem dX3_readTest_149 : decode cX3_readTest 149 = .ok (.iadd, 1) := by decide +kernel
theorem dX3_readTest_150 : decode cX3_readTest 150 = .ok (.putfield 93, 3) := by decide +kernel
theorem dX3_readTest_153 : decode cX3_readTest 153 = .ok (.iconst 1, 1) := by decide +kernel
theorem dX3_readTest_154 : decode cX3_readTest 154 = .ok (.ireturn, 1) := by decide +kernel
theorem dX3_peek_0 : decode cX3_peek 0 = .ok (.aload_n 0, 1) := by decide +kernel
theorem dX3_peek_1 : decode cX3_peek 1 = .ok (.getfield 37, 3) := by decide +kernel
theorem dX3_peek_4 : decode cX3_peek 4 = .ok (.aload_n 0, 1) := by decide +kernel
theorem dX3_peek_5 : decode cX3_peek 5 = .ok (.getfield 33, 3) := by decide +kernel
theorem dX3_peek_8 : decode cX3_peek 8 = .ok (.if_icmp .ge 15, 3) := by decide +kernel
theorem dX3_peek_11 : decode cX3_peek 11 = .ok (.aload_n 0, 1) := by decide +kernel
theorem dX3_peek_12 : decode cX3_peek 12 = .ok (.getfield 18, 3) := by decide +kernel
theorem dX3_peek_15 : decode cX3_peek 15 = .ok (.aload_n 0, 1) := by decide +kernel
theorem dX3_peek_16 : decode cX3_peek 16 = .ok (.getfield 37, 3) := by decide +kernel
theorem dX3_peek_19 : decode cX3_peek 19 = .ok (.iaload, 1) := by decide +kernel
theorem dX3_peek_20 : decode cX3_peek 20 = .ok (.goto 4, 3) := by decide +kernel
theorem dX3_peek_23 : decode cX3_peek 23 = .ok (.iconst (-1), 1) := by decide +kernel
theorem dX3_peek_24 : decode cX3_peek 24 = .ok (.ireturn, 1) := by decide +kernel
theorem dX3_pass_0 : decode cX3_pass 0 = .ok (.aload_n 0, 1) := by decide +kernel
theorem dX3_pass_1 : decode cX3_pass 1 = .ok (.invokevirtual 57, 3) := by decide +kernel
theorem dX3_pass_4 : decode cX3_pass 4 = .ok (.iload_n 1, 1) := by decide +kernel
theorem dX3_pass_5 : decode cX3_pass 5 = .ok (.if_icmp .eq 5, 3) := by decide +kernel
theorem dX3_pass_8 : decode cX3_pass 8 = .ok (.iconst 0, 1) := by decide +kernel
theorem dX3_pass_9 : decode cX3_pass 9 = .ok (.ireturn, 1) := by decide +kernel
theorem dX3_pass_10 : decode cX3_pass 10 = .ok (.aload_n 0, 1) := by decide +kernel
theorem dX3_pass_11 : decode cX3_pass 11 = .ok (.dup, 1) := by decide +kernel
theorem dX3_pass_12 : decode cX3_pass 12 = .ok (.getfield 37, 3) := by decide +kernel
theorem dX3_pass_15 : decode cX3_pass 15 = .ok (.iconst 1, 1) := by decide +kernel
theorem dX3_pass_16 : decode cX3_pass 16 = .ok (.iadd, 1) := by decide +kernel
theorem dX3_pass_17 : decode cX3_pass 17 = .ok (.putfield 37, 3) := by decide +kernel
theorem dX3_pass_20 : decode cX3_pass 20 = .ok (.iconst 1, 1) := by decide +kernel
theorem dX3_pass_21 : decode cX3_pass 21 = .ok (.ireturn, 1) := by decide +kernel
theorem dX3_pick_0 : decode cX3_pick 0 = .ok (.iconst 0, 1) := by decide +kernel
theorem dX3_pick_1 : decode cX3_pick 1 = .ok (.istore_n 2, 1) := by decide +kernel
theorem dX3_pick_2 : decode cX3_pick 2 = .ok (.iload_n 2, 1) := by decide +kernel
theorem dX3_pick_3 : decode cX3_pick 3 = .ok (.aload_n 1, 1) := by decide +kernel
theorem dX3_pick_4 : decode cX3_pick 4 = .ok (.arraylength, 1) := by decide +kernel
theorem dX3_pick_5 : decode cX3_pick 5 = .ok (.if_icmp .ge 21, 3) := by decide +kernel
theorem dX3_pick_8 : decode cX3_pick 8 = .ok (.aload_n 0, 1) := by decide +kernel
theorem dX3_pick_9 : decode cX3_pick 9 = .ok (.aload_n 1, 1) := by decide +kernel
theorem dX3_pick_10 : decode cX3_pick 10 = .ok (.iload_n 2, 1) := by decide +kernel
theorem dX3_pick_11 : decode cX3_pick 11 = .ok (.iaload, 1) := by decide +kernel
theorem dX3_pick_12 : decode cX3_pick 12 = .ok (.invokevirtual 43, 3) := by decide +kernel
theorem dX3_pick_15 : decode cX3_pick 15 = .ok (.ifCond .eq 5, 3) := by decide +kernel
theorem dX3_pick_18 : decode cX3_pick 18 = .ok (.iload_n 2, 1) := by decide +kernel
theorem dX3_pick_19 : decode cX3_pick 19 = .ok (.ireturn, 1) := by decide +kernel
theorem dX3_pick_20 : decode cX3_pick 20 = .ok (.iinc 2 1, 3) := by decide +kernel
theorem dX3_pick_23 : decode cX3_pick 23 = .ok (.goto (-21), 3) := by decide +kernel
theorem dX3_pick_26 : decode cX3_pick 26 = .ok (.iconst (-1), 1) := by decide +kernel
theorem dX3_pick_27 : decode cX3_pick 27 = .ok (.ireturn, 1) := by decide +kernel
theorem dX3_digit_0 : decode cX3_digit 0 = .ok (.aload_n 0, 1) := by decide +kernel
theorem dX3_digit_1 : decode cX3_digit 1 = .ok (.invokevirtual 57, 3) := by decide +kernel
theorem dX3_digit_4 : decode cX3_digit 4 = .ok (.bipush 48, 2) := by decide +kernel
theorem dX3_digit_6 : decode cX3_digit 6 = .ok (.isub, 1) := by decide +kernel
theorem dX3_digit_7 : decode cX3_digit 7 = .ok (.istore_n 3, 1) := by decide +kernel
theorem dX3_digit_8 : decode cX3_digit 8 = .ok (.iload_n 3, 1) := by decide +kernel
theorem dX3_digit_9 : decode cX3_digit 9 = .ok (.iload_n 1, 1) := by decide +kernel
theorem dX3_digit_10 : decode cX3_digit 10 = .ok (.iload_n 2, 1) := by decide +kernel
theorem dX3_digit_11 : decode cX3_digit 11 = .ok (.invokestatic 108, 3) := by decide +kernel
theorem dX3_digit_14 : decode cX3_digit 14 = .ok (.ifCond .ne 5, 3) := by decide +kernel
theorem dX3_digit_17 : decode cX3_digit 17 = .ok (.iconst (-1), 1) := by decide +kernel
theorem dX3_digit_18 : decode cX3_digit 18 = .ok (.ireturn, 1) := by decide +kernel
theorem dX3_digit_19 : decode cX3_digit 19 = .ok (.aload_n 0, 1) := by decide +kernel
theorem dX3_digit_20 : decode cX3_digit 20 = .ok (.dup, 1) := by decide +kernel
theorem dX3_digit_21 : decode cX3_digit 21 = .ok (.getfield 37, 3) := by decide +kernel
theorem dX3_digit_24 : decode cX3_digit 24 = .ok (.iconst 1, 1) := by decide +kernel
theorem dX3_digit_25 : decode cX3_digit 25 = .ok (.iadd, 1) := by decide +kernel
theorem dX3_digit_26 : decode cX3_digit 26 = .ok (.putfield 37, 3) := by decide +kernel
theorem dX3_digit_29 : decode cX3_digit 29 = .ok (.iload_n 3, 1) := by decide +kernel
theorem dX3_digit_30 : decode cX3_digit 30 = .ok (.ireturn, 1) := by decide +kernel
theorem dX3_source_0 : decode cX3_source 0 = .ok (.aload_n 0, 1) := by decide +kernel
theorem dX3_source_1 : decode cX3_source 1 = .ok (.bipush 120, 2) := by decide +kernel
theorem dX3_source_3 : decode cX3_source 3 = .ok (.invokevirtual 43, 3) := by decide +kernel
theorem dX3_source_6 : decode cX3_source 6 = .ok (.ifCond .eq 5, 3) := by decide +kernel
theorem dX3_source_9 : decode cX3_source 9 = .ok (.iconst 5, 1) := by decide +kernel
theorem dX3_source_10 : decode cX3_source 10 = .ok (.ireturn, 1) := by decide +kernel
theorem dX3_source_11 : decode cX3_source 11 = .ok (.aload_n 0, 1) := by decide +kernel
theorem dX3_source_12 : decode cX3_source 12 = .ok (.bipush 121, 2) := by decide +kernel
theorem dX3_source_14 : decode cX3_source 14 = .ok (.invokevirtual 43, 3) := by decide +kernel
theorem dX3_source_17 : decode cX3_source 17 = .ok (.ifCond .eq 6, 3) := by decide +kernel
theorem dX3_source_20 : decode cX3_source 20 = .ok (.bipush 6, 2) := by decide +kernel
theorem dX3_source_22 : decode cX3_source 22 = .ok (.ireturn, 1) := by decide +kernel
theorem dX3_source_23 : decode cX3_source 23 = .ok (.aload_n 0, 1) := by decide +kernel
theorem dX3_source_24 : decode cX3_source 24 = .ok (.iconst 0, 1) := by decide +kernel
theorem dX3_source_25 : decode cX3_source 25 = .ok (.aload_n 0, 1) := by decide +kernel
theorem dX3_source_26 : decode cX3_source 26 = .ok (.getfield 12, 3) := by decide +kernel
theorem dX3_source_29 : decode cX3_source 29 = .ok (.getfield 71, 3) := by decide +kernel
theorem dX3_source_32 : decode cX3_source 32 = .ok (.iconst 1, 1) := by decide +kernel
theorem dX3_source_33 : decode cX3_source 33 = .ok (.isub, 1) := by decide +kernel
theorem dX3_source_34 : decode cX3_source 34 = .ok (.invokevirtual 89, 3) := by decide +kernel
theorem dX3_source_37 : decode cX3_source 37 = .ok (.ireturn, 1) := by decide +kernel
theorem dX4_init_0 : decode cX4_init 0 = .ok (.aload_n 0, 1) := by decide +kernel
theorem dX4_init_1 : decode cX4_init 1 = .ok (.invokespecial 3, 3) := by decide +kernel
theorem dX4_init_4 : decode cX4_init 4 = .ok (.aload_n 0, 1) := by decide +kernel
theorem dX4_init_5 : decode cX4_init 5 = .ok (.iconst 4, 1) := by decide +kernel
theorem dX4_init_6 : decode cX4_init 6 = .ok (.anewarray 11, 3) := by decide +kernel
theorem dX4_init_9 : decode cX4_init 9 = .ok (.putfield 13, 3) := by decide +kernel
theorem dX4_init_12 : decode cX4_init 12 = .ok (.iconst 0, 1) := by decide +kernel
theorem dX4_init_13 : decode cX4_init 13 = .ok (.istore_n 1, 1) := by decide +kernel
theorem dX4_init_14 : decode cX4_init 14 = .ok (.iload_n 1, 1) := by decide +kernel
theorem dX4_init_15 : decode cX4_init 15 = .ok (.iconst 4, 1) := by decide +kernel
theorem dX4_init_16 : decode cX4_init 16 = .ok (.if_icmp .ge 22, 3) := by decide +kernel
theorem dX4_init_19 : decode cX4_init 19 = .ok (.aload_n 0, 1) := by decide +kernel
theorem dX4_init_20 : decode cX4_init 20 = .ok (.getfield 13, 3) := by decide +kernel
theorem dX4_init_23 : decode cX4_init 23 = .ok (.iload_n 1, 1) := by decide +kernel
theorem dX4_init_24 : decode cX4_init 24 = .ok (.new 11, 3) := by decide +kernel
theorem dX4_init_27 : decode cX4_init 27 = .ok (.dup, 1) := by decide +kernel
theorem dX4_init_28 : decode cX4_init 28 = .ok (.invokespecial 17, 3) := by decide +kernel
theorem dX4_init_31 : decode cX4_init 31 = .ok (.aastore, 1) := by decide +kernel
theorem dX4_init_32 : decode cX4_init 32 = .ok (.iinc 1 1, 3) := by decide +kernel
theorem dX4_init_35 : decode cX4_init 35 = .ok (.goto (-21), 3) := by decide +kernel
theorem dX4_init_38 : decode cX4_init 38 = .ok (.aload_n 0, 1) := by decide +kernel
theorem dX4_init_39 : decode cX4_init 39 = .ok (.new 18, 3) := by decide +kernel
theorem dX4_init_42 : decode cX4_init 42 = .ok (.dup, 1) := by decide +kernel
theorem dX4_init_43 : decode cX4_init 43 = .ok (.invokespecial 20, 3) := by decide +kernel
theorem dX4_init_46 : decode cX4_init 46 = .ok (.putfield 21, 3) := by decide +kernel
theorem dX4_init_49 : decode cX4_init 49 = .ok (.aload_n 0, 1) := by decide +kernel
theorem dX4_init_50 : decode cX4_init 50 = .ok (.new 18, 3) := by decide +kernel
theorem dX4_init_53 : decode cX4_init 53 = .ok (.dup, 1) := by decide +kernel
theorem dX4_init_54 : decode cX4_init 54 = .ok (.invokespecial 20, 3) := by decide +kernel
theorem dX4_init_57 : decode cX4_init 57 = .ok (.putfield 25, 3) := by decide +kernel
theorem dX4_init_60 : decode cX4_init 60 = .ok (.aload_n 0, 1) := by decide +kernel
theorem dX4_init_61 : decode cX4_init 61 = .ok (.new 28, 3) := by decide +kernel
theorem dX4_init_64 : decode cX4_init 64 = .ok (.dup, 1) := by decide +kernel
theorem dX4_init_65 : decode cX4_init 65 = .ok (.invokespecial 30, 3) := by decide +kernel
theorem dX4_init_68 : decode cX4_init 68 = .ok (.putfield 31, 3) := by decide +kernel
theorem dX4_init_71 : decode cX4_init 71 = .ok (.aload_n 0, 1) := by decide +kernel
theorem dX4_init_72 : decode cX4_init 72 = .ok (.new 35, 3) := by decide +kernel
theorem dX4_init_75 : decode cX4_init 75 = .ok (.dup, 1) := by decide +kernel
theorem dX4_init_76 : decode cX4_init 76 = .ok (.invokespecial 37, 3) := by decide +kernel
theorem dX4_init_79 : decode cX4_init 79 = .ok (.putfield 38, 3) := by decide +kernel
theorem dX4_init_82 : decode cX4_init 82 = .ok (.aload_n 0, 1) := by decide +kernel
theorem dX4_init_83 : decode cX4_init 83 = .ok (.bipush 8, 2) := by decide +kernel
theorem dX4_init_85 : decode cX4_init 85 = .ok (.newarray .int, 2) := by decide +kernel
theorem dX4_init_87 : decode cX4_init 87 = .ok (.putfield 42, 3) := by decide +kernel
theorem dX4_init_90 : decode cX4_init 90 = .ok (.return_, 1) := by decide +kernel
theorem dX4_program_0 : decode cX4_program 0 = .ok (.aload_n 0, 1) := by decide +kernel
theorem dX4_program_1 : decode cX4_program 1 = .ok (.iconst 0, 1) := by decide +kernel
theorem dX4_program_2 : decode cX4_program 2 = .ok (.putfield 46, 3) := by decide +kernel
theorem dX4_program_5 : decode cX4_program 5 = .ok (.iload_n 1, 1) := by decide +kernel
theorem dX4_program_6 : decode cX4_program 6 = .ok (.invokestatic 50, 3) := by decide +kernel
theorem dX4_program_9 : decode cX4_program 9 = .ok (.ifCond .ne 5, 3) := by decide +kernel
theorem dX4_program_12 : decode cX4_program 12 = .ok (.iconst (-1), 1) := by decide +kernel
theorem dX4_program_13 : decode cX4_program 13 = .ok (.ireturn, 1) := by decide +kernel
theorem dX4_program_14 : decode cX4_program 14 = .ok (.iload_n 2, 1) := by decide +kernel
theorem dX4_program_15 : decode cX4_program 15 = .ok (.iconst 0, 1) := by decide +kernel
theorem dX4_program_16 : decode cX4_program 16 = .ok (.iconst 2, 1) := by decide +kernel
theorem dX4_program_17 : decode cX4_program 17 = .ok (.invokestatic 54, 3) := by decide +kernel
theorem dX4_program_20 : decode cX4_program 20 = .ok (.ifCond .ne 6, 3) := by decide +kernel
theorem dX4_program_23 : decode cX4_program 23 = .ok (.bipush (-2), 2) := by decide +kernel
theorem dX4_program_25 : decode cX4_program 25 = .ok (.ireturn, 1) := by decide +kernel
theorem dX4_program_26 : decode cX4_program 26 = .ok (.aload_n 0, 1) := by decide +kernel
theorem dX4_program_27 : decode cX4_program 27 = .ok (.getfield 13, 3) := by decide +kernel
theorem dX4_program_30 : decode cX4_program 30 = .ok (.iload_n 1, 1) := by decide +kernel
theorem dX4_program_31 : decode cX4_program 31 = .ok (.aaload, 1) := by decide +kernel
theorem dX4_program_32 : decode cX4_program 32 = .ok (.astore 5, 2) := by decide +kernel
theorem dX4_program_34 : decode cX4_program 34 = .ok (.aload 5, 2) := by decide +kernel
theorem dX4_program_36 : decode cX4_program 36 = .ok (.iload_n 2, 1) := by decide +kernel
theorem dX4_program_37 : decode cX4_program 37 = .ok (.invokevirtual 58, 3) := by decide +kernel
theorem dX4_program_40 : decode cX4_program 40 = .ok (.istore 6, 2) := by decide +kernel
theorem dX4_program_42 : decode cX4_program 42 = .ok (.iload 6, 2) := by decide +kernel
theorem dX4_program_44 : decode cX4_program 44 = .ok (.ifCond .ne 11, 3) := by decide +kernel
theorem dX4_program_47 : decode cX4_program 47 = .ok (.iload 4, 2) := by decide +kernel
theorem dX4_program_49 : decode cX4_program 49 = .ok (.ifCond .ge 6, 3) := by decide +kernel
theorem dX4_program_52 : decode cX4_program 52 = .ok (.iconst 4, 1) := by decide +kernel
theorem dX4_program_53 : decode cX4_program 53 = .ok (.istore 6, 2) := by decide +kernel
theorem dX4_program_55 : decode cX4_program 55 = .ok (.iload 6, 2) := by decide +kernel
theorem dX4_program_57 : decode cX4_program 57 = .ok (.ifCond .ne 17, 3) := by decide +kernel
theorem dX4_program_60 : decode cX4_program 60 = .ok (.aload 5, 2) := by decide +kernel
theorem dX4_program_62 : decode cX4_program 62 = .ok (.iload_n 3, 1) := by decide +kernel
theorem dX4_program_63 : decode cX4_program 63 = .ok (.iload 4, 2) := by decide +kernel
theorem dX4_program_65 : decode cX4_program 65 = .ok (.invokevirtual 62, 3) := by decide +kernel
theorem dX4_program_68 : decode cX4_program 68 = .ok (.ifCond .ne 6, 3) := by decide +kernel
theorem dX4_program_71 : decode cX4_program 71 = .ok (.iconst 3, 1) := by decide +kernel
theorem dX4_program_72 : decode cX4_program 72 = .ok (.istore 6, 2) := by decide +kernel
theorem dX4_program_74 : decode cX4_program 74 = .ok (.iload 6, 2) := by decide +kernel
theorem dX4_program_76 : decode cX4_program 76 = .ok (.ifCond .eq 10, 3) := by decide +kernel
theorem dX4_program_79 : decode cX4_program 79 = .ok (.aload_n 0, 1) := by decide +kernel
theorem dX4_program_80 : decode cX4_program 80 = .ok (.iload 6, 2) := by decide +kernel
theorem dX4_program_82 : decode cX4_program 82 = .ok (.invokevirtual 66, 3) := by decide +kernel
theorem dX4_program_85 : decode cX4_program 85 = .ok (.ireturn, 1) := by decide +kernel
theorem dX4_program_86 : decode cX4_program 86 = .ok (.aload_n 0, 1) := by decide +kernel
theorem dX4_program_87 : decode cX4_program 87 = .ok (.getfield 31, 3) := by decide +kernel
theorem dX4_program_90 : decode cX4_program 90 = .ok (.aload 5, 2) := by decide +kernel
theorem dX4_program_92 : decode cX4_program 92 = .ok (.iload_n 3, 1) := by decide +kernel
theorem dX4_program_93 : decode cX4_program 93 = .ok (.iload 4, 2) := by decide +kernel
theorem dX4_program_95 : decode cX4_program 95 = .ok (.invokevirtual 69, 3) := by decide +kernel
theorem dX4_program_98 : decode cX4_program 98 = .ok (.ifCond .ne 14, 3) := by decide +kernel
theorem dX4_program_101 : decode cX4_program 101 = .ok (.bipush (-100), 2) := by decide +kernel
theorem dX4_program_103 : decode cX4_program 103 = .ok (.aload_n 0, 1) := by decide +kernel
theorem dX4_program_104 : decode cX4_program 104 = .ok (.getfield 31, 3) := by decide +kernel
theorem dX4_program_107 : decode cX4_program 107 = .ok (.getfield 73, 3) := by decide +kernel
theorem dX4_program_110 : decode cX4_program 110 = .ok (.isub, 1) := by decide +kernel
theorem dX4_program_111 : decode cX4_program 111 = .ok (.ireturn, 1) := by decide +kernel
theorem dX4_program_112 : decode cX4_program 112 = .ok (.aload_n 0, 1) := by decide +kernel
theorem dX4_program_113 : decode cX4_program 113 = .ok (.getfield 21, 3) := by decide +kernel
theorem dX4_program_116 : decode cX4_program 116 = .ok (.aload_n 0, 1) := by decide +kernel
theorem dX4_program_117 : decode cX4_program 117 = .ok (.getfield 31, 3) := by decide +kernel
theorem dX4_program_120 : decode cX4_program 120 = .ok (.getfield 76, 3) := by decide +kernel
theorem dX4_program_123 : decode cX4_program 123 = .ok (.invokevirtual 79, 3) := by decide +kernel
theorem dX4_program_126 : decode cX4_program 126 = .ok (.aload_n 0, 1) := by decide +kernel
theorem dX4_program_127 : decode cX4_program 127 = .ok (.iconst 0, 1) := by decide +kernel
theorem dX4_program_128 : decode cX4_program 128 = .ok (.putfield 83, 3) := by decide +kernel
theorem dX4_program_131 : decode cX4_program 131 = .ok (.aload_n 0, 1) := by decide +kernel
theorem dX4_program_132 : decode cX4_program 132 = .ok (.getfield 21, 3) := by decide +kernel
theorem dX4_program_135 : decode cX4_program 135 = .ok (.invokevirtual 86, 3) := by decide +kernel
theorem dX4_program_138 : decode cX4_program 138 = .ok (.ireturn, 1) := by decide +kernel
theorem dX4_ofStep_0 : decode cX4_ofStep 0 = .ok (.aload_n 0, 1) := by decide +kernel
theorem dX4_ofStep_1 : decode cX4_ofStep 1 = .ok (.getfield 21, 3) := by decide +kernel
theorem dX4_ofStep_4 : decode cX4_ofStep 4 = .ok (.iload_n 1, 1) := by decide +kernel
theorem dX4_ofStep_5 : decode cX4_ofStep 5 = .ok (.invokevirtual 90, 3) := by decide +kernel
theorem dX4_ofStep_8 : decode cX4_ofStep 8 = .ok (.ifCond .ne 5, 3) := by decide +kernel
theorem dX4_ofStep_11 : decode cX4_ofStep 11 = .ok (.iconst (-1), 1) := by decide +kernel
theorem dX4_ofStep_12 : decode cX4_ofStep 12 = .ok (.ireturn, 1) := by decide +kernel
theorem dX4_ofStep_13 : decode cX4_ofStep 13 = .ok (.iload_n 2, 1) := by decide +kernel
theorem dX4_ofStep_14 : decode cX4_ofStep 14 = .ok (.tableswitch 56 0 2 #[26, 36, 46], 26) := by decide +kernel
theorem dX4_ofStep_40 : decode cX4_ofStep 40 = .ok (.aload_n 0, 1) := by decide +kernel
theorem dX4_ofStep_41 : decode cX4_ofStep 41 = .ok (.getfield 21, 3) := by decide +kernel
theorem dX4_ofStep_44 : decode cX4_ofStep 44 = .ok (.getfield 93, 3) := by decide +kernel
theorem dX4_ofStep_47 : decode cX4_ofStep 47 = .ok (.iload_n 1, 1) := by decide +kernel
theorem dX4_ofStep_48 : decode cX4_ofStep 48 = .ok (.iaload, 1) := by decide +kernel
theorem dX4_ofStep_49 : decode cX4_ofStep 49 = .ok (.ireturn, 1) := by decide +kernel
theorem dX4_ofStep_50 : decode cX4_ofStep 50 = .ok (.aload_n 0, 1) := by decide +kernel
theorem dX4_ofStep_51 : decode cX4_ofStep 51 = .ok (.getfield 21, 3) := by decide +kernel
theorem dX4_ofStep_54 : decode cX4_ofStep 54 = .ok (.getfield 96, 3) := by decide +kernel
theorem dX4_ofStep_57 : decode cX4_ofStep 57 = .ok (.iload_n 1, 1) := by decide +kernel
theorem dX4_ofStep_58 : decode cX4_ofStep 58 = .ok (.iaload, 1) := by decide +kernel
theorem dX4_ofStep_59 : decode cX4_ofStep 59 = .ok (.ireturn, 1) := by decide +kernel
theorem dX4_ofStep_60 : decode cX4_ofStep 60 = .ok (.aload_n 0, 1) := by decide +kernel
theorem dX4_ofStep_61 : decode cX4_ofStep 61 = .ok (.getfield 21, 3) := by decide +kernel
theorem dX4_ofStep_64 : decode cX4_ofStep 64 = .ok (.getfield 99, 3) := by decide +kernel
theorem dX4_ofStep_67 : decode cX4_ofStep 67 = .ok (.iload_n 1, 1) := by decide +kernel
theorem dX4_ofStep_68 : decode cX4_ofStep 68 = .ok (.iaload, 1) := by decide +kernel
theorem dX4_ofStep_69 : decode cX4_ofStep 69 = .ok (.ireturn, 1) := by decide +kernel
theorem dX4_ofStep_70 : decode cX4_ofStep 70 = .ok (.bipush (-2), 2) := by decide +kernel
theorem dX4_ofStep_72 : decode cX4_ofStep 72 = .ok (.ireturn, 1) := by decide +kernel
theorem dX4_ofTest_0 : decode cX4_ofTest 0 = .ok (.aload_n 0, 1) := by decide +kernel
theorem dX4_ofTest_1 : decode cX4_ofTest 1 = .ok (.getfield 21, 3) := by decide +kernel
theorem dX4_ofTest_4 : decode cX4_ofTest 4 = .ok (.iload_n 1, 1) := by decide +kernel
theorem dX4_ofTest_5 : decode cX4_ofTest 5 = .ok (.invokevirtual 102, 3) := by decide +kernel
theorem dX4_ofTest_8 : decode cX4_ofTest 8 = .ok (.ifCond .ne 5, 3) := by decide +kernel
theorem dX4_ofTest_11 : decode cX4_ofTest 11 = .ok (.iconst (-1), 1) := by decide +kernel
theorem dX4_ofTest_12 : decode cX4_ofTest 12 = .ok (.ireturn, 1) := by decide +kernel
theorem dX4_ofTest_13 : decode cX4_ofTest 13 = .ok (.iload_n 2, 1) := by decide +kernel
theorem dX4_ofTest_14 : decode cX4_ofTest 14 = .ok (.tableswitch 109 0 6 #[42, 52, 62, 71, 81, 91, 100], 42) := by decide +kernel
theorem dX4_ofTest_56 : decode cX4_ofTest 56 = .ok (.aload_n 0, 1) := by decide +kernel
theorem dX4_ofTest_57 : decode cX4_ofTest 57 = .ok (.getfield 21, 3) := by decide +kernel
theorem dX4_ofTest_60 : decode cX4_ofTest 60 = .ok (.getfield 105, 3) := by decide +kernel
theorem dX4_ofTest_63 : decode cX4_ofTest 63 = .ok (.iload_n 1, 1) := by decide +kernel
theorem dX4_ofTest_64 : decode cX4_ofTest 64 = .ok (.iaload, 1) := by decide +kernel
theorem dX4_ofTest_65 : decode cX4_ofTest 65 = .ok (.ireturn, 1) := by decide +kernel
theorem dX4_ofTest_66 : decode cX4_ofTest 66 = .ok (.aload_n 0, 1) := by decide +kernel
theorem dX4_ofTest_67 : decode cX4_ofTest 67 = .ok (.getfield 21, 3) := by decide +kernel
theorem dX4_ofTest_70 : decode cX4_ofTest 70 = .ok (.getfield 108, 3) := by decide +kernel
theorem dX4_ofTest_73 : decode cX4_ofTest 73 = .ok (.iload_n 1, 1) := by decide +kernel
theorem dX4_ofTest_74 : decode cX4_ofTest 74 = .ok (.iaload, 1) := by decide +kernel
theorem dX4_ofTest_75 : decode cX4_ofTest 75 = .ok (.ireturn, 1) := by decide +kernel
theorem dX4_ofTest_76 : decode cX4_ofTest 76 = .ok (.aload_n 0, 1) := by decide +kernel
theorem dX4_ofTest_77 : decode cX4_ofTest 77 = .ok (.getfield 21, 3) := by decide +kernel
theorem dX4_ofTest_80 : decode cX4_ofTest 80 = .ok (.iload_n 1, 1) := by decide +kernel
theorem dX4_ofTest_81 : decode cX4_ofTest 81 = .ok (.invokevirtual 111, 3) := by decide +kernel
theorem dX4_ofTest_84 : decode cX4_ofTest 84 = .ok (.ireturn, 1) := by decide +kernel
theorem dX4_ofTest_85 : decode cX4_ofTest 85 = .ok (.aload_n 0, 1) := by decide +kernel
theorem dX4_ofTest_86 : decode cX4_ofTest 86 = .ok (.getfield 21, 3) := by decide +kernel
theorem dX4_ofTest_89 : decode cX4_ofTest 89 = .ok (.getfield 114, 3) := by decide +kernel
theorem dX4_ofTest_92 : decode cX4_ofTest 92 = .ok (.iload_n 1, 1) := by decide +kernel
theorem dX4_ofTest_93 : decode cX4_ofTest 93 = .ok (.iaload, 1) := by decide +kernel
theorem dX4_ofTest_94 : decode cX4_ofTest 94 = .ok (.ireturn, 1) := by decide +kernel
theorem dX4_ofTest_95 : decode cX4_ofTest 95 = .ok (.aload_n 0, 1) := by decide +kernel
theorem dX4_ofTest_96 : decode cX4_ofTest 96 = .ok (.getfield 21, 3) := by decide +kernel
theorem dX4_ofTest_99 : decode cX4_ofTest 99 = .ok (.getfield 117, 3) := by decide +kernel
theorem dX4_ofTest_102 : decode cX4_ofTest 102 = .ok (.iload_n 1, 1) := by decide +kernel
theorem dX4_ofTest_103 : decode cX4_ofTest 103 = .ok (.iaload, 1) := by decide +kernel
theorem dX4_ofTest_104 : decode cX4_ofTest 104 = .ok (.ireturn, 1) := by decide +kernel
theorem dX4_ofTest_105 : decode cX4_ofTest 105 = .ok (.aload_n 0, 1) := by decide +kernel
theorem dX4_ofTest_106 : decode cX4_ofTest 106 = .ok (.getfield 21, 3) := by decide +kernel
theorem dX4_ofTest_109 : decode cX4_ofTest 109 = .ok (.iload_n 1, 1) := by decide +kernel
theorem dX4_ofTest_110 : decode cX4_ofTest 110 = .ok (.invokevirtual 120, 3) := by decide +kernel
theorem dX4_ofTest_113 : decode cX4_ofTest 113 = .ok (.ireturn, 1) := by decide +kernel
theorem dX4_ofTest_114 : decode cX4_ofTest 114 = .ok (.aload_n 0, 1) := by decide +kernel
theorem dX4_ofTest_115 : decode cX4_ofTest 115 = .ok (.getfield 21, 3) := by decide +kernel
theorem dX4_ofTest_118 : decode cX4_ofTest 118 = .ok (.iload_n 1, 1) := by decide +kernel
theorem dX4_ofTest_119 : decode cX4_ofTest 119 = .ok (.invokevirtual 123, 3) := by decide +kernel
theorem dX4_ofTest_122 : decode cX4_ofTest 122 = .ok (.ireturn, 1) := by decide +kernel
theorem dX4_ofTest_123 : decode cX4_ofTest 123 = .ok (.bipush (-2), 2) := by decide +kernel
theorem dX4_ofTest_125 : decode cX4_ofTest 125 = .ok (.ireturn, 1) := by decide +kernel
theorem dX4_output_0 : decode cX4_output 0 = .ok (.iload_n 1, 1) := by decide +kernel
theorem dX4_output_1 : decode cX4_output 1 = .ok (.invokestatic 126, 3) := by decide +kernel
theorem dX4_output_4 : decode cX4_output 4 = .ok (.ifCond .eq 10, 3) := by decide +kernel
theorem dX4_output_7 : decode cX4_output 7 = .ok (.iload_n 2, 1) := by decide +kernel
theorem dX4_output_8 : decode cX4_output 8 = .ok (.invokestatic 126, 3) := by decide +kernel
theorem dX4_output_11 : decode cX4_output 11 = .ok (.ifCond .ne 6, 3) := by decide +kernel
theorem dX4_output_14 : decode cX4_output 14 = .ok (.bipush (-2), 2) := by decide +kernel
theorem dX4_output_16 : decode cX4_output 16 = .ok (.ireturn, 1) := by decide +kernel
theorem dX4_output_17 : decode cX4_output 17 = .ok (.aload_n 0, 1) := by decide +kernel
theorem dX4_output_18 : decode cX4_output 18 = .ok (.getfield 21, 3) := by decide +kernel
theorem dX4_output_21 : decode cX4_output 21 = .ok (.invokevirtual 129, 3) := by decide +kernel
theorem dX4_output_24 : decode cX4_output 24 = .ok (.ifCond .eq 6, 3) := by decide +kernel
theorem dX4_output_27 : decode cX4_output 27 = .ok (.bipush (-3), 2) := by decide +kernel
theorem dX4_output_29 : decode cX4_output 29 = .ok (.ireturn, 1) := by decide +kernel
theorem dX4_output_30 : decode cX4_output 30 = .ok (.aload_n 0, 1) := by decide +kernel
theorem dX4_output_31 : decode cX4_output 31 = .ok (.getfield 21, 3) := by decide +kernel
theorem dX4_output_34 : decode cX4_output 34 = .ok (.iload_n 1, 1) := by decide +kernel
theorem dX4_output_35 : decode cX4_output 35 = .ok (.iload_n 2, 1) := by decide +kernel
theorem dX4_output_36 : decode cX4_output 36 = .ok (.invokevirtual 133, 3) := by decide +kernel
theorem dX4_output_39 : decode cX4_output 39 = .ok (.ireturn, 1) := by decide +kernel
theorem dX4_way_0 : decode cX4_way 0 = .ok (.aload_n 0, 1) := by decide +kernel
theorem dX4_way_1 : decode cX4_way 1 = .ok (.getfield 21, 3) := by decide +kernel
theorem dX4_way_4 : decode cX4_way 4 = .ok (.iload_n 1, 1) := by decide +kernel
theorem dX4_way_5 : decode cX4_way 5 = .ok (.invokevirtual 90, 3) := by decide +kernel
theorem dX4_way_8 : decode cX4_way 8 = .ok (.ifCond .ne 5, 3) := by decide +kernel
theorem dX4_way_11 : decode cX4_way 11 = .ok (.iconst (-1), 1) := by decide +kernel
theorem dX4_way_12 : decode cX4_way 12 = .ok (.ireturn, 1) := by decide +kernel
theorem dX4_way_13 : decode cX4_way 13 = .ok (.iload_n 2, 1) := by decide +kernel
theorem dX4_way_14 : decode cX4_way 14 = .ok (.iconst 0, 1) := by decide +kernel
theorem dX4_way_15 : decode cX4_way 15 = .ok (.iconst 4, 1) := by decide +kernel
theorem dX4_way_16 : decode cX4_way 16 = .ok (.invokestatic 54, 3) := by decide +kernel
theorem dX4_way_19 : decode cX4_way 19 = .ok (.ifCond .ne 6, 3) := by decide +kernel
theorem dX4_way_22 : decode cX4_way 22 = .ok (.bipush (-2), 2) := by decide +kernel
theorem dX4_way_24 : decode cX4_way 24 = .ok (.ireturn, 1) := by decide +kernel
theorem dX4_way_25 : decode cX4_way 25 = .ok (.aload_n 0, 1) := by decide +kernel
theorem dX4_way_26 : decode cX4_way 26 = .ok (.getfield 21, 3) := by decide +kernel
theorem dX4_way_29 : decode cX4_way 29 = .ok (.getfield 93, 3) := by decide +kernel
theorem dX4_way_32 : decode cX4_way 32 = .ok (.iload_n 1, 1) := by decide +kernel
theorem dX4_way_33 : decode cX4_way 33 = .ok (.iaload, 1) := by decide +kernel
theorem dX4_way_34 : decode cX4_way 34 = .ok (.istore_n 3, 1) := by decide +kernel
theorem dX4_way_35 : decode cX4_way 35 = .ok (.aload_n 0, 1) := by decide +kernel
theorem dX4_way_36 : decode cX4_way 36 = .ok (.getfield 21, 3) := by decide +kernel
theorem dX4_way_39 : decode cX4_way 39 = .ok (.getfield 93, 3) := by decide +kernel
theorem dX4_way_42 : decode cX4_way 42 = .ok (.iload_n 1, 1) := by decide +kernel
theorem dX4_way_43 : decode cX4_way 43 = .ok (.iload_n 2, 1) := by decide +kernel
theorem dX4_way_44 : decode cX4_way 44 = .ok (.iastore, 1) := by decide +kernel
theorem dX4_way_45 : decode cX4_way 45 = .ok (.iload_n 3, 1) := by decide +kernel
theorem dX4_way_46 : decode cX4_way 46 = .ok (.ireturn, 1) := by decide +kernel
theorem dX4_time_0 : decode cX4_time 0 = .ok (.aload_n 0, 1) := by decide +kernel
theorem dX4_time_1 : decode cX4_time 1 = .ok (.getfield 21, 3) := by decide +kernel
theorem dX4_time_4 : decode cX4_time 4 = .ok (.iload_n 1, 1) := by decide +kernel
theorem dX4_time_5 : decode cX4_time 5 = .ok (.invokevirtual 102, 3) := by decide +kernel
theorem dX4_time_8 : decode cX4_time 8 = .ok (.ifCond .ne 5, 3) := by decide +kernel
theorem dX4_time_11 : decode cX4_time 11 = .ok (.iconst (-1), 1) := by decide +kernel
theorem dX4_time_12 : decode cX4_time 12 = .ok (.ireturn, 1) := by decide +kernel
theorem dX4_time_13 : decode cX4_time 13 = .ok (.iload_n 2, 1) := by decide +kernel
theorem dX4_time_14 : decode cX4_time 14 = .ok (.invokestatic 137, 3) := by decide +kernel
theorem dX4_time_17 : decode cX4_time 17 = .ok (.ifCond .ne 6, 3) := by decide +kernel
theorem dX4_time_20 : decode cX4_time 20 = .ok (.bipush (-2), 2) := by decide +kernel
theorem dX4_time_22 : decode cX4_time 22 = .ok (.ireturn, 1) := by decide +kernel
theorem dX4_time_23 : decode cX4_time 23 = .ok (.aload_n 0, 1) := by decide +kernel
theorem dX4_time_24 : decode cX4_time 24 = .ok (.getfield 21, 3) := by decide +kernel
theorem dX4_time_27 : decode cX4_time 27 = .ok (.getfield 108, 3) := by decide +kernel
theorem dX4_time_30 : decode cX4_time 30 = .ok (.iload_n 1, 1) := by decide +kernel
theorem dX4_time_31 : decode cX4_time 31 = .ok (.iaload, 1) := by decide +kernel
theorem dX4_time_32 : decode cX4_time 32 = .ok (.istore_n 3, 1) := by decide +kernel
theorem dX4_time_33 : decode cX4_time 33 = .ok (.aload_n 0, 1) := by decide +kernel
theorem dX4_time_34 : decode cX4_time 34 = .ok (.getfield 21, 3) := by decide +kernel
theorem dX4_time_37 : decode cX4_time 37 = .ok (.getfield 108, 3) := by decide +kernel
theorem dX4_time_40 : decode cX4_time 40 = .ok (.iload_n 1, 1) := by decide +kernel
theorem dX4_time_41 : decode cX4_time 41 = .ok (.iload_n 2, 1) := by decide +kernel
theorem dX4_time_42 : decode cX4_time 42 = .ok (.iastore, 1) := by decide +kernel
theorem dX4_time_43 : decode cX4_time 43 = .ok (.iload_n 3, 1) := by decide +kernel
theorem dX4_time_44 : decode cX4_time 44 = .ok (.ireturn, 1) := by decide +kernel
theorem dX4_aim_0 : decode cX4_aim 0 = .ok (.aload_n 0, 1) := by decide +kernel
theorem dX4_aim_1 : decode cX4_aim 1 = .ok (.getfield 21, 3) := by decide +kernel
theorem dX4_aim_4 : decode cX4_aim 4 = .ok (.iload_n 1, 1) := by decide +kernel
theorem dX4_aim_5 : decode cX4_aim 5 = .ok (.invokevirtual 102, 3) := by decide +kernel
theorem dX4_aim_8 : decode cX4_aim 8 = .ok (.ifCond .ne 5, 3) := by decide +kernel
theorem dX4_aim_11 : decode cX4_aim 11 = .ok (.iconst (-1), 1) := by decide +kernel
theorem dX4_aim_12 : decode cX4_aim 12 = .ok (.ireturn, 1) := by decide +kernel
theorem dX4_aim_13 : decode cX4_aim 13 = .ok (.iload_n 2, 1) := by decide +kernel
theorem dX4_aim_14 : decode cX4_aim 14 = .ok (.invokestatic 126, 3) := by decide +kernel
theorem dX4_aim_17 : decode cX4_aim 17 = .ok (.ifCond .eq 10, 3) := by decide +kernel
theorem dX4_aim_20 : decode cX4_aim 20 = .ok (.iload_n 3, 1) := by decide +kernel
theorem dX4_aim_21 : decode cX4_aim 21 = .ok (.invokestatic 126, 3) := by decide +kernel
theorem dX4_aim_24 : decode cX4_aim 24 = .ok (.ifCond .ne 6, 3) := by decide +kernel
theorem dX4_aim_27 : decode cX4_aim 27 = .ok (.bipush (-2), 2) := by decide +kernel
theorem dX4_aim_29 : decode cX4_aim 29 = .ok (.ireturn, 1) := by decide +kernel
theorem dX4_aim_30 : decode cX4_aim 30 = .ok (.bipush 10, 2) := by decide +kernel
theorem dX4_aim_32 : decode cX4_aim 32 = .ok (.aload_n 0, 1) := by decide +kernel
theorem dX4_aim_33 : decode cX4_aim 33 = .ok (.getfield 21, 3) := by decide +kernel
theorem dX4_aim_36 : decode cX4_aim 36 = .ok (.getfield 114, 3) := by decide +kernel
theorem dX4_aim_39 : decode cX4_aim 39 = .ok (.iload_n 1, 1) := by decide +kernel
theorem dX4_aim_40 : decode cX4_aim 40 = .ok (.iaload, 1) := by decide +kernel
theorem dX4_aim_41 : decode cX4_aim 41 = .ok (.imul, 1) := by decide +kernel
theorem dX4_aim_42 : decode cX4_aim 42 = .ok (.aload_n 0, 1) := by decide +kernel
theorem dX4_aim_43 : decode cX4_aim 43 = .ok (.getfield 21, 3) := by decide +kernel
theorem dX4_aim_46 : decode cX4_aim 46 = .ok (.getfield 117, 3) := by decide +kernel
theorem dX4_aim_49 : decode cX4_aim 49 = .ok (.iload_n 1, 1) := by decide +kernel
theorem dX4_aim_50 : decode cX4_aim 50 = .ok (.iaload, 1) := by decide +kernel
theorem dX4_aim_51 : decode cX4_aim 51 = .ok (.iadd, 1) := by decide +kernel
theorem dX4_aim_52 : decode cX4_aim 52 = .ok (.istore 4, 2) := by decide +kernel
theorem dX4_aim_54 : decode cX4_aim 54 = .ok (.aload_n 0, 1) := by decide +kernel
theorem dX4_aim_55 : decode cX4_aim 55 = .ok (.getfield 21, 3) := by decide +kernel
theorem dX4_aim_58 : decode cX4_aim 58 = .ok (.getfield 114, 3) := by decide +kernel
theorem dX4_aim_61 : decode cX4_aim 61 = .ok (.iload_n 1, 1) := by decide +kernel
theorem dX4_aim_62 : decode cX4_aim 62 = .ok (.iload_n 2, 1) := by decide +kernel
theorem dX4_aim_63 : decode cX4_aim 63 = .ok (.iastore, 1) := by decide +kernel
theorem dX4_aim_64 : decode cX4_aim 64 = .ok (.aload_n 0, 1) := by decide +kernel
theorem dX4_aim_65 : decode cX4_aim 65 = .ok (.getfield 21, 3) := by decide +kernel
theorem dX4_aim_68 : decode cX4_aim 68 = .ok (.getfield 117, 3) := by decide +kernel
theorem dX4_aim_71 : decode cX4_aim 71 = .ok (.iload_n 1, 1) := by decide +kernel
theorem dX4_aim_72 : decode cX4_aim 72 = .ok (.iload_n 3, 1) := by decide +kernel
theorem dX4_aim_73 : decode cX4_aim 73 = .ok (.iastore, 1) := by decide +kernel
theorem dX4_aim_74 : decode cX4_aim 74 = .ok (.iload 4, 2) := by decide +kernel
theorem dX4_aim_76 : decode cX4_aim 76 = .ok (.ireturn, 1) := by decide +kernel
theorem dX4_ofMutant_0 : decode cX4_ofMutant 0 = .ok (.aload_n 0, 1) := by decide +kernel
theorem dX4_ofMutant_1 : decode cX4_ofMutant 1 = .ok (.getfield 21, 3) := by decide +kernel
theorem dX4_ofMutant_4 : decode cX4_ofMutant 4 = .ok (.iload_n 1, 1) := by decide +kernel
theorem dX4_ofMutant_5 : decode cX4_ofMutant 5 = .ok (.invokevirtual 140, 3) := by decide +kernel
theorem dX4_ofMutant_8 : decode cX4_ofMutant 8 = .ok (.ifCond .ne 5, 3) := by decide +kernel
theorem dX4_ofMutant_11 : decode cX4_ofMutant 11 = .ok (.iconst (-1), 1) := by decide +kernel
theorem dX4_ofMutant_12 : decode cX4_ofMutant 12 = .ok (.ireturn, 1) := by decide +kernel
theorem dX4_ofMutant_13 : decode cX4_ofMutant 13 = .ok (.iload_n 2, 1) := by decide +kernel
theorem dX4_ofMutant_14 : decode cX4_ofMutant 14 = .ok (.tableswitch 120 0 6 #[42, 51, 60, 70, 90, 99, 111], 42) := by decide +kernel
theorem dX4_ofMutant_56 : decode cX4_ofMutant 56 = .ok (.aload_n 0, 1) := by decide +kernel
theorem dX4_ofMutant_57 : decode cX4_ofMutant 57 = .ok (.getfield 21, 3) := by decide +kernel
theorem dX4_ofMutant_60 : decode cX4_ofMutant 60 = .ok (.iload_n 1, 1) := by decide +kernel
theorem dX4_ofMutant_61 : decode cX4_ofMutant 61 = .ok (.invokevirtual 143, 3) := by decide +kernel
theorem dX4_ofMutant_64 : decode cX4_ofMutant 64 = .ok (.ireturn, 1) := by decide +kernel
theorem dX4_ofMutant_65 : decode cX4_ofMutant 65 = .ok (.aload_n 0, 1) := by decide +kernel
theorem dX4_ofMutant_66 : decode cX4_ofMutant 66 = .ok (.getfield 21, 3) := by decide +kernel
theorem dX4_ofMutant_69 : decode cX4_ofMutant 69 = .ok (.iload_n 1, 1) := by decide +kernel
theorem dX4_ofMutant_70 : decode cX4_ofMutant 70 = .ok (.invokevirtual 146, 3) := by decide +kernel
theorem dX4_ofMutant_73 : decode cX4_ofMutant 73 = .ok (.ireturn, 1) := by decide +kernel
theorem dX4_ofMutant_74 : decode cX4_ofMutant 74 = .ok (.aload_n 0, 1) := by decide +kernel
theorem dX4_ofMutant_75 : decode cX4_ofMutant 75 = .ok (.invokevirtual 149, 3) := by decide +kernel
theorem dX4_ofMutant_78 : decode cX4_ofMutant 78 = .ok (.getfield 153, 3) := by decide +kernel
theorem dX4_ofMutant_81 : decode cX4_ofMutant 81 = .ok (.iload_n 1, 1) := by decide +kernel
theorem dX4_ofMutant_82 : decode cX4_ofMutant 82 = .ok (.iaload, 1) := by decide +kernel
theorem dX4_ofMutant_83 : decode cX4_ofMutant 83 = .ok (.ireturn, 1) := by decide +kernel
theorem dX4_ofMutant_84 : decode cX4_ofMutant 84 = .ok (.aload_n 0, 1) := by decide +kernel
theorem dX4_ofMutant_85 : decode cX4_ofMutant 85 = .ok (.getfield 21, 3) := by decide +kernel
theorem dX4_ofMutant_88 : decode cX4_ofMutant 88 = .ok (.iload_n 1, 1) := by decide +kernel
theorem dX4_ofMutant_89 : decode cX4_ofMutant 89 = .ok (.invokevirtual 156, 3) := by decide +kernel
theorem dX4_ofMutant_92 : decode cX4_ofMutant 92 = .ok (.ifCond .ne 7, 3) := by decide +kernel
theorem dX4_ofMutant_95 : decode cX4_ofMutant 95 = .ok (.iconst 1, 1) := by decide +kernel
theorem dX4_ofMutant_96 : decode cX4_ofMutant 96 = .ok (.goto 4, 3) := by decide +kernel
theorem dX4_ofMutant_99 : decode cX4_ofMutant 99 = .ok (.iconst 0, 1) := by decide +kernel
theorem dX4_ofMutant_100 : decode cX4_ofMutant 100 = .ok (.invokestatic 159, 3) := by decide +kernel
theorem dX4_ofMutant_103 : decode cX4_ofMutant 103 = .ok (.ireturn, 1) := by decide +kernel
theorem dX4_ofMutant_104 : decode cX4_ofMutant 104 = .ok (.aload_n 0, 1) := by decide +kernel
theorem dX4_ofMutant_105 : decode cX4_ofMutant 105 = .ok (.getfield 21, 3) := by decide +kernel
theorem dX4_ofMutant_108 : decode cX4_ofMutant 108 = .ok (.iload_n 1, 1) := by decide +kernel
theorem dX4_ofMutant_109 : decode cX4_ofMutant 109 = .ok (.invokevirtual 156, 3) := by decide +kernel
theorem dX4_ofMutant_112 : decode cX4_ofMutant 112 = .ok (.ireturn, 1) := by decide +kernel
theorem dX4_ofMutant_113 : decode cX4_ofMutant 113 = .ok (.aload_n 0, 1) := by decide +kernel
theorem dX4_ofMutant_114 : decode cX4_ofMutant 114 = .ok (.invokevirtual 149, 3) := by decide +kernel
theorem dX4_ofMutant_117 : decode cX4_ofMutant 117 = .ok (.iload_n 1, 1) := by decide +kernel
theorem dX4_ofMutant_118 : decode cX4_ofMutant 118 = .ok (.invokevirtual 163, 3) := by decide +kernel
theorem dX4_ofMutant_121 : decode cX4_ofMutant 121 = .ok (.invokestatic 159, 3) := by decide +kernel
theorem dX4_ofMutant_124 : decode cX4_ofMutant 124 = .ok (.ireturn, 1) := by decide +kernel
theorem dX4_ofMutant_125 : decode cX4_ofMutant 125 = .ok (.aload_n 0, 1) := by decide +kernel
theorem dX4_ofMutant_126 : decode cX4_ofMutant 126 = .ok (.invokevirtual 149, 3) := by decide +kernel
theorem dX4_ofMutant_129 : decode cX4_ofMutant 129 = .ok (.iload_n 1, 1) := by decide +kernel
theorem dX4_ofMutant_130 : decode cX4_ofMutant 130 = .ok (.invokevirtual 166, 3) := by decide +kernel
theorem dX4_ofMutant_133 : decode cX4_ofMutant 133 = .ok (.ireturn, 1) := by decide +kernel
theorem dX4_ofMutant_134 : decode cX4_ofMutant 134 = .ok (.bipush (-2), 2) := by decide +kernel
theorem dX4_ofMutant_136 : decode cX4_ofMutant 136 = .ok (.ireturn, 1) := by decide +kernel
theorem dX4_state_0 : decode cX4_state 0 = .ok (.aload_n 0, 1) := by decide +kernel
theorem dX4_state_1 : decode cX4_state 1 = .ok (.getfield 21, 3) := by decide +kernel
theorem dX4_state_4 : decode cX4_state 4 = .ok (.iload_n 1, 1) := by decide +kernel
theorem dX4_state_5 : decode cX4_state 5 = .ok (.invokevirtual 140, 3) := by decide +kernel
theorem dX4_state_8 : decode cX4_state 8 = .ok (.ifCond .eq 14, 3) := by decide +kernel
theorem dX4_state_11 : decode cX4_state 11 = .ok (.aload_n 0, 1) := by decide +kernel
theorem dX4_state_12 : decode cX4_state 12 = .ok (.getfield 21, 3) := by decide +kernel
theorem dX4_state_15 : decode cX4_state 15 = .ok (.iload_n 2, 1) := by decide +kernel
theorem dX4_state_16 : decode cX4_state 16 = .ok (.invokevirtual 102, 3) := by decide +kernel
theorem dX4_state_19 : decode cX4_state 19 = .ok (.ifCond .ne 5, 3) := by decide +kernel
theorem dX4_state_22 : decode cX4_state 22 = .ok (.iconst (-1), 1) := by decide +kernel
theorem dX4_state_23 : decode cX4_state 23 = .ok (.ireturn, 1) := by decide +kernel
theorem dX4_state_24 : decode cX4_state 24 = .ok (.aload_n 0, 1) := by decide +kernel
theorem dX4_state_25 : decode cX4_state 25 = .ok (.getfield 21, 3) := by decide +kernel
theorem dX4_state_28 : decode cX4_state 28 = .ok (.iload_n 2, 1) := by decide +kernel
theorem dX4_state_29 : decode cX4_state 29 = .ok (.invokevirtual 120, 3) := by decide +kernel
theorem dX4_state_32 : decode cX4_state 32 = .ok (.pop, 1) := by decide +kernel
theorem dX4_state_33 : decode cX4_state 33 = .ok (.aload_n 0, 1) := by decide +kernel
theorem dX4_state_34 : decode cX4_state 34 = .ok (.getfield 21, 3) := by decide +kernel
theorem dX4_state_37 : decode cX4_state 37 = .ok (.iload_n 1, 1) := by decide +kernel
theorem dX4_state_38 : decode cX4_state 38 = .ok (.invokevirtual 169, 3) := by decide +kernel
theorem dX4_state_41 : decode cX4_state 41 = .ok (.ireturn, 1) := by decide +kernel
theorem dX4_subsumes_0 : decode cX4_subsumes 0 = .ok (.aload_n 0, 1) := by decide +kernel
theorem dX4_subsumes_1 : decode cX4_subsumes 1 = .ok (.getfield 21, 3) := by decide +kernel
theorem dX4_subsumes_4 : decode cX4_subsumes 4 = .ok (.iload_n 1, 1) := by decide +kernel
theorem dX4_subsumes_5 : decode cX4_subsumes 5 = .ok (.invokevirtual 140, 3) := by decide +kernel
theorem dX4_subsumes_8 : decode cX4_subsumes 8 = .ok (.ifCond .eq 14, 3) := by decide +kernel
theorem dX4_subsumes_11 : decode cX4_subsumes 11 = .ok (.aload_n 0, 1) := by decide +kernel
theorem dX4_subsumes_12 : decode cX4_subsumes 12 = .ok (.getfield 21, 3) := by decide +kernel
theorem dX4_subsumes_15 : decode cX4_subsumes 15 = .ok (.iload_n 2, 1) := by decide +kernel
theorem dX4_subsumes_16 : decode cX4_subsumes 16 = .ok (.invokevirtual 140, 3) := by decide +kernel
theorem dX4_subsumes_19 : decode cX4_subsumes 19 = .ok (.ifCond .ne 5, 3) := by decide +kernel
theorem dX4_subsumes_22 : decode cX4_subsumes 22 = .ok (.iconst (-1), 1) := by decide +kernel
theorem dX4_subsumes_23 : decode cX4_subsumes 23 = .ok (.ireturn, 1) := by decide +kernel
theorem dX4_subsumes_24 : decode cX4_subsumes 24 = .ok (.aload_n 0, 1) := by decide +kernel
theorem dX4_subsumes_25 : decode cX4_subsumes 25 = .ok (.invokevirtual 149, 3) := by decide +kernel
theorem dX4_subsumes_28 : decode cX4_subsumes 28 = .ok (.iload_n 2, 1) := by decide +kernel
theorem dX4_subsumes_29 : decode cX4_subsumes 29 = .ok (.iload_n 1, 1) := by decide +kernel
theorem dX4_subsumes_30 : decode cX4_subsumes 30 = .ok (.invokevirtual 172, 3) := by decide +kernel
theorem dX4_subsumes_33 : decode cX4_subsumes 33 = .ok (.invokestatic 159, 3) := by decide +kernel
theorem dX4_subsumes_36 : decode cX4_subsumes 36 = .ok (.ireturn, 1) := by decide +kernel
theorem dX4_hardest_0 : decode cX4_hardest 0 = .ok (.aload_n 0, 1) := by decide +kernel
theorem dX4_hardest_1 : decode cX4_hardest 1 = .ok (.getfield 21, 3) := by decide +kernel
theorem dX4_hardest_4 : decode cX4_hardest 4 = .ok (.invokevirtual 129, 3) := by decide +kernel
theorem dX4_hardest_7 : decode cX4_hardest 7 = .ok (.ifCond .eq 6, 3) := by decide +kernel
theorem dX4_hardest_10 : decode cX4_hardest 10 = .ok (.bipush (-3), 2) := by decide +kernel
theorem dX4_hardest_12 : decode cX4_hardest 12 = .ok (.ireturn, 1) := by decide +kernel
theorem dX4_hardest_13 : decode cX4_hardest 13 = .ok (.aload_n 0, 1) := by decide +kernel
theorem dX4_hardest_14 : decode cX4_hardest 14 = .ok (.invokevirtual 149, 3) := by decide +kernel
theorem dX4_hardest_17 : decode cX4_hardest 17 = .ok (.invokevirtual 175, 3) := by decide +kernel
theorem dX4_hardest_20 : decode cX4_hardest 20 = .ok (.ireturn, 1) := by decide +kernel
theorem dX4_day_0 : decode cX4_day 0 = .ok (.aload_n 0, 1) := by decide +kernel
theorem dX4_day_1 : decode cX4_day 1 = .ok (.iconst 0, 1) := by decide +kernel
theorem dX4_day_2 : decode cX4_day 2 = .ok (.putfield 46, 3) := by decide +kernel
theorem dX4_day_5 : decode cX4_day 5 = .ok (.iload_n 1, 1) := by decide +kernel
theorem dX4_day_6 : decode cX4_day 6 = .ok (.invokestatic 50, 3) := by decide +kernel
theorem dX4_day_9 : decode cX4_day 9 = .ok (.ifCond .ne 5, 3) := by decide +kernel
theorem dX4_day_12 : decode cX4_day 12 = .ok (.iconst (-1), 1) := by decide +kernel
theorem dX4_day_13 : decode cX4_day 13 = .ok (.ireturn, 1) := by decide +kernel
theorem dX4_day_14 : decode cX4_day 14 = .ok (.iload_n 2, 1) := by decide +kernel
theorem dX4_day_15 : decode cX4_day 15 = .ok (.iconst 0, 1) := by decide +kernel
theorem dX4_day_16 : decode cX4_day 16 = .ok (.iconst 2, 1) := by decide +kernel
theorem dX4_day_17 : decode cX4_day 17 = .ok (.invokestatic 54, 3) := by decide +kernel
theorem dX4_day_20 : decode cX4_day 20 = .ok (.ifCond .eq 22, 3) := by decide +kernel
theorem dX4_day_23 : decode cX4_day 23 = .ok (.iload 4, 2) := by decide +kernel
theorem dX4_day_25 : decode cX4_day 25 = .ok (.iconst 0, 1) := by decide +kernel
theorem dX4_day_26 : decode cX4_day 26 = .ok (.bipush 20, 2) := by decide +kernel
theorem dX4_day_28 : decode cX4_day 28 = .ok (.invokestatic 54, 3) := by decide +kernel
theorem dX4_day_31 : decode cX4_day 31 = .ok (.ifCond .eq 11, 3) := by decide +kernel
theorem dX4_day_34 : decode cX4_day 34 = .ok (.iload 5, 2) := by decide +kernel
theorem dX4_day_36 : decode cX4_day 36 = .ok (.invokestatic 178, 3) := by decide +kernel
theorem dX4_day_39 : decode cX4_day 39 = .ok (.ifCond .ne 6, 3) := by decide +kernel
theorem dX4_day_42 : decode cX4_day 42 = .ok (.bipush (-2), 2) := by decide +kernel
theorem dX4_day_44 : decode cX4_day 44 = .ok (.ireturn, 1) := by decide +kernel
theorem dX4_day_45 : decode cX4_day 45 = .ok (.aload_n 0, 1) := by decide +kernel
theorem dX4_day_46 : decode cX4_day 46 = .ok (.getfield 13, 3) := by decide +kernel
theorem dX4_day_49 : decode cX4_day 49 = .ok (.iload_n 1, 1) := by decide +kernel
theorem dX4_day_50 : decode cX4_day 50 = .ok (.aaload, 1) := by decide +kernel
theorem dX4_day_51 : decode cX4_day 51 = .ok (.astore 6, 2) := by decide +kernel
theorem dX4_day_53 : decode cX4_day 53 = .ok (.aload 6, 2) := by decide +kernel
theorem dX4_day_55 : decode cX4_day 55 = .ok (.iload_n 2, 1) := by decide +kernel
theorem dX4_day_56 : decode cX4_day 56 = .ok (.invokevirtual 58, 3) := by decide +kernel
theorem dX4_day_59 : decode cX4_day 59 = .ok (.istore 7, 2) := by decide +kernel
theorem dX4_day_61 : decode cX4_day 61 = .ok (.iload 7, 2) := by decide +kernel
theorem dX4_day_63 : decode cX4_day 63 = .ok (.ifCond .ne 19, 3) := by decide +kernel
theorem dX4_day_66 : decode cX4_day 66 = .ok (.aload 6, 2) := by decide +kernel
theorem dX4_day_68 : decode cX4_day 68 = .ok (.iload_n 3, 1) := by decide +kernel
theorem dX4_day_69 : decode cX4_day 69 = .ok (.iconst 2, 1) := by decide +kernel
theorem dX4_day_70 : decode cX4_day 70 = .ok (.iload 4, 2) := by decide +kernel
theorem dX4_day_72 : decode cX4_day 72 = .ok (.imul, 1) := by decide +kernel
theorem dX4_day_73 : decode cX4_day 73 = .ok (.invokevirtual 62, 3) := by decide +kernel
theorem dX4_day_76 : decode cX4_day 76 = .ok (.ifCond .ne 6, 3) := by decide +kernel
theorem dX4_day_79 : decode cX4_day 79 = .ok (.iconst 3, 1) := by decide +kernel
theorem dX4_day_80 : decode cX4_day 80 = .ok (.istore 7, 2) := by decide +kernel
theorem dX4_day_82 : decode cX4_day 82 = .ok (.iload 7, 2) := by decide +kernel
theorem dX4_day_84 : decode cX4_day 84 = .ok (.ifCond .eq 10, 3) := by decide +kernel
theorem dX4_day_87 : decode cX4_day 87 = .ok (.aload_n 0, 1) := by decide +kernel
theorem dX4_day_88 : decode cX4_day 88 = .ok (.iload 7, 2) := by decide +kernel
theorem dX4_day_90 : decode cX4_day 90 = .ok (.invokevirtual 66, 3) := by decide +kernel
theorem dX4_day_93 : decode cX4_day 93 = .ok (.ireturn, 1) := by decide +kernel
theorem dX4_day_94 : decode cX4_day 94 = .ok (.aload_n 0, 1) := by decide +kernel
theorem dX4_day_95 : decode cX4_day 95 = .ok (.getfield 21, 3) := by decide +kernel
theorem dX4_day_98 : decode cX4_day 98 = .ok (.invokevirtual 129, 3) := by decide +kernel
theorem dX4_day_101 : decode cX4_day 101 = .ok (.ifCond .eq 6, 3) := by decide +kernel
theorem dX4_day_104 : decode cX4_day 104 = .ok (.bipush (-3), 2) := by decide +kernel
theorem dX4_day_106 : decode cX4_day 106 = .ok (.ireturn, 1) := by decide +kernel
theorem dX4_day_107 : decode cX4_day 107 = .ok (.aload 6, 2) := by decide +kernel
theorem dX4_day_109 : decode cX4_day 109 = .ok (.iload_n 3, 1) := by decide +kernel
theorem dX4_day_110 : decode cX4_day 110 = .ok (.iload 4, 2) := by decide +kernel
theorem dX4_day_112 : decode cX4_day 112 = .ok (.invokestatic 181, 3) := by decide +kernel
theorem dX4_day_115 : decode cX4_day 115 = .ok (.ifCond .ne 6, 3) := by decide +kernel
theorem dX4_day_118 : decode cX4_day 118 = .ok (.bipush (-2), 2) := by decide +kernel
theorem dX4_day_120 : decode cX4_day 120 = .ok (.ireturn, 1) := by decide +kernel
theorem dX4_day_121 : decode cX4_day 121 = .ok (.aload_n 0, 1) := by decide +kernel
theorem dX4_day_122 : decode cX4_day 122 = .ok (.aload 6, 2) := by decide +kernel
theorem dX4_day_124 : decode cX4_day 124 = .ok (.iload_n 3, 1) := by decide +kernel
theorem dX4_day_125 : decode cX4_day 125 = .ok (.iload 4, 2) := by decide +kernel
theorem dX4_day_127 : decode cX4_day 127 = .ok (.invokevirtual 184, 3) := by decide +kernel
theorem dX4_day_130 : decode cX4_day 130 = .ok (.istore 8, 2) := by decide +kernel
theorem dX4_day_132 : decode cX4_day 132 = .ok (.iload 5, 2) := by decide +kernel
theorem dX4_day_134 : decode cX4_day 134 = .ok (.iconst 1, 1) := by decide +kernel
theorem dX4_day_135 : decode cX4_day 135 = .ok (.if_icmp .ne 6, 3) := by decide +kernel
theorem dX4_day_138 : decode cX4_day 138 = .ok (.iload 8, 2) := by decide +kernel
theorem dX4_day_140 : decode cX4_day 140 = .ok (.ireturn, 1) := by decide +kernel
theorem dX4_day_141 : decode cX4_day 141 = .ok (.iload 8, 2) := by decide +kernel
theorem dX4_day_143 : decode cX4_day 143 = .ok (.bipush (-9), 2) := by decide +kernel
theorem dX4_day_145 : decode cX4_day 145 = .ok (.if_icmp .ne 12, 3) := by decide +kernel
theorem dX4_day_148 : decode cX4_day 148 = .ok (.aload_n 0, 1) := by decide +kernel
theorem dX4_day_149 : decode cX4_day 149 = .ok (.iload 5, 2) := by decide +kernel
theorem dX4_day_151 : decode cX4_day 151 = .ok (.invokevirtual 188, 3) := by decide +kernel
theorem dX4_day_154 : decode cX4_day 154 = .ok (.goto 8, 3) := by decide +kernel
theorem dX4_day_157 : decode cX4_day 157 = .ok (.bipush (-100), 2) := by decide +kernel
theorem dX4_day_159 : decode cX4_day 159 = .ok (.iload 8, 2) := by decide +kernel
theorem dX4_day_161 : decode cX4_day 161 = .ok (.isub, 1) := by decide +kernel
theorem dX4_day_162 : decode cX4_day 162 = .ok (.ireturn, 1) := by decide +kernel
theorem dX4_cover_0 : decode cX4_cover 0 = .ok (.iload_n 1, 1) := by decide +kernel
theorem dX4_cover_1 : decode cX4_cover 1 = .ok (.iconst 0, 1) := by decide +kernel
theorem dX4_cover_2 : decode cX4_cover 2 = .ok (.iconst 2, 1) := by decide +kernel
theorem dX4_cover_3 : decode cX4_cover 3 = .ok (.invokestatic 54, 3) := by decide +kernel
theorem dX4_cover_6 : decode cX4_cover 6 = .ok (.ifCond .ne 6, 3) := by decide +kernel
theorem dX4_cover_9 : decode cX4_cover 9 = .ok (.bipush (-2), 2) := by decide +kernel
theorem dX4_cover_11 : decode cX4_cover 11 = .ok (.ireturn, 1) := by decide +kernel
theorem dX4_cover_12 : decode cX4_cover 12 = .ok (.aload_n 0, 1) := by decide +kernel
theorem dX4_cover_13 : decode cX4_cover 13 = .ok (.getfield 21, 3) := by decide +kernel
theorem dX4_cover_16 : decode cX4_cover 16 = .ok (.invokevirtual 129, 3) := by decide +kernel
theorem dX4_cover_19 : decode cX4_cover 19 = .ok (.ifCond .eq 6, 3) := by decide +kernel
theorem dX4_cover_22 : decode cX4_cover 22 = .ok (.bipush (-3), 2) := by decide +kernel
theorem dX4_cover_24 : decode cX4_cover 24 = .ok (.ireturn, 1) := by decide +kernel
theorem dX4_cover_25 : decode cX4_cover 25 = .ok (.aload_n 0, 1) := by decide +kernel
theorem dX4_cover_26 : decode cX4_cover 26 = .ok (.invokevirtual 149, 3) := by decide +kernel
theorem dX4_cover_29 : decode cX4_cover 29 = .ok (.invokevirtual 191, 3) := by decide +kernel
theorem dX4_cover_32 : decode cX4_cover 32 = .ok (.istore_n 2, 1) := by decide +kernel
theorem dX4_cover_33 : decode cX4_cover 33 = .ok (.iload_n 1, 1) := by decide +kernel
theorem dX4_cover_34 : decode cX4_cover 34 = .ok (.lookupswitch 37 #[(0, 26), (1, 28)], 26) := by decide +kernel
theorem dX4_cover_60 : decode cX4_cover 60 = .ok (.iload_n 2, 1) := by decide +kernel
theorem dX4_cover_61 : decode cX4_cover 61 = .ok (.ireturn, 1) := by decide +kernel
theorem dX4_cover_62 : decode cX4_cover 62 = .ok (.aload_n 0, 1) := by decide +kernel
theorem dX4_cover_63 : decode cX4_cover 63 = .ok (.getfield 38, 3) := by decide +kernel
theorem dX4_cover_66 : decode cX4_cover 66 = .ok (.iload_n 2, 1) := by decide +kernel
theorem dX4_cover_67 : decode cX4_cover 67 = .ok (.invokevirtual 194, 3) := by decide +kernel
theorem dX4_cover_70 : decode cX4_cover 70 = .ok (.ireturn, 1) := by decide +kernel
theorem dX4_cover_71 : decode cX4_cover 71 = .ok (.iload_n 2, 1) := by decide +kernel
theorem dX4_cover_72 : decode cX4_cover 72 = .ok (.invokestatic 197, 3) := by decide +kernel
theorem dX4_cover_75 : decode cX4_cover 75 = .ok (.ireturn, 1) := by decide +kernel
theorem dX4_choose_0 : decode cX4_choose 0 = .ok (.iload_n 2, 1) := by decide +kernel
theorem dX4_choose_1 : decode cX4_choose 1 = .ok (.bipush 10, 2) := by decide +kernel
theorem dX4_choose_3 : decode cX4_choose 3 = .ok (.bipush 16, 2) := by decide +kernel
theorem dX4_choose_5 : decode cX4_choose 5 = .ok (.invokestatic 54, 3) := by decide +kernel
theorem dX4_choose_8 : decode cX4_choose 8 = .ok (.istore_n 3, 1) := by decide +kernel
theorem dX4_choose_9 : decode cX4_choose 9 = .ok (.iload_n 1, 1) := by decide +kernel
theorem dX4_choose_10 : decode cX4_choose 10 = .ok (.iconst 0, 1) := by decide +kernel
theorem dX4_choose_11 : decode cX4_choose 11 = .ok (.iconst 2, 1) := by decide +kernel
theorem dX4_choose_12 : decode cX4_choose 12 = .ok (.invokestatic 54, 3) := by decide +kernel
theorem dX4_choose_15 : decode cX4_choose 15 = .ok (.ifCond .eq 16, 3) := by decide +kernel
theorem dX4_choose_18 : decode cX4_choose 18 = .ok (.iload_n 3, 1) := by decide +kernel
theorem dX4_choose_19 : decode cX4_choose 19 = .ok (.ifCond .ne 15, 3) := by decide +kernel
theorem dX4_choose_22 : decode cX4_choose 22 = .ok (.iload_n 2, 1) := by decide +kernel
theorem dX4_choose_23 : decode cX4_choose 23 = .ok (.iconst 0, 1) := by decide +kernel
theorem dX4_choose_24 : decode cX4_choose 24 = .ok (.iconst 1, 1) := by decide +kernel
theorem dX4_choose_25 : decode cX4_choose 25 = .ok (.invokestatic 54, 3) := by decide +kernel
theorem dX4_choose_28 : decode cX4_choose 28 = .ok (.ifCond .ne 6, 3) := by decide +kernel
theorem dX4_choose_31 : decode cX4_choose 31 = .ok (.bipush (-2), 2) := by decide +kernel
theorem dX4_choose_33 : decode cX4_choose 33 = .ok (.ireturn, 1) := by decide +kernel
theorem dX4_choose_34 : decode cX4_choose 34 = .ok (.aload_n 0, 1) := by decide +kernel
theorem dX4_choose_35 : decode cX4_choose 35 = .ok (.getfield 21, 3) := by decide +kernel
theorem dX4_choose_38 : decode cX4_choose 38 = .ok (.invokevirtual 129, 3) := by decide +kernel
theorem dX4_choose_41 : decode cX4_choose 41 = .ok (.ifCond .eq 6, 3) := by decide +kernel
theorem dX4_choose_44 : decode cX4_choose 44 = .ok (.bipush (-3), 2) := by decide +kernel
theorem dX4_choose_46 : decode cX4_choose 46 = .ok (.ireturn, 1) := by decide +kernel
theorem dX4_choose_47 : decode cX4_choose 47 = .ok (.aload_n 0, 1) := by decide +kernel
theorem dX4_choose_48 : decode cX4_choose 48 = .ok (.invokevirtual 149, 3) := by decide +kernel
theorem dX4_choose_51 : decode cX4_choose 51 = .ok (.iload_n 1, 1) := by decide +kernel
theorem dX4_choose_52 : decode cX4_choose 52 = .ok (.invokevirtual 202, 3) := by decide +kernel
theorem dX4_choose_55 : decode cX4_choose 55 = .ok (.istore 4, 2) := by decide +kernel
theorem dX4_choose_57 : decode cX4_choose 57 = .ok (.iload_n 3, 1) := by decide +kernel
theorem dX4_choose_58 : decode cX4_choose 58 = .ok (.ifCond .eq 30, 3) := by decide +kernel
theorem dX4_choose_61 : decode cX4_choose 61 = .ok (.iload_n 2, 1) := by decide +kernel
theorem dX4_choose_62 : decode cX4_choose 62 = .ok (.bipush 10, 2) := by decide +kernel
theorem dX4_choose_64 : decode cX4_choose 64 = .ok (.isub, 1) := by decide +kernel
theorem dX4_choose_65 : decode cX4_choose 65 = .ok (.iload 4, 2) := by decide +kernel
theorem dX4_choose_67 : decode cX4_choose 67 = .ok (.if_icmp .ge 18, 3) := by decide +kernel
theorem dX4_choose_70 : decode cX4_choose 70 = .ok (.aload_n 0, 1) := by decide +kernel
theorem dX4_choose_71 : decode cX4_choose 71 = .ok (.getfield 38, 3) := by decide +kernel
theorem dX4_choose_74 : decode cX4_choose 74 = .ok (.getfield 205, 3) := by decide +kernel
theorem dX4_choose_77 : decode cX4_choose 77 = .ok (.iload_n 2, 1) := by decide +kernel
theorem dX4_choose_78 : decode cX4_choose 78 = .ok (.bipush 10, 2) := by decide +kernel
theorem dX4_choose_80 : decode cX4_choose 80 = .ok (.isub, 1) := by decide +kernel
theorem dX4_choose_81 : decode cX4_choose 81 = .ok (.iaload, 1) := by decide +kernel
theorem dX4_choose_82 : decode cX4_choose 82 = .ok (.goto 5, 3) := by decide +kernel
theorem dX4_choose_85 : decode cX4_choose 85 = .ok (.bipush (-9), 2) := by decide +kernel
theorem dX4_choose_87 : decode cX4_choose 87 = .ok (.ireturn, 1) := by decide +kernel
theorem dX4_choose_88 : decode cX4_choose 88 = .ok (.aload_n 0, 1) := by decide +kernel
theorem dX4_choose_89 : decode cX4_choose 89 = .ok (.getfield 38, 3) := by decide +kernel
theorem dX4_choose_92 : decode cX4_choose 92 = .ok (.iload 4, 2) := by decide +kernel
theorem dX4_choose_94 : decode cX4_choose 94 = .ok (.invokevirtual 208, 3) := by decide +kernel
theorem dX4_choose_97 : decode cX4_choose 97 = .ok (.istore 5, 2) := by decide +kernel
theorem dX4_choose_99 : decode cX4_choose 99 = .ok (.iload_n 2, 1) := by decide +kernel
theorem dX4_choose_100 : decode cX4_choose 100 = .ok (.ifCond .ne 8, 3) := by decide +kernel
theorem dX4_choose_103 : decode cX4_choose 103 = .ok (.iload 5, 2) := by decide +kernel
theorem dX4_choose_105 : decode cX4_choose 105 = .ok (.goto 12, 3) := by decide +kernel
theorem dX4_choose_108 : decode cX4_choose 108 = .ok (.aload_n 0, 1) := by decide +kernel
theorem dX4_choose_109 : decode cX4_choose 109 = .ok (.getfield 38, 3) := by decide +kernel
theorem dX4_choose_112 : decode cX4_choose 112 = .ok (.iload 5, 2) := by decide +kernel
theorem dX4_choose_114 : decode cX4_choose 114 = .ok (.invokevirtual 194, 3) := by decide +kernel
theorem dX4_choose_117 : decode cX4_choose 117 = .ok (.ireturn, 1) := by decide +kernel
theorem dX4_score_0 : decode cX4_score 0 = .ok (.iload_n 1, 1) := by decide +kernel
theorem dX4_score_1 : decode cX4_score 1 = .ok (.iconst 0, 1) := by decide +kernel
theorem dX4_score_2 : decode cX4_score 2 = .ok (.iconst 1, 1) := by decide +kernel
theorem dX4_score_3 : decode cX4_score 3 = .ok (.invokestatic 54, 3) := by decide +kernel
theorem dX4_score_6 : decode cX4_score 6 = .ok (.ifCond .eq 13, 3) := by decide +kernel
theorem dX4_score_9 : decode cX4_score 9 = .ok (.aload_n 0, 1) := by decide +kernel
theorem dX4_score_10 : decode cX4_score 10 = .ok (.getfield 21, 3) := by decide +kernel
theorem dX4_score_13 : decode cX4_score 13 = .ok (.invokevirtual 129, 3) := by decide +kernel
theorem dX4_score_16 : decode cX4_score 16 = .ok (.ifCond .eq 7, 3) := by decide +kernel
theorem dX4_score_19 : decode cX4_score 19 = .ok (.ldc2_w 211, 3) := by decide +kernel
theorem dX4_score_22 : decode cX4_score 22 = .ok (.lreturn, 1) := by decide +kernel
theorem dX4_score_23 : decode cX4_score 23 = .ok (.aload_n 0, 1) := by decide +kernel
theorem dX4_score_24 : decode cX4_score 24 = .ok (.invokevirtual 149, 3) := by decide +kernel
theorem dX4_score_27 : decode cX4_score 27 = .ok (.getfield 213, 3) := by decide +kernel
theorem dX4_score_30 : decode cX4_score 30 = .ok (.invokestatic 197, 3) := by decide +kernel
theorem dX4_score_33 : decode cX4_score 33 = .ok (.istore_n 2, 1) := by decide +kernel
theorem dX4_score_34 : decode cX4_score 34 = .ok (.iload_n 2, 1) := by decide +kernel
theorem dX4_score_35 : decode cX4_score 35 = .ok (.aload_n 0, 1) := by decide +kernel
theorem dX4_score_36 : decode cX4_score 36 = .ok (.getfield 21, 3) := by decide +kernel
theorem dX4_score_39 : decode cX4_score 39 = .ok (.invokevirtual 216, 3) := by decide +kernel
theorem dX4_score_42 : decode cX4_score 42 = .ok (.invokestatic 197, 3) := by decide +kernel
theorem dX4_score_45 : decode cX4_score 45 = .ok (.iload_n 1, 1) := by decide +kernel
theorem dX4_score_46 : decode cX4_score 46 = .ok (.invokestatic 219, 3) := by decide +kernel
theorem dX4_score_49 : decode cX4_score 49 = .ok (.lreturn, 1) := by decide +kernel
theorem dX4_reading_0 : decode cX4_reading 0 = .ok (.aload_n 0, 1) := by decide +kernel
theorem dX4_reading_1 : decode cX4_reading 1 = .ok (.getfield 21, 3) := by decide +kernel
theorem dX4_reading_4 : decode cX4_reading 4 = .ok (.invokevirtual 129, 3) := by decide +kernel
theorem dX4_reading_7 : decode cX4_reading 7 = .ok (.ifCond .eq 6, 3) := by decide +kernel
theorem dX4_reading_10 : decode cX4_reading 10 = .ok (.bipush (-3), 2) := by decide +kernel
theorem dX4_reading_12 : decode cX4_reading 12 = .ok (.ireturn, 1) := by decide +kernel
theorem dX4_reading_13 : decode cX4_reading 13 = .ok (.iload_n 1, 1) := by decide +kernel
theorem dX4_reading_14 : decode cX4_reading 14 = .ok (.iconst 0, 1) := by decide +kernel
theorem dX4_reading_15 : decode cX4_reading 15 = .ok (.sipush 200, 3) := by decide +kernel
theorem dX4_reading_18 : decode cX4_reading 18 = .ok (.invokestatic 54, 3) := by decide +kernel
theorem dX4_reading_21 : decode cX4_reading 21 = .ok (.ifCond .ne 6, 3) := by decide +kernel
theorem dX4_reading_24 : decode cX4_reading 24 = .ok (.bipush (-2), 2) := by decide +kernel
theorem dX4_reading_26 : decode cX4_reading 26 = .ok (.ireturn, 1) := by decide +kernel
theorem dX4_reading_27 : decode cX4_reading 27 = .ok (.aload_n 0, 1) := by decide +kernel
theorem dX4_reading_28 : decode cX4_reading 28 = .ok (.getfield 83, 3) := by decide +kernel
theorem dX4_reading_31 : decode cX4_reading 31 = .ok (.bipush 8, 2) := by decide +kernel
theorem dX4_reading_33 : decode cX4_reading 33 = .ok (.if_icmp .lt 6, 3) := by decide +kernel
theorem dX4_reading_36 : decode cX4_reading 36 = .ok (.bipush (-4), 2) := by decide +kernel
theorem dX4_reading_38 : decode cX4_reading 38 = .ok (.ireturn, 1) := by decide +kernel
theorem dX4_reading_39 : decode cX4_reading 39 = .ok (.aload_n 0, 1) := by decide +kernel
theorem dX4_reading_40 : decode cX4_reading 40 = .ok (.getfield 42, 3) := by decide +kernel
theorem dX4_reading_43 : decode cX4_reading 43 = .ok (.aload_n 0, 1) := by decide +kernel
theorem dX4_reading_44 : decode cX4_reading 44 = .ok (.getfield 83, 3) := by decide +kernel
theorem dX4_reading_47 : decode cX4_reading 47 = .ok (.iload_n 1, 1) := by decide +kernel
theorem dX4_reading_48 : decode cX4_reading 48 = .ok (.iastore, 1) := by decide +kernel
theorem dX4_reading_49 : decode cX4_reading 49 = .ok (.aload_n 0, 1) := by decide +kernel
theorem dX4_reading_50 : decode cX4_reading 50 = .ok (.dup, 1) := by decide +kernel
theorem dX4_reading_51 : decode cX4_reading 51 = .ok (.getfield 83, 3) := by decide +kernel
theorem dX4_reading_54 : decode cX4_reading 54 = .ok (.iconst 1, 1) := by decide +kernel
theorem dX4_reading_55 : decode cX4_reading 55 = .ok (.iadd, 1) := by decide +kernel
theorem dX4_reading_56 : decode cX4_reading 56 = .ok (.putfield 83, 3) := by decide +kernel
theorem dX4_reading_59 : decode cX4_reading 59 = .ok (.aload_n 0, 1) := by decide +kernel
theorem dX4_reading_60 : decode cX4_reading 60 = .ok (.getfield 83, 3) := by decide +kernel
theorem dX4_reading_63 : decode cX4_reading 63 = .ok (.ireturn, 1) := by decide +kernel
theorem dX4_back_0 : decode cX4_back 0 = .ok (.iload_n 1, 1) := by decide +kernel
theorem dX4_back_1 : decode cX4_back 1 = .ok (.iconst 0, 1) := by decide +kernel
theorem dX4_back_2 : decode cX4_back 2 = .ok (.aload_n 0, 1) := by decide +kernel
theorem dX4_back_3 : decode cX4_back 3 = .ok (.getfield 83, 3) := by decide +kernel
theorem dX4_back_6 : decode cX4_back 6 = .ok (.invokestatic 54, 3) := by decide +kernel
theorem dX4_back_9 : decode cX4_back 9 = .ok (.ifCond .ne 6, 3) := by decide +kernel
theorem dX4_back_12 : decode cX4_back 12 = .ok (.bipush (-2), 2) := by decide +kernel
theorem dX4_back_14 : decode cX4_back 14 = .ok (.ireturn, 1) := by decide +kernel
theorem dX4_back_15 : decode cX4_back 15 = .ok (.aload_n 0, 1) := by decide +kernel
theorem dX4_back_16 : decode cX4_back 16 = .ok (.dup, 1) := by decide +kernel
theorem dX4_back_17 : decode cX4_back 17 = .ok (.getfield 83, 3) := by decide +kernel
theorem dX4_back_20 : decode cX4_back 20 = .ok (.iload_n 1, 1) := by decide +kernel
theorem dX4_back_21 : decode cX4_back 21 = .ok (.isub, 1) := by decide +kernel
theorem dX4_back_22 : decode cX4_back 22 = .ok (.putfield 83, 3) := by decide +kernel
theorem dX4_back_25 : decode cX4_back 25 = .ok (.aload_n 0, 1) := by decide +kernel
theorem dX4_back_26 : decode cX4_back 26 = .ok (.getfield 83, 3) := by decide +kernel
theorem dX4_back_29 : decode cX4_back 29 = .ok (.ireturn, 1) := by decide +kernel
theorem dX4_kinds_0 : decode cX4_kinds 0 = .ok (.aload_n 0, 1) := by decide +kernel
theorem dX4_kinds_1 : decode cX4_kinds 1 = .ok (.getfield 21, 3) := by decide +kernel
theorem dX4_kinds_4 : decode cX4_kinds 4 = .ok (.iload_n 1, 1) := by decide +kernel
theorem dX4_kinds_5 : decode cX4_kinds 5 = .ok (.invokevirtual 102, 3) := by decide +kernel
theorem dX4_kinds_8 : decode cX4_kinds 8 = .ok (.ifCond .ne 5, 3) := by decide +kernel
theorem dX4_kinds_11 : decode cX4_kinds 11 = .ok (.iconst (-1), 1) := by decide +kernel
theorem dX4_kinds_12 : decode cX4_kinds 12 = .ok (.ireturn, 1) := by decide +kernel
theorem dX4_kinds_13 : decode cX4_kinds 13 = .ok (.aload_n 0, 1) := by decide +kernel
theorem dX4_kinds_14 : decode cX4_kinds 14 = .ok (.getfield 25, 3) := by decide +kernel
theorem dX4_kinds_17 : decode cX4_kinds 17 = .ok (.aload_n 0, 1) := by decide +kernel
theorem dX4_kinds_18 : decode cX4_kinds 18 = .ok (.getfield 21, 3) := by decide +kernel
theorem dX4_kinds_21 : decode cX4_kinds 21 = .ok (.invokevirtual 79, 3) := by decide +kernel
theorem dX4_kinds_24 : decode cX4_kinds 24 = .ok (.iconst 0, 1) := by decide +kernel
theorem dX4_kinds_25 : decode cX4_kinds 25 = .ok (.istore_n 2, 1) := by decide +kernel
theorem dX4_kinds_26 : decode cX4_kinds 26 = .ok (.iconst 0, 1) := by decide +kernel
theorem dX4_kinds_27 : decode cX4_kinds 27 = .ok (.istore_n 3, 1) := by decide +kernel
theorem dX4_kinds_28 : decode cX4_kinds 28 = .ok (.iload_n 3, 1) := by decide +kernel
theorem dX4_kinds_29 : decode cX4_kinds 29 = .ok (.iconst 3, 1) := by decide +kernel
theorem dX4_kinds_30 : decode cX4_kinds 30 = .ok (.if_icmp .ge 32, 3) := by decide +kernel
theorem dX4_kinds_33 : decode cX4_kinds 33 = .ok (.aload_n 0, 1) := by decide +kernel
theorem dX4_kinds_34 : decode cX4_kinds 34 = .ok (.getfield 25, 3) := by decide +kernel
theorem dX4_kinds_37 : decode cX4_kinds 37 = .ok (.getfield 105, 3) := by decide +kernel
theorem dX4_kinds_40 : decode cX4_kinds 40 = .ok (.iload_n 1, 1) := by decide +kernel
theorem dX4_kinds_41 : decode cX4_kinds 41 = .ok (.iload_n 3, 1) := by decide +kernel
theorem dX4_kinds_42 : decode cX4_kinds 42 = .ok (.iastore, 1) := by decide +kernel
theorem dX4_kinds_43 : decode cX4_kinds 43 = .ok (.aload_n 0, 1) := by decide +kernel
theorem dX4_kinds_44 : decode cX4_kinds 44 = .ok (.invokevirtual 223, 3) := by decide +kernel
theorem dX4_kinds_47 : decode cX4_kinds 47 = .ok (.ifCond .eq 9, 3) := by decide +kernel
theorem dX4_kinds_50 : decode cX4_kinds 50 = .ok (.iload_n 2, 1) := by decide +kernel
theorem dX4_kinds_51 : decode cX4_kinds 51 = .ok (.iconst 1, 1) := by decide +kernel
theorem dX4_kinds_52 : decode cX4_kinds 52 = .ok (.iload_n 3, 1) := by decide +kernel
theorem dX4_kinds_53 : decode cX4_kinds 53 = .ok (.ishl, 1) := by decide +kernel
theorem dX4_kinds_54 : decode cX4_kinds 54 = .ok (.ior, 1) := by decide +kernel
theorem dX4_kinds_55 : decode cX4_kinds 55 = .ok (.istore_n 2, 1) := by decide +kernel
theorem dX4_kinds_56 : decode cX4_kinds 56 = .ok (.iinc 3 1, 3) := by decide +kernel
theorem dX4_kinds_59 : decode cX4_kinds 59 = .ok (.goto (-31), 3) := by decide +kernel
theorem dX4_kinds_62 : decode cX4_kinds 62 = .ok (.iload_n 2, 1) := by decide +kernel
theorem dX4_kinds_63 : decode cX4_kinds 63 = .ok (.ireturn, 1) := by decide +kernel
theorem dX4_ways_0 : decode cX4_ways 0 = .ok (.aload_n 0, 1) := by decide +kernel
theorem dX4_ways_1 : decode cX4_ways 1 = .ok (.getfield 21, 3) := by decide +kernel
theorem dX4_ways_4 : decode cX4_ways 4 = .ok (.iload_n 1, 1) := by decide +kernel
theorem dX4_ways_5 : decode cX4_ways 5 = .ok (.invokevirtual 90, 3) := by decide +kernel
theorem dX4_ways_8 : decode cX4_ways 8 = .ok (.ifCond .ne 5, 3) := by decide +kernel
theorem dX4_ways_11 : decode cX4_ways 11 = .ok (.iconst (-1), 1) := by decide +kernel
theorem dX4_ways_12 : decode cX4_ways 12 = .ok (.ireturn, 1) := by decide +kernel
theorem dX4_ways_13 : decode cX4_ways 13 = .ok (.aload_n 0, 1) := by decide +kernel
theorem dX4_ways_14 : decode cX4_ways 14 = .ok (.getfield 25, 3) := by decide +kernel
theorem dX4_ways_17 : decode cX4_ways 17 = .ok (.aload_n 0, 1) := by decide +kernel
theorem dX4_ways_18 : decode cX4_ways 18 = .ok (.getfield 21, 3) := by decide +kernel
theorem dX4_ways_21 : decode cX4_ways 21 = .ok (.invokevirtual 79, 3) := by decide +kernel
theorem dX4_ways_24 : decode cX4_ways 24 = .ok (.iconst 0, 1) := by decide +kernel
theorem dX4_ways_25 : decode cX4_ways 25 = .ok (.istore_n 2, 1) := by decide +kernel
theorem dX4_ways_26 : decode cX4_ways 26 = .ok (.iconst 0, 1) := by decide +kernel
theorem dX4_ways_27 : decode cX4_ways 27 = .ok (.istore_n 3, 1) := by decide +kernel
theorem dX4_ways_28 : decode cX4_ways 28 = .ok (.iload_n 3, 1) := by decide +kernel
theorem dX4_ways_29 : decode cX4_ways 29 = .ok (.iconst 5, 1) := by decide +kernel
theorem dX4_ways_30 : decode cX4_ways 30 = .ok (.if_icmp .ge 32, 3) := by decide +kernel
theorem dX4_ways_33 : decode cX4_ways 33 = .ok (.aload_n 0, 1) := by decide +kernel
theorem dX4_ways_34 : decode cX4_ways 34 = .ok (.getfield 25, 3) := by decide +kernel
theorem dX4_ways_37 : decode cX4_ways 37 = .ok (.getfield 93, 3) := by decide +kernel
theorem dX4_ways_40 : decode cX4_ways 40 = .ok (.iload_n 1, 1) := by decide +kernel
theorem dX4_ways_41 : decode cX4_ways 41 = .ok (.iload_n 3, 1) := by decide +kernel
theorem dX4_ways_42 : decode cX4_ways 42 = .ok (.iastore, 1) := by decide +kernel
theorem dX4_ways_43 : decode cX4_ways 43 = .ok (.aload_n 0, 1) := by decide +kernel
theorem dX4_ways_44 : decode cX4_ways 44 = .ok (.invokevirtual 223, 3) := by decide +kernel
theorem dX4_ways_47 : decode cX4_ways 47 = .ok (.ifCond .eq 9, 3) := by decide +kernel
theorem dX4_ways_50 : decode cX4_ways 50 = .ok (.iload_n 2, 1) := by decide +kernel
theorem dX4_ways_51 : decode cX4_ways 51 = .ok (.iconst 1, 1) := by decide +kernel
theorem dX4_ways_52 : decode cX4_ways 52 = .ok (.iload_n 3, 1) := by decide +kernel
theorem dX4_ways_53 : decode cX4_ways 53 = .ok (.ishl, 1) := by decide +kernel
theorem dX4_ways_54 : decode cX4_ways 54 = .ok (.ior, 1) := by decide +kernel
theorem dX4_ways_55 : decode cX4_ways 55 = .ok (.istore_n 2, 1) := by decide +kernel
theorem dX4_ways_56 : decode cX4_ways 56 = .ok (.iinc 3 1, 3) := by decide +kernel
theorem dX4_ways_59 : decode cX4_ways 59 = .ok (.goto (-31), 3) := by decide +kernel
theorem dX4_ways_62 : decode cX4_ways 62 = .ok (.iload_n 2, 1) := by decide +kernel
theorem dX4_ways_63 : decode cX4_ways 63 = .ok (.ireturn, 1) := by decide +kernel
theorem dX4_odds_0 : decode cX4_odds 0 = .ok (.aload_n 0, 1) := by decide +kernel
theorem dX4_odds_1 : decode cX4_odds 1 = .ok (.getfield 21, 3) := by decide +kernel
theorem dX4_odds_4 : decode cX4_odds 4 = .ok (.iload_n 1, 1) := by decide +kernel
theorem dX4_odds_5 : decode cX4_odds 5 = .ok (.invokevirtual 140, 3) := by decide +kernel
theorem dX4_odds_8 : decode cX4_odds 8 = .ok (.ifCond .eq 12, 3) := by decide +kernel
theorem dX4_odds_11 : decode cX4_odds 11 = .ok (.iload_n 2, 1) := by decide +kernel
theorem dX4_odds_12 : decode cX4_odds 12 = .ok (.iconst 0, 1) := by decide +kernel
theorem dX4_odds_13 : decode cX4_odds 13 = .ok (.iconst 1, 1) := by decide +kernel
theorem dX4_odds_14 : decode cX4_odds 14 = .ok (.invokestatic 54, 3) := by decide +kernel
theorem dX4_odds_17 : decode cX4_odds 17 = .ok (.ifCond .ne 7, 3) := by decide +kernel
theorem dX4_odds_20 : decode cX4_odds 20 = .ok (.ldc2_w 211, 3) := by decide +kernel
theorem dX4_odds_23 : decode cX4_odds 23 = .ok (.lreturn, 1) := by decide +kernel
theorem dX4_odds_24 : decode cX4_odds 24 = .ok (.aload_n 0, 1) := by decide +kernel
theorem dX4_odds_25 : decode cX4_odds 25 = .ok (.getfield 21, 3) := by decide +kernel
theorem dX4_odds_28 : decode cX4_odds 28 = .ok (.iload_n 1, 1) := by decide +kernel
theorem dX4_odds_29 : decode cX4_odds 29 = .ok (.invokevirtual 156, 3) := by decide +kernel
theorem dX4_odds_32 : decode cX4_odds 32 = .ok (.bipush 100, 2) := by decide +kernel
theorem dX4_odds_34 : decode cX4_odds 34 = .ok (.iload_n 2, 1) := by decide +kernel
theorem dX4_odds_35 : decode cX4_odds 35 = .ok (.invokestatic 219, 3) := by decide +kernel
theorem dX4_odds_38 : decode cX4_odds 38 = .ok (.lreturn, 1) := by decide +kernel
theorem dX4_sheet_0 : decode cX4_sheet 0 = .ok (.aload_n 0, 1) := by decide +kernel
theorem dX4_sheet_1 : decode cX4_sheet 1 = .ok (.iconst 0, 1) := by decide +kernel
theorem dX4_sheet_2 : decode cX4_sheet 2 = .ok (.putfield 46, 3) := by decide +kernel
theorem dX4_sheet_5 : decode cX4_sheet 5 = .ok (.iload_n 1, 1) := by decide +kernel
theorem dX4_sheet_6 : decode cX4_sheet 6 = .ok (.invokestatic 50, 3) := by decide +kernel
theorem dX4_sheet_9 : decode cX4_sheet 9 = .ok (.ifCond .ne 5, 3) := by decide +kernel
theorem dX4_sheet_12 : decode cX4_sheet 12 = .ok (.iconst (-1), 1) := by decide +kernel
theorem dX4_sheet_13 : decode cX4_sheet 13 = .ok (.ireturn, 1) := by decide +kernel
theorem dX4_sheet_14 : decode cX4_sheet 14 = .ok (.iload_n 2, 1) := by decide +kernel
theorem dX4_sheet_15 : decode cX4_sheet 15 = .ok (.iconst 0, 1) := by decide +kernel
theorem dX4_sheet_16 : decode cX4_sheet 16 = .ok (.iconst 2, 1) := by decide +kernel
theorem dX4_sheet_17 : decode cX4_sheet 17 = .ok (.invokestatic 54, 3) := by decide +kernel
theorem dX4_sheet_20 : decode cX4_sheet 20 = .ok (.ifCond .eq 9, 3) := by decide +kernel
theorem dX4_sheet_23 : decode cX4_sheet 23 = .ok (.iload_n 3, 1) := by decide +kernel
theorem dX4_sheet_24 : decode cX4_sheet 24 = .ok (.bipush 60, 2) := by decide +kernel
theorem dX4_sheet_26 : decode cX4_sheet 26 = .ok (.if_icmp .le 6, 3) := by decide +kernel
theorem dX4_sheet_29 : decode cX4_sheet 29 = .ok (.bipush (-2), 2) := by decide +kernel
theorem dX4_sheet_31 : decode cX4_sheet 31 = .ok (.ireturn, 1) := by decide +kernel
theorem dX4_sheet_32 : decode cX4_sheet 32 = .ok (.iload_n 3, 1) := by decide +kernel
theorem dX4_sheet_33 : decode cX4_sheet 33 = .ok (.ifCond .ge 9, 3) := by decide +kernel
theorem dX4_sheet_36 : decode cX4_sheet 36 = .ok (.aload_n 0, 1) := by decide +kernel
theorem dX4_sheet_37 : decode cX4_sheet 37 = .ok (.iconst 4, 1) := by decide +kernel
theorem dX4_sheet_38 : decode cX4_sheet 38 = .ok (.invokevirtual 66, 3) := by decide +kernel
theorem dX4_sheet_41 : decode cX4_sheet 41 = .ok (.ireturn, 1) := by decide +kernel
theorem dX4_sheet_42 : decode cX4_sheet 42 = .ok (.aload_n 0, 1) := by decide +kernel
theorem dX4_sheet_43 : decode cX4_sheet 43 = .ok (.getfield 13, 3) := by decide +kernel
theorem dX4_sheet_46 : decode cX4_sheet 46 = .ok (.iload_n 1, 1) := by decide +kernel
theorem dX4_sheet_47 : decode cX4_sheet 47 = .ok (.aaload, 1) := by decide +kernel
theorem dX4_sheet_48 : decode cX4_sheet 48 = .ok (.iload_n 2, 1) := by decide +kernel
theorem dX4_sheet_49 : decode cX4_sheet 49 = .ok (.iload_n 3, 1) := by decide +kernel
theorem dX4_sheet_50 : decode cX4_sheet 50 = .ok (.invokevirtual 226, 3) := by decide +kernel
theorem dX4_sheet_53 : decode cX4_sheet 53 = .ok (.iconst 1, 1) := by decide +kernel
theorem dX4_sheet_54 : decode cX4_sheet 54 = .ok (.ireturn, 1) := by decide +kernel
theorem dX4_lose_0 : decode cX4_lose 0 = .ok (.iload_n 1, 1) := by decide +kernel
theorem dX4_lose_1 : decode cX4_lose 1 = .ok (.invokestatic 50, 3) := by decide +kernel
theorem dX4_lose_4 : decode cX4_lose 4 = .ok (.ifCond .ne 5, 3) := by decide +kernel
theorem dX4_lose_7 : decode cX4_lose 7 = .ok (.iconst (-1), 1) := by decide +kernel
theorem dX4_lose_8 : decode cX4_lose 8 = .ok (.ireturn, 1) := by decide +kernel
theorem dX4_lose_9 : decode cX4_lose 9 = .ok (.aload_n 0, 1) := by decide +kernel
theorem dX4_lose_10 : decode cX4_lose 10 = .ok (.getfield 13, 3) := by decide +kernel
theorem dX4_lose_13 : decode cX4_lose 13 = .ok (.iload_n 1, 1) := by decide +kernel
theorem dX4_lose_14 : decode cX4_lose 14 = .ok (.aaload, 1) := by decide +kernel
theorem dX4_lose_15 : decode cX4_lose 15 = .ok (.invokevirtual 230, 3) := by decide +kernel
theorem dX4_lose_18 : decode cX4_lose 18 = .ok (.ifCond .ne 7, 3) := by decide +kernel
theorem dX4_lose_21 : decode cX4_lose 21 = .ok (.iconst 1, 1) := by decide +kernel
theorem dX4_lose_22 : decode cX4_lose 22 = .ok (.goto 4, 3) := by decide +kernel
theorem dX4_lose_25 : decode cX4_lose 25 = .ok (.iconst 0, 1) := by decide +kernel
theorem dX4_lose_26 : decode cX4_lose 26 = .ok (.invokestatic 159, 3) := by decide +kernel
theorem dX4_lose_29 : decode cX4_lose 29 = .ok (.istore_n 2, 1) := by decide +kernel
theorem dX4_lose_30 : decode cX4_lose 30 = .ok (.aload_n 0, 1) := by decide +kernel
theorem dX4_lose_31 : decode cX4_lose 31 = .ok (.getfield 13, 3) := by decide +kernel
theorem dX4_lose_34 : decode cX4_lose 34 = .ok (.iload_n 1, 1) := by decide +kernel
theorem dX4_lose_35 : decode cX4_lose 35 = .ok (.aaload, 1) := by decide +kernel
theorem dX4_lose_36 : decode cX4_lose 36 = .ok (.invokevirtual 233, 3) := by decide +kernel
theorem dX4_lose_39 : decode cX4_lose 39 = .ok (.iload_n 2, 1) := by decide +kernel
theorem dX4_lose_40 : decode cX4_lose 40 = .ok (.ireturn, 1) := by decide +kernel
theorem dX4_put_0 : decode cX4_put 0 = .ok (.aload_n 0, 1) := by decide +kernel
theorem dX4_put_1 : decode cX4_put 1 = .ok (.iconst 0, 1) := by decide +kernel
theorem dX4_put_2 : decode cX4_put 2 = .ok (.putfield 46, 3) := by decide +kernel
theorem dX4_put_5 : decode cX4_put 5 = .ok (.iload_n 1, 1) := by decide +kernel
theorem dX4_put_6 : decode cX4_put 6 = .ok (.invokestatic 50, 3) := by decide +kernel
theorem dX4_put_9 : decode cX4_put 9 = .ok (.ifCond .ne 5, 3) := by decide +kernel
theorem dX4_put_12 : decode cX4_put 12 = .ok (.iconst (-1), 1) := by decide +kernel
theorem dX4_put_13 : decode cX4_put 13 = .ok (.ireturn, 1) := by decide +kernel
theorem dX4_put_14 : decode cX4_put 14 = .ok (.aload_n 0, 1) := by decide +kernel
theorem dX4_put_15 : decode cX4_put 15 = .ok (.getfield 13, 3) := by decide +kernel
theorem dX4_put_18 : decode cX4_put 18 = .ok (.iload_n 1, 1) := by decide +kernel
theorem dX4_put_19 : decode cX4_put 19 = .ok (.aaload, 1) := by decide +kernel
theorem dX4_put_20 : decode cX4_put 20 = .ok (.astore 4, 2) := by decide +kernel
theorem dX4_put_22 : decode cX4_put 22 = .ok (.aload 4, 2) := by decide +kernel
theorem dX4_put_24 : decode cX4_put 24 = .ok (.invokevirtual 230, 3) := by decide +kernel
theorem dX4_put_27 : decode cX4_put 27 = .ok (.ifCond .eq 9, 3) := by decide +kernel
theorem dX4_put_30 : decode cX4_put 30 = .ok (.aload_n 0, 1) := by decide +kernel
theorem dX4_put_31 : decode cX4_put 31 = .ok (.iconst 1, 1) := by decide +kernel
theorem dX4_put_32 : decode cX4_put 32 = .ok (.invokevirtual 66, 3) := by decide +kernel
theorem dX4_put_35 : decode cX4_put 35 = .ok (.ireturn, 1) := by decide +kernel
theorem dX4_put_36 : decode cX4_put 36 = .ok (.aload 4, 2) := by decide +kernel
theorem dX4_put_38 : decode cX4_put 38 = .ok (.iload_n 2, 1) := by decide +kernel
theorem dX4_put_39 : decode cX4_put 39 = .ok (.invokevirtual 236, 3) := by decide +kernel
theorem dX4_put_42 : decode cX4_put 42 = .ok (.ifCond .ne 9, 3) := by decide +kernel
theorem dX4_put_45 : decode cX4_put 45 = .ok (.aload_n 0, 1) := by decide +kernel
theorem dX4_put_46 : decode cX4_put 46 = .ok (.iconst 3, 1) := by decide +kernel
theorem dX4_put_47 : decode cX4_put 47 = .ok (.invokevirtual 66, 3) := by decide +kernel
theorem dX4_put_50 : decode cX4_put 50 = .ok (.ireturn, 1) := by decide +kernel
theorem dX4_put_51 : decode cX4_put 51 = .ok (.aload 4, 2) := by decide +kernel
theorem dX4_put_53 : decode cX4_put 53 = .ok (.getfield 239, 3) := by decide +kernel
theorem dX4_put_56 : decode cX4_put 56 = .ok (.iload_n 2, 1) := by decide +kernel
theorem dX4_put_57 : decode cX4_put 57 = .ok (.aload 4, 2) := by decide +kernel
theorem dX4_put_59 : decode cX4_put 59 = .ok (.iload_n 3, 1) := by decide +kernel
theorem dX4_put_60 : decode cX4_put 60 = .ok (.invokevirtual 242, 3) := by decide +kernel
theorem dX4_put_63 : decode cX4_put 63 = .ok (.iastore, 1) := by decide +kernel
theorem dX4_put_64 : decode cX4_put 64 = .ok (.iconst 1, 1) := by decide +kernel
theorem dX4_put_65 : decode cX4_put 65 = .ok (.ireturn, 1) := by decide +kernel
theorem dX4_cell_0 : decode cX4_cell 0 = .ok (.aload_n 0, 1) := by decide +kernel
theorem dX4_cell_1 : decode cX4_cell 1 = .ok (.iconst 0, 1) := by decide +kernel
theorem dX4_cell_2 : decode cX4_cell 2 = .ok (.putfield 46, 3) := by decide +kernel
theorem dX4_cell_5 : decode cX4_cell 5 = .ok (.iload_n 1, 1) := by decide +kernel
theorem dX4_cell_6 : decode cX4_cell 6 = .ok (.invokestatic 50, 3) := by decide +kernel
theorem dX4_cell_9 : decode cX4_cell 9 = .ok (.ifCond .eq 12, 3) := by decide +kernel
theorem dX4_cell_12 : decode cX4_cell 12 = .ok (.iload_n 3, 1) := by decide +kernel
theorem dX4_cell_13 : decode cX4_cell 13 = .ok (.iconst 0, 1) := by decide +kernel
theorem dX4_cell_14 : decode cX4_cell 14 = .ok (.iconst 2, 1) := by decide +kernel
theorem dX4_cell_15 : decode cX4_cell 15 = .ok (.invokestatic 54, 3) := by decide +kernel
theorem dX4_cell_18 : decode cX4_cell 18 = .ok (.ifCond .ne 7, 3) := by decide +kernel
theorem dX4_cell_21 : decode cX4_cell 21 = .ok (.ldc2_w 211, 3) := by decide +kernel
theorem dX4_cell_24 : decode cX4_cell 24 = .ok (.lreturn, 1) := by decide +kernel
theorem dX4_cell_25 : decode cX4_cell 25 = .ok (.aload_n 0, 1) := by decide +kernel
theorem dX4_cell_26 : decode cX4_cell 26 = .ok (.getfield 13, 3) := by decide +kernel
theorem dX4_cell_29 : decode cX4_cell 29 = .ok (.iload_n 1, 1) := by decide +kernel
theorem dX4_cell_30 : decode cX4_cell 30 = .ok (.aaload, 1) := by decide +kernel
theorem dX4_cell_31 : decode cX4_cell 31 = .ok (.astore 4, 2) := by decide +kernel
theorem dX4_cell_33 : decode cX4_cell 33 = .ok (.aload_n 0, 1) := by decide +kernel
theorem dX4_cell_34 : decode cX4_cell 34 = .ok (.aload 4, 2) := by decide +kernel
theorem dX4_cell_36 : decode cX4_cell 36 = .ok (.iload_n 3, 1) := by decide +kernel
theorem dX4_cell_37 : decode cX4_cell 37 = .ok (.invokevirtual 58, 3) := by decide +kernel
theorem dX4_cell_40 : decode cX4_cell 40 = .ok (.putfield 46, 3) := by decide +kernel
theorem dX4_cell_43 : decode cX4_cell 43 = .ok (.aload_n 0, 1) := by decide +kernel
theorem dX4_cell_44 : decode cX4_cell 44 = .ok (.getfield 46, 3) := by decide +kernel
theorem dX4_cell_47 : decode cX4_cell 47 = .ok (.ifCond .ne 17, 3) := by decide +kernel
theorem dX4_cell_50 : decode cX4_cell 50 = .ok (.aload 4, 2) := by decide +kernel
theorem dX4_cell_52 : decode cX4_cell 52 = .ok (.iload_n 2, 1) := by decide +kernel
theorem dX4_cell_53 : decode cX4_cell 53 = .ok (.invokevirtual 236, 3) := by decide +kernel
theorem dX4_cell_56 : decode cX4_cell 56 = .ok (.ifCond .ne 8, 3) := by decide +kernel
theorem dX4_cell_59 : decode cX4_cell 59 = .ok (.aload_n 0, 1) := by decide +kernel
theorem dX4_cell_60 : decode cX4_cell 60 = .ok (.iconst 3, 1) := by decide +kernel
theorem dX4_cell_61 : decode cX4_cell 61 = .ok (.putfield 46, 3) := by decide +kernel
theorem dX4_cell_64 : decode cX4_cell 64 = .ok (.aload_n 0, 1) := by decide +kernel
theorem dX4_cell_65 : decode cX4_cell 65 = .ok (.getfield 46, 3) := by decide +kernel
theorem dX4_cell_68 : decode cX4_cell 68 = .ok (.ifCond .ne 14, 3) := by decide +kernel
theorem dX4_cell_71 : decode cX4_cell 71 = .ok (.aload 4, 2) := by decide +kernel
theorem dX4_cell_73 : decode cX4_cell 73 = .ok (.getfield 239, 3) := by decide +kernel
theorem dX4_cell_76 : decode cX4_cell 76 = .ok (.iload_n 2, 1) := by decide +kernel
theorem dX4_cell_77 : decode cX4_cell 77 = .ok (.iaload, 1) := by decide +kernel
theorem dX4_cell_78 : decode cX4_cell 78 = .ok (.i2l, 1) := by decide +kernel
theorem dX4_cell_79 : decode cX4_cell 79 = .ok (.goto 6, 3) := by decide +kernel
theorem dX4_cell_82 : decode cX4_cell 82 = .ok (.ldc2_w 211, 3) := by decide +kernel
theorem dX4_cell_85 : decode cX4_cell 85 = .ok (.lreturn, 1) := by decide +kernel
theorem dX4_copy_0 : decode cX4_copy 0 = .ok (.aload_n 0, 1) := by decide +kernel
theorem dX4_copy_1 : decode cX4_copy 1 = .ok (.iconst 0, 1) := by decide +kernel
theorem dX4_copy_2 : decode cX4_copy 2 = .ok (.putfield 46, 3) := by decide +kernel
theorem dX4_copy_5 : decode cX4_copy 5 = .ok (.iload_n 1, 1) := by decide +kernel
theorem dX4_copy_6 : decode cX4_copy 6 = .ok (.invokestatic 50, 3) := by decide +kernel
theorem dX4_copy_9 : decode cX4_copy 9 = .ok (.ifCond .eq 10, 3) := by decide +kernel
theorem dX4_copy_12 : decode cX4_copy 12 = .ok (.iload_n 3, 1) := by decide +kernel
theorem dX4_copy_13 : decode cX4_copy 13 = .ok (.invokestatic 50, 3) := by decide +kernel
theorem dX4_copy_16 : decode cX4_copy 16 = .ok (.ifCond .ne 5, 3) := by decide +kernel
theorem dX4_copy_19 : decode cX4_copy 19 = .ok (.iconst (-1), 1) := by decide +kernel
theorem dX4_copy_20 : decode cX4_copy 20 = .ok (.ireturn, 1) := by decide +kernel
theorem dX4_copy_21 : decode cX4_copy 21 = .ok (.aload_n 0, 1) := by decide +kernel
theorem dX4_copy_22 : decode cX4_copy 22 = .ok (.getfield 13, 3) := by decide +kernel
theorem dX4_copy_25 : decode cX4_copy 25 = .ok (.iload_n 1, 1) := by decide +kernel
theorem dX4_copy_26 : decode cX4_copy 26 = .ok (.aaload, 1) := by decide +kernel
theorem dX4_copy_27 : decode cX4_copy 27 = .ok (.astore 6, 2) := by decide +kernel
theorem dX4_copy_29 : decode cX4_copy 29 = .ok (.aload_n 0, 1) := by decide +kernel
theorem dX4_copy_30 : decode cX4_copy 30 = .ok (.getfield 13, 3) := by decide +kernel
theorem dX4_copy_33 : decode cX4_copy 33 = .ok (.iload_n 3, 1) := by decide +kernel
theorem dX4_copy_34 : decode cX4_copy 34 = .ok (.aaload, 1) := by decide +kernel
theorem dX4_copy_35 : decode cX4_copy 35 = .ok (.astore 7, 2) := by decide +kernel
theorem dX4_copy_37 : decode cX4_copy 37 = .ok (.aload 6, 2) := by decide +kernel
theorem dX4_copy_39 : decode cX4_copy 39 = .ok (.invokevirtual 230, 3) := by decide +kernel
theorem dX4_copy_42 : decode cX4_copy 42 = .ok (.ifCond .ne 11, 3) := by decide +kernel
theorem dX4_copy_45 : decode cX4_copy 45 = .ok (.aload 7, 2) := by decide +kernel
theorem dX4_copy_47 : decode cX4_copy 47 = .ok (.invokevirtual 230, 3) := by decide +kernel
theorem dX4_copy_50 : decode cX4_copy 50 = .ok (.ifCond .eq 9, 3) := by decide +kernel
theorem dX4_copy_53 : decode cX4_copy 53 = .ok (.aload_n 0, 1) := by decide +kernel
theorem dX4_copy_54 : decode cX4_copy 54 = .ok (.iconst 1, 1) := by decide +kernel
theorem dX4_copy_55 : decode cX4_copy 55 = .ok (.invokevirtual 66, 3) := by decide +kernel
theorem dX4_copy_58 : decode cX4_copy 58 = .ok (.ireturn, 1) := by decide +kernel
theorem dX4_copy_59 : decode cX4_copy 59 = .ok (.aload 6, 2) := by decide +kernel
theorem dX4_copy_61 : decode cX4_copy 61 = .ok (.getfield 245, 3) := by decide +kernel
theorem dX4_copy_64 : decode cX4_copy 64 = .ok (.aload 7, 2) := by decide +kernel
theorem dX4_copy_66 : decode cX4_copy 66 = .ok (.getfield 245, 3) := by decide +kernel
theorem dX4_copy_69 : decode cX4_copy 69 = .ok (.if_icmp .eq 9, 3) := by decide +kernel
theorem dX4_copy_72 : decode cX4_copy 72 = .ok (.aload_n 0, 1) := by decide +kernel
theorem dX4_copy_73 : decode cX4_copy 73 = .ok (.iconst 2, 1) := by decide +kernel
theorem dX4_copy_74 : decode cX4_copy 74 = .ok (.invokevirtual 66, 3) := by decide +kernel
theorem dX4_copy_77 : decode cX4_copy 77 = .ok (.ireturn, 1) := by decide +kernel
theorem dX4_copy_78 : decode cX4_copy 78 = .ok (.aload 6, 2) := by decide +kernel
theorem dX4_copy_80 : decode cX4_copy 80 = .ok (.iload_n 2, 1) := by decide +kernel
theorem dX4_copy_81 : decode cX4_copy 81 = .ok (.iload 5, 2) := by decide +kernel
theorem dX4_copy_83 : decode cX4_copy 83 = .ok (.invokevirtual 62, 3) := by decide +kernel
theorem dX4_copy_86 : decode cX4_copy 86 = .ok (.ifCond .eq 15, 3) := by decide +kernel
theorem dX4_copy_89 : decode cX4_copy 89 = .ok (.aload 7, 2) := by decide +kernel
theorem dX4_copy_91 : decode cX4_copy 91 = .ok (.iload 4, 2) := by decide +kernel
theorem dX4_copy_93 : decode cX4_copy 93 = .ok (.iload 5, 2) := by decide +kernel
theorem dX4_copy_95 : decode cX4_copy 95 = .ok (.invokevirtual 62, 3) := by decide +kernel
theorem dX4_copy_98 : decode cX4_copy 98 = .ok (.ifCond .ne 9, 3) := by decide +kernel
theorem dX4_copy_101 : decode cX4_copy 101 = .ok (.aload_n 0, 1) := by decide +kernel
theorem dX4_copy_102 : decode cX4_copy 102 = .ok (.iconst 3, 1) := by decide +kernel
theorem dX4_copy_103 : decode cX4_copy 103 = .ok (.invokevirtual 66, 3) := by decide +kernel
theorem dX4_copy_106 : decode cX4_copy 106 = .ok (.ireturn, 1) := by decide +kernel
theorem dX4_copy_107 : decode cX4_copy 107 = .ok (.aload 6, 2) := by decide +kernel
theorem dX4_copy_109 : decode cX4_copy 109 = .ok (.getfield 239, 3) := by decide +kernel
theorem dX4_copy_112 : decode cX4_copy 112 = .ok (.iload_n 2, 1) := by decide +kernel
theorem dX4_copy_113 : decode cX4_copy 113 = .ok (.aload 7, 2) := by decide +kernel
theorem dX4_copy_115 : decode cX4_copy 115 = .ok (.getfield 239, 3) := by decide +kernel
theorem dX4_copy_118 : decode cX4_copy 118 = .ok (.iload 4, 2) := by decide +kernel
theorem dX4_copy_120 : decode cX4_copy 120 = .ok (.iload 5, 2) := by decide +kernel
theorem dX4_copy_122 : decode cX4_copy 122 = .ok (.invokestatic 248, 3) := by decide +kernel
theorem dX4_copy_125 : decode cX4_copy 125 = .ok (.iload 5, 2) := by decide +kernel
theorem dX4_copy_127 : decode cX4_copy 127 = .ok (.ireturn, 1) := by decide +kernel
theorem dX4_tell_0 : decode cX4_tell 0 = .ok (.aload_n 0, 1) := by decide +kernel
theorem dX4_tell_1 : decode cX4_tell 1 = .ok (.getfield 21, 3) := by decide +kernel
theorem dX4_tell_4 : decode cX4_tell 4 = .ok (.iload_n 1, 1) := by decide +kernel
theorem dX4_tell_5 : decode cX4_tell 5 = .ok (.invokevirtual 102, 3) := by decide +kernel
theorem dX4_tell_8 : decode cX4_tell 8 = .ok (.ifCond .ne 5, 3) := by decide +kernel
theorem dX4_tell_11 : decode cX4_tell 11 = .ok (.iconst (-1), 1) := by decide +kernel
theorem dX4_tell_12 : decode cX4_tell 12 = .ok (.ireturn, 1) := by decide +kernel
theorem dX4_tell_13 : decode cX4_tell 13 = .ok (.aload_n 0, 1) := by decide +kernel
theorem dX4_tell_14 : decode cX4_tell 14 = .ok (.getfield 21, 3) := by decide +kernel
theorem dX4_tell_17 : decode cX4_tell 17 = .ok (.getfield 105, 3) := by decide +kernel
theorem dX4_tell_20 : decode cX4_tell 20 = .ok (.iload_n 1, 1) := by decide +kernel
theorem dX4_tell_21 : decode cX4_tell 21 = .ok (.iaload, 1) := by decide +kernel
theorem dX4_tell_22 : decode cX4_tell 22 = .ok (.lookupswitch 38 #[(0, 26), (1, 32)], 26) := by decide +kernel
theorem dX4_tell_48 : decode cX4_tell 48 = .ok (.aload_n 0, 1) := by decide +kernel
theorem dX4_tell_49 : decode cX4_tell 49 = .ok (.iload_n 1, 1) := by decide +kernel
theorem dX4_tell_50 : decode cX4_tell 50 = .ok (.invokevirtual 254, 3) := by decide +kernel
theorem dX4_tell_53 : decode cX4_tell 53 = .ok (.ireturn, 1) := by decide +kernel
theorem dX4_tell_54 : decode cX4_tell 54 = .ok (.aload_n 0, 1) := by decide +kernel
theorem dX4_tell_55 : decode cX4_tell 55 = .ok (.iload_n 1, 1) := by decide +kernel
theorem dX4_tell_56 : decode cX4_tell 56 = .ok (.invokevirtual 257, 3) := by decide +kernel
theorem dX4_tell_59 : decode cX4_tell 59 = .ok (.ireturn, 1) := by decide +kernel
theorem dX4_tell_60 : decode cX4_tell 60 = .ok (.aload_n 0, 1) := by decide +kernel
theorem dX4_tell_61 : decode cX4_tell 61 = .ok (.iload_n 1, 1) := by decide +kernel
theorem dX4_tell_62 : decode cX4_tell 62 = .ok (.invokevirtual 260, 3) := by decide +kernel
theorem dX4_tell_65 : decode cX4_tell 65 = .ok (.ireturn, 1) := by decide +kernel
theorem dX4_log_0 : decode cX4_log 0 = .ok (.aload_n 0, 1) := by decide +kernel
theorem dX4_log_1 : decode cX4_log 1 = .ok (.getfield 21, 3) := by decide +kernel
theorem dX4_log_4 : decode cX4_log 4 = .ok (.iload_n 1, 1) := by decide +kernel
theorem dX4_log_5 : decode cX4_log 5 = .ok (.invokevirtual 102, 3) := by decide +kernel
theorem dX4_log_8 : decode cX4_log 8 = .ok (.ifCond .ne 5, 3) := by decide +kernel
theorem dX4_log_11 : decode cX4_log 11 = .ok (.iconst (-1), 1) := by decide +kernel
theorem dX4_log_12 : decode cX4_log 12 = .ok (.ireturn, 1) := by decide +kernel
theorem dX4_log_13 : decode cX4_log 13 = .ok (.aload_n 0, 1) := by decide +kernel
theorem dX4_log_14 : decode cX4_log 14 = .ok (.getfield 21, 3) := by decide +kernel
theorem dX4_log_17 : decode cX4_log 17 = .ok (.getfield 105, 3) := by decide +kernel
theorem dX4_log_20 : decode cX4_log 20 = .ok (.iload_n 1, 1) := by decide +kernel
theorem dX4_log_21 : decode cX4_log 21 = .ok (.iaload, 1) := by decide +kernel
theorem dX4_log_22 : decode cX4_log 22 = .ok (.iconst 2, 1) := by decide +kernel
theorem dX4_log_23 : decode cX4_log 23 = .ok (.if_icmp .ne 10, 3) := by decide +kernel
theorem dX4_log_26 : decode cX4_log 26 = .ok (.aload_n 0, 1) := by decide +kernel
theorem dX4_log_27 : decode cX4_log 27 = .ok (.invokevirtual 263, 3) := by decide +kernel
theorem dX4_log_30 : decode cX4_log 30 = .ok (.goto 8, 3) := by decide +kernel
theorem dX4_log_33 : decode cX4_log 33 = .ok (.aload_n 0, 1) := by decide +kernel
theorem dX4_log_34 : decode cX4_log 34 = .ok (.iload_n 1, 1) := by decide +kernel
theorem dX4_log_35 : decode cX4_log 35 = .ok (.invokevirtual 266, 3) := by decide +kernel
theorem dX4_log_38 : decode cX4_log 38 = .ok (.ireturn, 1) := by decide +kernel
theorem dX4_as_0 : decode cX4_as 0 = .ok (.aload_n 0, 1) := by decide +kernel
theorem dX4_as_1 : decode cX4_as 1 = .ok (.iconst 0, 1) := by decide +kernel
theorem dX4_as_2 : decode cX4_as 2 = .ok (.putfield 46, 3) := by decide +kernel
theorem dX4_as_5 : decode cX4_as 5 = .ok (.aload_n 0, 1) := by decide +kernel
theorem dX4_as_6 : decode cX4_as 6 = .ok (.getfield 21, 3) := by decide +kernel
theorem dX4_as_9 : decode cX4_as 9 = .ok (.iload_n 1, 1) := by decide +kernel
theorem dX4_as_10 : decode cX4_as 10 = .ok (.invokevirtual 102, 3) := by decide +kernel
theorem dX4_as_13 : decode cX4_as 13 = .ok (.ifCond .ne 5, 3) := by decide +kernel
theorem dX4_as_16 : decode cX4_as 16 = .ok (.iconst (-1), 1) := by decide +kernel
theorem dX4_as_17 : decode cX4_as 17 = .ok (.ireturn, 1) := by decide +kernel
theorem dX4_as_18 : decode cX4_as 18 = .ok (.iload_n 2, 1) := by decide +kernel
theorem dX4_as_19 : decode cX4_as 19 = .ok (.iconst 0, 1) := by decide +kernel
theorem dX4_as_20 : decode cX4_as 20 = .ok (.iconst 2, 1) := by decide +kernel
theorem dX4_as_21 : decode cX4_as 21 = .ok (.invokestatic 54, 3) := by decide +kernel
theorem dX4_as_24 : decode cX4_as 24 = .ok (.ifCond .ne 6, 3) := by decide +kernel
theorem dX4_as_27 : decode cX4_as 27 = .ok (.bipush (-2), 2) := by decide +kernel
theorem dX4_as_29 : decode cX4_as 29 = .ok (.ireturn, 1) := by decide +kernel
theorem dX4_as_30 : decode cX4_as 30 = .ok (.aload_n 0, 1) := by decide +kernel
theorem dX4_as_31 : decode cX4_as 31 = .ok (.getfield 21, 3) := by decide +kernel
theorem dX4_as_34 : decode cX4_as 34 = .ok (.getfield 105, 3) := by decide +kernel
theorem dX4_as_37 : decode cX4_as 37 = .ok (.iload_n 1, 1) := by decide +kernel
theorem dX4_as_38 : decode cX4_as 38 = .ok (.iaload, 1) := by decide +kernel
theorem dX4_as_39 : decode cX4_as 39 = .ok (.iload_n 2, 1) := by decide +kernel
theorem dX4_as_40 : decode cX4_as 40 = .ok (.if_icmp .lt 7, 3) := by decide +kernel
theorem dX4_as_43 : decode cX4_as 43 = .ok (.iconst 1, 1) := by decide +kernel
theorem dX4_as_44 : decode cX4_as 44 = .ok (.goto 8, 3) := by decide +kernel
theorem dX4_as_47 : decode cX4_as 47 = .ok (.aload_n 0, 1) := by decide +kernel
theorem dX4_as_48 : decode cX4_as 48 = .ok (.iconst 2, 1) := by decide +kernel
theorem dX4_as_49 : decode cX4_as 49 = .ok (.invokevirtual 66, 3) := by decide +kernel
theorem dX4_as_52 : decode cX4_as 52 = .ok (.ireturn, 1) := by decide +kernel
theorem dX4_trace_0 : decode cX4_trace 0 = .ok (.aload_n 0, 1) := by decide +kernel
theorem dX4_trace_1 : decode cX4_trace 1 = .ok (.getfield 269, 3) := by decide +kernel
theorem dX4_trace_4 : decode cX4_trace 4 = .ok (.ireturn, 1) := by decide +kernel
theorem dX4_fault_0 : decode cX4_fault 0 = .ok (.aload_n 0, 1) := by decide +kernel
theorem dX4_fault_1 : decode cX4_fault 1 = .ok (.getfield 46, 3) := by decide +kernel
theorem dX4_fault_4 : decode cX4_fault 4 = .ok (.ireturn, 1) := by decide +kernel
theorem dX4_many_0 : decode cX4_many 0 = .ok (.iload_n 1, 1) := by decide +kernel
theorem dX4_many_1 : decode cX4_many 1 = .ok (.tableswitch 87 0 5 #[39, 47, 55, 63, 74, 82], 39) := by decide +kernel
theorem dX4_many_40 : decode cX4_many 40 = .ok (.aload_n 0, 1) := by decide +kernel
theorem dX4_many_41 : decode cX4_many 41 = .ok (.getfield 21, 3) := by decide +kernel
theorem dX4_many_44 : decode cX4_many 44 = .ok (.getfield 272, 3) := by decide +kernel
theorem dX4_many_47 : decode cX4_many 47 = .ok (.ireturn, 1) := by decide +kernel
theorem dX4_many_48 : decode cX4_many 48 = .ok (.aload_n 0, 1) := by decide +kernel
theorem dX4_many_49 : decode cX4_many 49 = .ok (.getfield 21, 3) := by decide +kernel
theorem dX4_many_52 : decode cX4_many 52 = .ok (.getfield 275, 3) := by decide +kernel
theorem dX4_many_55 : decode cX4_many 55 = .ok (.ireturn, 1) := by decide +kernel
theorem dX4_many_56 : decode cX4_many 56 = .ok (.aload_n 0, 1) := by decide +kernel
theorem dX4_many_57 : decode cX4_many 57 = .ok (.getfield 21, 3) := by decide +kernel
theorem dX4_many_60 : decode cX4_many 60 = .ok (.invokevirtual 86, 3) := by decide +kernel
theorem dX4_many_63 : decode cX4_many 63 = .ok (.ireturn, 1) := by decide +kernel
theorem dX4_many_64 : decode cX4_many 64 = .ok (.aload_n 0, 1) := by decide +kernel
theorem dX4_many_65 : decode cX4_many 65 = .ok (.invokevirtual 149, 3) := by decide +kernel
theorem dX4_many_68 : decode cX4_many 68 = .ok (.getfield 213, 3) := by decide +kernel
theorem dX4_many_71 : decode cX4_many 71 = .ok (.invokestatic 197, 3) := by decide +kernel
theorem dX4_many_74 : decode cX4_many 74 = .ok (.ireturn, 1) := by decide +kernel
theorem dX4_many_75 : decode cX4_many 75 = .ok (.aload_n 0, 1) := by decide +kernel
theorem dX4_many_76 : decode cX4_many 76 = .ok (.getfield 21, 3) := by decide +kernel
theorem dX4_many_79 : decode cX4_many 79 = .ok (.invokevirtual 278, 3) := by decide +kernel
theorem dX4_many_82 : decode cX4_many 82 = .ok (.ireturn, 1) := by decide +kernel
theorem dX4_many_83 : decode cX4_many 83 = .ok (.aload_n 0, 1) := by decide +kernel
theorem dX4_many_84 : decode cX4_many 84 = .ok (.getfield 83, 3) := by decide +kernel
theorem dX4_many_87 : decode cX4_many 87 = .ok (.ireturn, 1) := by decide +kernel
theorem dX4_many_88 : decode cX4_many 88 = .ok (.bipush (-2), 2) := by decide +kernel
theorem dX4_many_90 : decode cX4_many 90 = .ok (.ireturn, 1) := by decide +kernel
theorem dX4_isWithin_0 : decode cX4_isWithin 0 = .ok (.iload_n 0, 1) := by decide +kernel
theorem dX4_isWithin_1 : decode cX4_isWithin 1 = .ok (.iload_n 1, 1) := by decide +kernel
theorem dX4_isWithin_2 : decode cX4_isWithin 2 = .ok (.if_icmp .lt 12, 3) := by decide +kernel
theorem dX4_isWithin_5 : decode cX4_isWithin 5 = .ok (.iload_n 0, 1) := by decide +kernel
theorem dX4_isWithin_6 : decode cX4_isWithin 6 = .ok (.iload_n 2, 1) := by decide +kernel
theorem dX4_isWithin_7 : decode cX4_isWithin 7 = .ok (.if_icmp .gt 7, 3) := by decide +kernel
theorem dX4_isWithin_10 : decode cX4_isWithin 10 = .ok (.iconst 1, 1) := by decide +kernel
theorem dX4_isWithin_11 : decode cX4_isWithin 11 = .ok (.goto 4, 3) := by decide +kernel
theorem dX4_isWithin_14 : decode cX4_isWithin 14 = .ok (.iconst 0, 1) := by decide +kernel
theorem dX4_isWithin_15 : decode cX4_isWithin 15 = .ok (.ireturn, 1) := by decide +kernel
theorem dX4_isSheet_0 : decode cX4_isSheet 0 = .ok (.iload_n 0, 1) := by decide +kernel
theorem dX4_isSheet_1 : decode cX4_isSheet 1 = .ok (.iconst 0, 1) := by decide +kernel
theorem dX4_isSheet_2 : decode cX4_isSheet 2 = .ok (.iconst 3, 1) := by decide +kernel
theorem dX4_isSheet_3 : decode cX4_isSheet 3 = .ok (.invokestatic 54, 3) := by decide +kernel
theorem dX4_isSheet_6 : decode cX4_isSheet 6 = .ok (.ireturn, 1) := by decide +kernel
theorem dX4_isFigure_0 : decode cX4_isFigure 0 = .ok (.iload_n 0, 1) := by decide +kernel
theorem dX4_isFigure_1 : decode cX4_isFigure 1 = .ok (.iconst 0, 1) := by decide +kernel
theorem dX4_isFigure_2 : decode cX4_isFigure 2 = .ok (.bipush 9, 2) := by decide +kernel
theorem dX4_isFigure_4 : decode cX4_isFigure 4 = .ok (.invokestatic 54, 3) := by decide +kernel
theorem dX4_isFigure_7 : decode cX4_isFigure 7 = .ok (.ireturn, 1) := by decide +kernel
theorem dX4_isTime_0 : decode cX4_isTime 0 = .ok (.iload_n 0, 1) := by decide +kernel
theorem dX4_isTime_1 : decode cX4_isTime 1 = .ok (.iconst 1, 1) := by decide +kernel
theorem dX4_isTime_2 : decode cX4_isTime 2 = .ok (.bipush 9, 2) := by decide +kernel
theorem dX4_isTime_4 : decode cX4_isTime 4 = .ok (.invokestatic 54, 3) := by decide +kernel
theorem dX4_isTime_7 : decode cX4_isTime 7 = .ok (.ireturn, 1) := by decide +kernel
theorem dX4_oneIf_0 : decode cX4_oneIf 0 = .ok (.iload_n 0, 1) := by decide +kernel
theorem dX4_oneIf_1 : decode cX4_oneIf 1 = .ok (.ifCond .eq 7, 3) := by decide +kernel
theorem dX4_oneIf_4 : decode cX4_oneIf 4 = .ok (.iconst 1, 1) := by decide +kernel
theorem dX4_oneIf_5 : decode cX4_oneIf 5 = .ok (.goto 4, 3) := by decide +kernel
theorem dX4_oneIf_8 : decode cX4_oneIf 8 = .ok (.iconst 0, 1) := by decide +kernel
theorem dX4_oneIf_9 : decode cX4_oneIf 9 = .ok (.ireturn, 1) := by decide +kernel
theorem dX4_share_0 : decode cX4_share 0 = .ok (.iload_n 1, 1) := by decide +kernel
theorem dX4_share_1 : decode cX4_share 1 = .ok (.ifCond .gt 6, 3) := by decide +kernel
theorem dX4_share_4 : decode cX4_share 4 = .ok (.iload_n 2, 1) := by decide +kernel
theorem dX4_share_5 : decode cX4_share 5 = .ok (.i2l, 1) := by decide +kernel
theorem dX4_share_6 : decode cX4_share 6 = .ok (.lreturn, 1) := by decide +kernel
theorem dX4_share_7 : decode cX4_share 7 = .ok (.iconst 1, 1) := by decide +kernel
theorem dX4_share_8 : decode cX4_share 8 = .ok (.istore_n 3, 1) := by decide +kernel
theorem dX4_share_9 : decode cX4_share 9 = .ok (.iconst 2, 1) := by decide +kernel
theorem dX4_share_10 : decode cX4_share 10 = .ok (.istore 4, 2) := by decide +kernel
theorem dX4_share_12 : decode cX4_share 12 = .ok (.iload 4, 2) := by decide +kernel
theorem dX4_share_14 : decode cX4_share 14 = .ok (.iload_n 1, 1) := by decide +kernel
theorem dX4_share_15 : decode cX4_share 15 = .ok (.if_icmp .gt 26, 3) := by decide +kernel
theorem dX4_share_18 : decode cX4_share 18 = .ok (.iload_n 0, 1) := by decide +kernel
theorem dX4_share_19 : decode cX4_share 19 = .ok (.iload 4, 2) := by decide +kernel
theorem dX4_share_21 : decode cX4_share 21 = .ok (.irem, 1) := by decide +kernel
theorem dX4_share_22 : decode cX4_share 22 = .ok (.ifCond .ne 13, 3) := by decide +kernel
theorem dX4_share_25 : decode cX4_share 25 = .ok (.iload_n 1, 1) := by decide +kernel
theorem dX4_share_26 : decode cX4_share 26 = .ok (.iload 4, 2) := by decide +kernel
theorem dX4_share_28 : decode cX4_share 28 = .ok (.irem, 1) := by decide +kernel
theorem dX4_share_29 : decode cX4_share 29 = .ok (.ifCond .ne 6, 3) := by decide +kernel
theorem dX4_share_32 : decode cX4_share 32 = .ok (.iload 4, 2) := by decide +kernel
theorem dX4_share_34 : decode cX4_share 34 = .ok (.istore_n 3, 1) := by decide +kernel
theorem dX4_share_35 : decode cX4_share 35 = .ok (.iinc 4 1, 3) := by decide +kernel
theorem dX4_share_38 : decode cX4_share 38 = .ok (.goto (-26), 3) := by decide +kernel
theorem dX4_share_41 : decode cX4_share 41 = .ok (.iload_n 2, 1) := by decide +kernel
theorem dX4_share_42 : decode cX4_share 42 = .ok (.ifCond .ne 10, 3) := by decide +kernel
theorem dX4_share_45 : decode cX4_share 45 = .ok (.iload_n 0, 1) := by decide +kernel
theorem dX4_share_46 : decode cX4_share 46 = .ok (.iload_n 3, 1) := by decide +kernel
theorem dX4_share_47 : decode cX4_share 47 = .ok (.idiv, 1) := by decide +kernel
theorem dX4_share_48 : decode cX4_share 48 = .ok (.i2l, 1) := by decide +kernel
theorem dX4_share_49 : decode cX4_share 49 = .ok (.goto 7, 3) := by decide +kernel
theorem dX4_share_52 : decode cX4_share 52 = .ok (.iload_n 1, 1) := by decide +kernel
theorem dX4_share_53 : decode cX4_share 53 = .ok (.iload_n 3, 1) := by decide +kernel
theorem dX4_share_54 : decode cX4_share 54 = .ok (.idiv, 1) := by decide +kernel
theorem dX4_share_55 : decode cX4_share 55 = .ok (.i2l, 1) := by decide +kernel
theorem dX4_share_56 : decode cX4_share 56 = .ok (.lreturn, 1) := by decide +kernel
theorem dX4_faulted_0 : decode cX4_faulted 0 = .ok (.aload_n 0, 1) := by decide +kernel
theorem dX4_faulted_1 : decode cX4_faulted 1 = .ok (.iload_n 1, 1) := by decide +kernel
theorem dX4_faulted_2 : decode cX4_faulted 2 = .ok (.putfield 46, 3) := by decide +kernel
theorem dX4_faulted_5 : decode cX4_faulted 5 = .ok (.bipush (-10), 2) := by decide +kernel
theorem dX4_faulted_7 : decode cX4_faulted 7 = .ok (.iload_n 1, 1) := by decide +kernel
theorem dX4_faulted_8 : decode cX4_faulted 8 = .ok (.isub, 1) := by decide +kernel
theorem dX4_faulted_9 : decode cX4_faulted 9 = .ok (.ireturn, 1) := by decide +kernel
theorem dX4_killsNow_0 : decode cX4_killsNow 0 = .ok (.aload_n 0, 1) := by decide +kernel
theorem dX4_killsNow_1 : decode cX4_killsNow 1 = .ok (.getfield 38, 3) := by decide +kernel
theorem dX4_killsNow_4 : decode cX4_killsNow 4 = .ok (.aload_n 0, 1) := by decide +kernel
theorem dX4_killsNow_5 : decode cX4_killsNow 5 = .ok (.getfield 21, 3) := by decide +kernel
theorem dX4_killsNow_8 : decode cX4_killsNow 8 = .ok (.invokevirtual 281, 3) := by decide +kernel
theorem dX4_killsNow_11 : decode cX4_killsNow 11 = .ok (.aload_n 0, 1) := by decide +kernel
theorem dX4_killsNow_12 : decode cX4_killsNow 12 = .ok (.getfield 38, 3) := by decide +kernel
theorem dX4_killsNow_15 : decode cX4_killsNow 15 = .ok (.areturn, 1) := by decide +kernel
theorem dX4_isOfDay_0 : decode cX4_isOfDay 0 = .ok (.iload_n 0, 1) := by decide +kernel
theorem dX4_isOfDay_1 : decode cX4_isOfDay 1 = .ok (.iconst 0, 1) := by decide +kernel
theorem dX4_isOfDay_2 : decode cX4_isOfDay 2 = .ok (.iconst 4, 1) := by decide +kernel
theorem dX4_isOfDay_3 : decode cX4_isOfDay 3 = .ok (.invokestatic 54, 3) := by decide +kernel
theorem dX4_isOfDay_6 : decode cX4_isOfDay 6 = .ok (.ifCond .ne 14, 3) := by decide +kernel
theorem dX4_isOfDay_9 : decode cX4_isOfDay 9 = .ok (.iload_n 0, 1) := by decide +kernel
theorem dX4_isOfDay_10 : decode cX4_isOfDay 10 = .ok (.bipush 10, 2) := by decide +kernel
theorem dX4_isOfDay_12 : decode cX4_isOfDay 12 = .ok (.bipush 16, 2) := by decide +kernel
theorem dX4_isOfDay_14 : decode cX4_isOfDay 14 = .ok (.invokestatic 54, 3) := by decide +kernel
theorem dX4_isOfDay_17 : decode cX4_isOfDay 17 = .ok (.ifCond .eq 7, 3) := by decide +kernel
theorem dX4_isOfDay_20 : decode cX4_isOfDay 20 = .ok (.iconst 1, 1) := by decide +kernel
theorem dX4_isOfDay_21 : decode cX4_isOfDay 21 = .ok (.goto 4, 3) := by decide +kernel
theorem dX4_isOfDay_24 : decode cX4_isOfDay 24 = .ok (.iconst 0, 1) := by decide +kernel
theorem dX4_isOfDay_25 : decode cX4_isOfDay 25 = .ok (.ireturn, 1) := by decide +kernel
theorem dX4_isAct_0 : decode cX4_isAct 0 = .ok (.iload_n 1, 1) := by decide +kernel
theorem dX4_isAct_1 : decode cX4_isAct 1 = .ok (.iconst 0, 1) := by decide +kernel
theorem dX4_isAct_2 : decode cX4_isAct 2 = .ok (.iconst 4, 1) := by decide +kernel
theorem dX4_isAct_3 : decode cX4_isAct 3 = .ok (.invokestatic 54, 3) := by decide +kernel
theorem dX4_isAct_6 : decode cX4_isAct 6 = .ok (.ifCond .eq 10, 3) := by decide +kernel
theorem dX4_isAct_9 : decode cX4_isAct 9 = .ok (.iload_n 0, 1) := by decide +kernel
theorem dX4_isAct_10 : decode cX4_isAct 10 = .ok (.iconst 0, 1) := by decide +kernel
theorem dX4_isAct_11 : decode cX4_isAct 11 = .ok (.iconst 4, 1) := by decide +kernel
theorem dX4_isAct_12 : decode cX4_isAct 12 = .ok (.invokestatic 54, 3) := by decide +kernel
theorem dX4_isAct_15 : decode cX4_isAct 15 = .ok (.ireturn, 1) := by decide +kernel
theorem dX4_isAct_16 : decode cX4_isAct 16 = .ok (.iload_n 1, 1) := by decide +kernel
theorem dX4_isAct_17 : decode cX4_isAct 17 = .ok (.bipush 10, 2) := by decide +kernel
theorem dX4_isAct_19 : decode cX4_isAct 19 = .ok (.bipush 16, 2) := by decide +kernel
theorem dX4_isAct_21 : decode cX4_isAct 21 = .ok (.invokestatic 54, 3) := by decide +kernel
theorem dX4_isAct_24 : decode cX4_isAct 24 = .ok (.ifCond .eq 8, 3) := by decide +kernel
theorem dX4_isAct_27 : decode cX4_isAct 27 = .ok (.iload_n 0, 1) := by decide +kernel
theorem dX4_isAct_28 : decode cX4_isAct 28 = .ok (.invokestatic 137, 3) := by decide +kernel
theorem dX4_isAct_31 : decode cX4_isAct 31 = .ok (.ireturn, 1) := by decide +kernel
theorem dX4_isAct_32 : decode cX4_isAct 32 = .ok (.iload_n 1, 1) := by decide +kernel
theorem dX4_isAct_33 : decode cX4_isAct 33 = .ok (.bipush 20, 2) := by decide +kernel
theorem dX4_isAct_35 : decode cX4_isAct 35 = .ok (.bipush 26, 2) := by decide +kernel
theorem dX4_isAct_37 : decode cX4_isAct 37 = .ok (.invokestatic 54, 3) := by decide +kernel
theorem dX4_isAct_40 : decode cX4_isAct 40 = .ok (.ifCond .eq 17, 3) := by decide +kernel
theorem dX4_isAct_43 : decode cX4_isAct 43 = .ok (.iload_n 0, 1) := by decide +kernel
theorem dX4_isAct_44 : decode cX4_isAct 44 = .ok (.iconst 0, 1) := by decide +kernel
theorem dX4_isAct_45 : decode cX4_isAct 45 = .ok (.bipush 99, 2) := by decide +kernel
theorem dX4_isAct_47 : decode cX4_isAct 47 = .ok (.invokestatic 54, 3) := by decide +kernel
theorem dX4_isAct_50 : decode cX4_isAct 50 = .ok (.ifCond .eq 7, 3) := by decide +kernel
theorem dX4_isAct_53 : decode cX4_isAct 53 = .ok (.iconst 1, 1) := by decide +kernel
theorem dX4_isAct_54 : decode cX4_isAct 54 = .ok (.goto 4, 3) := by decide +kernel
theorem dX4_isAct_57 : decode cX4_isAct 57 = .ok (.iconst 0, 1) := by decide +kernel
theorem dX4_isAct_58 : decode cX4_isAct 58 = .ok (.ireturn, 1) := by decide +kernel
theorem dX4_areActs_0 : decode cX4_areActs 0 = .ok (.iconst 0, 1) := by decide +kernel
theorem dX4_areActs_1 : decode cX4_areActs 1 = .ok (.istore_n 3, 1) := by decide +kernel
theorem dX4_areActs_2 : decode cX4_areActs 2 = .ok (.iload_n 3, 1) := by decide +kernel
theorem dX4_areActs_3 : decode cX4_areActs 3 = .ok (.iload_n 2, 1) := by decide +kernel
theorem dX4_areActs_4 : decode cX4_areActs 4 = .ok (.if_icmp .ge 39, 3) := by decide +kernel
theorem dX4_areActs_7 : decode cX4_areActs 7 = .ok (.aload_n 0, 1) := by decide +kernel
theorem dX4_areActs_8 : decode cX4_areActs 8 = .ok (.getfield 239, 3) := by decide +kernel
theorem dX4_areActs_11 : decode cX4_areActs 11 = .ok (.iload_n 1, 1) := by decide +kernel
theorem dX4_areActs_12 : decode cX4_areActs 12 = .ok (.iconst 2, 1) := by decide +kernel
theorem dX4_areActs_13 : decode cX4_areActs 13 = .ok (.iload_n 3, 1) := by decide +kernel
theorem dX4_areActs_14 : decode cX4_areActs 14 = .ok (.imul, 1) := by decide +kernel
theorem dX4_areActs_15 : decode cX4_areActs 15 = .ok (.iadd, 1) := by decide +kernel
theorem dX4_areActs_16 : decode cX4_areActs 16 = .ok (.iaload, 1) := by decide +kernel
theorem dX4_areActs_17 : decode cX4_areActs 17 = .ok (.aload_n 0, 1) := by decide +kernel
theorem dX4_areActs_18 : decode cX4_areActs 18 = .ok (.getfield 239, 3) := by decide +kernel
theorem dX4_areActs_21 : decode cX4_areActs 21 = .ok (.iload_n 1, 1) := by decide +kernel
theorem dX4_areActs_22 : decode cX4_areActs 22 = .ok (.iconst 2, 1) := by decide +kernel
theorem dX4_areActs_23 : decode cX4_areActs 23 = .ok (.iload_n 3, 1) := by decide +kernel
theorem dX4_areActs_24 : decode cX4_areActs 24 = .ok (.imul, 1) := by decide +kernel
theorem dX4_areActs_25 : decode cX4_areActs 25 = .ok (.iadd, 1) := by decide +kernel
theorem dX4_areActs_26 : decode cX4_areActs 26 = .ok (.iconst 1, 1) := by decide +kernel
theorem dX4_areActs_27 : decode cX4_areActs 27 = .ok (.iadd, 1) := by decide +kernel
theorem dX4_areActs_28 : decode cX4_areActs 28 = .ok (.iaload, 1) := by decide +kernel
theorem dX4_areActs_29 : decode cX4_areActs 29 = .ok (.invokestatic 284, 3) := by decide +kernel
theorem dX4_areActs_32 : decode cX4_areActs 32 = .ok (.ifCond .ne 5, 3) := by decide +kernel
theorem dX4_areActs_35 : decode cX4_areActs 35 = .ok (.iconst 0, 1) := by decide +kernel
theorem dX4_areActs_36 : decode cX4_areActs 36 = .ok (.ireturn, 1) := by decide +kernel
theorem dX4_areActs_37 : decode cX4_areActs 37 = .ok (.iinc 3 1, 3) := by decide +kernel
theorem dX4_areActs_40 : decode cX4_areActs 40 = .ok (.goto (-38), 3) := by decide +kernel
theorem dX4_areActs_43 : decode cX4_areActs 43 = .ok (.iconst 1, 1) := by decide +kernel
theorem dX4_areActs_44 : decode cX4_areActs 44 = .ok (.ireturn, 1) := by decide +kernel
theorem dX4_tryActs_0 : decode cX4_tryActs 0 = .ok (.aload_n 0, 1) := by decide +kernel
theorem dX4_tryActs_1 : decode cX4_tryActs 1 = .ok (.getfield 25, 3) := by decide +kernel
theorem dX4_tryActs_4 : decode cX4_tryActs 4 = .ok (.aload_n 0, 1) := by decide +kernel
theorem dX4_tryActs_5 : decode cX4_tryActs 5 = .ok (.getfield 21, 3) := by decide +kernel
theorem dX4_tryActs_8 : decode cX4_tryActs 8 = .ok (.invokevirtual 79, 3) := by decide +kernel
theorem dX4_tryActs_11 : decode cX4_tryActs 11 = .ok (.iconst 0, 1) := by decide +kernel
theorem dX4_tryActs_12 : decode cX4_tryActs 12 = .ok (.istore 4, 2) := by decide +kernel
theorem dX4_tryActs_14 : decode cX4_tryActs 14 = .ok (.iload 4, 2) := by decide +kernel
theorem dX4_tryActs_16 : decode cX4_tryActs 16 = .ok (.iload_n 3, 1) := by decide +kernel
theorem dX4_tryActs_17 : decode cX4_tryActs 17 = .ok (.if_icmp .ge 46, 3) := by decide +kernel
theorem dX4_tryActs_20 : decode cX4_tryActs 20 = .ok (.aload_n 0, 1) := by decide +kernel
theorem dX4_tryActs_21 : decode cX4_tryActs 21 = .ok (.getfield 25, 3) := by decide +kernel
theorem dX4_tryActs_24 : decode cX4_tryActs 24 = .ok (.aload_n 1, 1) := by decide +kernel
theorem dX4_tryActs_25 : decode cX4_tryActs 25 = .ok (.getfield 239, 3) := by decide +kernel
theorem dX4_tryActs_28 : decode cX4_tryActs 28 = .ok (.iload_n 2, 1) := by decide +kernel
theorem dX4_tryActs_29 : decode cX4_tryActs 29 = .ok (.iconst 2, 1) := by decide +kernel
theorem dX4_tryActs_30 : decode cX4_tryActs 30 = .ok (.iload 4, 2) := by decide +kernel
theorem dX4_tryActs_32 : decode cX4_tryActs 32 = .ok (.imul, 1) := by decide +kernel
theorem dX4_tryActs_33 : decode cX4_tryActs 33 = .ok (.iadd, 1) := by decide +kernel
theorem dX4_tryActs_34 : decode cX4_tryActs 34 = .ok (.iaload, 1) := by decide +kernel
theorem dX4_tryActs_35 : decode cX4_tryActs 35 = .ok (.aload_n 1, 1) := by decide +kernel
theorem dX4_tryActs_36 : decode cX4_tryActs 36 = .ok (.getfield 239, 3) := by decide +kernel
theorem dX4_tryActs_39 : decode cX4_tryActs 39 = .ok (.iload_n 2, 1) := by decide +kernel
theorem dX4_tryActs_40 : decode cX4_tryActs 40 = .ok (.iconst 2, 1) := by decide +kernel
theorem dX4_tryActs_41 : decode cX4_tryActs 41 = .ok (.iload 4, 2) := by decide +kernel
theorem dX4_tryActs_43 : decode cX4_tryActs 43 = .ok (.imul, 1) := by decide +kernel
theorem dX4_tryActs_44 : decode cX4_tryActs 44 = .ok (.iadd, 1) := by decide +kernel
theorem dX4_tryActs_45 : decode cX4_tryActs 45 = .ok (.iconst 1, 1) := by decide +kernel
theorem dX4_tryActs_46 : decode cX4_tryActs 46 = .ok (.iadd, 1) := by decide +kernel
theorem dX4_tryActs_47 : decode cX4_tryActs 47 = .ok (.iaload, 1) := by decide +kernel
theorem dX4_tryActs_48 : decode cX4_tryActs 48 = .ok (.invokevirtual 287, 3) := by decide +kernel
theorem dX4_tryActs_51 : decode cX4_tryActs 51 = .ok (.ifCond .ne 6, 3) := by decide +kernel
theorem dX4_tryActs_54 : decode cX4_tryActs 54 = .ok (.iload 4, 2) := by decide +kernel
theorem dX4_tryActs_56 : decode cX4_tryActs 56 = .ok (.ireturn, 1) := by decide +kernel
theorem dX4_tryActs_57 : decode cX4_tryActs 57 = .ok (.iinc 4 1, 3) := by decide +kernel
theorem dX4_tryActs_60 : decode cX4_tryActs 60 = .ok (.goto (-46), 3) := by decide +kernel
theorem dX4_tryActs_63 : decode cX4_tryActs 63 = .ok (.bipush (-9), 2) := by decide +kernel
theorem dX4_tryActs_65 : decode cX4_tryActs 65 = .ok (.ireturn, 1) := by decide +kernel
theorem dX4_ofTrial_0 : decode cX4_ofTrial 0 = .ok (.iload_n 1, 1) := by decide +kernel
theorem dX4_ofTrial_1 : decode cX4_ofTrial 1 = .ok (.bipush 10, 2) := by decide +kernel
theorem dX4_ofTrial_3 : decode cX4_ofTrial 3 = .ok (.if_icmp .lt 33, 3) := by decide +kernel
theorem dX4_ofTrial_6 : decode cX4_ofTrial 6 = .ok (.iload_n 1, 1) := by decide +kernel
theorem dX4_ofTrial_7 : decode cX4_ofTrial 7 = .ok (.bipush 10, 2) := by decide +kernel
theorem dX4_ofTrial_9 : decode cX4_ofTrial 9 = .ok (.isub, 1) := by decide +kernel
theorem dX4_ofTrial_10 : decode cX4_ofTrial 10 = .ok (.istore_n 2, 1) := by decide +kernel
theorem dX4_ofTrial_11 : decode cX4_ofTrial 11 = .ok (.aload_n 0, 1) := by decide +kernel
theorem dX4_ofTrial_12 : decode cX4_ofTrial 12 = .ok (.getfield 25, 3) := by decide +kernel
theorem dX4_ofTrial_15 : decode cX4_ofTrial 15 = .ok (.iload_n 2, 1) := by decide +kernel
theorem dX4_ofTrial_16 : decode cX4_ofTrial 16 = .ok (.invokevirtual 102, 3) := by decide +kernel
theorem dX4_ofTrial_19 : decode cX4_ofTrial 19 = .ok (.ifCond .eq 14, 3) := by decide +kernel
theorem dX4_ofTrial_22 : decode cX4_ofTrial 22 = .ok (.aload_n 0, 1) := by decide +kernel
theorem dX4_ofTrial_23 : decode cX4_ofTrial 23 = .ok (.getfield 25, 3) := by decide +kernel
theorem dX4_ofTrial_26 : decode cX4_ofTrial 26 = .ok (.iload_n 2, 1) := by decide +kernel
theorem dX4_ofTrial_27 : decode cX4_ofTrial 27 = .ok (.invokevirtual 120, 3) := by decide +kernel
theorem dX4_ofTrial_30 : decode cX4_ofTrial 30 = .ok (.goto 5, 3) := by decide +kernel
theorem dX4_ofTrial_33 : decode cX4_ofTrial 33 = .ok (.bipush (-9), 2) := by decide +kernel
theorem dX4_ofTrial_35 : decode cX4_ofTrial 35 = .ok (.ireturn, 1) := by decide +kernel
theorem dX4_ofTrial_36 : decode cX4_ofTrial 36 = .ok (.iload_n 1, 1) := by decide +kernel
theorem dX4_ofTrial_37 : decode cX4_ofTrial 37 = .ok (.iconst 2, 1) := by decide +kernel
theorem dX4_ofTrial_38 : decode cX4_ofTrial 38 = .ok (.if_icmp .ne 11, 3) := by decide +kernel
theorem dX4_ofTrial_41 : decode cX4_ofTrial 41 = .ok (.aload_n 0, 1) := by decide +kernel
theorem dX4_ofTrial_42 : decode cX4_ofTrial 42 = .ok (.getfield 25, 3) := by decide +kernel
theorem dX4_ofTrial_45 : decode cX4_ofTrial 45 = .ok (.invokevirtual 278, 3) := by decide +kernel
theorem dX4_ofTrial_48 : decode cX4_ofTrial 48 = .ok (.ireturn, 1) := by decide +kernel
theorem dX4_ofTrial_49 : decode cX4_ofTrial 49 = .ok (.aload_n 0, 1) := by decide +kernel
theorem dX4_ofTrial_50 : decode cX4_ofTrial 50 = .ok (.getfield 38, 3) := by decide +kernel
theorem dX4_ofTrial_53 : decode cX4_ofTrial 53 = .ok (.aload_n 0, 1) := by decide +kernel
theorem dX4_ofTrial_54 : decode cX4_ofTrial 54 = .ok (.getfield 25, 3) := by decide +kernel
theorem dX4_ofTrial_57 : decode cX4_ofTrial 57 = .ok (.invokevirtual 281, 3) := by decide +kernel
theorem dX4_ofTrial_60 : decode cX4_ofTrial 60 = .ok (.iload_n 1, 1) := by decide +kernel
theorem dX4_ofTrial_61 : decode cX4_ofTrial 61 = .ok (.lookupswitch 46 #[(0, 27), (3, 38)], 27) := by decide +kernel
theorem dX4_ofTrial_88 : decode cX4_ofTrial 88 = .ok (.aload_n 0, 1) := by decide +kernel
theorem dX4_ofTrial_89 : decode cX4_ofTrial 89 = .ok (.getfield 38, 3) := by decide +kernel
theorem dX4_ofTrial_92 : decode cX4_ofTrial 92 = .ok (.getfield 213, 3) := by decide +kernel
theorem dX4_ofTrial_95 : decode cX4_ofTrial 95 = .ok (.invokestatic 197, 3) := by decide +kernel
theorem dX4_ofTrial_98 : decode cX4_ofTrial 98 = .ok (.ireturn, 1) := by decide +kernel
theorem dX4_ofTrial_99 : decode cX4_ofTrial 99 = .ok (.aload_n 0, 1) := by decide +kernel
theorem dX4_ofTrial_100 : decode cX4_ofTrial 100 = .ok (.getfield 38, 3) := by decide +kernel
theorem dX4_ofTrial_103 : decode cX4_ofTrial 103 = .ok (.invokevirtual 290, 3) := by decide +kernel
theorem dX4_ofTrial_106 : decode cX4_ofTrial 106 = .ok (.ireturn, 1) := by decide +kernel
theorem dX4_ofTrial_107 : decode cX4_ofTrial 107 = .ok (.aload_n 0, 1) := by decide +kernel
theorem dX4_ofTrial_108 : decode cX4_ofTrial 108 = .ok (.getfield 38, 3) := by decide +kernel
theorem dX4_ofTrial_111 : decode cX4_ofTrial 111 = .ok (.aload_n 0, 1) := by decide +kernel
theorem dX4_ofTrial_112 : decode cX4_ofTrial 112 = .ok (.getfield 38, 3) := by decide +kernel
theorem dX4_ofTrial_115 : decode cX4_ofTrial 115 = .ok (.invokevirtual 191, 3) := by decide +kernel
theorem dX4_ofTrial_118 : decode cX4_ofTrial 118 = .ok (.invokevirtual 194, 3) := by decide +kernel
theorem dX4_ofTrial_121 : decode cX4_ofTrial 121 = .ok (.ireturn, 1) := by decide +kernel
theorem dX4_fitsReadings_0 : decode cX4_fitsReadings 0 = .ok (.aload_n 0, 1) := by decide +kernel
theorem dX4_fitsReadings_1 : decode cX4_fitsReadings 1 = .ok (.getfield 83, 3) := by decide +kernel
theorem dX4_fitsReadings_4 : decode cX4_fitsReadings 4 = .ok (.ifCond .ne 5, 3) := by decide +kernel
theorem dX4_fitsReadings_7 : decode cX4_fitsReadings 7 = .ok (.iconst 1, 1) := by decide +kernel
theorem dX4_fitsReadings_8 : decode cX4_fitsReadings 8 = .ok (.ireturn, 1) := by decide +kernel
theorem dX4_fitsReadings_9 : decode cX4_fitsReadings 9 = .ok (.aload_n 0, 1) := by decide +kernel
theorem dX4_fitsReadings_10 : decode cX4_fitsReadings 10 = .ok (.getfield 38, 3) := by decide +kernel
theorem dX4_fitsReadings_13 : decode cX4_fitsReadings 13 = .ok (.aload_n 0, 1) := by decide +kernel
theorem dX4_fitsReadings_14 : decode cX4_fitsReadings 14 = .ok (.getfield 25, 3) := by decide +kernel
theorem dX4_fitsReadings_17 : decode cX4_fitsReadings 17 = .ok (.invokevirtual 281, 3) := by decide +kernel
theorem dX4_fitsReadings_20 : decode cX4_fitsReadings 20 = .ok (.aload_n 0, 1) := by decide +kernel
theorem dX4_fitsReadings_21 : decode cX4_fitsReadings 21 = .ok (.getfield 38, 3) := by decide +kernel
theorem dX4_fitsReadings_24 : decode cX4_fitsReadings 24 = .ok (.aload_n 0, 1) := by decide +kernel
theorem dX4_fitsReadings_25 : decode cX4_fitsReadings 25 = .ok (.getfield 38, 3) := by decide +kernel
theorem dX4_fitsReadings_28 : decode cX4_fitsReadings 28 = .ok (.invokevirtual 191, 3) := by decide +kernel
theorem dX4_fitsReadings_31 : decode cX4_fitsReadings 31 = .ok (.invokevirtual 194, 3) := by decide +kernel
theorem dX4_fitsReadings_34 : decode cX4_fitsReadings 34 = .ok (.istore_n 1, 1) := by decide +kernel
theorem dX4_fitsReadings_35 : decode cX4_fitsReadings 35 = .ok (.iconst 0, 1) := by decide +kernel
theorem dX4_fitsReadings_36 : decode cX4_fitsReadings 36 = .ok (.istore_n 2, 1) := by decide +kernel
theorem dX4_fitsReadings_37 : decode cX4_fitsReadings 37 = .ok (.iload_n 2, 1) := by decide +kernel
theorem dX4_fitsReadings_38 : decode cX4_fitsReadings 38 = .ok (.aload_n 0, 1) := by decide +kernel
theorem dX4_fitsReadings_39 : decode cX4_fitsReadings 39 = .ok (.getfield 83, 3) := by decide +kernel
theorem dX4_fitsReadings_42 : decode cX4_fitsReadings 42 = .ok (.if_icmp .ge 21, 3) := by decide +kernel
theorem dX4_fitsReadings_45 : decode cX4_fitsReadings 45 = .ok (.aload_n 0, 1) := by decide +kernel
theorem dX4_fitsReadings_46 : decode cX4_fitsReadings 46 = .ok (.getfield 42, 3) := by decide +kernel
theorem dX4_fitsReadings_49 : decode cX4_fitsReadings 49 = .ok (.iload_n 2, 1) := by decide +kernel
theorem dX4_fitsReadings_50 : decode cX4_fitsReadings 50 = .ok (.iaload, 1) := by decide +kernel
theorem dX4_fitsReadings_51 : decode cX4_fitsReadings 51 = .ok (.iload_n 1, 1) := by decide +kernel
theorem dX4_fitsReadings_52 : decode cX4_fitsReadings 52 = .ok (.if_icmp .eq 5, 3) := by decide +kernel
theorem dX4_fitsReadings_55 : decode cX4_fitsReadings 55 = .ok (.iconst 0, 1) := by decide +kernel
theorem dX4_fitsReadings_56 : decode cX4_fitsReadings 56 = .ok (.ireturn, 1) := by decide +kernel
theorem dX4_fitsReadings_57 : decode cX4_fitsReadings 57 = .ok (.iinc 2 1, 3) := by decide +kernel
theorem dX4_fitsReadings_60 : decode cX4_fitsReadings 60 = .ok (.goto (-23), 3) := by decide +kernel
theorem dX4_fitsReadings_63 : decode cX4_fitsReadings 63 = .ok (.iconst 1, 1) := by decide +kernel
theorem dX4_fitsReadings_64 : decode cX4_fitsReadings 64 = .ok (.ireturn, 1) := by decide +kernel
theorem dX4_leave_0 : decode cX4_leave 0 = .ok (.aload_n 0, 1) := by decide +kernel
theorem dX4_leave_1 : decode cX4_leave 1 = .ok (.bipush 31, 2) := by decide +kernel
theorem dX4_leave_3 : decode cX4_leave 3 = .ok (.aload_n 0, 1) := by decide +kernel
theorem dX4_leave_4 : decode cX4_leave 4 = .ok (.getfield 269, 3) := by decide +kernel
theorem dX4_leave_7 : decode cX4_leave 7 = .ok (.imul, 1) := by decide +kernel
theorem dX4_leave_8 : decode cX4_leave 8 = .ok (.iload_n 1, 1) := by decide +kernel
theorem dX4_leave_9 : decode cX4_leave 9 = .ok (.iadd, 1) := by decide +kernel
theorem dX4_leave_10 : decode cX4_leave 10 = .ok (.putfield 269, 3) := by decide +kernel
theorem dX4_leave_13 : decode cX4_leave 13 = .ok (.return_, 1) := by decide +kernel
theorem dX4_tellPlain_0 : decode cX4_tellPlain 0 = .ok (.aload_n 0, 1) := by decide +kernel
theorem dX4_tellPlain_1 : decode cX4_tellPlain 1 = .ok (.iconst 1, 1) := by decide +kernel
theorem dX4_tellPlain_2 : decode cX4_tellPlain 2 = .ok (.invokevirtual 293, 3) := by decide +kernel
theorem dX4_tellPlain_5 : decode cX4_tellPlain 5 = .ok (.aload_n 0, 1) := by decide +kernel
theorem dX4_tellPlain_6 : decode cX4_tellPlain 6 = .ok (.getfield 21, 3) := by decide +kernel
theorem dX4_tellPlain_9 : decode cX4_tellPlain 9 = .ok (.getfield 108, 3) := by decide +kernel
theorem dX4_tellPlain_12 : decode cX4_tellPlain 12 = .ok (.iload_n 1, 1) := by decide +kernel
theorem dX4_tellPlain_13 : decode cX4_tellPlain 13 = .ok (.iaload, 1) := by decide +kernel
theorem dX4_tellPlain_14 : decode cX4_tellPlain 14 = .ok (.ireturn, 1) := by decide +kernel
theorem dX4_tellSlow_0 : decode cX4_tellSlow 0 = .ok (.aload_n 0, 1) := by decide +kernel
theorem dX4_tellSlow_1 : decode cX4_tellSlow 1 = .ok (.iconst 2, 1) := by decide +kernel
theorem dX4_tellSlow_2 : decode cX4_tellSlow 2 = .ok (.invokevirtual 293, 3) := by decide +kernel
theorem dX4_tellSlow_5 : decode cX4_tellSlow 5 = .ok (.aload_n 0, 1) := by decide +kernel
theorem dX4_tellSlow_6 : decode cX4_tellSlow 6 = .ok (.iload_n 1, 1) := by decide +kernel
theorem dX4_tellSlow_7 : decode cX4_tellSlow 7 = .ok (.invokevirtual 254, 3) := by decide +kernel
theorem dX4_tellSlow_10 : decode cX4_tellSlow 10 = .ok (.bipush 100, 2) := by decide +kernel
theorem dX4_tellSlow_12 : decode cX4_tellSlow 12 = .ok (.iadd, 1) := by decide +kernel
theorem dX4_tellSlow_13 : decode cX4_tellSlow 13 = .ok (.ireturn, 1) := by decide +kernel
theorem dX4_tellDouble_0 : decode cX4_tellDouble 0 = .ok (.aload_n 0, 1) := by decide +kernel
theorem dX4_tellDouble_1 : decode cX4_tellDouble 1 = .ok (.iconst 3, 1) := by decide +kernel
theorem dX4_tellDouble_2 : decode cX4_tellDouble 2 = .ok (.invokevirtual 293, 3) := by decide +kernel
theorem dX4_tellDouble_5 : decode cX4_tellDouble 5 = .ok (.aload_n 0, 1) := by decide +kernel
theorem dX4_tellDouble_6 : decode cX4_tellDouble 6 = .ok (.iload_n 1, 1) := by decide +kernel
theorem dX4_tellDouble_7 : decode cX4_tellDouble 7 = .ok (.invokevirtual 257, 3) := by decide +kernel
theorem dX4_tellDouble_10 : decode cX4_tellDouble 10 = .ok (.aload_n 0, 1) := by decide +kernel
theorem dX4_tellDouble_11 : decode cX4_tellDouble 11 = .ok (.iload_n 1, 1) := by decide +kernel
theorem dX4_tellDouble_12 : decode cX4_tellDouble 12 = .ok (.invokevirtual 254, 3) := by decide +kernel
theorem dX4_tellDouble_15 : decode cX4_tellDouble 15 = .ok (.iadd, 1) := by decide +kernel
theorem dX4_tellDouble_16 : decode cX4_tellDouble 16 = .ok (.ireturn, 1) := by decide +kernel
theorem dX4_logLent_0 : decode cX4_logLent 0 = .ok (.aload_n 0, 1) := by decide +kernel
theorem dX4_logLent_1 : decode cX4_logLent 1 = .ok (.iconst 4, 1) := by decide +kernel
theorem dX4_logLent_2 : decode cX4_logLent 2 = .ok (.invokevirtual 293, 3) := by decide +kernel
theorem dX4_logLent_5 : decode cX4_logLent 5 = .ok (.aload_n 0, 1) := by decide +kernel
theorem dX4_logLent_6 : decode cX4_logLent 6 = .ok (.getfield 21, 3) := by decide +kernel
theorem dX4_logLent_9 : decode cX4_logLent 9 = .ok (.iload_n 1, 1) := by decide +kernel
theorem dX4_logLent_10 : decode cX4_logLent 10 = .ok (.invokevirtual 123, 3) := by decide +kernel
theorem dX4_logLent_13 : decode cX4_logLent 13 = .ok (.invokestatic 197, 3) := by decide +kernel
theorem dX4_logLent_16 : decode cX4_logLent 16 = .ok (.ireturn, 1) := by decide +kernel
theorem dX4_logDouble_0 : decode cX4_logDouble 0 = .ok (.aload_n 0, 1) := by decide +kernel
theorem dX4_logDouble_1 : decode cX4_logDouble 1 = .ok (.iconst 5, 1) := by decide +kernel
theorem dX4_logDouble_2 : decode cX4_logDouble 2 = .ok (.invokevirtual 293, 3) := by decide +kernel
theorem dX4_logDouble_5 : decode cX4_logDouble 5 = .ok (.bipush 60, 2) := by decide +kernel
theorem dX4_logDouble_7 : decode cX4_logDouble 7 = .ok (.ireturn, 1) := by decide +kernel
theorem dX5_init_0 : decode cX5_init 0 = .ok (.aload_n 0, 1) := by decide +kernel
theorem dX5_init_1 : decode cX5_init 1 = .ok (.invokespecial 1, 3) := by decide +kernel
theorem dX5_init_4 : decode cX5_init 4 = .ok (.aload_n 0, 1) := by decide +kernel
theorem dX5_init_5 : decode cX5_init 5 = .ok (.iconst 4, 1) := by decide +kernel
theorem dX5_init_6 : decode cX5_init 6 = .ok (.newarray .int, 2) := by decide +kernel
theorem dX5_init_8 : decode cX5_init 8 = .ok (.dup, 1) := by decide +kernel
theorem dX5_init_9 : decode cX5_init 9 = .ok (.iconst 0, 1) := by decide +kernel
theorem dX5_init_10 : decode cX5_init 10 = .ok (.bipush (-9), 2) := by decide +kernel
theorem dX5_init_12 : decode cX5_init 12 = .ok (.iastore, 1) := by decide +kernel
theorem dX5_init_13 : decode cX5_init 13 = .ok (.dup, 1) := by decide +kernel
theorem dX5_init_14 : decode cX5_init 14 = .ok (.iconst 1, 1) := by decide +kernel
theorem dX5_init_15 : decode cX5_init 15 = .ok (.bipush (-9), 2) := by decide +kernel
theorem dX5_init_17 : decode cX5_init 17 = .ok (.iastore, 1) := by decide +kernel
theorem dX5_init_18 : decode cX5_init 18 = .ok (.dup, 1) := by decide +kernel
theorem dX5_init_19 : decode cX5_init 19 = .ok (.iconst 2, 1) := by decide +kernel
theorem dX5_init_20 : decode cX5_init 20 = .ok (.bipush (-9), 2) := by decide +kernel
theorem dX5_init_22 : decode cX5_init 22 = .ok (.iastore, 1) := by decide +kernel
theorem dX5_init_23 : decode cX5_init 23 = .ok (.dup, 1) := by decide +kernel
theorem dX5_init_24 : decode cX5_init 24 = .ok (.iconst 3, 1) := by decide +kernel
theorem dX5_init_25 : decode cX5_init 25 = .ok (.bipush (-9), 2) := by decide +kernel
theorem dX5_init_27 : decode cX5_init 27 = .ok (.iastore, 1) := by decide +kernel
theorem dX5_init_28 : decode cX5_init 28 = .ok (.putfield 9, 3) := by decide +kernel
theorem dX5_init_31 : decode cX5_init 31 = .ok (.aload_n 0, 1) := by decide +kernel
theorem dX5_init_32 : decode cX5_init 32 = .ok (.iconst 4, 1) := by decide +kernel
theorem dX5_init_33 : decode cX5_init 33 = .ok (.newarray .int, 2) := by decide +kernel
theorem dX5_init_35 : decode cX5_init 35 = .ok (.putfield 13, 3) := by decide +kernel
theorem dX5_init_38 : decode cX5_init 38 = .ok (.aload_n 0, 1) := by decide +kernel
theorem dX5_init_39 : decode cX5_init 39 = .ok (.sipush 240, 3) := by decide +kernel
theorem dX5_init_42 : decode cX5_init 42 = .ok (.newarray .int, 2) := by decide +kernel
theorem dX5_init_44 : decode cX5_init 44 = .ok (.putfield 16, 3) := by decide +kernel
theorem dX5_init_47 : decode cX5_init 47 = .ok (.aload_n 0, 1) := by decide +kernel
theorem dX5_init_48 : decode cX5_init 48 = .ok (.iconst 5, 1) := by decide +kernel
theorem dX5_init_49 : decode cX5_init 49 = .ok (.newarray .int, 2) := by decide +kernel
theorem dX5_init_51 : decode cX5_init 51 = .ok (.putfield 19, 3) := by decide +kernel
theorem dX5_init_54 : decode cX5_init 54 = .ok (.aload_n 0, 1) := by decide +kernel
theorem dX5_init_55 : decode cX5_init 55 = .ok (.iconst 5, 1) := by decide +kernel
theorem dX5_init_56 : decode cX5_init 56 = .ok (.newarray .int, 2) := by decide +kernel
theorem dX5_init_58 : decode cX5_init 58 = .ok (.putfield 22, 3) := by decide +kernel
theorem dX5_init_61 : decode cX5_init 61 = .ok (.aload_n 0, 1) := by decide +kernel
theorem dX5_init_62 : decode cX5_init 62 = .ok (.iconst 5, 1) := by decide +kernel
theorem dX5_init_63 : decode cX5_init 63 = .ok (.newarray .int, 2) := by decide +kernel
theorem dX5_init_65 : decode cX5_init 65 = .ok (.putfield 25, 3) := by decide +kernel
theorem dX5_init_68 : decode cX5_init 68 = .ok (.aload_n 0, 1) := by decide +kernel
theorem dX5_init_69 : decode cX5_init 69 = .ok (.bipush 7, 2) := by decide +kernel
theorem dX5_init_71 : decode cX5_init 71 = .ok (.newarray .int, 2) := by decide +kernel
theorem dX5_init_73 : decode cX5_init 73 = .ok (.putfield 28, 3) := by decide +kernel
theorem dX5_init_76 : decode cX5_init 76 = .ok (.aload_n 0, 1) := by decide +kernel
theorem dX5_init_77 : decode cX5_init 77 = .ok (.bipush 7, 2) := by decide +kernel
theorem dX5_init_79 : decode cX5_init 79 = .ok (.newarray .int, 2) := by decide +kernel
theorem dX5_init_81 : decode cX5_init 81 = .ok (.putfield 31, 3) := by decide +kernel
theorem dX5_init_84 : decode cX5_init 84 = .ok (.aload_n 0, 1) := by decide +kernel
theorem dX5_init_85 : decode cX5_init 85 = .ok (.bipush 7, 2) := by decide +kernel
theorem dX5_init_87 : decode cX5_init 87 = .ok (.newarray .int, 2) := by decide +kernel
theorem dX5_init_89 : decode cX5_init 89 = .ok (.putfield 34, 3) := by decide +kernel
theorem dX5_init_92 : decode cX5_init 92 = .ok (.aload_n 0, 1) := by decide +kernel
theorem dX5_init_93 : decode cX5_init 93 = .ok (.bipush 7, 2) := by decide +kernel
theorem dX5_init_95 : decode cX5_init 95 = .ok (.newarray .int, 2) := by decide +kernel
theorem dX5_init_97 : decode cX5_init 97 = .ok (.putfield 37, 3) := by decide +kernel
theorem dX5_init_100 : decode cX5_init 100 = .ok (.aload_n 0, 1) := by decide +kernel
theorem dX5_init_101 : decode cX5_init 101 = .ok (.bipush 15, 2) := by decide +kernel
theorem dX5_init_103 : decode cX5_init 103 = .ok (.newarray .int, 2) := by decide +kernel
theorem dX5_init_105 : decode cX5_init 105 = .ok (.putfield 40, 3) := by decide +kernel
theorem dX5_init_108 : decode cX5_init 108 = .ok (.aload_n 0, 1) := by decide +kernel
theorem dX5_init_109 : decode cX5_init 109 = .ok (.bipush 28, 2) := by decide +kernel
theorem dX5_init_111 : decode cX5_init 111 = .ok (.newarray .int, 2) := by decide +kernel
theorem dX5_init_113 : decode cX5_init 113 = .ok (.putfield 43, 3) := by decide +kernel
theorem dX5_init_116 : decode cX5_init 116 = .ok (.aload_n 0, 1) := by decide +kernel
theorem dX5_init_117 : decode cX5_init 117 = .ok (.iconst 5, 1) := by decide +kernel
theorem dX5_init_118 : decode cX5_init 118 = .ok (.newarray .int, 2) := by decide +kernel
theorem dX5_init_120 : decode cX5_init 120 = .ok (.putfield 46, 3) := by decide +kernel
theorem dX5_init_123 : decode cX5_init 123 = .ok (.aload_n 0, 1) := by decide +kernel
theorem dX5_init_124 : decode cX5_init 124 = .ok (.bipush 20, 2) := by decide +kernel
theorem dX5_init_126 : decode cX5_init 126 = .ok (.newarray .int, 2) := by decide +kernel
theorem dX5_init_128 : decode cX5_init 128 = .ok (.putfield 49, 3) := by decide +kernel
theorem dX5_init_131 : decode cX5_init 131 = .ok (.aload_n 0, 1) := by decide +kernel
theorem dX5_init_132 : decode cX5_init 132 = .ok (.bipush 26, 2) := by decide +kernel
theorem dX5_init_134 : decode cX5_init 134 = .ok (.newarray .int, 2) := by decide +kernel
theorem dX5_init_136 : decode cX5_init 136 = .ok (.putfield 52, 3) := by decide +kernel
theorem dX5_init_139 : decode cX5_init 139 = .ok (.aload_n 0, 1) := by decide +kernel
theorem dX5_init_140 : decode cX5_init 140 = .ok (.bipush 7, 2) := by decide +kernel
theorem dX5_init_142 : decode cX5_init 142 = .ok (.newarray .int, 2) := by decide +kernel
theorem dX5_init_144 : decode cX5_init 144 = .ok (.putfield 55, 3) := by decide +kernel
theorem dX5_init_147 : decode cX5_init 147 = .ok (.aload_n 0, 1) := by decide +kernel
theorem dX5_init_148 : decode cX5_init 148 = .ok (.bipush 8, 2) := by decide +kernel
theorem dX5_init_150 : decode cX5_init 150 = .ok (.newarray .int, 2) := by decide +kernel
theorem dX5_init_152 : decode cX5_init 152 = .ok (.putfield 58, 3) := by decide +kernel
theorem dX5_init_155 : decode cX5_init 155 = .ok (.return_, 1) := by decide +kernel
theorem dX5_fails_0 : decode cX5_fails 0 = .ok (.aload_n 0, 1) := by decide +kernel
theorem dX5_fails_1 : decode cX5_fails 1 = .ok (.iload_n 1, 1) := by decide +kernel
theorem dX5_fails_2 : decode cX5_fails 2 = .ok (.putfield 61, 3) := by decide +kernel
theorem dX5_fails_5 : decode cX5_fails 5 = .ok (.bipush (-10), 2) := by decide +kernel
theorem dX5_fails_7 : decode cX5_fails 7 = .ok (.iload_n 1, 1) := by decide +kernel
theorem dX5_fails_8 : decode cX5_fails 8 = .ok (.isub, 1) := by decide +kernel
theorem dX5_fails_9 : decode cX5_fails 9 = .ok (.ireturn, 1) := by decide +kernel
theorem dX5_lost_0 : decode cX5_lost 0 = .ok (.aload_n 0, 1) := by decide +kernel
theorem dX5_lost_1 : decode cX5_lost 1 = .ok (.iload_n 1, 1) := by decide +kernel
theorem dX5_lost_2 : decode cX5_lost 2 = .ok (.putfield 61, 3) := by decide +kernel
theorem dX5_lost_5 : decode cX5_lost 5 = .ok (.ldc2_w 65, 3) := by decide +kernel
theorem dX5_lost_8 : decode cX5_lost 8 = .ok (.lreturn, 1) := by decide +kernel
theorem dX5_within_0 : decode cX5_within 0 = .ok (.iload_n 0, 1) := by decide +kernel
theorem dX5_within_1 : decode cX5_within 1 = .ok (.iload_n 1, 1) := by decide +kernel
theorem dX5_within_2 : decode cX5_within 2 = .ok (.if_icmp .lt 12, 3) := by decide +kernel
theorem dX5_within_5 : decode cX5_within 5 = .ok (.iload_n 0, 1) := by decide +kernel
theorem dX5_within_6 : decode cX5_within 6 = .ok (.iload_n 2, 1) := by decide +kernel
theorem dX5_within_7 : decode cX5_within 7 = .ok (.if_icmp .gt 7, 3) := by decide +kernel
theorem dX5_within_10 : decode cX5_within 10 = .ok (.iconst 1, 1) := by decide +kernel
theorem dX5_within_11 : decode cX5_within 11 = .ok (.goto 4, 3) := by decide +kernel
theorem dX5_within_14 : decode cX5_within 14 = .ok (.iconst 0, 1) := by decide +kernel
theorem dX5_within_15 : decode cX5_within 15 = .ok (.ireturn, 1) := by decide +kernel
theorem dX5_isSheet_0 : decode cX5_isSheet 0 = .ok (.iload_n 0, 1) := by decide +kernel
theorem dX5_isSheet_1 : decode cX5_isSheet 1 = .ok (.iconst 0, 1) := by decide +kernel
theorem dX5_isSheet_2 : decode cX5_isSheet 2 = .ok (.iconst 3, 1) := by decide +kernel
theorem dX5_isSheet_3 : decode cX5_isSheet 3 = .ok (.invokestatic 67, 3) := by decide +kernel
theorem dX5_isSheet_6 : decode cX5_isSheet 6 = .ok (.ireturn, 1) := by decide +kernel
theorem dX5_isSort_0 : decode cX5_isSort 0 = .ok (.iload_n 0, 1) := by decide +kernel
theorem dX5_isSort_1 : decode cX5_isSort 1 = .ok (.iconst 0, 1) := by decide +kernel
theorem dX5_isSort_2 : decode cX5_isSort 2 = .ok (.iconst 2, 1) := by decide +kernel
theorem dX5_isSort_3 : decode cX5_isSort 3 = .ok (.invokestatic 67, 3) := by decide +kernel
theorem dX5_isSort_6 : decode cX5_isSort 6 = .ok (.ireturn, 1) := by decide +kernel
theorem dX5_against_0 : decode cX5_against 0 = .ok (.aload_n 0, 1) := by decide +kernel
theorem dX5_against_1 : decode cX5_against 1 = .ok (.getfield 9, 3) := by decide +kernel
theorem dX5_against_4 : decode cX5_against 4 = .ok (.iload_n 1, 1) := by decide +kernel
theorem dX5_against_5 : decode cX5_against 5 = .ok (.iaload, 1) := by decide +kernel
theorem dX5_against_6 : decode cX5_against 6 = .ok (.bipush (-9), 2) := by decide +kernel
theorem dX5_against_8 : decode cX5_against 8 = .ok (.if_icmp .eq 15, 3) := by decide +kernel
theorem dX5_against_11 : decode cX5_against 11 = .ok (.aload_n 0, 1) := by decide +kernel
theorem dX5_against_12 : decode cX5_against 12 = .ok (.getfield 9, 3) := by decide +kernel
theorem dX5_against_15 : decode cX5_against 15 = .ok (.iload_n 1, 1) := by decide +kernel
theorem dX5_against_16 : decode cX5_against 16 = .ok (.iaload, 1) := by decide +kernel
theorem dX5_against_17 : decode cX5_against 17 = .ok (.iload_n 2, 1) := by decide +kernel
theorem dX5_against_18 : decode cX5_against 18 = .ok (.if_icmp .eq 5, 3) := by decide +kernel
theorem dX5_against_21 : decode cX5_against 21 = .ok (.iconst 2, 1) := by decide +kernel
theorem dX5_against_22 : decode cX5_against 22 = .ok (.ireturn, 1) := by decide +kernel
theorem dX5_against_23 : decode cX5_against 23 = .ok (.aload_n 0, 1) := by decide +kernel
theorem dX5_against_24 : decode cX5_against 24 = .ok (.getfield 9, 3) := by decide +kernel
theorem dX5_against_27 : decode cX5_against 27 = .ok (.iload_n 1, 1) := by decide +kernel
theorem dX5_against_28 : decode cX5_against 28 = .ok (.iaload, 1) := by decide +kernel
theorem dX5_against_29 : decode cX5_against 29 = .ok (.bipush (-9), 2) := by decide +kernel
theorem dX5_against_31 : decode cX5_against 31 = .ok (.if_icmp .ne 5, 3) := by decide +kernel
theorem dX5_against_34 : decode cX5_against 34 = .ok (.iconst 1, 1) := by decide +kernel
theorem dX5_against_35 : decode cX5_against 35 = .ok (.ireturn, 1) := by decide +kernel
theorem dX5_against_36 : decode cX5_against 36 = .ok (.iload 4, 2) := by decide +kernel
theorem dX5_against_38 : decode cX5_against 38 = .ok (.ifCond .ge 5, 3) := by decide +kernel
theorem dX5_against_41 : decode cX5_against 41 = .ok (.iconst 4, 1) := by decide +kernel
theorem dX5_against_42 : decode cX5_against 42 = .ok (.ireturn, 1) := by decide +kernel
theorem dX5_against_43 : decode cX5_against 43 = .ok (.iload_n 3, 1) := by decide +kernel
theorem dX5_against_44 : decode cX5_against 44 = .ok (.ifCond .lt 26, 3) := by decide +kernel
theorem dX5_against_47 : decode cX5_against 47 = .ok (.iload_n 3, 1) := by decide +kernel
theorem dX5_against_48 : decode cX5_against 48 = .ok (.aload_n 0, 1) := by decide +kernel
theorem dX5_against_49 : decode cX5_against 49 = .ok (.getfield 13, 3) := by decide +kernel
theorem dX5_against_52 : decode cX5_against 52 = .ok (.iload_n 1, 1) := by decide +kernel
theorem dX5_against_53 : decode cX5_against 53 = .ok (.iaload, 1) := by decide +kernel
theorem dX5_against_54 : decode cX5_against 54 = .ok (.if_icmp .gt 16, 3) := by decide +kernel
theorem dX5_against_57 : decode cX5_against 57 = .ok (.iload 4, 2) := by decide +kernel
theorem dX5_against_59 : decode cX5_against 59 = .ok (.aload_n 0, 1) := by decide +kernel
theorem dX5_against_60 : decode cX5_against 60 = .ok (.getfield 13, 3) := by decide +kernel
theorem dX5_against_63 : decode cX5_against 63 = .ok (.iload_n 1, 1) := by decide +kernel
theorem dX5_against_64 : decode cX5_against 64 = .ok (.iaload, 1) := by decide +kernel
theorem dX5_against_65 : decode cX5_against 65 = .ok (.iload_n 3, 1) := by decide +kernel
theorem dX5_against_66 : decode cX5_against 66 = .ok (.isub, 1) := by decide +kernel
theorem dX5_against_67 : decode cX5_against 67 = .ok (.if_icmp .le 7, 3) := by decide +kernel
theorem dX5_against_70 : decode cX5_against 70 = .ok (.iconst 3, 1) := by decide +kernel
theorem dX5_against_71 : decode cX5_against 71 = .ok (.goto 4, 3) := by decide +kernel
theorem dX5_against_74 : decode cX5_against 74 = .ok (.iconst 0, 1) := by decide +kernel
theorem dX5_against_75 : decode cX5_against 75 = .ok (.ireturn, 1) := by decide +kernel
theorem dX5_isStep_0 : decode cX5_isStep 0 = .ok (.iload_n 1, 1) := by decide +kernel
theorem dX5_isStep_1 : decode cX5_isStep 1 = .ok (.ifCond .lt 15, 3) := by decide +kernel
theorem dX5_isStep_4 : decode cX5_isStep 4 = .ok (.iload_n 1, 1) := by decide +kernel
theorem dX5_isStep_5 : decode cX5_isStep 5 = .ok (.aload_n 0, 1) := by decide +kernel
theorem dX5_isStep_6 : decode cX5_isStep 6 = .ok (.getfield 71, 3) := by decide +kernel
theorem dX5_isStep_9 : decode cX5_isStep 9 = .ok (.if_icmp .ge 7, 3) := by decide +kernel
theorem dX5_isStep_12 : decode cX5_isStep 12 = .ok (.iconst 1, 1) := by decide +kernel
theorem dX5_isStep_13 : decode cX5_isStep 13 = .ok (.goto 4, 3) := by decide +kernel
theorem dX5_isStep_16 : decode cX5_isStep 16 = .ok (.iconst 0, 1) := by decide +kernel
theorem dX5_isStep_17 : decode cX5_isStep 17 = .ok (.ireturn, 1) := by decide +kernel
theorem dX5_isTest_0 : decode cX5_isTest 0 = .ok (.iload_n 1, 1) := by decide +kernel
theorem dX5_isTest_1 : decode cX5_isTest 1 = .ok (.ifCond .lt 15, 3) := by decide +kernel
theorem dX5_isTest_4 : decode cX5_isTest 4 = .ok (.iload_n 1, 1) := by decide +kernel
theorem dX5_isTest_5 : decode cX5_isTest 5 = .ok (.aload_n 0, 1) := by decide +kernel
theorem dX5_isTest_6 : decode cX5_isTest 6 = .ok (.getfield 74, 3) := by decide +kernel
theorem dX5_isTest_9 : decode cX5_isTest 9 = .ok (.if_icmp .ge 7, 3) := by decide +kernel
theorem dX5_isTest_12 : decode cX5_isTest 12 = .ok (.iconst 1, 1) := by decide +kernel
theorem dX5_isTest_13 : decode cX5_isTest 13 = .ok (.goto 4, 3) := by decide +kernel
theorem dX5_isTest_16 : decode cX5_isTest 16 = .ok (.iconst 0, 1) := by decide +kernel
theorem dX5_isTest_17 : decode cX5_isTest 17 = .ok (.ireturn, 1) := by decide +kernel
theorem dX5_mutants_0 : decode cX5_mutants 0 = .ok (.iconst 4, 1) := by decide +kernel
theorem dX5_mutants_1 : decode cX5_mutants 1 = .ok (.aload_n 0, 1) := by decide +kernel
theorem dX5_mutants_2 : decode cX5_mutants 2 = .ok (.getfield 71, 3) := by decide +kernel
theorem dX5_mutants_5 : decode cX5_mutants 5 = .ok (.imul, 1) := by decide +kernel
theorem dX5_mutants_6 : decode cX5_mutants 6 = .ok (.ireturn, 1) := by decide +kernel
theorem dX5_isMutant_0 : decode cX5_isMutant 0 = .ok (.iload_n 1, 1) := by decide +kernel
theorem dX5_isMutant_1 : decode cX5_isMutant 1 = .ok (.ifCond .lt 15, 3) := by decide +kernel
theorem dX5_isMutant_4 : decode cX5_isMutant 4 = .ok (.iload_n 1, 1) := by decide +kernel
theorem dX5_isMutant_5 : decode cX5_isMutant 5 = .ok (.aload_n 0, 1) := by decide +kernel
theorem dX5_isMutant_6 : decode cX5_isMutant 6 = .ok (.invokevirtual 77, 3) := by decide +kernel
theorem dX5_isMutant_9 : decode cX5_isMutant 9 = .ok (.if_icmp .ge 7, 3) := by decide +kernel
theorem dX5_isMutant_12 : decode cX5_isMutant 12 = .ok (.iconst 1, 1) := by decide +kernel
theorem dX5_isMutant_13 : decode cX5_isMutant 13 = .ok (.goto 4, 3) := by decide +kernel
theorem dX5_isMutant_16 : decode cX5_isMutant 16 = .ok (.iconst 0, 1) := by decide +kernel
theorem dX5_isMutant_17 : decode cX5_isMutant 17 = .ok (.ireturn, 1) := by decide +kernel
theorem dX5_size_0 : decode cX5_size 0 = .ok (.iconst 0, 1) := by decide +kernel
theorem dX5_size_1 : decode cX5_size 1 = .ok (.istore_n 1, 1) := by decide +kernel
theorem dX5_size_2 : decode cX5_size 2 = .ok (.iload_n 0, 1) := by decide +kernel
theorem dX5_size_3 : decode cX5_size 3 = .ok (.istore_n 2, 1) := by decide +kernel
theorem dX5_size_4 : decode cX5_size 4 = .ok (.iload_n 2, 1) := by decide +kernel
theorem dX5_size_5 : decode cX5_size 5 = .ok (.ifCond .le 16, 3) := by decide +kernel
theorem dX5_size_8 : decode cX5_size 8 = .ok (.iload_n 1, 1) := by decide +kernel
theorem dX5_size_9 : decode cX5_size 9 = .ok (.iload_n 2, 1) := by decide +kernel
theorem dX5_size_10 : decode cX5_size 10 = .ok (.iconst 1, 1) := by decide +kernel
theorem dX5_size_11 : decode cX5_size 11 = .ok (.iand, 1) := by decide +kernel
theorem dX5_size_12 : decode cX5_size 12 = .ok (.iadd, 1) := by decide +kernel
theorem dX5_size_13 : decode cX5_size 13 = .ok (.istore_n 1, 1) := by decide +kernel
theorem dX5_size_14 : decode cX5_size 14 = .ok (.iload_n 2, 1) := by decide +kernel
theorem dX5_size_15 : decode cX5_size 15 = .ok (.iconst 1, 1) := by decide +kernel
theorem dX5_size_16 : decode cX5_size 16 = .ok (.ishr, 1) := by decide +kernel
theorem dX5_size_17 : decode cX5_size 17 = .ok (.istore_n 2, 1) := by decide +kernel
theorem dX5_size_18 : decode cX5_size 18 = .ok (.goto (-14), 3) := by decide +kernel
theorem dX5_size_21 : decode cX5_size 21 = .ok (.iload_n 1, 1) := by decide +kernel
theorem dX5_size_22 : decode cX5_size 22 = .ok (.ireturn, 1) := by decide +kernel
theorem dX5_isSign_0 : decode cX5_isSign 0 = .ok (.aload_n 0, 1) := by decide +kernel
theorem dX5_isSign_1 : decode cX5_isSign 1 = .ok (.getfield 81, 3) := by decide +kernel
theorem dX5_isSign_4 : decode cX5_isSign 4 = .ok (.iload_n 1, 1) := by decide +kernel
theorem dX5_isSign_5 : decode cX5_isSign 5 = .ok (.if_icmp .ge 16, 3) := by decide +kernel
theorem dX5_isSign_8 : decode cX5_isSign 8 = .ok (.aload_n 0, 1) := by decide +kernel
theorem dX5_isSign_9 : decode cX5_isSign 9 = .ok (.getfield 16, 3) := by decide +kernel
theorem dX5_isSign_12 : decode cX5_isSign 12 = .ok (.aload_n 0, 1) := by decide +kernel
theorem dX5_isSign_13 : decode cX5_isSign 13 = .ok (.getfield 81, 3) := by decide +kernel
theorem dX5_isSign_16 : decode cX5_isSign 16 = .ok (.iaload, 1) := by decide +kernel
theorem dX5_isSign_17 : decode cX5_isSign 17 = .ok (.iload_n 2, 1) := by decide +kernel
theorem dX5_isSign_18 : decode cX5_isSign 18 = .ok (.if_icmp .eq 5, 3) := by decide +kernel
theorem dX5_isSign_21 : decode cX5_isSign 21 = .ok (.iconst 0, 1) := by decide +kernel
theorem dX5_isSign_22 : decode cX5_isSign 22 = .ok (.ireturn, 1) := by decide +kernel
theorem dX5_isSign_23 : decode cX5_isSign 23 = .ok (.aload_n 0, 1) := by decide +kernel
theorem dX5_isSign_24 : decode cX5_isSign 24 = .ok (.dup, 1) := by decide +kernel
theorem dX5_isSign_25 : decode cX5_isSign 25 = .ok (.getfield 81, 3) := by decide +kernel
theorem dX5_isSign_28 : decode cX5_isSign 28 = .ok (.iconst 1, 1) := by decide +kernel
theorem dX5_isSign_29 : decode cX5_isSign 29 = .ok (.iadd, 1) := by decide +kernel
theorem dX5_isSign_30 : decode cX5_isSign 30 = .ok (.putfield 81, 3) := by decide +kernel
theorem dX5_isSign_33 : decode cX5_isSign 33 = .ok (.iconst 1, 1) := by decide +kernel
theorem dX5_isSign_34 : decode cX5_isSign 34 = .ok (.ireturn, 1) := by decide +kernel
theorem dX5_program_0 : decode cX5_program 0 = .ok (.aload_n 0, 1) := by decide +kernel
theorem dX5_program_1 : decode cX5_program 1 = .ok (.iconst 0, 1) := by decide +kernel
theorem dX5_program_2 : decode cX5_program 2 = .ok (.putfield 61, 3) := by decide +kernel
theorem dX5_program_5 : decode cX5_program 5 = .ok (.iload_n 1, 1) := by decide +kernel
theorem dX5_program_6 : decode cX5_program 6 = .ok (.invokestatic 84, 3) := by decide +kernel
theorem dX5_program_9 : decode cX5_program 9 = .ok (.ifCond .ne 5, 3) := by decide +kernel
theorem dX5_program_12 : decode cX5_program 12 = .ok (.iconst (-1), 1) := by decide +kernel
theorem dX5_program_13 : decode cX5_program 13 = .ok (.ireturn, 1) := by decide +kernel
theorem dX5_program_14 : decode cX5_program 14 = .ok (.iload_n 2, 1) := by decide +kernel
theorem dX5_program_15 : decode cX5_program 15 = .ok (.invokestatic 88, 3) := by decide +kernel
theorem dX5_program_18 : decode cX5_program 18 = .ok (.ifCond .ne 6, 3) := by decide +kernel
theorem dX5_program_21 : decode cX5_program 21 = .ok (.bipush (-2), 2) := by decide +kernel
theorem dX5_program_23 : decode cX5_program 23 = .ok (.ireturn, 1) := by decide +kernel
theorem dX5_program_24 : decode cX5_program 24 = .ok (.aload_n 0, 1) := by decide +kernel
theorem dX5_program_25 : decode cX5_program 25 = .ok (.iload_n 1, 1) := by decide +kernel
theorem dX5_program_26 : decode cX5_program 26 = .ok (.iload_n 2, 1) := by decide +kernel
theorem dX5_program_27 : decode cX5_program 27 = .ok (.iload_n 3, 1) := by decide +kernel
theorem dX5_program_28 : decode cX5_program 28 = .ok (.iload 4, 2) := by decide +kernel
theorem dX5_program_30 : decode cX5_program 30 = .ok (.invokevirtual 91, 3) := by decide +kernel
theorem dX5_program_33 : decode cX5_program 33 = .ok (.istore 5, 2) := by decide +kernel
theorem dX5_program_35 : decode cX5_program 35 = .ok (.iload 5, 2) := by decide +kernel
theorem dX5_program_37 : decode cX5_program 37 = .ok (.ifCond .eq 10, 3) := by decide +kernel
theorem dX5_program_40 : decode cX5_program 40 = .ok (.aload_n 0, 1) := by decide +kernel
theorem dX5_program_41 : decode cX5_program 41 = .ok (.iload 5, 2) := by decide +kernel
theorem dX5_program_43 : decode cX5_program 43 = .ok (.invokevirtual 95, 3) := by decide +kernel
theorem dX5_program_46 : decode cX5_program 46 = .ok (.ireturn, 1) := by decide +kernel
theorem dX5_program_47 : decode cX5_program 47 = .ok (.bipush 60, 2) := by decide +kernel
theorem dX5_program_49 : decode cX5_program 49 = .ok (.iload_n 1, 1) := by decide +kernel
theorem dX5_program_50 : decode cX5_program 50 = .ok (.imul, 1) := by decide +kernel
theorem dX5_program_51 : decode cX5_program 51 = .ok (.iload_n 3, 1) := by decide +kernel
theorem dX5_program_52 : decode cX5_program 52 = .ok (.iadd, 1) := by decide +kernel
theorem dX5_program_53 : decode cX5_program 53 = .ok (.istore 6, 2) := by decide +kernel
theorem dX5_program_55 : decode cX5_program 55 = .ok (.aload_n 0, 1) := by decide +kernel
theorem dX5_program_56 : decode cX5_program 56 = .ok (.iload 6, 2) := by decide +kernel
theorem dX5_program_58 : decode cX5_program 58 = .ok (.putfield 81, 3) := by decide +kernel
theorem dX5_program_61 : decode cX5_program 61 = .ok (.aload_n 0, 1) := by decide +kernel
theorem dX5_program_62 : decode cX5_program 62 = .ok (.iload 6, 2) := by decide +kernel
theorem dX5_program_64 : decode cX5_program 64 = .ok (.iload 4, 2) := by decide +kernel
theorem dX5_program_66 : decode cX5_program 66 = .ok (.iadd, 1) := by decide +kernel
theorem dX5_program_67 : decode cX5_program 67 = .ok (.invokevirtual 99, 3) := by decide +kernel
theorem dX5_program_70 : decode cX5_program 70 = .ok (.ifCond .ne 14, 3) := by decide +kernel
theorem dX5_program_73 : decode cX5_program 73 = .ok (.bipush (-100), 2) := by decide +kernel
theorem dX5_program_75 : decode cX5_program 75 = .ok (.aload_n 0, 1) := by decide +kernel
theorem dX5_program_76 : decode cX5_program 76 = .ok (.getfield 81, 3) := by decide +kernel
theorem dX5_program_79 : decode cX5_program 79 = .ok (.iload 6, 2) := by decide +kernel
theorem dX5_program_81 : decode cX5_program 81 = .ok (.isub, 1) := by decide +kernel
theorem dX5_program_82 : decode cX5_program 82 = .ok (.isub, 1) := by decide +kernel
theorem dX5_program_83 : decode cX5_program 83 = .ok (.ireturn, 1) := by decide +kernel
theorem dX5_program_84 : decode cX5_program 84 = .ok (.aload_n 0, 1) := by decide +kernel
theorem dX5_program_85 : decode cX5_program 85 = .ok (.aload_n 0, 1) := by decide +kernel
theorem dX5_program_86 : decode cX5_program 86 = .ok (.getfield 102, 3) := by decide +kernel
theorem dX5_program_89 : decode cX5_program 89 = .ok (.putfield 71, 3) := by decide +kernel
theorem dX5_program_92 : decode cX5_program 92 = .ok (.aload_n 0, 1) := by decide +kernel
theorem dX5_program_93 : decode cX5_program 93 = .ok (.aload_n 0, 1) := by decide +kernel
theorem dX5_program_94 : decode cX5_program 94 = .ok (.getfield 105, 3) := by decide +kernel
theorem dX5_program_97 : decode cX5_program 97 = .ok (.putfield 74, 3) := by decide +kernel
theorem dX5_program_100 : decode cX5_program 100 = .ok (.iconst 0, 1) := by decide +kernel
theorem dX5_program_101 : decode cX5_program 101 = .ok (.istore 7, 2) := by decide +kernel
theorem dX5_program_103 : decode cX5_program 103 = .ok (.iload 7, 2) := by decide +kernel
theorem dX5_program_105 : decode cX5_program 105 = .ok (.aload_n 0, 1) := by decide +kernel
theorem dX5_program_106 : decode cX5_program 106 = .ok (.getfield 71, 3) := by decide +kernel
theorem dX5_program_109 : decode cX5_program 109 = .ok (.if_icmp .ge 61, 3) := by decide +kernel
theorem dX5_program_112 : decode cX5_program 112 = .ok (.aload_n 0, 1) := by decide +kernel
theorem dX5_program_113 : decode cX5_program 113 = .ok (.getfield 19, 3) := by decide +kernel
theorem dX5_program_116 : decode cX5_program 116 = .ok (.iload 7, 2) := by decide +kernel
theorem dX5_program_118 : decode cX5_program 118 = .ok (.aload_n 0, 1) := by decide +kernel
theorem dX5_program_119 : decode cX5_program 119 = .ok (.getfield 40, 3) := by decide +kernel
theorem dX5_program_122 : decode cX5_program 122 = .ok (.iconst 3, 1) := by decide +kernel
theorem dX5_program_123 : decode cX5_program 123 = .ok (.iload 7, 2) := by decide +kernel
theorem dX5_program_125 : decode cX5_program 125 = .ok (.imul, 1) := by decide +kernel
theorem dX5_program_126 : decode cX5_program 126 = .ok (.iaload, 1) := by decide +kernel
theorem dX5_program_127 : decode cX5_program 127 = .ok (.iastore, 1) := by decide +kernel
theorem dX5_program_128 : decode cX5_program 128 = .ok (.aload_n 0, 1) := by decide +kernel
theorem dX5_program_129 : decode cX5_program 129 = .ok (.getfield 22, 3) := by decide +kernel
theorem dX5_program_132 : decode cX5_program 132 = .ok (.iload 7, 2) := by decide +kernel
theorem dX5_program_134 : decode cX5_program 134 = .ok (.aload_n 0, 1) := by decide +kernel
theorem dX5_program_135 : decode cX5_program 135 = .ok (.getfield 40, 3) := by decide +kernel
theorem dX5_program_138 : decode cX5_program 138 = .ok (.iconst 3, 1) := by decide +kernel
theorem dX5_program_139 : decode cX5_program 139 = .ok (.iload 7, 2) := by decide +kernel
theorem dX5_program_141 : decode cX5_program 141 = .ok (.imul, 1) := by decide +kernel
theorem dX5_program_142 : decode cX5_program 142 = .ok (.iconst 1, 1) := by decide +kernel
theorem dX5_program_143 : decode cX5_program 143 = .ok (.iadd, 1) := by decide +kernel
theorem dX5_program_144 : decode cX5_program 144 = .ok (.iaload, 1) := by decide +kernel
theorem dX5_program_145 : decode cX5_program 145 = .ok (.iastore, 1) := by decide +kernel
theorem dX5_program_146 : decode cX5_program 146 = .ok (.aload_n 0, 1) := by decide +kernel
theorem dX5_program_147 : decode cX5_program 147 = .ok (.getfield 25, 3) := by decide +kernel
theorem dX5_program_150 : decode cX5_program 150 = .ok (.iload 7, 2) := by decide +kernel
theorem dX5_program_152 : decode cX5_program 152 = .ok (.aload_n 0, 1) := by decide +kernel
theorem dX5_program_153 : decode cX5_program 153 = .ok (.getfield 40, 3) := by decide +kernel
theorem dX5_program_156 : decode cX5_program 156 = .ok (.iconst 3, 1) := by decide +kernel
theorem dX5_program_157 : decode cX5_program 157 = .ok (.iload 7, 2) := by decide +kernel
theorem dX5_program_159 : decode cX5_program 159 = .ok (.imul, 1) := by decide +kernel
theorem dX5_program_160 : decode cX5_program 160 = .ok (.iconst 2, 1) := by decide +kernel
theorem dX5_program_161 : decode cX5_program 161 = .ok (.iadd, 1) := by decide +kernel
theorem dX5_program_162 : decode cX5_program 162 = .ok (.iaload, 1) := by decide +kernel
theorem dX5_program_163 : decode cX5_program 163 = .ok (.iastore, 1) := by decide +kernel
theorem dX5_program_164 : decode cX5_program 164 = .ok (.iinc 7 1, 3) := by decide +kernel
theorem dX5_program_167 : decode cX5_program 167 = .ok (.goto (-64), 3) := by decide +kernel
theorem dX5_program_170 : decode cX5_program 170 = .ok (.iconst 0, 1) := by decide +kernel
theorem dX5_program_171 : decode cX5_program 171 = .ok (.istore 7, 2) := by decide +kernel
theorem dX5_program_173 : decode cX5_program 173 = .ok (.iload 7, 2) := by decide +kernel
theorem dX5_program_175 : decode cX5_program 175 = .ok (.aload_n 0, 1) := by decide +kernel
theorem dX5_program_176 : decode cX5_program 176 = .ok (.getfield 74, 3) := by decide +kernel
theorem dX5_program_179 : decode cX5_program 179 = .ok (.if_icmp .ge 79, 3) := by decide +kernel
theorem dX5_program_182 : decode cX5_program 182 = .ok (.aload_n 0, 1) := by decide +kernel
theorem dX5_program_183 : decode cX5_program 183 = .ok (.getfield 28, 3) := by decide +kernel
theorem dX5_program_186 : decode cX5_program 186 = .ok (.iload 7, 2) := by decide +kernel
theorem dX5_program_188 : decode cX5_program 188 = .ok (.aload_n 0, 1) := by decide +kernel
theorem dX5_program_189 : decode cX5_program 189 = .ok (.getfield 43, 3) := by decide +kernel
theorem dX5_program_192 : decode cX5_program 192 = .ok (.iconst 4, 1) := by decide +kernel
theorem dX5_program_193 : decode cX5_program 193 = .ok (.iload 7, 2) := by decide +kernel
theorem dX5_program_195 : decode cX5_program 195 = .ok (.imul, 1) := by decide +kernel
theorem dX5_program_196 : decode cX5_program 196 = .ok (.iaload, 1) := by decide +kernel
theorem dX5_program_197 : decode cX5_program 197 = .ok (.iastore, 1) := by decide +kernel
theorem dX5_program_198 : decode cX5_program 198 = .ok (.aload_n 0, 1) := by decide +kernel
theorem dX5_program_199 : decode cX5_program 199 = .ok (.getfield 31, 3) := by decide +kernel
theorem dX5_program_202 : decode cX5_program 202 = .ok (.iload 7, 2) := by decide +kernel
theorem dX5_program_204 : decode cX5_program 204 = .ok (.aload_n 0, 1) := by decide +kernel
theorem dX5_program_205 : decode cX5_program 205 = .ok (.getfield 43, 3) := by decide +kernel
theorem dX5_program_208 : decode cX5_program 208 = .ok (.iconst 4, 1) := by decide +kernel
theorem dX5_program_209 : decode cX5_program 209 = .ok (.iload 7, 2) := by decide +kernel
theorem dX5_program_211 : decode cX5_program 211 = .ok (.imul, 1) := by decide +kernel
theorem dX5_program_212 : decode cX5_program 212 = .ok (.iconst 1, 1) := by decide +kernel
theorem dX5_program_213 : decode cX5_program 213 = .ok (.iadd, 1) := by decide +kernel
theorem dX5_program_214 : decode cX5_program 214 = .ok (.iaload, 1) := by decide +kernel
theorem dX5_program_215 : decode cX5_program 215 = .ok (.iastore, 1) := by decide +kernel
theorem dX5_program_216 : decode cX5_program 216 = .ok (.aload_n 0, 1) := by decide +kernel
theorem dX5_program_217 : decode cX5_program 217 = .ok (.getfield 34, 3) := by decide +kernel
theorem dX5_program_220 : decode cX5_program 220 = .ok (.iload 7, 2) := by decide +kernel
theorem dX5_program_222 : decode cX5_program 222 = .ok (.aload_n 0, 1) := by decide +kernel
theorem dX5_program_223 : decode cX5_program 223 = .ok (.getfield 43, 3) := by decide +kernel
theorem dX5_program_226 : decode cX5_program 226 = .ok (.iconst 4, 1) := by decide +kernel
theorem dX5_program_227 : decode cX5_program 227 = .ok (.iload 7, 2) := by decide +kernel
theorem dX5_program_229 : decode cX5_program 229 = .ok (.imul, 1) := by decide +kernel
theorem dX5_program_230 : decode cX5_program 230 = .ok (.iconst 2, 1) := by decide +kernel
theorem dX5_program_231 : decode cX5_program 231 = .ok (.iadd, 1) := by decide +kernel
theorem dX5_program_232 : decode cX5_program 232 = .ok (.iaload, 1) := by decide +kernel
theorem dX5_program_233 : decode cX5_program 233 = .ok (.iastore, 1) := by decide +kernel
theorem dX5_program_234 : decode cX5_program 234 = .ok (.aload_n 0, 1) := by decide +kernel
theorem dX5_program_235 : decode cX5_program 235 = .ok (.getfield 37, 3) := by decide +kernel
theorem dX5_program_238 : decode cX5_program 238 = .ok (.iload 7, 2) := by decide +kernel
theorem dX5_program_240 : decode cX5_program 240 = .ok (.aload_n 0, 1) := by decide +kernel
theorem dX5_program_241 : decode cX5_program 241 = .ok (.getfield 43, 3) := by decide +kernel
theorem dX5_program_244 : decode cX5_program 244 = .ok (.iconst 4, 1) := by decide +kernel
theorem dX5_program_245 : decode cX5_program 245 = .ok (.iload 7, 2) := by decide +kernel
theorem dX5_program_247 : decode cX5_program 247 = .ok (.imul, 1) := by decide +kernel
theorem dX5_program_248 : decode cX5_program 248 = .ok (.iconst 3, 1) := by decide +kernel
theorem dX5_program_249 : decode cX5_program 249 = .ok (.iadd, 1) := by decide +kernel
theorem dX5_program_250 : decode cX5_program 250 = .ok (.iaload, 1) := by decide +kernel
theorem dX5_program_251 : decode cX5_program 251 = .ok (.iastore, 1) := by decide +kernel
theorem dX5_program_252 : decode cX5_program 252 = .ok (.iinc 7 1, 3) := by decide +kernel
theorem dX5_program_255 : decode cX5_program 255 = .ok (.goto (-82), 3) := by decide +kernel
theorem dX5_program_258 : decode cX5_program 258 = .ok (.aload_n 0, 1) := by decide +kernel
theorem dX5_program_259 : decode cX5_program 259 = .ok (.iconst 0, 1) := by decide +kernel
theorem dX5_program_260 : decode cX5_program 260 = .ok (.putfield 108, 3) := by decide +kernel
theorem dX5_program_263 : decode cX5_program 263 = .ok (.aload_n 0, 1) := by decide +kernel
theorem dX5_program_264 : decode cX5_program 264 = .ok (.invokevirtual 77, 3) := by decide +kernel
theorem dX5_program_267 : decode cX5_program 267 = .ok (.ireturn, 1) := by decide +kernel
theorem dX5_readAll_0 : decode cX5_readAll 0 = .ok (.aload_n 0, 1) := by decide +kernel
theorem dX5_readAll_1 : decode cX5_readAll 1 = .ok (.iconst 0, 1) := by decide +kernel
theorem dX5_readAll_2 : decode cX5_readAll 2 = .ok (.putfield 102, 3) := by decide +kernel
theorem dX5_readAll_5 : decode cX5_readAll 5 = .ok (.aload_n 0, 1) := by decide +kernel
theorem dX5_readAll_6 : decode cX5_readAll 6 = .ok (.iconst 0, 1) := by decide +kernel
theorem dX5_readAll_7 : decode cX5_readAll 7 = .ok (.putfield 105, 3) := by decide +kernel
theorem dX5_readAll_10 : decode cX5_readAll 10 = .ok (.aload_n 0, 1) := by decide +kernel
theorem dX5_readAll_11 : decode cX5_readAll 11 = .ok (.iload_n 1, 1) := by decide +kernel
theorem dX5_readAll_12 : decode cX5_readAll 12 = .ok (.bipush 109, 2) := by decide +kernel
theorem dX5_readAll_14 : decode cX5_readAll 14 = .ok (.invokevirtual 111, 3) := by decide +kernel
theorem dX5_readAll_17 : decode cX5_readAll 17 = .ok (.ifCond .ne 5, 3) := by decide +kernel
theorem dX5_readAll_20 : decode cX5_readAll 20 = .ok (.iconst 0, 1) := by decide +kernel
theorem dX5_readAll_21 : decode cX5_readAll 21 = .ok (.ireturn, 1) := by decide +kernel
theorem dX5_readAll_22 : decode cX5_readAll 22 = .ok (.aload_n 0, 1) := by decide +kernel
theorem dX5_readAll_23 : decode cX5_readAll 23 = .ok (.getfield 102, 3) := by decide +kernel
theorem dX5_readAll_26 : decode cX5_readAll 26 = .ok (.ifCond .eq 33, 3) := by decide +kernel
theorem dX5_readAll_29 : decode cX5_readAll 29 = .ok (.aload_n 0, 1) := by decide +kernel
theorem dX5_readAll_30 : decode cX5_readAll 30 = .ok (.getfield 102, 3) := by decide +kernel
theorem dX5_readAll_33 : decode cX5_readAll 33 = .ok (.iconst 5, 1) := by decide +kernel
theorem dX5_readAll_34 : decode cX5_readAll 34 = .ok (.if_icmp .ge 64, 3) := by decide +kernel
theorem dX5_readAll_37 : decode cX5_readAll 37 = .ok (.aload_n 0, 1) := by decide +kernel
theorem dX5_readAll_38 : decode cX5_readAll 38 = .ok (.getfield 81, 3) := by decide +kernel
theorem dX5_readAll_41 : decode cX5_readAll 41 = .ok (.iload_n 1, 1) := by decide +kernel
theorem dX5_readAll_42 : decode cX5_readAll 42 = .ok (.if_icmp .ge 56, 3) := by decide +kernel
theorem dX5_readAll_45 : decode cX5_readAll 45 = .ok (.aload_n 0, 1) := by decide +kernel
theorem dX5_readAll_46 : decode cX5_readAll 46 = .ok (.getfield 16, 3) := by decide +kernel
theorem dX5_readAll_49 : decode cX5_readAll 49 = .ok (.aload_n 0, 1) := by decide +kernel
theorem dX5_readAll_50 : decode cX5_readAll 50 = .ok (.getfield 81, 3) := by decide +kernel
theorem dX5_readAll_53 : decode cX5_readAll 53 = .ok (.iaload, 1) := by decide +kernel
theorem dX5_readAll_54 : decode cX5_readAll 54 = .ok (.bipush 59, 2) := by decide +kernel
theorem dX5_readAll_56 : decode cX5_readAll 56 = .ok (.if_icmp .ne 42, 3) := by decide +kernel
theorem dX5_readAll_59 : decode cX5_readAll 59 = .ok (.aload_n 0, 1) := by decide +kernel
theorem dX5_readAll_60 : decode cX5_readAll 60 = .ok (.iload_n 1, 1) := by decide +kernel
theorem dX5_readAll_61 : decode cX5_readAll 61 = .ok (.bipush 59, 2) := by decide +kernel
theorem dX5_readAll_63 : decode cX5_readAll 63 = .ok (.invokevirtual 111, 3) := by decide +kernel
theorem dX5_readAll_66 : decode cX5_readAll 66 = .ok (.ifCond .eq 17, 3) := by decide +kernel
theorem dX5_readAll_69 : decode cX5_readAll 69 = .ok (.aload_n 0, 1) := by decide +kernel
theorem dX5_readAll_70 : decode cX5_readAll 70 = .ok (.iload_n 1, 1) := by decide +kernel
theorem dX5_readAll_71 : decode cX5_readAll 71 = .ok (.iconst 3, 1) := by decide +kernel
theorem dX5_readAll_72 : decode cX5_readAll 72 = .ok (.aload_n 0, 1) := by decide +kernel
theorem dX5_readAll_73 : decode cX5_readAll 73 = .ok (.getfield 102, 3) := by decide +kernel
theorem dX5_readAll_76 : decode cX5_readAll 76 = .ok (.imul, 1) := by decide +kernel
theorem dX5_readAll_77 : decode cX5_readAll 77 = .ok (.invokevirtual 115, 3) := by decide +kernel
theorem dX5_readAll_80 : decode cX5_readAll 80 = .ok (.ifCond .ne 5, 3) := by decide +kernel
theorem dX5_readAll_83 : decode cX5_readAll 83 = .ok (.iconst 0, 1) := by decide +kernel
theorem dX5_readAll_84 : decode cX5_readAll 84 = .ok (.ireturn, 1) := by decide +kernel
theorem dX5_readAll_85 : decode cX5_readAll 85 = .ok (.aload_n 0, 1) := by decide +kernel
theorem dX5_readAll_86 : decode cX5_readAll 86 = .ok (.dup, 1) := by decide +kernel
theorem dX5_readAll_87 : decode cX5_readAll 87 = .ok (.getfield 102, 3) := by decide +kernel
theorem dX5_readAll_90 : decode cX5_readAll 90 = .ok (.iconst 1, 1) := by decide +kernel
theorem dX5_readAll_91 : decode cX5_readAll 91 = .ok (.iadd, 1) := by decide +kernel
theorem dX5_readAll_92 : decode cX5_readAll 92 = .ok (.putfield 102, 3) := by decide +kernel
theorem dX5_readAll_95 : decode cX5_readAll 95 = .ok (.goto (-73), 3) := by decide +kernel
theorem dX5_readAll_98 : decode cX5_readAll 98 = .ok (.aload_n 0, 1) := by decide +kernel
theorem dX5_readAll_99 : decode cX5_readAll 99 = .ok (.getfield 105, 3) := by decide +kernel
theorem dX5_readAll_102 : decode cX5_readAll 102 = .ok (.ifCond .eq 20, 3) := by decide +kernel
theorem dX5_readAll_105 : decode cX5_readAll 105 = .ok (.aload_n 0, 1) := by decide +kernel
theorem dX5_readAll_106 : decode cX5_readAll 106 = .ok (.getfield 105, 3) := by decide +kernel
theorem dX5_readAll_109 : decode cX5_readAll 109 = .ok (.bipush 7, 2) := by decide +kernel
theorem dX5_readAll_111 : decode cX5_readAll 111 = .ok (.if_icmp .ge 50, 3) := by decide +kernel
theorem dX5_readAll_114 : decode cX5_readAll 114 = .ok (.aload_n 0, 1) := by decide +kernel
theorem dX5_readAll_115 : decode cX5_readAll 115 = .ok (.getfield 81, 3) := by decide +kernel
theorem dX5_readAll_118 : decode cX5_readAll 118 = .ok (.iload_n 1, 1) := by decide +kernel
theorem dX5_readAll_119 : decode cX5_readAll 119 = .ok (.if_icmp .ge 42, 3) := by decide +kernel
theorem dX5_readAll_122 : decode cX5_readAll 122 = .ok (.aload_n 0, 1) := by decide +kernel
theorem dX5_readAll_123 : decode cX5_readAll 123 = .ok (.iload_n 1, 1) := by decide +kernel
theorem dX5_readAll_124 : decode cX5_readAll 124 = .ok (.bipush 44, 2) := by decide +kernel
theorem dX5_readAll_126 : decode cX5_readAll 126 = .ok (.invokevirtual 111, 3) := by decide +kernel
theorem dX5_readAll_129 : decode cX5_readAll 129 = .ok (.ifCond .eq 17, 3) := by decide +kernel
theorem dX5_readAll_132 : decode cX5_readAll 132 = .ok (.aload_n 0, 1) := by decide +kernel
theorem dX5_readAll_133 : decode cX5_readAll 133 = .ok (.iload_n 1, 1) := by decide +kernel
theorem dX5_readAll_134 : decode cX5_readAll 134 = .ok (.iconst 4, 1) := by decide +kernel
theorem dX5_readAll_135 : decode cX5_readAll 135 = .ok (.aload_n 0, 1) := by decide +kernel
theorem dX5_readAll_136 : decode cX5_readAll 136 = .ok (.getfield 105, 3) := by decide +kernel
theorem dX5_readAll_139 : decode cX5_readAll 139 = .ok (.imul, 1) := by decide +kernel
theorem dX5_readAll_140 : decode cX5_readAll 140 = .ok (.invokevirtual 118, 3) := by decide +kernel
theorem dX5_readAll_143 : decode cX5_readAll 143 = .ok (.ifCond .ne 5, 3) := by decide +kernel
theorem dX5_readAll_146 : decode cX5_readAll 146 = .ok (.iconst 0, 1) := by decide +kernel
theorem dX5_readAll_147 : decode cX5_readAll 147 = .ok (.ireturn, 1) := by decide +kernel
theorem dX5_readAll_148 : decode cX5_readAll 148 = .ok (.aload_n 0, 1) := by decide +kernel
theorem dX5_readAll_149 : decode cX5_readAll 149 = .ok (.dup, 1) := by decide +kernel
theorem dX5_readAll_150 : decode cX5_readAll 150 = .ok (.getfield 105, 3) := by decide +kernel
theorem dX5_readAll_153 : decode cX5_readAll 153 = .ok (.iconst 1, 1) := by decide +kernel
theorem dX5_readAll_154 : decode cX5_readAll 154 = .ok (.iadd, 1) := by decide +kernel
theorem dX5_readAll_155 : decode cX5_readAll 155 = .ok (.putfield 105, 3) := by decide +kernel
theorem dX5_readAll_158 : decode cX5_readAll 158 = .ok (.goto (-60), 3) := by decide +kernel
theorem dX5_readAll_161 : decode cX5_readAll 161 = .ok (.aload_n 0, 1) := by decide +kernel
theorem dX5_readAll_162 : decode cX5_readAll 162 = .ok (.getfield 81, 3) := by decide +kernel
theorem dX5_readAll_165 : decode cX5_readAll 165 = .ok (.iload_n 1, 1) := by decide +kernel
theorem dX5_readAll_166 : decode cX5_readAll 166 = .ok (.if_icmp .ne 7, 3) := by decide +kernel
theorem dX5_readAll_169 : decode cX5_readAll 169 = .ok (.iconst 1, 1) := by decide +kernel
theorem dX5_readAll_170 : decode cX5_readAll 170 = .ok (.goto 4, 3) := by decide +kernel
theorem dX5_readAll_173 : decode cX5_readAll 173 = .ok (.iconst 0, 1) := by decide +kernel
theorem dX5_readAll_174 : decode cX5_readAll 174 = .ok (.ireturn, 1) := by decide +kernel
theorem dX5_wayBy_0 : decode cX5_wayBy 0 = .ok (.iload_n 0, 1) := by decide +kernel
theorem dX5_wayBy_1 : decode cX5_wayBy 1 = .ok (.lookupswitch 61 #[(97, 51), (103, 57), (108, 59), (109, 55), (115, 53)], 51) := by decide +kernel
theorem dX5_wayBy_52 : decode cX5_wayBy 52 = .ok (.iconst 0, 1) := by decide +kernel
theorem dX5_wayBy_53 : decode cX5_wayBy 53 = .ok (.ireturn, 1) := by decide +kernel
theorem dX5_wayBy_54 : decode cX5_wayBy 54 = .ok (.iconst 1, 1) := by decide +kernel
theorem dX5_wayBy_55 : decode cX5_wayBy 55 = .ok (.ireturn, 1) := by decide +kernel
theorem dX5_wayBy_56 : decode cX5_wayBy 56 = .ok (.iconst 2, 1) := by decide +kernel
theorem dX5_wayBy_57 : decode cX5_wayBy 57 = .ok (.ireturn, 1) := by decide +kernel
theorem dX5_wayBy_58 : decode cX5_wayBy 58 = .ok (.iconst 3, 1) := by decide +kernel
theorem dX5_wayBy_59 : decode cX5_wayBy 59 = .ok (.ireturn, 1) := by decide +kernel
theorem dX5_wayBy_60 : decode cX5_wayBy 60 = .ok (.iconst 4, 1) := by decide +kernel
theorem dX5_wayBy_61 : decode cX5_wayBy 61 = .ok (.ireturn, 1) := by decide +kernel
theorem dX5_wayBy_62 : decode cX5_wayBy 62 = .ok (.bipush (-9), 2) := by decide +kernel
theorem dX5_wayBy_64 : decode cX5_wayBy 64 = .ok (.ireturn, 1) := by decide +kernel
theorem dX5_readStepNext_0 : decode cX5_readStepNext 0 = .ok (.aload_n 0, 1) := by decide +kernel
theorem dX5_readStepNext_1 : decode cX5_readStepNext 1 = .ok (.getfield 40, 3) := by decide +kernel
theorem dX5_readStepNext_4 : decode cX5_readStepNext 4 = .ok (.iload_n 2, 1) := by decide +kernel
theorem dX5_readStepNext_5 : decode cX5_readStepNext 5 = .ok (.aload_n 0, 1) := by decide +kernel
theorem dX5_readStepNext_6 : decode cX5_readStepNext 6 = .ok (.getfield 81, 3) := by decide +kernel
theorem dX5_readStepNext_9 : decode cX5_readStepNext 9 = .ok (.iload_n 1, 1) := by decide +kernel
theorem dX5_readStepNext_10 : decode cX5_readStepNext 10 = .ok (.if_icmp .ge 18, 3) := by decide +kernel
theorem dX5_readStepNext_13 : decode cX5_readStepNext 13 = .ok (.aload_n 0, 1) := by decide +kernel
theorem dX5_readStepNext_14 : decode cX5_readStepNext 14 = .ok (.getfield 16, 3) := by decide +kernel
theorem dX5_readStepNext_17 : decode cX5_readStepNext 17 = .ok (.aload_n 0, 1) := by decide +kernel
theorem dX5_readStepNext_18 : decode cX5_readStepNext 18 = .ok (.getfield 81, 3) := by decide +kernel
theorem dX5_readStepNext_21 : decode cX5_readStepNext 21 = .ok (.iaload, 1) := by decide +kernel
theorem dX5_readStepNext_22 : decode cX5_readStepNext 22 = .ok (.invokestatic 121, 3) := by decide +kernel
theorem dX5_readStepNext_25 : decode cX5_readStepNext 25 = .ok (.goto 5, 3) := by decide +kernel
theorem dX5_readStepNext_28 : decode cX5_readStepNext 28 = .ok (.bipush (-9), 2) := by decide +kernel
theorem dX5_readStepNext_30 : decode cX5_readStepNext 30 = .ok (.iastore, 1) := by decide +kernel
theorem dX5_readStepNext_31 : decode cX5_readStepNext 31 = .ok (.aload_n 0, 1) := by decide +kernel
theorem dX5_readStepNext_32 : decode cX5_readStepNext 32 = .ok (.getfield 40, 3) := by decide +kernel
theorem dX5_readStepNext_35 : decode cX5_readStepNext 35 = .ok (.iload_n 2, 1) := by decide +kernel
theorem dX5_readStepNext_36 : decode cX5_readStepNext 36 = .ok (.iaload, 1) := by decide +kernel
theorem dX5_readStepNext_37 : decode cX5_readStepNext 37 = .ok (.bipush (-9), 2) := by decide +kernel
theorem dX5_readStepNext_39 : decode cX5_readStepNext 39 = .ok (.if_icmp .ne 5, 3) := by decide +kernel
theorem dX5_readStepNext_42 : decode cX5_readStepNext 42 = .ok (.iconst 0, 1) := by decide +kernel
theorem dX5_readStepNext_43 : decode cX5_readStepNext 43 = .ok (.ireturn, 1) := by decide +kernel
theorem dX5_readStepNext_44 : decode cX5_readStepNext 44 = .ok (.aload_n 0, 1) := by decide +kernel
theorem dX5_readStepNext_45 : decode cX5_readStepNext 45 = .ok (.dup, 1) := by decide +kernel
theorem dX5_readStepNext_46 : decode cX5_readStepNext 46 = .ok (.getfield 81, 3) := by decide +kernel
theorem dX5_readStepNext_49 : decode cX5_readStepNext 49 = .ok (.iconst 1, 1) := by decide +kernel
theorem dX5_readStepNext_50 : decode cX5_readStepNext 50 = .ok (.iadd, 1) := by decide +kernel
theorem dX5_readStepNext_51 : decode cX5_readStepNext 51 = .ok (.putfield 81, 3) := by decide +kernel
theorem dX5_readStepNext_54 : decode cX5_readStepNext 54 = .ok (.iconst 1, 1) := by decide +kernel
theorem dX5_readStepNext_55 : decode cX5_readStepNext 55 = .ok (.istore_n 3, 1) := by decide +kernel
theorem dX5_readStepNext_56 : decode cX5_readStepNext 56 = .ok (.iload_n 3, 1) := by decide +kernel
theorem dX5_readStepNext_57 : decode cX5_readStepNext 57 = .ok (.iconst 3, 1) := by decide +kernel
theorem dX5_readStepNext_58 : decode cX5_readStepNext 58 = .ok (.if_icmp .ge 115, 3) := by decide +kernel
theorem dX5_readStepNext_61 : decode cX5_readStepNext 61 = .ok (.aload_n 0, 1) := by decide +kernel
theorem dX5_readStepNext_62 : decode cX5_readStepNext 62 = .ok (.getfield 81, 3) := by decide +kernel
theorem dX5_readStepNext_65 : decode cX5_readStepNext 65 = .ok (.iload_n 1, 1) := by decide +kernel
theorem dX5_readStepNext_66 : decode cX5_readStepNext 66 = .ok (.if_icmp .ge 15, 3) := by decide +kernel
theorem dX5_readStepNext_69 : decode cX5_readStepNext 69 = .ok (.aload_n 0, 1) := by decide +kernel
theorem dX5_readStepNext_70 : decode cX5_readStepNext 70 = .ok (.getfield 16, 3) := by decide +kernel
theorem dX5_readStepNext_73 : decode cX5_readStepNext 73 = .ok (.aload_n 0, 1) := by decide +kernel
theorem dX5_readStepNext_74 : decode cX5_readStepNext 74 = .ok (.getfield 81, 3) := by decide +kernel
theorem dX5_readStepNext_77 : decode cX5_readStepNext 77 = .ok (.iaload, 1) := by decide +kernel
theorem dX5_readStepNext_78 : decode cX5_readStepNext 78 = .ok (.goto 4, 3) := by decide +kernel
theorem dX5_readStepNext_81 : decode cX5_readStepNext 81 = .ok (.iconst 0, 1) := by decide +kernel
theorem dX5_readStepNext_82 : decode cX5_readStepNext 82 = .ok (.istore 4, 2) := by decide +kernel
theorem dX5_readStepNext_84 : decode cX5_readStepNext 84 = .ok (.aload_n 0, 1) := by decide +kernel
theorem dX5_readStepNext_85 : decode cX5_readStepNext 85 = .ok (.getfield 40, 3) := by decide +kernel
theorem dX5_readStepNext_88 : decode cX5_readStepNext 88 = .ok (.iload_n 2, 1) := by decide +kernel
theorem dX5_readStepNext_89 : decode cX5_readStepNext 89 = .ok (.iload_n 3, 1) := by decide +kernel
theorem dX5_readStepNext_90 : decode cX5_readStepNext 90 = .ok (.iadd, 1) := by decide +kernel
theorem dX5_readStepNext_91 : decode cX5_readStepNext 91 = .ok (.iload 4, 2) := by decide +kernel
theorem dX5_readStepNext_93 : decode cX5_readStepNext 93 = .ok (.bipush 120, 2) := by decide +kernel
theorem dX5_readStepNext_95 : decode cX5_readStepNext 95 = .ok (.if_icmp .ne 7, 3) := by decide +kernel
theorem dX5_readStepNext_98 : decode cX5_readStepNext 98 = .ok (.iconst 5, 1) := by decide +kernel
theorem dX5_readStepNext_99 : decode cX5_readStepNext 99 = .ok (.goto 42, 3) := by decide +kernel
theorem dX5_readStepNext_102 : decode cX5_readStepNext 102 = .ok (.iload 4, 2) := by decide +kernel
theorem dX5_readStepNext_104 : decode cX5_readStepNext 104 = .ok (.bipush 121, 2) := by decide +kernel
theorem dX5_readStepNext_106 : decode cX5_readStepNext 106 = .ok (.if_icmp .ne 8, 3) := by decide +kernel
theorem dX5_readStepNext_109 : decode cX5_readStepNext 109 = .ok (.bipush 6, 2) := by decide +kernel
theorem dX5_readStepNext_111 : decode cX5_readStepNext 111 = .ok (.goto 30, 3) := by decide +kernel
theorem dX5_readStepNext_114 : decode cX5_readStepNext 114 = .ok (.iload 4, 2) := by decide +kernel
theorem dX5_readStepNext_116 : decode cX5_readStepNext 116 = .ok (.bipush 48, 2) := by decide +kernel
theorem dX5_readStepNext_118 : decode cX5_readStepNext 118 = .ok (.bipush 47, 2) := by decide +kernel
theorem dX5_readStepNext_120 : decode cX5_readStepNext 120 = .ok (.aload_n 0, 1) := by decide +kernel
theorem dX5_readStepNext_121 : decode cX5_readStepNext 121 = .ok (.getfield 102, 3) := by decide +kernel
theorem dX5_readStepNext_124 : decode cX5_readStepNext 124 = .ok (.iadd, 1) := by decide +kernel
theorem dX5_readStepNext_125 : decode cX5_readStepNext 125 = .ok (.invokestatic 67, 3) := by decide +kernel
theorem dX5_readStepNext_128 : decode cX5_readStepNext 128 = .ok (.ifCond .eq 11, 3) := by decide +kernel
theorem dX5_readStepNext_131 : decode cX5_readStepNext 131 = .ok (.iload 4, 2) := by decide +kernel
theorem dX5_readStepNext_133 : decode cX5_readStepNext 133 = .ok (.bipush 48, 2) := by decide +kernel
theorem dX5_readStepNext_135 : decode cX5_readStepNext 135 = .ok (.isub, 1) := by decide +kernel
theorem dX5_readStepNext_136 : decode cX5_readStepNext 136 = .ok (.goto 5, 3) := by decide +kernel
theorem dX5_readStepNext_139 : decode cX5_readStepNext 139 = .ok (.bipush (-9), 2) := by decide +kernel
theorem dX5_readStepNext_141 : decode cX5_readStepNext 141 = .ok (.iastore, 1) := by decide +kernel
theorem dX5_readStepNext_142 : decode cX5_readStepNext 142 = .ok (.aload_n 0, 1) := by decide +kernel
theorem dX5_readStepNext_143 : decode cX5_readStepNext 143 = .ok (.getfield 40, 3) := by decide +kernel
theorem dX5_readStepNext_146 : decode cX5_readStepNext 146 = .ok (.iload_n 2, 1) := by decide +kernel
theorem dX5_readStepNext_147 : decode cX5_readStepNext 147 = .ok (.iload_n 3, 1) := by decide +kernel
theorem dX5_readStepNext_148 : decode cX5_readStepNext 148 = .ok (.iadd, 1) := by decide +kernel
theorem dX5_readStepNext_149 : decode cX5_readStepNext 149 = .ok (.iaload, 1) := by decide +kernel
theorem dX5_readStepNext_150 : decode cX5_readStepNext 150 = .ok (.bipush (-9), 2) := by decide +kernel
theorem dX5_readStepNext_152 : decode cX5_readStepNext 152 = .ok (.if_icmp .ne 5, 3) := by decide +kernel
theorem dX5_readStepNext_155 : decode cX5_readStepNext 155 = .ok (.iconst 0, 1) := by decide +kernel
theorem dX5_readStepNext_156 : decode cX5_readStepNext 156 = .ok (.ireturn, 1) := by decide +kernel
theorem dX5_readStepNext_157 : decode cX5_readStepNext 157 = .ok (.aload_n 0, 1) := by decide +kernel
theorem dX5_readStepNext_158 : decode cX5_readStepNext 158 = .ok (.dup, 1) := by decide +kernel
theorem dX5_readStepNext_159 : decode cX5_readStepNext 159 = .ok (.getfield 81, 3) := by decide +kernel
theorem dX5_readStepNext_162 : decode cX5_readStepNext 162 = .ok (.iconst 1, 1) := by decide +kernel
theorem dX5_readStepNext_163 : decode cX5_readStepNext 163 = .ok (.iadd, 1) := by decide +kernel
theorem dX5_readStepNext_164 : decode cX5_readStepNext 164 = .ok (.putfield 81, 3) := by decide +kernel
theorem dX5_readStepNext_167 : decode cX5_readStepNext 167 = .ok (.iinc 3 1, 3) := by decide +kernel
theorem dX5_readStepNext_170 : decode cX5_readStepNext 170 = .ok (.goto (-114), 3) := by decide +kernel
theorem dX5_readStepNext_173 : decode cX5_readStepNext 173 = .ok (.iconst 1, 1) := by decide +kernel
theorem dX5_readStepNext_174 : decode cX5_readStepNext 174 = .ok (.ireturn, 1) := by decide +kernel
theorem dX5_readTestNext_0 : decode cX5_readTestNext 0 = .ok (.aload_n 0, 1) := by decide +kernel
theorem dX5_readTestNext_1 : decode cX5_readTestNext 1 = .ok (.getfield 81, 3) := by decide +kernel
theorem dX5_readTestNext_4 : decode cX5_readTestNext 4 = .ok (.iload_n 1, 1) := by decide +kernel
theorem dX5_readTestNext_5 : decode cX5_readTestNext 5 = .ok (.if_icmp .ge 15, 3) := by decide +kernel
theorem dX5_readTestNext_8 : decode cX5_readTestNext 8 = .ok (.aload_n 0, 1) := by decide +kernel
theorem dX5_readTestNext_9 : decode cX5_readTestNext 9 = .ok (.getfield 16, 3) := by decide +kernel
theorem dX5_readTestNext_12 : decode cX5_readTestNext 12 = .ok (.aload_n 0, 1) := by decide +kernel
theorem dX5_readTestNext_13 : decode cX5_readTestNext 13 = .ok (.getfield 81, 3) := by decide +kernel
theorem dX5_readTestNext_16 : decode cX5_readTestNext 16 = .ok (.iaload, 1) := by decide +kernel
theorem dX5_readTestNext_17 : decode cX5_readTestNext 17 = .ok (.goto 4, 3) := by decide +kernel
theorem dX5_readTestNext_20 : decode cX5_readTestNext 20 = .ok (.iconst 0, 1) := by decide +kernel
theorem dX5_readTestNext_21 : decode cX5_readTestNext 21 = .ok (.istore_n 3, 1) := by decide +kernel
theorem dX5_readTestNext_22 : decode cX5_readTestNext 22 = .ok (.aload_n 0, 1) := by decide +kernel
theorem dX5_readTestNext_23 : decode cX5_readTestNext 23 = .ok (.getfield 43, 3) := by decide +kernel
theorem dX5_readTestNext_26 : decode cX5_readTestNext 26 = .ok (.iload_n 2, 1) := by decide +kernel
theorem dX5_readTestNext_27 : decode cX5_readTestNext 27 = .ok (.iload_n 3, 1) := by decide +kernel
theorem dX5_readTestNext_28 : decode cX5_readTestNext 28 = .ok (.bipush 80, 2) := by decide +kernel
theorem dX5_readTestNext_30 : decode cX5_readTestNext 30 = .ok (.if_icmp .ne 7, 3) := by decide +kernel
theorem dX5_readTestNext_33 : decode cX5_readTestNext 33 = .ok (.iconst 0, 1) := by decide +kernel
theorem dX5_readTestNext_34 : decode cX5_readTestNext 34 = .ok (.goto 25, 3) := by decide +kernel
theorem dX5_readTestNext_37 : decode cX5_readTestNext 37 = .ok (.iload_n 3, 1) := by decide +kernel
theorem dX5_readTestNext_38 : decode cX5_readTestNext 38 = .ok (.bipush 83, 2) := by decide +kernel
theorem dX5_readTestNext_40 : decode cX5_readTestNext 40 = .ok (.if_icmp .ne 7, 3) := by decide +kernel
theorem dX5_readTestNext_43 : decode cX5_readTestNext 43 = .ok (.iconst 1, 1) := by decide +kernel
theorem dX5_readTestNext_44 : decode cX5_readTestNext 44 = .ok (.goto 15, 3) := by decide +kernel
theorem dX5_readTestNext_47 : decode cX5_readTestNext 47 = .ok (.iload_n 3, 1) := by decide +kernel
theorem dX5_readTestNext_48 : decode cX5_readTestNext 48 = .ok (.bipush 68, 2) := by decide +kernel
theorem dX5_readTestNext_50 : decode cX5_readTestNext 50 = .ok (.if_icmp .ne 7, 3) := by decide +kernel
theorem dX5_readTestNext_53 : decode cX5_readTestNext 53 = .ok (.iconst 2, 1) := by decide +kernel
theorem dX5_readTestNext_54 : decode cX5_readTestNext 54 = .ok (.goto 5, 3) := by decide +kernel
theorem dX5_readTestNext_57 : decode cX5_readTestNext 57 = .ok (.bipush (-9), 2) := by decide +kernel
theorem dX5_readTestNext_59 : decode cX5_readTestNext 59 = .ok (.iastore, 1) := by decide +kernel
theorem dX5_readTestNext_60 : decode cX5_readTestNext 60 = .ok (.aload_n 0, 1) := by decide +kernel
theorem dX5_readTestNext_61 : decode cX5_readTestNext 61 = .ok (.getfield 43, 3) := by decide +kernel
theorem dX5_readTestNext_64 : decode cX5_readTestNext 64 = .ok (.iload_n 2, 1) := by decide +kernel
theorem dX5_readTestNext_65 : decode cX5_readTestNext 65 = .ok (.iaload, 1) := by decide +kernel
theorem dX5_readTestNext_66 : decode cX5_readTestNext 66 = .ok (.bipush (-9), 2) := by decide +kernel
theorem dX5_readTestNext_68 : decode cX5_readTestNext 68 = .ok (.if_icmp .ne 5, 3) := by decide +kernel
theorem dX5_readTestNext_71 : decode cX5_readTestNext 71 = .ok (.iconst 0, 1) := by decide +kernel
theorem dX5_readTestNext_72 : decode cX5_readTestNext 72 = .ok (.ireturn, 1) := by decide +kernel
theorem dX5_readTestNext_73 : decode cX5_readTestNext 73 = .ok (.aload_n 0, 1) := by decide +kernel
theorem dX5_readTestNext_74 : decode cX5_readTestNext 74 = .ok (.dup, 1) := by decide +kernel
theorem dX5_readTestNext_75 : decode cX5_readTestNext 75 = .ok (.getfield 81, 3) := by decide +kernel
theorem dX5_readTestNext_78 : decode cX5_readTestNext 78 = .ok (.iconst 1, 1) := by decide +kernel
theorem dX5_readTestNext_79 : decode cX5_readTestNext 79 = .ok (.iadd, 1) := by decide +kernel
theorem dX5_readTestNext_80 : decode cX5_readTestNext 80 = .ok (.putfield 81, 3) := by decide +kernel
theorem dX5_readTestNext_83 : decode cX5_readTestNext 83 = .ok (.iconst 1, 1) := by decide +kernel
theorem dX5_readTestNext_84 : decode cX5_readTestNext 84 = .ok (.istore 4, 2) := by decide +kernel
theorem dX5_readTestNext_86 : decode cX5_readTestNext 86 = .ok (.iload 4, 2) := by decide +kernel
theorem dX5_readTestNext_88 : decode cX5_readTestNext 88 = .ok (.iconst 4, 1) := by decide +kernel
theorem dX5_readTestNext_89 : decode cX5_readTestNext 89 = .ok (.if_icmp .ge 80, 3) := by decide +kernel
theorem dX5_readTestNext_92 : decode cX5_readTestNext 92 = .ok (.aload_n 0, 1) := by decide +kernel
theorem dX5_readTestNext_93 : decode cX5_readTestNext 93 = .ok (.getfield 81, 3) := by decide +kernel
theorem dX5_readTestNext_96 : decode cX5_readTestNext 96 = .ok (.iload_n 1, 1) := by decide +kernel
theorem dX5_readTestNext_97 : decode cX5_readTestNext 97 = .ok (.if_icmp .ge 33, 3) := by decide +kernel
theorem dX5_readTestNext_100 : decode cX5_readTestNext 100 = .ok (.aload_n 0, 1) := by decide +kernel
theorem dX5_readTestNext_101 : decode cX5_readTestNext 101 = .ok (.getfield 16, 3) := by decide +kernel
theorem dX5_readTestNext_104 : decode cX5_readTestNext 104 = .ok (.aload_n 0, 1) := by decide +kernel
theorem dX5_readTestNext_105 : decode cX5_readTestNext 105 = .ok (.getfield 81, 3) := by decide +kernel
theorem dX5_readTestNext_108 : decode cX5_readTestNext 108 = .ok (.iaload, 1) := by decide +kernel
theorem dX5_readTestNext_109 : decode cX5_readTestNext 109 = .ok (.iload 4, 2) := by decide +kernel
theorem dX5_readTestNext_111 : decode cX5_readTestNext 111 = .ok (.iconst 1, 1) := by decide +kernel
theorem dX5_readTestNext_112 : decode cX5_readTestNext 112 = .ok (.if_icmp .ne 8, 3) := by decide +kernel
theorem dX5_readTestNext_115 : decode cX5_readTestNext 115 = .ok (.bipush 49, 2) := by decide +kernel
theorem dX5_readTestNext_117 : decode cX5_readTestNext 117 = .ok (.goto 5, 3) := by decide +kernel
theorem dX5_readTestNext_120 : decode cX5_readTestNext 120 = .ok (.bipush 48, 2) := by decide +kernel
theorem dX5_readTestNext_122 : decode cX5_readTestNext 122 = .ok (.bipush 57, 2) := by decide +kernel
theorem dX5_readTestNext_124 : decode cX5_readTestNext 124 = .ok (.invokestatic 67, 3) := by decide +kernel
theorem dX5_readTestNext_127 : decode cX5_readTestNext 127 = .ok (.ifCond .ne 5, 3) := by decide +kernel
theorem dX5_readTestNext_130 : decode cX5_readTestNext 130 = .ok (.iconst 0, 1) := by decide +kernel
theorem dX5_readTestNext_131 : decode cX5_readTestNext 131 = .ok (.ireturn, 1) := by decide +kernel
theorem dX5_readTestNext_132 : decode cX5_readTestNext 132 = .ok (.aload_n 0, 1) := by decide +kernel
theorem dX5_readTestNext_133 : decode cX5_readTestNext 133 = .ok (.getfield 43, 3) := by decide +kernel
theorem dX5_readTestNext_136 : decode cX5_readTestNext 136 = .ok (.iload_n 2, 1) := by decide +kernel
theorem dX5_readTestNext_137 : decode cX5_readTestNext 137 = .ok (.iload 4, 2) := by decide +kernel
theorem dX5_readTestNext_139 : decode cX5_readTestNext 139 = .ok (.iadd, 1) := by decide +kernel
theorem dX5_readTestNext_140 : decode cX5_readTestNext 140 = .ok (.aload_n 0, 1) := by decide +kernel
theorem dX5_readTestNext_141 : decode cX5_readTestNext 141 = .ok (.getfield 16, 3) := by decide +kernel
theorem dX5_readTestNext_144 : decode cX5_readTestNext 144 = .ok (.aload_n 0, 1) := by decide +kernel
theorem dX5_readTestNext_145 : decode cX5_readTestNext 145 = .ok (.getfield 81, 3) := by decide +kernel
theorem dX5_readTestNext_148 : decode cX5_readTestNext 148 = .ok (.iaload, 1) := by decide +kernel
theorem dX5_readTestNext_149 : decode cX5_readTestNext 149 = .ok (.bipush 48, 2) := by decide +kernel
theorem dX5_readTestNext_151 : decode cX5_readTestNext 151 = .ok (.isub, 1) := by decide +kernel
theorem dX5_readTestNext_152 : decode cX5_readTestNext 152 = .ok (.iastore, 1) := by decide +kernel
theorem dX5_readTestNext_153 : decode cX5_readTestNext 153 = .ok (.aload_n 0, 1) := by decide +kernel
theorem dX5_readTestNext_154 : decode cX5_readTestNext 154 = .ok (.dup, 1) := by decide +kernel
theorem dX5_readTestNext_155 : decode cX5_readTestNext 155 = .ok (.getfield 81, 3) := by decide +kernel
theorem dX5_readTestNext_158 : decode cX5_readTestNext 158 = .ok (.iconst 1, 1) := by decide +kernel
theorem dX5_readTestNext_159 : decode cX5_readTestNext 159 = .ok (.iadd, 1) := by decide +kernel
theorem dX5_readTestNext_160 : decode cX5_readTestNext 160 = .ok (.putfield 81, 3) := by decide +kernel
theorem dX5_readTestNext_163 : decode cX5_readTestNext 163 = .ok (.iinc 4 1, 3) := by decide +kernel
theorem dX5_readTestNext_166 : decode cX5_readTestNext 166 = .ok (.goto (-80), 3) := by decide +kernel
theorem dX5_readTestNext_169 : decode cX5_readTestNext 169 = .ok (.iconst 1, 1) := by decide +kernel
theorem dX5_readTestNext_170 : decode cX5_readTestNext 170 = .ok (.ireturn, 1) := by decide +kernel
theorem dX5_weightOf_0 : decode cX5_weightOf 0 = .ok (.aload_n 0, 1) := by decide +kernel
theorem dX5_weightOf_1 : decode cX5_weightOf 1 = .ok (.getfield 28, 3) := by decide +kernel
theorem dX5_weightOf_4 : decode cX5_weightOf 4 = .ok (.iload_n 1, 1) := by decide +kernel
theorem dX5_weightOf_5 : decode cX5_weightOf 5 = .ok (.iaload, 1) := by decide +kernel
theorem dX5_weightOf_6 : decode cX5_weightOf 6 = .ok (.ifCond .ne 12, 3) := by decide +kernel
theorem dX5_weightOf_9 : decode cX5_weightOf 9 = .ok (.aload_n 0, 1) := by decide +kernel
theorem dX5_weightOf_10 : decode cX5_weightOf 10 = .ok (.getfield 31, 3) := by decide +kernel
theorem dX5_weightOf_13 : decode cX5_weightOf 13 = .ok (.iload_n 1, 1) := by decide +kernel
theorem dX5_weightOf_14 : decode cX5_weightOf 14 = .ok (.iaload, 1) := by decide +kernel
theorem dX5_weightOf_15 : decode cX5_weightOf 15 = .ok (.goto 32, 3) := by decide +kernel
theorem dX5_weightOf_18 : decode cX5_weightOf 18 = .ok (.aload_n 0, 1) := by decide +kernel
theorem dX5_weightOf_19 : decode cX5_weightOf 19 = .ok (.getfield 28, 3) := by decide +kernel
theorem dX5_weightOf_22 : decode cX5_weightOf 22 = .ok (.iload_n 1, 1) := by decide +kernel
theorem dX5_weightOf_23 : decode cX5_weightOf 23 = .ok (.iaload, 1) := by decide +kernel
theorem dX5_weightOf_24 : decode cX5_weightOf 24 = .ok (.iconst 1, 1) := by decide +kernel
theorem dX5_weightOf_25 : decode cX5_weightOf 25 = .ok (.if_icmp .ne 14, 3) := by decide +kernel
theorem dX5_weightOf_28 : decode cX5_weightOf 28 = .ok (.aload_n 0, 1) := by decide +kernel
theorem dX5_weightOf_29 : decode cX5_weightOf 29 = .ok (.getfield 31, 3) := by decide +kernel
theorem dX5_weightOf_32 : decode cX5_weightOf 32 = .ok (.iload_n 1, 1) := by decide +kernel
theorem dX5_weightOf_33 : decode cX5_weightOf 33 = .ok (.iaload, 1) := by decide +kernel
theorem dX5_weightOf_34 : decode cX5_weightOf 34 = .ok (.iconst 1, 1) := by decide +kernel
theorem dX5_weightOf_35 : decode cX5_weightOf 35 = .ok (.iadd, 1) := by decide +kernel
theorem dX5_weightOf_36 : decode cX5_weightOf 36 = .ok (.goto 11, 3) := by decide +kernel
theorem dX5_weightOf_39 : decode cX5_weightOf 39 = .ok (.iconst 2, 1) := by decide +kernel
theorem dX5_weightOf_40 : decode cX5_weightOf 40 = .ok (.aload_n 0, 1) := by decide +kernel
theorem dX5_weightOf_41 : decode cX5_weightOf 41 = .ok (.getfield 31, 3) := by decide +kernel
theorem dX5_weightOf_44 : decode cX5_weightOf 44 = .ok (.iload_n 1, 1) := by decide +kernel
theorem dX5_weightOf_45 : decode cX5_weightOf 45 = .ok (.iaload, 1) := by decide +kernel
theorem dX5_weightOf_46 : decode cX5_weightOf 46 = .ok (.imul, 1) := by decide +kernel
theorem dX5_weightOf_47 : decode cX5_weightOf 47 = .ok (.ireturn, 1) := by decide +kernel
theorem dX5_makes_0 : decode cX5_makes 0 = .ok (.iload_n 0, 1) := by decide +kernel
theorem dX5_makes_1 : decode cX5_makes 1 = .ok (.tableswitch 74 0 3 #[31, 38, 56, 63], 31) := by decide +kernel
theorem dX5_makes_32 : decode cX5_makes 32 = .ok (.iload_n 1, 1) := by decide +kernel
theorem dX5_makes_33 : decode cX5_makes 33 = .ok (.iload_n 2, 1) := by decide +kernel
theorem dX5_makes_34 : decode cX5_makes 34 = .ok (.iadd, 1) := by decide +kernel
theorem dX5_makes_35 : decode cX5_makes 35 = .ok (.bipush 10, 2) := by decide +kernel
theorem dX5_makes_37 : decode cX5_makes 37 = .ok (.irem, 1) := by decide +kernel
theorem dX5_makes_38 : decode cX5_makes 38 = .ok (.ireturn, 1) := by decide +kernel
theorem dX5_makes_39 : decode cX5_makes 39 = .ok (.iload_n 1, 1) := by decide +kernel
theorem dX5_makes_40 : decode cX5_makes 40 = .ok (.iload_n 2, 1) := by decide +kernel
theorem dX5_makes_41 : decode cX5_makes 41 = .ok (.if_icmp .ge 12, 3) := by decide +kernel
theorem dX5_makes_44 : decode cX5_makes 44 = .ok (.iload_n 1, 1) := by decide +kernel
theorem dX5_makes_45 : decode cX5_makes 45 = .ok (.iload_n 2, 1) := by decide +kernel
theorem dX5_makes_46 : decode cX5_makes 46 = .ok (.isub, 1) := by decide +kernel
theorem dX5_makes_47 : decode cX5_makes 47 = .ok (.bipush 10, 2) := by decide +kernel
theorem dX5_makes_49 : decode cX5_makes 49 = .ok (.iadd, 1) := by decide +kernel
theorem dX5_makes_50 : decode cX5_makes 50 = .ok (.goto 6, 3) := by decide +kernel
theorem dX5_makes_53 : decode cX5_makes 53 = .ok (.iload_n 1, 1) := by decide +kernel
theorem dX5_makes_54 : decode cX5_makes 54 = .ok (.iload_n 2, 1) := by decide +kernel
theorem dX5_makes_55 : decode cX5_makes 55 = .ok (.isub, 1) := by decide +kernel
theorem dX5_makes_56 : decode cX5_makes 56 = .ok (.ireturn, 1) := by decide +kernel
theorem dX5_makes_57 : decode cX5_makes 57 = .ok (.iload_n 1, 1) := by decide +kernel
theorem dX5_makes_58 : decode cX5_makes 58 = .ok (.iload_n 2, 1) := by decide +kernel
theorem dX5_makes_59 : decode cX5_makes 59 = .ok (.imul, 1) := by decide +kernel
theorem dX5_makes_60 : decode cX5_makes 60 = .ok (.bipush 10, 2) := by decide +kernel
theorem dX5_makes_62 : decode cX5_makes 62 = .ok (.irem, 1) := by decide +kernel
theorem dX5_makes_63 : decode cX5_makes 63 = .ok (.ireturn, 1) := by decide +kernel
theorem dX5_makes_64 : decode cX5_makes 64 = .ok (.iload_n 1, 1) := by decide +kernel
theorem dX5_makes_65 : decode cX5_makes 65 = .ok (.iload_n 2, 1) := by decide +kernel
theorem dX5_makes_66 : decode cX5_makes 66 = .ok (.if_icmp .le 7, 3) := by decide +kernel
theorem dX5_makes_69 : decode cX5_makes 69 = .ok (.iload_n 1, 1) := by decide +kernel
theorem dX5_makes_70 : decode cX5_makes 70 = .ok (.goto 4, 3) := by decide +kernel
theorem dX5_makes_73 : decode cX5_makes 73 = .ok (.iload_n 2, 1) := by decide +kernel
theorem dX5_makes_74 : decode cX5_makes 74 = .ok (.ireturn, 1) := by decide +kernel
theorem dX5_makes_75 : decode cX5_makes 75 = .ok (.iload_n 1, 1) := by decide +kernel
theorem dX5_makes_76 : decode cX5_makes 76 = .ok (.iload_n 2, 1) := by decide +kernel
theorem dX5_makes_77 : decode cX5_makes 77 = .ok (.if_icmp .ge 7, 3) := by decide +kernel
theorem dX5_makes_80 : decode cX5_makes 80 = .ok (.iload_n 1, 1) := by decide +kernel
theorem dX5_makes_81 : decode cX5_makes 81 = .ok (.goto 4, 3) := by decide +kernel
theorem dX5_makes_84 : decode cX5_makes 84 = .ok (.iload_n 2, 1) := by decide +kernel
theorem dX5_makes_85 : decode cX5_makes 85 = .ok (.ireturn, 1) := by decide +kernel
theorem dX5_sourceOf_0 : decode cX5_sourceOf 0 = .ok (.iload_n 1, 1) := by decide +kernel
theorem dX5_sourceOf_1 : decode cX5_sourceOf 1 = .ok (.iconst 5, 1) := by decide +kernel
theorem dX5_sourceOf_2 : decode cX5_sourceOf 2 = .ok (.if_icmp .ne 7, 3) := by decide +kernel
theorem dX5_sourceOf_5 : decode cX5_sourceOf 5 = .ok (.iload_n 2, 1) := by decide +kernel
theorem dX5_sourceOf_6 : decode cX5_sourceOf 6 = .ok (.goto 19, 3) := by decide +kernel
theorem dX5_sourceOf_9 : decode cX5_sourceOf 9 = .ok (.iload_n 1, 1) := by decide +kernel
theorem dX5_sourceOf_10 : decode cX5_sourceOf 10 = .ok (.bipush 6, 2) := by decide +kernel
theorem dX5_sourceOf_12 : decode cX5_sourceOf 12 = .ok (.if_icmp .ne 7, 3) := by decide +kernel
theorem dX5_sourceOf_15 : decode cX5_sourceOf 15 = .ok (.iload_n 3, 1) := by decide +kernel
theorem dX5_sourceOf_16 : decode cX5_sourceOf 16 = .ok (.goto 9, 3) := by decide +kernel
theorem dX5_sourceOf_19 : decode cX5_sourceOf 19 = .ok (.aload_n 0, 1) := by decide +kernel
theorem dX5_sourceOf_20 : decode cX5_sourceOf 20 = .ok (.getfield 46, 3) := by decide +kernel
theorem dX5_sourceOf_23 : decode cX5_sourceOf 23 = .ok (.iload_n 1, 1) := by decide +kernel
theorem dX5_sourceOf_24 : decode cX5_sourceOf 24 = .ok (.iaload, 1) := by decide +kernel
theorem dX5_sourceOf_25 : decode cX5_sourceOf 25 = .ok (.ireturn, 1) := by decide +kernel
theorem dX5_runs_0 : decode cX5_runs 0 = .ok (.iconst 0, 1) := by decide +kernel
theorem dX5_runs_1 : decode cX5_runs 1 = .ok (.istore 5, 2) := by decide +kernel
theorem dX5_runs_3 : decode cX5_runs 3 = .ok (.iload 5, 2) := by decide +kernel
theorem dX5_runs_5 : decode cX5_runs 5 = .ok (.aload_n 0, 1) := by decide +kernel
theorem dX5_runs_6 : decode cX5_runs 6 = .ok (.getfield 71, 3) := by decide +kernel
theorem dX5_runs_9 : decode cX5_runs 9 = .ok (.if_icmp .ge 63, 3) := by decide +kernel
theorem dX5_runs_12 : decode cX5_runs 12 = .ok (.aload_n 0, 1) := by decide +kernel
theorem dX5_runs_13 : decode cX5_runs 13 = .ok (.getfield 46, 3) := by decide +kernel
theorem dX5_runs_16 : decode cX5_runs 16 = .ok (.iload 5, 2) := by decide +kernel
theorem dX5_runs_18 : decode cX5_runs 18 = .ok (.iload 5, 2) := by decide +kernel
theorem dX5_runs_20 : decode cX5_runs 20 = .ok (.iload_n 3, 1) := by decide +kernel
theorem dX5_runs_21 : decode cX5_runs 21 = .ok (.if_icmp .ne 8, 3) := by decide +kernel
theorem dX5_runs_24 : decode cX5_runs 24 = .ok (.iload 4, 2) := by decide +kernel
theorem dX5_runs_26 : decode cX5_runs 26 = .ok (.goto 10, 3) := by decide +kernel
theorem dX5_runs_29 : decode cX5_runs 29 = .ok (.aload_n 0, 1) := by decide +kernel
theorem dX5_runs_30 : decode cX5_runs 30 = .ok (.getfield 19, 3) := by decide +kernel
theorem dX5_runs_33 : decode cX5_runs 33 = .ok (.iload 5, 2) := by decide +kernel
theorem dX5_runs_35 : decode cX5_runs 35 = .ok (.iaload, 1) := by decide +kernel
theorem dX5_runs_36 : decode cX5_runs 36 = .ok (.aload_n 0, 1) := by decide +kernel
theorem dX5_runs_37 : decode cX5_runs 37 = .ok (.aload_n 0, 1) := by decide +kernel
theorem dX5_runs_38 : decode cX5_runs 38 = .ok (.getfield 22, 3) := by decide +kernel
theorem dX5_runs_41 : decode cX5_runs 41 = .ok (.iload 5, 2) := by decide +kernel
theorem dX5_runs_43 : decode cX5_runs 43 = .ok (.iaload, 1) := by decide +kernel
theorem dX5_runs_44 : decode cX5_runs 44 = .ok (.iload_n 1, 1) := by decide +kernel
theorem dX5_runs_45 : decode cX5_runs 45 = .ok (.iload_n 2, 1) := by decide +kernel
theorem dX5_runs_46 : decode cX5_runs 46 = .ok (.invokevirtual 124, 3) := by decide +kernel
theorem dX5_runs_49 : decode cX5_runs 49 = .ok (.aload_n 0, 1) := by decide +kernel
theorem dX5_runs_50 : decode cX5_runs 50 = .ok (.aload_n 0, 1) := by decide +kernel
theorem dX5_runs_51 : decode cX5_runs 51 = .ok (.getfield 25, 3) := by decide +kernel
theorem dX5_runs_54 : decode cX5_runs 54 = .ok (.iload 5, 2) := by decide +kernel
theorem dX5_runs_56 : decode cX5_runs 56 = .ok (.iaload, 1) := by decide +kernel
theorem dX5_runs_57 : decode cX5_runs 57 = .ok (.iload_n 1, 1) := by decide +kernel
theorem dX5_runs_58 : decode cX5_runs 58 = .ok (.iload_n 2, 1) := by decide +kernel
theorem dX5_runs_59 : decode cX5_runs 59 = .ok (.invokevirtual 124, 3) := by decide +kernel
theorem dX5_runs_62 : decode cX5_runs 62 = .ok (.invokestatic 128, 3) := by decide +kernel
theorem dX5_runs_65 : decode cX5_runs 65 = .ok (.iastore, 1) := by decide +kernel
theorem dX5_runs_66 : decode cX5_runs 66 = .ok (.iinc 5 1, 3) := by decide +kernel
theorem dX5_runs_69 : decode cX5_runs 69 = .ok (.goto (-66), 3) := by decide +kernel
theorem dX5_runs_72 : decode cX5_runs 72 = .ok (.aload_n 0, 1) := by decide +kernel
theorem dX5_runs_73 : decode cX5_runs 73 = .ok (.getfield 46, 3) := by decide +kernel
theorem dX5_runs_76 : decode cX5_runs 76 = .ok (.aload_n 0, 1) := by decide +kernel
theorem dX5_runs_77 : decode cX5_runs 77 = .ok (.getfield 71, 3) := by decide +kernel
theorem dX5_runs_80 : decode cX5_runs 80 = .ok (.iconst 1, 1) := by decide +kernel
theorem dX5_runs_81 : decode cX5_runs 81 = .ok (.isub, 1) := by decide +kernel
theorem dX5_runs_82 : decode cX5_runs 82 = .ok (.iaload, 1) := by decide +kernel
theorem dX5_runs_83 : decode cX5_runs 83 = .ok (.ireturn, 1) := by decide +kernel
theorem dX5_stepOf_0 : decode cX5_stepOf 0 = .ok (.iload_n 0, 1) := by decide +kernel
theorem dX5_stepOf_1 : decode cX5_stepOf 1 = .ok (.iconst 4, 1) := by decide +kernel
theorem dX5_stepOf_2 : decode cX5_stepOf 2 = .ok (.idiv, 1) := by decide +kernel
theorem dX5_stepOf_3 : decode cX5_stepOf 3 = .ok (.ireturn, 1) := by decide +kernel
theorem dX5_otherWay_0 : decode cX5_otherWay 0 = .ok (.iload_n 1, 1) := by decide +kernel
theorem dX5_otherWay_1 : decode cX5_otherWay 1 = .ok (.iconst 4, 1) := by decide +kernel
theorem dX5_otherWay_2 : decode cX5_otherWay 2 = .ok (.irem, 1) := by decide +kernel
theorem dX5_otherWay_3 : decode cX5_otherWay 3 = .ok (.aload_n 0, 1) := by decide +kernel
theorem dX5_otherWay_4 : decode cX5_otherWay 4 = .ok (.getfield 19, 3) := by decide +kernel
theorem dX5_otherWay_7 : decode cX5_otherWay 7 = .ok (.iload_n 1, 1) := by decide +kernel
theorem dX5_otherWay_8 : decode cX5_otherWay 8 = .ok (.invokestatic 131, 3) := by decide +kernel
theorem dX5_otherWay_11 : decode cX5_otherWay 11 = .ok (.iaload, 1) := by decide +kernel
theorem dX5_otherWay_12 : decode cX5_otherWay 12 = .ok (.if_icmp .ge 9, 3) := by decide +kernel
theorem dX5_otherWay_15 : decode cX5_otherWay 15 = .ok (.iload_n 1, 1) := by decide +kernel
theorem dX5_otherWay_16 : decode cX5_otherWay 16 = .ok (.iconst 4, 1) := by decide +kernel
theorem dX5_otherWay_17 : decode cX5_otherWay 17 = .ok (.irem, 1) := by decide +kernel
theorem dX5_otherWay_18 : decode cX5_otherWay 18 = .ok (.goto 8, 3) := by decide +kernel
theorem dX5_otherWay_21 : decode cX5_otherWay 21 = .ok (.iload_n 1, 1) := by decide +kernel
theorem dX5_otherWay_22 : decode cX5_otherWay 22 = .ok (.iconst 4, 1) := by decide +kernel
theorem dX5_otherWay_23 : decode cX5_otherWay 23 = .ok (.irem, 1) := by decide +kernel
theorem dX5_otherWay_24 : decode cX5_otherWay 24 = .ok (.iconst 1, 1) := by decide +kernel
theorem dX5_otherWay_25 : decode cX5_otherWay 25 = .ok (.iadd, 1) := by decide +kernel
theorem dX5_otherWay_26 : decode cX5_otherWay 26 = .ok (.ireturn, 1) := by decide +kernel
theorem dX5_plainRun_0 : decode cX5_plainRun 0 = .ok (.aload_n 0, 1) := by decide +kernel
theorem dX5_plainRun_1 : decode cX5_plainRun 1 = .ok (.iload_n 1, 1) := by decide +kernel
theorem dX5_plainRun_2 : decode cX5_plainRun 2 = .ok (.iload_n 2, 1) := by decide +kernel
theorem dX5_plainRun_3 : decode cX5_plainRun 3 = .ok (.bipush (-9), 2) := by decide +kernel
theorem dX5_plainRun_5 : decode cX5_plainRun 5 = .ok (.iconst 0, 1) := by decide +kernel
theorem dX5_plainRun_6 : decode cX5_plainRun 6 = .ok (.invokevirtual 134, 3) := by decide +kernel
theorem dX5_plainRun_9 : decode cX5_plainRun 9 = .ok (.ireturn, 1) := by decide +kernel
theorem dX5_mutantRun_0 : decode cX5_mutantRun 0 = .ok (.aload_n 0, 1) := by decide +kernel
theorem dX5_mutantRun_1 : decode cX5_mutantRun 1 = .ok (.iload_n 2, 1) := by decide +kernel
theorem dX5_mutantRun_2 : decode cX5_mutantRun 2 = .ok (.iload_n 3, 1) := by decide +kernel
theorem dX5_mutantRun_3 : decode cX5_mutantRun 3 = .ok (.iload_n 1, 1) := by decide +kernel
theorem dX5_mutantRun_4 : decode cX5_mutantRun 4 = .ok (.invokestatic 131, 3) := by decide +kernel
theorem dX5_mutantRun_7 : decode cX5_mutantRun 7 = .ok (.aload_n 0, 1) := by decide +kernel
theorem dX5_mutantRun_8 : decode cX5_mutantRun 8 = .ok (.iload_n 1, 1) := by decide +kernel
theorem dX5_mutantRun_9 : decode cX5_mutantRun 9 = .ok (.invokevirtual 137, 3) := by decide +kernel
theorem dX5_mutantRun_12 : decode cX5_mutantRun 12 = .ok (.invokevirtual 134, 3) := by decide +kernel
theorem dX5_mutantRun_15 : decode cX5_mutantRun 15 = .ok (.ireturn, 1) := by decide +kernel
theorem dX5_kills_0 : decode cX5_kills 0 = .ok (.aload_n 0, 1) := by decide +kernel
theorem dX5_kills_1 : decode cX5_kills 1 = .ok (.aload_n 0, 1) := by decide +kernel
theorem dX5_kills_2 : decode cX5_kills 2 = .ok (.getfield 34, 3) := by decide +kernel
theorem dX5_kills_5 : decode cX5_kills 5 = .ok (.iload_n 1, 1) := by decide +kernel
theorem dX5_kills_6 : decode cX5_kills 6 = .ok (.iaload, 1) := by decide +kernel
theorem dX5_kills_7 : decode cX5_kills 7 = .ok (.aload_n 0, 1) := by decide +kernel
theorem dX5_kills_8 : decode cX5_kills 8 = .ok (.getfield 37, 3) := by decide +kernel
theorem dX5_kills_11 : decode cX5_kills 11 = .ok (.iload_n 1, 1) := by decide +kernel
theorem dX5_kills_12 : decode cX5_kills 12 = .ok (.iaload, 1) := by decide +kernel
theorem dX5_kills_13 : decode cX5_kills 13 = .ok (.invokevirtual 140, 3) := by decide +kernel
theorem dX5_kills_16 : decode cX5_kills 16 = .ok (.aload_n 0, 1) := by decide +kernel
theorem dX5_kills_17 : decode cX5_kills 17 = .ok (.iload_n 2, 1) := by decide +kernel
theorem dX5_kills_18 : decode cX5_kills 18 = .ok (.aload_n 0, 1) := by decide +kernel
theorem dX5_kills_19 : decode cX5_kills 19 = .ok (.getfield 34, 3) := by decide +kernel
theorem dX5_kills_22 : decode cX5_kills 22 = .ok (.iload_n 1, 1) := by decide +kernel
theorem dX5_kills_23 : decode cX5_kills 23 = .ok (.iaload, 1) := by decide +kernel
theorem dX5_kills_24 : decode cX5_kills 24 = .ok (.aload_n 0, 1) := by decide +kernel
theorem dX5_kills_25 : decode cX5_kills 25 = .ok (.getfield 37, 3) := by decide +kernel
theorem dX5_kills_28 : decode cX5_kills 28 = .ok (.iload_n 1, 1) := by decide +kernel
theorem dX5_kills_29 : decode cX5_kills 29 = .ok (.iaload, 1) := by decide +kernel
theorem dX5_kills_30 : decode cX5_kills 30 = .ok (.invokevirtual 144, 3) := by decide +kernel
theorem dX5_kills_33 : decode cX5_kills 33 = .ok (.if_icmp .eq 7, 3) := by decide +kernel
theorem dX5_kills_36 : decode cX5_kills 36 = .ok (.iconst 1, 1) := by decide +kernel
theorem dX5_kills_37 : decode cX5_kills 37 = .ok (.goto 4, 3) := by decide +kernel
theorem dX5_kills_40 : decode cX5_kills 40 = .ok (.iconst 0, 1) := by decide +kernel
theorem dX5_kills_41 : decode cX5_kills 41 = .ok (.ireturn, 1) := by decide +kernel
theorem dX5_infects_0 : decode cX5_infects 0 = .ok (.aload_n 0, 1) := by decide +kernel
theorem dX5_infects_1 : decode cX5_infects 1 = .ok (.aload_n 0, 1) := by decide +kernel
theorem dX5_infects_2 : decode cX5_infects 2 = .ok (.getfield 34, 3) := by decide +kernel
theorem dX5_infects_5 : decode cX5_infects 5 = .ok (.iload_n 1, 1) := by decide +kernel
theorem dX5_infects_6 : decode cX5_infects 6 = .ok (.iaload, 1) := by decide +kernel
theorem dX5_infects_7 : decode cX5_infects 7 = .ok (.aload_n 0, 1) := by decide +kernel
theorem dX5_infects_8 : decode cX5_infects 8 = .ok (.getfield 37, 3) := by decide +kernel
theorem dX5_infects_11 : decode cX5_infects 11 = .ok (.iload_n 1, 1) := by decide +kernel
theorem dX5_infects_12 : decode cX5_infects 12 = .ok (.iaload, 1) := by decide +kernel
theorem dX5_infects_13 : decode cX5_infects 13 = .ok (.invokevirtual 140, 3) := by decide +kernel
theorem dX5_infects_16 : decode cX5_infects 16 = .ok (.pop, 1) := by decide +kernel
theorem dX5_infects_17 : decode cX5_infects 17 = .ok (.aload_n 0, 1) := by decide +kernel
theorem dX5_infects_18 : decode cX5_infects 18 = .ok (.getfield 46, 3) := by decide +kernel
theorem dX5_infects_21 : decode cX5_infects 21 = .ok (.iload_n 2, 1) := by decide +kernel
theorem dX5_infects_22 : decode cX5_infects 22 = .ok (.invokestatic 131, 3) := by decide +kernel
theorem dX5_infects_25 : decode cX5_infects 25 = .ok (.iaload, 1) := by decide +kernel
theorem dX5_infects_26 : decode cX5_infects 26 = .ok (.istore_n 3, 1) := by decide +kernel
theorem dX5_infects_27 : decode cX5_infects 27 = .ok (.aload_n 0, 1) := by decide +kernel
theorem dX5_infects_28 : decode cX5_infects 28 = .ok (.iload_n 2, 1) := by decide +kernel
theorem dX5_infects_29 : decode cX5_infects 29 = .ok (.aload_n 0, 1) := by decide +kernel
theorem dX5_infects_30 : decode cX5_infects 30 = .ok (.getfield 34, 3) := by decide +kernel
theorem dX5_infects_33 : decode cX5_infects 33 = .ok (.iload_n 1, 1) := by decide +kernel
theorem dX5_infects_34 : decode cX5_infects 34 = .ok (.iaload, 1) := by decide +kernel
theorem dX5_infects_35 : decode cX5_infects 35 = .ok (.aload_n 0, 1) := by decide +kernel
theorem dX5_infects_36 : decode cX5_infects 36 = .ok (.getfield 37, 3) := by decide +kernel
theorem dX5_infects_39 : decode cX5_infects 39 = .ok (.iload_n 1, 1) := by decide +kernel
theorem dX5_infects_40 : decode cX5_infects 40 = .ok (.iaload, 1) := by decide +kernel
theorem dX5_infects_41 : decode cX5_infects 41 = .ok (.invokevirtual 144, 3) := by decide +kernel
theorem dX5_infects_44 : decode cX5_infects 44 = .ok (.pop, 1) := by decide +kernel
theorem dX5_infects_45 : decode cX5_infects 45 = .ok (.aload_n 0, 1) := by decide +kernel
theorem dX5_infects_46 : decode cX5_infects 46 = .ok (.getfield 46, 3) := by decide +kernel
theorem dX5_infects_49 : decode cX5_infects 49 = .ok (.iload_n 2, 1) := by decide +kernel
theorem dX5_infects_50 : decode cX5_infects 50 = .ok (.invokestatic 131, 3) := by decide +kernel
theorem dX5_infects_53 : decode cX5_infects 53 = .ok (.iaload, 1) := by decide +kernel
theorem dX5_infects_54 : decode cX5_infects 54 = .ok (.iload_n 3, 1) := by decide +kernel
theorem dX5_infects_55 : decode cX5_infects 55 = .ok (.if_icmp .eq 7, 3) := by decide +kernel
theorem dX5_infects_58 : decode cX5_infects 58 = .ok (.iconst 1, 1) := by decide +kernel
theorem dX5_infects_59 : decode cX5_infects 59 = .ok (.goto 4, 3) := by decide +kernel
theorem dX5_infects_62 : decode cX5_infects 62 = .ok (.iconst 0, 1) := by decide +kernel
theorem dX5_infects_63 : decode cX5_infects 63 = .ok (.ireturn, 1) := by decide +kernel
theorem dX5_differs_0 : decode cX5_differs 0 = .ok (.iconst 0, 1) := by decide +kernel
theorem dX5_differs_1 : decode cX5_differs 1 = .ok (.istore_n 2, 1) := by decide +kernel
theorem dX5_differs_2 : decode cX5_differs 2 = .ok (.iconst 0, 1) := by decide +kernel
theorem dX5_differs_3 : decode cX5_differs 3 = .ok (.istore_n 3, 1) := by decide +kernel
theorem dX5_differs_4 : decode cX5_differs 4 = .ok (.iload_n 3, 1) := by decide +kernel
theorem dX5_differs_5 : decode cX5_differs 5 = .ok (.bipush 100, 2) := by decide +kernel
theorem dX5_differs_7 : decode cX5_differs 7 = .ok (.if_icmp .ge 45, 3) := by decide +kernel
theorem dX5_differs_10 : decode cX5_differs 10 = .ok (.iload_n 2, 1) := by decide +kernel
theorem dX5_differs_11 : decode cX5_differs 11 = .ok (.aload_n 0, 1) := by decide +kernel
theorem dX5_differs_12 : decode cX5_differs 12 = .ok (.iload_n 3, 1) := by decide +kernel
theorem dX5_differs_13 : decode cX5_differs 13 = .ok (.bipush 10, 2) := by decide +kernel
theorem dX5_differs_15 : decode cX5_differs 15 = .ok (.idiv, 1) := by decide +kernel
theorem dX5_differs_16 : decode cX5_differs 16 = .ok (.iload_n 3, 1) := by decide +kernel
theorem dX5_differs_17 : decode cX5_differs 17 = .ok (.bipush 10, 2) := by decide +kernel
theorem dX5_differs_19 : decode cX5_differs 19 = .ok (.irem, 1) := by decide +kernel
theorem dX5_differs_20 : decode cX5_differs 20 = .ok (.invokevirtual 140, 3) := by decide +kernel
theorem dX5_differs_23 : decode cX5_differs 23 = .ok (.aload_n 0, 1) := by decide +kernel
theorem dX5_differs_24 : decode cX5_differs 24 = .ok (.iload_n 1, 1) := by decide +kernel
theorem dX5_differs_25 : decode cX5_differs 25 = .ok (.iload_n 3, 1) := by decide +kernel
theorem dX5_differs_26 : decode cX5_differs 26 = .ok (.bipush 10, 2) := by decide +kernel
theorem dX5_differs_28 : decode cX5_differs 28 = .ok (.idiv, 1) := by decide +kernel
theorem dX5_differs_29 : decode cX5_differs 29 = .ok (.iload_n 3, 1) := by decide +kernel
theorem dX5_differs_30 : decode cX5_differs 30 = .ok (.bipush 10, 2) := by decide +kernel
theorem dX5_differs_32 : decode cX5_differs 32 = .ok (.irem, 1) := by decide +kernel
theorem dX5_differs_33 : decode cX5_differs 33 = .ok (.invokevirtual 144, 3) := by decide +kernel
theorem dX5_differs_36 : decode cX5_differs 36 = .ok (.if_icmp .ne 7, 3) := by decide +kernel
theorem dX5_differs_39 : decode cX5_differs 39 = .ok (.iconst 0, 1) := by decide +kernel
theorem dX5_differs_40 : decode cX5_differs 40 = .ok (.goto 4, 3) := by decide +kernel
theorem dX5_differs_43 : decode cX5_differs 43 = .ok (.iconst 1, 1) := by decide +kernel
theorem dX5_differs_44 : decode cX5_differs 44 = .ok (.iadd, 1) := by decide +kernel
theorem dX5_differs_45 : decode cX5_differs 45 = .ok (.istore_n 2, 1) := by decide +kernel
theorem dX5_differs_46 : decode cX5_differs 46 = .ok (.iinc 3 1, 3) := by decide +kernel
theorem dX5_differs_49 : decode cX5_differs 49 = .ok (.goto (-45), 3) := by decide +kernel
theorem dX5_differs_52 : decode cX5_differs 52 = .ok (.iload_n 2, 1) := by decide +kernel
theorem dX5_differs_53 : decode cX5_differs 53 = .ok (.ireturn, 1) := by decide +kernel
theorem dX5_manyEqual_0 : decode cX5_manyEqual 0 = .ok (.iconst 0, 1) := by decide +kernel
theorem dX5_manyEqual_1 : decode cX5_manyEqual 1 = .ok (.istore_n 1, 1) := by decide +kernel
theorem dX5_manyEqual_2 : decode cX5_manyEqual 2 = .ok (.iconst 0, 1) := by decide +kernel
theorem dX5_manyEqual_3 : decode cX5_manyEqual 3 = .ok (.istore_n 2, 1) := by decide +kernel
theorem dX5_manyEqual_4 : decode cX5_manyEqual 4 = .ok (.iload_n 2, 1) := by decide +kernel
theorem dX5_manyEqual_5 : decode cX5_manyEqual 5 = .ok (.aload_n 0, 1) := by decide +kernel
theorem dX5_manyEqual_6 : decode cX5_manyEqual 6 = .ok (.invokevirtual 77, 3) := by decide +kernel
theorem dX5_manyEqual_9 : decode cX5_manyEqual 9 = .ok (.if_icmp .ge 25, 3) := by decide +kernel
theorem dX5_manyEqual_12 : decode cX5_manyEqual 12 = .ok (.iload_n 1, 1) := by decide +kernel
theorem dX5_manyEqual_13 : decode cX5_manyEqual 13 = .ok (.aload_n 0, 1) := by decide +kernel
theorem dX5_manyEqual_14 : decode cX5_manyEqual 14 = .ok (.iload_n 2, 1) := by decide +kernel
theorem dX5_manyEqual_15 : decode cX5_manyEqual 15 = .ok (.invokevirtual 147, 3) := by decide +kernel
theorem dX5_manyEqual_18 : decode cX5_manyEqual 18 = .ok (.ifCond .ne 7, 3) := by decide +kernel
theorem dX5_manyEqual_21 : decode cX5_manyEqual 21 = .ok (.iconst 1, 1) := by decide +kernel
theorem dX5_manyEqual_22 : decode cX5_manyEqual 22 = .ok (.goto 4, 3) := by decide +kernel
theorem dX5_manyEqual_25 : decode cX5_manyEqual 25 = .ok (.iconst 0, 1) := by decide +kernel
theorem dX5_manyEqual_26 : decode cX5_manyEqual 26 = .ok (.iadd, 1) := by decide +kernel
theorem dX5_manyEqual_27 : decode cX5_manyEqual 27 = .ok (.istore_n 1, 1) := by decide +kernel
theorem dX5_manyEqual_28 : decode cX5_manyEqual 28 = .ok (.iinc 2 1, 3) := by decide +kernel
theorem dX5_manyEqual_31 : decode cX5_manyEqual 31 = .ok (.goto (-27), 3) := by decide +kernel
theorem dX5_manyEqual_34 : decode cX5_manyEqual 34 = .ok (.iload_n 1, 1) := by decide +kernel
theorem dX5_manyEqual_35 : decode cX5_manyEqual 35 = .ok (.ireturn, 1) := by decide +kernel
theorem dX5_findKillers_0 : decode cX5_findKillers 0 = .ok (.iconst 0, 1) := by decide +kernel
theorem dX5_findKillers_1 : decode cX5_findKillers 1 = .ok (.istore_n 1, 1) := by decide +kernel
theorem dX5_findKillers_2 : decode cX5_findKillers 2 = .ok (.iload_n 1, 1) := by decide +kernel
theorem dX5_findKillers_3 : decode cX5_findKillers 3 = .ok (.aload_n 0, 1) := by decide +kernel
theorem dX5_findKillers_4 : decode cX5_findKillers 4 = .ok (.invokevirtual 77, 3) := by decide +kernel
theorem dX5_findKillers_7 : decode cX5_findKillers 7 = .ok (.if_icmp .ge 57, 3) := by decide +kernel
theorem dX5_findKillers_10 : decode cX5_findKillers 10 = .ok (.aload_n 0, 1) := by decide +kernel
theorem dX5_findKillers_11 : decode cX5_findKillers 11 = .ok (.getfield 49, 3) := by decide +kernel
theorem dX5_findKillers_14 : decode cX5_findKillers 14 = .ok (.iload_n 1, 1) := by decide +kernel
theorem dX5_findKillers_15 : decode cX5_findKillers 15 = .ok (.iconst 0, 1) := by decide +kernel
theorem dX5_findKillers_16 : decode cX5_findKillers 16 = .ok (.iastore, 1) := by decide +kernel
theorem dX5_findKillers_17 : decode cX5_findKillers 17 = .ok (.iconst 0, 1) := by decide +kernel
theorem dX5_findKillers_18 : decode cX5_findKillers 18 = .ok (.istore_n 2, 1) := by decide +kernel
theorem dX5_findKillers_19 : decode cX5_findKillers 19 = .ok (.iload_n 2, 1) := by decide +kernel
theorem dX5_findKillers_20 : decode cX5_findKillers 20 = .ok (.aload_n 0, 1) := by decide +kernel
theorem dX5_findKillers_21 : decode cX5_findKillers 21 = .ok (.getfield 74, 3) := by decide +kernel
theorem dX5_findKillers_24 : decode cX5_findKillers 24 = .ok (.if_icmp .ge 34, 3) := by decide +kernel
theorem dX5_findKillers_27 : decode cX5_findKillers 27 = .ok (.aload_n 0, 1) := by decide +kernel
theorem dX5_findKillers_28 : decode cX5_findKillers 28 = .ok (.getfield 49, 3) := by decide +kernel
theorem dX5_findKillers_31 : decode cX5_findKillers 31 = .ok (.iload_n 1, 1) := by decide +kernel
theorem dX5_findKillers_32 : decode cX5_findKillers 32 = .ok (.dup2, 1) := by decide +kernel
theorem dX5_findKillers_33 : decode cX5_findKillers 33 = .ok (.iaload, 1) := by decide +kernel
theorem dX5_findKillers_34 : decode cX5_findKillers 34 = .ok (.aload_n 0, 1) := by decide +kernel
theorem dX5_findKillers_35 : decode cX5_findKillers 35 = .ok (.iload_n 2, 1) := by decide +kernel
theorem dX5_findKillers_36 : decode cX5_findKillers 36 = .ok (.iload_n 1, 1) := by decide +kernel
theorem dX5_findKillers_37 : decode cX5_findKillers 37 = .ok (.invokevirtual 150, 3) := by decide +kernel
theorem dX5_findKillers_40 : decode cX5_findKillers 40 = .ok (.ifCond .eq 9, 3) := by decide +kernel
theorem dX5_findKillers_43 : decode cX5_findKillers 43 = .ok (.iconst 1, 1) := by decide +kernel
theorem dX5_findKillers_44 : decode cX5_findKillers 44 = .ok (.iload_n 2, 1) := by decide +kernel
theorem dX5_findKillers_45 : decode cX5_findKillers 45 = .ok (.ishl, 1) := by decide +kernel
theorem dX5_findKillers_46 : decode cX5_findKillers 46 = .ok (.goto 4, 3) := by decide +kernel
theorem dX5_findKillers_49 : decode cX5_findKillers 49 = .ok (.iconst 0, 1) := by decide +kernel
theorem dX5_findKillers_50 : decode cX5_findKillers 50 = .ok (.ior, 1) := by decide +kernel
theorem dX5_findKillers_51 : decode cX5_findKillers 51 = .ok (.iastore, 1) := by decide +kernel
theorem dX5_findKillers_52 : decode cX5_findKillers 52 = .ok (.iinc 2 1, 3) := by decide +kernel
theorem dX5_findKillers_55 : decode cX5_findKillers 55 = .ok (.goto (-36), 3) := by decide +kernel
theorem dX5_findKillers_58 : decode cX5_findKillers 58 = .ok (.iinc 1 1, 3) := by decide +kernel
theorem dX5_findKillers_61 : decode cX5_findKillers 61 = .ok (.goto (-59), 3) := by decide +kernel
theorem dX5_findKillers_64 : decode cX5_findKillers 64 = .ok (.return_, 1) := by decide +kernel
theorem dX5_killed_0 : decode cX5_killed 0 = .ok (.iconst 0, 1) := by decide +kernel
theorem dX5_killed_1 : decode cX5_killed 1 = .ok (.istore_n 1, 1) := by decide +kernel
theorem dX5_killed_2 : decode cX5_killed 2 = .ok (.iconst 0, 1) := by decide +kernel
theorem dX5_killed_3 : decode cX5_killed 3 = .ok (.istore_n 2, 1) := by decide +kernel
theorem dX5_killed_4 : decode cX5_killed 4 = .ok (.iload_n 2, 1) := by decide +kernel
theorem dX5_killed_5 : decode cX5_killed 5 = .ok (.aload_n 0, 1) := by decide +kernel
theorem dX5_killed_6 : decode cX5_killed 6 = .ok (.invokevirtual 77, 3) := by decide +kernel
theorem dX5_killed_9 : decode cX5_killed 9 = .ok (.if_icmp .ge 26, 3) := by decide +kernel
theorem dX5_killed_12 : decode cX5_killed 12 = .ok (.iload_n 1, 1) := by decide +kernel
theorem dX5_killed_13 : decode cX5_killed 13 = .ok (.aload_n 0, 1) := by decide +kernel
theorem dX5_killed_14 : decode cX5_killed 14 = .ok (.getfield 49, 3) := by decide +kernel
theorem dX5_killed_17 : decode cX5_killed 17 = .ok (.iload_n 2, 1) := by decide +kernel
theorem dX5_killed_18 : decode cX5_killed 18 = .ok (.iaload, 1) := by decide +kernel
theorem dX5_killed_19 : decode cX5_killed 19 = .ok (.ifCond .ne 7, 3) := by decide +kernel
theorem dX5_killed_22 : decode cX5_killed 22 = .ok (.iconst 0, 1) := by decide +kernel
theorem dX5_killed_23 : decode cX5_killed 23 = .ok (.goto 4, 3) := by decide +kernel
theorem dX5_killed_26 : decode cX5_killed 26 = .ok (.iconst 1, 1) := by decide +kernel
theorem dX5_killed_27 : decode cX5_killed 27 = .ok (.iadd, 1) := by decide +kernel
theorem dX5_killed_28 : decode cX5_killed 28 = .ok (.istore_n 1, 1) := by decide +kernel
theorem dX5_killed_29 : decode cX5_killed 29 = .ok (.iinc 2 1, 3) := by decide +kernel
theorem dX5_killed_32 : decode cX5_killed 32 = .ok (.goto (-28), 3) := by decide +kernel
theorem dX5_killed_35 : decode cX5_killed 35 = .ok (.iload_n 1, 1) := by decide +kernel
theorem dX5_killed_36 : decode cX5_killed 36 = .ok (.ireturn, 1) := by decide +kernel
theorem dX5_killedBy_0 : decode cX5_killedBy 0 = .ok (.iconst 0, 1) := by decide +kernel
theorem dX5_killedBy_1 : decode cX5_killedBy 1 = .ok (.istore_n 2, 1) := by decide +kernel
theorem dX5_killedBy_2 : decode cX5_killedBy 2 = .ok (.iconst 0, 1) := by decide +kernel
theorem dX5_killedBy_3 : decode cX5_killedBy 3 = .ok (.istore_n 3, 1) := by decide +kernel
theorem dX5_killedBy_4 : decode cX5_killedBy 4 = .ok (.iload_n 3, 1) := by decide +kernel
theorem dX5_killedBy_5 : decode cX5_killedBy 5 = .ok (.aload_n 0, 1) := by decide +kernel
theorem dX5_killedBy_6 : decode cX5_killedBy 6 = .ok (.invokevirtual 77, 3) := by decide +kernel
theorem dX5_killedBy_9 : decode cX5_killedBy 9 = .ok (.if_icmp .ge 24, 3) := by decide +kernel
theorem dX5_killedBy_12 : decode cX5_killedBy 12 = .ok (.iload_n 2, 1) := by decide +kernel
theorem dX5_killedBy_13 : decode cX5_killedBy 13 = .ok (.aload_n 0, 1) := by decide +kernel
theorem dX5_killedBy_14 : decode cX5_killedBy 14 = .ok (.getfield 49, 3) := by decide +kernel
theorem dX5_killedBy_17 : decode cX5_killedBy 17 = .ok (.iload_n 3, 1) := by decide +kernel
theorem dX5_killedBy_18 : decode cX5_killedBy 18 = .ok (.iaload, 1) := by decide +kernel
theorem dX5_killedBy_19 : decode cX5_killedBy 19 = .ok (.iload_n 1, 1) := by decide +kernel
theorem dX5_killedBy_20 : decode cX5_killedBy 20 = .ok (.ishr, 1) := by decide +kernel
theorem dX5_killedBy_21 : decode cX5_killedBy 21 = .ok (.iconst 1, 1) := by decide +kernel
theorem dX5_killedBy_22 : decode cX5_killedBy 22 = .ok (.iand, 1) := by decide +kernel
theorem dX5_killedBy_23 : decode cX5_killedBy 23 = .ok (.iload_n 3, 1) := by decide +kernel
theorem dX5_killedBy_24 : decode cX5_killedBy 24 = .ok (.ishl, 1) := by decide +kernel
theorem dX5_killedBy_25 : decode cX5_killedBy 25 = .ok (.ior, 1) := by decide +kernel
theorem dX5_killedBy_26 : decode cX5_killedBy 26 = .ok (.istore_n 2, 1) := by decide +kernel
theorem dX5_killedBy_27 : decode cX5_killedBy 27 = .ok (.iinc 3 1, 3) := by decide +kernel
theorem dX5_killedBy_30 : decode cX5_killedBy 30 = .ok (.goto (-26), 3) := by decide +kernel
theorem dX5_killedBy_33 : decode cX5_killedBy 33 = .ok (.iload_n 2, 1) := by decide +kernel
theorem dX5_killedBy_34 : decode cX5_killedBy 34 = .ok (.ireturn, 1) := by decide +kernel
theorem dX5_ofStep_0 : decode cX5_ofStep 0 = .ok (.aload_n 0, 1) := by decide +kernel
theorem dX5_ofStep_1 : decode cX5_ofStep 1 = .ok (.iload_n 1, 1) := by decide +kernel
theorem dX5_ofStep_2 : decode cX5_ofStep 2 = .ok (.invokevirtual 153, 3) := by decide +kernel
theorem dX5_ofStep_5 : decode cX5_ofStep 5 = .ok (.ifCond .ne 5, 3) := by decide +kernel
theorem dX5_ofStep_8 : decode cX5_ofStep 8 = .ok (.iconst (-1), 1) := by decide +kernel
theorem dX5_ofStep_9 : decode cX5_ofStep 9 = .ok (.ireturn, 1) := by decide +kernel
theorem dX5_ofStep_10 : decode cX5_ofStep 10 = .ok (.iload_n 2, 1) := by decide +kernel
theorem dX5_ofStep_11 : decode cX5_ofStep 11 = .ok (.ifCond .ne 12, 3) := by decide +kernel
theorem dX5_ofStep_14 : decode cX5_ofStep 14 = .ok (.aload_n 0, 1) := by decide +kernel
theorem dX5_ofStep_15 : decode cX5_ofStep 15 = .ok (.getfield 19, 3) := by decide +kernel
theorem dX5_ofStep_18 : decode cX5_ofStep 18 = .ok (.iload_n 1, 1) := by decide +kernel
theorem dX5_ofStep_19 : decode cX5_ofStep 19 = .ok (.iaload, 1) := by decide +kernel
theorem dX5_ofStep_20 : decode cX5_ofStep 20 = .ok (.goto 33, 3) := by decide +kernel
theorem dX5_ofStep_23 : decode cX5_ofStep 23 = .ok (.iload_n 2, 1) := by decide +kernel
theorem dX5_ofStep_24 : decode cX5_ofStep 24 = .ok (.iconst 1, 1) := by decide +kernel
theorem dX5_ofStep_25 : decode cX5_ofStep 25 = .ok (.if_icmp .ne 12, 3) := by decide +kernel
theorem dX5_ofStep_28 : decode cX5_ofStep 28 = .ok (.aload_n 0, 1) := by decide +kernel
theorem dX5_ofStep_29 : decode cX5_ofStep 29 = .ok (.getfield 22, 3) := by decide +kernel
theorem dX5_ofStep_32 : decode cX5_ofStep 32 = .ok (.iload_n 1, 1) := by decide +kernel
theorem dX5_ofStep_33 : decode cX5_ofStep 33 = .ok (.iaload, 1) := by decide +kernel
theorem dX5_ofStep_34 : decode cX5_ofStep 34 = .ok (.goto 19, 3) := by decide +kernel
theorem dX5_ofStep_37 : decode cX5_ofStep 37 = .ok (.iload_n 2, 1) := by decide +kernel
theorem dX5_ofStep_38 : decode cX5_ofStep 38 = .ok (.iconst 2, 1) := by decide +kernel
theorem dX5_ofStep_39 : decode cX5_ofStep 39 = .ok (.if_icmp .ne 12, 3) := by decide +kernel
theorem dX5_ofStep_42 : decode cX5_ofStep 42 = .ok (.aload_n 0, 1) := by decide +kernel
theorem dX5_ofStep_43 : decode cX5_ofStep 43 = .ok (.getfield 25, 3) := by decide +kernel
theorem dX5_ofStep_46 : decode cX5_ofStep 46 = .ok (.iload_n 1, 1) := by decide +kernel
theorem dX5_ofStep_47 : decode cX5_ofStep 47 = .ok (.iaload, 1) := by decide +kernel
theorem dX5_ofStep_48 : decode cX5_ofStep 48 = .ok (.goto 5, 3) := by decide +kernel
theorem dX5_ofStep_51 : decode cX5_ofStep 51 = .ok (.bipush (-2), 2) := by decide +kernel
theorem dX5_ofStep_53 : decode cX5_ofStep 53 = .ok (.ireturn, 1) := by decide +kernel
theorem dX5_ofTest_0 : decode cX5_ofTest 0 = .ok (.aload_n 0, 1) := by decide +kernel
theorem dX5_ofTest_1 : decode cX5_ofTest 1 = .ok (.iload_n 1, 1) := by decide +kernel
theorem dX5_ofTest_2 : decode cX5_ofTest 2 = .ok (.invokevirtual 156, 3) := by decide +kernel
theorem dX5_ofTest_5 : decode cX5_ofTest 5 = .ok (.ifCond .ne 5, 3) := by decide +kernel
theorem dX5_ofTest_8 : decode cX5_ofTest 8 = .ok (.iconst (-1), 1) := by decide +kernel
theorem dX5_ofTest_9 : decode cX5_ofTest 9 = .ok (.ireturn, 1) := by decide +kernel
theorem dX5_ofTest_10 : decode cX5_ofTest 10 = .ok (.iload_n 2, 1) := by decide +kernel
theorem dX5_ofTest_11 : decode cX5_ofTest 11 = .ok (.tableswitch 102 0 6 #[41, 48, 55, 61, 68, 75, 92], 41) := by decide +kernel
theorem dX5_ofTest_52 : decode cX5_ofTest 52 = .ok (.aload_n 0, 1) := by decide +kernel
theorem dX5_ofTest_53 : decode cX5_ofTest 53 = .ok (.getfield 28, 3) := by decide +kernel
theorem dX5_ofTest_56 : decode cX5_ofTest 56 = .ok (.iload_n 1, 1) := by decide +kernel
theorem dX5_ofTest_57 : decode cX5_ofTest 57 = .ok (.iaload, 1) := by decide +kernel
theorem dX5_ofTest_58 : decode cX5_ofTest 58 = .ok (.ireturn, 1) := by decide +kernel
theorem dX5_ofTest_59 : decode cX5_ofTest 59 = .ok (.aload_n 0, 1) := by decide +kernel
theorem dX5_ofTest_60 : decode cX5_ofTest 60 = .ok (.getfield 31, 3) := by decide +kernel
theorem dX5_ofTest_63 : decode cX5_ofTest 63 = .ok (.iload_n 1, 1) := by decide +kernel
theorem dX5_ofTest_64 : decode cX5_ofTest 64 = .ok (.iaload, 1) := by decide +kernel
theorem dX5_ofTest_65 : decode cX5_ofTest 65 = .ok (.ireturn, 1) := by decide +kernel
theorem dX5_ofTest_66 : decode cX5_ofTest 66 = .ok (.aload_n 0, 1) := by decide +kernel
theorem dX5_ofTest_67 : decode cX5_ofTest 67 = .ok (.iload_n 1, 1) := by decide +kernel
theorem dX5_ofTest_68 : decode cX5_ofTest 68 = .ok (.invokevirtual 159, 3) := by decide +kernel
theorem dX5_ofTest_71 : decode cX5_ofTest 71 = .ok (.ireturn, 1) := by decide +kernel
theorem dX5_ofTest_72 : decode cX5_ofTest 72 = .ok (.aload_n 0, 1) := by decide +kernel
theorem dX5_ofTest_73 : decode cX5_ofTest 73 = .ok (.getfield 34, 3) := by decide +kernel
theorem dX5_ofTest_76 : decode cX5_ofTest 76 = .ok (.iload_n 1, 1) := by decide +kernel
theorem dX5_ofTest_77 : decode cX5_ofTest 77 = .ok (.iaload, 1) := by decide +kernel
theorem dX5_ofTest_78 : decode cX5_ofTest 78 = .ok (.ireturn, 1) := by decide +kernel
theorem dX5_ofTest_79 : decode cX5_ofTest 79 = .ok (.aload_n 0, 1) := by decide +kernel
theorem dX5_ofTest_80 : decode cX5_ofTest 80 = .ok (.getfield 37, 3) := by decide +kernel
theorem dX5_ofTest_83 : decode cX5_ofTest 83 = .ok (.iload_n 1, 1) := by decide +kernel
theorem dX5_ofTest_84 : decode cX5_ofTest 84 = .ok (.iaload, 1) := by decide +kernel
theorem dX5_ofTest_85 : decode cX5_ofTest 85 = .ok (.ireturn, 1) := by decide +kernel
theorem dX5_ofTest_86 : decode cX5_ofTest 86 = .ok (.aload_n 0, 1) := by decide +kernel
theorem dX5_ofTest_87 : decode cX5_ofTest 87 = .ok (.aload_n 0, 1) := by decide +kernel
theorem dX5_ofTest_88 : decode cX5_ofTest 88 = .ok (.getfield 34, 3) := by decide +kernel
theorem dX5_ofTest_91 : decode cX5_ofTest 91 = .ok (.iload_n 1, 1) := by decide +kernel
theorem dX5_ofTest_92 : decode cX5_ofTest 92 = .ok (.iaload, 1) := by decide +kernel
theorem dX5_ofTest_93 : decode cX5_ofTest 93 = .ok (.aload_n 0, 1) := by decide +kernel
theorem dX5_ofTest_94 : decode cX5_ofTest 94 = .ok (.getfield 37, 3) := by decide +kernel
theorem dX5_ofTest_97 : decode cX5_ofTest 97 = .ok (.iload_n 1, 1) := by decide +kernel
theorem dX5_ofTest_98 : decode cX5_ofTest 98 = .ok (.iaload, 1) := by decide +kernel
theorem dX5_ofTest_99 : decode cX5_ofTest 99 = .ok (.invokevirtual 140, 3) := by decide +kernel
theorem dX5_ofTest_102 : decode cX5_ofTest 102 = .ok (.ireturn, 1) := by decide +kernel
theorem dX5_ofTest_103 : decode cX5_ofTest 103 = .ok (.aload_n 0, 1) := by decide +kernel
theorem dX5_ofTest_104 : decode cX5_ofTest 104 = .ok (.invokevirtual 162, 3) := by decide +kernel
theorem dX5_ofTest_107 : decode cX5_ofTest 107 = .ok (.aload_n 0, 1) := by decide +kernel
theorem dX5_ofTest_108 : decode cX5_ofTest 108 = .ok (.iload_n 1, 1) := by decide +kernel
theorem dX5_ofTest_109 : decode cX5_ofTest 109 = .ok (.invokevirtual 165, 3) := by decide +kernel
theorem dX5_ofTest_112 : decode cX5_ofTest 112 = .ok (.ireturn, 1) := by decide +kernel
theorem dX5_ofTest_113 : decode cX5_ofTest 113 = .ok (.bipush (-2), 2) := by decide +kernel
theorem dX5_ofTest_115 : decode cX5_ofTest 115 = .ok (.ireturn, 1) := by decide +kernel
theorem dX5_output_0 : decode cX5_output 0 = .ok (.iload_n 1, 1) := by decide +kernel
theorem dX5_output_1 : decode cX5_output 1 = .ok (.iconst 0, 1) := by decide +kernel
theorem dX5_output_2 : decode cX5_output 2 = .ok (.bipush 9, 2) := by decide +kernel
theorem dX5_output_4 : decode cX5_output 4 = .ok (.invokestatic 67, 3) := by decide +kernel
theorem dX5_output_7 : decode cX5_output 7 = .ok (.ifCond .eq 13, 3) := by decide +kernel
theorem dX5_output_10 : decode cX5_output 10 = .ok (.iload_n 2, 1) := by decide +kernel
theorem dX5_output_11 : decode cX5_output 11 = .ok (.iconst 0, 1) := by decide +kernel
theorem dX5_output_12 : decode cX5_output 12 = .ok (.bipush 9, 2) := by decide +kernel
theorem dX5_output_14 : decode cX5_output 14 = .ok (.invokestatic 67, 3) := by decide +kernel
theorem dX5_output_17 : decode cX5_output 17 = .ok (.ifCond .ne 6, 3) := by decide +kernel
theorem dX5_output_20 : decode cX5_output 20 = .ok (.bipush (-2), 2) := by decide +kernel
theorem dX5_output_22 : decode cX5_output 22 = .ok (.ireturn, 1) := by decide +kernel
theorem dX5_output_23 : decode cX5_output 23 = .ok (.aload_n 0, 1) := by decide +kernel
theorem dX5_output_24 : decode cX5_output 24 = .ok (.getfield 71, 3) := by decide +kernel
theorem dX5_output_27 : decode cX5_output 27 = .ok (.ifCond .ne 8, 3) := by decide +kernel
theorem dX5_output_30 : decode cX5_output 30 = .ok (.bipush (-3), 2) := by decide +kernel
theorem dX5_output_32 : decode cX5_output 32 = .ok (.goto 9, 3) := by decide +kernel
theorem dX5_output_35 : decode cX5_output 35 = .ok (.aload_n 0, 1) := by decide +kernel
theorem dX5_output_36 : decode cX5_output 36 = .ok (.iload_n 1, 1) := by decide +kernel
theorem dX5_output_37 : decode cX5_output 37 = .ok (.iload_n 2, 1) := by decide +kernel
theorem dX5_output_38 : decode cX5_output 38 = .ok (.invokevirtual 140, 3) := by decide +kernel
theorem dX5_output_41 : decode cX5_output 41 = .ok (.ireturn, 1) := by decide +kernel
theorem dX5_way_0 : decode cX5_way 0 = .ok (.aload_n 0, 1) := by decide +kernel
theorem dX5_way_1 : decode cX5_way 1 = .ok (.iload_n 1, 1) := by decide +kernel
theorem dX5_way_2 : decode cX5_way 2 = .ok (.invokevirtual 153, 3) := by decide +kernel
theorem dX5_way_5 : decode cX5_way 5 = .ok (.ifCond .ne 5, 3) := by decide +kernel
theorem dX5_way_8 : decode cX5_way 8 = .ok (.iconst (-1), 1) := by decide +kernel
theorem dX5_way_9 : decode cX5_way 9 = .ok (.ireturn, 1) := by decide +kernel
theorem dX5_way_10 : decode cX5_way 10 = .ok (.iload_n 2, 1) := by decide +kernel
theorem dX5_way_11 : decode cX5_way 11 = .ok (.iconst 0, 1) := by decide +kernel
theorem dX5_way_12 : decode cX5_way 12 = .ok (.iconst 4, 1) := by decide +kernel
theorem dX5_way_13 : decode cX5_way 13 = .ok (.invokestatic 67, 3) := by decide +kernel
theorem dX5_way_16 : decode cX5_way 16 = .ok (.ifCond .ne 6, 3) := by decide +kernel
theorem dX5_way_19 : decode cX5_way 19 = .ok (.bipush (-2), 2) := by decide +kernel
theorem dX5_way_21 : decode cX5_way 21 = .ok (.ireturn, 1) := by decide +kernel
theorem dX5_way_22 : decode cX5_way 22 = .ok (.aload_n 0, 1) := by decide +kernel
theorem dX5_way_23 : decode cX5_way 23 = .ok (.getfield 19, 3) := by decide +kernel
theorem dX5_way_26 : decode cX5_way 26 = .ok (.iload_n 1, 1) := by decide +kernel
theorem dX5_way_27 : decode cX5_way 27 = .ok (.iaload, 1) := by decide +kernel
theorem dX5_way_28 : decode cX5_way 28 = .ok (.istore_n 3, 1) := by decide +kernel
theorem dX5_way_29 : decode cX5_way 29 = .ok (.aload_n 0, 1) := by decide +kernel
theorem dX5_way_30 : decode cX5_way 30 = .ok (.getfield 19, 3) := by decide +kernel
theorem dX5_way_33 : decode cX5_way 33 = .ok (.iload_n 1, 1) := by decide +kernel
theorem dX5_way_34 : decode cX5_way 34 = .ok (.iload_n 2, 1) := by decide +kernel
theorem dX5_way_35 : decode cX5_way 35 = .ok (.iastore, 1) := by decide +kernel
theorem dX5_way_36 : decode cX5_way 36 = .ok (.iload_n 3, 1) := by decide +kernel
theorem dX5_way_37 : decode cX5_way 37 = .ok (.ireturn, 1) := by decide +kernel
theorem dX5_time_0 : decode cX5_time 0 = .ok (.aload_n 0, 1) := by decide +kernel
theorem dX5_time_1 : decode cX5_time 1 = .ok (.iload_n 1, 1) := by decide +kernel
theorem dX5_time_2 : decode cX5_time 2 = .ok (.invokevirtual 156, 3) := by decide +kernel
theorem dX5_time_5 : decode cX5_time 5 = .ok (.ifCond .ne 5, 3) := by decide +kernel
theorem dX5_time_8 : decode cX5_time 8 = .ok (.iconst (-1), 1) := by decide +kernel
theorem dX5_time_9 : decode cX5_time 9 = .ok (.ireturn, 1) := by decide +kernel
theorem dX5_time_10 : decode cX5_time 10 = .ok (.iload_n 2, 1) := by decide +kernel
theorem dX5_time_11 : decode cX5_time 11 = .ok (.iconst 1, 1) := by decide +kernel
theorem dX5_time_12 : decode cX5_time 12 = .ok (.bipush 9, 2) := by decide +kernel
theorem dX5_time_14 : decode cX5_time 14 = .ok (.invokestatic 67, 3) := by decide +kernel
theorem dX5_time_17 : decode cX5_time 17 = .ok (.ifCond .ne 6, 3) := by decide +kernel
theorem dX5_time_20 : decode cX5_time 20 = .ok (.bipush (-2), 2) := by decide +kernel
theorem dX5_time_22 : decode cX5_time 22 = .ok (.ireturn, 1) := by decide +kernel
theorem dX5_time_23 : decode cX5_time 23 = .ok (.aload_n 0, 1) := by decide +kernel
theorem dX5_time_24 : decode cX5_time 24 = .ok (.getfield 31, 3) := by decide +kernel
theorem dX5_time_27 : decode cX5_time 27 = .ok (.iload_n 1, 1) := by decide +kernel
theorem dX5_time_28 : decode cX5_time 28 = .ok (.iaload, 1) := by decide +kernel
theorem dX5_time_29 : decode cX5_time 29 = .ok (.istore_n 3, 1) := by decide +kernel
theorem dX5_time_30 : decode cX5_time 30 = .ok (.aload_n 0, 1) := by decide +kernel
theorem dX5_time_31 : decode cX5_time 31 = .ok (.getfield 31, 3) := by decide +kernel
theorem dX5_time_34 : decode cX5_time 34 = .ok (.iload_n 1, 1) := by decide +kernel
theorem dX5_time_35 : decode cX5_time 35 = .ok (.iload_n 2, 1) := by decide +kernel
theorem dX5_time_36 : decode cX5_time 36 = .ok (.iastore, 1) := by decide +kernel
theorem dX5_time_37 : decode cX5_time 37 = .ok (.iload_n 3, 1) := by decide +kernel
theorem dX5_time_38 : decode cX5_time 38 = .ok (.ireturn, 1) := by decide +kernel
theorem dX5_aim_0 : decode cX5_aim 0 = .ok (.aload_n 0, 1) := by decide +kernel
theorem dX5_aim_1 : decode cX5_aim 1 = .ok (.iload_n 1, 1) := by decide +kernel
theorem dX5_aim_2 : decode cX5_aim 2 = .ok (.invokevirtual 156, 3) := by decide +kernel
theorem dX5_aim_5 : decode cX5_aim 5 = .ok (.ifCond .ne 5, 3) := by decide +kernel
theorem dX5_aim_8 : decode cX5_aim 8 = .ok (.iconst (-1), 1) := by decide +kernel
theorem dX5_aim_9 : decode cX5_aim 9 = .ok (.ireturn, 1) := by decide +kernel
theorem dX5_aim_10 : decode cX5_aim 10 = .ok (.iload_n 2, 1) := by decide +kernel
theorem dX5_aim_11 : decode cX5_aim 11 = .ok (.iconst 0, 1) := by decide +kernel
theorem dX5_aim_12 : decode cX5_aim 12 = .ok (.bipush 9, 2) := by decide +kernel
theorem dX5_aim_14 : decode cX5_aim 14 = .ok (.invokestatic 67, 3) := by decide +kernel
theorem dX5_aim_17 : decode cX5_aim 17 = .ok (.ifCond .eq 13, 3) := by decide +kernel
theorem dX5_aim_20 : decode cX5_aim 20 = .ok (.iload_n 3, 1) := by decide +kernel
theorem dX5_aim_21 : decode cX5_aim 21 = .ok (.iconst 0, 1) := by decide +kernel
theorem dX5_aim_22 : decode cX5_aim 22 = .ok (.bipush 9, 2) := by decide +kernel
theorem dX5_aim_24 : decode cX5_aim 24 = .ok (.invokestatic 67, 3) := by decide +kernel
theorem dX5_aim_27 : decode cX5_aim 27 = .ok (.ifCond .ne 6, 3) := by decide +kernel
theorem dX5_aim_30 : decode cX5_aim 30 = .ok (.bipush (-2), 2) := by decide +kernel
theorem dX5_aim_32 : decode cX5_aim 32 = .ok (.ireturn, 1) := by decide +kernel
theorem dX5_aim_33 : decode cX5_aim 33 = .ok (.bipush 10, 2) := by decide +kernel
theorem dX5_aim_35 : decode cX5_aim 35 = .ok (.aload_n 0, 1) := by decide +kernel
theorem dX5_aim_36 : decode cX5_aim 36 = .ok (.getfield 34, 3) := by decide +kernel
theorem dX5_aim_39 : decode cX5_aim 39 = .ok (.iload_n 1, 1) := by decide +kernel
theorem dX5_aim_40 : decode cX5_aim 40 = .ok (.iaload, 1) := by decide +kernel
theorem dX5_aim_41 : decode cX5_aim 41 = .ok (.imul, 1) := by decide +kernel
theorem dX5_aim_42 : decode cX5_aim 42 = .ok (.aload_n 0, 1) := by decide +kernel
theorem dX5_aim_43 : decode cX5_aim 43 = .ok (.getfield 37, 3) := by decide +kernel
theorem dX5_aim_46 : decode cX5_aim 46 = .ok (.iload_n 1, 1) := by decide +kernel
theorem dX5_aim_47 : decode cX5_aim 47 = .ok (.iaload, 1) := by decide +kernel
theorem dX5_aim_48 : decode cX5_aim 48 = .ok (.iadd, 1) := by decide +kernel
theorem dX5_aim_49 : decode cX5_aim 49 = .ok (.istore 4, 2) := by decide +kernel
theorem dX5_aim_51 : decode cX5_aim 51 = .ok (.aload_n 0, 1) := by decide +kernel
theorem dX5_aim_52 : decode cX5_aim 52 = .ok (.getfield 34, 3) := by decide +kernel
theorem dX5_aim_55 : decode cX5_aim 55 = .ok (.iload_n 1, 1) := by decide +kernel
theorem dX5_aim_56 : decode cX5_aim 56 = .ok (.iload_n 2, 1) := by decide +kernel
theorem dX5_aim_57 : decode cX5_aim 57 = .ok (.iastore, 1) := by decide +kernel
theorem dX5_aim_58 : decode cX5_aim 58 = .ok (.aload_n 0, 1) := by decide +kernel
theorem dX5_aim_59 : decode cX5_aim 59 = .ok (.getfield 37, 3) := by decide +kernel
theorem dX5_aim_62 : decode cX5_aim 62 = .ok (.iload_n 1, 1) := by decide +kernel
theorem dX5_aim_63 : decode cX5_aim 63 = .ok (.iload_n 3, 1) := by decide +kernel
theorem dX5_aim_64 : decode cX5_aim 64 = .ok (.iastore, 1) := by decide +kernel
theorem dX5_aim_65 : decode cX5_aim 65 = .ok (.iload 4, 2) := by decide +kernel
theorem dX5_aim_67 : decode cX5_aim 67 = .ok (.ireturn, 1) := by decide +kernel
theorem dX5_doesSubsume_0 : decode cX5_doesSubsume 0 = .ok (.aload_n 0, 1) := by decide +kernel
theorem dX5_doesSubsume_1 : decode cX5_doesSubsume 1 = .ok (.getfield 49, 3) := by decide +kernel
theorem dX5_doesSubsume_4 : decode cX5_doesSubsume 4 = .ok (.iload_n 1, 1) := by decide +kernel
theorem dX5_doesSubsume_5 : decode cX5_doesSubsume 5 = .ok (.iaload, 1) := by decide +kernel
theorem dX5_doesSubsume_6 : decode cX5_doesSubsume 6 = .ok (.ifCond .eq 25, 3) := by decide +kernel
theorem dX5_doesSubsume_9 : decode cX5_doesSubsume 9 = .ok (.aload_n 0, 1) := by decide +kernel
theorem dX5_doesSubsume_10 : decode cX5_doesSubsume 10 = .ok (.getfield 49, 3) := by decide +kernel
theorem dX5_doesSubsume_13 : decode cX5_doesSubsume 13 = .ok (.iload_n 1, 1) := by decide +kernel
theorem dX5_doesSubsume_14 : decode cX5_doesSubsume 14 = .ok (.iaload, 1) := by decide +kernel
theorem dX5_doesSubsume_15 : decode cX5_doesSubsume 15 = .ok (.aload_n 0, 1) := by decide +kernel
theorem dX5_doesSubsume_16 : decode cX5_doesSubsume 16 = .ok (.getfield 49, 3) := by decide +kernel
theorem dX5_doesSubsume_19 : decode cX5_doesSubsume 19 = .ok (.iload_n 2, 1) := by decide +kernel
theorem dX5_doesSubsume_20 : decode cX5_doesSubsume 20 = .ok (.iaload, 1) := by decide +kernel
theorem dX5_doesSubsume_21 : decode cX5_doesSubsume 21 = .ok (.iconst (-1), 1) := by decide +kernel
theorem dX5_doesSubsume_22 : decode cX5_doesSubsume 22 = .ok (.ixor, 1) := by decide +kernel
theorem dX5_doesSubsume_23 : decode cX5_doesSubsume 23 = .ok (.iand, 1) := by decide +kernel
theorem dX5_doesSubsume_24 : decode cX5_doesSubsume 24 = .ok (.ifCond .ne 7, 3) := by decide +kernel
theorem dX5_doesSubsume_27 : decode cX5_doesSubsume 27 = .ok (.iconst 1, 1) := by decide +kernel
theorem dX5_doesSubsume_28 : decode cX5_doesSubsume 28 = .ok (.goto 4, 3) := by decide +kernel
theorem dX5_doesSubsume_31 : decode cX5_doesSubsume 31 = .ok (.iconst 0, 1) := by decide +kernel
theorem dX5_doesSubsume_32 : decode cX5_doesSubsume 32 = .ok (.ireturn, 1) := by decide +kernel
theorem dX5_isLeast_0 : decode cX5_isLeast 0 = .ok (.aload_n 0, 1) := by decide +kernel
theorem dX5_isLeast_1 : decode cX5_isLeast 1 = .ok (.getfield 49, 3) := by decide +kernel
theorem dX5_isLeast_4 : decode cX5_isLeast 4 = .ok (.iload_n 1, 1) := by decide +kernel
theorem dX5_isLeast_5 : decode cX5_isLeast 5 = .ok (.iaload, 1) := by decide +kernel
theorem dX5_isLeast_6 : decode cX5_isLeast 6 = .ok (.ifCond .eq 7, 3) := by decide +kernel
theorem dX5_isLeast_9 : decode cX5_isLeast 9 = .ok (.iconst 1, 1) := by decide +kernel
theorem dX5_isLeast_10 : decode cX5_isLeast 10 = .ok (.goto 4, 3) := by decide +kernel
theorem dX5_isLeast_13 : decode cX5_isLeast 13 = .ok (.iconst 0, 1) := by decide +kernel
theorem dX5_isLeast_14 : decode cX5_isLeast 14 = .ok (.istore_n 2, 1) := by decide +kernel
theorem dX5_isLeast_15 : decode cX5_isLeast 15 = .ok (.iconst 0, 1) := by decide +kernel
theorem dX5_isLeast_16 : decode cX5_isLeast 16 = .ok (.istore_n 3, 1) := by decide +kernel
theorem dX5_isLeast_17 : decode cX5_isLeast 17 = .ok (.iload_n 3, 1) := by decide +kernel
theorem dX5_isLeast_18 : decode cX5_isLeast 18 = .ok (.aload_n 0, 1) := by decide +kernel
theorem dX5_isLeast_19 : decode cX5_isLeast 19 = .ok (.invokevirtual 77, 3) := by decide +kernel
theorem dX5_isLeast_22 : decode cX5_isLeast 22 = .ok (.if_icmp .ge 48, 3) := by decide +kernel
theorem dX5_isLeast_25 : decode cX5_isLeast 25 = .ok (.iload_n 2, 1) := by decide +kernel
theorem dX5_isLeast_26 : decode cX5_isLeast 26 = .ok (.ifCond .eq 36, 3) := by decide +kernel
theorem dX5_isLeast_29 : decode cX5_isLeast 29 = .ok (.aload_n 0, 1) := by decide +kernel
theorem dX5_isLeast_30 : decode cX5_isLeast 30 = .ok (.iload_n 3, 1) := by decide +kernel
theorem dX5_isLeast_31 : decode cX5_isLeast 31 = .ok (.iload_n 1, 1) := by decide +kernel
theorem dX5_isLeast_32 : decode cX5_isLeast 32 = .ok (.invokevirtual 168, 3) := by decide +kernel
theorem dX5_isLeast_35 : decode cX5_isLeast 35 = .ok (.ifCond .eq 23, 3) := by decide +kernel
theorem dX5_isLeast_38 : decode cX5_isLeast 38 = .ok (.aload_n 0, 1) := by decide +kernel
theorem dX5_isLeast_39 : decode cX5_isLeast 39 = .ok (.getfield 49, 3) := by decide +kernel
theorem dX5_isLeast_42 : decode cX5_isLeast 42 = .ok (.iload_n 3, 1) := by decide +kernel
theorem dX5_isLeast_43 : decode cX5_isLeast 43 = .ok (.iaload, 1) := by decide +kernel
theorem dX5_isLeast_44 : decode cX5_isLeast 44 = .ok (.aload_n 0, 1) := by decide +kernel
theorem dX5_isLeast_45 : decode cX5_isLeast 45 = .ok (.getfield 49, 3) := by decide +kernel
theorem dX5_isLeast_48 : decode cX5_isLeast 48 = .ok (.iload_n 1, 1) := by decide +kernel
theorem dX5_isLeast_49 : decode cX5_isLeast 49 = .ok (.iaload, 1) := by decide +kernel
theorem dX5_isLeast_50 : decode cX5_isLeast 50 = .ok (.if_icmp .ne 12, 3) := by decide +kernel
theorem dX5_isLeast_53 : decode cX5_isLeast 53 = .ok (.iload_n 3, 1) := by decide +kernel
theorem dX5_isLeast_54 : decode cX5_isLeast 54 = .ok (.iload_n 1, 1) := by decide +kernel
theorem dX5_isLeast_55 : decode cX5_isLeast 55 = .ok (.if_icmp .lt 7, 3) := by decide +kernel
theorem dX5_isLeast_58 : decode cX5_isLeast 58 = .ok (.iconst 1, 1) := by decide +kernel
theorem dX5_isLeast_59 : decode cX5_isLeast 59 = .ok (.goto 4, 3) := by decide +kernel
theorem dX5_isLeast_62 : decode cX5_isLeast 62 = .ok (.iconst 0, 1) := by decide +kernel
theorem dX5_isLeast_63 : decode cX5_isLeast 63 = .ok (.istore_n 2, 1) := by decide +kernel
theorem dX5_isLeast_64 : decode cX5_isLeast 64 = .ok (.iinc 3 1, 3) := by decide +kernel
theorem dX5_isLeast_67 : decode cX5_isLeast 67 = .ok (.goto (-50), 3) := by decide +kernel
theorem dX5_isLeast_70 : decode cX5_isLeast 70 = .ok (.iload_n 2, 1) := by decide +kernel
theorem dX5_isLeast_71 : decode cX5_isLeast 71 = .ok (.ireturn, 1) := by decide +kernel
theorem dX5_subsumed_0 : decode cX5_subsumed 0 = .ok (.iconst 0, 1) := by decide +kernel
theorem dX5_subsumed_1 : decode cX5_subsumed 1 = .ok (.istore_n 2, 1) := by decide +kernel
theorem dX5_subsumed_2 : decode cX5_subsumed 2 = .ok (.iconst 0, 1) := by decide +kernel
theorem dX5_subsumed_3 : decode cX5_subsumed 3 = .ok (.istore_n 3, 1) := by decide +kernel
theorem dX5_subsumed_4 : decode cX5_subsumed 4 = .ok (.iload_n 3, 1) := by decide +kernel
theorem dX5_subsumed_5 : decode cX5_subsumed 5 = .ok (.aload_n 0, 1) := by decide +kernel
theorem dX5_subsumed_6 : decode cX5_subsumed 6 = .ok (.invokevirtual 77, 3) := by decide +kernel
theorem dX5_subsumed_9 : decode cX5_subsumed 9 = .ok (.if_icmp .ge 26, 3) := by decide +kernel
theorem dX5_subsumed_12 : decode cX5_subsumed 12 = .ok (.iload_n 2, 1) := by decide +kernel
theorem dX5_subsumed_13 : decode cX5_subsumed 13 = .ok (.aload_n 0, 1) := by decide +kernel
theorem dX5_subsumed_14 : decode cX5_subsumed 14 = .ok (.iload_n 1, 1) := by decide +kernel
theorem dX5_subsumed_15 : decode cX5_subsumed 15 = .ok (.iload_n 3, 1) := by decide +kernel
theorem dX5_subsumed_16 : decode cX5_subsumed 16 = .ok (.invokevirtual 168, 3) := by decide +kernel
theorem dX5_subsumed_19 : decode cX5_subsumed 19 = .ok (.ifCond .eq 7, 3) := by decide +kernel
theorem dX5_subsumed_22 : decode cX5_subsumed 22 = .ok (.iconst 1, 1) := by decide +kernel
theorem dX5_subsumed_23 : decode cX5_subsumed 23 = .ok (.goto 4, 3) := by decide +kernel
theorem dX5_subsumed_26 : decode cX5_subsumed 26 = .ok (.iconst 0, 1) := by decide +kernel
theorem dX5_subsumed_27 : decode cX5_subsumed 27 = .ok (.iadd, 1) := by decide +kernel
theorem dX5_subsumed_28 : decode cX5_subsumed 28 = .ok (.istore_n 2, 1) := by decide +kernel
theorem dX5_subsumed_29 : decode cX5_subsumed 29 = .ok (.iinc 3 1, 3) := by decide +kernel
theorem dX5_subsumed_32 : decode cX5_subsumed 32 = .ok (.goto (-28), 3) := by decide +kernel
theorem dX5_subsumed_35 : decode cX5_subsumed 35 = .ok (.iload_n 2, 1) := by decide +kernel
theorem dX5_subsumed_36 : decode cX5_subsumed 36 = .ok (.ireturn, 1) := by decide +kernel
theorem dX5_ofMutant_0 : decode cX5_ofMutant 0 = .ok (.aload_n 0, 1) := by decide +kernel
theorem dX5_ofMutant_1 : decode cX5_ofMutant 1 = .ok (.iload_n 1, 1) := by decide +kernel
theorem dX5_ofMutant_2 : decode cX5_ofMutant 2 = .ok (.invokevirtual 171, 3) := by decide +kernel
theorem dX5_ofMutant_5 : decode cX5_ofMutant 5 = .ok (.ifCond .ne 5, 3) := by decide +kernel
theorem dX5_ofMutant_8 : decode cX5_ofMutant 8 = .ok (.iconst (-1), 1) := by decide +kernel
theorem dX5_ofMutant_9 : decode cX5_ofMutant 9 = .ok (.ireturn, 1) := by decide +kernel
theorem dX5_ofMutant_10 : decode cX5_ofMutant 10 = .ok (.aload_n 0, 1) := by decide +kernel
theorem dX5_ofMutant_11 : decode cX5_ofMutant 11 = .ok (.invokevirtual 162, 3) := by decide +kernel
theorem dX5_ofMutant_14 : decode cX5_ofMutant 14 = .ok (.iload_n 2, 1) := by decide +kernel
theorem dX5_ofMutant_15 : decode cX5_ofMutant 15 = .ok (.tableswitch 99 0 6 #[41, 46, 52, 59, 73, 79, 93], 41) := by decide +kernel
theorem dX5_ofMutant_56 : decode cX5_ofMutant 56 = .ok (.iload_n 1, 1) := by decide +kernel
theorem dX5_ofMutant_57 : decode cX5_ofMutant 57 = .ok (.invokestatic 131, 3) := by decide +kernel
theorem dX5_ofMutant_60 : decode cX5_ofMutant 60 = .ok (.ireturn, 1) := by decide +kernel
theorem dX5_ofMutant_61 : decode cX5_ofMutant 61 = .ok (.aload_n 0, 1) := by decide +kernel
theorem dX5_ofMutant_62 : decode cX5_ofMutant 62 = .ok (.iload_n 1, 1) := by decide +kernel
theorem dX5_ofMutant_63 : decode cX5_ofMutant 63 = .ok (.invokevirtual 137, 3) := by decide +kernel
theorem dX5_ofMutant_66 : decode cX5_ofMutant 66 = .ok (.ireturn, 1) := by decide +kernel
theorem dX5_ofMutant_67 : decode cX5_ofMutant 67 = .ok (.aload_n 0, 1) := by decide +kernel
theorem dX5_ofMutant_68 : decode cX5_ofMutant 68 = .ok (.getfield 49, 3) := by decide +kernel
theorem dX5_ofMutant_71 : decode cX5_ofMutant 71 = .ok (.iload_n 1, 1) := by decide +kernel
theorem dX5_ofMutant_72 : decode cX5_ofMutant 72 = .ok (.iaload, 1) := by decide +kernel
theorem dX5_ofMutant_73 : decode cX5_ofMutant 73 = .ok (.ireturn, 1) := by decide +kernel
theorem dX5_ofMutant_74 : decode cX5_ofMutant 74 = .ok (.aload_n 0, 1) := by decide +kernel
theorem dX5_ofMutant_75 : decode cX5_ofMutant 75 = .ok (.iload_n 1, 1) := by decide +kernel
theorem dX5_ofMutant_76 : decode cX5_ofMutant 76 = .ok (.invokevirtual 147, 3) := by decide +kernel
theorem dX5_ofMutant_79 : decode cX5_ofMutant 79 = .ok (.ifCond .ne 7, 3) := by decide +kernel
theorem dX5_ofMutant_82 : decode cX5_ofMutant 82 = .ok (.iconst 1, 1) := by decide +kernel
theorem dX5_ofMutant_83 : decode cX5_ofMutant 83 = .ok (.goto 4, 3) := by decide +kernel
theorem dX5_ofMutant_86 : decode cX5_ofMutant 86 = .ok (.iconst 0, 1) := by decide +kernel
theorem dX5_ofMutant_87 : decode cX5_ofMutant 87 = .ok (.ireturn, 1) := by decide +kernel
theorem dX5_ofMutant_88 : decode cX5_ofMutant 88 = .ok (.aload_n 0, 1) := by decide +kernel
theorem dX5_ofMutant_89 : decode cX5_ofMutant 89 = .ok (.iload_n 1, 1) := by decide +kernel
theorem dX5_ofMutant_90 : decode cX5_ofMutant 90 = .ok (.invokevirtual 147, 3) := by decide +kernel
theorem dX5_ofMutant_93 : decode cX5_ofMutant 93 = .ok (.ireturn, 1) := by decide +kernel
theorem dX5_ofMutant_94 : decode cX5_ofMutant 94 = .ok (.aload_n 0, 1) := by decide +kernel
theorem dX5_ofMutant_95 : decode cX5_ofMutant 95 = .ok (.iload_n 1, 1) := by decide +kernel
theorem dX5_ofMutant_96 : decode cX5_ofMutant 96 = .ok (.invokevirtual 174, 3) := by decide +kernel
theorem dX5_ofMutant_99 : decode cX5_ofMutant 99 = .ok (.ifCond .eq 7, 3) := by decide +kernel
theorem dX5_ofMutant_102 : decode cX5_ofMutant 102 = .ok (.iconst 1, 1) := by decide +kernel
theorem dX5_ofMutant_103 : decode cX5_ofMutant 103 = .ok (.goto 4, 3) := by decide +kernel
theorem dX5_ofMutant_106 : decode cX5_ofMutant 106 = .ok (.iconst 0, 1) := by decide +kernel
theorem dX5_ofMutant_107 : decode cX5_ofMutant 107 = .ok (.ireturn, 1) := by decide +kernel
theorem dX5_ofMutant_108 : decode cX5_ofMutant 108 = .ok (.aload_n 0, 1) := by decide +kernel
theorem dX5_ofMutant_109 : decode cX5_ofMutant 109 = .ok (.iload_n 1, 1) := by decide +kernel
theorem dX5_ofMutant_110 : decode cX5_ofMutant 110 = .ok (.invokevirtual 177, 3) := by decide +kernel
theorem dX5_ofMutant_113 : decode cX5_ofMutant 113 = .ok (.ireturn, 1) := by decide +kernel
theorem dX5_ofMutant_114 : decode cX5_ofMutant 114 = .ok (.bipush (-2), 2) := by decide +kernel
theorem dX5_ofMutant_116 : decode cX5_ofMutant 116 = .ok (.ireturn, 1) := by decide +kernel
theorem dX5_state_0 : decode cX5_state 0 = .ok (.aload_n 0, 1) := by decide +kernel
theorem dX5_state_1 : decode cX5_state 1 = .ok (.iload_n 1, 1) := by decide +kernel
theorem dX5_state_2 : decode cX5_state 2 = .ok (.invokevirtual 171, 3) := by decide +kernel
theorem dX5_state_5 : decode cX5_state 5 = .ok (.ifCond .eq 11, 3) := by decide +kernel
theorem dX5_state_8 : decode cX5_state 8 = .ok (.aload_n 0, 1) := by decide +kernel
theorem dX5_state_9 : decode cX5_state 9 = .ok (.iload_n 2, 1) := by decide +kernel
theorem dX5_state_10 : decode cX5_state 10 = .ok (.invokevirtual 156, 3) := by decide +kernel
theorem dX5_state_13 : decode cX5_state 13 = .ok (.ifCond .ne 5, 3) := by decide +kernel
theorem dX5_state_16 : decode cX5_state 16 = .ok (.iconst (-1), 1) := by decide +kernel
theorem dX5_state_17 : decode cX5_state 17 = .ok (.ireturn, 1) := by decide +kernel
theorem dX5_state_18 : decode cX5_state 18 = .ok (.aload_n 0, 1) := by decide +kernel
theorem dX5_state_19 : decode cX5_state 19 = .ok (.iload_n 2, 1) := by decide +kernel
theorem dX5_state_20 : decode cX5_state 20 = .ok (.iload_n 1, 1) := by decide +kernel
theorem dX5_state_21 : decode cX5_state 21 = .ok (.invokevirtual 150, 3) := by decide +kernel
theorem dX5_state_24 : decode cX5_state 24 = .ok (.ifCond .eq 7, 3) := by decide +kernel
theorem dX5_state_27 : decode cX5_state 27 = .ok (.iconst 2, 1) := by decide +kernel
theorem dX5_state_28 : decode cX5_state 28 = .ok (.goto 17, 3) := by decide +kernel
theorem dX5_state_31 : decode cX5_state 31 = .ok (.aload_n 0, 1) := by decide +kernel
theorem dX5_state_32 : decode cX5_state 32 = .ok (.iload_n 2, 1) := by decide +kernel
theorem dX5_state_33 : decode cX5_state 33 = .ok (.iload_n 1, 1) := by decide +kernel
theorem dX5_state_34 : decode cX5_state 34 = .ok (.invokevirtual 180, 3) := by decide +kernel
theorem dX5_state_37 : decode cX5_state 37 = .ok (.ifCond .eq 7, 3) := by decide +kernel
theorem dX5_state_40 : decode cX5_state 40 = .ok (.iconst 1, 1) := by decide +kernel
theorem dX5_state_41 : decode cX5_state 41 = .ok (.goto 4, 3) := by decide +kernel
theorem dX5_state_44 : decode cX5_state 44 = .ok (.iconst 0, 1) := by decide +kernel
theorem dX5_state_45 : decode cX5_state 45 = .ok (.ireturn, 1) := by decide +kernel
theorem dX5_subsumes_0 : decode cX5_subsumes 0 = .ok (.aload_n 0, 1) := by decide +kernel
theorem dX5_subsumes_1 : decode cX5_subsumes 1 = .ok (.iload_n 1, 1) := by decide +kernel
theorem dX5_subsumes_2 : decode cX5_subsumes 2 = .ok (.invokevirtual 171, 3) := by decide +kernel
theorem dX5_subsumes_5 : decode cX5_subsumes 5 = .ok (.ifCond .eq 11, 3) := by decide +kernel
theorem dX5_subsumes_8 : decode cX5_subsumes 8 = .ok (.aload_n 0, 1) := by decide +kernel
theorem dX5_subsumes_9 : decode cX5_subsumes 9 = .ok (.iload_n 2, 1) := by decide +kernel
theorem dX5_subsumes_10 : decode cX5_subsumes 10 = .ok (.invokevirtual 171, 3) := by decide +kernel
theorem dX5_subsumes_13 : decode cX5_subsumes 13 = .ok (.ifCond .ne 5, 3) := by decide +kernel
theorem dX5_subsumes_16 : decode cX5_subsumes 16 = .ok (.iconst (-1), 1) := by decide +kernel
theorem dX5_subsumes_17 : decode cX5_subsumes 17 = .ok (.ireturn, 1) := by decide +kernel
theorem dX5_subsumes_18 : decode cX5_subsumes 18 = .ok (.aload_n 0, 1) := by decide +kernel
theorem dX5_subsumes_19 : decode cX5_subsumes 19 = .ok (.invokevirtual 162, 3) := by decide +kernel
theorem dX5_subsumes_22 : decode cX5_subsumes 22 = .ok (.aload_n 0, 1) := by decide +kernel
theorem dX5_subsumes_23 : decode cX5_subsumes 23 = .ok (.iload_n 1, 1) := by decide +kernel
theorem dX5_subsumes_24 : decode cX5_subsumes 24 = .ok (.iload_n 2, 1) := by decide +kernel
theorem dX5_subsumes_25 : decode cX5_subsumes 25 = .ok (.invokevirtual 168, 3) := by decide +kernel
theorem dX5_subsumes_28 : decode cX5_subsumes 28 = .ok (.ifCond .eq 7, 3) := by decide +kernel
theorem dX5_subsumes_31 : decode cX5_subsumes 31 = .ok (.iconst 1, 1) := by decide +kernel
theorem dX5_subsumes_32 : decode cX5_subsumes 32 = .ok (.goto 4, 3) := by decide +kernel
theorem dX5_subsumes_35 : decode cX5_subsumes 35 = .ok (.iconst 0, 1) := by decide +kernel
theorem dX5_subsumes_36 : decode cX5_subsumes 36 = .ok (.ireturn, 1) := by decide +kernel
theorem dX5_hardest_0 : decode cX5_hardest 0 = .ok (.aload_n 0, 1) := by decide +kernel
theorem dX5_hardest_1 : decode cX5_hardest 1 = .ok (.getfield 71, 3) := by decide +kernel
theorem dX5_hardest_4 : decode cX5_hardest 4 = .ok (.ifCond .ne 6, 3) := by decide +kernel
theorem dX5_hardest_7 : decode cX5_hardest 7 = .ok (.bipush (-3), 2) := by decide +kernel
theorem dX5_hardest_9 : decode cX5_hardest 9 = .ok (.ireturn, 1) := by decide +kernel
theorem dX5_hardest_10 : decode cX5_hardest 10 = .ok (.aload_n 0, 1) := by decide +kernel
theorem dX5_hardest_11 : decode cX5_hardest 11 = .ok (.invokevirtual 162, 3) := by decide +kernel
theorem dX5_hardest_14 : decode cX5_hardest 14 = .ok (.bipush (-9), 2) := by decide +kernel
theorem dX5_hardest_16 : decode cX5_hardest 16 = .ok (.istore_n 1, 1) := by decide +kernel
theorem dX5_hardest_17 : decode cX5_hardest 17 = .ok (.iconst 0, 1) := by decide +kernel
theorem dX5_hardest_18 : decode cX5_hardest 18 = .ok (.istore_n 2, 1) := by decide +kernel
theorem dX5_hardest_19 : decode cX5_hardest 19 = .ok (.iload_n 2, 1) := by decide +kernel
theorem dX5_hardest_20 : decode cX5_hardest 20 = .ok (.aload_n 0, 1) := by decide +kernel
theorem dX5_hardest_21 : decode cX5_hardest 21 = .ok (.invokevirtual 77, 3) := by decide +kernel
theorem dX5_hardest_24 : decode cX5_hardest 24 = .ok (.if_icmp .ge 61, 3) := by decide +kernel
theorem dX5_hardest_27 : decode cX5_hardest 27 = .ok (.aload_n 0, 1) := by decide +kernel
theorem dX5_hardest_28 : decode cX5_hardest 28 = .ok (.getfield 49, 3) := by decide +kernel
theorem dX5_hardest_31 : decode cX5_hardest 31 = .ok (.iload_n 2, 1) := by decide +kernel
theorem dX5_hardest_32 : decode cX5_hardest 32 = .ok (.iaload, 1) := by decide +kernel
theorem dX5_hardest_33 : decode cX5_hardest 33 = .ok (.ifCond .eq 34, 3) := by decide +kernel
theorem dX5_hardest_36 : decode cX5_hardest 36 = .ok (.iload_n 1, 1) := by decide +kernel
theorem dX5_hardest_37 : decode cX5_hardest 37 = .ok (.bipush (-9), 2) := by decide +kernel
theorem dX5_hardest_39 : decode cX5_hardest 39 = .ok (.if_icmp .eq 24, 3) := by decide +kernel
theorem dX5_hardest_42 : decode cX5_hardest 42 = .ok (.aload_n 0, 1) := by decide +kernel
theorem dX5_hardest_43 : decode cX5_hardest 43 = .ok (.getfield 49, 3) := by decide +kernel
theorem dX5_hardest_46 : decode cX5_hardest 46 = .ok (.iload_n 2, 1) := by decide +kernel
theorem dX5_hardest_47 : decode cX5_hardest 47 = .ok (.iaload, 1) := by decide +kernel
theorem dX5_hardest_48 : decode cX5_hardest 48 = .ok (.invokestatic 183, 3) := by decide +kernel
theorem dX5_hardest_51 : decode cX5_hardest 51 = .ok (.aload_n 0, 1) := by decide +kernel
theorem dX5_hardest_52 : decode cX5_hardest 52 = .ok (.getfield 49, 3) := by decide +kernel
theorem dX5_hardest_55 : decode cX5_hardest 55 = .ok (.iload_n 1, 1) := by decide +kernel
theorem dX5_hardest_56 : decode cX5_hardest 56 = .ok (.iaload, 1) := by decide +kernel
theorem dX5_hardest_57 : decode cX5_hardest 57 = .ok (.invokestatic 183, 3) := by decide +kernel
theorem dX5_hardest_60 : decode cX5_hardest 60 = .ok (.if_icmp .ge 7, 3) := by decide +kernel
theorem dX5_hardest_63 : decode cX5_hardest 63 = .ok (.iconst 1, 1) := by decide +kernel
theorem dX5_hardest_64 : decode cX5_hardest 64 = .ok (.goto 4, 3) := by decide +kernel
theorem dX5_hardest_67 : decode cX5_hardest 67 = .ok (.iconst 0, 1) := by decide +kernel
theorem dX5_hardest_68 : decode cX5_hardest 68 = .ok (.istore_n 3, 1) := by decide +kernel
theorem dX5_hardest_69 : decode cX5_hardest 69 = .ok (.iload_n 3, 1) := by decide +kernel
theorem dX5_hardest_70 : decode cX5_hardest 70 = .ok (.ifCond .eq 7, 3) := by decide +kernel
theorem dX5_hardest_73 : decode cX5_hardest 73 = .ok (.iload_n 2, 1) := by decide +kernel
theorem dX5_hardest_74 : decode cX5_hardest 74 = .ok (.goto 4, 3) := by decide +kernel
theorem dX5_hardest_77 : decode cX5_hardest 77 = .ok (.iload_n 1, 1) := by decide +kernel
theorem dX5_hardest_78 : decode cX5_hardest 78 = .ok (.istore_n 1, 1) := by decide +kernel
theorem dX5_hardest_79 : decode cX5_hardest 79 = .ok (.iinc 2 1, 3) := by decide +kernel
theorem dX5_hardest_82 : decode cX5_hardest 82 = .ok (.goto (-63), 3) := by decide +kernel
theorem dX5_hardest_85 : decode cX5_hardest 85 = .ok (.iload_n 1, 1) := by decide +kernel
theorem dX5_hardest_86 : decode cX5_hardest 86 = .ok (.ireturn, 1) := by decide +kernel
theorem dX5_manyLeast_0 : decode cX5_manyLeast 0 = .ok (.iconst 0, 1) := by decide +kernel
theorem dX5_manyLeast_1 : decode cX5_manyLeast 1 = .ok (.istore_n 1, 1) := by decide +kernel
theorem dX5_manyLeast_2 : decode cX5_manyLeast 2 = .ok (.iconst 0, 1) := by decide +kernel
theorem dX5_manyLeast_3 : decode cX5_manyLeast 3 = .ok (.istore_n 2, 1) := by decide +kernel
theorem dX5_manyLeast_4 : decode cX5_manyLeast 4 = .ok (.iload_n 2, 1) := by decide +kernel
theorem dX5_manyLeast_5 : decode cX5_manyLeast 5 = .ok (.aload_n 0, 1) := by decide +kernel
theorem dX5_manyLeast_6 : decode cX5_manyLeast 6 = .ok (.invokevirtual 77, 3) := by decide +kernel
theorem dX5_manyLeast_9 : decode cX5_manyLeast 9 = .ok (.if_icmp .ge 25, 3) := by decide +kernel
theorem dX5_manyLeast_12 : decode cX5_manyLeast 12 = .ok (.iload_n 1, 1) := by decide +kernel
theorem dX5_manyLeast_13 : decode cX5_manyLeast 13 = .ok (.aload_n 0, 1) := by decide +kernel
theorem dX5_manyLeast_14 : decode cX5_manyLeast 14 = .ok (.iload_n 2, 1) := by decide +kernel
theorem dX5_manyLeast_15 : decode cX5_manyLeast 15 = .ok (.invokevirtual 174, 3) := by decide +kernel
theorem dX5_manyLeast_18 : decode cX5_manyLeast 18 = .ok (.ifCond .eq 7, 3) := by decide +kernel
theorem dX5_manyLeast_21 : decode cX5_manyLeast 21 = .ok (.iconst 1, 1) := by decide +kernel
theorem dX5_manyLeast_22 : decode cX5_manyLeast 22 = .ok (.goto 4, 3) := by decide +kernel
theorem dX5_manyLeast_25 : decode cX5_manyLeast 25 = .ok (.iconst 0, 1) := by decide +kernel
theorem dX5_manyLeast_26 : decode cX5_manyLeast 26 = .ok (.iadd, 1) := by decide +kernel
theorem dX5_manyLeast_27 : decode cX5_manyLeast 27 = .ok (.istore_n 1, 1) := by decide +kernel
theorem dX5_manyLeast_28 : decode cX5_manyLeast 28 = .ok (.iinc 2 1, 3) := by decide +kernel
theorem dX5_manyLeast_31 : decode cX5_manyLeast 31 = .ok (.goto (-27), 3) := by decide +kernel
theorem dX5_manyLeast_34 : decode cX5_manyLeast 34 = .ok (.iload_n 1, 1) := by decide +kernel
theorem dX5_manyLeast_35 : decode cX5_manyLeast 35 = .ok (.ireturn, 1) := by decide +kernel
theorem dX5_keep_0 : decode cX5_keep 0 = .ok (.iconst 0, 1) := by decide +kernel
theorem dX5_keep_1 : decode cX5_keep 1 = .ok (.istore_n 1, 1) := by decide +kernel
theorem dX5_keep_2 : decode cX5_keep 2 = .ok (.iload_n 1, 1) := by decide +kernel
theorem dX5_keep_3 : decode cX5_keep 3 = .ok (.iconst 5, 1) := by decide +kernel
theorem dX5_keep_4 : decode cX5_keep 4 = .ok (.if_icmp .ge 21, 3) := by decide +kernel
theorem dX5_keep_7 : decode cX5_keep 7 = .ok (.aload_n 0, 1) := by decide +kernel
theorem dX5_keep_8 : decode cX5_keep 8 = .ok (.getfield 52, 3) := by decide +kernel
theorem dX5_keep_11 : decode cX5_keep 11 = .ok (.iload_n 1, 1) := by decide +kernel
theorem dX5_keep_12 : decode cX5_keep 12 = .ok (.aload_n 0, 1) := by decide +kernel
theorem dX5_keep_13 : decode cX5_keep 13 = .ok (.getfield 19, 3) := by decide +kernel
theorem dX5_keep_16 : decode cX5_keep 16 = .ok (.iload_n 1, 1) := by decide +kernel
theorem dX5_keep_17 : decode cX5_keep 17 = .ok (.iaload, 1) := by decide +kernel
theorem dX5_keep_18 : decode cX5_keep 18 = .ok (.iastore, 1) := by decide +kernel
theorem dX5_keep_19 : decode cX5_keep 19 = .ok (.iinc 1 1, 3) := by decide +kernel
theorem dX5_keep_22 : decode cX5_keep 22 = .ok (.goto (-20), 3) := by decide +kernel
theorem dX5_keep_25 : decode cX5_keep 25 = .ok (.iconst 0, 1) := by decide +kernel
theorem dX5_keep_26 : decode cX5_keep 26 = .ok (.istore_n 1, 1) := by decide +kernel
theorem dX5_keep_27 : decode cX5_keep 27 = .ok (.iload_n 1, 1) := by decide +kernel
theorem dX5_keep_28 : decode cX5_keep 28 = .ok (.bipush 7, 2) := by decide +kernel
theorem dX5_keep_30 : decode cX5_keep 30 = .ok (.if_icmp .ge 53, 3) := by decide +kernel
theorem dX5_keep_33 : decode cX5_keep 33 = .ok (.aload_n 0, 1) := by decide +kernel
theorem dX5_keep_34 : decode cX5_keep 34 = .ok (.getfield 52, 3) := by decide +kernel
theorem dX5_keep_37 : decode cX5_keep 37 = .ok (.iconst 5, 1) := by decide +kernel
theorem dX5_keep_38 : decode cX5_keep 38 = .ok (.iload_n 1, 1) := by decide +kernel
theorem dX5_keep_39 : decode cX5_keep 39 = .ok (.iadd, 1) := by decide +kernel
theorem dX5_keep_40 : decode cX5_keep 40 = .ok (.aload_n 0, 1) := by decide +kernel
theorem dX5_keep_41 : decode cX5_keep 41 = .ok (.getfield 31, 3) := by decide +kernel
theorem dX5_keep_44 : decode cX5_keep 44 = .ok (.iload_n 1, 1) := by decide +kernel
theorem dX5_keep_45 : decode cX5_keep 45 = .ok (.iaload, 1) := by decide +kernel
theorem dX5_keep_46 : decode cX5_keep 46 = .ok (.iastore, 1) := by decide +kernel
theorem dX5_keep_47 : decode cX5_keep 47 = .ok (.aload_n 0, 1) := by decide +kernel
theorem dX5_keep_48 : decode cX5_keep 48 = .ok (.getfield 52, 3) := by decide +kernel
theorem dX5_keep_51 : decode cX5_keep 51 = .ok (.bipush 12, 2) := by decide +kernel
theorem dX5_keep_53 : decode cX5_keep 53 = .ok (.iload_n 1, 1) := by decide +kernel
theorem dX5_keep_54 : decode cX5_keep 54 = .ok (.iadd, 1) := by decide +kernel
theorem dX5_keep_55 : decode cX5_keep 55 = .ok (.aload_n 0, 1) := by decide +kernel
theorem dX5_keep_56 : decode cX5_keep 56 = .ok (.getfield 34, 3) := by decide +kernel
theorem dX5_keep_59 : decode cX5_keep 59 = .ok (.iload_n 1, 1) := by decide +kernel
theorem dX5_keep_60 : decode cX5_keep 60 = .ok (.iaload, 1) := by decide +kernel
theorem dX5_keep_61 : decode cX5_keep 61 = .ok (.iastore, 1) := by decide +kernel
theorem dX5_keep_62 : decode cX5_keep 62 = .ok (.aload_n 0, 1) := by decide +kernel
theorem dX5_keep_63 : decode cX5_keep 63 = .ok (.getfield 52, 3) := by decide +kernel
theorem dX5_keep_66 : decode cX5_keep 66 = .ok (.bipush 19, 2) := by decide +kernel
theorem dX5_keep_68 : decode cX5_keep 68 = .ok (.iload_n 1, 1) := by decide +kernel
theorem dX5_keep_69 : decode cX5_keep 69 = .ok (.iadd, 1) := by decide +kernel
theorem dX5_keep_70 : decode cX5_keep 70 = .ok (.aload_n 0, 1) := by decide +kernel
theorem dX5_keep_71 : decode cX5_keep 71 = .ok (.getfield 37, 3) := by decide +kernel
theorem dX5_keep_74 : decode cX5_keep 74 = .ok (.iload_n 1, 1) := by decide +kernel
theorem dX5_keep_75 : decode cX5_keep 75 = .ok (.iaload, 1) := by decide +kernel
theorem dX5_keep_76 : decode cX5_keep 76 = .ok (.iastore, 1) := by decide +kernel
theorem dX5_keep_77 : decode cX5_keep 77 = .ok (.iinc 1 1, 3) := by decide +kernel
theorem dX5_keep_80 : decode cX5_keep 80 = .ok (.goto (-53), 3) := by decide +kernel
theorem dX5_keep_83 : decode cX5_keep 83 = .ok (.return_, 1) := by decide +kernel
theorem dX5_putBack_0 : decode cX5_putBack 0 = .ok (.iconst 0, 1) := by decide +kernel
theorem dX5_putBack_1 : decode cX5_putBack 1 = .ok (.istore_n 1, 1) := by decide +kernel
theorem dX5_putBack_2 : decode cX5_putBack 2 = .ok (.iload_n 1, 1) := by decide +kernel
theorem dX5_putBack_3 : decode cX5_putBack 3 = .ok (.iconst 5, 1) := by decide +kernel
theorem dX5_putBack_4 : decode cX5_putBack 4 = .ok (.if_icmp .ge 21, 3) := by decide +kernel
theorem dX5_putBack_7 : decode cX5_putBack 7 = .ok (.aload_n 0, 1) := by decide +kernel
theorem dX5_putBack_8 : decode cX5_putBack 8 = .ok (.getfield 19, 3) := by decide +kernel
theorem dX5_putBack_11 : decode cX5_putBack 11 = .ok (.iload_n 1, 1) := by decide +kernel
theorem dX5_putBack_12 : decode cX5_putBack 12 = .ok (.aload_n 0, 1) := by decide +kernel
theorem dX5_putBack_13 : decode cX5_putBack 13 = .ok (.getfield 52, 3) := by decide +kernel
theorem dX5_putBack_16 : decode cX5_putBack 16 = .ok (.iload_n 1, 1) := by decide +kernel
theorem dX5_putBack_17 : decode cX5_putBack 17 = .ok (.iaload, 1) := by decide +kernel
theorem dX5_putBack_18 : decode cX5_putBack 18 = .ok (.iastore, 1) := by decide +kernel
theorem dX5_putBack_19 : decode cX5_putBack 19 = .ok (.iinc 1 1, 3) := by decide +kernel
theorem dX5_putBack_22 : decode cX5_putBack 22 = .ok (.goto (-20), 3) := by decide +kernel
theorem dX5_putBack_25 : decode cX5_putBack 25 = .ok (.iconst 0, 1) := by decide +kernel
theorem dX5_putBack_26 : decode cX5_putBack 26 = .ok (.istore_n 1, 1) := by decide +kernel
theorem dX5_putBack_27 : decode cX5_putBack 27 = .ok (.iload_n 1, 1) := by decide +kernel
theorem dX5_putBack_28 : decode cX5_putBack 28 = .ok (.bipush 7, 2) := by decide +kernel
theorem dX5_putBack_30 : decode cX5_putBack 30 = .ok (.if_icmp .ge 53, 3) := by decide +kernel
theorem dX5_putBack_33 : decode cX5_putBack 33 = .ok (.aload_n 0, 1) := by decide +kernel
theorem dX5_putBack_34 : decode cX5_putBack 34 = .ok (.getfield 31, 3) := by decide +kernel
theorem dX5_putBack_37 : decode cX5_putBack 37 = .ok (.iload_n 1, 1) := by decide +kernel
theorem dX5_putBack_38 : decode cX5_putBack 38 = .ok (.aload_n 0, 1) := by decide +kernel
theorem dX5_putBack_39 : decode cX5_putBack 39 = .ok (.getfield 52, 3) := by decide +kernel
theorem dX5_putBack_42 : decode cX5_putBack 42 = .ok (.iconst 5, 1) := by decide +kernel
theorem dX5_putBack_43 : decode cX5_putBack 43 = .ok (.iload_n 1, 1) := by decide +kernel
theorem dX5_putBack_44 : decode cX5_putBack 44 = .ok (.iadd, 1) := by decide +kernel
theorem dX5_putBack_45 : decode cX5_putBack 45 = .ok (.iaload, 1) := by decide +kernel
theorem dX5_putBack_46 : decode cX5_putBack 46 = .ok (.iastore, 1) := by decide +kernel
theorem dX5_putBack_47 : decode cX5_putBack 47 = .ok (.aload_n 0, 1) := by decide +kernel
theorem dX5_putBack_48 : decode cX5_putBack 48 = .ok (.getfield 34, 3) := by decide +kernel
theorem dX5_putBack_51 : decode cX5_putBack 51 = .ok (.iload_n 1, 1) := by decide +kernel
theorem dX5_putBack_52 : decode cX5_putBack 52 = .ok (.aload_n 0, 1) := by decide +kernel
theorem dX5_putBack_53 : decode cX5_putBack 53 = .ok (.getfield 52, 3) := by decide +kernel
theorem dX5_putBack_56 : decode cX5_putBack 56 = .ok (.bipush 12, 2) := by decide +kernel
theorem dX5_putBack_58 : decode cX5_putBack 58 = .ok (.iload_n 1, 1) := by decide +kernel
theorem dX5_putBack_59 : decode cX5_putBack 59 = .ok (.iadd, 1) := by decide +kernel
theorem dX5_putBack_60 : decode cX5_putBack 60 = .ok (.iaload, 1) := by decide +kernel
theorem dX5_putBack_61 : decode cX5_putBack 61 = .ok (.iastore, 1) := by decide +kernel
theorem dX5_putBack_62 : decode cX5_putBack 62 = .ok (.aload_n 0, 1) := by decide +kernel
theorem dX5_putBack_63 : decode cX5_putBack 63 = .ok (.getfield 37, 3) := by decide +kernel
theorem dX5_putBack_66 : decode cX5_putBack 66 = .ok (.iload_n 1, 1) := by decide +kernel
theorem dX5_putBack_67 : decode cX5_putBack 67 = .ok (.aload_n 0, 1) := by decide +kernel
theorem dX5_putBack_68 : decode cX5_putBack 68 = .ok (.getfield 52, 3) := by decide +kernel
theorem dX5_putBack_71 : decode cX5_putBack 71 = .ok (.bipush 19, 2) := by decide +kernel
theorem dX5_putBack_73 : decode cX5_putBack 73 = .ok (.iload_n 1, 1) := by decide +kernel
theorem dX5_putBack_74 : decode cX5_putBack 74 = .ok (.iadd, 1) := by decide +kernel
theorem dX5_putBack_75 : decode cX5_putBack 75 = .ok (.iaload, 1) := by decide +kernel
theorem dX5_putBack_76 : decode cX5_putBack 76 = .ok (.iastore, 1) := by decide +kernel
theorem dX5_putBack_77 : decode cX5_putBack 77 = .ok (.iinc 1 1, 3) := by decide +kernel
theorem dX5_putBack_80 : decode cX5_putBack 80 = .ok (.goto (-53), 3) := by decide +kernel
theorem dX5_putBack_83 : decode cX5_putBack 83 = .ok (.return_, 1) := by decide +kernel
theorem dX5_does_0 : decode cX5_does 0 = .ok (.iload_n 2, 1) := by decide +kernel
theorem dX5_does_1 : decode cX5_does 1 = .ok (.bipush 10, 2) := by decide +kernel
theorem dX5_does_3 : decode cX5_does 3 = .ok (.if_icmp .ge 22, 3) := by decide +kernel
theorem dX5_does_6 : decode cX5_does 6 = .ok (.aload_n 0, 1) := by decide +kernel
theorem dX5_does_7 : decode cX5_does 7 = .ok (.iload_n 2, 1) := by decide +kernel
theorem dX5_does_8 : decode cX5_does 8 = .ok (.invokevirtual 153, 3) := by decide +kernel
theorem dX5_does_11 : decode cX5_does 11 = .ok (.ifCond .ne 5, 3) := by decide +kernel
theorem dX5_does_14 : decode cX5_does 14 = .ok (.iconst 0, 1) := by decide +kernel
theorem dX5_does_15 : decode cX5_does 15 = .ok (.ireturn, 1) := by decide +kernel
theorem dX5_does_16 : decode cX5_does 16 = .ok (.aload_n 0, 1) := by decide +kernel
theorem dX5_does_17 : decode cX5_does 17 = .ok (.getfield 19, 3) := by decide +kernel
theorem dX5_does_20 : decode cX5_does 20 = .ok (.iload_n 2, 1) := by decide +kernel
theorem dX5_does_21 : decode cX5_does 21 = .ok (.iload_n 1, 1) := by decide +kernel
theorem dX5_does_22 : decode cX5_does 22 = .ok (.iastore, 1) := by decide +kernel
theorem dX5_does_23 : decode cX5_does 23 = .ok (.iconst 1, 1) := by decide +kernel
theorem dX5_does_24 : decode cX5_does 24 = .ok (.ireturn, 1) := by decide +kernel
theorem dX5_does_25 : decode cX5_does 25 = .ok (.iload_n 2, 1) := by decide +kernel
theorem dX5_does_26 : decode cX5_does 26 = .ok (.bipush 10, 2) := by decide +kernel
theorem dX5_does_28 : decode cX5_does 28 = .ok (.irem, 1) := by decide +kernel
theorem dX5_does_29 : decode cX5_does 29 = .ok (.istore_n 3, 1) := by decide +kernel
theorem dX5_does_30 : decode cX5_does 30 = .ok (.aload_n 0, 1) := by decide +kernel
theorem dX5_does_31 : decode cX5_does 31 = .ok (.iload_n 3, 1) := by decide +kernel
theorem dX5_does_32 : decode cX5_does 32 = .ok (.invokevirtual 156, 3) := by decide +kernel
theorem dX5_does_35 : decode cX5_does 35 = .ok (.ifCond .ne 5, 3) := by decide +kernel
theorem dX5_does_38 : decode cX5_does 38 = .ok (.iconst 0, 1) := by decide +kernel
theorem dX5_does_39 : decode cX5_does 39 = .ok (.ireturn, 1) := by decide +kernel
theorem dX5_does_40 : decode cX5_does 40 = .ok (.iload_n 2, 1) := by decide +kernel
theorem dX5_does_41 : decode cX5_does 41 = .ok (.bipush 20, 2) := by decide +kernel
theorem dX5_does_43 : decode cX5_does 43 = .ok (.if_icmp .ge 13, 3) := by decide +kernel
theorem dX5_does_46 : decode cX5_does 46 = .ok (.aload_n 0, 1) := by decide +kernel
theorem dX5_does_47 : decode cX5_does 47 = .ok (.getfield 31, 3) := by decide +kernel
theorem dX5_does_50 : decode cX5_does 50 = .ok (.iload_n 3, 1) := by decide +kernel
theorem dX5_does_51 : decode cX5_does 51 = .ok (.iload_n 1, 1) := by decide +kernel
theorem dX5_does_52 : decode cX5_does 52 = .ok (.iastore, 1) := by decide +kernel
theorem dX5_does_53 : decode cX5_does 53 = .ok (.goto 23, 3) := by decide +kernel
theorem dX5_does_56 : decode cX5_does 56 = .ok (.aload_n 0, 1) := by decide +kernel
theorem dX5_does_57 : decode cX5_does 57 = .ok (.getfield 34, 3) := by decide +kernel
theorem dX5_does_60 : decode cX5_does 60 = .ok (.iload_n 3, 1) := by decide +kernel
theorem dX5_does_61 : decode cX5_does 61 = .ok (.iload_n 1, 1) := by decide +kernel
theorem dX5_does_62 : decode cX5_does 62 = .ok (.bipush 10, 2) := by decide +kernel
theorem dX5_does_64 : decode cX5_does 64 = .ok (.idiv, 1) := by decide +kernel
theorem dX5_does_65 : decode cX5_does 65 = .ok (.iastore, 1) := by decide +kernel
theorem dX5_does_66 : decode cX5_does 66 = .ok (.aload_n 0, 1) := by decide +kernel
theorem dX5_does_67 : decode cX5_does 67 = .ok (.getfield 37, 3) := by decide +kernel
theorem dX5_does_70 : decode cX5_does 70 = .ok (.iload_n 3, 1) := by decide +kernel
theorem dX5_does_71 : decode cX5_does 71 = .ok (.iload_n 1, 1) := by decide +kernel
theorem dX5_does_72 : decode cX5_does 72 = .ok (.bipush 10, 2) := by decide +kernel
theorem dX5_does_74 : decode cX5_does 74 = .ok (.irem, 1) := by decide +kernel
theorem dX5_does_75 : decode cX5_does 75 = .ok (.iastore, 1) := by decide +kernel
theorem dX5_does_76 : decode cX5_does 76 = .ok (.iconst 1, 1) := by decide +kernel
theorem dX5_does_77 : decode cX5_does 77 = .ok (.ireturn, 1) := by decide +kernel
theorem dX5_isPair_0 : decode cX5_isPair 0 = .ok (.iload_n 1, 1) := by decide +kernel
theorem dX5_isPair_1 : decode cX5_isPair 1 = .ok (.iconst 0, 1) := by decide +kernel
theorem dX5_isPair_2 : decode cX5_isPair 2 = .ok (.iconst 4, 1) := by decide +kernel
theorem dX5_isPair_3 : decode cX5_isPair 3 = .ok (.invokestatic 67, 3) := by decide +kernel
theorem dX5_isPair_6 : decode cX5_isPair 6 = .ok (.ifCond .eq 12, 3) := by decide +kernel
theorem dX5_isPair_9 : decode cX5_isPair 9 = .ok (.iload_n 0, 1) := by decide +kernel
theorem dX5_isPair_10 : decode cX5_isPair 10 = .ok (.iconst 0, 1) := by decide +kernel
theorem dX5_isPair_11 : decode cX5_isPair 11 = .ok (.iconst 4, 1) := by decide +kernel
theorem dX5_isPair_12 : decode cX5_isPair 12 = .ok (.invokestatic 67, 3) := by decide +kernel
theorem dX5_isPair_15 : decode cX5_isPair 15 = .ok (.ifCond .ne 45, 3) := by decide +kernel
theorem dX5_isPair_18 : decode cX5_isPair 18 = .ok (.iload_n 1, 1) := by decide +kernel
theorem dX5_isPair_19 : decode cX5_isPair 19 = .ok (.bipush 10, 2) := by decide +kernel
theorem dX5_isPair_21 : decode cX5_isPair 21 = .ok (.bipush 16, 2) := by decide +kernel
theorem dX5_isPair_23 : decode cX5_isPair 23 = .ok (.invokestatic 67, 3) := by decide +kernel
theorem dX5_isPair_26 : decode cX5_isPair 26 = .ok (.ifCond .eq 13, 3) := by decide +kernel
theorem dX5_isPair_29 : decode cX5_isPair 29 = .ok (.iload_n 0, 1) := by decide +kernel
theorem dX5_isPair_30 : decode cX5_isPair 30 = .ok (.iconst 1, 1) := by decide +kernel
theorem dX5_isPair_31 : decode cX5_isPair 31 = .ok (.bipush 9, 2) := by decide +kernel
theorem dX5_isPair_33 : decode cX5_isPair 33 = .ok (.invokestatic 67, 3) := by decide +kernel
theorem dX5_isPair_36 : decode cX5_isPair 36 = .ok (.ifCond .ne 24, 3) := by decide +kernel
theorem dX5_isPair_39 : decode cX5_isPair 39 = .ok (.iload_n 1, 1) := by decide +kernel
theorem dX5_isPair_40 : decode cX5_isPair 40 = .ok (.bipush 20, 2) := by decide +kernel
theorem dX5_isPair_42 : decode cX5_isPair 42 = .ok (.bipush 26, 2) := by decide +kernel
theorem dX5_isPair_44 : decode cX5_isPair 44 = .ok (.invokestatic 67, 3) := by decide +kernel
theorem dX5_isPair_47 : decode cX5_isPair 47 = .ok (.ifCond .eq 17, 3) := by decide +kernel
theorem dX5_isPair_50 : decode cX5_isPair 50 = .ok (.iload_n 0, 1) := by decide +kernel
theorem dX5_isPair_51 : decode cX5_isPair 51 = .ok (.iconst 0, 1) := by decide +kernel
theorem dX5_isPair_52 : decode cX5_isPair 52 = .ok (.bipush 99, 2) := by decide +kernel
theorem dX5_isPair_54 : decode cX5_isPair 54 = .ok (.invokestatic 67, 3) := by decide +kernel
theorem dX5_isPair_57 : decode cX5_isPair 57 = .ok (.ifCond .eq 7, 3) := by decide +kernel
theorem dX5_isPair_60 : decode cX5_isPair 60 = .ok (.iconst 1, 1) := by decide +kernel
theorem dX5_isPair_61 : decode cX5_isPair 61 = .ok (.goto 4, 3) := by decide +kernel
theorem dX5_isPair_64 : decode cX5_isPair 64 = .ok (.iconst 0, 1) := by decide +kernel
theorem dX5_isPair_65 : decode cX5_isPair 65 = .ok (.ireturn, 1) := by decide +kernel
theorem dX5_goDay_0 : decode cX5_goDay 0 = .ok (.iconst 0, 1) := by decide +kernel
theorem dX5_goDay_1 : decode cX5_goDay 1 = .ok (.istore_n 3, 1) := by decide +kernel
theorem dX5_goDay_2 : decode cX5_goDay 2 = .ok (.iload_n 3, 1) := by decide +kernel
theorem dX5_goDay_3 : decode cX5_goDay 3 = .ok (.iload_n 2, 1) := by decide +kernel
theorem dX5_goDay_4 : decode cX5_goDay 4 = .ok (.if_icmp .ge 40, 3) := by decide +kernel
theorem dX5_goDay_7 : decode cX5_goDay 7 = .ok (.aload_n 0, 1) := by decide +kernel
theorem dX5_goDay_8 : decode cX5_goDay 8 = .ok (.aload_n 0, 1) := by decide +kernel
theorem dX5_goDay_9 : decode cX5_goDay 9 = .ok (.getfield 16, 3) := by decide +kernel
theorem dX5_goDay_12 : decode cX5_goDay 12 = .ok (.iload_n 1, 1) := by decide +kernel
theorem dX5_goDay_13 : decode cX5_goDay 13 = .ok (.iconst 2, 1) := by decide +kernel
theorem dX5_goDay_14 : decode cX5_goDay 14 = .ok (.iload_n 3, 1) := by decide +kernel
theorem dX5_goDay_15 : decode cX5_goDay 15 = .ok (.imul, 1) := by decide +kernel
theorem dX5_goDay_16 : decode cX5_goDay 16 = .ok (.iadd, 1) := by decide +kernel
theorem dX5_goDay_17 : decode cX5_goDay 17 = .ok (.iaload, 1) := by decide +kernel
theorem dX5_goDay_18 : decode cX5_goDay 18 = .ok (.aload_n 0, 1) := by decide +kernel
theorem dX5_goDay_19 : decode cX5_goDay 19 = .ok (.getfield 16, 3) := by decide +kernel
theorem dX5_goDay_22 : decode cX5_goDay 22 = .ok (.iload_n 1, 1) := by decide +kernel
theorem dX5_goDay_23 : decode cX5_goDay 23 = .ok (.iconst 2, 1) := by decide +kernel
theorem dX5_goDay_24 : decode cX5_goDay 24 = .ok (.iload_n 3, 1) := by decide +kernel
theorem dX5_goDay_25 : decode cX5_goDay 25 = .ok (.imul, 1) := by decide +kernel
theorem dX5_goDay_26 : decode cX5_goDay 26 = .ok (.iadd, 1) := by decide +kernel
theorem dX5_goDay_27 : decode cX5_goDay 27 = .ok (.iconst 1, 1) := by decide +kernel
theorem dX5_goDay_28 : decode cX5_goDay 28 = .ok (.iadd, 1) := by decide +kernel
theorem dX5_goDay_29 : decode cX5_goDay 29 = .ok (.iaload, 1) := by decide +kernel
theorem dX5_goDay_30 : decode cX5_goDay 30 = .ok (.invokevirtual 186, 3) := by decide +kernel
theorem dX5_goDay_33 : decode cX5_goDay 33 = .ok (.ifCond .ne 5, 3) := by decide +kernel
theorem dX5_goDay_36 : decode cX5_goDay 36 = .ok (.iload_n 3, 1) := by decide +kernel
theorem dX5_goDay_37 : decode cX5_goDay 37 = .ok (.ireturn, 1) := by decide +kernel
theorem dX5_goDay_38 : decode cX5_goDay 38 = .ok (.iinc 3 1, 3) := by decide +kernel
theorem dX5_goDay_41 : decode cX5_goDay 41 = .ok (.goto (-39), 3) := by decide +kernel
theorem dX5_goDay_44 : decode cX5_goDay 44 = .ok (.bipush (-9), 2) := by decide +kernel
theorem dX5_goDay_46 : decode cX5_goDay 46 = .ok (.ireturn, 1) := by decide +kernel
theorem dX5_day_0 : decode cX5_day 0 = .ok (.aload_n 0, 1) := by decide +kernel
theorem dX5_day_1 : decode cX5_day 1 = .ok (.iconst 0, 1) := by decide +kernel
theorem dX5_day_2 : decode cX5_day 2 = .ok (.putfield 61, 3) := by decide +kernel
theorem dX5_day_5 : decode cX5_day 5 = .ok (.iload_n 1, 1) := by decide +kernel
theorem dX5_day_6 : decode cX5_day 6 = .ok (.invokestatic 84, 3) := by decide +kernel
theorem dX5_day_9 : decode cX5_day 9 = .ok (.ifCond .ne 5, 3) := by decide +kernel
theorem dX5_day_12 : decode cX5_day 12 = .ok (.iconst (-1), 1) := by decide +kernel
theorem dX5_day_13 : decode cX5_day 13 = .ok (.ireturn, 1) := by decide +kernel
theorem dX5_day_14 : decode cX5_day 14 = .ok (.iload_n 2, 1) := by decide +kernel
theorem dX5_day_15 : decode cX5_day 15 = .ok (.invokestatic 88, 3) := by decide +kernel
theorem dX5_day_18 : decode cX5_day 18 = .ok (.ifCond .eq 36, 3) := by decide +kernel
theorem dX5_day_21 : decode cX5_day 21 = .ok (.iload 4, 2) := by decide +kernel
theorem dX5_day_23 : decode cX5_day 23 = .ok (.iconst 0, 1) := by decide +kernel
theorem dX5_day_24 : decode cX5_day 24 = .ok (.bipush 20, 2) := by decide +kernel
theorem dX5_day_26 : decode cX5_day 26 = .ok (.invokestatic 67, 3) := by decide +kernel
theorem dX5_day_29 : decode cX5_day 29 = .ok (.ifCond .eq 25, 3) := by decide +kernel
theorem dX5_day_32 : decode cX5_day 32 = .ok (.iload 5, 2) := by decide +kernel
theorem dX5_day_34 : decode cX5_day 34 = .ok (.iconst 0, 1) := by decide +kernel
theorem dX5_day_35 : decode cX5_day 35 = .ok (.iconst 4, 1) := by decide +kernel
theorem dX5_day_36 : decode cX5_day 36 = .ok (.invokestatic 67, 3) := by decide +kernel
theorem dX5_day_39 : decode cX5_day 39 = .ok (.ifCond .ne 18, 3) := by decide +kernel
theorem dX5_day_42 : decode cX5_day 42 = .ok (.iload 5, 2) := by decide +kernel
theorem dX5_day_44 : decode cX5_day 44 = .ok (.bipush 10, 2) := by decide +kernel
theorem dX5_day_46 : decode cX5_day 46 = .ok (.bipush 16, 2) := by decide +kernel
theorem dX5_day_48 : decode cX5_day 48 = .ok (.invokestatic 67, 3) := by decide +kernel
theorem dX5_day_51 : decode cX5_day 51 = .ok (.ifCond .ne 6, 3) := by decide +kernel
theorem dX5_day_54 : decode cX5_day 54 = .ok (.bipush (-2), 2) := by decide +kernel
theorem dX5_day_56 : decode cX5_day 56 = .ok (.ireturn, 1) := by decide +kernel
theorem dX5_day_57 : decode cX5_day 57 = .ok (.aload_n 0, 1) := by decide +kernel
theorem dX5_day_58 : decode cX5_day 58 = .ok (.iload_n 1, 1) := by decide +kernel
theorem dX5_day_59 : decode cX5_day 59 = .ok (.iload_n 2, 1) := by decide +kernel
theorem dX5_day_60 : decode cX5_day 60 = .ok (.iload_n 3, 1) := by decide +kernel
theorem dX5_day_61 : decode cX5_day 61 = .ok (.iconst 2, 1) := by decide +kernel
theorem dX5_day_62 : decode cX5_day 62 = .ok (.iload 4, 2) := by decide +kernel
theorem dX5_day_64 : decode cX5_day 64 = .ok (.imul, 1) := by decide +kernel
theorem dX5_day_65 : decode cX5_day 65 = .ok (.invokevirtual 91, 3) := by decide +kernel
theorem dX5_day_68 : decode cX5_day 68 = .ok (.istore 6, 2) := by decide +kernel
theorem dX5_day_70 : decode cX5_day 70 = .ok (.iload 6, 2) := by decide +kernel
theorem dX5_day_72 : decode cX5_day 72 = .ok (.ifCond .eq 10, 3) := by decide +kernel
theorem dX5_day_75 : decode cX5_day 75 = .ok (.aload_n 0, 1) := by decide +kernel
theorem dX5_day_76 : decode cX5_day 76 = .ok (.iload 6, 2) := by decide +kernel
theorem dX5_day_78 : decode cX5_day 78 = .ok (.invokevirtual 95, 3) := by decide +kernel
theorem dX5_day_81 : decode cX5_day 81 = .ok (.ireturn, 1) := by decide +kernel
theorem dX5_day_82 : decode cX5_day 82 = .ok (.aload_n 0, 1) := by decide +kernel
theorem dX5_day_83 : decode cX5_day 83 = .ok (.getfield 71, 3) := by decide +kernel
theorem dX5_day_86 : decode cX5_day 86 = .ok (.ifCond .ne 6, 3) := by decide +kernel
theorem dX5_day_89 : decode cX5_day 89 = .ok (.bipush (-3), 2) := by decide +kernel
theorem dX5_day_91 : decode cX5_day 91 = .ok (.ireturn, 1) := by decide +kernel
theorem dX5_day_92 : decode cX5_day 92 = .ok (.bipush 60, 2) := by decide +kernel
theorem dX5_day_94 : decode cX5_day 94 = .ok (.iload_n 1, 1) := by decide +kernel
theorem dX5_day_95 : decode cX5_day 95 = .ok (.imul, 1) := by decide +kernel
theorem dX5_day_96 : decode cX5_day 96 = .ok (.iload_n 3, 1) := by decide +kernel
theorem dX5_day_97 : decode cX5_day 97 = .ok (.iadd, 1) := by decide +kernel
theorem dX5_day_98 : decode cX5_day 98 = .ok (.istore 7, 2) := by decide +kernel
theorem dX5_day_100 : decode cX5_day 100 = .ok (.iconst 0, 1) := by decide +kernel
theorem dX5_day_101 : decode cX5_day 101 = .ok (.istore 8, 2) := by decide +kernel
theorem dX5_day_103 : decode cX5_day 103 = .ok (.iload 8, 2) := by decide +kernel
theorem dX5_day_105 : decode cX5_day 105 = .ok (.iload 4, 2) := by decide +kernel
theorem dX5_day_107 : decode cX5_day 107 = .ok (.if_icmp .ge 44, 3) := by decide +kernel
theorem dX5_day_110 : decode cX5_day 110 = .ok (.aload_n 0, 1) := by decide +kernel
theorem dX5_day_111 : decode cX5_day 111 = .ok (.getfield 16, 3) := by decide +kernel
theorem dX5_day_114 : decode cX5_day 114 = .ok (.iload 7, 2) := by decide +kernel
theorem dX5_day_116 : decode cX5_day 116 = .ok (.iconst 2, 1) := by decide +kernel
theorem dX5_day_117 : decode cX5_day 117 = .ok (.iload 8, 2) := by decide +kernel
theorem dX5_day_119 : decode cX5_day 119 = .ok (.imul, 1) := by decide +kernel
theorem dX5_day_120 : decode cX5_day 120 = .ok (.iadd, 1) := by decide +kernel
theorem dX5_day_121 : decode cX5_day 121 = .ok (.iaload, 1) := by decide +kernel
theorem dX5_day_122 : decode cX5_day 122 = .ok (.aload_n 0, 1) := by decide +kernel
theorem dX5_day_123 : decode cX5_day 123 = .ok (.getfield 16, 3) := by decide +kernel
theorem dX5_day_126 : decode cX5_day 126 = .ok (.iload 7, 2) := by decide +kernel
theorem dX5_day_128 : decode cX5_day 128 = .ok (.iconst 2, 1) := by decide +kernel
theorem dX5_day_129 : decode cX5_day 129 = .ok (.iload 8, 2) := by decide +kernel
theorem dX5_day_131 : decode cX5_day 131 = .ok (.imul, 1) := by decide +kernel
theorem dX5_day_132 : decode cX5_day 132 = .ok (.iadd, 1) := by decide +kernel
theorem dX5_day_133 : decode cX5_day 133 = .ok (.iconst 1, 1) := by decide +kernel
theorem dX5_day_134 : decode cX5_day 134 = .ok (.iadd, 1) := by decide +kernel
theorem dX5_day_135 : decode cX5_day 135 = .ok (.iaload, 1) := by decide +kernel
theorem dX5_day_136 : decode cX5_day 136 = .ok (.invokestatic 189, 3) := by decide +kernel
theorem dX5_day_139 : decode cX5_day 139 = .ok (.ifCond .ne 6, 3) := by decide +kernel
theorem dX5_day_142 : decode cX5_day 142 = .ok (.bipush (-2), 2) := by decide +kernel
theorem dX5_day_144 : decode cX5_day 144 = .ok (.ireturn, 1) := by decide +kernel
theorem dX5_day_145 : decode cX5_day 145 = .ok (.iinc 8 1, 3) := by decide +kernel
theorem dX5_day_148 : decode cX5_day 148 = .ok (.goto (-45), 3) := by decide +kernel
theorem dX5_day_151 : decode cX5_day 151 = .ok (.aload_n 0, 1) := by decide +kernel
theorem dX5_day_152 : decode cX5_day 152 = .ok (.invokevirtual 192, 3) := by decide +kernel
theorem dX5_day_155 : decode cX5_day 155 = .ok (.aload_n 0, 1) := by decide +kernel
theorem dX5_day_156 : decode cX5_day 156 = .ok (.iload 7, 2) := by decide +kernel
theorem dX5_day_158 : decode cX5_day 158 = .ok (.iload 4, 2) := by decide +kernel
theorem dX5_day_160 : decode cX5_day 160 = .ok (.invokevirtual 195, 3) := by decide +kernel
theorem dX5_day_163 : decode cX5_day 163 = .ok (.istore 8, 2) := by decide +kernel
theorem dX5_day_165 : decode cX5_day 165 = .ok (.aload_n 0, 1) := by decide +kernel
theorem dX5_day_166 : decode cX5_day 166 = .ok (.iload 5, 2) := by decide +kernel
theorem dX5_day_168 : decode cX5_day 168 = .ok (.invokevirtual 198, 3) := by decide +kernel
theorem dX5_day_171 : decode cX5_day 171 = .ok (.istore 9, 2) := by decide +kernel
theorem dX5_day_173 : decode cX5_day 173 = .ok (.aload_n 0, 1) := by decide +kernel
theorem dX5_day_174 : decode cX5_day 174 = .ok (.invokevirtual 201, 3) := by decide +kernel
theorem dX5_day_177 : decode cX5_day 177 = .ok (.iload 5, 2) := by decide +kernel
theorem dX5_day_179 : decode cX5_day 179 = .ok (.iconst 1, 1) := by decide +kernel
theorem dX5_day_180 : decode cX5_day 180 = .ok (.if_icmp .ne 8, 3) := by decide +kernel
theorem dX5_day_183 : decode cX5_day 183 = .ok (.iload 8, 2) := by decide +kernel
theorem dX5_day_185 : decode cX5_day 185 = .ok (.goto 20, 3) := by decide +kernel
theorem dX5_day_188 : decode cX5_day 188 = .ok (.iload 8, 2) := by decide +kernel
theorem dX5_day_190 : decode cX5_day 190 = .ok (.bipush (-9), 2) := by decide +kernel
theorem dX5_day_192 : decode cX5_day 192 = .ok (.if_icmp .ne 8, 3) := by decide +kernel
theorem dX5_day_195 : decode cX5_day 195 = .ok (.iload 9, 2) := by decide +kernel
theorem dX5_day_197 : decode cX5_day 197 = .ok (.goto 8, 3) := by decide +kernel
theorem dX5_day_200 : decode cX5_day 200 = .ok (.bipush (-100), 2) := by decide +kernel
theorem dX5_day_202 : decode cX5_day 202 = .ok (.iload 8, 2) := by decide +kernel
theorem dX5_day_204 : decode cX5_day 204 = .ok (.isub, 1) := by decide +kernel
theorem dX5_day_205 : decode cX5_day 205 = .ok (.ireturn, 1) := by decide +kernel
theorem dX5_tellDay_0 : decode cX5_tellDay 0 = .ok (.iload_n 1, 1) := by decide +kernel
theorem dX5_tellDay_1 : decode cX5_tellDay 1 = .ok (.bipush 10, 2) := by decide +kernel
theorem dX5_tellDay_3 : decode cX5_tellDay 3 = .ok (.if_icmp .lt 42, 3) := by decide +kernel
theorem dX5_tellDay_6 : decode cX5_tellDay 6 = .ok (.aload_n 0, 1) := by decide +kernel
theorem dX5_tellDay_7 : decode cX5_tellDay 7 = .ok (.iload_n 1, 1) := by decide +kernel
theorem dX5_tellDay_8 : decode cX5_tellDay 8 = .ok (.bipush 10, 2) := by decide +kernel
theorem dX5_tellDay_10 : decode cX5_tellDay 10 = .ok (.isub, 1) := by decide +kernel
theorem dX5_tellDay_11 : decode cX5_tellDay 11 = .ok (.invokevirtual 156, 3) := by decide +kernel
theorem dX5_tellDay_14 : decode cX5_tellDay 14 = .ok (.ifCond .eq 28, 3) := by decide +kernel
theorem dX5_tellDay_17 : decode cX5_tellDay 17 = .ok (.aload_n 0, 1) := by decide +kernel
theorem dX5_tellDay_18 : decode cX5_tellDay 18 = .ok (.aload_n 0, 1) := by decide +kernel
theorem dX5_tellDay_19 : decode cX5_tellDay 19 = .ok (.getfield 34, 3) := by decide +kernel
theorem dX5_tellDay_22 : decode cX5_tellDay 22 = .ok (.iload_n 1, 1) := by decide +kernel
theorem dX5_tellDay_23 : decode cX5_tellDay 23 = .ok (.bipush 10, 2) := by decide +kernel
theorem dX5_tellDay_25 : decode cX5_tellDay 25 = .ok (.isub, 1) := by decide +kernel
theorem dX5_tellDay_26 : decode cX5_tellDay 26 = .ok (.iaload, 1) := by decide +kernel
theorem dX5_tellDay_27 : decode cX5_tellDay 27 = .ok (.aload_n 0, 1) := by decide +kernel
theorem dX5_tellDay_28 : decode cX5_tellDay 28 = .ok (.getfield 37, 3) := by decide +kernel
theorem dX5_tellDay_31 : decode cX5_tellDay 31 = .ok (.iload_n 1, 1) := by decide +kernel
theorem dX5_tellDay_32 : decode cX5_tellDay 32 = .ok (.bipush 10, 2) := by decide +kernel
theorem dX5_tellDay_34 : decode cX5_tellDay 34 = .ok (.isub, 1) := by decide +kernel
theorem dX5_tellDay_35 : decode cX5_tellDay 35 = .ok (.iaload, 1) := by decide +kernel
theorem dX5_tellDay_36 : decode cX5_tellDay 36 = .ok (.invokevirtual 140, 3) := by decide +kernel
theorem dX5_tellDay_39 : decode cX5_tellDay 39 = .ok (.goto 5, 3) := by decide +kernel
theorem dX5_tellDay_42 : decode cX5_tellDay 42 = .ok (.bipush (-9), 2) := by decide +kernel
theorem dX5_tellDay_44 : decode cX5_tellDay 44 = .ok (.ireturn, 1) := by decide +kernel
theorem dX5_tellDay_45 : decode cX5_tellDay 45 = .ok (.aload_n 0, 1) := by decide +kernel
theorem dX5_tellDay_46 : decode cX5_tellDay 46 = .ok (.invokevirtual 162, 3) := by decide +kernel
theorem dX5_tellDay_49 : decode cX5_tellDay 49 = .ok (.iload_n 1, 1) := by decide +kernel
theorem dX5_tellDay_50 : decode cX5_tellDay 50 = .ok (.ifCond .ne 10, 3) := by decide +kernel
theorem dX5_tellDay_53 : decode cX5_tellDay 53 = .ok (.aload_n 0, 1) := by decide +kernel
theorem dX5_tellDay_54 : decode cX5_tellDay 54 = .ok (.invokevirtual 204, 3) := by decide +kernel
theorem dX5_tellDay_57 : decode cX5_tellDay 57 = .ok (.goto 35, 3) := by decide +kernel
theorem dX5_tellDay_60 : decode cX5_tellDay 60 = .ok (.iload_n 1, 1) := by decide +kernel
theorem dX5_tellDay_61 : decode cX5_tellDay 61 = .ok (.iconst 2, 1) := by decide +kernel
theorem dX5_tellDay_62 : decode cX5_tellDay 62 = .ok (.if_icmp .ne 10, 3) := by decide +kernel
theorem dX5_tellDay_65 : decode cX5_tellDay 65 = .ok (.aload_n 0, 1) := by decide +kernel
theorem dX5_tellDay_66 : decode cX5_tellDay 66 = .ok (.invokevirtual 207, 3) := by decide +kernel
theorem dX5_tellDay_69 : decode cX5_tellDay 69 = .ok (.goto 23, 3) := by decide +kernel
theorem dX5_tellDay_72 : decode cX5_tellDay 72 = .ok (.iload_n 1, 1) := by decide +kernel
theorem dX5_tellDay_73 : decode cX5_tellDay 73 = .ok (.iconst 3, 1) := by decide +kernel
theorem dX5_tellDay_74 : decode cX5_tellDay 74 = .ok (.if_icmp .ne 10, 3) := by decide +kernel
theorem dX5_tellDay_77 : decode cX5_tellDay 77 = .ok (.aload_n 0, 1) := by decide +kernel
theorem dX5_tellDay_78 : decode cX5_tellDay 78 = .ok (.invokevirtual 210, 3) := by decide +kernel
theorem dX5_tellDay_81 : decode cX5_tellDay 81 = .ok (.goto 11, 3) := by decide +kernel
theorem dX5_tellDay_84 : decode cX5_tellDay 84 = .ok (.aload_n 0, 1) := by decide +kernel
theorem dX5_tellDay_85 : decode cX5_tellDay 85 = .ok (.aload_n 0, 1) := by decide +kernel
theorem dX5_tellDay_86 : decode cX5_tellDay 86 = .ok (.invokevirtual 213, 3) := by decide +kernel
theorem dX5_tellDay_89 : decode cX5_tellDay 89 = .ok (.invokevirtual 216, 3) := by decide +kernel
theorem dX5_tellDay_92 : decode cX5_tellDay 92 = .ok (.ireturn, 1) := by decide +kernel
theorem dX5_weightOfSet_0 : decode cX5_weightOfSet 0 = .ok (.iconst 0, 1) := by decide +kernel
theorem dX5_weightOfSet_1 : decode cX5_weightOfSet 1 = .ok (.istore_n 2, 1) := by decide +kernel
theorem dX5_weightOfSet_2 : decode cX5_weightOfSet 2 = .ok (.iconst 0, 1) := by decide +kernel
theorem dX5_weightOfSet_3 : decode cX5_weightOfSet 3 = .ok (.istore_n 3, 1) := by decide +kernel
theorem dX5_weightOfSet_4 : decode cX5_weightOfSet 4 = .ok (.iload_n 3, 1) := by decide +kernel
theorem dX5_weightOfSet_5 : decode cX5_weightOfSet 5 = .ok (.aload_n 0, 1) := by decide +kernel
theorem dX5_weightOfSet_6 : decode cX5_weightOfSet 6 = .ok (.getfield 74, 3) := by decide +kernel
theorem dX5_weightOfSet_9 : decode cX5_weightOfSet 9 = .ok (.if_icmp .ge 30, 3) := by decide +kernel
theorem dX5_weightOfSet_12 : decode cX5_weightOfSet 12 = .ok (.iload_n 2, 1) := by decide +kernel
theorem dX5_weightOfSet_13 : decode cX5_weightOfSet 13 = .ok (.iload_n 1, 1) := by decide +kernel
theorem dX5_weightOfSet_14 : decode cX5_weightOfSet 14 = .ok (.iload_n 3, 1) := by decide +kernel
theorem dX5_weightOfSet_15 : decode cX5_weightOfSet 15 = .ok (.ishr, 1) := by decide +kernel
theorem dX5_weightOfSet_16 : decode cX5_weightOfSet 16 = .ok (.iconst 1, 1) := by decide +kernel
theorem dX5_weightOfSet_17 : decode cX5_weightOfSet 17 = .ok (.iand, 1) := by decide +kernel
theorem dX5_weightOfSet_18 : decode cX5_weightOfSet 18 = .ok (.iconst 1, 1) := by decide +kernel
theorem dX5_weightOfSet_19 : decode cX5_weightOfSet 19 = .ok (.if_icmp .ne 11, 3) := by decide +kernel
theorem dX5_weightOfSet_22 : decode cX5_weightOfSet 22 = .ok (.aload_n 0, 1) := by decide +kernel
theorem dX5_weightOfSet_23 : decode cX5_weightOfSet 23 = .ok (.iload_n 3, 1) := by decide +kernel
theorem dX5_weightOfSet_24 : decode cX5_weightOfSet 24 = .ok (.invokevirtual 159, 3) := by decide +kernel
theorem dX5_weightOfSet_27 : decode cX5_weightOfSet 27 = .ok (.goto 4, 3) := by decide +kernel
theorem dX5_weightOfSet_30 : decode cX5_weightOfSet 30 = .ok (.iconst 0, 1) := by decide +kernel
theorem dX5_weightOfSet_31 : decode cX5_weightOfSet 31 = .ok (.iadd, 1) := by decide +kernel
theorem dX5_weightOfSet_32 : decode cX5_weightOfSet 32 = .ok (.istore_n 2, 1) := by decide +kernel
theorem dX5_weightOfSet_33 : decode cX5_weightOfSet 33 = .ok (.iinc 3 1, 3) := by decide +kernel
theorem dX5_weightOfSet_36 : decode cX5_weightOfSet 36 = .ok (.goto (-32), 3) := by decide +kernel
theorem dX5_weightOfSet_39 : decode cX5_weightOfSet 39 = .ok (.iload_n 2, 1) := by decide +kernel
theorem dX5_weightOfSet_40 : decode cX5_weightOfSet 40 = .ok (.ireturn, 1) := by decide +kernel
theorem dX5_leftBy_0 : decode cX5_leftBy 0 = .ok (.iconst 0, 1) := by decide +kernel
theorem dX5_leftBy_1 : decode cX5_leftBy 1 = .ok (.istore_n 2, 1) := by decide +kernel
theorem dX5_leftBy_2 : decode cX5_leftBy 2 = .ok (.iconst 0, 1) := by decide +kernel
theorem dX5_leftBy_3 : decode cX5_leftBy 3 = .ok (.istore_n 3, 1) := by decide +kernel
theorem dX5_leftBy_4 : decode cX5_leftBy 4 = .ok (.iload_n 3, 1) := by decide +kernel
theorem dX5_leftBy_5 : decode cX5_leftBy 5 = .ok (.aload_n 0, 1) := by decide +kernel
theorem dX5_leftBy_6 : decode cX5_leftBy 6 = .ok (.invokevirtual 77, 3) := by decide +kernel
theorem dX5_leftBy_9 : decode cX5_leftBy 9 = .ok (.if_icmp .ge 39, 3) := by decide +kernel
theorem dX5_leftBy_12 : decode cX5_leftBy 12 = .ok (.iload_n 2, 1) := by decide +kernel
theorem dX5_leftBy_13 : decode cX5_leftBy 13 = .ok (.aload_n 0, 1) := by decide +kernel
theorem dX5_leftBy_14 : decode cX5_leftBy 14 = .ok (.getfield 49, 3) := by decide +kernel
theorem dX5_leftBy_17 : decode cX5_leftBy 17 = .ok (.iload_n 3, 1) := by decide +kernel
theorem dX5_leftBy_18 : decode cX5_leftBy 18 = .ok (.iaload, 1) := by decide +kernel
theorem dX5_leftBy_19 : decode cX5_leftBy 19 = .ok (.ifCond .eq 20, 3) := by decide +kernel
theorem dX5_leftBy_22 : decode cX5_leftBy 22 = .ok (.aload_n 0, 1) := by decide +kernel
theorem dX5_leftBy_23 : decode cX5_leftBy 23 = .ok (.getfield 49, 3) := by decide +kernel
theorem dX5_leftBy_26 : decode cX5_leftBy 26 = .ok (.iload_n 3, 1) := by decide +kernel
theorem dX5_leftBy_27 : decode cX5_leftBy 27 = .ok (.iaload, 1) := by decide +kernel
theorem dX5_leftBy_28 : decode cX5_leftBy 28 = .ok (.iload_n 1, 1) := by decide +kernel
theorem dX5_leftBy_29 : decode cX5_leftBy 29 = .ok (.iand, 1) := by decide +kernel
theorem dX5_leftBy_30 : decode cX5_leftBy 30 = .ok (.ifCond .ne 9, 3) := by decide +kernel
theorem dX5_leftBy_33 : decode cX5_leftBy 33 = .ok (.iconst 1, 1) := by decide +kernel
theorem dX5_leftBy_34 : decode cX5_leftBy 34 = .ok (.iload_n 3, 1) := by decide +kernel
theorem dX5_leftBy_35 : decode cX5_leftBy 35 = .ok (.ishl, 1) := by decide +kernel
theorem dX5_leftBy_36 : decode cX5_leftBy 36 = .ok (.goto 4, 3) := by decide +kernel
theorem dX5_leftBy_39 : decode cX5_leftBy 39 = .ok (.iconst 0, 1) := by decide +kernel
theorem dX5_leftBy_40 : decode cX5_leftBy 40 = .ok (.ior, 1) := by decide +kernel
theorem dX5_leftBy_41 : decode cX5_leftBy 41 = .ok (.istore_n 2, 1) := by decide +kernel
theorem dX5_leftBy_42 : decode cX5_leftBy 42 = .ok (.iinc 3 1, 3) := by decide +kernel
theorem dX5_leftBy_45 : decode cX5_leftBy 45 = .ok (.goto (-41), 3) := by decide +kernel
theorem dX5_leftBy_48 : decode cX5_leftBy 48 = .ok (.iload_n 2, 1) := by decide +kernel
theorem dX5_leftBy_49 : decode cX5_leftBy 49 = .ok (.ireturn, 1) := by decide +kernel
theorem dX5_findCover_0 : decode cX5_findCover 0 = .ok (.bipush (-9), 2) := by decide +kernel
theorem dX5_findCover_2 : decode cX5_findCover 2 = .ok (.istore_n 1, 1) := by decide +kernel
theorem dX5_findCover_3 : decode cX5_findCover 3 = .ok (.iconst 0, 1) := by decide +kernel
theorem dX5_findCover_4 : decode cX5_findCover 4 = .ok (.istore_n 2, 1) := by decide +kernel
theorem dX5_findCover_5 : decode cX5_findCover 5 = .ok (.iload_n 2, 1) := by decide +kernel
theorem dX5_findCover_6 : decode cX5_findCover 6 = .ok (.iconst 1, 1) := by decide +kernel
theorem dX5_findCover_7 : decode cX5_findCover 7 = .ok (.aload_n 0, 1) := by decide +kernel
theorem dX5_findCover_8 : decode cX5_findCover 8 = .ok (.getfield 74, 3) := by decide +kernel
theorem dX5_findCover_11 : decode cX5_findCover 11 = .ok (.ishl, 1) := by decide +kernel
theorem dX5_findCover_12 : decode cX5_findCover 12 = .ok (.if_icmp .ge 52, 3) := by decide +kernel
theorem dX5_findCover_15 : decode cX5_findCover 15 = .ok (.aload_n 0, 1) := by decide +kernel
theorem dX5_findCover_16 : decode cX5_findCover 16 = .ok (.iload_n 2, 1) := by decide +kernel
theorem dX5_findCover_17 : decode cX5_findCover 17 = .ok (.invokevirtual 219, 3) := by decide +kernel
theorem dX5_findCover_20 : decode cX5_findCover 20 = .ok (.ifCond .ne 7, 3) := by decide +kernel
theorem dX5_findCover_23 : decode cX5_findCover 23 = .ok (.iconst 1, 1) := by decide +kernel
theorem dX5_findCover_24 : decode cX5_findCover 24 = .ok (.goto 4, 3) := by decide +kernel
theorem dX5_findCover_27 : decode cX5_findCover 27 = .ok (.iconst 0, 1) := by decide +kernel
theorem dX5_findCover_28 : decode cX5_findCover 28 = .ok (.istore_n 3, 1) := by decide +kernel
theorem dX5_findCover_29 : decode cX5_findCover 29 = .ok (.iload_n 3, 1) := by decide +kernel
theorem dX5_findCover_30 : decode cX5_findCover 30 = .ok (.ifCond .eq 26, 3) := by decide +kernel
theorem dX5_findCover_33 : decode cX5_findCover 33 = .ok (.iload_n 1, 1) := by decide +kernel
theorem dX5_findCover_34 : decode cX5_findCover 34 = .ok (.bipush (-9), 2) := by decide +kernel
theorem dX5_findCover_36 : decode cX5_findCover 36 = .ok (.if_icmp .eq 16, 3) := by decide +kernel
theorem dX5_findCover_39 : decode cX5_findCover 39 = .ok (.aload_n 0, 1) := by decide +kernel
theorem dX5_findCover_40 : decode cX5_findCover 40 = .ok (.iload_n 2, 1) := by decide +kernel
theorem dX5_findCover_41 : decode cX5_findCover 41 = .ok (.invokevirtual 216, 3) := by decide +kernel
theorem dX5_findCover_44 : decode cX5_findCover 44 = .ok (.aload_n 0, 1) := by decide +kernel
theorem dX5_findCover_45 : decode cX5_findCover 45 = .ok (.iload_n 1, 1) := by decide +kernel
theorem dX5_findCover_46 : decode cX5_findCover 46 = .ok (.invokevirtual 216, 3) := by decide +kernel
theorem dX5_findCover_49 : decode cX5_findCover 49 = .ok (.if_icmp .ge 7, 3) := by decide +kernel
theorem dX5_findCover_52 : decode cX5_findCover 52 = .ok (.iload_n 2, 1) := by decide +kernel
theorem dX5_findCover_53 : decode cX5_findCover 53 = .ok (.goto 4, 3) := by decide +kernel
theorem dX5_findCover_56 : decode cX5_findCover 56 = .ok (.iload_n 1, 1) := by decide +kernel
theorem dX5_findCover_57 : decode cX5_findCover 57 = .ok (.istore_n 1, 1) := by decide +kernel
theorem dX5_findCover_58 : decode cX5_findCover 58 = .ok (.iinc 2 1, 3) := by decide +kernel
theorem dX5_findCover_61 : decode cX5_findCover 61 = .ok (.goto (-56), 3) := by decide +kernel
theorem dX5_findCover_64 : decode cX5_findCover 64 = .ok (.iload_n 1, 1) := by decide +kernel
theorem dX5_findCover_65 : decode cX5_findCover 65 = .ok (.ireturn, 1) := by decide +kernel
theorem dX5_cover_0 : decode cX5_cover 0 = .ok (.iload_n 1, 1) := by decide +kernel
theorem dX5_cover_1 : decode cX5_cover 1 = .ok (.iconst 0, 1) := by decide +kernel
theorem dX5_cover_2 : decode cX5_cover 2 = .ok (.iconst 2, 1) := by decide +kernel
theorem dX5_cover_3 : decode cX5_cover 3 = .ok (.invokestatic 67, 3) := by decide +kernel
theorem dX5_cover_6 : decode cX5_cover 6 = .ok (.ifCond .ne 6, 3) := by decide +kernel
theorem dX5_cover_9 : decode cX5_cover 9 = .ok (.bipush (-2), 2) := by decide +kernel
theorem dX5_cover_11 : decode cX5_cover 11 = .ok (.ireturn, 1) := by decide +kernel
theorem dX5_cover_12 : decode cX5_cover 12 = .ok (.aload_n 0, 1) := by decide +kernel
theorem dX5_cover_13 : decode cX5_cover 13 = .ok (.getfield 71, 3) := by decide +kernel
theorem dX5_cover_16 : decode cX5_cover 16 = .ok (.ifCond .ne 6, 3) := by decide +kernel
theorem dX5_cover_19 : decode cX5_cover 19 = .ok (.bipush (-3), 2) := by decide +kernel
theorem dX5_cover_21 : decode cX5_cover 21 = .ok (.ireturn, 1) := by decide +kernel
theorem dX5_cover_22 : decode cX5_cover 22 = .ok (.aload_n 0, 1) := by decide +kernel
theorem dX5_cover_23 : decode cX5_cover 23 = .ok (.invokevirtual 162, 3) := by decide +kernel
theorem dX5_cover_26 : decode cX5_cover 26 = .ok (.aload_n 0, 1) := by decide +kernel
theorem dX5_cover_27 : decode cX5_cover 27 = .ok (.invokevirtual 213, 3) := by decide +kernel
theorem dX5_cover_30 : decode cX5_cover 30 = .ok (.istore_n 2, 1) := by decide +kernel
theorem dX5_cover_31 : decode cX5_cover 31 = .ok (.iload_n 1, 1) := by decide +kernel
theorem dX5_cover_32 : decode cX5_cover 32 = .ok (.ifCond .ne 7, 3) := by decide +kernel
theorem dX5_cover_35 : decode cX5_cover 35 = .ok (.iload_n 2, 1) := by decide +kernel
theorem dX5_cover_36 : decode cX5_cover 36 = .ok (.goto 20, 3) := by decide +kernel
theorem dX5_cover_39 : decode cX5_cover 39 = .ok (.iload_n 1, 1) := by decide +kernel
theorem dX5_cover_40 : decode cX5_cover 40 = .ok (.iconst 1, 1) := by decide +kernel
theorem dX5_cover_41 : decode cX5_cover 41 = .ok (.if_icmp .ne 11, 3) := by decide +kernel
theorem dX5_cover_44 : decode cX5_cover 44 = .ok (.aload_n 0, 1) := by decide +kernel
theorem dX5_cover_45 : decode cX5_cover 45 = .ok (.iload_n 2, 1) := by decide +kernel
theorem dX5_cover_46 : decode cX5_cover 46 = .ok (.invokevirtual 216, 3) := by decide +kernel
theorem dX5_cover_49 : decode cX5_cover 49 = .ok (.goto 7, 3) := by decide +kernel
theorem dX5_cover_52 : decode cX5_cover 52 = .ok (.iload_n 2, 1) := by decide +kernel
theorem dX5_cover_53 : decode cX5_cover 53 = .ok (.invokestatic 183, 3) := by decide +kernel
theorem dX5_cover_56 : decode cX5_cover 56 = .ok (.ireturn, 1) := by decide +kernel
theorem dX5_isBetter_0 : decode cX5_isBetter 0 = .ok (.aload_n 0, 1) := by decide +kernel
theorem dX5_isBetter_1 : decode cX5_isBetter 1 = .ok (.iload_n 1, 1) := by decide +kernel
theorem dX5_isBetter_2 : decode cX5_isBetter 2 = .ok (.invokevirtual 165, 3) := by decide +kernel
theorem dX5_isBetter_5 : decode cX5_isBetter 5 = .ok (.iload_n 3, 1) := by decide +kernel
theorem dX5_isBetter_6 : decode cX5_isBetter 6 = .ok (.iand, 1) := by decide +kernel
theorem dX5_isBetter_7 : decode cX5_isBetter 7 = .ok (.invokestatic 183, 3) := by decide +kernel
theorem dX5_isBetter_10 : decode cX5_isBetter 10 = .ok (.istore 5, 2) := by decide +kernel
theorem dX5_isBetter_12 : decode cX5_isBetter 12 = .ok (.aload_n 0, 1) := by decide +kernel
theorem dX5_isBetter_13 : decode cX5_isBetter 13 = .ok (.iload_n 2, 1) := by decide +kernel
theorem dX5_isBetter_14 : decode cX5_isBetter 14 = .ok (.invokevirtual 165, 3) := by decide +kernel
theorem dX5_isBetter_17 : decode cX5_isBetter 17 = .ok (.iload_n 3, 1) := by decide +kernel
theorem dX5_isBetter_18 : decode cX5_isBetter 18 = .ok (.iand, 1) := by decide +kernel
theorem dX5_isBetter_19 : decode cX5_isBetter 19 = .ok (.invokestatic 183, 3) := by decide +kernel
theorem dX5_isBetter_22 : decode cX5_isBetter 22 = .ok (.istore 6, 2) := by decide +kernel
theorem dX5_isBetter_24 : decode cX5_isBetter 24 = .ok (.iload 4, 2) := by decide +kernel
theorem dX5_isBetter_26 : decode cX5_isBetter 26 = .ok (.ifCond .ne 18, 3) := by decide +kernel
theorem dX5_isBetter_29 : decode cX5_isBetter 29 = .ok (.iload 5, 2) := by decide +kernel
theorem dX5_isBetter_31 : decode cX5_isBetter 31 = .ok (.iload 6, 2) := by decide +kernel
theorem dX5_isBetter_33 : decode cX5_isBetter 33 = .ok (.if_icmp .le 7, 3) := by decide +kernel
theorem dX5_isBetter_36 : decode cX5_isBetter 36 = .ok (.iconst 1, 1) := by decide +kernel
theorem dX5_isBetter_37 : decode cX5_isBetter 37 = .ok (.goto 58, 3) := by decide +kernel
theorem dX5_isBetter_40 : decode cX5_isBetter 40 = .ok (.iconst 0, 1) := by decide +kernel
theorem dX5_isBetter_41 : decode cX5_isBetter 41 = .ok (.goto 54, 3) := by decide +kernel
theorem dX5_isBetter_44 : decode cX5_isBetter 44 = .ok (.iload 4, 2) := by decide +kernel
theorem dX5_isBetter_46 : decode cX5_isBetter 46 = .ok (.iconst 1, 1) := by decide +kernel
theorem dX5_isBetter_47 : decode cX5_isBetter 47 = .ok (.if_icmp .ne 24, 3) := by decide +kernel
theorem dX5_isBetter_50 : decode cX5_isBetter 50 = .ok (.aload_n 0, 1) := by decide +kernel
theorem dX5_isBetter_51 : decode cX5_isBetter 51 = .ok (.iload_n 1, 1) := by decide +kernel
theorem dX5_isBetter_52 : decode cX5_isBetter 52 = .ok (.invokevirtual 159, 3) := by decide +kernel
theorem dX5_isBetter_55 : decode cX5_isBetter 55 = .ok (.aload_n 0, 1) := by decide +kernel
theorem dX5_isBetter_56 : decode cX5_isBetter 56 = .ok (.iload_n 2, 1) := by decide +kernel
theorem dX5_isBetter_57 : decode cX5_isBetter 57 = .ok (.invokevirtual 159, 3) := by decide +kernel
theorem dX5_isBetter_60 : decode cX5_isBetter 60 = .ok (.if_icmp .ge 7, 3) := by decide +kernel
theorem dX5_isBetter_63 : decode cX5_isBetter 63 = .ok (.iconst 1, 1) := by decide +kernel
theorem dX5_isBetter_64 : decode cX5_isBetter 64 = .ok (.goto 31, 3) := by decide +kernel
theorem dX5_isBetter_67 : decode cX5_isBetter 67 = .ok (.iconst 0, 1) := by decide +kernel
theorem dX5_isBetter_68 : decode cX5_isBetter 68 = .ok (.goto 27, 3) := by decide +kernel
theorem dX5_isBetter_71 : decode cX5_isBetter 71 = .ok (.iload 5, 2) := by decide +kernel
theorem dX5_isBetter_73 : decode cX5_isBetter 73 = .ok (.aload_n 0, 1) := by decide +kernel
theorem dX5_isBetter_74 : decode cX5_isBetter 74 = .ok (.iload_n 2, 1) := by decide +kernel
theorem dX5_isBetter_75 : decode cX5_isBetter 75 = .ok (.invokevirtual 159, 3) := by decide +kernel
theorem dX5_isBetter_78 : decode cX5_isBetter 78 = .ok (.imul, 1) := by decide +kernel
theorem dX5_isBetter_79 : decode cX5_isBetter 79 = .ok (.iload 6, 2) := by decide +kernel
theorem dX5_isBetter_81 : decode cX5_isBetter 81 = .ok (.aload_n 0, 1) := by decide +kernel
theorem dX5_isBetter_82 : decode cX5_isBetter 82 = .ok (.iload_n 1, 1) := by decide +kernel
theorem dX5_isBetter_83 : decode cX5_isBetter 83 = .ok (.invokevirtual 159, 3) := by decide +kernel
theorem dX5_isBetter_86 : decode cX5_isBetter 86 = .ok (.imul, 1) := by decide +kernel
theorem dX5_isBetter_87 : decode cX5_isBetter 87 = .ok (.if_icmp .le 7, 3) := by decide +kernel
theorem dX5_isBetter_90 : decode cX5_isBetter 90 = .ok (.iconst 1, 1) := by decide +kernel
theorem dX5_isBetter_91 : decode cX5_isBetter 91 = .ok (.goto 4, 3) := by decide +kernel
theorem dX5_isBetter_94 : decode cX5_isBetter 94 = .ok (.iconst 0, 1) := by decide +kernel
theorem dX5_isBetter_95 : decode cX5_isBetter 95 = .ok (.ireturn, 1) := by decide +kernel
theorem dX5_findChoices_0 : decode cX5_findChoices 0 = .ok (.iconst 0, 1) := by decide +kernel
theorem dX5_findChoices_1 : decode cX5_findChoices 1 = .ok (.istore_n 2, 1) := by decide +kernel
theorem dX5_findChoices_2 : decode cX5_findChoices 2 = .ok (.aload_n 0, 1) := by decide +kernel
theorem dX5_findChoices_3 : decode cX5_findChoices 3 = .ok (.iconst 0, 1) := by decide +kernel
theorem dX5_findChoices_4 : decode cX5_findChoices 4 = .ok (.putfield 222, 3) := by decide +kernel
theorem dX5_findChoices_7 : decode cX5_findChoices 7 = .ok (.aload_n 0, 1) := by decide +kernel
theorem dX5_findChoices_8 : decode cX5_findChoices 8 = .ok (.iconst 0, 1) := by decide +kernel
theorem dX5_findChoices_9 : decode cX5_findChoices 9 = .ok (.invokevirtual 219, 3) := by decide +kernel
theorem dX5_findChoices_12 : decode cX5_findChoices 12 = .ok (.istore_n 3, 1) := by decide +kernel
theorem dX5_findChoices_13 : decode cX5_findChoices 13 = .ok (.iload_n 3, 1) := by decide +kernel
theorem dX5_findChoices_14 : decode cX5_findChoices 14 = .ok (.ifCond .eq 114, 3) := by decide +kernel
theorem dX5_findChoices_17 : decode cX5_findChoices 17 = .ok (.bipush (-9), 2) := by decide +kernel
theorem dX5_findChoices_19 : decode cX5_findChoices 19 = .ok (.istore 4, 2) := by decide +kernel
theorem dX5_findChoices_21 : decode cX5_findChoices 21 = .ok (.iconst 0, 1) := by decide +kernel
theorem dX5_findChoices_22 : decode cX5_findChoices 22 = .ok (.istore 5, 2) := by decide +kernel
theorem dX5_findChoices_24 : decode cX5_findChoices 24 = .ok (.iload 5, 2) := by decide +kernel
theorem dX5_findChoices_26 : decode cX5_findChoices 26 = .ok (.aload_n 0, 1) := by decide +kernel
theorem dX5_findChoices_27 : decode cX5_findChoices 27 = .ok (.getfield 74, 3) := by decide +kernel
theorem dX5_findChoices_30 : decode cX5_findChoices 30 = .ok (.if_icmp .ge 61, 3) := by decide +kernel
theorem dX5_findChoices_33 : decode cX5_findChoices 33 = .ok (.aload_n 0, 1) := by decide +kernel
theorem dX5_findChoices_34 : decode cX5_findChoices 34 = .ok (.iload 5, 2) := by decide +kernel
theorem dX5_findChoices_36 : decode cX5_findChoices 36 = .ok (.invokevirtual 165, 3) := by decide +kernel
theorem dX5_findChoices_39 : decode cX5_findChoices 39 = .ok (.iload_n 3, 1) := by decide +kernel
theorem dX5_findChoices_40 : decode cX5_findChoices 40 = .ok (.iand, 1) := by decide +kernel
theorem dX5_findChoices_41 : decode cX5_findChoices 41 = .ok (.ifCond .eq 7, 3) := by decide +kernel
theorem dX5_findChoices_44 : decode cX5_findChoices 44 = .ok (.iconst 1, 1) := by decide +kernel
theorem dX5_findChoices_45 : decode cX5_findChoices 45 = .ok (.goto 4, 3) := by decide +kernel
theorem dX5_findChoices_48 : decode cX5_findChoices 48 = .ok (.iconst 0, 1) := by decide +kernel
theorem dX5_findChoices_49 : decode cX5_findChoices 49 = .ok (.istore 6, 2) := by decide +kernel
theorem dX5_findChoices_51 : decode cX5_findChoices 51 = .ok (.iload 6, 2) := by decide +kernel
theorem dX5_findChoices_53 : decode cX5_findChoices 53 = .ok (.ifCond .eq 28, 3) := by decide +kernel
theorem dX5_findChoices_56 : decode cX5_findChoices 56 = .ok (.iload 4, 2) := by decide +kernel
theorem dX5_findChoices_58 : decode cX5_findChoices 58 = .ok (.bipush (-9), 2) := by decide +kernel
theorem dX5_findChoices_60 : decode cX5_findChoices 60 = .ok (.if_icmp .eq 16, 3) := by decide +kernel
theorem dX5_findChoices_63 : decode cX5_findChoices 63 = .ok (.aload_n 0, 1) := by decide +kernel
theorem dX5_findChoices_64 : decode cX5_findChoices 64 = .ok (.iload 5, 2) := by decide +kernel
theorem dX5_findChoices_66 : decode cX5_findChoices 66 = .ok (.iload 4, 2) := by decide +kernel
theorem dX5_findChoices_68 : decode cX5_findChoices 68 = .ok (.iload_n 3, 1) := by decide +kernel
theorem dX5_findChoices_69 : decode cX5_findChoices 69 = .ok (.iload_n 1, 1) := by decide +kernel
theorem dX5_findChoices_70 : decode cX5_findChoices 70 = .ok (.invokevirtual 225, 3) := by decide +kernel
theorem dX5_findChoices_73 : decode cX5_findChoices 73 = .ok (.ifCond .eq 8, 3) := by decide +kernel
theorem dX5_findChoices_76 : decode cX5_findChoices 76 = .ok (.iload 5, 2) := by decide +kernel
theorem dX5_findChoices_78 : decode cX5_findChoices 78 = .ok (.goto 5, 3) := by decide +kernel
theorem dX5_findChoices_81 : decode cX5_findChoices 81 = .ok (.iload 4, 2) := by decide +kernel
theorem dX5_findChoices_83 : decode cX5_findChoices 83 = .ok (.istore 4, 2) := by decide +kernel
theorem dX5_findChoices_85 : decode cX5_findChoices 85 = .ok (.iinc 5 1, 3) := by decide +kernel
theorem dX5_findChoices_88 : decode cX5_findChoices 88 = .ok (.goto (-64), 3) := by decide +kernel
theorem dX5_findChoices_91 : decode cX5_findChoices 91 = .ok (.iload_n 2, 1) := by decide +kernel
theorem dX5_findChoices_92 : decode cX5_findChoices 92 = .ok (.iconst 1, 1) := by decide +kernel
theorem dX5_findChoices_93 : decode cX5_findChoices 93 = .ok (.iload 4, 2) := by decide +kernel
theorem dX5_findChoices_95 : decode cX5_findChoices 95 = .ok (.ishl, 1) := by decide +kernel
theorem dX5_findChoices_96 : decode cX5_findChoices 96 = .ok (.ior, 1) := by decide +kernel
theorem dX5_findChoices_97 : decode cX5_findChoices 97 = .ok (.istore_n 2, 1) := by decide +kernel
theorem dX5_findChoices_98 : decode cX5_findChoices 98 = .ok (.aload_n 0, 1) := by decide +kernel
theorem dX5_findChoices_99 : decode cX5_findChoices 99 = .ok (.getfield 55, 3) := by decide +kernel
theorem dX5_findChoices_102 : decode cX5_findChoices 102 = .ok (.aload_n 0, 1) := by decide +kernel
theorem dX5_findChoices_103 : decode cX5_findChoices 103 = .ok (.getfield 222, 3) := by decide +kernel
theorem dX5_findChoices_106 : decode cX5_findChoices 106 = .ok (.iload 4, 2) := by decide +kernel
theorem dX5_findChoices_108 : decode cX5_findChoices 108 = .ok (.iastore, 1) := by decide +kernel
theorem dX5_findChoices_109 : decode cX5_findChoices 109 = .ok (.aload_n 0, 1) := by decide +kernel
theorem dX5_findChoices_110 : decode cX5_findChoices 110 = .ok (.dup, 1) := by decide +kernel
theorem dX5_findChoices_111 : decode cX5_findChoices 111 = .ok (.getfield 222, 3) := by decide +kernel
theorem dX5_findChoices_114 : decode cX5_findChoices 114 = .ok (.iconst 1, 1) := by decide +kernel
theorem dX5_findChoices_115 : decode cX5_findChoices 115 = .ok (.iadd, 1) := by decide +kernel
theorem dX5_findChoices_116 : decode cX5_findChoices 116 = .ok (.putfield 222, 3) := by decide +kernel
theorem dX5_findChoices_119 : decode cX5_findChoices 119 = .ok (.aload_n 0, 1) := by decide +kernel
theorem dX5_findChoices_120 : decode cX5_findChoices 120 = .ok (.iload_n 2, 1) := by decide +kernel
theorem dX5_findChoices_121 : decode cX5_findChoices 121 = .ok (.invokevirtual 219, 3) := by decide +kernel
theorem dX5_findChoices_124 : decode cX5_findChoices 124 = .ok (.istore_n 3, 1) := by decide +kernel
theorem dX5_findChoices_125 : decode cX5_findChoices 125 = .ok (.goto (-112), 3) := by decide +kernel
theorem dX5_findChoices_128 : decode cX5_findChoices 128 = .ok (.iload_n 2, 1) := by decide +kernel
theorem dX5_findChoices_129 : decode cX5_findChoices 129 = .ok (.ireturn, 1) := by decide +kernel
theorem dX5_choose_0 : decode cX5_choose 0 = .ok (.iload_n 1, 1) := by decide +kernel
theorem dX5_choose_1 : decode cX5_choose 1 = .ok (.iconst 0, 1) := by decide +kernel
theorem dX5_choose_2 : decode cX5_choose 2 = .ok (.iconst 2, 1) := by decide +kernel
theorem dX5_choose_3 : decode cX5_choose 3 = .ok (.invokestatic 67, 3) := by decide +kernel
theorem dX5_choose_6 : decode cX5_choose 6 = .ok (.ifCond .eq 23, 3) := by decide +kernel
theorem dX5_choose_9 : decode cX5_choose 9 = .ok (.iload_n 2, 1) := by decide +kernel
theorem dX5_choose_10 : decode cX5_choose 10 = .ok (.iconst 0, 1) := by decide +kernel
theorem dX5_choose_11 : decode cX5_choose 11 = .ok (.iconst 1, 1) := by decide +kernel
theorem dX5_choose_12 : decode cX5_choose 12 = .ok (.invokestatic 67, 3) := by decide +kernel
theorem dX5_choose_15 : decode cX5_choose 15 = .ok (.ifCond .ne 17, 3) := by decide +kernel
theorem dX5_choose_18 : decode cX5_choose 18 = .ok (.iload_n 2, 1) := by decide +kernel
theorem dX5_choose_19 : decode cX5_choose 19 = .ok (.bipush 10, 2) := by decide +kernel
theorem dX5_choose_21 : decode cX5_choose 21 = .ok (.bipush 16, 2) := by decide +kernel
theorem dX5_choose_23 : decode cX5_choose 23 = .ok (.invokestatic 67, 3) := by decide +kernel
theorem dX5_choose_26 : decode cX5_choose 26 = .ok (.ifCond .ne 6, 3) := by decide +kernel
theorem dX5_choose_29 : decode cX5_choose 29 = .ok (.bipush (-2), 2) := by decide +kernel
theorem dX5_choose_31 : decode cX5_choose 31 = .ok (.ireturn, 1) := by decide +kernel
theorem dX5_choose_32 : decode cX5_choose 32 = .ok (.aload_n 0, 1) := by decide +kernel
theorem dX5_choose_33 : decode cX5_choose 33 = .ok (.getfield 71, 3) := by decide +kernel
theorem dX5_choose_36 : decode cX5_choose 36 = .ok (.ifCond .ne 6, 3) := by decide +kernel
theorem dX5_choose_39 : decode cX5_choose 39 = .ok (.bipush (-3), 2) := by decide +kernel
theorem dX5_choose_41 : decode cX5_choose 41 = .ok (.ireturn, 1) := by decide +kernel
theorem dX5_choose_42 : decode cX5_choose 42 = .ok (.aload_n 0, 1) := by decide +kernel
theorem dX5_choose_43 : decode cX5_choose 43 = .ok (.invokevirtual 162, 3) := by decide +kernel
theorem dX5_choose_46 : decode cX5_choose 46 = .ok (.aload_n 0, 1) := by decide +kernel
theorem dX5_choose_47 : decode cX5_choose 47 = .ok (.iload_n 1, 1) := by decide +kernel
theorem dX5_choose_48 : decode cX5_choose 48 = .ok (.invokevirtual 229, 3) := by decide +kernel
theorem dX5_choose_51 : decode cX5_choose 51 = .ok (.istore_n 3, 1) := by decide +kernel
theorem dX5_choose_52 : decode cX5_choose 52 = .ok (.iload_n 2, 1) := by decide +kernel
theorem dX5_choose_53 : decode cX5_choose 53 = .ok (.bipush 10, 2) := by decide +kernel
theorem dX5_choose_55 : decode cX5_choose 55 = .ok (.if_icmp .lt 29, 3) := by decide +kernel
theorem dX5_choose_58 : decode cX5_choose 58 = .ok (.iload_n 2, 1) := by decide +kernel
theorem dX5_choose_59 : decode cX5_choose 59 = .ok (.bipush 10, 2) := by decide +kernel
theorem dX5_choose_61 : decode cX5_choose 61 = .ok (.isub, 1) := by decide +kernel
theorem dX5_choose_62 : decode cX5_choose 62 = .ok (.aload_n 0, 1) := by decide +kernel
theorem dX5_choose_63 : decode cX5_choose 63 = .ok (.getfield 222, 3) := by decide +kernel
theorem dX5_choose_66 : decode cX5_choose 66 = .ok (.if_icmp .ge 15, 3) := by decide +kernel
theorem dX5_choose_69 : decode cX5_choose 69 = .ok (.aload_n 0, 1) := by decide +kernel
theorem dX5_choose_70 : decode cX5_choose 70 = .ok (.getfield 55, 3) := by decide +kernel
theorem dX5_choose_73 : decode cX5_choose 73 = .ok (.iload_n 2, 1) := by decide +kernel
theorem dX5_choose_74 : decode cX5_choose 74 = .ok (.bipush 10, 2) := by decide +kernel
theorem dX5_choose_76 : decode cX5_choose 76 = .ok (.isub, 1) := by decide +kernel
theorem dX5_choose_77 : decode cX5_choose 77 = .ok (.iaload, 1) := by decide +kernel
theorem dX5_choose_78 : decode cX5_choose 78 = .ok (.goto 5, 3) := by decide +kernel
theorem dX5_choose_81 : decode cX5_choose 81 = .ok (.bipush (-9), 2) := by decide +kernel
theorem dX5_choose_83 : decode cX5_choose 83 = .ok (.ireturn, 1) := by decide +kernel
theorem dX5_choose_84 : decode cX5_choose 84 = .ok (.iload_n 2, 1) := by decide +kernel
theorem dX5_choose_85 : decode cX5_choose 85 = .ok (.ifCond .ne 7, 3) := by decide +kernel
theorem dX5_choose_88 : decode cX5_choose 88 = .ok (.iload_n 3, 1) := by decide +kernel
theorem dX5_choose_89 : decode cX5_choose 89 = .ok (.goto 8, 3) := by decide +kernel
theorem dX5_choose_92 : decode cX5_choose 92 = .ok (.aload_n 0, 1) := by decide +kernel
theorem dX5_choose_93 : decode cX5_choose 93 = .ok (.iload_n 3, 1) := by decide +kernel
theorem dX5_choose_94 : decode cX5_choose 94 = .ok (.invokevirtual 216, 3) := by decide +kernel
theorem dX5_choose_97 : decode cX5_choose 97 = .ok (.ireturn, 1) := by decide +kernel
theorem dX5_inLeastTerms_0 : decode cX5_inLeastTerms 0 = .ok (.lload_n 0, 1) := by decide +kernel
theorem dX5_inLeastTerms_1 : decode cX5_inLeastTerms 1 = .ok (.lstore 5, 2) := by decide +kernel
theorem dX5_inLeastTerms_3 : decode cX5_inLeastTerms 3 = .ok (.lload_n 2, 1) := by decide +kernel
theorem dX5_inLeastTerms_4 : decode cX5_inLeastTerms 4 = .ok (.lstore 7, 2) := by decide +kernel
theorem dX5_inLeastTerms_6 : decode cX5_inLeastTerms 6 = .ok (.lload 7, 2) := by decide +kernel
theorem dX5_inLeastTerms_8 : decode cX5_inLeastTerms 8 = .ok (.lconst 0, 1) := by decide +kernel
theorem dX5_inLeastTerms_9 : decode cX5_inLeastTerms 9 = .ok (.lcmp, 1) := by decide +kernel
theorem dX5_inLeastTerms_10 : decode cX5_inLeastTerms 10 = .ok (.ifCond .eq 21, 3) := by decide +kernel
theorem dX5_inLeastTerms_13 : decode cX5_inLeastTerms 13 = .ok (.lload 5, 2) := by decide +kernel
theorem dX5_inLeastTerms_15 : decode cX5_inLeastTerms 15 = .ok (.lload 7, 2) := by decide +kernel
theorem dX5_inLeastTerms_17 : decode cX5_inLeastTerms 17 = .ok (.lrem, 1) := by decide +kernel
theorem dX5_inLeastTerms_18 : decode cX5_inLeastTerms 18 = .ok (.lstore 9, 2) := by decide +kernel
theorem dX5_inLeastTerms_20 : decode cX5_inLeastTerms 20 = .ok (.lload 7, 2) := by decide +kernel
theorem dX5_inLeastTerms_22 : decode cX5_inLeastTerms 22 = .ok (.lstore 5, 2) := by decide +kernel
theorem dX5_inLeastTerms_24 : decode cX5_inLeastTerms 24 = .ok (.lload 9, 2) := by decide +kernel
theorem dX5_inLeastTerms_26 : decode cX5_inLeastTerms 26 = .ok (.lstore 7, 2) := by decide +kernel
theorem dX5_inLeastTerms_28 : decode cX5_inLeastTerms 28 = .ok (.goto (-22), 3) := by decide +kernel
theorem dX5_inLeastTerms_31 : decode cX5_inLeastTerms 31 = .ok (.iload 4, 2) := by decide +kernel
theorem dX5_inLeastTerms_33 : decode cX5_inLeastTerms 33 = .ok (.ifCond .ne 10, 3) := by decide +kernel
theorem dX5_inLeastTerms_36 : decode cX5_inLeastTerms 36 = .ok (.lload_n 0, 1) := by decide +kernel
theorem dX5_inLeastTerms_37 : decode cX5_inLeastTerms 37 = .ok (.lload 5, 2) := by decide +kernel
theorem dX5_inLeastTerms_39 : decode cX5_inLeastTerms 39 = .ok (.ldiv, 1) := by decide +kernel
theorem dX5_inLeastTerms_40 : decode cX5_inLeastTerms 40 = .ok (.goto 7, 3) := by decide +kernel
theorem dX5_inLeastTerms_43 : decode cX5_inLeastTerms 43 = .ok (.lload_n 2, 1) := by decide +kernel
theorem dX5_inLeastTerms_44 : decode cX5_inLeastTerms 44 = .ok (.lload 5, 2) := by decide +kernel
theorem dX5_inLeastTerms_46 : decode cX5_inLeastTerms 46 = .ok (.ldiv, 1) := by decide +kernel
theorem dX5_inLeastTerms_47 : decode cX5_inLeastTerms 47 = .ok (.lreturn, 1) := by decide +kernel
theorem dX5_score_0 : decode cX5_score 0 = .ok (.iload_n 1, 1) := by decide +kernel
theorem dX5_score_1 : decode cX5_score 1 = .ok (.iconst 0, 1) := by decide +kernel
theorem dX5_score_2 : decode cX5_score 2 = .ok (.iconst 1, 1) := by decide +kernel
theorem dX5_score_3 : decode cX5_score 3 = .ok (.invokestatic 67, 3) := by decide +kernel
theorem dX5_score_6 : decode cX5_score 6 = .ok (.ifCond .eq 10, 3) := by decide +kernel
theorem dX5_score_9 : decode cX5_score 9 = .ok (.aload_n 0, 1) := by decide +kernel
theorem dX5_score_10 : decode cX5_score 10 = .ok (.getfield 71, 3) := by decide +kernel
theorem dX5_score_13 : decode cX5_score 13 = .ok (.ifCond .ne 7, 3) := by decide +kernel
theorem dX5_score_16 : decode cX5_score 16 = .ok (.ldc2_w 65, 3) := by decide +kernel
theorem dX5_score_19 : decode cX5_score 19 = .ok (.lreturn, 1) := by decide +kernel
theorem dX5_score_20 : decode cX5_score 20 = .ok (.aload_n 0, 1) := by decide +kernel
theorem dX5_score_21 : decode cX5_score 21 = .ok (.invokevirtual 162, 3) := by decide +kernel
theorem dX5_score_24 : decode cX5_score 24 = .ok (.aload_n 0, 1) := by decide +kernel
theorem dX5_score_25 : decode cX5_score 25 = .ok (.invokevirtual 77, 3) := by decide +kernel
theorem dX5_score_28 : decode cX5_score 28 = .ok (.aload_n 0, 1) := by decide +kernel
theorem dX5_score_29 : decode cX5_score 29 = .ok (.invokevirtual 207, 3) := by decide +kernel
theorem dX5_score_32 : decode cX5_score 32 = .ok (.isub, 1) := by decide +kernel
theorem dX5_score_33 : decode cX5_score 33 = .ok (.istore_n 2, 1) := by decide +kernel
theorem dX5_score_34 : decode cX5_score 34 = .ok (.iload_n 2, 1) := by decide +kernel
theorem dX5_score_35 : decode cX5_score 35 = .ok (.ifCond .ne 8, 3) := by decide +kernel
theorem dX5_score_38 : decode cX5_score 38 = .ok (.iload_n 1, 1) := by decide +kernel
theorem dX5_score_39 : decode cX5_score 39 = .ok (.i2l, 1) := by decide +kernel
theorem dX5_score_40 : decode cX5_score 40 = .ok (.goto 14, 3) := by decide +kernel
theorem dX5_score_43 : decode cX5_score 43 = .ok (.aload_n 0, 1) := by decide +kernel
theorem dX5_score_44 : decode cX5_score 44 = .ok (.invokevirtual 204, 3) := by decide +kernel
theorem dX5_score_47 : decode cX5_score 47 = .ok (.i2l, 1) := by decide +kernel
theorem dX5_score_48 : decode cX5_score 48 = .ok (.iload_n 2, 1) := by decide +kernel
theorem dX5_score_49 : decode cX5_score 49 = .ok (.i2l, 1) := by decide +kernel
theorem dX5_score_50 : decode cX5_score 50 = .ok (.iload_n 1, 1) := by decide +kernel
theorem dX5_score_51 : decode cX5_score 51 = .ok (.invokestatic 232, 3) := by decide +kernel
theorem dX5_score_54 : decode cX5_score 54 = .ok (.lreturn, 1) := by decide +kernel
theorem dX5_reading_0 : decode cX5_reading 0 = .ok (.aload_n 0, 1) := by decide +kernel
theorem dX5_reading_1 : decode cX5_reading 1 = .ok (.getfield 71, 3) := by decide +kernel
theorem dX5_reading_4 : decode cX5_reading 4 = .ok (.ifCond .ne 6, 3) := by decide +kernel
theorem dX5_reading_7 : decode cX5_reading 7 = .ok (.bipush (-3), 2) := by decide +kernel
theorem dX5_reading_9 : decode cX5_reading 9 = .ok (.ireturn, 1) := by decide +kernel
theorem dX5_reading_10 : decode cX5_reading 10 = .ok (.iload_n 1, 1) := by decide +kernel
theorem dX5_reading_11 : decode cX5_reading 11 = .ok (.iconst 0, 1) := by decide +kernel
theorem dX5_reading_12 : decode cX5_reading 12 = .ok (.sipush 200, 3) := by decide +kernel
theorem dX5_reading_15 : decode cX5_reading 15 = .ok (.invokestatic 67, 3) := by decide +kernel
theorem dX5_reading_18 : decode cX5_reading 18 = .ok (.ifCond .ne 6, 3) := by decide +kernel
theorem dX5_reading_21 : decode cX5_reading 21 = .ok (.bipush (-2), 2) := by decide +kernel
theorem dX5_reading_23 : decode cX5_reading 23 = .ok (.ireturn, 1) := by decide +kernel
theorem dX5_reading_24 : decode cX5_reading 24 = .ok (.aload_n 0, 1) := by decide +kernel
theorem dX5_reading_25 : decode cX5_reading 25 = .ok (.getfield 108, 3) := by decide +kernel
theorem dX5_reading_28 : decode cX5_reading 28 = .ok (.bipush 8, 2) := by decide +kernel
theorem dX5_reading_30 : decode cX5_reading 30 = .ok (.if_icmp .ne 6, 3) := by decide +kernel
theorem dX5_reading_33 : decode cX5_reading 33 = .ok (.bipush (-4), 2) := by decide +kernel
theorem dX5_reading_35 : decode cX5_reading 35 = .ok (.ireturn, 1) := by decide +kernel
theorem dX5_reading_36 : decode cX5_reading 36 = .ok (.aload_n 0, 1) := by decide +kernel
theorem dX5_reading_37 : decode cX5_reading 37 = .ok (.getfield 58, 3) := by decide +kernel
theorem dX5_reading_40 : decode cX5_reading 40 = .ok (.aload_n 0, 1) := by decide +kernel
theorem dX5_reading_41 : decode cX5_reading 41 = .ok (.getfield 108, 3) := by decide +kernel
theorem dX5_reading_44 : decode cX5_reading 44 = .ok (.iload_n 1, 1) := by decide +kernel
theorem dX5_reading_45 : decode cX5_reading 45 = .ok (.iastore, 1) := by decide +kernel
theorem dX5_reading_46 : decode cX5_reading 46 = .ok (.aload_n 0, 1) := by decide +kernel
theorem dX5_reading_47 : decode cX5_reading 47 = .ok (.dup, 1) := by decide +kernel
theorem dX5_reading_48 : decode cX5_reading 48 = .ok (.getfield 108, 3) := by decide +kernel
theorem dX5_reading_51 : decode cX5_reading 51 = .ok (.iconst 1, 1) := by decide +kernel
theorem dX5_reading_52 : decode cX5_reading 52 = .ok (.iadd, 1) := by decide +kernel
theorem dX5_reading_53 : decode cX5_reading 53 = .ok (.putfield 108, 3) := by decide +kernel
theorem dX5_reading_56 : decode cX5_reading 56 = .ok (.aload_n 0, 1) := by decide +kernel
theorem dX5_reading_57 : decode cX5_reading 57 = .ok (.getfield 108, 3) := by decide +kernel
theorem dX5_reading_60 : decode cX5_reading 60 = .ok (.iconst 1, 1) := by decide +kernel
theorem dX5_reading_61 : decode cX5_reading 61 = .ok (.isub, 1) := by decide +kernel
theorem dX5_reading_62 : decode cX5_reading 62 = .ok (.ireturn, 1) := by decide +kernel
theorem dX5_back_0 : decode cX5_back 0 = .ok (.iload_n 1, 1) := by decide +kernel
theorem dX5_back_1 : decode cX5_back 1 = .ok (.iconst 0, 1) := by decide +kernel
theorem dX5_back_2 : decode cX5_back 2 = .ok (.aload_n 0, 1) := by decide +kernel
theorem dX5_back_3 : decode cX5_back 3 = .ok (.getfield 108, 3) := by decide +kernel
theorem dX5_back_6 : decode cX5_back 6 = .ok (.invokestatic 67, 3) := by decide +kernel
theorem dX5_back_9 : decode cX5_back 9 = .ok (.ifCond .ne 6, 3) := by decide +kernel
theorem dX5_back_12 : decode cX5_back 12 = .ok (.bipush (-2), 2) := by decide +kernel
theorem dX5_back_14 : decode cX5_back 14 = .ok (.ireturn, 1) := by decide +kernel
theorem dX5_back_15 : decode cX5_back 15 = .ok (.aload_n 0, 1) := by decide +kernel
theorem dX5_back_16 : decode cX5_back 16 = .ok (.dup, 1) := by decide +kernel
theorem dX5_back_17 : decode cX5_back 17 = .ok (.getfield 108, 3) := by decide +kernel
theorem dX5_back_20 : decode cX5_back 20 = .ok (.iload_n 1, 1) := by decide +kernel
theorem dX5_back_21 : decode cX5_back 21 = .ok (.isub, 1) := by decide +kernel
theorem dX5_back_22 : decode cX5_back 22 = .ok (.putfield 108, 3) := by decide +kernel
theorem dX5_back_25 : decode cX5_back 25 = .ok (.aload_n 0, 1) := by decide +kernel
theorem dX5_back_26 : decode cX5_back 26 = .ok (.getfield 108, 3) := by decide +kernel
theorem dX5_back_29 : decode cX5_back 29 = .ok (.ireturn, 1) := by decide +kernel
theorem dX5_areSo_0 : decode cX5_areSo 0 = .ok (.aload_n 0, 1) := by decide +kernel
theorem dX5_areSo_1 : decode cX5_areSo 1 = .ok (.getfield 108, 3) := by decide +kernel
theorem dX5_areSo_4 : decode cX5_areSo 4 = .ok (.ifCond .ne 5, 3) := by decide +kernel
theorem dX5_areSo_7 : decode cX5_areSo 7 = .ok (.iconst 1, 1) := by decide +kernel
theorem dX5_areSo_8 : decode cX5_areSo 8 = .ok (.ireturn, 1) := by decide +kernel
theorem dX5_areSo_9 : decode cX5_areSo 9 = .ok (.aload_n 0, 1) := by decide +kernel
theorem dX5_areSo_10 : decode cX5_areSo 10 = .ok (.invokevirtual 162, 3) := by decide +kernel
theorem dX5_areSo_13 : decode cX5_areSo 13 = .ok (.aload_n 0, 1) := by decide +kernel
theorem dX5_areSo_14 : decode cX5_areSo 14 = .ok (.aload_n 0, 1) := by decide +kernel
theorem dX5_areSo_15 : decode cX5_areSo 15 = .ok (.invokevirtual 213, 3) := by decide +kernel
theorem dX5_areSo_18 : decode cX5_areSo 18 = .ok (.invokevirtual 216, 3) := by decide +kernel
theorem dX5_areSo_21 : decode cX5_areSo 21 = .ok (.istore_n 1, 1) := by decide +kernel
theorem dX5_areSo_22 : decode cX5_areSo 22 = .ok (.iconst 1, 1) := by decide +kernel
theorem dX5_areSo_23 : decode cX5_areSo 23 = .ok (.istore_n 2, 1) := by decide +kernel
theorem dX5_areSo_24 : decode cX5_areSo 24 = .ok (.iconst 0, 1) := by decide +kernel
theorem dX5_areSo_25 : decode cX5_areSo 25 = .ok (.istore_n 3, 1) := by decide +kernel
theorem dX5_areSo_26 : decode cX5_areSo 26 = .ok (.iload_n 3, 1) := by decide +kernel
theorem dX5_areSo_27 : decode cX5_areSo 27 = .ok (.aload_n 0, 1) := by decide +kernel
theorem dX5_areSo_28 : decode cX5_areSo 28 = .ok (.getfield 108, 3) := by decide +kernel
theorem dX5_areSo_31 : decode cX5_areSo 31 = .ok (.if_icmp .ge 29, 3) := by decide +kernel
theorem dX5_areSo_34 : decode cX5_areSo 34 = .ok (.iload_n 2, 1) := by decide +kernel
theorem dX5_areSo_35 : decode cX5_areSo 35 = .ok (.ifCond .eq 17, 3) := by decide +kernel
theorem dX5_areSo_38 : decode cX5_areSo 38 = .ok (.aload_n 0, 1) := by decide +kernel
theorem dX5_areSo_39 : decode cX5_areSo 39 = .ok (.getfield 58, 3) := by decide +kernel
theorem dX5_areSo_42 : decode cX5_areSo 42 = .ok (.iload_n 3, 1) := by decide +kernel
theorem dX5_areSo_43 : decode cX5_areSo 43 = .ok (.iaload, 1) := by decide +kernel
theorem dX5_areSo_44 : decode cX5_areSo 44 = .ok (.iload_n 1, 1) := by decide +kernel
theorem dX5_areSo_45 : decode cX5_areSo 45 = .ok (.if_icmp .ne 7, 3) := by decide +kernel
theorem dX5_areSo_48 : decode cX5_areSo 48 = .ok (.iconst 1, 1) := by decide +kernel
theorem dX5_areSo_49 : decode cX5_areSo 49 = .ok (.goto 4, 3) := by decide +kernel
theorem dX5_areSo_52 : decode cX5_areSo 52 = .ok (.iconst 0, 1) := by decide +kernel
theorem dX5_areSo_53 : decode cX5_areSo 53 = .ok (.istore_n 2, 1) := by decide +kernel
theorem dX5_areSo_54 : decode cX5_areSo 54 = .ok (.iinc 3 1, 3) := by decide +kernel
theorem dX5_areSo_57 : decode cX5_areSo 57 = .ok (.goto (-31), 3) := by decide +kernel
theorem dX5_areSo_60 : decode cX5_areSo 60 = .ok (.iload_n 2, 1) := by decide +kernel
theorem dX5_areSo_61 : decode cX5_areSo 61 = .ok (.ireturn, 1) := by decide +kernel
theorem dX5_kinds_0 : decode cX5_kinds 0 = .ok (.aload_n 0, 1) := by decide +kernel
theorem dX5_kinds_1 : decode cX5_kinds 1 = .ok (.iload_n 1, 1) := by decide +kernel
theorem dX5_kinds_2 : decode cX5_kinds 2 = .ok (.invokevirtual 156, 3) := by decide +kernel
theorem dX5_kinds_5 : decode cX5_kinds 5 = .ok (.ifCond .ne 5, 3) := by decide +kernel
theorem dX5_kinds_8 : decode cX5_kinds 8 = .ok (.iconst (-1), 1) := by decide +kernel
theorem dX5_kinds_9 : decode cX5_kinds 9 = .ok (.ireturn, 1) := by decide +kernel
theorem dX5_kinds_10 : decode cX5_kinds 10 = .ok (.aload_n 0, 1) := by decide +kernel
theorem dX5_kinds_11 : decode cX5_kinds 11 = .ok (.getfield 28, 3) := by decide +kernel
theorem dX5_kinds_14 : decode cX5_kinds 14 = .ok (.iload_n 1, 1) := by decide +kernel
theorem dX5_kinds_15 : decode cX5_kinds 15 = .ok (.iaload, 1) := by decide +kernel
theorem dX5_kinds_16 : decode cX5_kinds 16 = .ok (.istore_n 2, 1) := by decide +kernel
theorem dX5_kinds_17 : decode cX5_kinds 17 = .ok (.iconst 0, 1) := by decide +kernel
theorem dX5_kinds_18 : decode cX5_kinds 18 = .ok (.istore_n 3, 1) := by decide +kernel
theorem dX5_kinds_19 : decode cX5_kinds 19 = .ok (.iconst 0, 1) := by decide +kernel
theorem dX5_kinds_20 : decode cX5_kinds 20 = .ok (.istore 4, 2) := by decide +kernel
theorem dX5_kinds_22 : decode cX5_kinds 22 = .ok (.iload 4, 2) := by decide +kernel
theorem dX5_kinds_24 : decode cX5_kinds 24 = .ok (.iconst 3, 1) := by decide +kernel
theorem dX5_kinds_25 : decode cX5_kinds 25 = .ok (.if_icmp .ge 35, 3) := by decide +kernel
theorem dX5_kinds_28 : decode cX5_kinds 28 = .ok (.aload_n 0, 1) := by decide +kernel
theorem dX5_kinds_29 : decode cX5_kinds 29 = .ok (.getfield 28, 3) := by decide +kernel
theorem dX5_kinds_32 : decode cX5_kinds 32 = .ok (.iload_n 1, 1) := by decide +kernel
theorem dX5_kinds_33 : decode cX5_kinds 33 = .ok (.iload 4, 2) := by decide +kernel
theorem dX5_kinds_35 : decode cX5_kinds 35 = .ok (.iastore, 1) := by decide +kernel
theorem dX5_kinds_36 : decode cX5_kinds 36 = .ok (.iload_n 3, 1) := by decide +kernel
theorem dX5_kinds_37 : decode cX5_kinds 37 = .ok (.aload_n 0, 1) := by decide +kernel
theorem dX5_kinds_38 : decode cX5_kinds 38 = .ok (.invokevirtual 236, 3) := by decide +kernel
theorem dX5_kinds_41 : decode cX5_kinds 41 = .ok (.ifCond .eq 10, 3) := by decide +kernel
theorem dX5_kinds_44 : decode cX5_kinds 44 = .ok (.iconst 1, 1) := by decide +kernel
theorem dX5_kinds_45 : decode cX5_kinds 45 = .ok (.iload 4, 2) := by decide +kernel
theorem dX5_kinds_47 : decode cX5_kinds 47 = .ok (.ishl, 1) := by decide +kernel
theorem dX5_kinds_48 : decode cX5_kinds 48 = .ok (.goto 4, 3) := by decide +kernel
theorem dX5_kinds_51 : decode cX5_kinds 51 = .ok (.iconst 0, 1) := by decide +kernel
theorem dX5_kinds_52 : decode cX5_kinds 52 = .ok (.ior, 1) := by decide +kernel
theorem dX5_kinds_53 : decode cX5_kinds 53 = .ok (.istore_n 3, 1) := by decide +kernel
theorem dX5_kinds_54 : decode cX5_kinds 54 = .ok (.iinc 4 1, 3) := by decide +kernel
theorem dX5_kinds_57 : decode cX5_kinds 57 = .ok (.goto (-35), 3) := by decide +kernel
theorem dX5_kinds_60 : decode cX5_kinds 60 = .ok (.aload_n 0, 1) := by decide +kernel
theorem dX5_kinds_61 : decode cX5_kinds 61 = .ok (.getfield 28, 3) := by decide +kernel
theorem dX5_kinds_64 : decode cX5_kinds 64 = .ok (.iload_n 1, 1) := by decide +kernel
theorem dX5_kinds_65 : decode cX5_kinds 65 = .ok (.iload_n 2, 1) := by decide +kernel
theorem dX5_kinds_66 : decode cX5_kinds 66 = .ok (.iastore, 1) := by decide +kernel
theorem dX5_kinds_67 : decode cX5_kinds 67 = .ok (.iload_n 3, 1) := by decide +kernel
theorem dX5_kinds_68 : decode cX5_kinds 68 = .ok (.ireturn, 1) := by decide +kernel
theorem dX5_ways_0 : decode cX5_ways 0 = .ok (.aload_n 0, 1) := by decide +kernel
theorem dX5_ways_1 : decode cX5_ways 1 = .ok (.iload_n 1, 1) := by decide +kernel
theorem dX5_ways_2 : decode cX5_ways 2 = .ok (.invokevirtual 153, 3) := by decide +kernel
theorem dX5_ways_5 : decode cX5_ways 5 = .ok (.ifCond .ne 5, 3) := by decide +kernel
theorem dX5_ways_8 : decode cX5_ways 8 = .ok (.iconst (-1), 1) := by decide +kernel
theorem dX5_ways_9 : decode cX5_ways 9 = .ok (.ireturn, 1) := by decide +kernel
theorem dX5_ways_10 : decode cX5_ways 10 = .ok (.aload_n 0, 1) := by decide +kernel
theorem dX5_ways_11 : decode cX5_ways 11 = .ok (.getfield 19, 3) := by decide +kernel
theorem dX5_ways_14 : decode cX5_ways 14 = .ok (.iload_n 1, 1) := by decide +kernel
theorem dX5_ways_15 : decode cX5_ways 15 = .ok (.iaload, 1) := by decide +kernel
theorem dX5_ways_16 : decode cX5_ways 16 = .ok (.istore_n 2, 1) := by decide +kernel
theorem dX5_ways_17 : decode cX5_ways 17 = .ok (.iconst 0, 1) := by decide +kernel
theorem dX5_ways_18 : decode cX5_ways 18 = .ok (.istore_n 3, 1) := by decide +kernel
theorem dX5_ways_19 : decode cX5_ways 19 = .ok (.iconst 0, 1) := by decide +kernel
theorem dX5_ways_20 : decode cX5_ways 20 = .ok (.istore 4, 2) := by decide +kernel
theorem dX5_ways_22 : decode cX5_ways 22 = .ok (.iload 4, 2) := by decide +kernel
theorem dX5_ways_24 : decode cX5_ways 24 = .ok (.iconst 5, 1) := by decide +kernel
theorem dX5_ways_25 : decode cX5_ways 25 = .ok (.if_icmp .ge 35, 3) := by decide +kernel
theorem dX5_ways_28 : decode cX5_ways 28 = .ok (.aload_n 0, 1) := by decide +kernel
theorem dX5_ways_29 : decode cX5_ways 29 = .ok (.getfield 19, 3) := by decide +kernel
theorem dX5_ways_32 : decode cX5_ways 32 = .ok (.iload_n 1, 1) := by decide +kernel
theorem dX5_ways_33 : decode cX5_ways 33 = .ok (.iload 4, 2) := by decide +kernel
theorem dX5_ways_35 : decode cX5_ways 35 = .ok (.iastore, 1) := by decide +kernel
theorem dX5_ways_36 : decode cX5_ways 36 = .ok (.iload_n 3, 1) := by decide +kernel
theorem dX5_ways_37 : decode cX5_ways 37 = .ok (.aload_n 0, 1) := by decide +kernel
theorem dX5_ways_38 : decode cX5_ways 38 = .ok (.invokevirtual 236, 3) := by decide +kernel
theorem dX5_ways_41 : decode cX5_ways 41 = .ok (.ifCond .eq 10, 3) := by decide +kernel
theorem dX5_ways_44 : decode cX5_ways 44 = .ok (.iconst 1, 1) := by decide +kernel
theorem dX5_ways_45 : decode cX5_ways 45 = .ok (.iload 4, 2) := by decide +kernel
theorem dX5_ways_47 : decode cX5_ways 47 = .ok (.ishl, 1) := by decide +kernel
theorem dX5_ways_48 : decode cX5_ways 48 = .ok (.goto 4, 3) := by decide +kernel
theorem dX5_ways_51 : decode cX5_ways 51 = .ok (.iconst 0, 1) := by decide +kernel
theorem dX5_ways_52 : decode cX5_ways 52 = .ok (.ior, 1) := by decide +kernel
theorem dX5_ways_53 : decode cX5_ways 53 = .ok (.istore_n 3, 1) := by decide +kernel
theorem dX5_ways_54 : decode cX5_ways 54 = .ok (.iinc 4 1, 3) := by decide +kernel
theorem dX5_ways_57 : decode cX5_ways 57 = .ok (.goto (-35), 3) := by decide +kernel
theorem dX5_ways_60 : decode cX5_ways 60 = .ok (.aload_n 0, 1) := by decide +kernel
theorem dX5_ways_61 : decode cX5_ways 61 = .ok (.getfield 19, 3) := by decide +kernel
theorem dX5_ways_64 : decode cX5_ways 64 = .ok (.iload_n 1, 1) := by decide +kernel
theorem dX5_ways_65 : decode cX5_ways 65 = .ok (.iload_n 2, 1) := by decide +kernel
theorem dX5_ways_66 : decode cX5_ways 66 = .ok (.iastore, 1) := by decide +kernel
theorem dX5_ways_67 : decode cX5_ways 67 = .ok (.iload_n 3, 1) := by decide +kernel
theorem dX5_ways_68 : decode cX5_ways 68 = .ok (.ireturn, 1) := by decide +kernel
theorem dX5_odds_0 : decode cX5_odds 0 = .ok (.aload_n 0, 1) := by decide +kernel
theorem dX5_odds_1 : decode cX5_odds 1 = .ok (.iload_n 1, 1) := by decide +kernel
theorem dX5_odds_2 : decode cX5_odds 2 = .ok (.invokevirtual 171, 3) := by decide +kernel
theorem dX5_odds_5 : decode cX5_odds 5 = .ok (.ifCond .eq 28, 3) := by decide +kernel
theorem dX5_odds_8 : decode cX5_odds 8 = .ok (.iload_n 2, 1) := by decide +kernel
theorem dX5_odds_9 : decode cX5_odds 9 = .ok (.iconst 0, 1) := by decide +kernel
theorem dX5_odds_10 : decode cX5_odds 10 = .ok (.iconst 1, 1) := by decide +kernel
theorem dX5_odds_11 : decode cX5_odds 11 = .ok (.invokestatic 67, 3) := by decide +kernel
theorem dX5_odds_14 : decode cX5_odds 14 = .ok (.ifCond .eq 19, 3) := by decide +kernel
theorem dX5_odds_17 : decode cX5_odds 17 = .ok (.aload_n 0, 1) := by decide +kernel
theorem dX5_odds_18 : decode cX5_odds 18 = .ok (.iload_n 1, 1) := by decide +kernel
theorem dX5_odds_19 : decode cX5_odds 19 = .ok (.invokevirtual 147, 3) := by decide +kernel
theorem dX5_odds_22 : decode cX5_odds 22 = .ok (.i2l, 1) := by decide +kernel
theorem dX5_odds_23 : decode cX5_odds 23 = .ok (.ldc2_w 240, 3) := by decide +kernel
theorem dX5_odds_26 : decode cX5_odds 26 = .ok (.iload_n 2, 1) := by decide +kernel
theorem dX5_odds_27 : decode cX5_odds 27 = .ok (.invokestatic 232, 3) := by decide +kernel
theorem dX5_odds_30 : decode cX5_odds 30 = .ok (.goto 6, 3) := by decide +kernel
theorem dX5_odds_33 : decode cX5_odds 33 = .ok (.ldc2_w 65, 3) := by decide +kernel
theorem dX5_odds_36 : decode cX5_odds 36 = .ok (.lreturn, 1) := by decide +kernel
theorem dX5_sheet_0 : decode cX5_sheet 0 = .ok (.aload_n 0, 1) := by decide +kernel
theorem dX5_sheet_1 : decode cX5_sheet 1 = .ok (.iconst 0, 1) := by decide +kernel
theorem dX5_sheet_2 : decode cX5_sheet 2 = .ok (.putfield 61, 3) := by decide +kernel
theorem dX5_sheet_5 : decode cX5_sheet 5 = .ok (.iload_n 1, 1) := by decide +kernel
theorem dX5_sheet_6 : decode cX5_sheet 6 = .ok (.invokestatic 84, 3) := by decide +kernel
theorem dX5_sheet_9 : decode cX5_sheet 9 = .ok (.ifCond .ne 5, 3) := by decide +kernel
theorem dX5_sheet_12 : decode cX5_sheet 12 = .ok (.iconst (-1), 1) := by decide +kernel
theorem dX5_sheet_13 : decode cX5_sheet 13 = .ok (.ireturn, 1) := by decide +kernel
theorem dX5_sheet_14 : decode cX5_sheet 14 = .ok (.iload_n 2, 1) := by decide +kernel
theorem dX5_sheet_15 : decode cX5_sheet 15 = .ok (.invokestatic 88, 3) := by decide +kernel
theorem dX5_sheet_18 : decode cX5_sheet 18 = .ok (.ifCond .eq 9, 3) := by decide +kernel
theorem dX5_sheet_21 : decode cX5_sheet 21 = .ok (.iload_n 3, 1) := by decide +kernel
theorem dX5_sheet_22 : decode cX5_sheet 22 = .ok (.bipush 60, 2) := by decide +kernel
theorem dX5_sheet_24 : decode cX5_sheet 24 = .ok (.if_icmp .le 6, 3) := by decide +kernel
theorem dX5_sheet_27 : decode cX5_sheet 27 = .ok (.bipush (-2), 2) := by decide +kernel
theorem dX5_sheet_29 : decode cX5_sheet 29 = .ok (.ireturn, 1) := by decide +kernel
theorem dX5_sheet_30 : decode cX5_sheet 30 = .ok (.iload_n 3, 1) := by decide +kernel
theorem dX5_sheet_31 : decode cX5_sheet 31 = .ok (.ifCond .ge 9, 3) := by decide +kernel
theorem dX5_sheet_34 : decode cX5_sheet 34 = .ok (.aload_n 0, 1) := by decide +kernel
theorem dX5_sheet_35 : decode cX5_sheet 35 = .ok (.iconst 4, 1) := by decide +kernel
theorem dX5_sheet_36 : decode cX5_sheet 36 = .ok (.invokevirtual 95, 3) := by decide +kernel
theorem dX5_sheet_39 : decode cX5_sheet 39 = .ok (.ireturn, 1) := by decide +kernel
theorem dX5_sheet_40 : decode cX5_sheet 40 = .ok (.aload_n 0, 1) := by decide +kernel
theorem dX5_sheet_41 : decode cX5_sheet 41 = .ok (.getfield 9, 3) := by decide +kernel
theorem dX5_sheet_44 : decode cX5_sheet 44 = .ok (.iload_n 1, 1) := by decide +kernel
theorem dX5_sheet_45 : decode cX5_sheet 45 = .ok (.iload_n 2, 1) := by decide +kernel
theorem dX5_sheet_46 : decode cX5_sheet 46 = .ok (.iastore, 1) := by decide +kernel
theorem dX5_sheet_47 : decode cX5_sheet 47 = .ok (.aload_n 0, 1) := by decide +kernel
theorem dX5_sheet_48 : decode cX5_sheet 48 = .ok (.getfield 13, 3) := by decide +kernel
theorem dX5_sheet_51 : decode cX5_sheet 51 = .ok (.iload_n 1, 1) := by decide +kernel
theorem dX5_sheet_52 : decode cX5_sheet 52 = .ok (.iload_n 3, 1) := by decide +kernel
theorem dX5_sheet_53 : decode cX5_sheet 53 = .ok (.iastore, 1) := by decide +kernel
theorem dX5_sheet_54 : decode cX5_sheet 54 = .ok (.iconst 0, 1) := by decide +kernel
theorem dX5_sheet_55 : decode cX5_sheet 55 = .ok (.istore 4, 2) := by decide +kernel
theorem dX5_sheet_57 : decode cX5_sheet 57 = .ok (.iload 4, 2) := by decide +kernel
theorem dX5_sheet_59 : decode cX5_sheet 59 = .ok (.bipush 60, 2) := by decide +kernel
theorem dX5_sheet_61 : decode cX5_sheet 61 = .ok (.if_icmp .ge 22, 3) := by decide +kernel
theorem dX5_sheet_64 : decode cX5_sheet 64 = .ok (.aload_n 0, 1) := by decide +kernel
theorem dX5_sheet_65 : decode cX5_sheet 65 = .ok (.getfield 16, 3) := by decide +kernel
theorem dX5_sheet_68 : decode cX5_sheet 68 = .ok (.bipush 60, 2) := by decide +kernel
theorem dX5_sheet_70 : decode cX5_sheet 70 = .ok (.iload_n 1, 1) := by decide +kernel
theorem dX5_sheet_71 : decode cX5_sheet 71 = .ok (.imul, 1) := by decide +kernel
theorem dX5_sheet_72 : decode cX5_sheet 72 = .ok (.iload 4, 2) := by decide +kernel
theorem dX5_sheet_74 : decode cX5_sheet 74 = .ok (.iadd, 1) := by decide +kernel
theorem dX5_sheet_75 : decode cX5_sheet 75 = .ok (.iconst 0, 1) := by decide +kernel
theorem dX5_sheet_76 : decode cX5_sheet 76 = .ok (.iastore, 1) := by decide +kernel
theorem dX5_sheet_77 : decode cX5_sheet 77 = .ok (.iinc 4 1, 3) := by decide +kernel
theorem dX5_sheet_80 : decode cX5_sheet 80 = .ok (.goto (-23), 3) := by decide +kernel
theorem dX5_sheet_83 : decode cX5_sheet 83 = .ok (.iconst 1, 1) := by decide +kernel
theorem dX5_sheet_84 : decode cX5_sheet 84 = .ok (.ireturn, 1) := by decide +kernel
theorem dX5_lose_0 : decode cX5_lose 0 = .ok (.iload_n 1, 1) := by decide +kernel
theorem dX5_lose_1 : decode cX5_lose 1 = .ok (.invokestatic 84, 3) := by decide +kernel
theorem dX5_lose_4 : decode cX5_lose 4 = .ok (.ifCond .ne 5, 3) := by decide +kernel
theorem dX5_lose_7 : decode cX5_lose 7 = .ok (.iconst (-1), 1) := by decide +kernel
theorem dX5_lose_8 : decode cX5_lose 8 = .ok (.ireturn, 1) := by decide +kernel
theorem dX5_lose_9 : decode cX5_lose 9 = .ok (.aload_n 0, 1) := by decide +kernel
theorem dX5_lose_10 : decode cX5_lose 10 = .ok (.getfield 9, 3) := by decide +kernel
theorem dX5_lose_13 : decode cX5_lose 13 = .ok (.iload_n 1, 1) := by decide +kernel
theorem dX5_lose_14 : decode cX5_lose 14 = .ok (.iaload, 1) := by decide +kernel
theorem dX5_lose_15 : decode cX5_lose 15 = .ok (.bipush (-9), 2) := by decide +kernel
theorem dX5_lose_17 : decode cX5_lose 17 = .ok (.if_icmp .ne 7, 3) := by decide +kernel
theorem dX5_lose_20 : decode cX5_lose 20 = .ok (.iconst 0, 1) := by decide +kernel
theorem dX5_lose_21 : decode cX5_lose 21 = .ok (.goto 4, 3) := by decide +kernel
theorem dX5_lose_24 : decode cX5_lose 24 = .ok (.iconst 1, 1) := by decide +kernel
theorem dX5_lose_25 : decode cX5_lose 25 = .ok (.istore_n 2, 1) := by decide +kernel
theorem dX5_lose_26 : decode cX5_lose 26 = .ok (.aload_n 0, 1) := by decide +kernel
theorem dX5_lose_27 : decode cX5_lose 27 = .ok (.getfield 9, 3) := by decide +kernel
theorem dX5_lose_30 : decode cX5_lose 30 = .ok (.iload_n 1, 1) := by decide +kernel
theorem dX5_lose_31 : decode cX5_lose 31 = .ok (.bipush (-9), 2) := by decide +kernel
theorem dX5_lose_33 : decode cX5_lose 33 = .ok (.iastore, 1) := by decide +kernel
theorem dX5_lose_34 : decode cX5_lose 34 = .ok (.iload_n 2, 1) := by decide +kernel
theorem dX5_lose_35 : decode cX5_lose 35 = .ok (.ireturn, 1) := by decide +kernel
theorem dX5_put_0 : decode cX5_put 0 = .ok (.aload_n 0, 1) := by decide +kernel
theorem dX5_put_1 : decode cX5_put 1 = .ok (.iconst 0, 1) := by decide +kernel
theorem dX5_put_2 : decode cX5_put 2 = .ok (.putfield 61, 3) := by decide +kernel
theorem dX5_put_5 : decode cX5_put 5 = .ok (.iload_n 1, 1) := by decide +kernel
theorem dX5_put_6 : decode cX5_put 6 = .ok (.invokestatic 84, 3) := by decide +kernel
theorem dX5_put_9 : decode cX5_put 9 = .ok (.ifCond .ne 5, 3) := by decide +kernel
theorem dX5_put_12 : decode cX5_put 12 = .ok (.iconst (-1), 1) := by decide +kernel
theorem dX5_put_13 : decode cX5_put 13 = .ok (.ireturn, 1) := by decide +kernel
theorem dX5_put_14 : decode cX5_put 14 = .ok (.aload_n 0, 1) := by decide +kernel
theorem dX5_put_15 : decode cX5_put 15 = .ok (.getfield 9, 3) := by decide +kernel
theorem dX5_put_18 : decode cX5_put 18 = .ok (.iload_n 1, 1) := by decide +kernel
theorem dX5_put_19 : decode cX5_put 19 = .ok (.iaload, 1) := by decide +kernel
theorem dX5_put_20 : decode cX5_put 20 = .ok (.bipush (-9), 2) := by decide +kernel
theorem dX5_put_22 : decode cX5_put 22 = .ok (.if_icmp .ne 9, 3) := by decide +kernel
theorem dX5_put_25 : decode cX5_put 25 = .ok (.aload_n 0, 1) := by decide +kernel
theorem dX5_put_26 : decode cX5_put 26 = .ok (.iconst 1, 1) := by decide +kernel
theorem dX5_put_27 : decode cX5_put 27 = .ok (.invokevirtual 95, 3) := by decide +kernel
theorem dX5_put_30 : decode cX5_put 30 = .ok (.ireturn, 1) := by decide +kernel
theorem dX5_put_31 : decode cX5_put 31 = .ok (.iload_n 2, 1) := by decide +kernel
theorem dX5_put_32 : decode cX5_put 32 = .ok (.iconst 0, 1) := by decide +kernel
theorem dX5_put_33 : decode cX5_put 33 = .ok (.aload_n 0, 1) := by decide +kernel
theorem dX5_put_34 : decode cX5_put 34 = .ok (.getfield 13, 3) := by decide +kernel
theorem dX5_put_37 : decode cX5_put 37 = .ok (.iload_n 1, 1) := by decide +kernel
theorem dX5_put_38 : decode cX5_put 38 = .ok (.iaload, 1) := by decide +kernel
theorem dX5_put_39 : decode cX5_put 39 = .ok (.iconst 1, 1) := by decide +kernel
theorem dX5_put_40 : decode cX5_put 40 = .ok (.isub, 1) := by decide +kernel
theorem dX5_put_41 : decode cX5_put 41 = .ok (.invokestatic 67, 3) := by decide +kernel
theorem dX5_put_44 : decode cX5_put 44 = .ok (.ifCond .ne 9, 3) := by decide +kernel
theorem dX5_put_47 : decode cX5_put 47 = .ok (.aload_n 0, 1) := by decide +kernel
theorem dX5_put_48 : decode cX5_put 48 = .ok (.iconst 3, 1) := by decide +kernel
theorem dX5_put_49 : decode cX5_put 49 = .ok (.invokevirtual 95, 3) := by decide +kernel
theorem dX5_put_52 : decode cX5_put 52 = .ok (.ireturn, 1) := by decide +kernel
theorem dX5_put_53 : decode cX5_put 53 = .ok (.aload_n 0, 1) := by decide +kernel
theorem dX5_put_54 : decode cX5_put 54 = .ok (.getfield 16, 3) := by decide +kernel
theorem dX5_put_57 : decode cX5_put 57 = .ok (.bipush 60, 2) := by decide +kernel
theorem dX5_put_59 : decode cX5_put 59 = .ok (.iload_n 1, 1) := by decide +kernel
theorem dX5_put_60 : decode cX5_put 60 = .ok (.imul, 1) := by decide +kernel
theorem dX5_put_61 : decode cX5_put 61 = .ok (.iload_n 2, 1) := by decide +kernel
theorem dX5_put_62 : decode cX5_put 62 = .ok (.iadd, 1) := by decide +kernel
theorem dX5_put_63 : decode cX5_put 63 = .ok (.aload_n 0, 1) := by decide +kernel
theorem dX5_put_64 : decode cX5_put 64 = .ok (.getfield 9, 3) := by decide +kernel
theorem dX5_put_67 : decode cX5_put 67 = .ok (.iload_n 1, 1) := by decide +kernel
theorem dX5_put_68 : decode cX5_put 68 = .ok (.iaload, 1) := by decide +kernel
theorem dX5_put_69 : decode cX5_put 69 = .ok (.ifCond .ne 8, 3) := by decide +kernel
theorem dX5_put_72 : decode cX5_put 72 = .ok (.iload_n 3, 1) := by decide +kernel
theorem dX5_put_73 : decode cX5_put 73 = .ok (.i2b, 1) := by decide +kernel
theorem dX5_put_74 : decode cX5_put 74 = .ok (.goto 19, 3) := by decide +kernel
theorem dX5_put_77 : decode cX5_put 77 = .ok (.aload_n 0, 1) := by decide +kernel
theorem dX5_put_78 : decode cX5_put 78 = .ok (.getfield 9, 3) := by decide +kernel
theorem dX5_put_81 : decode cX5_put 81 = .ok (.iload_n 1, 1) := by decide +kernel
theorem dX5_put_82 : decode cX5_put 82 = .ok (.iaload, 1) := by decide +kernel
theorem dX5_put_83 : decode cX5_put 83 = .ok (.iconst 1, 1) := by decide +kernel
theorem dX5_put_84 : decode cX5_put 84 = .ok (.if_icmp .ne 8, 3) := by decide +kernel
theorem dX5_put_87 : decode cX5_put 87 = .ok (.iload_n 3, 1) := by decide +kernel
theorem dX5_put_88 : decode cX5_put 88 = .ok (.i2s, 1) := by decide +kernel
theorem dX5_put_89 : decode cX5_put 89 = .ok (.goto 4, 3) := by decide +kernel
theorem dX5_put_92 : decode cX5_put 92 = .ok (.iload_n 3, 1) := by decide +kernel
theorem dX5_put_93 : decode cX5_put 93 = .ok (.iastore, 1) := by decide +kernel
theorem dX5_put_94 : decode cX5_put 94 = .ok (.iconst 1, 1) := by decide +kernel
theorem dX5_put_95 : decode cX5_put 95 = .ok (.ireturn, 1) := by decide +kernel
theorem dX5_cell_0 : decode cX5_cell 0 = .ok (.aload_n 0, 1) := by decide +kernel
theorem dX5_cell_1 : decode cX5_cell 1 = .ok (.iconst 0, 1) := by decide +kernel
theorem dX5_cell_2 : decode cX5_cell 2 = .ok (.putfield 61, 3) := by decide +kernel
theorem dX5_cell_5 : decode cX5_cell 5 = .ok (.iload_n 1, 1) := by decide +kernel
theorem dX5_cell_6 : decode cX5_cell 6 = .ok (.invokestatic 84, 3) := by decide +kernel
theorem dX5_cell_9 : decode cX5_cell 9 = .ok (.ifCond .eq 10, 3) := by decide +kernel
theorem dX5_cell_12 : decode cX5_cell 12 = .ok (.iload_n 3, 1) := by decide +kernel
theorem dX5_cell_13 : decode cX5_cell 13 = .ok (.invokestatic 88, 3) := by decide +kernel
theorem dX5_cell_16 : decode cX5_cell 16 = .ok (.ifCond .ne 7, 3) := by decide +kernel
theorem dX5_cell_19 : decode cX5_cell 19 = .ok (.ldc2_w 65, 3) := by decide +kernel
theorem dX5_cell_22 : decode cX5_cell 22 = .ok (.lreturn, 1) := by decide +kernel
theorem dX5_cell_23 : decode cX5_cell 23 = .ok (.aload_n 0, 1) := by decide +kernel
theorem dX5_cell_24 : decode cX5_cell 24 = .ok (.getfield 9, 3) := by decide +kernel
theorem dX5_cell_27 : decode cX5_cell 27 = .ok (.iload_n 1, 1) := by decide +kernel
theorem dX5_cell_28 : decode cX5_cell 28 = .ok (.iaload, 1) := by decide +kernel
theorem dX5_cell_29 : decode cX5_cell 29 = .ok (.bipush (-9), 2) := by decide +kernel
theorem dX5_cell_31 : decode cX5_cell 31 = .ok (.if_icmp .eq 19, 3) := by decide +kernel
theorem dX5_cell_34 : decode cX5_cell 34 = .ok (.aload_n 0, 1) := by decide +kernel
theorem dX5_cell_35 : decode cX5_cell 35 = .ok (.getfield 9, 3) := by decide +kernel
theorem dX5_cell_38 : decode cX5_cell 38 = .ok (.iload_n 1, 1) := by decide +kernel
theorem dX5_cell_39 : decode cX5_cell 39 = .ok (.iaload, 1) := by decide +kernel
theorem dX5_cell_40 : decode cX5_cell 40 = .ok (.iload_n 3, 1) := by decide +kernel
theorem dX5_cell_41 : decode cX5_cell 41 = .ok (.if_icmp .eq 9, 3) := by decide +kernel
theorem dX5_cell_44 : decode cX5_cell 44 = .ok (.aload_n 0, 1) := by decide +kernel
theorem dX5_cell_45 : decode cX5_cell 45 = .ok (.iconst 2, 1) := by decide +kernel
theorem dX5_cell_46 : decode cX5_cell 46 = .ok (.invokevirtual 242, 3) := by decide +kernel
theorem dX5_cell_49 : decode cX5_cell 49 = .ok (.lreturn, 1) := by decide +kernel
theorem dX5_cell_50 : decode cX5_cell 50 = .ok (.aload_n 0, 1) := by decide +kernel
theorem dX5_cell_51 : decode cX5_cell 51 = .ok (.getfield 9, 3) := by decide +kernel
theorem dX5_cell_54 : decode cX5_cell 54 = .ok (.iload_n 1, 1) := by decide +kernel
theorem dX5_cell_55 : decode cX5_cell 55 = .ok (.iaload, 1) := by decide +kernel
theorem dX5_cell_56 : decode cX5_cell 56 = .ok (.bipush (-9), 2) := by decide +kernel
theorem dX5_cell_58 : decode cX5_cell 58 = .ok (.if_icmp .ne 9, 3) := by decide +kernel
theorem dX5_cell_61 : decode cX5_cell 61 = .ok (.aload_n 0, 1) := by decide +kernel
theorem dX5_cell_62 : decode cX5_cell 62 = .ok (.iconst 1, 1) := by decide +kernel
theorem dX5_cell_63 : decode cX5_cell 63 = .ok (.invokevirtual 242, 3) := by decide +kernel
theorem dX5_cell_66 : decode cX5_cell 66 = .ok (.lreturn, 1) := by decide +kernel
theorem dX5_cell_67 : decode cX5_cell 67 = .ok (.iload_n 2, 1) := by decide +kernel
theorem dX5_cell_68 : decode cX5_cell 68 = .ok (.iconst 0, 1) := by decide +kernel
theorem dX5_cell_69 : decode cX5_cell 69 = .ok (.aload_n 0, 1) := by decide +kernel
theorem dX5_cell_70 : decode cX5_cell 70 = .ok (.getfield 13, 3) := by decide +kernel
theorem dX5_cell_73 : decode cX5_cell 73 = .ok (.iload_n 1, 1) := by decide +kernel
theorem dX5_cell_74 : decode cX5_cell 74 = .ok (.iaload, 1) := by decide +kernel
theorem dX5_cell_75 : decode cX5_cell 75 = .ok (.iconst 1, 1) := by decide +kernel
theorem dX5_cell_76 : decode cX5_cell 76 = .ok (.isub, 1) := by decide +kernel
theorem dX5_cell_77 : decode cX5_cell 77 = .ok (.invokestatic 67, 3) := by decide +kernel
theorem dX5_cell_80 : decode cX5_cell 80 = .ok (.ifCond .ne 9, 3) := by decide +kernel
theorem dX5_cell_83 : decode cX5_cell 83 = .ok (.aload_n 0, 1) := by decide +kernel
theorem dX5_cell_84 : decode cX5_cell 84 = .ok (.iconst 3, 1) := by decide +kernel
theorem dX5_cell_85 : decode cX5_cell 85 = .ok (.invokevirtual 242, 3) := by decide +kernel
theorem dX5_cell_88 : decode cX5_cell 88 = .ok (.lreturn, 1) := by decide +kernel
theorem dX5_cell_89 : decode cX5_cell 89 = .ok (.aload_n 0, 1) := by decide +kernel
theorem dX5_cell_90 : decode cX5_cell 90 = .ok (.getfield 16, 3) := by decide +kernel
theorem dX5_cell_93 : decode cX5_cell 93 = .ok (.bipush 60, 2) := by decide +kernel
theorem dX5_cell_95 : decode cX5_cell 95 = .ok (.iload_n 1, 1) := by decide +kernel
theorem dX5_cell_96 : decode cX5_cell 96 = .ok (.imul, 1) := by decide +kernel
theorem dX5_cell_97 : decode cX5_cell 97 = .ok (.iload_n 2, 1) := by decide +kernel
theorem dX5_cell_98 : decode cX5_cell 98 = .ok (.iadd, 1) := by decide +kernel
theorem dX5_cell_99 : decode cX5_cell 99 = .ok (.iaload, 1) := by decide +kernel
theorem dX5_cell_100 : decode cX5_cell 100 = .ok (.i2l, 1) := by decide +kernel
theorem dX5_cell_101 : decode cX5_cell 101 = .ok (.lreturn, 1) := by decide +kernel
theorem dX5_copy_0 : decode cX5_copy 0 = .ok (.aload_n 0, 1) := by decide +kernel
theorem dX5_copy_1 : decode cX5_copy 1 = .ok (.iconst 0, 1) := by decide +kernel
theorem dX5_copy_2 : decode cX5_copy 2 = .ok (.putfield 61, 3) := by decide +kernel
theorem dX5_copy_5 : decode cX5_copy 5 = .ok (.iload_n 1, 1) := by decide +kernel
theorem dX5_copy_6 : decode cX5_copy 6 = .ok (.invokestatic 84, 3) := by decide +kernel
theorem dX5_copy_9 : decode cX5_copy 9 = .ok (.ifCond .eq 10, 3) := by decide +kernel
theorem dX5_copy_12 : decode cX5_copy 12 = .ok (.iload_n 3, 1) := by decide +kernel
theorem dX5_copy_13 : decode cX5_copy 13 = .ok (.invokestatic 84, 3) := by decide +kernel
theorem dX5_copy_16 : decode cX5_copy 16 = .ok (.ifCond .ne 5, 3) := by decide +kernel
theorem dX5_copy_19 : decode cX5_copy 19 = .ok (.iconst (-1), 1) := by decide +kernel
theorem dX5_copy_20 : decode cX5_copy 20 = .ok (.ireturn, 1) := by decide +kernel
theorem dX5_copy_21 : decode cX5_copy 21 = .ok (.aload_n 0, 1) := by decide +kernel
theorem dX5_copy_22 : decode cX5_copy 22 = .ok (.getfield 9, 3) := by decide +kernel
theorem dX5_copy_25 : decode cX5_copy 25 = .ok (.iload_n 1, 1) := by decide +kernel
theorem dX5_copy_26 : decode cX5_copy 26 = .ok (.iaload, 1) := by decide +kernel
theorem dX5_copy_27 : decode cX5_copy 27 = .ok (.bipush (-9), 2) := by decide +kernel
theorem dX5_copy_29 : decode cX5_copy 29 = .ok (.if_icmp .eq 14, 3) := by decide +kernel
theorem dX5_copy_32 : decode cX5_copy 32 = .ok (.aload_n 0, 1) := by decide +kernel
theorem dX5_copy_33 : decode cX5_copy 33 = .ok (.getfield 9, 3) := by decide +kernel
theorem dX5_copy_36 : decode cX5_copy 36 = .ok (.iload_n 3, 1) := by decide +kernel
theorem dX5_copy_37 : decode cX5_copy 37 = .ok (.iaload, 1) := by decide +kernel
theorem dX5_copy_38 : decode cX5_copy 38 = .ok (.bipush (-9), 2) := by decide +kernel
theorem dX5_copy_40 : decode cX5_copy 40 = .ok (.if_icmp .ne 9, 3) := by decide +kernel
theorem dX5_copy_43 : decode cX5_copy 43 = .ok (.aload_n 0, 1) := by decide +kernel
theorem dX5_copy_44 : decode cX5_copy 44 = .ok (.iconst 1, 1) := by decide +kernel
theorem dX5_copy_45 : decode cX5_copy 45 = .ok (.invokevirtual 95, 3) := by decide +kernel
theorem dX5_copy_48 : decode cX5_copy 48 = .ok (.ireturn, 1) := by decide +kernel
theorem dX5_copy_49 : decode cX5_copy 49 = .ok (.aload_n 0, 1) := by decide +kernel
theorem dX5_copy_50 : decode cX5_copy 50 = .ok (.getfield 9, 3) := by decide +kernel
theorem dX5_copy_53 : decode cX5_copy 53 = .ok (.iload_n 1, 1) := by decide +kernel
theorem dX5_copy_54 : decode cX5_copy 54 = .ok (.iaload, 1) := by decide +kernel
theorem dX5_copy_55 : decode cX5_copy 55 = .ok (.aload_n 0, 1) := by decide +kernel
theorem dX5_copy_56 : decode cX5_copy 56 = .ok (.getfield 9, 3) := by decide +kernel
theorem dX5_copy_59 : decode cX5_copy 59 = .ok (.iload_n 3, 1) := by decide +kernel
theorem dX5_copy_60 : decode cX5_copy 60 = .ok (.iaload, 1) := by decide +kernel
theorem dX5_copy_61 : decode cX5_copy 61 = .ok (.if_icmp .eq 9, 3) := by decide +kernel
theorem dX5_copy_64 : decode cX5_copy 64 = .ok (.aload_n 0, 1) := by decide +kernel
theorem dX5_copy_65 : decode cX5_copy 65 = .ok (.iconst 2, 1) := by decide +kernel
theorem dX5_copy_66 : decode cX5_copy 66 = .ok (.invokevirtual 95, 3) := by decide +kernel
theorem dX5_copy_69 : decode cX5_copy 69 = .ok (.ireturn, 1) := by decide +kernel
theorem dX5_copy_70 : decode cX5_copy 70 = .ok (.iload_n 2, 1) := by decide +kernel
theorem dX5_copy_71 : decode cX5_copy 71 = .ok (.ifCond .lt 38, 3) := by decide +kernel
theorem dX5_copy_74 : decode cX5_copy 74 = .ok (.iload 4, 2) := by decide +kernel
theorem dX5_copy_76 : decode cX5_copy 76 = .ok (.ifCond .lt 33, 3) := by decide +kernel
theorem dX5_copy_79 : decode cX5_copy 79 = .ok (.iload 5, 2) := by decide +kernel
theorem dX5_copy_81 : decode cX5_copy 81 = .ok (.ifCond .lt 28, 3) := by decide +kernel
theorem dX5_copy_84 : decode cX5_copy 84 = .ok (.iload_n 2, 1) := by decide +kernel
theorem dX5_copy_85 : decode cX5_copy 85 = .ok (.aload_n 0, 1) := by decide +kernel
theorem dX5_copy_86 : decode cX5_copy 86 = .ok (.getfield 13, 3) := by decide +kernel
theorem dX5_copy_89 : decode cX5_copy 89 = .ok (.iload_n 1, 1) := by decide +kernel
theorem dX5_copy_90 : decode cX5_copy 90 = .ok (.iaload, 1) := by decide +kernel
theorem dX5_copy_91 : decode cX5_copy 91 = .ok (.if_icmp .gt 18, 3) := by decide +kernel
theorem dX5_copy_94 : decode cX5_copy 94 = .ok (.iload 4, 2) := by decide +kernel
theorem dX5_copy_96 : decode cX5_copy 96 = .ok (.aload_n 0, 1) := by decide +kernel
theorem dX5_copy_97 : decode cX5_copy 97 = .ok (.getfield 13, 3) := by decide +kernel
theorem dX5_copy_100 : decode cX5_copy 100 = .ok (.iload_n 3, 1) := by decide +kernel
theorem dX5_copy_101 : decode cX5_copy 101 = .ok (.iaload, 1) := by decide +kernel
theorem dX5_copy_102 : decode cX5_copy 102 = .ok (.if_icmp .gt 7, 3) := by decide +kernel
theorem dX5_copy_105 : decode cX5_copy 105 = .ok (.iconst 1, 1) := by decide +kernel
theorem dX5_copy_106 : decode cX5_copy 106 = .ok (.goto 4, 3) := by decide +kernel
theorem dX5_copy_109 : decode cX5_copy 109 = .ok (.iconst 0, 1) := by decide +kernel
theorem dX5_copy_110 : decode cX5_copy 110 = .ok (.istore 6, 2) := by decide +kernel
theorem dX5_copy_112 : decode cX5_copy 112 = .ok (.iload 6, 2) := by decide +kernel
theorem dX5_copy_114 : decode cX5_copy 114 = .ok (.ifCond .eq 30, 3) := by decide +kernel
theorem dX5_copy_117 : decode cX5_copy 117 = .ok (.iload 5, 2) := by decide +kernel
theorem dX5_copy_119 : decode cX5_copy 119 = .ok (.aload_n 0, 1) := by decide +kernel
theorem dX5_copy_120 : decode cX5_copy 120 = .ok (.getfield 13, 3) := by decide +kernel
theorem dX5_copy_123 : decode cX5_copy 123 = .ok (.iload_n 1, 1) := by decide +kernel
theorem dX5_copy_124 : decode cX5_copy 124 = .ok (.iaload, 1) := by decide +kernel
theorem dX5_copy_125 : decode cX5_copy 125 = .ok (.iload_n 2, 1) := by decide +kernel
theorem dX5_copy_126 : decode cX5_copy 126 = .ok (.isub, 1) := by decide +kernel
theorem dX5_copy_127 : decode cX5_copy 127 = .ok (.if_icmp .gt 17, 3) := by decide +kernel
theorem dX5_copy_130 : decode cX5_copy 130 = .ok (.iload 5, 2) := by decide +kernel
theorem dX5_copy_132 : decode cX5_copy 132 = .ok (.aload_n 0, 1) := by decide +kernel
theorem dX5_copy_133 : decode cX5_copy 133 = .ok (.getfield 13, 3) := by decide +kernel
theorem dX5_copy_136 : decode cX5_copy 136 = .ok (.iload_n 3, 1) := by decide +kernel
theorem dX5_copy_137 : decode cX5_copy 137 = .ok (.iaload, 1) := by decide +kernel
theorem dX5_copy_138 : decode cX5_copy 138 = .ok (.iload 4, 2) := by decide +kernel
theorem dX5_copy_140 : decode cX5_copy 140 = .ok (.isub, 1) := by decide +kernel
theorem dX5_copy_141 : decode cX5_copy 141 = .ok (.if_icmp .le 9, 3) := by decide +kernel
theorem dX5_copy_144 : decode cX5_copy 144 = .ok (.aload_n 0, 1) := by decide +kernel
theorem dX5_copy_145 : decode cX5_copy 145 = .ok (.iconst 3, 1) := by decide +kernel
theorem dX5_copy_146 : decode cX5_copy 146 = .ok (.invokevirtual 95, 3) := by decide +kernel
theorem dX5_copy_149 : decode cX5_copy 149 = .ok (.ireturn, 1) := by decide +kernel
theorem dX5_copy_150 : decode cX5_copy 150 = .ok (.iload_n 2, 1) := by decide +kernel
theorem dX5_copy_151 : decode cX5_copy 151 = .ok (.iload 4, 2) := by decide +kernel
theorem dX5_copy_153 : decode cX5_copy 153 = .ok (.if_icmp .ge 7, 3) := by decide +kernel
theorem dX5_copy_156 : decode cX5_copy 156 = .ok (.iconst 1, 1) := by decide +kernel
theorem dX5_copy_157 : decode cX5_copy 157 = .ok (.goto 4, 3) := by decide +kernel
theorem dX5_copy_160 : decode cX5_copy 160 = .ok (.iconst 0, 1) := by decide +kernel
theorem dX5_copy_161 : decode cX5_copy 161 = .ok (.istore 7, 2) := by decide +kernel
theorem dX5_copy_163 : decode cX5_copy 163 = .ok (.iconst 0, 1) := by decide +kernel
theorem dX5_copy_164 : decode cX5_copy 164 = .ok (.istore 8, 2) := by decide +kernel
theorem dX5_copy_166 : decode cX5_copy 166 = .ok (.iload 8, 2) := by decide +kernel
theorem dX5_copy_168 : decode cX5_copy 168 = .ok (.iload 5, 2) := by decide +kernel
theorem dX5_copy_170 : decode cX5_copy 170 = .ok (.if_icmp .ge 57, 3) := by decide +kernel
theorem dX5_copy_173 : decode cX5_copy 173 = .ok (.iload 7, 2) := by decide +kernel
theorem dX5_copy_175 : decode cX5_copy 175 = .ok (.ifCond .eq 13, 3) := by decide +kernel
theorem dX5_copy_178 : decode cX5_copy 178 = .ok (.iload 5, 2) := by decide +kernel
theorem dX5_copy_180 : decode cX5_copy 180 = .ok (.iconst 1, 1) := by decide +kernel
theorem dX5_copy_181 : decode cX5_copy 181 = .ok (.isub, 1) := by decide +kernel
theorem dX5_copy_182 : decode cX5_copy 182 = .ok (.iload 8, 2) := by decide +kernel
theorem dX5_copy_184 : decode cX5_copy 184 = .ok (.isub, 1) := by decide +kernel
theorem dX5_copy_185 : decode cX5_copy 185 = .ok (.goto 5, 3) := by decide +kernel
theorem dX5_copy_188 : decode cX5_copy 188 = .ok (.iload 8, 2) := by decide +kernel
theorem dX5_copy_190 : decode cX5_copy 190 = .ok (.istore 9, 2) := by decide +kernel
theorem dX5_copy_192 : decode cX5_copy 192 = .ok (.aload_n 0, 1) := by decide +kernel
theorem dX5_copy_193 : decode cX5_copy 193 = .ok (.getfield 16, 3) := by decide +kernel
theorem dX5_copy_196 : decode cX5_copy 196 = .ok (.bipush 60, 2) := by decide +kernel
theorem dX5_copy_198 : decode cX5_copy 198 = .ok (.iload_n 3, 1) := by decide +kernel
theorem dX5_copy_199 : decode cX5_copy 199 = .ok (.imul, 1) := by decide +kernel
theorem dX5_copy_200 : decode cX5_copy 200 = .ok (.iload 4, 2) := by decide +kernel
theorem dX5_copy_202 : decode cX5_copy 202 = .ok (.iadd, 1) := by decide +kernel
theorem dX5_copy_203 : decode cX5_copy 203 = .ok (.iload 9, 2) := by decide +kernel
theorem dX5_copy_205 : decode cX5_copy 205 = .ok (.iadd, 1) := by decide +kernel
theorem dX5_copy_206 : decode cX5_copy 206 = .ok (.aload_n 0, 1) := by decide +kernel
theorem dX5_copy_207 : decode cX5_copy 207 = .ok (.getfield 16, 3) := by decide +kernel
theorem dX5_copy_210 : decode cX5_copy 210 = .ok (.bipush 60, 2) := by decide +kernel
theorem dX5_copy_212 : decode cX5_copy 212 = .ok (.iload_n 1, 1) := by decide +kernel
theorem dX5_copy_213 : decode cX5_copy 213 = .ok (.imul, 1) := by decide +kernel
theorem dX5_copy_214 : decode cX5_copy 214 = .ok (.iload_n 2, 1) := by decide +kernel
theorem dX5_copy_215 : decode cX5_copy 215 = .ok (.iadd, 1) := by decide +kernel
theorem dX5_copy_216 : decode cX5_copy 216 = .ok (.iload 9, 2) := by decide +kernel
theorem dX5_copy_218 : decode cX5_copy 218 = .ok (.iadd, 1) := by decide +kernel
theorem dX5_copy_219 : decode cX5_copy 219 = .ok (.iaload, 1) := by decide +kernel
theorem dX5_copy_220 : decode cX5_copy 220 = .ok (.iastore, 1) := by decide +kernel
theorem dX5_copy_221 : decode cX5_copy 221 = .ok (.iinc 8 1, 3) := by decide +kernel
theorem dX5_copy_224 : decode cX5_copy 224 = .ok (.goto (-58), 3) := by decide +kernel
theorem dX5_copy_227 : decode cX5_copy 227 = .ok (.iload 5, 2) := by decide +kernel
theorem dX5_copy_229 : decode cX5_copy 229 = .ok (.ireturn, 1) := by decide +kernel
theorem dX5_begins_0 : decode cX5_begins 0 = .ok (.aload_n 0, 1) := by decide +kernel
theorem dX5_begins_1 : decode cX5_begins 1 = .ok (.bipush 31, 2) := by decide +kernel
theorem dX5_begins_3 : decode cX5_begins 3 = .ok (.aload_n 0, 1) := by decide +kernel
theorem dX5_begins_4 : decode cX5_begins 4 = .ok (.getfield 246, 3) := by decide +kernel
theorem dX5_begins_7 : decode cX5_begins 7 = .ok (.imul, 1) := by decide +kernel
theorem dX5_begins_8 : decode cX5_begins 8 = .ok (.iload_n 1, 1) := by decide +kernel
theorem dX5_begins_9 : decode cX5_begins 9 = .ok (.iadd, 1) := by decide +kernel
theorem dX5_begins_10 : decode cX5_begins 10 = .ok (.putfield 246, 3) := by decide +kernel
theorem dX5_begins_13 : decode cX5_begins 13 = .ok (.return_, 1) := by decide +kernel
theorem dX5_tell_0 : decode cX5_tell 0 = .ok (.aload_n 0, 1) := by decide +kernel
theorem dX5_tell_1 : decode cX5_tell 1 = .ok (.iload_n 1, 1) := by decide +kernel
theorem dX5_tell_2 : decode cX5_tell 2 = .ok (.invokevirtual 156, 3) := by decide +kernel
theorem dX5_tell_5 : decode cX5_tell 5 = .ok (.ifCond .ne 5, 3) := by decide +kernel
theorem dX5_tell_8 : decode cX5_tell 8 = .ok (.iconst (-1), 1) := by decide +kernel
theorem dX5_tell_9 : decode cX5_tell 9 = .ok (.ireturn, 1) := by decide +kernel
theorem dX5_tell_10 : decode cX5_tell 10 = .ok (.aload_n 0, 1) := by decide +kernel
theorem dX5_tell_11 : decode cX5_tell 11 = .ok (.getfield 31, 3) := by decide +kernel
theorem dX5_tell_14 : decode cX5_tell 14 = .ok (.iload_n 1, 1) := by decide +kernel
theorem dX5_tell_15 : decode cX5_tell 15 = .ok (.iaload, 1) := by decide +kernel
theorem dX5_tell_16 : decode cX5_tell 16 = .ok (.istore_n 2, 1) := by decide +kernel
theorem dX5_tell_17 : decode cX5_tell 17 = .ok (.aload_n 0, 1) := by decide +kernel
theorem dX5_tell_18 : decode cX5_tell 18 = .ok (.getfield 28, 3) := by decide +kernel
theorem dX5_tell_21 : decode cX5_tell 21 = .ok (.iload_n 1, 1) := by decide +kernel
theorem dX5_tell_22 : decode cX5_tell 22 = .ok (.iaload, 1) := by decide +kernel
theorem dX5_tell_23 : decode cX5_tell 23 = .ok (.lookupswitch 67 #[(1, 25), (2, 40)], 25) := by decide +kernel
theorem dX5_tell_48 : decode cX5_tell 48 = .ok (.aload_n 0, 1) := by decide +kernel
theorem dX5_tell_49 : decode cX5_tell 49 = .ok (.iconst 2, 1) := by decide +kernel
theorem dX5_tell_50 : decode cX5_tell 50 = .ok (.invokevirtual 249, 3) := by decide +kernel
theorem dX5_tell_53 : decode cX5_tell 53 = .ok (.aload_n 0, 1) := by decide +kernel
theorem dX5_tell_54 : decode cX5_tell 54 = .ok (.iconst 1, 1) := by decide +kernel
theorem dX5_tell_55 : decode cX5_tell 55 = .ok (.invokevirtual 249, 3) := by decide +kernel
theorem dX5_tell_58 : decode cX5_tell 58 = .ok (.iload_n 2, 1) := by decide +kernel
theorem dX5_tell_59 : decode cX5_tell 59 = .ok (.bipush 100, 2) := by decide +kernel
theorem dX5_tell_61 : decode cX5_tell 61 = .ok (.iadd, 1) := by decide +kernel
theorem dX5_tell_62 : decode cX5_tell 62 = .ok (.ireturn, 1) := by decide +kernel
theorem dX5_tell_63 : decode cX5_tell 63 = .ok (.aload_n 0, 1) := by decide +kernel
theorem dX5_tell_64 : decode cX5_tell 64 = .ok (.iconst 3, 1) := by decide +kernel
theorem dX5_tell_65 : decode cX5_tell 65 = .ok (.invokevirtual 249, 3) := by decide +kernel
theorem dX5_tell_68 : decode cX5_tell 68 = .ok (.aload_n 0, 1) := by decide +kernel
theorem dX5_tell_69 : decode cX5_tell 69 = .ok (.iconst 2, 1) := by decide +kernel
theorem dX5_tell_70 : decode cX5_tell 70 = .ok (.invokevirtual 249, 3) := by decide +kernel
theorem dX5_tell_73 : decode cX5_tell 73 = .ok (.aload_n 0, 1) := by decide +kernel
theorem dX5_tell_74 : decode cX5_tell 74 = .ok (.iconst 1, 1) := by decide +kernel
theorem dX5_tell_75 : decode cX5_tell 75 = .ok (.invokevirtual 249, 3) := by decide +kernel
theorem dX5_tell_78 : decode cX5_tell 78 = .ok (.aload_n 0, 1) := by decide +kernel
theorem dX5_tell_79 : decode cX5_tell 79 = .ok (.iconst 1, 1) := by decide +kernel
theorem dX5_tell_80 : decode cX5_tell 80 = .ok (.invokevirtual 249, 3) := by decide +kernel
theorem dX5_tell_83 : decode cX5_tell 83 = .ok (.iconst 2, 1) := by decide +kernel
theorem dX5_tell_84 : decode cX5_tell 84 = .ok (.iload_n 2, 1) := by decide +kernel
theorem dX5_tell_85 : decode cX5_tell 85 = .ok (.imul, 1) := by decide +kernel
theorem dX5_tell_86 : decode cX5_tell 86 = .ok (.bipush 100, 2) := by decide +kernel
theorem dX5_tell_88 : decode cX5_tell 88 = .ok (.iadd, 1) := by decide +kernel
theorem dX5_tell_89 : decode cX5_tell 89 = .ok (.ireturn, 1) := by decide +kernel
theorem dX5_tell_90 : decode cX5_tell 90 = .ok (.aload_n 0, 1) := by decide +kernel
theorem dX5_tell_91 : decode cX5_tell 91 = .ok (.iconst 1, 1) := by decide +kernel
theorem dX5_tell_92 : decode cX5_tell 92 = .ok (.invokevirtual 249, 3) := by decide +kernel
theorem dX5_tell_95 : decode cX5_tell 95 = .ok (.iload_n 2, 1) := by decide +kernel
theorem dX5_tell_96 : decode cX5_tell 96 = .ok (.ireturn, 1) := by decide +kernel
theorem dX5_log_0 : decode cX5_log 0 = .ok (.aload_n 0, 1) := by decide +kernel
theorem dX5_log_1 : decode cX5_log 1 = .ok (.iload_n 1, 1) := by decide +kernel
theorem dX5_log_2 : decode cX5_log 2 = .ok (.invokevirtual 156, 3) := by decide +kernel
theorem dX5_log_5 : decode cX5_log 5 = .ok (.ifCond .ne 5, 3) := by decide +kernel
theorem dX5_log_8 : decode cX5_log 8 = .ok (.iconst (-1), 1) := by decide +kernel
theorem dX5_log_9 : decode cX5_log 9 = .ok (.ireturn, 1) := by decide +kernel
theorem dX5_log_10 : decode cX5_log 10 = .ok (.aload_n 0, 1) := by decide +kernel
theorem dX5_log_11 : decode cX5_log 11 = .ok (.aload_n 0, 1) := by decide +kernel
theorem dX5_log_12 : decode cX5_log 12 = .ok (.getfield 28, 3) := by decide +kernel
theorem dX5_log_15 : decode cX5_log 15 = .ok (.iload_n 1, 1) := by decide +kernel
theorem dX5_log_16 : decode cX5_log 16 = .ok (.iaload, 1) := by decide +kernel
theorem dX5_log_17 : decode cX5_log 17 = .ok (.iconst 2, 1) := by decide +kernel
theorem dX5_log_18 : decode cX5_log 18 = .ok (.if_icmp .ne 7, 3) := by decide +kernel
theorem dX5_log_21 : decode cX5_log 21 = .ok (.iconst 5, 1) := by decide +kernel
theorem dX5_log_22 : decode cX5_log 22 = .ok (.goto 4, 3) := by decide +kernel
theorem dX5_log_25 : decode cX5_log 25 = .ok (.iconst 4, 1) := by decide +kernel
theorem dX5_log_26 : decode cX5_log 26 = .ok (.invokevirtual 249, 3) := by decide +kernel
theorem dX5_log_29 : decode cX5_log 29 = .ok (.aload_n 0, 1) := by decide +kernel
theorem dX5_log_30 : decode cX5_log 30 = .ok (.getfield 28, 3) := by decide +kernel
theorem dX5_log_33 : decode cX5_log 33 = .ok (.iload_n 1, 1) := by decide +kernel
theorem dX5_log_34 : decode cX5_log 34 = .ok (.iaload, 1) := by decide +kernel
theorem dX5_log_35 : decode cX5_log 35 = .ok (.iconst 2, 1) := by decide +kernel
theorem dX5_log_36 : decode cX5_log 36 = .ok (.if_icmp .ne 6, 3) := by decide +kernel
theorem dX5_log_39 : decode cX5_log 39 = .ok (.bipush 60, 2) := by decide +kernel
theorem dX5_log_41 : decode cX5_log 41 = .ok (.ireturn, 1) := by decide +kernel
theorem dX5_log_42 : decode cX5_log 42 = .ok (.aload_n 0, 1) := by decide +kernel
theorem dX5_log_43 : decode cX5_log 43 = .ok (.invokevirtual 162, 3) := by decide +kernel
theorem dX5_log_46 : decode cX5_log 46 = .ok (.aload_n 0, 1) := by decide +kernel
theorem dX5_log_47 : decode cX5_log 47 = .ok (.iload_n 1, 1) := by decide +kernel
theorem dX5_log_48 : decode cX5_log 48 = .ok (.invokevirtual 165, 3) := by decide +kernel
theorem dX5_log_51 : decode cX5_log 51 = .ok (.invokestatic 183, 3) := by decide +kernel
theorem dX5_log_54 : decode cX5_log 54 = .ok (.ireturn, 1) := by decide +kernel
theorem dX5_as_0 : decode cX5_as 0 = .ok (.aload_n 0, 1) := by decide +kernel
theorem dX5_as_1 : decode cX5_as 1 = .ok (.iconst 0, 1) := by decide +kernel
theorem dX5_as_2 : decode cX5_as 2 = .ok (.putfield 61, 3) := by decide +kernel
theorem dX5_as_5 : decode cX5_as 5 = .ok (.aload_n 0, 1) := by decide +kernel
theorem dX5_as_6 : decode cX5_as 6 = .ok (.iload_n 1, 1) := by decide +kernel
theorem dX5_as_7 : decode cX5_as 7 = .ok (.invokevirtual 156, 3) := by decide +kernel
theorem dX5_as_10 : decode cX5_as 10 = .ok (.ifCond .ne 5, 3) := by decide +kernel
theorem dX5_as_13 : decode cX5_as 13 = .ok (.iconst (-1), 1) := by decide +kernel
theorem dX5_as_14 : decode cX5_as 14 = .ok (.ireturn, 1) := by decide +kernel
theorem dX5_as_15 : decode cX5_as 15 = .ok (.iload_n 2, 1) := by decide +kernel
theorem dX5_as_16 : decode cX5_as 16 = .ok (.iconst 0, 1) := by decide +kernel
theorem dX5_as_17 : decode cX5_as 17 = .ok (.iconst 2, 1) := by decide +kernel
theorem dX5_as_18 : decode cX5_as 18 = .ok (.invokestatic 67, 3) := by decide +kernel
theorem dX5_as_21 : decode cX5_as 21 = .ok (.ifCond .ne 6, 3) := by decide +kernel
theorem dX5_as_24 : decode cX5_as 24 = .ok (.bipush (-2), 2) := by decide +kernel
theorem dX5_as_26 : decode cX5_as 26 = .ok (.ireturn, 1) := by decide +kernel
theorem dX5_as_27 : decode cX5_as 27 = .ok (.aload_n 0, 1) := by decide +kernel
theorem dX5_as_28 : decode cX5_as 28 = .ok (.getfield 28, 3) := by decide +kernel
theorem dX5_as_31 : decode cX5_as 31 = .ok (.iload_n 1, 1) := by decide +kernel
theorem dX5_as_32 : decode cX5_as 32 = .ok (.iaload, 1) := by decide +kernel
theorem dX5_as_33 : decode cX5_as 33 = .ok (.iload_n 2, 1) := by decide +kernel
theorem dX5_as_34 : decode cX5_as 34 = .ok (.if_icmp .lt 7, 3) := by decide +kernel
theorem dX5_as_37 : decode cX5_as 37 = .ok (.iconst 1, 1) := by decide +kernel
theorem dX5_as_38 : decode cX5_as 38 = .ok (.goto 8, 3) := by decide +kernel
theorem dX5_as_41 : decode cX5_as 41 = .ok (.aload_n 0, 1) := by decide +kernel
theorem dX5_as_42 : decode cX5_as 42 = .ok (.iconst 2, 1) := by decide +kernel
theorem dX5_as_43 : decode cX5_as 43 = .ok (.invokevirtual 95, 3) := by decide +kernel
theorem dX5_as_46 : decode cX5_as 46 = .ok (.ireturn, 1) := by decide +kernel
theorem dX5_trace_0 : decode cX5_trace 0 = .ok (.aload_n 0, 1) := by decide +kernel
theorem dX5_trace_1 : decode cX5_trace 1 = .ok (.getfield 246, 3) := by decide +kernel
theorem dX5_trace_4 : decode cX5_trace 4 = .ok (.ireturn, 1) := by decide +kernel
theorem dX5_fault_0 : decode cX5_fault 0 = .ok (.aload_n 0, 1) := by decide +kernel
theorem dX5_fault_1 : decode cX5_fault 1 = .ok (.getfield 61, 3) := by decide +kernel
theorem dX5_fault_4 : decode cX5_fault 4 = .ok (.ireturn, 1) := by decide +kernel
theorem dX5_many_0 : decode cX5_many 0 = .ok (.iload_n 1, 1) := by decide +kernel
theorem dX5_many_1 : decode cX5_many 1 = .ok (.tableswitch 73 0 5 #[39, 44, 49, 54, 63, 68], 39) := by decide +kernel
theorem dX5_many_40 : decode cX5_many 40 = .ok (.aload_n 0, 1) := by decide +kernel
theorem dX5_many_41 : decode cX5_many 41 = .ok (.getfield 71, 3) := by decide +kernel
theorem dX5_many_44 : decode cX5_many 44 = .ok (.ireturn, 1) := by decide +kernel
theorem dX5_many_45 : decode cX5_many 45 = .ok (.aload_n 0, 1) := by decide +kernel
theorem dX5_many_46 : decode cX5_many 46 = .ok (.getfield 74, 3) := by decide +kernel
theorem dX5_many_49 : decode cX5_many 49 = .ok (.ireturn, 1) := by decide +kernel
theorem dX5_many_50 : decode cX5_many 50 = .ok (.aload_n 0, 1) := by decide +kernel
theorem dX5_many_51 : decode cX5_many 51 = .ok (.invokevirtual 77, 3) := by decide +kernel
theorem dX5_many_54 : decode cX5_many 54 = .ok (.ireturn, 1) := by decide +kernel
theorem dX5_many_55 : decode cX5_many 55 = .ok (.aload_n 0, 1) := by decide +kernel
theorem dX5_many_56 : decode cX5_many 56 = .ok (.invokevirtual 162, 3) := by decide +kernel
theorem dX5_many_59 : decode cX5_many 59 = .ok (.aload_n 0, 1) := by decide +kernel
theorem dX5_many_60 : decode cX5_many 60 = .ok (.invokevirtual 204, 3) := by decide +kernel
theorem dX5_many_63 : decode cX5_many 63 = .ok (.ireturn, 1) := by decide +kernel
theorem dX5_many_64 : decode cX5_many 64 = .ok (.aload_n 0, 1) := by decide +kernel
theorem dX5_many_65 : decode cX5_many 65 = .ok (.invokevirtual 207, 3) := by decide +kernel
theorem dX5_many_68 : decode cX5_many 68 = .ok (.ireturn, 1) := by decide +kernel
theorem dX5_many_69 : decode cX5_many 69 = .ok (.aload_n 0, 1) := by decide +kernel
theorem dX5_many_70 : decode cX5_many 70 = .ok (.getfield 108, 3) := by decide +kernel
theorem dX5_many_73 : decode cX5_many 73 = .ok (.ireturn, 1) := by decide +kernel
theorem dX5_many_74 : decode cX5_many 74 = .ok (.bipush (-2), 2) := by decide +kernel
theorem dX5_many_76 : decode cX5_many 76 = .ok (.ireturn, 1) := by decide +kernel
theorem dJ6_bitCount_0f7a4_0 : decode cJ6_bitCount_0f7a4 0 = .ok (.iload_n 0, 1) := by decide +kernel
theorem dJ6_bitCount_0f7a4_1 : decode cJ6_bitCount_0f7a4 1 = .ok (.iload_n 0, 1) := by decide +kernel
theorem dJ6_bitCount_0f7a4_2 : decode cJ6_bitCount_0f7a4 2 = .ok (.iconst 1, 1) := by decide +kernel
theorem dJ6_bitCount_0f7a4_3 : decode cJ6_bitCount_0f7a4 3 = .ok (.iushr, 1) := by decide +kernel
theorem dJ6_bitCount_0f7a4_4 : decode cJ6_bitCount_0f7a4 4 = .ok (.ldc_w 265, 3) := by decide +kernel
theorem dJ6_bitCount_0f7a4_7 : decode cJ6_bitCount_0f7a4 7 = .ok (.iand, 1) := by decide +kernel
theorem dJ6_bitCount_0f7a4_8 : decode cJ6_bitCount_0f7a4 8 = .ok (.isub, 1) := by decide +kernel
theorem dJ6_bitCount_0f7a4_9 : decode cJ6_bitCount_0f7a4 9 = .ok (.istore_n 0, 1) := by decide +kernel
theorem dJ6_bitCount_0f7a4_10 : decode cJ6_bitCount_0f7a4 10 = .ok (.iload_n 0, 1) := by decide +kernel
theorem dJ6_bitCount_0f7a4_11 : decode cJ6_bitCount_0f7a4 11 = .ok (.ldc_w 266, 3) := by decide +kernel
theorem dJ6_bitCount_0f7a4_14 : decode cJ6_bitCount_0f7a4 14 = .ok (.iand, 1) := by decide +kernel
theorem dJ6_bitCount_0f7a4_15 : decode cJ6_bitCount_0f7a4 15 = .ok (.iload_n 0, 1) := by decide +kernel
theorem dJ6_bitCount_0f7a4_16 : decode cJ6_bitCount_0f7a4 16 = .ok (.iconst 2, 1) := by decide +kernel
theorem dJ6_bitCount_0f7a4_17 : decode cJ6_bitCount_0f7a4 17 = .ok (.iushr, 1) := by decide +kernel
theorem dJ6_bitCount_0f7a4_18 : decode cJ6_bitCount_0f7a4 18 = .ok (.ldc_w 266, 3) := by decide +kernel
theorem dJ6_bitCount_0f7a4_21 : decode cJ6_bitCount_0f7a4 21 = .ok (.iand, 1) := by decide +kernel
theorem dJ6_bitCount_0f7a4_22 : decode cJ6_bitCount_0f7a4 22 = .ok (.iadd, 1) := by decide +kernel
theorem dJ6_bitCount_0f7a4_23 : decode cJ6_bitCount_0f7a4 23 = .ok (.istore_n 0, 1) := by decide +kernel
theorem dJ6_bitCount_0f7a4_24 : decode cJ6_bitCount_0f7a4 24 = .ok (.iload_n 0, 1) := by decide +kernel
theorem dJ6_bitCount_0f7a4_25 : decode cJ6_bitCount_0f7a4 25 = .ok (.iload_n 0, 1) := by decide +kernel
theorem dJ6_bitCount_0f7a4_26 : decode cJ6_bitCount_0f7a4 26 = .ok (.iconst 4, 1) := by decide +kernel
theorem dJ6_bitCount_0f7a4_27 : decode cJ6_bitCount_0f7a4 27 = .ok (.iushr, 1) := by decide +kernel
theorem dJ6_bitCount_0f7a4_28 : decode cJ6_bitCount_0f7a4 28 = .ok (.iadd, 1) := by decide +kernel
theorem dJ6_bitCount_0f7a4_29 : decode cJ6_bitCount_0f7a4 29 = .ok (.ldc_w 267, 3) := by decide +kernel
theorem dJ6_bitCount_0f7a4_32 : decode cJ6_bitCount_0f7a4 32 = .ok (.iand, 1) := by decide +kernel
theorem dJ6_bitCount_0f7a4_33 : decode cJ6_bitCount_0f7a4 33 = .ok (.istore_n 0, 1) := by decide +kernel
theorem dJ6_bitCount_0f7a4_34 : decode cJ6_bitCount_0f7a4 34 = .ok (.iload_n 0, 1) := by decide +kernel
theorem dJ6_bitCount_0f7a4_35 : decode cJ6_bitCount_0f7a4 35 = .ok (.iload_n 0, 1) := by decide +kernel
theorem dJ6_bitCount_0f7a4_36 : decode cJ6_bitCount_0f7a4 36 = .ok (.bipush 8, 2) := by decide +kernel
theorem dJ6_bitCount_0f7a4_38 : decode cJ6_bitCount_0f7a4 38 = .ok (.iushr, 1) := by decide +kernel
theorem dJ6_bitCount_0f7a4_39 : decode cJ6_bitCount_0f7a4 39 = .ok (.iadd, 1) := by decide +kernel
theorem dJ6_bitCount_0f7a4_40 : decode cJ6_bitCount_0f7a4 40 = .ok (.istore_n 0, 1) := by decide +kernel
theorem dJ6_bitCount_0f7a4_41 : decode cJ6_bitCount_0f7a4 41 = .ok (.iload_n 0, 1) := by decide +kernel
theorem dJ6_bitCount_0f7a4_42 : decode cJ6_bitCount_0f7a4 42 = .ok (.iload_n 0, 1) := by decide +kernel
theorem dJ6_bitCount_0f7a4_43 : decode cJ6_bitCount_0f7a4 43 = .ok (.bipush 16, 2) := by decide +kernel
theorem dJ6_bitCount_0f7a4_45 : decode cJ6_bitCount_0f7a4 45 = .ok (.iushr, 1) := by decide +kernel
theorem dJ6_bitCount_0f7a4_46 : decode cJ6_bitCount_0f7a4 46 = .ok (.iadd, 1) := by decide +kernel
theorem dJ6_bitCount_0f7a4_47 : decode cJ6_bitCount_0f7a4 47 = .ok (.istore_n 0, 1) := by decide +kernel
theorem dJ6_bitCount_0f7a4_48 : decode cJ6_bitCount_0f7a4 48 = .ok (.iload_n 0, 1) := by decide +kernel
theorem dJ6_bitCount_0f7a4_49 : decode cJ6_bitCount_0f7a4 49 = .ok (.bipush 63, 2) := by decide +kernel
theorem dJ6_bitCount_0f7a4_51 : decode cJ6_bitCount_0f7a4 51 = .ok (.iand, 1) := by decide +kernel
theorem dJ6_bitCount_0f7a4_52 : decode cJ6_bitCount_0f7a4 52 = .ok (.ireturn, 1) := by decide +kernel
