theorem dX4_aimOf_1 : decode cX4_aimOf 1 = .ok (.getfield 21, 3) := by decide +kernel
theorem dX4_aimOf_4 : decode cX4_aimOf 4 = .ok (.getfield 33, 3) := by decide +kernel
theorem dX4_aimOf_7 : decode cX4_aimOf 7 = .ok (.iload_n 1, 1) := by decide +kernel
theorem dX4_aimOf_8 : decode cX4_aimOf 8 = .ok (.iaload, 1) := by decide +kernel
theorem dX4_aimOf_9 : decode cX4_aimOf 9 = .ok (.iconst (-1), 1) := by decide +kernel
theorem dX4_aimOf_10 : decode cX4_aimOf 10 = .ok (.if_icmp .ne 15, 3) := by decide +kernel
theorem dX4_aimOf_13 : decode cX4_aimOf 13 = .ok (.aload_n 0, 1) := by decide +kernel
theorem dX4_aimOf_14 : decode cX4_aimOf 14 = .ok (.getfield 25, 3) := by decide +kernel
theorem dX4_aimOf_17 : decode cX4_aimOf 17 = .ok (.getfield 38, 3) := by decide +kernel
theorem dX4_aimOf_20 : decode cX4_aimOf 20 = .ok (.iload_n 1, 1) := by decide +kernel
theorem dX4_aimOf_21 : decode cX4_aimOf 21 = .ok (.iaload, 1) := by decide +kernel
theorem dX4_aimOf_22 : decode cX4_aimOf 22 = .ok (.goto 12, 3) := by decide +kernel
theorem dX4_aimOf_25 : decode cX4_aimOf 25 = .ok (.aload_n 0, 1) := by decide +kernel
theorem dX4_aimOf_26 : decode cX4_aimOf 26 = .ok (.getfield 21, 3) := by decide +kernel
theorem dX4_aimOf_29 : decode cX4_aimOf 29 = .ok (.getfield 33, 3) := by decide +kernel
theorem dX4_aimOf_32 : decode cX4_aimOf 32 = .ok (.iload_n 1, 1) := by decide +kernel
theorem dX4_aimOf_33 : decode cX4_aimOf 33 = .ok (.iaload, 1) := by decide +kernel
theorem dX4_aimOf_34 : decode cX4_aimOf 34 = .ok (.ireturn, 1) := by decide +kernel
theorem dX4_toChange_0 : decode cX4_toChange 0 = .ok (.iconst 0, 1) := by decide +kernel
theorem dX4_toChange_1 : decode cX4_toChange 1 = .ok (.istore_n 1, 1) := by decide +kernel
theorem dX4_toChange_2 : decode cX4_toChange 2 = .ok (.iconst 0, 1) := by decide +kernel
theorem dX4_toChange_3 : decode cX4_toChange 3 = .ok (.istore_n 2, 1) := by decide +kernel
theorem dX4_toChange_4 : decode cX4_toChange 4 = .ok (.iload_n 2, 1) := by decide +kernel
theorem dX4_toChange_5 : decode cX4_toChange 5 = .ok (.aload_n 0, 1) := by decide +kernel
theorem dX4_toChange_6 : decode cX4_toChange 6 = .ok (.getfield 25, 3) := by decide +kernel
theorem dX4_toChange_9 : decode cX4_toChange 9 = .ok (.getfield 43, 3) := by decide +kernel
theorem dX4_toChange_12 : decode cX4_toChange 12 = .ok (.if_icmp .ge 32, 3) := by decide +kernel
theorem dX4_toChange_15 : decode cX4_toChange 15 = .ok (.aload_n 0, 1) := by decide +kernel
theorem dX4_toChange_16 : decode cX4_toChange 16 = .ok (.iload_n 2, 1) := by decide +kernel
theorem dX4_toChange_17 : decode cX4_toChange 17 = .ok (.invokevirtual 47, 3) := by decide +kernel
theorem dX4_toChange_20 : decode cX4_toChange 20 = .ok (.aload_n 0, 1) := by decide +kernel
theorem dX4_toChange_21 : decode cX4_toChange 21 = .ok (.getfield 25, 3) := by decide +kernel
theorem dX4_toChange_24 : decode cX4_toChange 24 = .ok (.getfield 38, 3) := by decide +kernel
theorem dX4_toChange_27 : decode cX4_toChange 27 = .ok (.iload_n 2, 1) := by decide +kernel
theorem dX4_toChange_28 : decode cX4_toChange 28 = .ok (.iaload, 1) := by decide +kernel
theorem dX4_toChange_29 : decode cX4_toChange 29 = .ok (.if_icmp .eq 9, 3) := by decide +kernel
theorem dX4_toChange_32 : decode cX4_toChange 32 = .ok (.iload_n 1, 1) := by decide +kernel
theorem dX4_toChange_33 : decode cX4_toChange 33 = .ok (.iconst 1, 1) := by decide +kernel
theorem dX4_toChange_34 : decode cX4_toChange 34 = .ok (.iload_n 2, 1) := by decide +kernel
theorem dX4_toChange_35 : decode cX4_toChange 35 = .ok (.ishl, 1) := by decide +kernel
theorem dX4_toChange_36 : decode cX4_toChange 36 = .ok (.ior, 1) := by decide +kernel
theorem dX4_toChange_37 : decode cX4_toChange 37 = .ok (.istore_n 1, 1) := by decide +kernel
theorem dX4_toChange_38 : decode cX4_toChange 38 = .ok (.iinc 2 1, 3) := by decide +kernel
theorem dX4_toChange_41 : decode cX4_toChange 41 = .ok (.goto (-37), 3) := by decide +kernel
theorem dX4_toChange_44 : decode cX4_toChange 44 = .ok (.iload_n 1, 1) := by decide +kernel
theorem dX4_toChange_45 : decode cX4_toChange 45 = .ok (.ireturn, 1) := by decide +kernel
theorem dX4_plan_0 : decode cX4_plan 0 = .ok (.aload_n 0, 1) := by decide +kernel
theorem dX4_plan_1 : decode cX4_plan 1 = .ok (.invokevirtual 51, 3) := by decide +kernel
theorem dX4_plan_4 : decode cX4_plan 4 = .ok (.istore_n 1, 1) := by decide +kernel
theorem dX4_plan_5 : decode cX4_plan 5 = .ok (.iload_n 1, 1) := by decide +kernel
theorem dX4_plan_6 : decode cX4_plan 6 = .ok (.istore_n 2, 1) := by decide +kernel
theorem dX4_plan_7 : decode cX4_plan 7 = .ok (.iload_n 2, 1) := by decide +kernel
theorem dX4_plan_8 : decode cX4_plan 8 = .ok (.ifCond .lt 68, 3) := by decide +kernel
theorem dX4_plan_11 : decode cX4_plan 11 = .ok (.iload_n 2, 1) := by decide +kernel
theorem dX4_plan_12 : decode cX4_plan 12 = .ok (.iload_n 1, 1) := by decide +kernel
theorem dX4_plan_13 : decode cX4_plan 13 = .ok (.iconst (-1), 1) := by decide +kernel
theorem dX4_plan_14 : decode cX4_plan 14 = .ok (.ixor, 1) := by decide +kernel
theorem dX4_plan_15 : decode cX4_plan 15 = .ok (.iand, 1) := by decide +kernel
theorem dX4_plan_16 : decode cX4_plan 16 = .ok (.ifCond .ne 54, 3) := by decide +kernel
theorem dX4_plan_19 : decode cX4_plan 19 = .ok (.aload_n 0, 1) := by decide +kernel
theorem dX4_plan_20 : decode cX4_plan 20 = .ok (.iload_n 2, 1) := by decide +kernel
theorem dX4_plan_21 : decode cX4_plan 21 = .ok (.invokevirtual 55, 3) := by decide +kernel
theorem dX4_plan_24 : decode cX4_plan 24 = .ok (.aload_n 0, 1) := by decide +kernel
theorem dX4_plan_25 : decode cX4_plan 25 = .ok (.getfield 29, 3) := by decide +kernel
theorem dX4_plan_28 : decode cX4_plan 28 = .ok (.getfield 59, 3) := by decide +kernel
theorem dX4_plan_31 : decode cX4_plan 31 = .ok (.aload_n 0, 1) := by decide +kernel
theorem dX4_plan_32 : decode cX4_plan 32 = .ok (.getfield 29, 3) := by decide +kernel
theorem dX4_plan_35 : decode cX4_plan 35 = .ok (.invokevirtual 64, 3) := by decide +kernel
theorem dX4_plan_38 : decode cX4_plan 38 = .ok (.iaload, 1) := by decide +kernel
theorem dX4_plan_39 : decode cX4_plan 39 = .ok (.istore_n 3, 1) := by decide +kernel
theorem dX4_plan_40 : decode cX4_plan 40 = .ok (.aload_n 0, 1) := by decide +kernel
theorem dX4_plan_41 : decode cX4_plan 41 = .ok (.getfield 11, 3) := by decide +kernel
theorem dX4_plan_44 : decode cX4_plan 44 = .ok (.iload_n 2, 1) := by decide +kernel
theorem dX4_plan_45 : decode cX4_plan 45 = .ok (.iload_n 3, 1) := by decide +kernel
theorem dX4_plan_46 : decode cX4_plan 46 = .ok (.bipush (-9), 2) := by decide +kernel
theorem dX4_plan_48 : decode cX4_plan 48 = .ok (.if_icmp .ne 8, 3) := by decide +kernel
theorem dX4_plan_51 : decode cX4_plan 51 = .ok (.ldc 67, 2) := by decide +kernel
theorem dX4_plan_53 : decode cX4_plan 53 = .ok (.goto 4, 3) := by decide +kernel
theorem dX4_plan_56 : decode cX4_plan 56 = .ok (.iload_n 3, 1) := by decide +kernel
theorem dX4_plan_57 : decode cX4_plan 57 = .ok (.iastore, 1) := by decide +kernel
theorem dX4_plan_58 : decode cX4_plan 58 = .ok (.aload_n 0, 1) := by decide +kernel
theorem dX4_plan_59 : decode cX4_plan 59 = .ok (.getfield 15, 3) := by decide +kernel
theorem dX4_plan_62 : decode cX4_plan 62 = .ok (.iload_n 2, 1) := by decide +kernel
theorem dX4_plan_63 : decode cX4_plan 63 = .ok (.aload_n 0, 1) := by decide +kernel
theorem dX4_plan_64 : decode cX4_plan 64 = .ok (.iload_n 2, 1) := by decide +kernel
theorem dX4_plan_65 : decode cX4_plan 65 = .ok (.iload_n 1, 1) := by decide +kernel
theorem dX4_plan_66 : decode cX4_plan 66 = .ok (.invokevirtual 68, 3) := by decide +kernel
theorem dX4_plan_69 : decode cX4_plan 69 = .ok (.iastore, 1) := by decide +kernel
theorem dX4_plan_70 : decode cX4_plan 70 = .ok (.iinc 2 (-1), 3) := by decide +kernel
theorem dX4_plan_73 : decode cX4_plan 73 = .ok (.goto (-66), 3) := by decide +kernel
theorem dX4_plan_76 : decode cX4_plan 76 = .ok (.aload_n 0, 1) := by decide +kernel
theorem dX4_plan_77 : decode cX4_plan 77 = .ok (.aload_n 0, 1) := by decide +kernel
theorem dX4_plan_78 : decode cX4_plan 78 = .ok (.getfield 15, 3) := by decide +kernel
theorem dX4_plan_81 : decode cX4_plan 81 = .ok (.iconst 0, 1) := by decide +kernel
theorem dX4_plan_82 : decode cX4_plan 82 = .ok (.iaload, 1) := by decide +kernel
theorem dX4_plan_83 : decode cX4_plan 83 = .ok (.putfield 72, 3) := by decide +kernel
theorem dX4_plan_86 : decode cX4_plan 86 = .ok (.aload_n 0, 1) := by decide +kernel
theorem dX4_plan_87 : decode cX4_plan 87 = .ok (.iconst 0, 1) := by decide +kernel
theorem dX4_plan_88 : decode cX4_plan 88 = .ok (.putfield 75, 3) := by decide +kernel
theorem dX4_plan_91 : decode cX4_plan 91 = .ok (.iconst 0, 1) := by decide +kernel
theorem dX4_plan_92 : decode cX4_plan 92 = .ok (.istore_n 2, 1) := by decide +kernel
theorem dX4_plan_93 : decode cX4_plan 93 = .ok (.iconst 0, 1) := by decide +kernel
theorem dX4_plan_94 : decode cX4_plan 94 = .ok (.istore_n 3, 1) := by decide +kernel
theorem dX4_plan_95 : decode cX4_plan 95 = .ok (.iload_n 3, 1) := by decide +kernel
theorem dX4_plan_96 : decode cX4_plan 96 = .ok (.iconst 4, 1) := by decide +kernel
theorem dX4_plan_97 : decode cX4_plan 97 = .ok (.if_icmp .ge 47, 3) := by decide +kernel
theorem dX4_plan_100 : decode cX4_plan 100 = .ok (.iload_n 2, 1) := by decide +kernel
theorem dX4_plan_101 : decode cX4_plan 101 = .ok (.iload_n 1, 1) := by decide +kernel
theorem dX4_plan_102 : decode cX4_plan 102 = .ok (.if_icmp .eq 42, 3) := by decide +kernel
theorem dX4_plan_105 : decode cX4_plan 105 = .ok (.aload_n 0, 1) := by decide +kernel
theorem dX4_plan_106 : decode cX4_plan 106 = .ok (.getfield 18, 3) := by decide +kernel
theorem dX4_plan_109 : decode cX4_plan 109 = .ok (.iload_n 3, 1) := by decide +kernel
theorem dX4_plan_110 : decode cX4_plan 110 = .ok (.aload_n 0, 1) := by decide +kernel
theorem dX4_plan_111 : decode cX4_plan 111 = .ok (.iload_n 2, 1) := by decide +kernel
theorem dX4_plan_112 : decode cX4_plan 112 = .ok (.iload_n 1, 1) := by decide +kernel
theorem dX4_plan_113 : decode cX4_plan 113 = .ok (.invokevirtual 78, 3) := by decide +kernel
theorem dX4_plan_116 : decode cX4_plan 116 = .ok (.iastore, 1) := by decide +kernel
theorem dX4_plan_117 : decode cX4_plan 117 = .ok (.iload_n 2, 1) := by decide +kernel
theorem dX4_plan_118 : decode cX4_plan 118 = .ok (.iconst 1, 1) := by decide +kernel
theorem dX4_plan_119 : decode cX4_plan 119 = .ok (.aload_n 0, 1) := by decide +kernel
theorem dX4_plan_120 : decode cX4_plan 120 = .ok (.getfield 18, 3) := by decide +kernel
theorem dX4_plan_123 : decode cX4_plan 123 = .ok (.iload_n 3, 1) := by decide +kernel
theorem dX4_plan_124 : decode cX4_plan 124 = .ok (.iaload, 1) := by decide +kernel
theorem dX4_plan_125 : decode cX4_plan 125 = .ok (.ishl, 1) := by decide +kernel
theorem dX4_plan_126 : decode cX4_plan 126 = .ok (.ior, 1) := by decide +kernel
theorem dX4_plan_127 : decode cX4_plan 127 = .ok (.istore_n 2, 1) := by decide +kernel
theorem dX4_plan_128 : decode cX4_plan 128 = .ok (.aload_n 0, 1) := by decide +kernel
theorem dX4_plan_129 : decode cX4_plan 129 = .ok (.dup, 1) := by decide +kernel
theorem dX4_plan_130 : decode cX4_plan 130 = .ok (.getfield 75, 3) := by decide +kernel
theorem dX4_plan_133 : decode cX4_plan 133 = .ok (.iconst 1, 1) := by decide +kernel
theorem dX4_plan_134 : decode cX4_plan 134 = .ok (.iadd, 1) := by decide +kernel
theorem dX4_plan_135 : decode cX4_plan 135 = .ok (.putfield 75, 3) := by decide +kernel
theorem dX4_plan_138 : decode cX4_plan 138 = .ok (.iinc 3 1, 3) := by decide +kernel
theorem dX4_plan_141 : decode cX4_plan 141 = .ok (.goto (-46), 3) := by decide +kernel
theorem dX4_plan_144 : decode cX4_plan 144 = .ok (.return_, 1) := by decide +kernel
theorem dX4_pickBehind_0 : decode cX4_pickBehind 0 = .ok (.aload_n 0, 1) := by decide +kernel
theorem dX4_pickBehind_1 : decode cX4_pickBehind 1 = .ok (.getfield 29, 3) := by decide +kernel
theorem dX4_pickBehind_4 : decode cX4_pickBehind 4 = .ok (.invokevirtual 81, 3) := by decide +kernel
theorem dX4_pickBehind_7 : decode cX4_pickBehind 7 = .ok (.iconst 0, 1) := by decide +kernel
theorem dX4_pickBehind_8 : decode cX4_pickBehind 8 = .ok (.istore_n 2, 1) := by decide +kernel
theorem dX4_pickBehind_9 : decode cX4_pickBehind 9 = .ok (.iload_n 2, 1) := by decide +kernel
theorem dX4_pickBehind_10 : decode cX4_pickBehind 10 = .ok (.aload_n 0, 1) := by decide +kernel
theorem dX4_pickBehind_11 : decode cX4_pickBehind 11 = .ok (.getfield 25, 3) := by decide +kernel
theorem dX4_pickBehind_14 : decode cX4_pickBehind 14 = .ok (.getfield 43, 3) := by decide +kernel
theorem dX4_pickBehind_17 : decode cX4_pickBehind 17 = .ok (.if_icmp .ge 43, 3) := by decide +kernel
theorem dX4_pickBehind_20 : decode cX4_pickBehind 20 = .ok (.iload_n 1, 1) := by decide +kernel
theorem dX4_pickBehind_21 : decode cX4_pickBehind 21 = .ok (.iload_n 2, 1) := by decide +kernel
theorem dX4_pickBehind_22 : decode cX4_pickBehind 22 = .ok (.ishr, 1) := by decide +kernel
theorem dX4_pickBehind_23 : decode cX4_pickBehind 23 = .ok (.iconst 1, 1) := by decide +kernel
theorem dX4_pickBehind_24 : decode cX4_pickBehind 24 = .ok (.iand, 1) := by decide +kernel
theorem dX4_pickBehind_25 : decode cX4_pickBehind 25 = .ok (.ifCond .eq 29, 3) := by decide +kernel
theorem dX4_pickBehind_28 : decode cX4_pickBehind 28 = .ok (.aload_n 0, 1) := by decide +kernel
theorem dX4_pickBehind_29 : decode cX4_pickBehind 29 = .ok (.getfield 25, 3) := by decide +kernel
theorem dX4_pickBehind_32 : decode cX4_pickBehind 32 = .ok (.getfield 84, 3) := by decide +kernel
theorem dX4_pickBehind_35 : decode cX4_pickBehind 35 = .ok (.iload_n 2, 1) := by decide +kernel
theorem dX4_pickBehind_36 : decode cX4_pickBehind 36 = .ok (.baload, 1) := by decide +kernel
theorem dX4_pickBehind_37 : decode cX4_pickBehind 37 = .ok (.ifCond .eq 17, 3) := by decide +kernel
theorem dX4_pickBehind_40 : decode cX4_pickBehind 40 = .ok (.aload_n 0, 1) := by decide +kernel
theorem dX4_pickBehind_41 : decode cX4_pickBehind 41 = .ok (.getfield 29, 3) := by decide +kernel
theorem dX4_pickBehind_44 : decode cX4_pickBehind 44 = .ok (.getfield 88, 3) := by decide +kernel
theorem dX4_pickBehind_47 : decode cX4_pickBehind 47 = .ok (.iload_n 2, 1) := by decide +kernel
theorem dX4_pickBehind_48 : decode cX4_pickBehind 48 = .ok (.aload_n 0, 1) := by decide +kernel
theorem dX4_pickBehind_49 : decode cX4_pickBehind 49 = .ok (.iload_n 2, 1) := by decide +kernel
theorem dX4_pickBehind_50 : decode cX4_pickBehind 50 = .ok (.invokevirtual 47, 3) := by decide +kernel
theorem dX4_pickBehind_53 : decode cX4_pickBehind 53 = .ok (.iastore, 1) := by decide +kernel
theorem dX4_pickBehind_54 : decode cX4_pickBehind 54 = .ok (.iinc 2 1, 3) := by decide +kernel
theorem dX4_pickBehind_57 : decode cX4_pickBehind 57 = .ok (.goto (-48), 3) := by decide +kernel
theorem dX4_pickBehind_60 : decode cX4_pickBehind 60 = .ok (.return_, 1) := by decide +kernel
theorem dX4_leastWorst_0 : decode cX4_leastWorst 0 = .ok (.iload_n 1, 1) := by decide +kernel
theorem dX4_leastWorst_1 : decode cX4_leastWorst 1 = .ok (.iload_n 2, 1) := by decide +kernel
theorem dX4_leastWorst_2 : decode cX4_leastWorst 2 = .ok (.if_icmp .ne 7, 3) := by decide +kernel
theorem dX4_leastWorst_5 : decode cX4_leastWorst 5 = .ok (.iconst 0, 1) := by decide +kernel
theorem dX4_leastWorst_6 : decode cX4_leastWorst 6 = .ok (.goto 5, 3) := by decide +kernel
theorem dX4_leastWorst_9 : decode cX4_leastWorst 9 = .ok (.ldc 67, 2) := by decide +kernel
theorem dX4_leastWorst_11 : decode cX4_leastWorst 11 = .ok (.istore_n 3, 1) := by decide +kernel
theorem dX4_leastWorst_12 : decode cX4_leastWorst 12 = .ok (.iconst 0, 1) := by decide +kernel
theorem dX4_leastWorst_13 : decode cX4_leastWorst 13 = .ok (.istore 4, 2) := by decide +kernel
theorem dX4_leastWorst_15 : decode cX4_leastWorst 15 = .ok (.iload 4, 2) := by decide +kernel
theorem dX4_leastWorst_17 : decode cX4_leastWorst 17 = .ok (.aload_n 0, 1) := by decide +kernel
theorem dX4_leastWorst_18 : decode cX4_leastWorst 18 = .ok (.getfield 25, 3) := by decide +kernel
theorem dX4_leastWorst_21 : decode cX4_leastWorst 21 = .ok (.getfield 43, 3) := by decide +kernel
theorem dX4_leastWorst_24 : decode cX4_leastWorst 24 = .ok (.if_icmp .ge 37, 3) := by decide +kernel
theorem dX4_leastWorst_27 : decode cX4_leastWorst 27 = .ok (.iload_n 2, 1) := by decide +kernel
theorem dX4_leastWorst_28 : decode cX4_leastWorst 28 = .ok (.iload_n 1, 1) := by decide +kernel
theorem dX4_leastWorst_29 : decode cX4_leastWorst 29 = .ok (.iconst (-1), 1) := by decide +kernel
theorem dX4_leastWorst_30 : decode cX4_leastWorst 30 = .ok (.ixor, 1) := by decide +kernel
theorem dX4_leastWorst_31 : decode cX4_leastWorst 31 = .ok (.iand, 1) := by decide +kernel
theorem dX4_leastWorst_32 : decode cX4_leastWorst 32 = .ok (.iload 4, 2) := by decide +kernel
theorem dX4_leastWorst_34 : decode cX4_leastWorst 34 = .ok (.ishr, 1) := by decide +kernel
theorem dX4_leastWorst_35 : decode cX4_leastWorst 35 = .ok (.iconst 1, 1) := by decide +kernel
theorem dX4_leastWorst_36 : decode cX4_leastWorst 36 = .ok (.iand, 1) := by decide +kernel
theorem dX4_leastWorst_37 : decode cX4_leastWorst 37 = .ok (.ifCond .eq 18, 3) := by decide +kernel
theorem dX4_leastWorst_40 : decode cX4_leastWorst 40 = .ok (.iload_n 3, 1) := by decide +kernel
theorem dX4_leastWorst_41 : decode cX4_leastWorst 41 = .ok (.aload_n 0, 1) := by decide +kernel
theorem dX4_leastWorst_42 : decode cX4_leastWorst 42 = .ok (.iload_n 1, 1) := by decide +kernel
theorem dX4_leastWorst_43 : decode cX4_leastWorst 43 = .ok (.iconst 1, 1) := by decide +kernel
theorem dX4_leastWorst_44 : decode cX4_leastWorst 44 = .ok (.iload 4, 2) := by decide +kernel
theorem dX4_leastWorst_46 : decode cX4_leastWorst 46 = .ok (.ishl, 1) := by decide +kernel
theorem dX4_leastWorst_47 : decode cX4_leastWorst 47 = .ok (.ior, 1) := by decide +kernel
theorem dX4_leastWorst_48 : decode cX4_leastWorst 48 = .ok (.invokevirtual 91, 3) := by decide +kernel
theorem dX4_leastWorst_51 : decode cX4_leastWorst 51 = .ok (.invokestatic 94, 3) := by decide +kernel
theorem dX4_leastWorst_54 : decode cX4_leastWorst 54 = .ok (.istore_n 3, 1) := by decide +kernel
theorem dX4_leastWorst_55 : decode cX4_leastWorst 55 = .ok (.iinc 4 1, 3) := by decide +kernel
theorem dX4_leastWorst_58 : decode cX4_leastWorst 58 = .ok (.goto (-43), 3) := by decide +kernel
theorem dX4_leastWorst_61 : decode cX4_leastWorst 61 = .ok (.iload_n 3, 1) := by decide +kernel
theorem dX4_leastWorst_62 : decode cX4_leastWorst 62 = .ok (.ireturn, 1) := by decide +kernel
theorem dX4_worstBy_0 : decode cX4_worstBy 0 = .ok (.aload_n 0, 1) := by decide +kernel
theorem dX4_worstBy_1 : decode cX4_worstBy 1 = .ok (.getfield 11, 3) := by decide +kernel
theorem dX4_worstBy_4 : decode cX4_worstBy 4 = .ok (.iload_n 1, 1) := by decide +kernel
theorem dX4_worstBy_5 : decode cX4_worstBy 5 = .ok (.iaload, 1) := by decide +kernel
theorem dX4_worstBy_6 : decode cX4_worstBy 6 = .ok (.aload_n 0, 1) := by decide +kernel
theorem dX4_worstBy_7 : decode cX4_worstBy 7 = .ok (.getfield 15, 3) := by decide +kernel
theorem dX4_worstBy_10 : decode cX4_worstBy 10 = .ok (.iload_n 1, 1) := by decide +kernel
theorem dX4_worstBy_11 : decode cX4_worstBy 11 = .ok (.iaload, 1) := by decide +kernel
theorem dX4_worstBy_12 : decode cX4_worstBy 12 = .ok (.invokestatic 99, 3) := by decide +kernel
theorem dX4_worstBy_15 : decode cX4_worstBy 15 = .ok (.ireturn, 1) := by decide +kernel
theorem dX4_firstStep_0 : decode cX4_firstStep 0 = .ok (.iconst 0, 1) := by decide +kernel
theorem dX4_firstStep_1 : decode cX4_firstStep 1 = .ok (.istore_n 3, 1) := by decide +kernel
theorem dX4_firstStep_2 : decode cX4_firstStep 2 = .ok (.aload_n 0, 1) := by decide +kernel
theorem dX4_firstStep_3 : decode cX4_firstStep 3 = .ok (.getfield 25, 3) := by decide +kernel
theorem dX4_firstStep_6 : decode cX4_firstStep 6 = .ok (.getfield 43, 3) := by decide +kernel
theorem dX4_firstStep_9 : decode cX4_firstStep 9 = .ok (.iconst 1, 1) := by decide +kernel
theorem dX4_firstStep_10 : decode cX4_firstStep 10 = .ok (.isub, 1) := by decide +kernel
theorem dX4_firstStep_11 : decode cX4_firstStep 11 = .ok (.istore 4, 2) := by decide +kernel
theorem dX4_firstStep_13 : decode cX4_firstStep 13 = .ok (.iload 4, 2) := by decide +kernel
theorem dX4_firstStep_15 : decode cX4_firstStep 15 = .ok (.ifCond .lt 42, 3) := by decide +kernel
theorem dX4_firstStep_18 : decode cX4_firstStep 18 = .ok (.iload_n 2, 1) := by decide +kernel
theorem dX4_firstStep_19 : decode cX4_firstStep 19 = .ok (.iload_n 1, 1) := by decide +kernel
theorem dX4_firstStep_20 : decode cX4_firstStep 20 = .ok (.iconst (-1), 1) := by decide +kernel
theorem dX4_firstStep_21 : decode cX4_firstStep 21 = .ok (.ixor, 1) := by decide +kernel
theorem dX4_firstStep_22 : decode cX4_firstStep 22 = .ok (.iand, 1) := by decide +kernel
theorem dX4_firstStep_23 : decode cX4_firstStep 23 = .ok (.iload 4, 2) := by decide +kernel
theorem dX4_firstStep_25 : decode cX4_firstStep 25 = .ok (.ishr, 1) := by decide +kernel
theorem dX4_firstStep_26 : decode cX4_firstStep 26 = .ok (.iconst 1, 1) := by decide +kernel
theorem dX4_firstStep_27 : decode cX4_firstStep 27 = .ok (.iand, 1) := by decide +kernel
theorem dX4_firstStep_28 : decode cX4_firstStep 28 = .ok (.ifCond .eq 23, 3) := by decide +kernel
theorem dX4_firstStep_31 : decode cX4_firstStep 31 = .ok (.aload_n 0, 1) := by decide +kernel
theorem dX4_firstStep_32 : decode cX4_firstStep 32 = .ok (.iload_n 1, 1) := by decide +kernel
theorem dX4_firstStep_33 : decode cX4_firstStep 33 = .ok (.iconst 1, 1) := by decide +kernel
theorem dX4_firstStep_34 : decode cX4_firstStep 34 = .ok (.iload 4, 2) := by decide +kernel
theorem dX4_firstStep_36 : decode cX4_firstStep 36 = .ok (.ishl, 1) := by decide +kernel
theorem dX4_firstStep_37 : decode cX4_firstStep 37 = .ok (.ior, 1) := by decide +kernel
theorem dX4_firstStep_38 : decode cX4_firstStep 38 = .ok (.invokevirtual 91, 3) := by decide +kernel
theorem dX4_firstStep_41 : decode cX4_firstStep 41 = .ok (.aload_n 0, 1) := by decide +kernel
theorem dX4_firstStep_42 : decode cX4_firstStep 42 = .ok (.getfield 72, 3) := by decide +kernel
theorem dX4_firstStep_45 : decode cX4_firstStep 45 = .ok (.if_icmp .gt 6, 3) := by decide +kernel
theorem dX4_firstStep_48 : decode cX4_firstStep 48 = .ok (.iload 4, 2) := by decide +kernel
theorem dX4_firstStep_50 : decode cX4_firstStep 50 = .ok (.istore_n 3, 1) := by decide +kernel
theorem dX4_firstStep_51 : decode cX4_firstStep 51 = .ok (.iinc 4 (-1), 3) := by decide +kernel
theorem dX4_firstStep_54 : decode cX4_firstStep 54 = .ok (.goto (-41), 3) := by decide +kernel
theorem dX4_firstStep_57 : decode cX4_firstStep 57 = .ok (.iload_n 3, 1) := by decide +kernel
theorem dX4_firstStep_58 : decode cX4_firstStep 58 = .ok (.ireturn, 1) := by decide +kernel
theorem dX5_init_0 : decode cX5_init 0 = .ok (.aload_n 0, 1) := by decide +kernel
theorem dX5_init_1 : decode cX5_init 1 = .ok (.invokespecial 3, 3) := by decide +kernel
theorem dX5_init_4 : decode cX5_init 4 = .ok (.aload_n 0, 1) := by decide +kernel
theorem dX5_init_5 : decode cX5_init 5 = .ok (.iconst 4, 1) := by decide +kernel
theorem dX5_init_6 : decode cX5_init 6 = .ok (.newarray .int, 2) := by decide +kernel
theorem dX5_init_8 : decode cX5_init 8 = .ok (.putfield 9, 3) := by decide +kernel
theorem dX5_init_11 : decode cX5_init 11 = .ok (.aload_n 0, 1) := by decide +kernel
theorem dX5_init_12 : decode cX5_init 12 = .ok (.iconst 4, 1) := by decide +kernel
theorem dX5_init_13 : decode cX5_init 13 = .ok (.newarray .int, 2) := by decide +kernel
theorem dX5_init_15 : decode cX5_init 15 = .ok (.putfield 15, 3) := by decide +kernel
theorem dX5_init_18 : decode cX5_init 18 = .ok (.aload_n 0, 1) := by decide +kernel
theorem dX5_init_19 : decode cX5_init 19 = .ok (.iconst 4, 1) := by decide +kernel
theorem dX5_init_20 : decode cX5_init 20 = .ok (.newarray .int, 2) := by decide +kernel
theorem dX5_init_22 : decode cX5_init 22 = .ok (.putfield 18, 3) := by decide +kernel
theorem dX5_init_25 : decode cX5_init 25 = .ok (.aload_n 0, 1) := by decide +kernel
theorem dX5_init_26 : decode cX5_init 26 = .ok (.bipush 40, 2) := by decide +kernel
theorem dX5_init_28 : decode cX5_init 28 = .ok (.newarray .int, 2) := by decide +kernel
theorem dX5_init_30 : decode cX5_init 30 = .ok (.putfield 21, 3) := by decide +kernel
theorem dX5_init_33 : decode cX5_init 33 = .ok (.aload_n 0, 1) := by decide +kernel
theorem dX5_init_34 : decode cX5_init 34 = .ok (.getfield 18, 3) := by decide +kernel
theorem dX5_init_37 : decode cX5_init 37 = .ok (.iconst (-1), 1) := by decide +kernel
theorem dX5_init_38 : decode cX5_init 38 = .ok (.invokestatic 24, 3) := by decide +kernel
theorem dX5_init_41 : decode cX5_init 41 = .ok (.return_, 1) := by decide +kernel
theorem dX6_init_0 : decode cX6_init 0 = .ok (.aload_n 0, 1) := by decide +kernel
theorem dX6_init_1 : decode cX6_init 1 = .ok (.invokespecial 3, 3) := by decide +kernel
theorem dX6_init_4 : decode cX6_init 4 = .ok (.aload_n 0, 1) := by decide +kernel
theorem dX6_init_5 : decode cX6_init 5 = .ok (.new 9, 3) := by decide +kernel
theorem dX6_init_8 : decode cX6_init 8 = .ok (.dup, 1) := by decide +kernel
theorem dX6_init_9 : decode cX6_init 9 = .ok (.invokespecial 11, 3) := by decide +kernel
theorem dX6_init_12 : decode cX6_init 12 = .ok (.putfield 12, 3) := by decide +kernel
theorem dX6_init_15 : decode cX6_init 15 = .ok (.aload_n 0, 1) := by decide +kernel
theorem dX6_init_16 : decode cX6_init 16 = .ok (.bipush 10, 2) := by decide +kernel
theorem dX6_init_18 : decode cX6_init 18 = .ok (.newarray .int, 2) := by decide +kernel
theorem dX6_init_20 : decode cX6_init 20 = .ok (.putfield 18, 3) := by decide +kernel
theorem dX6_init_23 : decode cX6_init 23 = .ok (.aload_n 0, 1) := by decide +kernel
theorem dX6_init_24 : decode cX6_init 24 = .ok (.getfield 18, 3) := by decide +kernel
theorem dX6_init_27 : decode cX6_init 27 = .ok (.iconst 4, 1) := by decide +kernel
theorem dX6_init_28 : decode cX6_init 28 = .ok (.invokestatic 22, 3) := by decide +kernel
theorem dX6_init_31 : decode cX6_init 31 = .ok (.return_, 1) := by decide +kernel
theorem dX6_isSeen_0 : decode cX6_isSeen 0 = .ok (.iconst 0, 1) := by decide +kernel
theorem dX6_isSeen_1 : decode cX6_isSeen 1 = .ok (.istore_n 1, 1) := by decide +kernel
theorem dX6_isSeen_2 : decode cX6_isSeen 2 = .ok (.iload_n 1, 1) := by decide +kernel
theorem dX6_isSeen_3 : decode cX6_isSeen 3 = .ok (.bipush 10, 2) := by decide +kernel
theorem dX6_isSeen_5 : decode cX6_isSeen 5 = .ok (.if_icmp .ge 21, 3) := by decide +kernel
theorem dX6_isSeen_8 : decode cX6_isSeen 8 = .ok (.aload_n 0, 1) := by decide +kernel
theorem dX6_isSeen_9 : decode cX6_isSeen 9 = .ok (.getfield 18, 3) := by decide +kernel
theorem dX6_isSeen_12 : decode cX6_isSeen 12 = .ok (.iload_n 1, 1) := by decide +kernel
theorem dX6_isSeen_13 : decode cX6_isSeen 13 = .ok (.iaload, 1) := by decide +kernel
theorem dX6_isSeen_14 : decode cX6_isSeen 14 = .ok (.iconst 4, 1) := by decide +kernel
theorem dX6_isSeen_15 : decode cX6_isSeen 15 = .ok (.if_icmp .eq 5, 3) := by decide +kernel
theorem dX6_isSeen_18 : decode cX6_isSeen 18 = .ok (.iconst 1, 1) := by decide +kernel
theorem dX6_isSeen_19 : decode cX6_isSeen 19 = .ok (.ireturn, 1) := by decide +kernel
theorem dX6_isSeen_20 : decode cX6_isSeen 20 = .ok (.iinc 1 1, 3) := by decide +kernel
theorem dX6_isSeen_23 : decode cX6_isSeen 23 = .ok (.goto (-21), 3) := by decide +kernel
theorem dX6_isSeen_26 : decode cX6_isSeen 26 = .ok (.iconst 0, 1) := by decide +kernel
theorem dX6_isSeen_27 : decode cX6_isSeen 27 = .ok (.ireturn, 1) := by decide +kernel
theorem dX6_isAsSeen_0 : decode cX6_isAsSeen 0 = .ok (.iconst 0, 1) := by decide +kernel
theorem dX6_isAsSeen_1 : decode cX6_isAsSeen 1 = .ok (.istore_n 2, 1) := by decide +kernel
theorem dX6_isAsSeen_2 : decode cX6_isAsSeen 2 = .ok (.iload_n 2, 1) := by decide +kernel
theorem dX6_isAsSeen_3 : decode cX6_isAsSeen 3 = .ok (.bipush 10, 2) := by decide +kernel
theorem dX6_isAsSeen_5 : decode cX6_isAsSeen 5 = .ok (.if_icmp .ge 35, 3) := by decide +kernel
theorem dX6_isAsSeen_8 : decode cX6_isAsSeen 8 = .ok (.aload_n 0, 1) := by decide +kernel
theorem dX6_isAsSeen_9 : decode cX6_isAsSeen 9 = .ok (.getfield 18, 3) := by decide +kernel
theorem dX6_isAsSeen_12 : decode cX6_isAsSeen 12 = .ok (.iload_n 2, 1) := by decide +kernel
theorem dX6_isAsSeen_13 : decode cX6_isAsSeen 13 = .ok (.iaload, 1) := by decide +kernel
theorem dX6_isAsSeen_14 : decode cX6_isAsSeen 14 = .ok (.iconst 4, 1) := by decide +kernel
theorem dX6_isAsSeen_15 : decode cX6_isAsSeen 15 = .ok (.if_icmp .eq 19, 3) := by decide +kernel
theorem dX6_isAsSeen_18 : decode cX6_isAsSeen 18 = .ok (.aload_n 0, 1) := by decide +kernel
theorem dX6_isAsSeen_19 : decode cX6_isAsSeen 19 = .ok (.getfield 18, 3) := by decide +kernel
theorem dX6_isAsSeen_22 : decode cX6_isAsSeen 22 = .ok (.iload_n 2, 1) := by decide +kernel
theorem dX6_isAsSeen_23 : decode cX6_isAsSeen 23 = .ok (.iaload, 1) := by decide +kernel
theorem dX6_isAsSeen_24 : decode cX6_isAsSeen 24 = .ok (.aload_n 1, 1) := by decide +kernel
theorem dX6_isAsSeen_25 : decode cX6_isAsSeen 25 = .ok (.iload_n 2, 1) := by decide +kernel
theorem dX6_isAsSeen_26 : decode cX6_isAsSeen 26 = .ok (.invokevirtual 28, 3) := by decide +kernel
theorem dX6_isAsSeen_29 : decode cX6_isAsSeen 29 = .ok (.if_icmp .eq 5, 3) := by decide +kernel
theorem dX6_isAsSeen_32 : decode cX6_isAsSeen 32 = .ok (.iconst 0, 1) := by decide +kernel
theorem dX6_isAsSeen_33 : decode cX6_isAsSeen 33 = .ok (.ireturn, 1) := by decide +kernel
theorem dX6_isAsSeen_34 : decode cX6_isAsSeen 34 = .ok (.iinc 2 1, 3) := by decide +kernel
theorem dX6_isAsSeen_37 : decode cX6_isAsSeen 37 = .ok (.goto (-35), 3) := by decide +kernel
theorem dX6_isAsSeen_40 : decode cX6_isAsSeen 40 = .ok (.iconst 1, 1) := by decide +kernel
theorem dX6_isAsSeen_41 : decode cX6_isAsSeen 41 = .ok (.ireturn, 1) := by decide +kernel
theorem dX7_init_0 : decode cX7_init 0 = .ok (.aload_n 0, 1) := by decide +kernel
theorem dX7_init_1 : decode cX7_init 1 = .ok (.invokespecial 3, 3) := by decide +kernel
theorem dX7_init_4 : decode cX7_init 4 = .ok (.aload_n 0, 1) := by decide +kernel
theorem dX7_init_5 : decode cX7_init 5 = .ok (.iconst 4, 1) := by decide +kernel
theorem dX7_init_6 : decode cX7_init 6 = .ok (.newarray .int, 2) := by decide +kernel
theorem dX7_init_8 : decode cX7_init 8 = .ok (.putfield 9, 3) := by decide +kernel
theorem dX7_init_11 : decode cX7_init 11 = .ok (.aload_n 0, 1) := by decide +kernel
theorem dX7_init_12 : decode cX7_init 12 = .ok (.iconst 4, 1) := by decide +kernel
theorem dX7_init_13 : decode cX7_init 13 = .ok (.newarray .int, 2) := by decide +kernel
theorem dX7_init_15 : decode cX7_init 15 = .ok (.putfield 15, 3) := by decide +kernel
theorem dX7_init_18 : decode cX7_init 18 = .ok (.aload_n 0, 1) := by decide +kernel
theorem dX7_init_19 : decode cX7_init 19 = .ok (.iconst 4, 1) := by decide +kernel
theorem dX7_init_20 : decode cX7_init 20 = .ok (.newarray .boolean, 2) := by decide +kernel
theorem dX7_init_22 : decode cX7_init 22 = .ok (.putfield 18, 3) := by decide +kernel
theorem dX7_init_25 : decode cX7_init 25 = .ok (.aload_n 0, 1) := by decide +kernel
theorem dX7_init_26 : decode cX7_init 26 = .ok (.iconst 4, 1) := by decide +kernel
theorem dX7_init_27 : decode cX7_init 27 = .ok (.newarray .boolean, 2) := by decide +kernel
theorem dX7_init_29 : decode cX7_init 29 = .ok (.putfield 22, 3) := by decide +kernel
theorem dX7_init_32 : decode cX7_init 32 = .ok (.return_, 1) := by decide +kernel
theorem dX7_has_0 : decode cX7_has 0 = .ok (.iload_n 1, 1) := by decide +kernel
theorem dX7_has_1 : decode cX7_has 1 = .ok (.ifCond .lt 15, 3) := by decide +kernel
theorem dX7_has_4 : decode cX7_has 4 = .ok (.iload_n 1, 1) := by decide +kernel
theorem dX7_has_5 : decode cX7_has 5 = .ok (.aload_n 0, 1) := by decide +kernel
theorem dX7_has_6 : decode cX7_has 6 = .ok (.getfield 25, 3) := by decide +kernel
theorem dX7_has_9 : decode cX7_has 9 = .ok (.if_icmp .ge 7, 3) := by decide +kernel
theorem dX7_has_12 : decode cX7_has 12 = .ok (.iconst 1, 1) := by decide +kernel
theorem dX7_has_13 : decode cX7_has 13 = .ok (.goto 4, 3) := by decide +kernel
theorem dX7_has_16 : decode cX7_has 16 = .ok (.iconst 0, 1) := by decide +kernel
theorem dX7_has_17 : decode cX7_has 17 = .ok (.ireturn, 1) := by decide +kernel
theorem dX7_add_0 : decode cX7_add 0 = .ok (.aload_n 0, 1) := by decide +kernel
theorem dX7_add_1 : decode cX7_add 1 = .ok (.getfield 22, 3) := by decide +kernel
theorem dX7_add_4 : decode cX7_add 4 = .ok (.aload_n 0, 1) := by decide +kernel
theorem dX7_add_5 : decode cX7_add 5 = .ok (.getfield 25, 3) := by decide +kernel
theorem dX7_add_8 : decode cX7_add 8 = .ok (.iconst 1, 1) := by decide +kernel
theorem dX7_add_9 : decode cX7_add 9 = .ok (.bastore, 1) := by decide +kernel
theorem dX7_add_10 : decode cX7_add 10 = .ok (.aload_n 0, 1) := by decide +kernel
theorem dX7_add_11 : decode cX7_add 11 = .ok (.dup, 1) := by decide +kernel
theorem dX7_add_12 : decode cX7_add 12 = .ok (.getfield 25, 3) := by decide +kernel
theorem dX7_add_15 : decode cX7_add 15 = .ok (.iconst 1, 1) := by decide +kernel
theorem dX7_add_16 : decode cX7_add 16 = .ok (.iadd, 1) := by decide +kernel
theorem dX7_add_17 : decode cX7_add 17 = .ok (.putfield 25, 3) := by decide +kernel
theorem dX7_add_20 : decode cX7_add 20 = .ok (.aload_n 0, 1) := by decide +kernel
theorem dX7_add_21 : decode cX7_add 21 = .ok (.getfield 25, 3) := by decide +kernel
theorem dX7_add_24 : decode cX7_add 24 = .ok (.iconst 1, 1) := by decide +kernel
theorem dX7_add_25 : decode cX7_add 25 = .ok (.isub, 1) := by decide +kernel
theorem dX7_add_26 : decode cX7_add 26 = .ok (.ireturn, 1) := by decide +kernel
theorem dX7_isSaid_0 : decode cX7_isSaid 0 = .ok (.iload_n 1, 1) := by decide +kernel
theorem dX7_isSaid_1 : decode cX7_isSaid 1 = .ok (.aload_n 0, 1) := by decide +kernel
theorem dX7_isSaid_2 : decode cX7_isSaid 2 = .ok (.getfield 25, 3) := by decide +kernel
theorem dX7_isSaid_5 : decode cX7_isSaid 5 = .ok (.if_icmp .ge 26, 3) := by decide +kernel
theorem dX7_isSaid_8 : decode cX7_isSaid 8 = .ok (.aload_n 0, 1) := by decide +kernel
theorem dX7_isSaid_9 : decode cX7_isSaid 9 = .ok (.getfield 22, 3) := by decide +kernel
theorem dX7_isSaid_12 : decode cX7_isSaid 12 = .ok (.iload_n 1, 1) := by decide +kernel
theorem dX7_isSaid_13 : decode cX7_isSaid 13 = .ok (.baload, 1) := by decide +kernel
theorem dX7_isSaid_14 : decode cX7_isSaid 14 = .ok (.ifCond .eq 17, 3) := by decide +kernel
theorem dX7_isSaid_17 : decode cX7_isSaid 17 = .ok (.aload_n 0, 1) := by decide +kernel
theorem dX7_isSaid_18 : decode cX7_isSaid 18 = .ok (.getfield 9, 3) := by decide +kernel
theorem dX7_isSaid_21 : decode cX7_isSaid 21 = .ok (.iload_n 1, 1) := by decide +kernel
theorem dX7_isSaid_22 : decode cX7_isSaid 22 = .ok (.iaload, 1) := by decide +kernel
theorem dX7_isSaid_23 : decode cX7_isSaid 23 = .ok (.iconst 4, 1) := by decide +kernel
theorem dX7_isSaid_24 : decode cX7_isSaid 24 = .ok (.if_icmp .eq 7, 3) := by decide +kernel
theorem dX7_isSaid_27 : decode cX7_isSaid 27 = .ok (.iconst 1, 1) := by decide +kernel
theorem dX7_isSaid_28 : decode cX7_isSaid 28 = .ok (.goto 4, 3) := by decide +kernel
theorem dX7_isSaid_31 : decode cX7_isSaid 31 = .ok (.iconst 0, 1) := by decide +kernel
theorem dX7_isSaid_32 : decode cX7_isSaid 32 = .ok (.ireturn, 1) := by decide +kernel
theorem dX7_upCount_0 : decode cX7_upCount 0 = .ok (.iconst 0, 1) := by decide +kernel
theorem dX7_upCount_1 : decode cX7_upCount 1 = .ok (.istore_n 1, 1) := by decide +kernel
theorem dX7_upCount_2 : decode cX7_upCount 2 = .ok (.iconst 0, 1) := by decide +kernel
theorem dX7_upCount_3 : decode cX7_upCount 3 = .ok (.istore_n 2, 1) := by decide +kernel
theorem dX7_upCount_4 : decode cX7_upCount 4 = .ok (.iload_n 2, 1) := by decide +kernel
theorem dX7_upCount_5 : decode cX7_upCount 5 = .ok (.aload_n 0, 1) := by decide +kernel
theorem dX7_upCount_6 : decode cX7_upCount 6 = .ok (.getfield 25, 3) := by decide +kernel
theorem dX7_upCount_9 : decode cX7_upCount 9 = .ok (.if_icmp .ge 21, 3) := by decide +kernel
theorem dX7_upCount_12 : decode cX7_upCount 12 = .ok (.aload_n 0, 1) := by decide +kernel
theorem dX7_upCount_13 : decode cX7_upCount 13 = .ok (.getfield 22, 3) := by decide +kernel
theorem dX7_upCount_16 : decode cX7_upCount 16 = .ok (.iload_n 2, 1) := by decide +kernel
theorem dX7_upCount_17 : decode cX7_upCount 17 = .ok (.baload, 1) := by decide +kernel
theorem dX7_upCount_18 : decode cX7_upCount 18 = .ok (.ifCond .eq 6, 3) := by decide +kernel
theorem dX7_upCount_21 : decode cX7_upCount 21 = .ok (.iinc 1 1, 3) := by decide +kernel
theorem dX7_upCount_24 : decode cX7_upCount 24 = .ok (.iinc 2 1, 3) := by decide +kernel
theorem dX7_upCount_27 : decode cX7_upCount 27 = .ok (.goto (-23), 3) := by decide +kernel
theorem dX7_upCount_30 : decode cX7_upCount 30 = .ok (.iload_n 1, 1) := by decide +kernel
theorem dX7_upCount_31 : decode cX7_upCount 31 = .ok (.ireturn, 1) := by decide +kernel
theorem dX7_copy_0 : decode cX7_copy 0 = .ok (.aload_n 0, 1) := by decide +kernel
theorem dX7_copy_1 : decode cX7_copy 1 = .ok (.aload_n 1, 1) := by decide +kernel
theorem dX7_copy_2 : decode cX7_copy 2 = .ok (.getfield 25, 3) := by decide +kernel
theorem dX7_copy_5 : decode cX7_copy 5 = .ok (.putfield 25, 3) := by decide +kernel
theorem dX7_copy_8 : decode cX7_copy 8 = .ok (.iconst 0, 1) := by decide +kernel
theorem dX7_copy_9 : decode cX7_copy 9 = .ok (.istore_n 2, 1) := by decide +kernel
theorem dX7_copy_10 : decode cX7_copy 10 = .ok (.iload_n 2, 1) := by decide +kernel
theorem dX7_copy_11 : decode cX7_copy 11 = .ok (.iconst 4, 1) := by decide +kernel
theorem dX7_copy_12 : decode cX7_copy 12 = .ok (.if_icmp .ge 57, 3) := by decide +kernel
theorem dX7_copy_15 : decode cX7_copy 15 = .ok (.aload_n 0, 1) := by decide +kernel
theorem dX7_copy_16 : decode cX7_copy 16 = .ok (.getfield 9, 3) := by decide +kernel
theorem dX7_copy_19 : decode cX7_copy 19 = .ok (.iload_n 2, 1) := by decide +kernel
theorem dX7_copy_20 : decode cX7_copy 20 = .ok (.aload_n 1, 1) := by decide +kernel
theorem dX7_copy_21 : decode cX7_copy 21 = .ok (.getfield 9, 3) := by decide +kernel
theorem dX7_copy_24 : decode cX7_copy 24 = .ok (.iload_n 2, 1) := by decide +kernel
theorem dX7_copy_25 : decode cX7_copy 25 = .ok (.iaload, 1) := by decide +kernel
theorem dX7_copy_26 : decode cX7_copy 26 = .ok (.iastore, 1) := by decide +kernel
theorem dX7_copy_27 : decode cX7_copy 27 = .ok (.aload_n 0, 1) := by decide +kernel
theorem dX7_copy_28 : decode cX7_copy 28 = .ok (.getfield 15, 3) := by decide +kernel
theorem dX7_copy_31 : decode cX7_copy 31 = .ok (.iload_n 2, 1) := by decide +kernel
theorem dX7_copy_32 : decode cX7_copy 32 = .ok (.aload_n 1, 1) := by decide +kernel
theorem dX7_copy_33 : decode cX7_copy 33 = .ok (.getfield 15, 3) := by decide +kernel
theorem dX7_copy_36 : decode cX7_copy 36 = .ok (.iload_n 2, 1) := by decide +kernel
theorem dX7_copy_37 : decode cX7_copy 37 = .ok (.iaload, 1) := by decide +kernel
theorem dX7_copy_38 : decode cX7_copy 38 = .ok (.iastore, 1) := by decide +kernel
theorem dX7_copy_39 : decode cX7_copy 39 = .ok (.aload_n 0, 1) := by decide +kernel
theorem dX7_copy_40 : decode cX7_copy 40 = .ok (.getfield 18, 3) := by decide +kernel
theorem dX7_copy_43 : decode cX7_copy 43 = .ok (.iload_n 2, 1) := by decide +kernel
theorem dX7_copy_44 : decode cX7_copy 44 = .ok (.aload_n 1, 1) := by decide +kernel
theorem dX7_copy_45 : decode cX7_copy 45 = .ok (.getfield 18, 3) := by decide +kernel
theorem dX7_copy_48 : decode cX7_copy 48 = .ok (.iload_n 2, 1) := by decide +kernel
theorem dX7_copy_49 : decode cX7_copy 49 = .ok (.baload, 1) := by decide +kernel
theorem dX7_copy_50 : decode cX7_copy 50 = .ok (.bastore, 1) := by decide +kernel
theorem dX7_copy_51 : decode cX7_copy 51 = .ok (.aload_n 0, 1) := by decide +kernel
theorem dX7_copy_52 : decode cX7_copy 52 = .ok (.getfield 22, 3) := by decide +kernel
theorem dX7_copy_55 : decode cX7_copy 55 = .ok (.iload_n 2, 1) := by decide +kernel
theorem dX7_copy_56 : decode cX7_copy 56 = .ok (.aload_n 1, 1) := by decide +kernel
theorem dX7_copy_57 : decode cX7_copy 57 = .ok (.getfield 22, 3) := by decide +kernel
theorem dX7_copy_60 : decode cX7_copy 60 = .ok (.iload_n 2, 1) := by decide +kernel
theorem dX7_copy_61 : decode cX7_copy 61 = .ok (.baload, 1) := by decide +kernel
theorem dX7_copy_62 : decode cX7_copy 62 = .ok (.bastore, 1) := by decide +kernel
theorem dX7_copy_63 : decode cX7_copy 63 = .ok (.iinc 2 1, 3) := by decide +kernel
theorem dX7_copy_66 : decode cX7_copy 66 = .ok (.goto (-56), 3) := by decide +kernel
theorem dX7_copy_69 : decode cX7_copy 69 = .ok (.return_, 1) := by decide +kernel
theorem dX8_init_0 : decode cX8_init 0 = .ok (.aload_n 0, 1) := by decide +kernel
theorem dX8_init_1 : decode cX8_init 1 = .ok (.invokespecial 1, 3) := by decide +kernel
theorem dX8_init_4 : decode cX8_init 4 = .ok (.new 7, 3) := by decide +kernel
theorem dX8_init_7 : decode cX8_init 7 = .ok (.dup, 1) := by decide +kernel
theorem dX8_init_8 : decode cX8_init 8 = .ok (.invokespecial 9, 3) := by decide +kernel
theorem dX8_init_11 : decode cX8_init 11 = .ok (.astore_n 1, 1) := by decide +kernel
theorem dX8_init_12 : decode cX8_init 12 = .ok (.new 10, 3) := by decide +kernel
theorem dX8_init_15 : decode cX8_init 15 = .ok (.dup, 1) := by decide +kernel
theorem dX8_init_16 : decode cX8_init 16 = .ok (.invokespecial 12, 3) := by decide +kernel
theorem dX8_init_19 : decode cX8_init 19 = .ok (.astore_n 2, 1) := by decide +kernel
theorem dX8_init_20 : decode cX8_init 20 = .ok (.new 13, 3) := by decide +kernel
theorem dX8_init_23 : decode cX8_init 23 = .ok (.dup, 1) := by decide +kernel
theorem dX8_init_24 : decode cX8_init 24 = .ok (.invokespecial 15, 3) := by decide +kernel
theorem dX8_init_27 : decode cX8_init 27 = .ok (.astore_n 3, 1) := by decide +kernel
theorem dX8_init_28 : decode cX8_init 28 = .ok (.new 16, 3) := by decide +kernel
theorem dX8_init_31 : decode cX8_init 31 = .ok (.dup, 1) := by decide +kernel
theorem dX8_init_32 : decode cX8_init 32 = .ok (.aload_n 1, 1) := by decide +kernel
theorem dX8_init_33 : decode cX8_init 33 = .ok (.aload_n 2, 1) := by decide +kernel
theorem dX8_init_34 : decode cX8_init 34 = .ok (.invokespecial 18, 3) := by decide +kernel
theorem dX8_init_37 : decode cX8_init 37 = .ok (.astore 4, 2) := by decide +kernel
theorem dX8_init_39 : decode cX8_init 39 = .ok (.new 21, 3) := by decide +kernel
theorem dX8_init_42 : decode cX8_init 42 = .ok (.dup, 1) := by decide +kernel
theorem dX8_init_43 : decode cX8_init 43 = .ok (.aload_n 1, 1) := by decide +kernel
theorem dX8_init_44 : decode cX8_init 44 = .ok (.aload_n 2, 1) := by decide +kernel
theorem dX8_init_45 : decode cX8_init 45 = .ok (.aload_n 3, 1) := by decide +kernel
theorem dX8_init_46 : decode cX8_init 46 = .ok (.aload 4, 2) := by decide +kernel
theorem dX8_init_48 : decode cX8_init 48 = .ok (.invokespecial 23, 3) := by decide +kernel
theorem dX8_init_51 : decode cX8_init 51 = .ok (.astore 5, 2) := by decide +kernel
theorem dX8_init_53 : decode cX8_init 53 = .ok (.aload_n 0, 1) := by decide +kernel
theorem dX8_init_54 : decode cX8_init 54 = .ok (.aload_n 1, 1) := by decide +kernel
theorem dX8_init_55 : decode cX8_init 55 = .ok (.putfield 26, 3) := by decide +kernel
theorem dX8_init_58 : decode cX8_init 58 = .ok (.aload_n 0, 1) := by decide +kernel
theorem dX8_init_59 : decode cX8_init 59 = .ok (.aload_n 2, 1) := by decide +kernel
theorem dX8_init_60 : decode cX8_init 60 = .ok (.putfield 32, 3) := by decide +kernel
theorem dX8_init_63 : decode cX8_init 63 = .ok (.aload_n 0, 1) := by decide +kernel
theorem dX8_init_64 : decode cX8_init 64 = .ok (.aload_n 3, 1) := by decide +kernel
theorem dX8_init_65 : decode cX8_init 65 = .ok (.putfield 36, 3) := by decide +kernel
theorem dX8_init_68 : decode cX8_init 68 = .ok (.aload_n 0, 1) := by decide +kernel
theorem dX8_init_69 : decode cX8_init 69 = .ok (.aload 4, 2) := by decide +kernel
theorem dX8_init_71 : decode cX8_init 71 = .ok (.putfield 40, 3) := by decide +kernel
theorem dX8_init_74 : decode cX8_init 74 = .ok (.aload_n 0, 1) := by decide +kernel
theorem dX8_init_75 : decode cX8_init 75 = .ok (.aload 5, 2) := by decide +kernel
theorem dX8_init_77 : decode cX8_init 77 = .ok (.putfield 44, 3) := by decide +kernel
theorem dX8_init_80 : decode cX8_init 80 = .ok (.aload_n 0, 1) := by decide +kernel
theorem dX8_init_81 : decode cX8_init 81 = .ok (.new 48, 3) := by decide +kernel
theorem dX8_init_84 : decode cX8_init 84 = .ok (.dup, 1) := by decide +kernel
theorem dX8_init_85 : decode cX8_init 85 = .ok (.aload_n 2, 1) := by decide +kernel
theorem dX8_init_86 : decode cX8_init 86 = .ok (.aload_n 3, 1) := by decide +kernel
theorem dX8_init_87 : decode cX8_init 87 = .ok (.aload 5, 2) := by decide +kernel
theorem dX8_init_89 : decode cX8_init 89 = .ok (.invokespecial 50, 3) := by decide +kernel
theorem dX8_init_92 : decode cX8_init 92 = .ok (.putfield 53, 3) := by decide +kernel
theorem dX8_init_95 : decode cX8_init 95 = .ok (.aload_n 0, 1) := by decide +kernel
theorem dX8_init_96 : decode cX8_init 96 = .ok (.new 57, 3) := by decide +kernel
theorem dX8_init_99 : decode cX8_init 99 = .ok (.dup, 1) := by decide +kernel
theorem dX8_init_100 : decode cX8_init 100 = .ok (.aload_n 1, 1) := by decide +kernel
theorem dX8_init_101 : decode cX8_init 101 = .ok (.aload_n 3, 1) := by decide +kernel
theorem dX8_init_102 : decode cX8_init 102 = .ok (.aload 4, 2) := by decide +kernel
theorem dX8_init_104 : decode cX8_init 104 = .ok (.invokespecial 59, 3) := by decide +kernel
theorem dX8_init_107 : decode cX8_init 107 = .ok (.putfield 62, 3) := by decide +kernel
theorem dX8_init_110 : decode cX8_init 110 = .ok (.return_, 1) := by decide +kernel
theorem dX8_net_0 : decode cX8_net 0 = .ok (.iload_n 1, 1) := by decide +kernel
theorem dX8_net_1 : decode cX8_net 1 = .ok (.sipush 10000, 3) := by decide +kernel
theorem dX8_net_4 : decode cX8_net 4 = .ok (.invokestatic 66, 3) := by decide +kernel
theorem dX8_net_7 : decode cX8_net 7 = .ok (.ifCond .ne 6, 3) := by decide +kernel
theorem dX8_net_10 : decode cX8_net 10 = .ok (.bipush (-2), 2) := by decide +kernel
theorem dX8_net_12 : decode cX8_net 12 = .ok (.ireturn, 1) := by decide +kernel
theorem dX8_net_13 : decode cX8_net 13 = .ok (.aload_n 0, 1) := by decide +kernel
theorem dX8_net_14 : decode cX8_net 14 = .ok (.getfield 26, 3) := by decide +kernel
theorem dX8_net_17 : decode cX8_net 17 = .ok (.getfield 70, 3) := by decide +kernel
theorem dX8_net_20 : decode cX8_net 20 = .ok (.bipush 10, 2) := by decide +kernel
theorem dX8_net_22 : decode cX8_net 22 = .ok (.if_icmp .lt 6, 3) := by decide +kernel
theorem dX8_net_25 : decode cX8_net 25 = .ok (.bipush (-4), 2) := by decide +kernel
theorem dX8_net_27 : decode cX8_net 27 = .ok (.ireturn, 1) := by decide +kernel
theorem dX8_net_28 : decode cX8_net 28 = .ok (.aload_n 0, 1) := by decide +kernel
theorem dX8_net_29 : decode cX8_net 29 = .ok (.invokevirtual 74, 3) := by decide +kernel
theorem dX8_net_32 : decode cX8_net 32 = .ok (.aload_n 0, 1) := by decide +kernel
theorem dX8_net_33 : decode cX8_net 33 = .ok (.getfield 26, 3) := by decide +kernel
theorem dX8_net_36 : decode cX8_net 36 = .ok (.iload_n 1, 1) := by decide +kernel
theorem dX8_net_37 : decode cX8_net 37 = .ok (.invokevirtual 77, 3) := by decide +kernel
theorem dX8_net_40 : decode cX8_net 40 = .ok (.ireturn, 1) := by decide +kernel
theorem dX8_tie_0 : decode cX8_tie 0 = .ok (.aload_n 0, 1) := by decide +kernel
theorem dX8_tie_1 : decode cX8_tie 1 = .ok (.getfield 26, 3) := by decide +kernel
theorem dX8_tie_4 : decode cX8_tie 4 = .ok (.iload_n 1, 1) := by decide +kernel
theorem dX8_tie_5 : decode cX8_tie 5 = .ok (.invokevirtual 81, 3) := by decide +kernel
theorem dX8_tie_8 : decode cX8_tie 8 = .ok (.ifCond .eq 14, 3) := by decide +kernel
theorem dX8_tie_11 : decode cX8_tie 11 = .ok (.aload_n 0, 1) := by decide +kernel
theorem dX8_tie_12 : decode cX8_tie 12 = .ok (.getfield 26, 3) := by decide +kernel
theorem dX8_tie_15 : decode cX8_tie 15 = .ok (.iload_n 2, 1) := by decide +kernel
theorem dX8_tie_16 : decode cX8_tie 16 = .ok (.invokevirtual 81, 3) := by decide +kernel
theorem dX8_tie_19 : decode cX8_tie 19 = .ok (.ifCond .ne 5, 3) := by decide +kernel
theorem dX8_tie_22 : decode cX8_tie 22 = .ok (.iconst (-1), 1) := by decide +kernel
theorem dX8_tie_23 : decode cX8_tie 23 = .ok (.ireturn, 1) := by decide +kernel
theorem dX8_tie_24 : decode cX8_tie 24 = .ok (.iload_n 1, 1) := by decide +kernel
theorem dX8_tie_25 : decode cX8_tie 25 = .ok (.iload_n 2, 1) := by decide +kernel
theorem dX8_tie_26 : decode cX8_tie 26 = .ok (.if_icmp .eq 31, 3) := by decide +kernel
theorem dX8_tie_29 : decode cX8_tie 29 = .ok (.aload_n 0, 1) := by decide +kernel
theorem dX8_tie_30 : decode cX8_tie 30 = .ok (.getfield 26, 3) := by decide +kernel
theorem dX8_tie_33 : decode cX8_tie 33 = .ok (.iload_n 1, 1) := by decide +kernel
theorem dX8_tie_34 : decode cX8_tie 34 = .ok (.iload_n 2, 1) := by decide +kernel
theorem dX8_tie_35 : decode cX8_tie 35 = .ok (.invokevirtual 85, 3) := by decide +kernel
theorem dX8_tie_38 : decode cX8_tie 38 = .ok (.ifCond .ne 19, 3) := by decide +kernel
theorem dX8_tie_41 : decode cX8_tie 41 = .ok (.iload_n 3, 1) := by decide +kernel
theorem dX8_tie_42 : decode cX8_tie 42 = .ok (.ifCond .eq 18, 3) := by decide +kernel
theorem dX8_tie_45 : decode cX8_tie 45 = .ok (.aload_n 0, 1) := by decide +kernel
theorem dX8_tie_46 : decode cX8_tie 46 = .ok (.getfield 26, 3) := by decide +kernel
theorem dX8_tie_49 : decode cX8_tie 49 = .ok (.iload_n 2, 1) := by decide +kernel
theorem dX8_tie_50 : decode cX8_tie 50 = .ok (.iload_n 1, 1) := by decide +kernel
theorem dX8_tie_51 : decode cX8_tie 51 = .ok (.invokevirtual 89, 3) := by decide +kernel
theorem dX8_tie_54 : decode cX8_tie 54 = .ok (.ifCond .eq 6, 3) := by decide +kernel
theorem dX8_tie_57 : decode cX8_tie 57 = .ok (.bipush (-3), 2) := by decide +kernel
theorem dX8_tie_59 : decode cX8_tie 59 = .ok (.ireturn, 1) := by decide +kernel
theorem dX8_tie_60 : decode cX8_tie 60 = .ok (.aload_n 0, 1) := by decide +kernel
theorem dX8_tie_61 : decode cX8_tie 61 = .ok (.getfield 26, 3) := by decide +kernel
theorem dX8_tie_64 : decode cX8_tie 64 = .ok (.getfield 92, 3) := by decide +kernel
theorem dX8_tie_67 : decode cX8_tie 67 = .ok (.bipush 20, 2) := by decide +kernel
theorem dX8_tie_69 : decode cX8_tie 69 = .ok (.if_icmp .lt 6, 3) := by decide +kernel
theorem dX8_tie_72 : decode cX8_tie 72 = .ok (.bipush (-4), 2) := by decide +kernel
theorem dX8_tie_74 : decode cX8_tie 74 = .ok (.ireturn, 1) := by decide +kernel
theorem dX8_tie_75 : decode cX8_tie 75 = .ok (.aload_n 0, 1) := by decide +kernel
theorem dX8_tie_76 : decode cX8_tie 76 = .ok (.invokevirtual 74, 3) := by decide +kernel
theorem dX8_tie_79 : decode cX8_tie 79 = .ok (.aload_n 0, 1) := by decide +kernel
theorem dX8_tie_80 : decode cX8_tie 80 = .ok (.getfield 26, 3) := by decide +kernel
theorem dX8_tie_83 : decode cX8_tie 83 = .ok (.iload_n 1, 1) := by decide +kernel
theorem dX8_tie_84 : decode cX8_tie 84 = .ok (.iload_n 2, 1) := by decide +kernel
theorem dX8_tie_85 : decode cX8_tie 85 = .ok (.iload_n 3, 1) := by decide +kernel
theorem dX8_tie_86 : decode cX8_tie 86 = .ok (.invokevirtual 95, 3) := by decide +kernel
theorem dX8_tie_89 : decode cX8_tie 89 = .ok (.ireturn, 1) := by decide +kernel
theorem dX8_tied_0 : decode cX8_tied 0 = .ok (.aload_n 0, 1) := by decide +kernel
theorem dX8_tied_1 : decode cX8_tied 1 = .ok (.getfield 26, 3) := by decide +kernel
theorem dX8_tied_4 : decode cX8_tied 4 = .ok (.iload_n 1, 1) := by decide +kernel
theorem dX8_tied_5 : decode cX8_tied 5 = .ok (.invokevirtual 81, 3) := by decide +kernel
theorem dX8_tied_8 : decode cX8_tied 8 = .ok (.ifCond .eq 14, 3) := by decide +kernel
theorem dX8_tied_11 : decode cX8_tied 11 = .ok (.aload_n 0, 1) := by decide +kernel
theorem dX8_tied_12 : decode cX8_tied 12 = .ok (.getfield 26, 3) := by decide +kernel
theorem dX8_tied_15 : decode cX8_tied 15 = .ok (.iload_n 2, 1) := by decide +kernel
theorem dX8_tied_16 : decode cX8_tied 16 = .ok (.invokevirtual 81, 3) := by decide +kernel
theorem dX8_tied_19 : decode cX8_tied 19 = .ok (.ifCond .ne 5, 3) := by decide +kernel
theorem dX8_tied_22 : decode cX8_tied 22 = .ok (.iconst (-1), 1) := by decide +kernel
theorem dX8_tied_23 : decode cX8_tied 23 = .ok (.ireturn, 1) := by decide +kernel
theorem dX8_tied_24 : decode cX8_tied 24 = .ok (.aload_n 0, 1) := by decide +kernel
theorem dX8_tied_25 : decode cX8_tied 25 = .ok (.getfield 26, 3) := by decide +kernel
theorem dX8_tied_28 : decode cX8_tied 28 = .ok (.iload_n 1, 1) := by decide +kernel
theorem dX8_tied_29 : decode cX8_tied 29 = .ok (.iload_n 2, 1) := by decide +kernel
theorem dX8_tied_30 : decode cX8_tied 30 = .ok (.invokevirtual 85, 3) := by decide +kernel
theorem dX8_tied_33 : decode cX8_tied 33 = .ok (.ireturn, 1) := by decide +kernel
theorem dX8_askers_0 : decode cX8_askers 0 = .ok (.aload_n 0, 1) := by decide +kernel
theorem dX8_askers_1 : decode cX8_askers 1 = .ok (.getfield 26, 3) := by decide +kernel
theorem dX8_askers_4 : decode cX8_askers 4 = .ok (.iload_n 1, 1) := by decide +kernel
theorem dX8_askers_5 : decode cX8_askers 5 = .ok (.invokevirtual 81, 3) := by decide +kernel
theorem dX8_askers_8 : decode cX8_askers 8 = .ok (.ifCond .ne 5, 3) := by decide +kernel
theorem dX8_askers_11 : decode cX8_askers 11 = .ok (.iconst (-1), 1) := by decide +kernel
theorem dX8_askers_12 : decode cX8_askers 12 = .ok (.ireturn, 1) := by decide +kernel
theorem dX8_askers_13 : decode cX8_askers 13 = .ok (.iload_n 2, 1) := by decide +kernel
theorem dX8_askers_14 : decode cX8_askers 14 = .ok (.sipush 10000, 3) := by decide +kernel
theorem dX8_askers_17 : decode cX8_askers 17 = .ok (.invokestatic 66, 3) := by decide +kernel
theorem dX8_askers_20 : decode cX8_askers 20 = .ok (.ifCond .ne 6, 3) := by decide +kernel
theorem dX8_askers_23 : decode cX8_askers 23 = .ok (.bipush (-2), 2) := by decide +kernel
theorem dX8_askers_25 : decode cX8_askers 25 = .ok (.ireturn, 1) := by decide +kernel
theorem dX8_askers_26 : decode cX8_askers 26 = .ok (.aload_n 0, 1) := by decide +kernel
theorem dX8_askers_27 : decode cX8_askers 27 = .ok (.invokevirtual 74, 3) := by decide +kernel
theorem dX8_askers_30 : decode cX8_askers 30 = .ok (.aload_n 0, 1) := by decide +kernel
theorem dX8_askers_31 : decode cX8_askers 31 = .ok (.getfield 26, 3) := by decide +kernel
theorem dX8_askers_34 : decode cX8_askers 34 = .ok (.getfield 99, 3) := by decide +kernel
theorem dX8_askers_37 : decode cX8_askers 37 = .ok (.iload_n 1, 1) := by decide +kernel
theorem dX8_askers_38 : decode cX8_askers 38 = .ok (.iload_n 2, 1) := by decide +kernel
theorem dX8_askers_39 : decode cX8_askers 39 = .ok (.invokestatic 103, 3) := by decide +kernel
theorem dX8_askers_42 : decode cX8_askers 42 = .ok (.ireturn, 1) := by decide +kernel
theorem dX8_guess_0 : decode cX8_guess 0 = .ok (.aload_n 0, 1) := by decide +kernel
theorem dX8_guess_1 : decode cX8_guess 1 = .ok (.getfield 26, 3) := by decide +kernel
theorem dX8_guess_4 : decode cX8_guess 4 = .ok (.iload_n 1, 1) := by decide +kernel
theorem dX8_guess_5 : decode cX8_guess 5 = .ok (.invokevirtual 81, 3) := by decide +kernel
theorem dX8_guess_8 : decode cX8_guess 8 = .ok (.ifCond .ne 5, 3) := by decide +kernel
theorem dX8_guess_11 : decode cX8_guess 11 = .ok (.iconst (-1), 1) := by decide +kernel
theorem dX8_guess_12 : decode cX8_guess 12 = .ok (.ireturn, 1) := by decide +kernel
theorem dX8_guess_13 : decode cX8_guess 13 = .ok (.iload_n 2, 1) := by decide +kernel
theorem dX8_guess_14 : decode cX8_guess 14 = .ok (.ifCond .eq 12, 3) := by decide +kernel
theorem dX8_guess_17 : decode cX8_guess 17 = .ok (.iload_n 2, 1) := by decide +kernel
theorem dX8_guess_18 : decode cX8_guess 18 = .ok (.bipush 15, 2) := by decide +kernel
theorem dX8_guess_20 : decode cX8_guess 20 = .ok (.invokestatic 66, 3) := by decide +kernel
theorem dX8_guess_23 : decode cX8_guess 23 = .ok (.ifCond .ne 6, 3) := by decide +kernel
theorem dX8_guess_26 : decode cX8_guess 26 = .ok (.bipush (-2), 2) := by decide +kernel
theorem dX8_guess_28 : decode cX8_guess 28 = .ok (.ireturn, 1) := by decide +kernel
theorem dX8_guess_29 : decode cX8_guess 29 = .ok (.aload_n 0, 1) := by decide +kernel
theorem dX8_guess_30 : decode cX8_guess 30 = .ok (.invokevirtual 74, 3) := by decide +kernel
theorem dX8_guess_33 : decode cX8_guess 33 = .ok (.aload_n 0, 1) := by decide +kernel
theorem dX8_guess_34 : decode cX8_guess 34 = .ok (.getfield 26, 3) := by decide +kernel
theorem dX8_guess_37 : decode cX8_guess 37 = .ok (.getfield 107, 3) := by decide +kernel
theorem dX8_guess_40 : decode cX8_guess 40 = .ok (.iload_n 1, 1) := by decide +kernel
theorem dX8_guess_41 : decode cX8_guess 41 = .ok (.iload_n 2, 1) := by decide +kernel
theorem dX8_guess_42 : decode cX8_guess 42 = .ok (.invokestatic 103, 3) := by decide +kernel
theorem dX8_guess_45 : decode cX8_guess 45 = .ok (.ireturn, 1) := by decide +kernel
theorem dX8_site_0 : decode cX8_site 0 = .ok (.aload_n 0, 1) := by decide +kernel
theorem dX8_site_1 : decode cX8_site 1 = .ok (.getfield 26, 3) := by decide +kernel
theorem dX8_site_4 : decode cX8_site 4 = .ok (.iload_n 1, 1) := by decide +kernel
theorem dX8_site_5 : decode cX8_site 5 = .ok (.invokevirtual 81, 3) := by decide +kernel
theorem dX8_site_8 : decode cX8_site 8 = .ok (.ifCond .ne 5, 3) := by decide +kernel
theorem dX8_site_11 : decode cX8_site 11 = .ok (.iconst (-1), 1) := by decide +kernel
theorem dX8_site_12 : decode cX8_site 12 = .ok (.ireturn, 1) := by decide +kernel
theorem dX8_site_13 : decode cX8_site 13 = .ok (.iload_n 2, 1) := by decide +kernel
theorem dX8_site_14 : decode cX8_site 14 = .ok (.ldc 110, 2) := by decide +kernel
theorem dX8_site_16 : decode cX8_site 16 = .ok (.invokestatic 66, 3) := by decide +kernel
theorem dX8_site_19 : decode cX8_site 19 = .ok (.ifCond .ne 6, 3) := by decide +kernel
theorem dX8_site_22 : decode cX8_site 22 = .ok (.bipush (-2), 2) := by decide +kernel
theorem dX8_site_24 : decode cX8_site 24 = .ok (.ireturn, 1) := by decide +kernel
theorem dX8_site_25 : decode cX8_site 25 = .ok (.aload_n 0, 1) := by decide +kernel
theorem dX8_site_26 : decode cX8_site 26 = .ok (.getfield 36, 3) := by decide +kernel
theorem dX8_site_29 : decode cX8_site 29 = .ok (.getfield 111, 3) := by decide +kernel
theorem dX8_site_32 : decode cX8_site 32 = .ok (.iconst 4, 1) := by decide +kernel
theorem dX8_site_33 : decode cX8_site 33 = .ok (.if_icmp .lt 6, 3) := by decide +kernel
theorem dX8_site_36 : decode cX8_site 36 = .ok (.bipush (-4), 2) := by decide +kernel
theorem dX8_site_38 : decode cX8_site 38 = .ok (.ireturn, 1) := by decide +kernel
theorem dX8_site_39 : decode cX8_site 39 = .ok (.aload_n 0, 1) := by decide +kernel
theorem dX8_site_40 : decode cX8_site 40 = .ok (.invokevirtual 74, 3) := by decide +kernel
theorem dX8_site_43 : decode cX8_site 43 = .ok (.aload_n 0, 1) := by decide +kernel
theorem dX8_site_44 : decode cX8_site 44 = .ok (.getfield 32, 3) := by decide +kernel
theorem dX8_site_47 : decode cX8_site 47 = .ok (.getfield 112, 3) := by decide +kernel
theorem dX8_site_50 : decode cX8_site 50 = .ok (.aload_n 0, 1) := by decide +kernel
theorem dX8_site_51 : decode cX8_site 51 = .ok (.getfield 36, 3) := by decide +kernel
theorem dX8_site_54 : decode cX8_site 54 = .ok (.getfield 111, 3) := by decide +kernel
theorem dX8_site_57 : decode cX8_site 57 = .ok (.iload_n 1, 1) := by decide +kernel
theorem dX8_site_58 : decode cX8_site 58 = .ok (.iastore, 1) := by decide +kernel
theorem dX8_site_59 : decode cX8_site 59 = .ok (.aload_n 0, 1) := by decide +kernel
theorem dX8_site_60 : decode cX8_site 60 = .ok (.getfield 32, 3) := by decide +kernel
theorem dX8_site_63 : decode cX8_site 63 = .ok (.getfield 115, 3) := by decide +kernel
theorem dX8_site_66 : decode cX8_site 66 = .ok (.aload_n 0, 1) := by decide +kernel
theorem dX8_site_67 : decode cX8_site 67 = .ok (.getfield 36, 3) := by decide +kernel
theorem dX8_site_70 : decode cX8_site 70 = .ok (.getfield 111, 3) := by decide +kernel
theorem dX8_site_73 : decode cX8_site 73 = .ok (.iload_n 2, 1) := by decide +kernel
theorem dX8_site_74 : decode cX8_site 74 = .ok (.iastore, 1) := by decide +kernel
theorem dX8_site_75 : decode cX8_site 75 = .ok (.aload_n 0, 1) := by decide +kernel
theorem dX8_site_76 : decode cX8_site 76 = .ok (.getfield 36, 3) := by decide +kernel
theorem dX8_site_79 : decode cX8_site 79 = .ok (.invokevirtual 118, 3) := by decide +kernel
theorem dX8_site_82 : decode cX8_site 82 = .ok (.ireturn, 1) := by decide +kernel
theorem dX8_room_0 : decode cX8_room 0 = .ok (.aload_n 0, 1) := by decide +kernel
theorem dX8_room_1 : decode cX8_room 1 = .ok (.getfield 36, 3) := by decide +kernel
theorem dX8_room_4 : decode cX8_room 4 = .ok (.iload_n 1, 1) := by decide +kernel
theorem dX8_room_5 : decode cX8_room 5 = .ok (.invokevirtual 121, 3) := by decide +kernel
theorem dX8_room_8 : decode cX8_room 8 = .ok (.ifCond .ne 5, 3) := by decide +kernel
theorem dX8_room_11 : decode cX8_room 11 = .ok (.iconst (-1), 1) := by decide +kernel
theorem dX8_room_12 : decode cX8_room 12 = .ok (.ireturn, 1) := by decide +kernel
theorem dX8_room_13 : decode cX8_room 13 = .ok (.iload_n 2, 1) := by decide +kernel
theorem dX8_room_14 : decode cX8_room 14 = .ok (.ldc 110, 2) := by decide +kernel
theorem dX8_room_16 : decode cX8_room 16 = .ok (.invokestatic 66, 3) := by decide +kernel
theorem dX8_room_19 : decode cX8_room 19 = .ok (.ifCond .ne 6, 3) := by decide +kernel
theorem dX8_room_22 : decode cX8_room 22 = .ok (.bipush (-2), 2) := by decide +kernel
theorem dX8_room_24 : decode cX8_room 24 = .ok (.ireturn, 1) := by decide +kernel
theorem dX8_room_25 : decode cX8_room 25 = .ok (.aload_n 0, 1) := by decide +kernel
theorem dX8_room_26 : decode cX8_room 26 = .ok (.invokevirtual 74, 3) := by decide +kernel
theorem dX8_room_29 : decode cX8_room 29 = .ok (.aload_n 0, 1) := by decide +kernel
theorem dX8_room_30 : decode cX8_room 30 = .ok (.getfield 32, 3) := by decide +kernel
theorem dX8_room_33 : decode cX8_room 33 = .ok (.getfield 115, 3) := by decide +kernel
theorem dX8_room_36 : decode cX8_room 36 = .ok (.iload_n 1, 1) := by decide +kernel
theorem dX8_room_37 : decode cX8_room 37 = .ok (.iload_n 2, 1) := by decide +kernel
theorem dX8_room_38 : decode cX8_room 38 = .ok (.invokestatic 103, 3) := by decide +kernel
theorem dX8_room_41 : decode cX8_room 41 = .ok (.ireturn, 1) := by decide +kernel
theorem dX8_up_0 : decode cX8_up 0 = .ok (.aload_n 0, 1) := by decide +kernel
theorem dX8_up_1 : decode cX8_up 1 = .ok (.getfield 36, 3) := by decide +kernel
theorem dX8_up_4 : decode cX8_up 4 = .ok (.iload_n 1, 1) := by decide +kernel
theorem dX8_up_5 : decode cX8_up 5 = .ok (.invokevirtual 121, 3) := by decide +kernel
theorem dX8_up_8 : decode cX8_up 8 = .ok (.ifCond .ne 5, 3) := by decide +kernel
theorem dX8_up_11 : decode cX8_up 11 = .ok (.iconst (-1), 1) := by decide +kernel
theorem dX8_up_12 : decode cX8_up 12 = .ok (.ireturn, 1) := by decide +kernel
theorem dX8_up_13 : decode cX8_up 13 = .ok (.aload_n 0, 1) := by decide +kernel
theorem dX8_up_14 : decode cX8_up 14 = .ok (.invokevirtual 74, 3) := by decide +kernel
theorem dX8_up_17 : decode cX8_up 17 = .ok (.aload_n 0, 1) := by decide +kernel
theorem dX8_up_18 : decode cX8_up 18 = .ok (.getfield 36, 3) := by decide +kernel
theorem dX8_up_21 : decode cX8_up 21 = .ok (.getfield 122, 3) := by decide +kernel
theorem dX8_up_24 : decode cX8_up 24 = .ok (.iload_n 1, 1) := by decide +kernel
theorem dX8_up_25 : decode cX8_up 25 = .ok (.iload_n 2, 1) := by decide +kernel
theorem dX8_up_26 : decode cX8_up 26 = .ok (.invokestatic 126, 3) := by decide +kernel
theorem dX8_up_29 : decode cX8_up 29 = .ok (.ireturn, 1) := by decide +kernel
theorem dX8_kind_0 : decode cX8_kind 0 = .ok (.aload_n 0, 1) := by decide +kernel
theorem dX8_kind_1 : decode cX8_kind 1 = .ok (.getfield 36, 3) := by decide +kernel
theorem dX8_kind_4 : decode cX8_kind 4 = .ok (.iload_n 1, 1) := by decide +kernel
theorem dX8_kind_5 : decode cX8_kind 5 = .ok (.invokevirtual 121, 3) := by decide +kernel
theorem dX8_kind_8 : decode cX8_kind 8 = .ok (.ifCond .ne 5, 3) := by decide +kernel
theorem dX8_kind_11 : decode cX8_kind 11 = .ok (.iconst (-1), 1) := by decide +kernel
theorem dX8_kind_12 : decode cX8_kind 12 = .ok (.ireturn, 1) := by decide +kernel
theorem dX8_kind_13 : decode cX8_kind 13 = .ok (.iload_n 2, 1) := by decide +kernel
theorem dX8_kind_14 : decode cX8_kind 14 = .ok (.iconst 4, 1) := by decide +kernel
theorem dX8_kind_15 : decode cX8_kind 15 = .ok (.invokestatic 66, 3) := by decide +kernel
theorem dX8_kind_18 : decode cX8_kind 18 = .ok (.ifCond .ne 6, 3) := by decide +kernel
theorem dX8_kind_21 : decode cX8_kind 21 = .ok (.bipush (-2), 2) := by decide +kernel
theorem dX8_kind_23 : decode cX8_kind 23 = .ok (.ireturn, 1) := by decide +kernel
theorem dX8_kind_24 : decode cX8_kind 24 = .ok (.aload_n 0, 1) := by decide +kernel
theorem dX8_kind_25 : decode cX8_kind 25 = .ok (.invokevirtual 74, 3) := by decide +kernel
theorem dX8_kind_28 : decode cX8_kind 28 = .ok (.aload_n 0, 1) := by decide +kernel
theorem dX8_kind_29 : decode cX8_kind 29 = .ok (.getfield 36, 3) := by decide +kernel
theorem dX8_kind_32 : decode cX8_kind 32 = .ok (.getfield 129, 3) := by decide +kernel
theorem dX8_kind_35 : decode cX8_kind 35 = .ok (.iload_n 1, 1) := by decide +kernel
theorem dX8_kind_36 : decode cX8_kind 36 = .ok (.iload_n 2, 1) := by decide +kernel
theorem dX8_kind_37 : decode cX8_kind 37 = .ok (.invokestatic 103, 3) := by decide +kernel
theorem dX8_kind_40 : decode cX8_kind 40 = .ok (.ireturn, 1) := by decide +kernel
theorem dX8_held_0 : decode cX8_held 0 = .ok (.aload_n 0, 1) := by decide +kernel
theorem dX8_held_1 : decode cX8_held 1 = .ok (.getfield 36, 3) := by decide +kernel
theorem dX8_held_4 : decode cX8_held 4 = .ok (.iload_n 1, 1) := by decide +kernel
theorem dX8_held_5 : decode cX8_held 5 = .ok (.invokevirtual 121, 3) := by decide +kernel
theorem dX8_held_8 : decode cX8_held 8 = .ok (.ifCond .ne 5, 3) := by decide +kernel
theorem dX8_held_11 : decode cX8_held 11 = .ok (.iconst (-1), 1) := by decide +kernel
theorem dX8_held_12 : decode cX8_held 12 = .ok (.ireturn, 1) := by decide +kernel
theorem dX8_held_13 : decode cX8_held 13 = .ok (.iload_n 2, 1) := by decide +kernel
theorem dX8_held_14 : decode cX8_held 14 = .ok (.aload_n 0, 1) := by decide +kernel
theorem dX8_held_15 : decode cX8_held 15 = .ok (.getfield 26, 3) := by decide +kernel
theorem dX8_held_18 : decode cX8_held 18 = .ok (.invokevirtual 132, 3) := by decide +kernel
theorem dX8_held_21 : decode cX8_held 21 = .ok (.invokestatic 66, 3) := by decide +kernel
theorem dX8_held_24 : decode cX8_held 24 = .ok (.ifCond .ne 6, 3) := by decide +kernel
theorem dX8_held_27 : decode cX8_held 27 = .ok (.bipush (-2), 2) := by decide +kernel
theorem dX8_held_29 : decode cX8_held 29 = .ok (.ireturn, 1) := by decide +kernel
theorem dX8_held_30 : decode cX8_held 30 = .ok (.aload_n 0, 1) := by decide +kernel
theorem dX8_held_31 : decode cX8_held 31 = .ok (.invokevirtual 74, 3) := by decide +kernel
theorem dX8_held_34 : decode cX8_held 34 = .ok (.aload_n 0, 1) := by decide +kernel
theorem dX8_held_35 : decode cX8_held 35 = .ok (.getfield 36, 3) := by decide +kernel
theorem dX8_held_38 : decode cX8_held 38 = .ok (.getfield 135, 3) := by decide +kernel
theorem dX8_held_41 : decode cX8_held 41 = .ok (.iload_n 1, 1) := by decide +kernel
theorem dX8_held_42 : decode cX8_held 42 = .ok (.iload_n 2, 1) := by decide +kernel
theorem dX8_held_43 : decode cX8_held 43 = .ok (.invokestatic 103, 3) := by decide +kernel
theorem dX8_held_46 : decode cX8_held 46 = .ok (.ireturn, 1) := by decide +kernel
theorem dX8_near_0 : decode cX8_near 0 = .ok (.aload_n 0, 1) := by decide +kernel
theorem dX8_near_1 : decode cX8_near 1 = .ok (.getfield 36, 3) := by decide +kernel
theorem dX8_near_4 : decode cX8_near 4 = .ok (.iload_n 1, 1) := by decide +kernel
theorem dX8_near_5 : decode cX8_near 5 = .ok (.invokevirtual 121, 3) := by decide +kernel
theorem dX8_near_8 : decode cX8_near 8 = .ok (.ifCond .ne 5, 3) := by decide +kernel
theorem dX8_near_11 : decode cX8_near 11 = .ok (.iconst (-1), 1) := by decide +kernel
theorem dX8_near_12 : decode cX8_near 12 = .ok (.ireturn, 1) := by decide +kernel
theorem dX8_near_13 : decode cX8_near 13 = .ok (.aload_n 0, 1) := by decide +kernel
theorem dX8_near_14 : decode cX8_near 14 = .ok (.invokevirtual 74, 3) := by decide +kernel
theorem dX8_near_17 : decode cX8_near 17 = .ok (.aload_n 0, 1) := by decide +kernel
theorem dX8_near_18 : decode cX8_near 18 = .ok (.getfield 36, 3) := by decide +kernel
theorem dX8_near_21 : decode cX8_near 21 = .ok (.getfield 138, 3) := by decide +kernel
theorem dX8_near_24 : decode cX8_near 24 = .ok (.iload_n 1, 1) := by decide +kernel
theorem dX8_near_25 : decode cX8_near 25 = .ok (.iload_n 2, 1) := by decide +kernel
theorem dX8_near_26 : decode cX8_near 26 = .ok (.invokestatic 126, 3) := by decide +kernel
theorem dX8_near_29 : decode cX8_near 29 = .ok (.ireturn, 1) := by decide +kernel
theorem dX8_late_0 : decode cX8_late 0 = .ok (.aload_n 0, 1) := by decide +kernel
theorem dX8_late_1 : decode cX8_late 1 = .ok (.getfield 26, 3) := by decide +kernel
theorem dX8_late_4 : decode cX8_late 4 = .ok (.iload_n 1, 1) := by decide +kernel
theorem dX8_late_5 : decode cX8_late 5 = .ok (.invokevirtual 81, 3) := by decide +kernel
theorem dX8_late_8 : decode cX8_late 8 = .ok (.ifCond .eq 14, 3) := by decide +kernel
theorem dX8_late_11 : decode cX8_late 11 = .ok (.aload_n 0, 1) := by decide +kernel
theorem dX8_late_12 : decode cX8_late 12 = .ok (.getfield 36, 3) := by decide +kernel
theorem dX8_late_15 : decode cX8_late 15 = .ok (.iload_n 2, 1) := by decide +kernel
theorem dX8_late_16 : decode cX8_late 16 = .ok (.invokevirtual 121, 3) := by decide +kernel
theorem dX8_late_19 : decode cX8_late 19 = .ok (.ifCond .ne 5, 3) := by decide +kernel
theorem dX8_late_22 : decode cX8_late 22 = .ok (.iconst (-1), 1) := by decide +kernel
theorem dX8_late_23 : decode cX8_late 23 = .ok (.ireturn, 1) := by decide +kernel
theorem dX8_late_24 : decode cX8_late 24 = .ok (.iload_n 3, 1) := by decide +kernel
theorem dX8_late_25 : decode cX8_late 25 = .ok (.sipush 999, 3) := by decide +kernel
theorem dX8_late_28 : decode cX8_late 28 = .ok (.invokestatic 66, 3) := by decide +kernel
theorem dX8_late_31 : decode cX8_late 31 = .ok (.ifCond .ne 6, 3) := by decide +kernel
theorem dX8_late_34 : decode cX8_late 34 = .ok (.bipush (-2), 2) := by decide +kernel
theorem dX8_late_36 : decode cX8_late 36 = .ok (.ireturn, 1) := by decide +kernel
theorem dX8_late_37 : decode cX8_late 37 = .ok (.aload_n 0, 1) := by decide +kernel
theorem dX8_late_38 : decode cX8_late 38 = .ok (.invokevirtual 74, 3) := by decide +kernel
theorem dX8_late_41 : decode cX8_late 41 = .ok (.aload_n 0, 1) := by decide +kernel
theorem dX8_late_42 : decode cX8_late 42 = .ok (.getfield 32, 3) := by decide +kernel
theorem dX8_late_45 : decode cX8_late 45 = .ok (.getfield 141, 3) := by decide +kernel
theorem dX8_late_48 : decode cX8_late 48 = .ok (.iload_n 1, 1) := by decide +kernel
theorem dX8_late_49 : decode cX8_late 49 = .ok (.iconst 4, 1) := by decide +kernel
theorem dX8_late_50 : decode cX8_late 50 = .ok (.imul, 1) := by decide +kernel
theorem dX8_late_51 : decode cX8_late 51 = .ok (.iload_n 2, 1) := by decide +kernel
theorem dX8_late_52 : decode cX8_late 52 = .ok (.iadd, 1) := by decide +kernel
theorem dX8_late_53 : decode cX8_late 53 = .ok (.iload_n 3, 1) := by decide +kernel
theorem dX8_late_54 : decode cX8_late 54 = .ok (.invokestatic 103, 3) := by decide +kernel
theorem dX8_late_57 : decode cX8_late 57 = .ok (.ireturn, 1) := by decide +kernel
theorem dX8_rounds_0 : decode cX8_rounds 0 = .ok (.aload_n 0, 1) := by decide +kernel
theorem dX8_rounds_1 : decode cX8_rounds 1 = .ok (.invokevirtual 144, 3) := by decide +kernel
theorem dX8_rounds_4 : decode cX8_rounds 4 = .ok (.ireturn, 1) := by decide +kernel
theorem dX8_comes_0 : decode cX8_comes 0 = .ok (.aload_n 0, 1) := by decide +kernel
theorem dX8_comes_1 : decode cX8_comes 1 = .ok (.aload_n 0, 1) := by decide +kernel
theorem dX8_comes_2 : decode cX8_comes 2 = .ok (.getfield 26, 3) := by decide +kernel
theorem dX8_comes_5 : decode cX8_comes 5 = .ok (.iload_n 1, 1) := by decide +kernel
theorem dX8_comes_6 : decode cX8_comes 6 = .ok (.invokevirtual 81, 3) := by decide +kernel
theorem dX8_comes_9 : decode cX8_comes 9 = .ok (.invokevirtual 147, 3) := by decide +kernel
theorem dX8_comes_12 : decode cX8_comes 12 = .ok (.istore_n 2, 1) := by decide +kernel
theorem dX8_comes_13 : decode cX8_comes 13 = .ok (.iload_n 2, 1) := by decide +kernel
theorem dX8_comes_14 : decode cX8_comes 14 = .ok (.ifCond .eq 7, 3) := by decide +kernel
theorem dX8_comes_17 : decode cX8_comes 17 = .ok (.iload_n 2, 1) := by decide +kernel
theorem dX8_comes_18 : decode cX8_comes 18 = .ok (.goto 11, 3) := by decide +kernel
theorem dX8_comes_21 : decode cX8_comes 21 = .ok (.aload_n 0, 1) := by decide +kernel
theorem dX8_comes_22 : decode cX8_comes 22 = .ok (.getfield 40, 3) := by decide +kernel
theorem dX8_comes_25 : decode cX8_comes 25 = .ok (.iload_n 1, 1) := by decide +kernel
theorem dX8_comes_26 : decode cX8_comes 26 = .ok (.invokevirtual 151, 3) := by decide +kernel
theorem dX8_comes_29 : decode cX8_comes 29 = .ok (.ireturn, 1) := by decide +kernel
theorem dX8_names_0 : decode cX8_names 0 = .ok (.aload_n 0, 1) := by decide +kernel
theorem dX8_names_1 : decode cX8_names 1 = .ok (.aload_n 0, 1) := by decide +kernel
theorem dX8_names_2 : decode cX8_names 2 = .ok (.getfield 26, 3) := by decide +kernel
theorem dX8_names_5 : decode cX8_names 5 = .ok (.iload_n 1, 1) := by decide +kernel
theorem dX8_names_6 : decode cX8_names 6 = .ok (.invokevirtual 81, 3) := by decide +kernel
theorem dX8_names_9 : decode cX8_names 9 = .ok (.invokevirtual 147, 3) := by decide +kernel
theorem dX8_names_12 : decode cX8_names 12 = .ok (.istore_n 2, 1) := by decide +kernel
theorem dX8_names_13 : decode cX8_names 13 = .ok (.iload_n 2, 1) := by decide +kernel
theorem dX8_names_14 : decode cX8_names 14 = .ok (.ifCond .eq 7, 3) := by decide +kernel
theorem dX8_names_17 : decode cX8_names 17 = .ok (.iload_n 2, 1) := by decide +kernel
theorem dX8_names_18 : decode cX8_names 18 = .ok (.goto 15, 3) := by decide +kernel
theorem dX8_names_21 : decode cX8_names 21 = .ok (.aload_n 0, 1) := by decide +kernel
theorem dX8_names_22 : decode cX8_names 22 = .ok (.getfield 40, 3) := by decide +kernel
theorem dX8_names_25 : decode cX8_names 25 = .ok (.getfield 154, 3) := by decide +kernel
theorem dX8_names_28 : decode cX8_names 28 = .ok (.iload_n 1, 1) := by decide +kernel
theorem dX8_names_29 : decode cX8_names 29 = .ok (.laload, 1) := by decide +kernel
theorem dX8_names_30 : decode cX8_names 30 = .ok (.invokestatic 158, 3) := by decide +kernel
theorem dX8_names_33 : decode cX8_names 33 = .ok (.ireturn, 1) := by decide +kernel
theorem dX8_way_0 : decode cX8_way 0 = .ok (.aload_n 0, 1) := by decide +kernel
theorem dX8_way_1 : decode cX8_way 1 = .ok (.aload_n 0, 1) := by decide +kernel
theorem dX8_way_2 : decode cX8_way 2 = .ok (.getfield 26, 3) := by decide +kernel
theorem dX8_way_5 : decode cX8_way 5 = .ok (.iload_n 1, 1) := by decide +kernel
theorem dX8_way_6 : decode cX8_way 6 = .ok (.invokevirtual 81, 3) := by decide +kernel
theorem dX8_way_9 : decode cX8_way 9 = .ok (.invokevirtual 147, 3) := by decide +kernel
theorem dX8_way_12 : decode cX8_way 12 = .ok (.istore_n 3, 1) := by decide +kernel
theorem dX8_way_13 : decode cX8_way 13 = .ok (.iload_n 3, 1) := by decide +kernel
theorem dX8_way_14 : decode cX8_way 14 = .ok (.ifCond .eq 7, 3) := by decide +kernel
theorem dX8_way_17 : decode cX8_way 17 = .ok (.iload_n 3, 1) := by decide +kernel
theorem dX8_way_18 : decode cX8_way 18 = .ok (.goto 16, 3) := by decide +kernel
theorem dX8_way_21 : decode cX8_way 21 = .ok (.aload_n 0, 1) := by decide +kernel
theorem dX8_way_22 : decode cX8_way 22 = .ok (.getfield 40, 3) := by decide +kernel
theorem dX8_way_25 : decode cX8_way 25 = .ok (.getfield 154, 3) := by decide +kernel
theorem dX8_way_28 : decode cX8_way 28 = .ok (.iload_n 1, 1) := by decide +kernel
theorem dX8_way_29 : decode cX8_way 29 = .ok (.laload, 1) := by decide +kernel
theorem dX8_way_30 : decode cX8_way 30 = .ok (.iload_n 2, 1) := by decide +kernel
theorem dX8_way_31 : decode cX8_way 31 = .ok (.invokestatic 162, 3) := by decide +kernel
theorem dX8_way_34 : decode cX8_way 34 = .ok (.ireturn, 1) := by decide +kernel
theorem dX8_told_0 : decode cX8_told 0 = .ok (.aload_n 0, 1) := by decide +kernel
theorem dX8_told_1 : decode cX8_told 1 = .ok (.aload_n 0, 1) := by decide +kernel
theorem dX8_told_2 : decode cX8_told 2 = .ok (.getfield 26, 3) := by decide +kernel
theorem dX8_told_5 : decode cX8_told 5 = .ok (.iload_n 1, 1) := by decide +kernel
theorem dX8_told_6 : decode cX8_told 6 = .ok (.invokevirtual 81, 3) := by decide +kernel
theorem dX8_told_9 : decode cX8_told 9 = .ok (.invokevirtual 147, 3) := by decide +kernel
theorem dX8_told_12 : decode cX8_told 12 = .ok (.istore_n 2, 1) := by decide +kernel
theorem dX8_told_13 : decode cX8_told 13 = .ok (.iload_n 2, 1) := by decide +kernel
theorem dX8_told_14 : decode cX8_told 14 = .ok (.ifCond .eq 5, 3) := by decide +kernel
theorem dX8_told_17 : decode cX8_told 17 = .ok (.iload_n 2, 1) := by decide +kernel
theorem dX8_told_18 : decode cX8_told 18 = .ok (.ireturn, 1) := by decide +kernel
theorem dX8_told_19 : decode cX8_told 19 = .ok (.aload_n 0, 1) := by decide +kernel
theorem dX8_told_20 : decode cX8_told 20 = .ok (.getfield 40, 3) := by decide +kernel
theorem dX8_told_23 : decode cX8_told 23 = .ok (.aload_n 0, 1) := by decide +kernel
theorem dX8_told_24 : decode cX8_told 24 = .ok (.getfield 36, 3) := by decide +kernel
theorem dX8_told_27 : decode cX8_told 27 = .ok (.iload_n 1, 1) := by decide +kernel
theorem dX8_told_28 : decode cX8_told 28 = .ok (.invokevirtual 166, 3) := by decide +kernel
theorem dX8_told_31 : decode cX8_told 31 = .ok (.aload_n 0, 1) := by decide +kernel
theorem dX8_told_32 : decode cX8_told 32 = .ok (.getfield 40, 3) := by decide +kernel
theorem dX8_told_35 : decode cX8_told 35 = .ok (.getfield 170, 3) := by decide +kernel
theorem dX8_told_38 : decode cX8_told 38 = .ok (.ireturn, 1) := by decide +kernel
theorem dX8_why_0 : decode cX8_why 0 = .ok (.aload_n 0, 1) := by decide +kernel
theorem dX8_why_1 : decode cX8_why 1 = .ok (.aload_n 0, 1) := by decide +kernel
theorem dX8_why_2 : decode cX8_why 2 = .ok (.getfield 26, 3) := by decide +kernel
theorem dX8_why_5 : decode cX8_why 5 = .ok (.iload_n 1, 1) := by decide +kernel
theorem dX8_why_6 : decode cX8_why 6 = .ok (.invokevirtual 81, 3) := by decide +kernel
theorem dX8_why_9 : decode cX8_why 9 = .ok (.invokevirtual 147, 3) := by decide +kernel
theorem dX8_why_12 : decode cX8_why 12 = .ok (.istore_n 2, 1) := by decide +kernel
theorem dX8_why_13 : decode cX8_why 13 = .ok (.iload_n 2, 1) := by decide +kernel
theorem dX8_why_14 : decode cX8_why 14 = .ok (.ifCond .eq 5, 3) := by decide +kernel
theorem dX8_why_17 : decode cX8_why 17 = .ok (.iload_n 2, 1) := by decide +kernel
theorem dX8_why_18 : decode cX8_why 18 = .ok (.ireturn, 1) := by decide +kernel
theorem dX8_why_19 : decode cX8_why 19 = .ok (.aload_n 0, 1) := by decide +kernel
theorem dX8_why_20 : decode cX8_why 20 = .ok (.getfield 40, 3) := by decide +kernel
theorem dX8_why_23 : decode cX8_why 23 = .ok (.aload_n 0, 1) := by decide +kernel
theorem dX8_why_24 : decode cX8_why 24 = .ok (.getfield 36, 3) := by decide +kernel
theorem dX8_why_27 : decode cX8_why 27 = .ok (.iload_n 1, 1) := by decide +kernel
theorem dX8_why_28 : decode cX8_why 28 = .ok (.invokevirtual 166, 3) := by decide +kernel
theorem dX8_why_31 : decode cX8_why 31 = .ok (.aload_n 0, 1) := by decide +kernel
theorem dX8_why_32 : decode cX8_why 32 = .ok (.getfield 40, 3) := by decide +kernel
theorem dX8_why_35 : decode cX8_why 35 = .ok (.iload_n 1, 1) := by decide +kernel
theorem dX8_why_36 : decode cX8_why 36 = .ok (.invokevirtual 173, 3) := by decide +kernel
theorem dX8_why_39 : decode cX8_why 39 = .ok (.ireturn, 1) := by decide +kernel
theorem dX8_load_0 : decode cX8_load 0 = .ok (.aload_n 0, 1) := by decide +kernel
theorem dX8_load_1 : decode cX8_load 1 = .ok (.aload_n 0, 1) := by decide +kernel
theorem dX8_load_2 : decode cX8_load 2 = .ok (.getfield 36, 3) := by decide +kernel
theorem dX8_load_5 : decode cX8_load 5 = .ok (.iload_n 1, 1) := by decide +kernel
theorem dX8_load_6 : decode cX8_load 6 = .ok (.invokevirtual 121, 3) := by decide +kernel
theorem dX8_load_9 : decode cX8_load 9 = .ok (.invokevirtual 147, 3) := by decide +kernel
theorem dX8_load_12 : decode cX8_load 12 = .ok (.istore_n 2, 1) := by decide +kernel
theorem dX8_load_13 : decode cX8_load 13 = .ok (.iload_n 2, 1) := by decide +kernel
theorem dX8_load_14 : decode cX8_load 14 = .ok (.ifCond .eq 5, 3) := by decide +kernel
theorem dX8_load_17 : decode cX8_load 17 = .ok (.iload_n 2, 1) := by decide +kernel
theorem dX8_load_18 : decode cX8_load 18 = .ok (.ireturn, 1) := by decide +kernel
theorem dX8_load_19 : decode cX8_load 19 = .ok (.iconst 0, 1) := by decide +kernel
theorem dX8_load_20 : decode cX8_load 20 = .ok (.istore_n 3, 1) := by decide +kernel
theorem dX8_load_21 : decode cX8_load 21 = .ok (.iconst 0, 1) := by decide +kernel
theorem dX8_load_22 : decode cX8_load 22 = .ok (.istore 4, 2) := by decide +kernel
theorem dX8_load_24 : decode cX8_load 24 = .ok (.iload 4, 2) := by decide +kernel
theorem dX8_load_26 : decode cX8_load 26 = .ok (.aload_n 0, 1) := by decide +kernel
theorem dX8_load_27 : decode cX8_load 27 = .ok (.getfield 26, 3) := by decide +kernel
theorem dX8_load_30 : decode cX8_load 30 = .ok (.getfield 70, 3) := by decide +kernel
theorem dX8_load_33 : decode cX8_load 33 = .ok (.if_icmp .ge 35, 3) := by decide +kernel
theorem dX8_load_36 : decode cX8_load 36 = .ok (.aload_n 0, 1) := by decide +kernel
theorem dX8_load_37 : decode cX8_load 37 = .ok (.getfield 40, 3) := by decide +kernel
theorem dX8_load_40 : decode cX8_load 40 = .ok (.iload 4, 2) := by decide +kernel
theorem dX8_load_42 : decode cX8_load 42 = .ok (.invokevirtual 151, 3) := by decide +kernel
theorem dX8_load_45 : decode cX8_load 45 = .ok (.iload_n 1, 1) := by decide +kernel
theorem dX8_load_46 : decode cX8_load 46 = .ok (.if_icmp .ne 16, 3) := by decide +kernel
theorem dX8_load_49 : decode cX8_load 49 = .ok (.iload_n 3, 1) := by decide +kernel
theorem dX8_load_50 : decode cX8_load 50 = .ok (.aload_n 0, 1) := by decide +kernel
theorem dX8_load_51 : decode cX8_load 51 = .ok (.getfield 26, 3) := by decide +kernel
theorem dX8_load_54 : decode cX8_load 54 = .ok (.getfield 99, 3) := by decide +kernel
theorem dX8_load_57 : decode cX8_load 57 = .ok (.iload 4, 2) := by decide +kernel
theorem dX8_load_59 : decode cX8_load 59 = .ok (.iaload, 1) := by decide +kernel
theorem dX8_load_60 : decode cX8_load 60 = .ok (.iadd, 1) := by decide +kernel
theorem dX8_load_61 : decode cX8_load 61 = .ok (.istore_n 3, 1) := by decide +kernel
theorem dX8_load_62 : decode cX8_load 62 = .ok (.iinc 4 1, 3) := by decide +kernel
theorem dX8_load_65 : decode cX8_load 65 = .ok (.goto (-41), 3) := by decide +kernel
theorem dX8_load_68 : decode cX8_load 68 = .ok (.iload_n 3, 1) := by decide +kernel
theorem dX8_load_69 : decode cX8_load 69 = .ok (.ireturn, 1) := by decide +kernel
theorem dX8_excess_0 : decode cX8_excess 0 = .ok (.aload_n 0, 1) := by decide +kernel
theorem dX8_excess_1 : decode cX8_excess 1 = .ok (.getfield 44, 3) := by decide +kernel
theorem dX8_excess_4 : decode cX8_excess 4 = .ok (.invokevirtual 176, 3) := by decide +kernel
theorem dX8_excess_7 : decode cX8_excess 7 = .ok (.aload_n 0, 1) := by decide +kernel
theorem dX8_excess_8 : decode cX8_excess 8 = .ok (.getfield 44, 3) := by decide +kernel
theorem dX8_excess_11 : decode cX8_excess 11 = .ok (.getfield 179, 3) := by decide +kernel
theorem dX8_excess_14 : decode cX8_excess 14 = .ok (.aload_n 0, 1) := by decide +kernel
theorem dX8_excess_15 : decode cX8_excess 15 = .ok (.getfield 44, 3) := by decide +kernel
theorem dX8_excess_18 : decode cX8_excess 18 = .ok (.invokevirtual 182, 3) := by decide +kernel
theorem dX8_excess_21 : decode cX8_excess 21 = .ok (.iaload, 1) := by decide +kernel
theorem dX8_excess_22 : decode cX8_excess 22 = .ok (.invokestatic 185, 3) := by decide +kernel
theorem dX8_excess_25 : decode cX8_excess 25 = .ok (.ireturn, 1) := by decide +kernel
theorem dX8_sum_0 : decode cX8_sum 0 = .ok (.aload_n 0, 1) := by decide +kernel
theorem dX8_sum_1 : decode cX8_sum 1 = .ok (.getfield 44, 3) := by decide +kernel
theorem dX8_sum_4 : decode cX8_sum 4 = .ok (.invokevirtual 176, 3) := by decide +kernel
theorem dX8_sum_7 : decode cX8_sum 7 = .ok (.aload_n 0, 1) := by decide +kernel
theorem dX8_sum_8 : decode cX8_sum 8 = .ok (.getfield 44, 3) := by decide +kernel
theorem dX8_sum_11 : decode cX8_sum 11 = .ok (.invokevirtual 182, 3) := by decide +kernel
theorem dX8_sum_14 : decode cX8_sum 14 = .ok (.istore_n 1, 1) := by decide +kernel
theorem dX8_sum_15 : decode cX8_sum 15 = .ok (.aload_n 0, 1) := by decide +kernel
theorem dX8_sum_16 : decode cX8_sum 16 = .ok (.getfield 44, 3) := by decide +kernel
theorem dX8_sum_19 : decode cX8_sum 19 = .ok (.getfield 179, 3) := by decide +kernel
theorem dX8_sum_22 : decode cX8_sum 22 = .ok (.iload_n 1, 1) := by decide +kernel
theorem dX8_sum_23 : decode cX8_sum 23 = .ok (.iaload, 1) := by decide +kernel
theorem dX8_sum_24 : decode cX8_sum 24 = .ok (.bipush (-9), 2) := by decide +kernel
theorem dX8_sum_26 : decode cX8_sum 26 = .ok (.if_icmp .ne 9, 3) := by decide +kernel
theorem dX8_sum_29 : decode cX8_sum 29 = .ok (.ldc2_w 188, 3) := by decide +kernel
theorem dX8_sum_32 : decode cX8_sum 32 = .ok (.goto 13, 3) := by decide +kernel
theorem dX8_sum_35 : decode cX8_sum 35 = .ok (.aload_n 0, 1) := by decide +kernel
theorem dX8_sum_36 : decode cX8_sum 36 = .ok (.getfield 44, 3) := by decide +kernel
theorem dX8_sum_39 : decode cX8_sum 39 = .ok (.getfield 190, 3) := by decide +kernel
theorem dX8_sum_42 : decode cX8_sum 42 = .ok (.iload_n 1, 1) := by decide +kernel
theorem dX8_sum_43 : decode cX8_sum 43 = .ok (.iaload, 1) := by decide +kernel
theorem dX8_sum_44 : decode cX8_sum 44 = .ok (.i2l, 1) := by decide +kernel
theorem dX8_sum_45 : decode cX8_sum 45 = .ok (.lreturn, 1) := by decide +kernel
theorem dX8_without_0 : decode cX8_without 0 = .ok (.aload_n 0, 1) := by decide +kernel
theorem dX8_without_1 : decode cX8_without 1 = .ok (.getfield 36, 3) := by decide +kernel
theorem dX8_without_4 : decode cX8_without 4 = .ok (.iload_n 1, 1) := by decide +kernel
theorem dX8_without_5 : decode cX8_without 5 = .ok (.invokevirtual 121, 3) := by decide +kernel
theorem dX8_without_8 : decode cX8_without 8 = .ok (.ifCond .ne 5, 3) := by decide +kernel
theorem dX8_without_11 : decode cX8_without 11 = .ok (.iconst (-1), 1) := by decide +kernel
theorem dX8_without_12 : decode cX8_without 12 = .ok (.ireturn, 1) := by decide +kernel
theorem dX8_without_13 : decode cX8_without 13 = .ok (.aload_n 0, 1) := by decide +kernel
theorem dX8_without_14 : decode cX8_without 14 = .ok (.getfield 36, 3) := by decide +kernel
theorem dX8_without_17 : decode cX8_without 17 = .ok (.getfield 122, 3) := by decide +kernel
theorem dX8_without_20 : decode cX8_without 20 = .ok (.iload_n 1, 1) := by decide +kernel
theorem dX8_without_21 : decode cX8_without 21 = .ok (.baload, 1) := by decide +kernel
theorem dX8_without_22 : decode cX8_without 22 = .ok (.ifCond .ne 6, 3) := by decide +kernel
theorem dX8_without_25 : decode cX8_without 25 = .ok (.bipush (-3), 2) := by decide +kernel
theorem dX8_without_27 : decode cX8_without 27 = .ok (.ireturn, 1) := by decide +kernel
theorem dX8_without_28 : decode cX8_without 28 = .ok (.aload_n 0, 1) := by decide +kernel
theorem dX8_without_29 : decode cX8_without 29 = .ok (.getfield 44, 3) := by decide +kernel
theorem dX8_without_32 : decode cX8_without 32 = .ok (.invokevirtual 176, 3) := by decide +kernel
theorem dX8_without_35 : decode cX8_without 35 = .ok (.aload_n 0, 1) := by decide +kernel
theorem dX8_without_36 : decode cX8_without 36 = .ok (.getfield 44, 3) := by decide +kernel
theorem dX8_without_39 : decode cX8_without 39 = .ok (.getfield 193, 3) := by decide +kernel
theorem dX8_without_42 : decode cX8_without 42 = .ok (.iload_n 1, 1) := by decide +kernel
theorem dX8_without_43 : decode cX8_without 43 = .ok (.iconst 4, 1) := by decide +kernel
theorem dX8_without_44 : decode cX8_without 44 = .ok (.iastore, 1) := by decide +kernel
theorem dX8_without_45 : decode cX8_without 45 = .ok (.aload_n 0, 1) := by decide +kernel
theorem dX8_without_46 : decode cX8_without 46 = .ok (.getfield 44, 3) := by decide +kernel
theorem dX8_without_49 : decode cX8_without 49 = .ok (.getfield 179, 3) := by decide +kernel
theorem dX8_without_52 : decode cX8_without 52 = .ok (.aload_n 0, 1) := by decide +kernel
theorem dX8_without_53 : decode cX8_without 53 = .ok (.getfield 44, 3) := by decide +kernel
theorem dX8_without_56 : decode cX8_without 56 = .ok (.invokevirtual 182, 3) := by decide +kernel
theorem dX8_without_59 : decode cX8_without 59 = .ok (.iaload, 1) := by decide +kernel
theorem dX8_without_60 : decode cX8_without 60 = .ok (.invokestatic 185, 3) := by decide +kernel
theorem dX8_without_63 : decode cX8_without 63 = .ok (.ireturn, 1) := by decide +kernel
theorem dX8_moves_0 : decode cX8_moves 0 = .ok (.aload_n 0, 1) := by decide +kernel
theorem dX8_moves_1 : decode cX8_moves 1 = .ok (.getfield 36, 3) := by decide +kernel
theorem dX8_moves_4 : decode cX8_moves 4 = .ok (.iload_n 1, 1) := by decide +kernel
theorem dX8_moves_5 : decode cX8_moves 5 = .ok (.invokevirtual 121, 3) := by decide +kernel
theorem dX8_moves_8 : decode cX8_moves 8 = .ok (.ifCond .ne 5, 3) := by decide +kernel
theorem dX8_moves_11 : decode cX8_moves 11 = .ok (.iconst (-1), 1) := by decide +kernel
theorem dX8_moves_12 : decode cX8_moves 12 = .ok (.ireturn, 1) := by decide +kernel
theorem dX8_moves_13 : decode cX8_moves 13 = .ok (.iload_n 2, 1) := by decide +kernel
theorem dX8_moves_14 : decode cX8_moves 14 = .ok (.iconst 4, 1) := by decide +kernel
theorem dX8_moves_15 : decode cX8_moves 15 = .ok (.invokestatic 66, 3) := by decide +kernel
theorem dX8_moves_18 : decode cX8_moves 18 = .ok (.ifCond .ne 6, 3) := by decide +kernel
theorem dX8_moves_21 : decode cX8_moves 21 = .ok (.bipush (-2), 2) := by decide +kernel
theorem dX8_moves_23 : decode cX8_moves 23 = .ok (.ireturn, 1) := by decide +kernel
theorem dX8_moves_24 : decode cX8_moves 24 = .ok (.aload_n 0, 1) := by decide +kernel
theorem dX8_moves_25 : decode cX8_moves 25 = .ok (.invokevirtual 144, 3) := by decide +kernel
theorem dX8_moves_28 : decode cX8_moves 28 = .ok (.bipush (-9), 2) := by decide +kernel
theorem dX8_moves_30 : decode cX8_moves 30 = .ok (.if_icmp .ne 6, 3) := by decide +kernel
theorem dX8_moves_33 : decode cX8_moves 33 = .ok (.bipush (-3), 2) := by decide +kernel
theorem dX8_moves_35 : decode cX8_moves 35 = .ok (.ireturn, 1) := by decide +kernel
theorem dX8_moves_36 : decode cX8_moves 36 = .ok (.aload_n 0, 1) := by decide +kernel
theorem dX8_moves_37 : decode cX8_moves 37 = .ok (.getfield 40, 3) := by decide +kernel
theorem dX8_moves_40 : decode cX8_moves 40 = .ok (.invokevirtual 196, 3) := by decide +kernel
theorem dX8_moves_43 : decode cX8_moves 43 = .ok (.istore_n 3, 1) := by decide +kernel
theorem dX8_moves_44 : decode cX8_moves 44 = .ok (.aload_n 0, 1) := by decide +kernel
theorem dX8_moves_45 : decode cX8_moves 45 = .ok (.getfield 36, 3) := by decide +kernel
theorem dX8_moves_48 : decode cX8_moves 48 = .ok (.getfield 129, 3) := by decide +kernel
theorem dX8_moves_51 : decode cX8_moves 51 = .ok (.iload_n 1, 1) := by decide +kernel
theorem dX8_moves_52 : decode cX8_moves 52 = .ok (.iload_n 2, 1) := by decide +kernel
theorem dX8_moves_53 : decode cX8_moves 53 = .ok (.invokestatic 103, 3) := by decide +kernel
theorem dX8_moves_56 : decode cX8_moves 56 = .ok (.istore 4, 2) := by decide +kernel
theorem dX8_moves_58 : decode cX8_moves 58 = .ok (.aload_n 0, 1) := by decide +kernel
theorem dX8_moves_59 : decode cX8_moves 59 = .ok (.invokevirtual 144, 3) := by decide +kernel
theorem dX8_moves_62 : decode cX8_moves 62 = .ok (.bipush (-9), 2) := by decide +kernel
theorem dX8_moves_64 : decode cX8_moves 64 = .ok (.if_icmp .eq 7, 3) := by decide +kernel
theorem dX8_moves_67 : decode cX8_moves 67 = .ok (.iconst 1, 1) := by decide +kernel
theorem dX8_moves_68 : decode cX8_moves 68 = .ok (.goto 4, 3) := by decide +kernel
theorem dX8_moves_71 : decode cX8_moves 71 = .ok (.iconst 0, 1) := by decide +kernel
theorem dX8_moves_72 : decode cX8_moves 72 = .ok (.istore 5, 2) := by decide +kernel
theorem dX8_moves_74 : decode cX8_moves 74 = .ok (.aload_n 0, 1) := by decide +kernel
theorem dX8_moves_75 : decode cX8_moves 75 = .ok (.getfield 36, 3) := by decide +kernel
theorem dX8_moves_78 : decode cX8_moves 78 = .ok (.getfield 129, 3) := by decide +kernel
theorem dX8_moves_81 : decode cX8_moves 81 = .ok (.iload_n 1, 1) := by decide +kernel
theorem dX8_moves_82 : decode cX8_moves 82 = .ok (.iload 4, 2) := by decide +kernel
theorem dX8_moves_84 : decode cX8_moves 84 = .ok (.iastore, 1) := by decide +kernel
theorem dX8_moves_85 : decode cX8_moves 85 = .ok (.iload 5, 2) := by decide +kernel
theorem dX8_moves_87 : decode cX8_moves 87 = .ok (.ifCond .eq 21, 3) := by decide +kernel
theorem dX8_moves_90 : decode cX8_moves 90 = .ok (.aload_n 0, 1) := by decide +kernel
theorem dX8_moves_91 : decode cX8_moves 91 = .ok (.getfield 26, 3) := by decide +kernel
theorem dX8_moves_94 : decode cX8_moves 94 = .ok (.iload_n 3, 1) := by decide +kernel
theorem dX8_moves_95 : decode cX8_moves 95 = .ok (.aload_n 0, 1) := by decide +kernel
theorem dX8_moves_96 : decode cX8_moves 96 = .ok (.getfield 40, 3) := by decide +kernel
theorem dX8_moves_99 : decode cX8_moves 99 = .ok (.invokevirtual 196, 3) := by decide +kernel
theorem dX8_moves_102 : decode cX8_moves 102 = .ok (.invokevirtual 199, 3) := by decide +kernel
theorem dX8_moves_105 : decode cX8_moves 105 = .ok (.goto 5, 3) := by decide +kernel
theorem dX8_moves_108 : decode cX8_moves 108 = .ok (.bipush (-3), 2) := by decide +kernel
theorem dX8_moves_110 : decode cX8_moves 110 = .ok (.ireturn, 1) := by decide +kernel
theorem dX8_trial_0 : decode cX8_trial 0 = .ok (.aload_n 0, 1) := by decide +kernel
theorem dX8_trial_1 : decode cX8_trial 1 = .ok (.getfield 62, 3) := by decide +kernel
theorem dX8_trial_4 : decode cX8_trial 4 = .ok (.getfield 202, 3) := by decide +kernel
theorem dX8_trial_7 : decode cX8_trial 7 = .ok (.bipush 6, 2) := by decide +kernel
theorem dX8_trial_9 : decode cX8_trial 9 = .ok (.if_icmp .lt 6, 3) := by decide +kernel
theorem dX8_trial_12 : decode cX8_trial 12 = .ok (.bipush (-4), 2) := by decide +kernel
theorem dX8_trial_14 : decode cX8_trial 14 = .ok (.ireturn, 1) := by decide +kernel
theorem dX8_trial_15 : decode cX8_trial 15 = .ok (.aload_n 0, 1) := by decide +kernel
theorem dX8_trial_16 : decode cX8_trial 16 = .ok (.getfield 62, 3) := by decide +kernel
theorem dX8_trial_19 : decode cX8_trial 19 = .ok (.invokevirtual 205, 3) := by decide +kernel
theorem dX8_trial_22 : decode cX8_trial 22 = .ok (.aload_n 0, 1) := by decide +kernel
theorem dX8_trial_23 : decode cX8_trial 23 = .ok (.getfield 62, 3) := by decide +kernel
theorem dX8_trial_26 : decode cX8_trial 26 = .ok (.invokevirtual 208, 3) := by decide +kernel
theorem dX8_trial_29 : decode cX8_trial 29 = .ok (.ireturn, 1) := by decide +kernel
theorem dX8_seen_0 : decode cX8_seen 0 = .ok (.iload_n 3, 1) := by decide +kernel
theorem dX8_seen_1 : decode cX8_seen 1 = .ok (.bipush (-9), 2) := by decide +kernel
theorem dX8_seen_3 : decode cX8_seen 3 = .ok (.if_icmp .eq 19, 3) := by decide +kernel
theorem dX8_seen_6 : decode cX8_seen 6 = .ok (.iload_n 3, 1) := by decide +kernel
theorem dX8_seen_7 : decode cX8_seen 7 = .ok (.iconst 4, 1) := by decide +kernel
theorem dX8_seen_8 : decode cX8_seen 8 = .ok (.if_icmp .eq 14, 3) := by decide +kernel
theorem dX8_seen_11 : decode cX8_seen 11 = .ok (.aload_n 0, 1) := by decide +kernel
theorem dX8_seen_12 : decode cX8_seen 12 = .ok (.getfield 36, 3) := by decide +kernel
theorem dX8_seen_15 : decode cX8_seen 15 = .ok (.iload_n 3, 1) := by decide +kernel
theorem dX8_seen_16 : decode cX8_seen 16 = .ok (.invokevirtual 121, 3) := by decide +kernel
theorem dX8_seen_19 : decode cX8_seen 19 = .ok (.ifCond .eq 7, 3) := by decide +kernel
theorem dX8_seen_22 : decode cX8_seen 22 = .ok (.iconst 1, 1) := by decide +kernel
theorem dX8_seen_23 : decode cX8_seen 23 = .ok (.goto 4, 3) := by decide +kernel
theorem dX8_seen_26 : decode cX8_seen 26 = .ok (.iconst 0, 1) := by decide +kernel
theorem dX8_seen_27 : decode cX8_seen 27 = .ok (.istore 4, 2) := by decide +kernel
theorem dX8_seen_29 : decode cX8_seen 29 = .ok (.iload_n 1, 1) := by decide +kernel
theorem dX8_seen_30 : decode cX8_seen 30 = .ok (.ifCond .lt 30, 3) := by decide +kernel
theorem dX8_seen_33 : decode cX8_seen 33 = .ok (.iload_n 1, 1) := by decide +kernel
theorem dX8_seen_34 : decode cX8_seen 34 = .ok (.aload_n 0, 1) := by decide +kernel
theorem dX8_seen_35 : decode cX8_seen 35 = .ok (.getfield 62, 3) := by decide +kernel
theorem dX8_seen_38 : decode cX8_seen 38 = .ok (.getfield 202, 3) := by decide +kernel
theorem dX8_seen_41 : decode cX8_seen 41 = .ok (.if_icmp .ge 19, 3) := by decide +kernel
theorem dX8_seen_44 : decode cX8_seen 44 = .ok (.aload_n 0, 1) := by decide +kernel
theorem dX8_seen_45 : decode cX8_seen 45 = .ok (.getfield 26, 3) := by decide +kernel
theorem dX8_seen_48 : decode cX8_seen 48 = .ok (.iload_n 2, 1) := by decide +kernel
theorem dX8_seen_49 : decode cX8_seen 49 = .ok (.invokevirtual 81, 3) := by decide +kernel
theorem dX8_seen_52 : decode cX8_seen 52 = .ok (.ifCond .eq 8, 3) := by decide +kernel
theorem dX8_seen_55 : decode cX8_seen 55 = .ok (.iload 4, 2) := by decide +kernel
theorem dX8_seen_57 : decode cX8_seen 57 = .ok (.ifCond .ne 5, 3) := by decide +kernel
theorem dX8_seen_60 : decode cX8_seen 60 = .ok (.iconst (-1), 1) := by decide +kernel
theorem dX8_seen_61 : decode cX8_seen 61 = .ok (.ireturn, 1) := by decide +kernel
theorem dX8_seen_62 : decode cX8_seen 62 = .ok (.aload_n 0, 1) := by decide +kernel
theorem dX8_seen_63 : decode cX8_seen 63 = .ok (.getfield 62, 3) := by decide +kernel
theorem dX8_seen_66 : decode cX8_seen 66 = .ok (.invokevirtual 205, 3) := by decide +kernel
theorem dX8_seen_69 : decode cX8_seen 69 = .ok (.aload_n 0, 1) := by decide +kernel
theorem dX8_seen_70 : decode cX8_seen 70 = .ok (.getfield 62, 3) := by decide +kernel
theorem dX8_seen_73 : decode cX8_seen 73 = .ok (.getfield 211, 3) := by decide +kernel
theorem dX8_seen_76 : decode cX8_seen 76 = .ok (.iload_n 1, 1) := by decide +kernel
theorem dX8_seen_77 : decode cX8_seen 77 = .ok (.aaload, 1) := by decide +kernel
theorem dX8_seen_78 : decode cX8_seen 78 = .ok (.getfield 215, 3) := by decide +kernel
theorem dX8_seen_81 : decode cX8_seen 81 = .ok (.iload_n 2, 1) := by decide +kernel
theorem dX8_seen_82 : decode cX8_seen 82 = .ok (.iload_n 3, 1) := by decide +kernel
theorem dX8_seen_83 : decode cX8_seen 83 = .ok (.invokestatic 103, 3) := by decide +kernel
theorem dX8_seen_86 : decode cX8_seen 86 = .ok (.ireturn, 1) := by decide +kernel
theorem dX8_cases_0 : decode cX8_cases 0 = .ok (.aload_n 0, 1) := by decide +kernel
theorem dX8_cases_1 : decode cX8_cases 1 = .ok (.getfield 26, 3) := by decide +kernel
theorem dX8_cases_4 : decode cX8_cases 4 = .ok (.invokevirtual 220, 3) := by decide +kernel
theorem dX8_cases_7 : decode cX8_cases 7 = .ok (.istore_n 1, 1) := by decide +kernel
theorem dX8_cases_8 : decode cX8_cases 8 = .ok (.iload_n 1, 1) := by decide +kernel
theorem dX8_cases_9 : decode cX8_cases 9 = .ok (.sipush 256, 3) := by decide +kernel
theorem dX8_cases_12 : decode cX8_cases 12 = .ok (.if_icmp .le 8, 3) := by decide +kernel
theorem dX8_cases_15 : decode cX8_cases 15 = .ok (.bipush (-5), 2) := by decide +kernel
theorem dX8_cases_17 : decode cX8_cases 17 = .ok (.goto 4, 3) := by decide +kernel
theorem dX8_cases_20 : decode cX8_cases 20 = .ok (.iload_n 1, 1) := by decide +kernel
theorem dX8_cases_21 : decode cX8_cases 21 = .ok (.ireturn, 1) := by decide +kernel
theorem dX8_agree_0 : decode cX8_agree 0 = .ok (.aload_n 0, 1) := by decide +kernel
theorem dX8_agree_1 : decode cX8_agree 1 = .ok (.getfield 62, 3) := by decide +kernel
theorem dX8_agree_4 : decode cX8_agree 4 = .ok (.invokevirtual 223, 3) := by decide +kernel
theorem dX8_agree_7 : decode cX8_agree 7 = .ok (.ifCond .eq 13, 3) := by decide +kernel
theorem dX8_agree_10 : decode cX8_agree 10 = .ok (.aload_n 0, 1) := by decide +kernel
theorem dX8_agree_11 : decode cX8_agree 11 = .ok (.getfield 62, 3) := by decide +kernel
theorem dX8_agree_14 : decode cX8_agree 14 = .ok (.getfield 227, 3) := by decide +kernel
theorem dX8_agree_17 : decode cX8_agree 17 = .ok (.goto 5, 3) := by decide +kernel
theorem dX8_agree_20 : decode cX8_agree 20 = .ok (.bipush (-5), 2) := by decide +kernel
theorem dX8_agree_22 : decode cX8_agree 22 = .ok (.ireturn, 1) := by decide +kernel
theorem dX8_could_0 : decode cX8_could 0 = .ok (.aload_n 0, 1) := by decide +kernel
theorem dX8_could_1 : decode cX8_could 1 = .ok (.getfield 26, 3) := by decide +kernel
theorem dX8_could_4 : decode cX8_could 4 = .ok (.iload_n 1, 1) := by decide +kernel
theorem dX8_could_5 : decode cX8_could 5 = .ok (.invokevirtual 81, 3) := by decide +kernel
theorem dX8_could_8 : decode cX8_could 8 = .ok (.ifCond .ne 5, 3) := by decide +kernel
theorem dX8_could_11 : decode cX8_could 11 = .ok (.iconst (-1), 1) := by decide +kernel
theorem dX8_could_12 : decode cX8_could 12 = .ok (.ireturn, 1) := by decide +kernel
theorem dX8_could_13 : decode cX8_could 13 = .ok (.aload_n 0, 1) := by decide +kernel
theorem dX8_could_14 : decode cX8_could 14 = .ok (.getfield 62, 3) := by decide +kernel
theorem dX8_could_17 : decode cX8_could 17 = .ok (.invokevirtual 223, 3) := by decide +kernel
theorem dX8_could_20 : decode cX8_could 20 = .ok (.ifCond .eq 14, 3) := by decide +kernel
theorem dX8_could_23 : decode cX8_could 23 = .ok (.aload_n 0, 1) := by decide +kernel
theorem dX8_could_24 : decode cX8_could 24 = .ok (.getfield 62, 3) := by decide +kernel
theorem dX8_could_27 : decode cX8_could 27 = .ok (.iload_n 1, 1) := by decide +kernel
theorem dX8_could_28 : decode cX8_could 28 = .ok (.invokevirtual 230, 3) := by decide +kernel
theorem dX8_could_31 : decode cX8_could 31 = .ok (.goto 5, 3) := by decide +kernel
theorem dX8_could_34 : decode cX8_could 34 = .ok (.bipush (-5), 2) := by decide +kernel
theorem dX8_could_36 : decode cX8_could 36 = .ok (.ireturn, 1) := by decide +kernel
theorem dX8_rules_0 : decode cX8_rules 0 = .ok (.aload_n 0, 1) := by decide +kernel
theorem dX8_rules_1 : decode cX8_rules 1 = .ok (.getfield 26, 3) := by decide +kernel
theorem dX8_rules_4 : decode cX8_rules 4 = .ok (.iload_n 1, 1) := by decide +kernel
theorem dX8_rules_5 : decode cX8_rules 5 = .ok (.invokevirtual 81, 3) := by decide +kernel
theorem dX8_rules_8 : decode cX8_rules 8 = .ok (.ifCond .ne 5, 3) := by decide +kernel
theorem dX8_rules_11 : decode cX8_rules 11 = .ok (.iconst (-1), 1) := by decide +kernel
theorem dX8_rules_12 : decode cX8_rules 12 = .ok (.ireturn, 1) := by decide +kernel
theorem dX8_rules_13 : decode cX8_rules 13 = .ok (.aload_n 0, 1) := by decide +kernel
theorem dX8_rules_14 : decode cX8_rules 14 = .ok (.getfield 62, 3) := by decide +kernel
theorem dX8_rules_17 : decode cX8_rules 17 = .ok (.invokevirtual 223, 3) := by decide +kernel
theorem dX8_rules_20 : decode cX8_rules 20 = .ok (.ifCond .eq 14, 3) := by decide +kernel
theorem dX8_rules_23 : decode cX8_rules 23 = .ok (.aload_n 0, 1) := by decide +kernel
theorem dX8_rules_24 : decode cX8_rules 24 = .ok (.getfield 62, 3) := by decide +kernel
theorem dX8_rules_27 : decode cX8_rules 27 = .ok (.iload_n 1, 1) := by decide +kernel
theorem dX8_rules_28 : decode cX8_rules 28 = .ok (.invokevirtual 233, 3) := by decide +kernel
theorem dX8_rules_31 : decode cX8_rules 31 = .ok (.goto 5, 3) := by decide +kernel
theorem dX8_rules_34 : decode cX8_rules 34 = .ok (.bipush (-5), 2) := by decide +kernel
theorem dX8_rules_36 : decode cX8_rules 36 = .ok (.ireturn, 1) := by decide +kernel
theorem dX8_learn_0 : decode cX8_learn 0 = .ok (.aload_n 0, 1) := by decide +kernel
theorem dX8_learn_1 : decode cX8_learn 1 = .ok (.getfield 62, 3) := by decide +kernel
theorem dX8_learn_4 : decode cX8_learn 4 = .ok (.invokevirtual 223, 3) := by decide +kernel
theorem dX8_learn_7 : decode cX8_learn 7 = .ok (.ifCond .ne 6, 3) := by decide +kernel
theorem dX8_learn_10 : decode cX8_learn 10 = .ok (.bipush (-5), 2) := by decide +kernel
theorem dX8_learn_12 : decode cX8_learn 12 = .ok (.ireturn, 1) := by decide +kernel
theorem dX8_learn_13 : decode cX8_learn 13 = .ok (.aload_n 0, 1) := by decide +kernel
theorem dX8_learn_14 : decode cX8_learn 14 = .ok (.getfield 62, 3) := by decide +kernel
theorem dX8_learn_17 : decode cX8_learn 17 = .ok (.getfield 227, 3) := by decide +kernel
theorem dX8_learn_20 : decode cX8_learn 20 = .ok (.ifCond .ne 6, 3) := by decide +kernel
theorem dX8_learn_23 : decode cX8_learn 23 = .ok (.bipush (-3), 2) := by decide +kernel
theorem dX8_learn_25 : decode cX8_learn 25 = .ok (.ireturn, 1) := by decide +kernel
theorem dX8_learn_26 : decode cX8_learn 26 = .ok (.iconst 0, 1) := by decide +kernel
theorem dX8_learn_27 : decode cX8_learn 27 = .ok (.istore_n 1, 1) := by decide +kernel
theorem dX8_learn_28 : decode cX8_learn 28 = .ok (.iload_n 1, 1) := by decide +kernel
theorem dX8_learn_29 : decode cX8_learn 29 = .ok (.aload_n 0, 1) := by decide +kernel
theorem dX8_learn_30 : decode cX8_learn 30 = .ok (.getfield 26, 3) := by decide +kernel
theorem dX8_learn_33 : decode cX8_learn 33 = .ok (.getfield 70, 3) := by decide +kernel
theorem dX8_learn_36 : decode cX8_learn 36 = .ok (.if_icmp .ge 26, 3) := by decide +kernel
theorem dX8_learn_39 : decode cX8_learn 39 = .ok (.aload_n 0, 1) := by decide +kernel
theorem dX8_learn_40 : decode cX8_learn 40 = .ok (.getfield 26, 3) := by decide +kernel
theorem dX8_learn_43 : decode cX8_learn 43 = .ok (.getfield 107, 3) := by decide +kernel
theorem dX8_learn_46 : decode cX8_learn 46 = .ok (.iload_n 1, 1) := by decide +kernel
theorem dX8_learn_47 : decode cX8_learn 47 = .ok (.aload_n 0, 1) := by decide +kernel
theorem dX8_learn_48 : decode cX8_learn 48 = .ok (.getfield 62, 3) := by decide +kernel
theorem dX8_learn_51 : decode cX8_learn 51 = .ok (.iload_n 1, 1) := by decide +kernel
theorem dX8_learn_52 : decode cX8_learn 52 = .ok (.invokevirtual 233, 3) := by decide +kernel
theorem dX8_learn_55 : decode cX8_learn 55 = .ok (.iastore, 1) := by decide +kernel
theorem dX8_learn_56 : decode cX8_learn 56 = .ok (.iinc 1 1, 3) := by decide +kernel
theorem dX8_learn_59 : decode cX8_learn 59 = .ok (.goto (-31), 3) := by decide +kernel
theorem dX8_learn_62 : decode cX8_learn 62 = .ok (.aload_n 0, 1) := by decide +kernel
theorem dX8_learn_63 : decode cX8_learn 63 = .ok (.invokevirtual 74, 3) := by decide +kernel
theorem dX8_learn_66 : decode cX8_learn 66 = .ok (.aload_n 0, 1) := by decide +kernel
theorem dX8_learn_67 : decode cX8_learn 67 = .ok (.getfield 26, 3) := by decide +kernel
theorem dX8_learn_70 : decode cX8_learn 70 = .ok (.invokevirtual 220, 3) := by decide +kernel
theorem dX8_learn_73 : decode cX8_learn 73 = .ok (.ireturn, 1) := by decide +kernel
theorem dX8_quarrel_0 : decode cX8_quarrel 0 = .ok (.aload_n 0, 1) := by decide +kernel
theorem dX8_quarrel_1 : decode cX8_quarrel 1 = .ok (.getfield 62, 3) := by decide +kernel
theorem dX8_quarrel_4 : decode cX8_quarrel 4 = .ok (.invokevirtual 223, 3) := by decide +kernel
theorem dX8_quarrel_7 : decode cX8_quarrel 7 = .ok (.ifCond .eq 13, 3) := by decide +kernel
theorem dX8_quarrel_10 : decode cX8_quarrel 10 = .ok (.aload_n 0, 1) := by decide +kernel
theorem dX8_quarrel_11 : decode cX8_quarrel 11 = .ok (.getfield 62, 3) := by decide +kernel
theorem dX8_quarrel_14 : decode cX8_quarrel 14 = .ok (.getfield 236, 3) := by decide +kernel
theorem dX8_quarrel_17 : decode cX8_quarrel 17 = .ok (.goto 5, 3) := by decide +kernel
theorem dX8_quarrel_20 : decode cX8_quarrel 20 = .ok (.bipush (-5), 2) := by decide +kernel
theorem dX8_quarrel_22 : decode cX8_quarrel 22 = .ok (.ireturn, 1) := by decide +kernel
theorem dX8_next_0 : decode cX8_next 0 = .ok (.aload_n 0, 1) := by decide +kernel
theorem dX8_next_1 : decode cX8_next 1 = .ok (.getfield 62, 3) := by decide +kernel
theorem dX8_next_4 : decode cX8_next 4 = .ok (.invokevirtual 223, 3) := by decide +kernel
theorem dX8_next_7 : decode cX8_next 7 = .ok (.ifCond .ne 6, 3) := by decide +kernel
theorem dX8_next_10 : decode cX8_next 10 = .ok (.bipush (-5), 2) := by decide +kernel
theorem dX8_next_12 : decode cX8_next 12 = .ok (.ireturn, 1) := by decide +kernel
theorem dX8_next_13 : decode cX8_next 13 = .ok (.aload_n 0, 1) := by decide +kernel
theorem dX8_next_14 : decode cX8_next 14 = .ok (.getfield 62, 3) := by decide +kernel
theorem dX8_next_17 : decode cX8_next 17 = .ok (.getfield 227, 3) := by decide +kernel
theorem dX8_next_20 : decode cX8_next 20 = .ok (.iconst 2, 1) := by decide +kernel
theorem dX8_next_21 : decode cX8_next 21 = .ok (.if_icmp .lt 13, 3) := by decide +kernel
theorem dX8_next_24 : decode cX8_next 24 = .ok (.aload_n 0, 1) := by decide +kernel
theorem dX8_next_25 : decode cX8_next 25 = .ok (.getfield 36, 3) := by decide +kernel
theorem dX8_next_28 : decode cX8_next 28 = .ok (.invokevirtual 239, 3) := by decide +kernel
theorem dX8_next_31 : decode cX8_next 31 = .ok (.ifCond .ne 6, 3) := by decide +kernel
theorem dX8_next_34 : decode cX8_next 34 = .ok (.bipush (-9), 2) := by decide +kernel
theorem dX8_next_36 : decode cX8_next 36 = .ok (.ireturn, 1) := by decide +kernel
theorem dX8_next_37 : decode cX8_next 37 = .ok (.aload_n 0, 1) := by decide +kernel
theorem dX8_next_38 : decode cX8_next 38 = .ok (.getfield 62, 3) := by decide +kernel
theorem dX8_next_41 : decode cX8_next 41 = .ok (.invokevirtual 242, 3) := by decide +kernel
theorem dX8_next_44 : decode cX8_next 44 = .ok (.iload_n 1, 1) := by decide +kernel
theorem dX8_next_45 : decode cX8_next 45 = .ok (.ifCond .eq 13, 3) := by decide +kernel
theorem dX8_next_48 : decode cX8_next 48 = .ok (.aload_n 0, 1) := by decide +kernel
theorem dX8_next_49 : decode cX8_next 49 = .ok (.getfield 62, 3) := by decide +kernel
theorem dX8_next_52 : decode cX8_next 52 = .ok (.getfield 245, 3) := by decide +kernel
theorem dX8_next_55 : decode cX8_next 55 = .ok (.goto 21, 3) := by decide +kernel
theorem dX8_next_58 : decode cX8_next 58 = .ok (.bipush 10, 2) := by decide +kernel
theorem dX8_next_60 : decode cX8_next 60 = .ok (.aload_n 0, 1) := by decide +kernel
theorem dX8_next_61 : decode cX8_next 61 = .ok (.getfield 62, 3) := by decide +kernel
theorem dX8_next_64 : decode cX8_next 64 = .ok (.getfield 248, 3) := by decide +kernel
theorem dX8_next_67 : decode cX8_next 67 = .ok (.imul, 1) := by decide +kernel
theorem dX8_next_68 : decode cX8_next 68 = .ok (.aload_n 0, 1) := by decide +kernel
theorem dX8_next_69 : decode cX8_next 69 = .ok (.getfield 62, 3) := by decide +kernel
theorem dX8_next_72 : decode cX8_next 72 = .ok (.getfield 251, 3) := by decide +kernel
theorem dX8_next_75 : decode cX8_next 75 = .ok (.iadd, 1) := by decide +kernel
theorem dX8_next_76 : decode cX8_next 76 = .ok (.ireturn, 1) := by decide +kernel
theorem dX8_best_0 : decode cX8_best 0 = .ok (.aload_n 0, 1) := by decide +kernel
theorem dX8_best_1 : decode cX8_best 1 = .ok (.getfield 44, 3) := by decide +kernel
theorem dX8_best_4 : decode cX8_best 4 = .ok (.invokevirtual 254, 3) := by decide +kernel
theorem dX8_best_7 : decode cX8_best 7 = .ok (.aload_n 0, 1) := by decide +kernel
theorem dX8_best_8 : decode cX8_best 8 = .ok (.getfield 44, 3) := by decide +kernel
theorem dX8_best_11 : decode cX8_best 11 = .ok (.iload_n 1, 1) := by decide +kernel
theorem dX8_best_12 : decode cX8_best 12 = .ok (.invokevirtual 257, 3) := by decide +kernel
theorem dX8_best_15 : decode cX8_best 15 = .ok (.aload_n 0, 1) := by decide +kernel
theorem dX8_best_16 : decode cX8_best 16 = .ok (.getfield 44, 3) := by decide +kernel
theorem dX8_best_19 : decode cX8_best 19 = .ok (.getfield 261, 3) := by decide +kernel
theorem dX8_best_22 : decode cX8_best 22 = .ok (.ireturn, 1) := by decide +kernel
theorem dX8_bestSum_0 : decode cX8_bestSum 0 = .ok (.aload_n 0, 1) := by decide +kernel
theorem dX8_bestSum_1 : decode cX8_bestSum 1 = .ok (.getfield 44, 3) := by decide +kernel
theorem dX8_bestSum_4 : decode cX8_bestSum 4 = .ok (.invokevirtual 254, 3) := by decide +kernel
theorem dX8_bestSum_7 : decode cX8_bestSum 7 = .ok (.aload_n 0, 1) := by decide +kernel
theorem dX8_bestSum_8 : decode cX8_bestSum 8 = .ok (.getfield 44, 3) := by decide +kernel
theorem dX8_bestSum_11 : decode cX8_bestSum 11 = .ok (.iload_n 1, 1) := by decide +kernel
theorem dX8_bestSum_12 : decode cX8_bestSum 12 = .ok (.invokevirtual 257, 3) := by decide +kernel
theorem dX8_bestSum_15 : decode cX8_bestSum 15 = .ok (.aload_n 0, 1) := by decide +kernel
theorem dX8_bestSum_16 : decode cX8_bestSum 16 = .ok (.getfield 44, 3) := by decide +kernel
theorem dX8_bestSum_19 : decode cX8_bestSum 19 = .ok (.getfield 261, 3) := by decide +kernel
theorem dX8_bestSum_22 : decode cX8_bestSum 22 = .ok (.bipush (-9), 2) := by decide +kernel
theorem dX8_bestSum_24 : decode cX8_bestSum 24 = .ok (.if_icmp .ne 9, 3) := by decide +kernel
theorem dX8_bestSum_27 : decode cX8_bestSum 27 = .ok (.ldc2_w 264, 3) := by decide +kernel
theorem dX8_bestSum_30 : decode cX8_bestSum 30 = .ok (.goto 11, 3) := by decide +kernel
theorem dX8_bestSum_33 : decode cX8_bestSum 33 = .ok (.aload_n 0, 1) := by decide +kernel
theorem dX8_bestSum_34 : decode cX8_bestSum 34 = .ok (.getfield 44, 3) := by decide +kernel
theorem dX8_bestSum_37 : decode cX8_bestSum 37 = .ok (.getfield 266, 3) := by decide +kernel
theorem dX8_bestSum_40 : decode cX8_bestSum 40 = .ok (.i2l, 1) := by decide +kernel
theorem dX8_bestSum_41 : decode cX8_bestSum 41 = .ok (.lreturn, 1) := by decide +kernel
theorem dX8_bestKind_0 : decode cX8_bestKind 0 = .ok (.aload_n 0, 1) := by decide +kernel
theorem dX8_bestKind_1 : decode cX8_bestKind 1 = .ok (.getfield 36, 3) := by decide +kernel
theorem dX8_bestKind_4 : decode cX8_bestKind 4 = .ok (.iload_n 2, 1) := by decide +kernel
theorem dX8_bestKind_5 : decode cX8_bestKind 5 = .ok (.invokevirtual 121, 3) := by decide +kernel
theorem dX8_bestKind_8 : decode cX8_bestKind 8 = .ok (.ifCond .ne 5, 3) := by decide +kernel
theorem dX8_bestKind_11 : decode cX8_bestKind 11 = .ok (.iconst (-1), 1) := by decide +kernel
theorem dX8_bestKind_12 : decode cX8_bestKind 12 = .ok (.ireturn, 1) := by decide +kernel
theorem dX8_bestKind_13 : decode cX8_bestKind 13 = .ok (.aload_n 0, 1) := by decide +kernel
theorem dX8_bestKind_14 : decode cX8_bestKind 14 = .ok (.getfield 44, 3) := by decide +kernel
theorem dX8_bestKind_17 : decode cX8_bestKind 17 = .ok (.invokevirtual 254, 3) := by decide +kernel
theorem dX8_bestKind_20 : decode cX8_bestKind 20 = .ok (.aload_n 0, 1) := by decide +kernel
theorem dX8_bestKind_21 : decode cX8_bestKind 21 = .ok (.getfield 44, 3) := by decide +kernel
theorem dX8_bestKind_24 : decode cX8_bestKind 24 = .ok (.iload_n 1, 1) := by decide +kernel
theorem dX8_bestKind_25 : decode cX8_bestKind 25 = .ok (.invokevirtual 257, 3) := by decide +kernel
theorem dX8_bestKind_28 : decode cX8_bestKind 28 = .ok (.aload_n 0, 1) := by decide +kernel
theorem dX8_bestKind_29 : decode cX8_bestKind 29 = .ok (.getfield 44, 3) := by decide +kernel
theorem dX8_bestKind_32 : decode cX8_bestKind 32 = .ok (.getfield 261, 3) := by decide +kernel
theorem dX8_bestKind_35 : decode cX8_bestKind 35 = .ok (.bipush (-9), 2) := by decide +kernel
theorem dX8_bestKind_37 : decode cX8_bestKind 37 = .ok (.if_icmp .ne 6, 3) := by decide +kernel
theorem dX8_bestKind_40 : decode cX8_bestKind 40 = .ok (.bipush (-9), 2) := by decide +kernel
theorem dX8_bestKind_42 : decode cX8_bestKind 42 = .ok (.ireturn, 1) := by decide +kernel
theorem dX8_bestKind_43 : decode cX8_bestKind 43 = .ok (.aload_n 0, 1) := by decide +kernel
theorem dX8_bestKind_44 : decode cX8_bestKind 44 = .ok (.getfield 36, 3) := by decide +kernel
theorem dX8_bestKind_47 : decode cX8_bestKind 47 = .ok (.getfield 122, 3) := by decide +kernel
theorem dX8_bestKind_50 : decode cX8_bestKind 50 = .ok (.iload_n 2, 1) := by decide +kernel
theorem dX8_bestKind_51 : decode cX8_bestKind 51 = .ok (.baload, 1) := by decide +kernel
theorem dX8_bestKind_52 : decode cX8_bestKind 52 = .ok (.ifCond .eq 15, 3) := by decide +kernel
theorem dX8_bestKind_55 : decode cX8_bestKind 55 = .ok (.aload_n 0, 1) := by decide +kernel
theorem dX8_bestKind_56 : decode cX8_bestKind 56 = .ok (.getfield 44, 3) := by decide +kernel
theorem dX8_bestKind_59 : decode cX8_bestKind 59 = .ok (.getfield 269, 3) := by decide +kernel
theorem dX8_bestKind_62 : decode cX8_bestKind 62 = .ok (.iload_n 2, 1) := by decide +kernel
theorem dX8_bestKind_63 : decode cX8_bestKind 63 = .ok (.iaload, 1) := by decide +kernel
theorem dX8_bestKind_64 : decode cX8_bestKind 64 = .ok (.goto 12, 3) := by decide +kernel
theorem dX8_bestKind_67 : decode cX8_bestKind 67 = .ok (.aload_n 0, 1) := by decide +kernel
theorem dX8_bestKind_68 : decode cX8_bestKind 68 = .ok (.getfield 36, 3) := by decide +kernel
theorem dX8_bestKind_71 : decode cX8_bestKind 71 = .ok (.getfield 129, 3) := by decide +kernel
theorem dX8_bestKind_74 : decode cX8_bestKind 74 = .ok (.iload_n 2, 1) := by decide +kernel
theorem dX8_bestKind_75 : decode cX8_bestKind 75 = .ok (.iaload, 1) := by decide +kernel
theorem dX8_bestKind_76 : decode cX8_bestKind 76 = .ok (.ireturn, 1) := by decide +kernel
theorem dX8_aim_0 : decode cX8_aim 0 = .ok (.aload_n 0, 1) := by decide +kernel
theorem dX8_aim_1 : decode cX8_aim 1 = .ok (.getfield 36, 3) := by decide +kernel
theorem dX8_aim_4 : decode cX8_aim 4 = .ok (.iload_n 1, 1) := by decide +kernel
theorem dX8_aim_5 : decode cX8_aim 5 = .ok (.invokevirtual 121, 3) := by decide +kernel
theorem dX8_aim_8 : decode cX8_aim 8 = .ok (.ifCond .ne 5, 3) := by decide +kernel
theorem dX8_aim_11 : decode cX8_aim 11 = .ok (.iconst (-1), 1) := by decide +kernel
theorem dX8_aim_12 : decode cX8_aim 12 = .ok (.ireturn, 1) := by decide +kernel
theorem dX8_aim_13 : decode cX8_aim 13 = .ok (.iload_n 2, 1) := by decide +kernel
theorem dX8_aim_14 : decode cX8_aim 14 = .ok (.iconst 4, 1) := by decide +kernel
theorem dX8_aim_15 : decode cX8_aim 15 = .ok (.invokestatic 66, 3) := by decide +kernel
theorem dX8_aim_18 : decode cX8_aim 18 = .ok (.ifCond .ne 6, 3) := by decide +kernel
theorem dX8_aim_21 : decode cX8_aim 21 = .ok (.bipush (-2), 2) := by decide +kernel
theorem dX8_aim_23 : decode cX8_aim 23 = .ok (.ireturn, 1) := by decide +kernel
theorem dX8_aim_24 : decode cX8_aim 24 = .ok (.aload_n 0, 1) := by decide +kernel
theorem dX8_aim_25 : decode cX8_aim 25 = .ok (.getfield 53, 3) := by decide +kernel
theorem dX8_aim_28 : decode cX8_aim 28 = .ok (.iload_n 1, 1) := by decide +kernel
theorem dX8_aim_29 : decode cX8_aim 29 = .ok (.invokevirtual 272, 3) := by decide +kernel
theorem dX8_aim_32 : decode cX8_aim 32 = .ok (.istore_n 3, 1) := by decide +kernel
theorem dX8_aim_33 : decode cX8_aim 33 = .ok (.aload_n 0, 1) := by decide +kernel
theorem dX8_aim_34 : decode cX8_aim 34 = .ok (.getfield 32, 3) := by decide +kernel
theorem dX8_aim_37 : decode cX8_aim 37 = .ok (.getfield 275, 3) := by decide +kernel
theorem dX8_aim_40 : decode cX8_aim 40 = .ok (.iload_n 1, 1) := by decide +kernel
theorem dX8_aim_41 : decode cX8_aim 41 = .ok (.iload_n 2, 1) := by decide +kernel
theorem dX8_aim_42 : decode cX8_aim 42 = .ok (.iastore, 1) := by decide +kernel
theorem dX8_aim_43 : decode cX8_aim 43 = .ok (.iload_n 3, 1) := by decide +kernel
theorem dX8_aim_44 : decode cX8_aim 44 = .ok (.ireturn, 1) := by decide +kernel
theorem dX8_steps_0 : decode cX8_steps 0 = .ok (.aload_n 0, 1) := by decide +kernel
theorem dX8_steps_1 : decode cX8_steps 1 = .ok (.getfield 53, 3) := by decide +kernel
theorem dX8_steps_4 : decode cX8_steps 4 = .ok (.invokevirtual 278, 3) := by decide +kernel
theorem dX8_steps_7 : decode cX8_steps 7 = .ok (.invokestatic 281, 3) := by decide +kernel
theorem dX8_steps_10 : decode cX8_steps 10 = .ok (.ireturn, 1) := by decide +kernel
theorem dX8_step_0 : decode cX8_step 0 = .ok (.aload_n 0, 1) := by decide +kernel
theorem dX8_step_1 : decode cX8_step 1 = .ok (.getfield 53, 3) := by decide +kernel
theorem dX8_step_4 : decode cX8_step 4 = .ok (.invokevirtual 286, 3) := by decide +kernel
theorem dX8_step_7 : decode cX8_step 7 = .ok (.iload_n 1, 1) := by decide +kernel
theorem dX8_step_8 : decode cX8_step 8 = .ok (.ifCond .lt 26, 3) := by decide +kernel
theorem dX8_step_11 : decode cX8_step 11 = .ok (.iload_n 1, 1) := by decide +kernel
theorem dX8_step_12 : decode cX8_step 12 = .ok (.aload_n 0, 1) := by decide +kernel
theorem dX8_step_13 : decode cX8_step 13 = .ok (.getfield 53, 3) := by decide +kernel
theorem dX8_step_16 : decode cX8_step 16 = .ok (.getfield 289, 3) := by decide +kernel
theorem dX8_step_19 : decode cX8_step 19 = .ok (.if_icmp .ge 15, 3) := by decide +kernel
theorem dX8_step_22 : decode cX8_step 22 = .ok (.aload_n 0, 1) := by decide +kernel
theorem dX8_step_23 : decode cX8_step 23 = .ok (.getfield 53, 3) := by decide +kernel
theorem dX8_step_26 : decode cX8_step 26 = .ok (.getfield 292, 3) := by decide +kernel
theorem dX8_step_29 : decode cX8_step 29 = .ok (.iload_n 1, 1) := by decide +kernel
theorem dX8_step_30 : decode cX8_step 30 = .ok (.iaload, 1) := by decide +kernel
theorem dX8_step_31 : decode cX8_step 31 = .ok (.goto 5, 3) := by decide +kernel
theorem dX8_step_34 : decode cX8_step 34 = .ok (.bipush (-9), 2) := by decide +kernel
theorem dX8_step_36 : decode cX8_step 36 = .ok (.ireturn, 1) := by decide +kernel
theorem dX8_stepWorst_0 : decode cX8_stepWorst 0 = .ok (.aload_n 0, 1) := by decide +kernel
theorem dX8_stepWorst_1 : decode cX8_stepWorst 1 = .ok (.getfield 53, 3) := by decide +kernel
theorem dX8_stepWorst_4 : decode cX8_stepWorst 4 = .ok (.invokevirtual 286, 3) := by decide +kernel
theorem dX8_stepWorst_7 : decode cX8_stepWorst 7 = .ok (.aload_n 0, 1) := by decide +kernel
theorem dX8_stepWorst_8 : decode cX8_stepWorst 8 = .ok (.getfield 53, 3) := by decide +kernel
theorem dX8_stepWorst_11 : decode cX8_stepWorst 11 = .ok (.getfield 295, 3) := by decide +kernel
theorem dX8_stepWorst_14 : decode cX8_stepWorst 14 = .ok (.ireturn, 1) := by decide +kernel
theorem dX8_go_0 : decode cX8_go 0 = .ok (.aload_n 0, 1) := by decide +kernel
theorem dX8_go_1 : decode cX8_go 1 = .ok (.getfield 53, 3) := by decide +kernel
theorem dX8_go_4 : decode cX8_go 4 = .ok (.invokevirtual 286, 3) := by decide +kernel
theorem dX8_go_7 : decode cX8_go 7 = .ok (.aload_n 0, 1) := by decide +kernel
theorem dX8_go_8 : decode cX8_go 8 = .ok (.getfield 53, 3) := by decide +kernel
theorem dX8_go_11 : decode cX8_go 11 = .ok (.getfield 289, 3) := by decide +kernel
theorem dX8_go_14 : decode cX8_go 14 = .ok (.ifCond .ne 6, 3) := by decide +kernel
theorem dX8_go_17 : decode cX8_go 17 = .ok (.bipush (-9), 2) := by decide +kernel
theorem dX8_go_19 : decode cX8_go 19 = .ok (.ireturn, 1) := by decide +kernel
theorem dX8_go_20 : decode cX8_go 20 = .ok (.aload_n 0, 1) := by decide +kernel
theorem dX8_go_21 : decode cX8_go 21 = .ok (.getfield 53, 3) := by decide +kernel
theorem dX8_go_24 : decode cX8_go 24 = .ok (.getfield 292, 3) := by decide +kernel
theorem dX8_go_27 : decode cX8_go 27 = .ok (.iconst 0, 1) := by decide +kernel
theorem dX8_go_28 : decode cX8_go 28 = .ok (.iaload, 1) := by decide +kernel
theorem dX8_go_29 : decode cX8_go 29 = .ok (.istore_n 1, 1) := by decide +kernel
theorem dX8_go_30 : decode cX8_go 30 = .ok (.aload_n 0, 1) := by decide +kernel
theorem dX8_go_31 : decode cX8_go 31 = .ok (.getfield 36, 3) := by decide +kernel
theorem dX8_go_34 : decode cX8_go 34 = .ok (.getfield 129, 3) := by decide +kernel
theorem dX8_go_37 : decode cX8_go 37 = .ok (.iload_n 1, 1) := by decide +kernel
theorem dX8_go_38 : decode cX8_go 38 = .ok (.aload_n 0, 1) := by decide +kernel
theorem dX8_go_39 : decode cX8_go 39 = .ok (.getfield 53, 3) := by decide +kernel
theorem dX8_go_42 : decode cX8_go 42 = .ok (.iload_n 1, 1) := by decide +kernel
theorem dX8_go_43 : decode cX8_go 43 = .ok (.invokevirtual 272, 3) := by decide +kernel
theorem dX8_go_46 : decode cX8_go 46 = .ok (.iastore, 1) := by decide +kernel
theorem dX8_go_47 : decode cX8_go 47 = .ok (.aload_n 0, 1) := by decide +kernel
theorem dX8_go_48 : decode cX8_go 48 = .ok (.invokevirtual 74, 3) := by decide +kernel
theorem dX8_go_51 : decode cX8_go 51 = .ok (.iload_n 1, 1) := by decide +kernel
theorem dX8_go_52 : decode cX8_go 52 = .ok (.ireturn, 1) := by decide +kernel
theorem dX8_count_0 : decode cX8_count 0 = .ok (.iload_n 1, 1) := by decide +kernel
theorem dX8_count_1 : decode cX8_count 1 = .ok (.tableswitch 99 0 6 #[43, 51, 59, 67, 75, 83, 91], 43) := by decide +kernel
theorem dX8_count_44 : decode cX8_count 44 = .ok (.aload_n 0, 1) := by decide +kernel
theorem dX8_count_45 : decode cX8_count 45 = .ok (.getfield 26, 3) := by decide +kernel
theorem dX8_count_48 : decode cX8_count 48 = .ok (.getfield 70, 3) := by decide +kernel
theorem dX8_count_51 : decode cX8_count 51 = .ok (.ireturn, 1) := by decide +kernel
theorem dX8_count_52 : decode cX8_count 52 = .ok (.aload_n 0, 1) := by decide +kernel
theorem dX8_count_53 : decode cX8_count 53 = .ok (.getfield 26, 3) := by decide +kernel
theorem dX8_count_56 : decode cX8_count 56 = .ok (.getfield 92, 3) := by decide +kernel
theorem dX8_count_59 : decode cX8_count 59 = .ok (.ireturn, 1) := by decide +kernel
theorem dX8_count_60 : decode cX8_count 60 = .ok (.aload_n 0, 1) := by decide +kernel
theorem dX8_count_61 : decode cX8_count 61 = .ok (.getfield 36, 3) := by decide +kernel
theorem dX8_count_64 : decode cX8_count 64 = .ok (.getfield 111, 3) := by decide +kernel
theorem dX8_count_67 : decode cX8_count 67 = .ok (.ireturn, 1) := by decide +kernel
theorem dX8_count_68 : decode cX8_count 68 = .ok (.aload_n 0, 1) := by decide +kernel
theorem dX8_count_69 : decode cX8_count 69 = .ok (.getfield 36, 3) := by decide +kernel
theorem dX8_count_72 : decode cX8_count 72 = .ok (.invokevirtual 239, 3) := by decide +kernel
theorem dX8_count_75 : decode cX8_count 75 = .ok (.ireturn, 1) := by decide +kernel
theorem dX8_count_76 : decode cX8_count 76 = .ok (.aload_n 0, 1) := by decide +kernel
theorem dX8_count_77 : decode cX8_count 77 = .ok (.getfield 62, 3) := by decide +kernel
theorem dX8_count_80 : decode cX8_count 80 = .ok (.getfield 202, 3) := by decide +kernel
theorem dX8_count_83 : decode cX8_count 83 = .ok (.ireturn, 1) := by decide +kernel
theorem dX8_count_84 : decode cX8_count 84 = .ok (.aload_n 0, 1) := by decide +kernel
theorem dX8_count_85 : decode cX8_count 85 = .ok (.getfield 26, 3) := by decide +kernel
theorem dX8_count_88 : decode cX8_count 88 = .ok (.invokevirtual 298, 3) := by decide +kernel
theorem dX8_count_91 : decode cX8_count 91 = .ok (.ireturn, 1) := by decide +kernel
theorem dX8_count_92 : decode cX8_count 92 = .ok (.aload_n 0, 1) := by decide +kernel
theorem dX8_count_93 : decode cX8_count 93 = .ok (.getfield 26, 3) := by decide +kernel
theorem dX8_count_96 : decode cX8_count 96 = .ok (.invokevirtual 301, 3) := by decide +kernel
theorem dX8_count_99 : decode cX8_count 99 = .ok (.ireturn, 1) := by decide +kernel
theorem dX8_count_100 : decode cX8_count 100 = .ok (.bipush (-2), 2) := by decide +kernel
theorem dX8_count_102 : decode cX8_count 102 = .ok (.ireturn, 1) := by decide +kernel
theorem dX8_within_0 : decode cX8_within 0 = .ok (.iload_n 0, 1) := by decide +kernel
theorem dX8_within_1 : decode cX8_within 1 = .ok (.ifCond .lt 12, 3) := by decide +kernel
theorem dX8_within_4 : decode cX8_within 4 = .ok (.iload_n 0, 1) := by decide +kernel
theorem dX8_within_5 : decode cX8_within 5 = .ok (.iload_n 1, 1) := by decide +kernel
theorem dX8_within_6 : decode cX8_within 6 = .ok (.if_icmp .gt 7, 3) := by decide +kernel
theorem dX8_within_9 : decode cX8_within 9 = .ok (.iconst 1, 1) := by decide +kernel
theorem dX8_within_10 : decode cX8_within 10 = .ok (.goto 4, 3) := by decide +kernel
theorem dX8_within_13 : decode cX8_within 13 = .ok (.iconst 0, 1) := by decide +kernel
theorem dX8_within_14 : decode cX8_within 14 = .ok (.ireturn, 1) := by decide +kernel
theorem dX8_put_0 : decode cX8_put 0 = .ok (.aload_n 0, 1) := by decide +kernel
theorem dX8_put_1 : decode cX8_put 1 = .ok (.iload_n 1, 1) := by decide +kernel
theorem dX8_put_2 : decode cX8_put 2 = .ok (.iaload, 1) := by decide +kernel
theorem dX8_put_3 : decode cX8_put 3 = .ok (.istore_n 3, 1) := by decide +kernel
theorem dX8_put_4 : decode cX8_put 4 = .ok (.aload_n 0, 1) := by decide +kernel
theorem dX8_put_5 : decode cX8_put 5 = .ok (.iload_n 1, 1) := by decide +kernel
theorem dX8_put_6 : decode cX8_put 6 = .ok (.iload_n 2, 1) := by decide +kernel
theorem dX8_put_7 : decode cX8_put 7 = .ok (.iastore, 1) := by decide +kernel
theorem dX8_put_8 : decode cX8_put 8 = .ok (.iload_n 3, 1) := by decide +kernel
theorem dX8_put_9 : decode cX8_put 9 = .ok (.ireturn, 1) := by decide +kernel
theorem dX8_put__0 : decode cX8_put_ 0 = .ok (.aload_n 0, 1) := by decide +kernel
theorem dX8_put__1 : decode cX8_put_ 1 = .ok (.iload_n 1, 1) := by decide +kernel
theorem dX8_put__2 : decode cX8_put_ 2 = .ok (.baload, 1) := by decide +kernel
theorem dX8_put__3 : decode cX8_put_ 3 = .ok (.ifCond .eq 7, 3) := by decide +kernel
theorem dX8_put__6 : decode cX8_put_ 6 = .ok (.iconst 1, 1) := by decide +kernel
theorem dX8_put__7 : decode cX8_put_ 7 = .ok (.goto 4, 3) := by decide +kernel
theorem dX8_put__10 : decode cX8_put_ 10 = .ok (.iconst 0, 1) := by decide +kernel
theorem dX8_put__11 : decode cX8_put_ 11 = .ok (.istore_n 3, 1) := by decide +kernel
theorem dX8_put__12 : decode cX8_put_ 12 = .ok (.aload_n 0, 1) := by decide +kernel
theorem dX8_put__13 : decode cX8_put_ 13 = .ok (.iload_n 1, 1) := by decide +kernel
theorem dX8_put__14 : decode cX8_put_ 14 = .ok (.iload_n 2, 1) := by decide +kernel
theorem dX8_put__15 : decode cX8_put_ 15 = .ok (.bastore, 1) := by decide +kernel
theorem dX8_put__16 : decode cX8_put_ 16 = .ok (.iload_n 3, 1) := by decide +kernel
theorem dX8_put__17 : decode cX8_put_ 17 = .ok (.ireturn, 1) := by decide +kernel
theorem dX8_stateIfNone_0 : decode cX8_stateIfNone 0 = .ok (.iload_n 0, 1) := by decide +kernel
theorem dX8_stateIfNone_1 : decode cX8_stateIfNone 1 = .ok (.bipush (-9), 2) := by decide +kernel
theorem dX8_stateIfNone_3 : decode cX8_stateIfNone 3 = .ok (.if_icmp .ne 8, 3) := by decide +kernel
theorem dX8_stateIfNone_6 : decode cX8_stateIfNone 6 = .ok (.bipush (-3), 2) := by decide +kernel
theorem dX8_stateIfNone_8 : decode cX8_stateIfNone 8 = .ok (.goto 4, 3) := by decide +kernel
theorem dX8_stateIfNone_11 : decode cX8_stateIfNone 11 = .ok (.iload_n 0, 1) := by decide +kernel
theorem dX8_stateIfNone_12 : decode cX8_stateIfNone 12 = .ok (.ireturn, 1) := by decide +kernel
theorem dX8_forgetAll_0 : decode cX8_forgetAll 0 = .ok (.aload_n 0, 1) := by decide +kernel
theorem dX8_forgetAll_1 : decode cX8_forgetAll 1 = .ok (.getfield 44, 3) := by decide +kernel
theorem dX8_forgetAll_4 : decode cX8_forgetAll 4 = .ok (.invokevirtual 304, 3) := by decide +kernel
theorem dX8_forgetAll_7 : decode cX8_forgetAll 7 = .ok (.aload_n 0, 1) := by decide +kernel
theorem dX8_forgetAll_8 : decode cX8_forgetAll 8 = .ok (.getfield 62, 3) := by decide +kernel
theorem dX8_forgetAll_11 : decode cX8_forgetAll 11 = .ok (.invokevirtual 205, 3) := by decide +kernel
theorem dX8_forgetAll_14 : decode cX8_forgetAll 14 = .ok (.return_, 1) := by decide +kernel
theorem dX8_settleNow_0 : decode cX8_settleNow 0 = .ok (.aload_n 0, 1) := by decide +kernel
theorem dX8_settleNow_1 : decode cX8_settleNow 1 = .ok (.getfield 40, 3) := by decide +kernel
theorem dX8_settleNow_4 : decode cX8_settleNow 4 = .ok (.invokevirtual 305, 3) := by decide +kernel
theorem dX8_settleNow_7 : decode cX8_settleNow 7 = .ok (.aload_n 0, 1) := by decide +kernel
theorem dX8_settleNow_8 : decode cX8_settleNow 8 = .ok (.getfield 40, 3) := by decide +kernel
theorem dX8_settleNow_11 : decode cX8_settleNow 11 = .ok (.aload_n 0, 1) := by decide +kernel
theorem dX8_settleNow_12 : decode cX8_settleNow 12 = .ok (.getfield 36, 3) := by decide +kernel
theorem dX8_settleNow_15 : decode cX8_settleNow 15 = .ok (.invokevirtual 308, 3) := by decide +kernel
theorem dX8_settleNow_18 : decode cX8_settleNow 18 = .ok (.ireturn, 1) := by decide +kernel
theorem dX8_restRefusal_0 : decode cX8_restRefusal 0 = .ok (.iload_n 1, 1) := by decide +kernel
theorem dX8_restRefusal_1 : decode cX8_restRefusal 1 = .ok (.ifCond .ne 5, 3) := by decide +kernel
theorem dX8_restRefusal_4 : decode cX8_restRefusal 4 = .ok (.iconst (-1), 1) := by decide +kernel
theorem dX8_restRefusal_5 : decode cX8_restRefusal 5 = .ok (.ireturn, 1) := by decide +kernel
theorem dX8_restRefusal_6 : decode cX8_restRefusal 6 = .ok (.aload_n 0, 1) := by decide +kernel
theorem dX8_restRefusal_7 : decode cX8_restRefusal 7 = .ok (.invokevirtual 144, 3) := by decide +kernel
theorem dX8_restRefusal_10 : decode cX8_restRefusal 10 = .ok (.bipush (-9), 2) := by decide +kernel
theorem dX8_restRefusal_12 : decode cX8_restRefusal 12 = .ok (.if_icmp .ne 8, 3) := by decide +kernel
theorem dX8_restRefusal_15 : decode cX8_restRefusal 15 = .ok (.bipush (-3), 2) := by decide +kernel
theorem dX8_restRefusal_17 : decode cX8_restRefusal 17 = .ok (.goto 4, 3) := by decide +kernel
theorem dX8_restRefusal_20 : decode cX8_restRefusal 20 = .ok (.iconst 0, 1) := by decide +kernel
theorem dX8_restRefusal_21 : decode cX8_restRefusal 21 = .ok (.ireturn, 1) := by decide +kernel
theorem dX9_init_0 : decode cX9_init 0 = .ok (.aload_n 0, 1) := by decide +kernel
theorem dX9_init_1 : decode cX9_init 1 = .ok (.invokespecial 1, 3) := by decide +kernel
theorem dX9_init_4 : decode cX9_init 4 = .ok (.aload_n 0, 1) := by decide +kernel
theorem dX9_init_5 : decode cX9_init 5 = .ok (.bipush 100, 2) := by decide +kernel
theorem dX9_init_7 : decode cX9_init 7 = .ok (.newarray .int, 2) := by decide +kernel
theorem dX9_init_9 : decode cX9_init 9 = .ok (.putfield 7, 3) := by decide +kernel
theorem dX9_init_12 : decode cX9_init 12 = .ok (.aload_n 0, 1) := by decide +kernel
theorem dX9_init_13 : decode cX9_init 13 = .ok (.bipush 10, 2) := by decide +kernel
theorem dX9_init_15 : decode cX9_init 15 = .ok (.newarray .int, 2) := by decide +kernel
theorem dX9_init_17 : decode cX9_init 17 = .ok (.putfield 13, 3) := by decide +kernel
theorem dX9_init_20 : decode cX9_init 20 = .ok (.aload_n 0, 1) := by decide +kernel
theorem dX9_init_21 : decode cX9_init 21 = .ok (.bipush 10, 2) := by decide +kernel
theorem dX9_init_23 : decode cX9_init 23 = .ok (.newarray .int, 2) := by decide +kernel
theorem dX9_init_25 : decode cX9_init 25 = .ok (.putfield 16, 3) := by decide +kernel
theorem dX9_init_28 : decode cX9_init 28 = .ok (.aload_n 0, 1) := by decide +kernel
theorem dX9_init_29 : decode cX9_init 29 = .ok (.iconst 4, 1) := by decide +kernel
theorem dX9_init_30 : decode cX9_init 30 = .ok (.newarray .int, 2) := by decide +kernel
theorem dX9_init_32 : decode cX9_init 32 = .ok (.putfield 19, 3) := by decide +kernel
theorem dX9_init_35 : decode cX9_init 35 = .ok (.aload_n 0, 1) := by decide +kernel
theorem dX9_init_36 : decode cX9_init 36 = .ok (.iconst 4, 1) := by decide +kernel
theorem dX9_init_37 : decode cX9_init 37 = .ok (.newarray .int, 2) := by decide +kernel
theorem dX9_init_39 : decode cX9_init 39 = .ok (.putfield 22, 3) := by decide +kernel
theorem dX9_init_42 : decode cX9_init 42 = .ok (.aload_n 0, 1) := by decide +kernel
theorem dX9_init_43 : decode cX9_init 43 = .ok (.iconst 4, 1) := by decide +kernel
theorem dX9_init_44 : decode cX9_init 44 = .ok (.newarray .boolean, 2) := by decide +kernel
theorem dX9_init_46 : decode cX9_init 46 = .ok (.putfield 25, 3) := by decide +kernel
theorem dX9_init_49 : decode cX9_init 49 = .ok (.aload_n 0, 1) := by decide +kernel
theorem dX9_init_50 : decode cX9_init 50 = .ok (.iconst 4, 1) := by decide +kernel
theorem dX9_init_51 : decode cX9_init 51 = .ok (.newarray .int, 2) := by decide +kernel
theorem dX9_init_53 : decode cX9_init 53 = .ok (.putfield 29, 3) := by decide +kernel
theorem dX9_init_56 : decode cX9_init 56 = .ok (.aload_n 0, 1) := by decide +kernel
theorem dX9_init_57 : decode cX9_init 57 = .ok (.iconst 4, 1) := by decide +kernel
theorem dX9_init_58 : decode cX9_init 58 = .ok (.newarray .int, 2) := by decide +kernel
theorem dX9_init_60 : decode cX9_init 60 = .ok (.putfield 32, 3) := by decide +kernel
theorem dX9_init_63 : decode cX9_init 63 = .ok (.aload_n 0, 1) := by decide +kernel
theorem dX9_init_64 : decode cX9_init 64 = .ok (.iconst 4, 1) := by decide +kernel
theorem dX9_init_65 : decode cX9_init 65 = .ok (.newarray .boolean, 2) := by decide +kernel
theorem dX9_init_67 : decode cX9_init 67 = .ok (.putfield 35, 3) := by decide +kernel
theorem dX9_init_70 : decode cX9_init 70 = .ok (.aload_n 0, 1) := by decide +kernel
theorem dX9_init_71 : decode cX9_init 71 = .ok (.bipush 40, 2) := by decide +kernel
theorem dX9_init_73 : decode cX9_init 73 = .ok (.newarray .int, 2) := by decide +kernel
theorem dX9_init_75 : decode cX9_init 75 = .ok (.putfield 38, 3) := by decide +kernel
theorem dX9_init_78 : decode cX9_init 78 = .ok (.aload_n 0, 1) := by decide +kernel
theorem dX9_init_79 : decode cX9_init 79 = .ok (.iconst 4, 1) := by decide +kernel
theorem dX9_init_80 : decode cX9_init 80 = .ok (.newarray .int, 2) := by decide +kernel
theorem dX9_init_82 : decode cX9_init 82 = .ok (.putfield 41, 3) := by decide +kernel
theorem dX9_init_85 : decode cX9_init 85 = .ok (.aload_n 0, 1) := by decide +kernel
theorem dX9_init_86 : decode cX9_init 86 = .ok (.iconst 4, 1) := by decide +kernel
theorem dX9_init_87 : decode cX9_init 87 = .ok (.newarray .int, 2) := by decide +kernel
theorem dX9_init_89 : decode cX9_init 89 = .ok (.putfield 44, 3) := by decide +kernel
theorem dX9_init_92 : decode cX9_init 92 = .ok (.aload_n 0, 1) := by decide +kernel
theorem dX9_init_93 : decode cX9_init 93 = .ok (.iconst 4, 1) := by decide +kernel
theorem dX9_init_94 : decode cX9_init 94 = .ok (.newarray .int, 2) := by decide +kernel
theorem dX9_init_96 : decode cX9_init 96 = .ok (.putfield 47, 3) := by decide +kernel
theorem dX9_init_99 : decode cX9_init 99 = .ok (.aload_n 0, 1) := by decide +kernel
theorem dX9_init_100 : decode cX9_init 100 = .ok (.iconst 4, 1) := by decide +kernel
theorem dX9_init_101 : decode cX9_init 101 = .ok (.newarray .boolean, 2) := by decide +kernel
theorem dX9_init_103 : decode cX9_init 103 = .ok (.putfield 50, 3) := by decide +kernel
theorem dX9_init_106 : decode cX9_init 106 = .ok (.aload_n 0, 1) := by decide +kernel
theorem dX9_init_107 : decode cX9_init 107 = .ok (.iconst 4, 1) := by decide +kernel
theorem dX9_init_108 : decode cX9_init 108 = .ok (.newarray .boolean, 2) := by decide +kernel
theorem dX9_init_110 : decode cX9_init 110 = .ok (.putfield 53, 3) := by decide +kernel
theorem dX9_init_113 : decode cX9_init 113 = .ok (.aload_n 0, 1) := by decide +kernel
theorem dX9_init_114 : decode cX9_init 114 = .ok (.bipush 10, 2) := by decide +kernel
theorem dX9_init_116 : decode cX9_init 116 = .ok (.newarray .int, 2) := by decide +kernel
theorem dX9_init_118 : decode cX9_init 118 = .ok (.putfield 56, 3) := by decide +kernel
theorem dX9_init_121 : decode cX9_init 121 = .ok (.aload_n 0, 1) := by decide +kernel
theorem dX9_init_122 : decode cX9_init 122 = .ok (.bipush 10, 2) := by decide +kernel
theorem dX9_init_124 : decode cX9_init 124 = .ok (.newarray .int, 2) := by decide +kernel
theorem dX9_init_126 : decode cX9_init 126 = .ok (.putfield 59, 3) := by decide +kernel
theorem dX9_init_129 : decode cX9_init 129 = .ok (.aload_n 0, 1) := by decide +kernel
theorem dX9_init_130 : decode cX9_init 130 = .ok (.bipush 10, 2) := by decide +kernel
theorem dX9_init_132 : decode cX9_init 132 = .ok (.newarray .int, 2) := by decide +kernel
theorem dX9_init_134 : decode cX9_init 134 = .ok (.putfield 62, 3) := by decide +kernel
theorem dX9_init_137 : decode cX9_init 137 = .ok (.aload_n 0, 1) := by decide +kernel
theorem dX9_init_138 : decode cX9_init 138 = .ok (.bipush 10, 2) := by decide +kernel
theorem dX9_init_140 : decode cX9_init 140 = .ok (.newarray .int, 2) := by decide +kernel
theorem dX9_init_142 : decode cX9_init 142 = .ok (.putfield 65, 3) := by decide +kernel
theorem dX9_init_145 : decode cX9_init 145 = .ok (.aload_n 0, 1) := by decide +kernel
theorem dX9_init_146 : decode cX9_init 146 = .ok (.bipush 10, 2) := by decide +kernel
theorem dX9_init_148 : decode cX9_init 148 = .ok (.newarray .int, 2) := by decide +kernel
theorem dX9_init_150 : decode cX9_init 150 = .ok (.putfield 68, 3) := by decide +kernel
theorem dX9_init_153 : decode cX9_init 153 = .ok (.aload_n 0, 1) := by decide +kernel
theorem dX9_init_154 : decode cX9_init 154 = .ok (.bipush 100, 2) := by decide +kernel
theorem dX9_init_156 : decode cX9_init 156 = .ok (.newarray .int, 2) := by decide +kernel
theorem dX9_init_158 : decode cX9_init 158 = .ok (.putfield 71, 3) := by decide +kernel
theorem dX9_init_161 : decode cX9_init 161 = .ok (.aload_n 0, 1) := by decide +kernel
theorem dX9_init_162 : decode cX9_init 162 = .ok (.bipush 10, 2) := by decide +kernel
theorem dX9_init_164 : decode cX9_init 164 = .ok (.newarray .int, 2) := by decide +kernel
theorem dX9_init_166 : decode cX9_init 166 = .ok (.putfield 74, 3) := by decide +kernel
theorem dX9_init_169 : decode cX9_init 169 = .ok (.aload_n 0, 1) := by decide +kernel
theorem dX9_init_170 : decode cX9_init 170 = .ok (.bipush 10, 2) := by decide +kernel
theorem dX9_init_172 : decode cX9_init 172 = .ok (.newarray .int, 2) := by decide +kernel
theorem dX9_init_174 : decode cX9_init 174 = .ok (.putfield 77, 3) := by decide +kernel
theorem dX9_init_177 : decode cX9_init 177 = .ok (.aload_n 0, 1) := by decide +kernel
theorem dX9_init_178 : decode cX9_init 178 = .ok (.bipush 10, 2) := by decide +kernel
theorem dX9_init_180 : decode cX9_init 180 = .ok (.newarray .int, 2) := by decide +kernel
theorem dX9_init_182 : decode cX9_init 182 = .ok (.putfield 80, 3) := by decide +kernel
theorem dX9_init_185 : decode cX9_init 185 = .ok (.aload_n 0, 1) := by decide +kernel
theorem dX9_init_186 : decode cX9_init 186 = .ok (.bipush 10, 2) := by decide +kernel
theorem dX9_init_188 : decode cX9_init 188 = .ok (.newarray .int, 2) := by decide +kernel
theorem dX9_init_190 : decode cX9_init 190 = .ok (.putfield 83, 3) := by decide +kernel
theorem dX9_init_193 : decode cX9_init 193 = .ok (.aload_n 0, 1) := by decide +kernel
theorem dX9_init_194 : decode cX9_init 194 = .ok (.bipush 100, 2) := by decide +kernel
theorem dX9_init_196 : decode cX9_init 196 = .ok (.newarray .int, 2) := by decide +kernel
theorem dX9_init_198 : decode cX9_init 198 = .ok (.putfield 86, 3) := by decide +kernel
theorem dX9_init_201 : decode cX9_init 201 = .ok (.aload_n 0, 1) := by decide +kernel
theorem dX9_init_202 : decode cX9_init 202 = .ok (.bipush 10, 2) := by decide +kernel
theorem dX9_init_204 : decode cX9_init 204 = .ok (.newarray .int, 2) := by decide +kernel
theorem dX9_init_206 : decode cX9_init 206 = .ok (.putfield 89, 3) := by decide +kernel
theorem dX9_init_209 : decode cX9_init 209 = .ok (.aload_n 0, 1) := by decide +kernel
theorem dX9_init_210 : decode cX9_init 210 = .ok (.bipush 6, 2) := by decide +kernel
theorem dX9_init_212 : decode cX9_init 212 = .ok (.newarray .int, 2) := by decide +kernel
theorem dX9_init_214 : decode cX9_init 214 = .ok (.putfield 92, 3) := by decide +kernel
theorem dX9_init_217 : decode cX9_init 217 = .ok (.aload_n 0, 1) := by decide +kernel
theorem dX9_init_218 : decode cX9_init 218 = .ok (.bipush 24, 2) := by decide +kernel
theorem dX9_init_220 : decode cX9_init 220 = .ok (.newarray .int, 2) := by decide +kernel
theorem dX9_init_222 : decode cX9_init 222 = .ok (.putfield 95, 3) := by decide +kernel
theorem dX9_init_225 : decode cX9_init 225 = .ok (.aload_n 0, 1) := by decide +kernel
theorem dX9_init_226 : decode cX9_init 226 = .ok (.bipush 24, 2) := by decide +kernel
theorem dX9_init_228 : decode cX9_init 228 = .ok (.newarray .int, 2) := by decide +kernel
theorem dX9_init_230 : decode cX9_init 230 = .ok (.putfield 98, 3) := by decide +kernel
theorem dX9_init_233 : decode cX9_init 233 = .ok (.aload_n 0, 1) := by decide +kernel
theorem dX9_init_234 : decode cX9_init 234 = .ok (.bipush 24, 2) := by decide +kernel
theorem dX9_init_236 : decode cX9_init 236 = .ok (.newarray .boolean, 2) := by decide +kernel
theorem dX9_init_238 : decode cX9_init 238 = .ok (.putfield 101, 3) := by decide +kernel
theorem dX9_init_241 : decode cX9_init 241 = .ok (.aload_n 0, 1) := by decide +kernel
theorem dX9_init_242 : decode cX9_init 242 = .ok (.bipush 24, 2) := by decide +kernel
theorem dX9_init_244 : decode cX9_init 244 = .ok (.newarray .boolean, 2) := by decide +kernel
theorem dX9_init_246 : decode cX9_init 246 = .ok (.putfield 104, 3) := by decide +kernel
theorem dX9_init_249 : decode cX9_init 249 = .ok (.aload_n 0, 1) := by decide +kernel
theorem dX9_init_250 : decode cX9_init 250 = .ok (.bipush 60, 2) := by decide +kernel
theorem dX9_init_252 : decode cX9_init 252 = .ok (.newarray .int, 2) := by decide +kernel
theorem dX9_init_254 : decode cX9_init 254 = .ok (.putfield 107, 3) := by decide +kernel
theorem dX9_init_257 : decode cX9_init 257 = .ok (.aload_n 0, 1) := by decide +kernel
theorem dX9_init_258 : decode cX9_init 258 = .ok (.sipush 256, 3) := by decide +kernel
theorem dX9_init_261 : decode cX9_init 261 = .ok (.newarray .int, 2) := by decide +kernel
theorem dX9_init_263 : decode cX9_init 263 = .ok (.putfield 110, 3) := by decide +kernel
theorem dX9_init_266 : decode cX9_init 266 = .ok (.aload_n 0, 1) := by decide +kernel
theorem dX9_init_267 : decode cX9_init 267 = .ok (.bipush 10, 2) := by decide +kernel
theorem dX9_init_269 : decode cX9_init 269 = .ok (.newarray .int, 2) := by decide +kernel
theorem dX9_init_271 : decode cX9_init 271 = .ok (.putfield 113, 3) := by decide +kernel
theorem dX9_init_274 : decode cX9_init 274 = .ok (.aload_n 0, 1) := by decide +kernel
theorem dX9_init_275 : decode cX9_init 275 = .ok (.sipush 256, 3) := by decide +kernel
theorem dX9_init_278 : decode cX9_init 278 = .ok (.newarray .long, 2) := by decide +kernel
theorem dX9_init_280 : decode cX9_init 280 = .ok (.putfield 116, 3) := by decide +kernel
theorem dX9_init_283 : decode cX9_init 283 = .ok (.aload_n 0, 1) := by decide +kernel
theorem dX9_init_284 : decode cX9_init 284 = .ok (.iconst 4, 1) := by decide +kernel
theorem dX9_init_285 : decode cX9_init 285 = .ok (.newarray .int, 2) := by decide +kernel
theorem dX9_init_287 : decode cX9_init 287 = .ok (.putfield 120, 3) := by decide +kernel
theorem dX9_init_290 : decode cX9_init 290 = .ok (.aload_n 0, 1) := by decide +kernel
theorem dX9_init_291 : decode cX9_init 291 = .ok (.iconst 4, 1) := by decide +kernel
theorem dX9_init_292 : decode cX9_init 292 = .ok (.newarray .int, 2) := by decide +kernel
theorem dX9_init_294 : decode cX9_init 294 = .ok (.putfield 123, 3) := by decide +kernel
theorem dX9_init_297 : decode cX9_init 297 = .ok (.aload_n 0, 1) := by decide +kernel
theorem dX9_init_298 : decode cX9_init 298 = .ok (.iconst 4, 1) := by decide +kernel
theorem dX9_init_299 : decode cX9_init 299 = .ok (.newarray .int, 2) := by decide +kernel
theorem dX9_init_301 : decode cX9_init 301 = .ok (.putfield 126, 3) := by decide +kernel
theorem dX9_init_304 : decode cX9_init 304 = .ok (.aload_n 0, 1) := by decide +kernel
theorem dX9_init_305 : decode cX9_init 305 = .ok (.iconst 4, 1) := by decide +kernel
theorem dX9_init_306 : decode cX9_init 306 = .ok (.newarray .int, 2) := by decide +kernel
theorem dX9_init_308 : decode cX9_init 308 = .ok (.putfield 129, 3) := by decide +kernel
theorem dX9_init_311 : decode cX9_init 311 = .ok (.return_, 1) := by decide +kernel
theorem dX9_in_0 : decode cX9_in 0 = .ok (.lload_n 0, 1) := by decide +kernel
theorem dX9_in_1 : decode cX9_in 1 = .ok (.lload_n 2, 1) := by decide +kernel
theorem dX9_in_2 : decode cX9_in 2 = .ok (.lcmp, 1) := by decide +kernel
theorem dX9_in_3 : decode cX9_in 3 = .ok (.ifCond .lt 14, 3) := by decide +kernel
theorem dX9_in_6 : decode cX9_in 6 = .ok (.lload_n 0, 1) := by decide +kernel
theorem dX9_in_7 : decode cX9_in 7 = .ok (.lload 4, 2) := by decide +kernel
theorem dX9_in_9 : decode cX9_in 9 = .ok (.lcmp, 1) := by decide +kernel
theorem dX9_in_10 : decode cX9_in 10 = .ok (.ifCond .gt 7, 3) := by decide +kernel
theorem dX9_in_13 : decode cX9_in 13 = .ok (.iconst 1, 1) := by decide +kernel
theorem dX9_in_14 : decode cX9_in 14 = .ok (.goto 4, 3) := by decide +kernel
theorem dX9_in_17 : decode cX9_in 17 = .ok (.iconst 0, 1) := by decide +kernel
theorem dX9_in_18 : decode cX9_in 18 = .ok (.ireturn, 1) := by decide +kernel
theorem dX9_isNet_0 : decode cX9_isNet 0 = .ok (.iload_n 1, 1) := by decide +kernel
theorem dX9_isNet_1 : decode cX9_isNet 1 = .ok (.i2l, 1) := by decide +kernel
theorem dX9_isNet_2 : decode cX9_isNet 2 = .ok (.lconst 0, 1) := by decide +kernel
theorem dX9_isNet_3 : decode cX9_isNet 3 = .ok (.aload_n 0, 1) := by decide +kernel
theorem dX9_isNet_4 : decode cX9_isNet 4 = .ok (.getfield 132, 3) := by decide +kernel
theorem dX9_isNet_7 : decode cX9_isNet 7 = .ok (.iconst 1, 1) := by decide +kernel
theorem dX9_isNet_8 : decode cX9_isNet 8 = .ok (.isub, 1) := by decide +kernel
theorem dX9_isNet_9 : decode cX9_isNet 9 = .ok (.i2l, 1) := by decide +kernel
theorem dX9_isNet_10 : decode cX9_isNet 10 = .ok (.invokestatic 136, 3) := by decide +kernel
theorem dX9_isNet_13 : decode cX9_isNet 13 = .ok (.ireturn, 1) := by decide +kernel
theorem dX9_isSite_0 : decode cX9_isSite 0 = .ok (.iload_n 1, 1) := by decide +kernel
theorem dX9_isSite_1 : decode cX9_isSite 1 = .ok (.i2l, 1) := by decide +kernel
theorem dX9_isSite_2 : decode cX9_isSite 2 = .ok (.lconst 0, 1) := by decide +kernel
theorem dX9_isSite_3 : decode cX9_isSite 3 = .ok (.aload_n 0, 1) := by decide +kernel
theorem dX9_isSite_4 : decode cX9_isSite 4 = .ok (.getfield 140, 3) := by decide +kernel
theorem dX9_isSite_7 : decode cX9_isSite 7 = .ok (.iconst 1, 1) := by decide +kernel
theorem dX9_isSite_8 : decode cX9_isSite 8 = .ok (.isub, 1) := by decide +kernel
theorem dX9_isSite_9 : decode cX9_isSite 9 = .ok (.i2l, 1) := by decide +kernel
theorem dX9_isSite_10 : decode cX9_isSite 10 = .ok (.invokestatic 136, 3) := by decide +kernel
theorem dX9_isSite_13 : decode cX9_isSite 13 = .ok (.ireturn, 1) := by decide +kernel
theorem dX9_net_0 : decode cX9_net 0 = .ok (.iload_n 1, 1) := by decide +kernel
theorem dX9_net_1 : decode cX9_net 1 = .ok (.i2l, 1) := by decide +kernel
theorem dX9_net_2 : decode cX9_net 2 = .ok (.lconst 0, 1) := by decide +kernel
theorem dX9_net_3 : decode cX9_net 3 = .ok (.ldc2_w 143, 3) := by decide +kernel
theorem dX9_net_6 : decode cX9_net 6 = .ok (.invokestatic 136, 3) := by decide +kernel
theorem dX9_net_9 : decode cX9_net 9 = .ok (.ifCond .ne 6, 3) := by decide +kernel
theorem dX9_net_12 : decode cX9_net 12 = .ok (.bipush (-2), 2) := by decide +kernel
theorem dX9_net_14 : decode cX9_net 14 = .ok (.ireturn, 1) := by decide +kernel
theorem dX9_net_15 : decode cX9_net 15 = .ok (.aload_n 0, 1) := by decide +kernel
theorem dX9_net_16 : decode cX9_net 16 = .ok (.getfield 132, 3) := by decide +kernel
theorem dX9_net_19 : decode cX9_net 19 = .ok (.bipush 10, 2) := by decide +kernel
theorem dX9_net_21 : decode cX9_net 21 = .ok (.if_icmp .ne 6, 3) := by decide +kernel
theorem dX9_net_24 : decode cX9_net 24 = .ok (.bipush (-4), 2) := by decide +kernel
theorem dX9_net_26 : decode cX9_net 26 = .ok (.ireturn, 1) := by decide +kernel
theorem dX9_net_27 : decode cX9_net 27 = .ok (.aload_n 0, 1) := by decide +kernel
theorem dX9_net_28 : decode cX9_net 28 = .ok (.getfield 13, 3) := by decide +kernel
theorem dX9_net_31 : decode cX9_net 31 = .ok (.aload_n 0, 1) := by decide +kernel
theorem dX9_net_32 : decode cX9_net 32 = .ok (.getfield 132, 3) := by decide +kernel
theorem dX9_net_35 : decode cX9_net 35 = .ok (.iload_n 1, 1) := by decide +kernel
theorem dX9_net_36 : decode cX9_net 36 = .ok (.iastore, 1) := by decide +kernel
theorem dX9_net_37 : decode cX9_net 37 = .ok (.aload_n 0, 1) := by decide +kernel
theorem dX9_net_38 : decode cX9_net 38 = .ok (.getfield 16, 3) := by decide +kernel
theorem dX9_net_41 : decode cX9_net 41 = .ok (.aload_n 0, 1) := by decide +kernel
theorem dX9_net_42 : decode cX9_net 42 = .ok (.getfield 132, 3) := by decide +kernel
theorem dX9_net_45 : decode cX9_net 45 = .ok (.iconst 1, 1) := by decide +kernel
theorem dX9_net_46 : decode cX9_net 46 = .ok (.iastore, 1) := by decide +kernel
theorem dX9_net_47 : decode cX9_net 47 = .ok (.aload_n 0, 1) := by decide +kernel
theorem dX9_net_48 : decode cX9_net 48 = .ok (.dup, 1) := by decide +kernel
theorem dX9_net_49 : decode cX9_net 49 = .ok (.getfield 132, 3) := by decide +kernel
theorem dX9_net_52 : decode cX9_net 52 = .ok (.iconst 1, 1) := by decide +kernel
theorem dX9_net_53 : decode cX9_net 53 = .ok (.iadd, 1) := by decide +kernel
theorem dX9_net_54 : decode cX9_net 54 = .ok (.putfield 132, 3) := by decide +kernel
theorem dX9_net_57 : decode cX9_net 57 = .ok (.aload_n 0, 1) := by decide +kernel
theorem dX9_net_58 : decode cX9_net 58 = .ok (.getfield 132, 3) := by decide +kernel
theorem dX9_net_61 : decode cX9_net 61 = .ok (.iconst 1, 1) := by decide +kernel
theorem dX9_net_62 : decode cX9_net 62 = .ok (.isub, 1) := by decide +kernel
theorem dX9_net_63 : decode cX9_net 63 = .ok (.ireturn, 1) := by decide +kernel
theorem dX9_buysFrom_0 : decode cX9_buysFrom 0 = .ok (.iconst 1, 1) := by decide +kernel
theorem dX9_buysFrom_1 : decode cX9_buysFrom 1 = .ok (.iload_n 1, 1) := by decide +kernel
theorem dX9_buysFrom_2 : decode cX9_buysFrom 2 = .ok (.ishl, 1) := by decide +kernel
theorem dX9_buysFrom_3 : decode cX9_buysFrom 3 = .ok (.istore_n 3, 1) := by decide +kernel
theorem dX9_buysFrom_4 : decode cX9_buysFrom 4 = .ok (.iconst 0, 1) := by decide +kernel
theorem dX9_buysFrom_5 : decode cX9_buysFrom 5 = .ok (.istore 4, 2) := by decide +kernel
theorem dX9_buysFrom_7 : decode cX9_buysFrom 7 = .ok (.iload 4, 2) := by decide +kernel
theorem dX9_buysFrom_9 : decode cX9_buysFrom 9 = .ok (.aload_n 0, 1) := by decide +kernel
theorem dX9_buysFrom_10 : decode cX9_buysFrom 10 = .ok (.getfield 132, 3) := by decide +kernel
theorem dX9_buysFrom_13 : decode cX9_buysFrom 13 = .ok (.if_icmp .ge 68, 3) := by decide +kernel
theorem dX9_buysFrom_16 : decode cX9_buysFrom 16 = .ok (.iconst 0, 1) := by decide +kernel
theorem dX9_buysFrom_17 : decode cX9_buysFrom 17 = .ok (.istore 5, 2) := by decide +kernel
theorem dX9_buysFrom_19 : decode cX9_buysFrom 19 = .ok (.iload 5, 2) := by decide +kernel
theorem dX9_buysFrom_21 : decode cX9_buysFrom 21 = .ok (.aload_n 0, 1) := by decide +kernel
theorem dX9_buysFrom_22 : decode cX9_buysFrom 22 = .ok (.getfield 132, 3) := by decide +kernel
theorem dX9_buysFrom_25 : decode cX9_buysFrom 25 = .ok (.bipush 10, 2) := by decide +kernel
theorem dX9_buysFrom_27 : decode cX9_buysFrom 27 = .ok (.imul, 1) := by decide +kernel
theorem dX9_buysFrom_28 : decode cX9_buysFrom 28 = .ok (.if_icmp .ge 47, 3) := by decide +kernel
theorem dX9_buysFrom_31 : decode cX9_buysFrom 31 = .ok (.iload_n 3, 1) := by decide +kernel
theorem dX9_buysFrom_32 : decode cX9_buysFrom 32 = .ok (.aload_n 0, 1) := by decide +kernel
theorem dX9_buysFrom_33 : decode cX9_buysFrom 33 = .ok (.getfield 7, 3) := by decide +kernel
theorem dX9_buysFrom_36 : decode cX9_buysFrom 36 = .ok (.iload 5, 2) := by decide +kernel
theorem dX9_buysFrom_38 : decode cX9_buysFrom 38 = .ok (.iaload, 1) := by decide +kernel
theorem dX9_buysFrom_39 : decode cX9_buysFrom 39 = .ok (.iconst 3, 1) := by decide +kernel
theorem dX9_buysFrom_40 : decode cX9_buysFrom 40 = .ok (.if_icmp .ne 26, 3) := by decide +kernel
theorem dX9_buysFrom_43 : decode cX9_buysFrom 43 = .ok (.iload_n 3, 1) := by decide +kernel
theorem dX9_buysFrom_44 : decode cX9_buysFrom 44 = .ok (.iload 5, 2) := by decide +kernel
theorem dX9_buysFrom_46 : decode cX9_buysFrom 46 = .ok (.bipush 10, 2) := by decide +kernel
theorem dX9_buysFrom_48 : decode cX9_buysFrom 48 = .ok (.idiv, 1) := by decide +kernel
theorem dX9_buysFrom_49 : decode cX9_buysFrom 49 = .ok (.ishr, 1) := by decide +kernel
theorem dX9_buysFrom_50 : decode cX9_buysFrom 50 = .ok (.iconst 1, 1) := by decide +kernel
theorem dX9_buysFrom_51 : decode cX9_buysFrom 51 = .ok (.iand, 1) := by decide +kernel
theorem dX9_buysFrom_52 : decode cX9_buysFrom 52 = .ok (.iconst 1, 1) := by decide +kernel
theorem dX9_buysFrom_53 : decode cX9_buysFrom 53 = .ok (.if_icmp .ne 13, 3) := by decide +kernel
theorem dX9_buysFrom_56 : decode cX9_buysFrom 56 = .ok (.iconst 1, 1) := by decide +kernel
theorem dX9_buysFrom_57 : decode cX9_buysFrom 57 = .ok (.iload 5, 2) := by decide +kernel
theorem dX9_buysFrom_59 : decode cX9_buysFrom 59 = .ok (.bipush 10, 2) := by decide +kernel
theorem dX9_buysFrom_61 : decode cX9_buysFrom 61 = .ok (.irem, 1) := by decide +kernel
theorem dX9_buysFrom_62 : decode cX9_buysFrom 62 = .ok (.ishl, 1) := by decide +kernel
theorem dX9_buysFrom_63 : decode cX9_buysFrom 63 = .ok (.goto 4, 3) := by decide +kernel
theorem dX9_buysFrom_66 : decode cX9_buysFrom 66 = .ok (.iconst 0, 1) := by decide +kernel
theorem dX9_buysFrom_67 : decode cX9_buysFrom 67 = .ok (.ior, 1) := by decide +kernel
theorem dX9_buysFrom_68 : decode cX9_buysFrom 68 = .ok (.istore_n 3, 1) := by decide +kernel
theorem dX9_buysFrom_69 : decode cX9_buysFrom 69 = .ok (.iinc 5 1, 3) := by decide +kernel
theorem dX9_buysFrom_72 : decode cX9_buysFrom 72 = .ok (.goto (-53), 3) := by decide +kernel
theorem dX9_buysFrom_75 : decode cX9_buysFrom 75 = .ok (.iinc 4 1, 3) := by decide +kernel
theorem dX9_buysFrom_78 : decode cX9_buysFrom 78 = .ok (.goto (-71), 3) := by decide +kernel
theorem dX9_buysFrom_81 : decode cX9_buysFrom 81 = .ok (.iload_n 3, 1) := by decide +kernel
theorem dX9_buysFrom_82 : decode cX9_buysFrom 82 = .ok (.iload_n 2, 1) := by decide +kernel
theorem dX9_buysFrom_83 : decode cX9_buysFrom 83 = .ok (.ishr, 1) := by decide +kernel
theorem dX9_buysFrom_84 : decode cX9_buysFrom 84 = .ok (.iconst 1, 1) := by decide +kernel
theorem dX9_buysFrom_85 : decode cX9_buysFrom 85 = .ok (.iand, 1) := by decide +kernel
theorem dX9_buysFrom_86 : decode cX9_buysFrom 86 = .ok (.iconst 1, 1) := by decide +kernel
theorem dX9_buysFrom_87 : decode cX9_buysFrom 87 = .ok (.if_icmp .ne 7, 3) := by decide +kernel
theorem dX9_buysFrom_90 : decode cX9_buysFrom 90 = .ok (.iconst 1, 1) := by decide +kernel
theorem dX9_buysFrom_91 : decode cX9_buysFrom 91 = .ok (.goto 4, 3) := by decide +kernel
theorem dX9_buysFrom_94 : decode cX9_buysFrom 94 = .ok (.iconst 0, 1) := by decide +kernel
theorem dX9_buysFrom_95 : decode cX9_buysFrom 95 = .ok (.ireturn, 1) := by decide +kernel
theorem dX9_tie_0 : decode cX9_tie 0 = .ok (.aload_n 0, 1) := by decide +kernel
theorem dX9_tie_1 : decode cX9_tie 1 = .ok (.iload_n 1, 1) := by decide +kernel
theorem dX9_tie_2 : decode cX9_tie 2 = .ok (.invokevirtual 145, 3) := by decide +kernel
theorem dX9_tie_5 : decode cX9_tie 5 = .ok (.ifCond .eq 11, 3) := by decide +kernel
theorem dX9_tie_8 : decode cX9_tie 8 = .ok (.aload_n 0, 1) := by decide +kernel
theorem dX9_tie_9 : decode cX9_tie 9 = .ok (.iload_n 2, 1) := by decide +kernel
theorem dX9_tie_10 : decode cX9_tie 10 = .ok (.invokevirtual 145, 3) := by decide +kernel
theorem dX9_tie_13 : decode cX9_tie 13 = .ok (.ifCond .ne 5, 3) := by decide +kernel
theorem dX9_tie_16 : decode cX9_tie 16 = .ok (.iconst (-1), 1) := by decide +kernel
theorem dX9_tie_17 : decode cX9_tie 17 = .ok (.ireturn, 1) := by decide +kernel
theorem dX9_tie_18 : decode cX9_tie 18 = .ok (.iload_n 1, 1) := by decide +kernel
theorem dX9_tie_19 : decode cX9_tie 19 = .ok (.iload_n 2, 1) := by decide +kernel
theorem dX9_tie_20 : decode cX9_tie 20 = .ok (.if_icmp .eq 30, 3) := by decide +kernel
theorem dX9_tie_23 : decode cX9_tie 23 = .ok (.aload_n 0, 1) := by decide +kernel
theorem dX9_tie_24 : decode cX9_tie 24 = .ok (.getfield 7, 3) := by decide +kernel
theorem dX9_tie_27 : decode cX9_tie 27 = .ok (.bipush 10, 2) := by decide +kernel
theorem dX9_tie_29 : decode cX9_tie 29 = .ok (.iload_n 1, 1) := by decide +kernel
theorem dX9_tie_30 : decode cX9_tie 30 = .ok (.imul, 1) := by decide +kernel
theorem dX9_tie_31 : decode cX9_tie 31 = .ok (.iload_n 2, 1) := by decide +kernel
theorem dX9_tie_32 : decode cX9_tie 32 = .ok (.iadd, 1) := by decide +kernel
theorem dX9_tie_33 : decode cX9_tie 33 = .ok (.iaload, 1) := by decide +kernel
theorem dX9_tie_34 : decode cX9_tie 34 = .ok (.ifCond .ne 16, 3) := by decide +kernel
theorem dX9_tie_37 : decode cX9_tie 37 = .ok (.iload_n 3, 1) := by decide +kernel
theorem dX9_tie_38 : decode cX9_tie 38 = .ok (.ifCond .eq 15, 3) := by decide +kernel
theorem dX9_tie_41 : decode cX9_tie 41 = .ok (.aload_n 0, 1) := by decide +kernel
theorem dX9_tie_42 : decode cX9_tie 42 = .ok (.iload_n 2, 1) := by decide +kernel
theorem dX9_tie_43 : decode cX9_tie 43 = .ok (.iload_n 1, 1) := by decide +kernel
theorem dX9_tie_44 : decode cX9_tie 44 = .ok (.invokevirtual 149, 3) := by decide +kernel
theorem dX9_tie_47 : decode cX9_tie 47 = .ok (.ifCond .eq 6, 3) := by decide +kernel
theorem dX9_tie_50 : decode cX9_tie 50 = .ok (.bipush (-3), 2) := by decide +kernel
theorem dX9_tie_52 : decode cX9_tie 52 = .ok (.ireturn, 1) := by decide +kernel
theorem dX9_tie_53 : decode cX9_tie 53 = .ok (.aload_n 0, 1) := by decide +kernel
theorem dX9_tie_54 : decode cX9_tie 54 = .ok (.getfield 153, 3) := by decide +kernel
theorem dX9_tie_57 : decode cX9_tie 57 = .ok (.bipush 20, 2) := by decide +kernel
theorem dX9_tie_59 : decode cX9_tie 59 = .ok (.if_icmp .ne 6, 3) := by decide +kernel
theorem dX9_tie_62 : decode cX9_tie 62 = .ok (.bipush (-4), 2) := by decide +kernel
theorem dX9_tie_64 : decode cX9_tie 64 = .ok (.ireturn, 1) := by decide +kernel
theorem dX9_tie_65 : decode cX9_tie 65 = .ok (.aload_n 0, 1) := by decide +kernel
theorem dX9_tie_66 : decode cX9_tie 66 = .ok (.getfield 7, 3) := by decide +kernel
theorem dX9_tie_69 : decode cX9_tie 69 = .ok (.bipush 10, 2) := by decide +kernel
theorem dX9_tie_71 : decode cX9_tie 71 = .ok (.iload_n 1, 1) := by decide +kernel
theorem dX9_tie_72 : decode cX9_tie 72 = .ok (.imul, 1) := by decide +kernel
theorem dX9_tie_73 : decode cX9_tie 73 = .ok (.iload_n 2, 1) := by decide +kernel
theorem dX9_tie_74 : decode cX9_tie 74 = .ok (.iadd, 1) := by decide +kernel
theorem dX9_tie_75 : decode cX9_tie 75 = .ok (.iload_n 3, 1) := by decide +kernel
theorem dX9_tie_76 : decode cX9_tie 76 = .ok (.ifCond .eq 7, 3) := by decide +kernel
theorem dX9_tie_79 : decode cX9_tie 79 = .ok (.iconst 3, 1) := by decide +kernel
theorem dX9_tie_80 : decode cX9_tie 80 = .ok (.goto 4, 3) := by decide +kernel
theorem dX9_tie_83 : decode cX9_tie 83 = .ok (.iconst 2, 1) := by decide +kernel
theorem dX9_tie_84 : decode cX9_tie 84 = .ok (.iastore, 1) := by decide +kernel
theorem dX9_tie_85 : decode cX9_tie 85 = .ok (.aload_n 0, 1) := by decide +kernel
theorem dX9_tie_86 : decode cX9_tie 86 = .ok (.getfield 7, 3) := by decide +kernel
theorem dX9_tie_89 : decode cX9_tie 89 = .ok (.bipush 10, 2) := by decide +kernel
theorem dX9_tie_91 : decode cX9_tie 91 = .ok (.iload_n 2, 1) := by decide +kernel
theorem dX9_tie_92 : decode cX9_tie 92 = .ok (.imul, 1) := by decide +kernel
theorem dX9_tie_93 : decode cX9_tie 93 = .ok (.iload_n 1, 1) := by decide +kernel
theorem dX9_tie_94 : decode cX9_tie 94 = .ok (.iadd, 1) := by decide +kernel
theorem dX9_tie_95 : decode cX9_tie 95 = .ok (.iload_n 3, 1) := by decide +kernel
theorem dX9_tie_96 : decode cX9_tie 96 = .ok (.ifCond .eq 7, 3) := by decide +kernel
theorem dX9_tie_99 : decode cX9_tie 99 = .ok (.iconst 1, 1) := by decide +kernel
theorem dX9_tie_100 : decode cX9_tie 100 = .ok (.goto 4, 3) := by decide +kernel
theorem dX9_tie_103 : decode cX9_tie 103 = .ok (.iconst 2, 1) := by decide +kernel
theorem dX9_tie_104 : decode cX9_tie 104 = .ok (.iastore, 1) := by decide +kernel
theorem dX9_tie_105 : decode cX9_tie 105 = .ok (.aload_n 0, 1) := by decide +kernel
theorem dX9_tie_106 : decode cX9_tie 106 = .ok (.dup, 1) := by decide +kernel
theorem dX9_tie_107 : decode cX9_tie 107 = .ok (.getfield 153, 3) := by decide +kernel
theorem dX9_tie_110 : decode cX9_tie 110 = .ok (.iconst 1, 1) := by decide +kernel
theorem dX9_tie_111 : decode cX9_tie 111 = .ok (.iadd, 1) := by decide +kernel
theorem dX9_tie_112 : decode cX9_tie 112 = .ok (.putfield 153, 3) := by decide +kernel
theorem dX9_tie_115 : decode cX9_tie 115 = .ok (.aload_n 0, 1) := by decide +kernel
theorem dX9_tie_116 : decode cX9_tie 116 = .ok (.getfield 153, 3) := by decide +kernel
theorem dX9_tie_119 : decode cX9_tie 119 = .ok (.ireturn, 1) := by decide +kernel
theorem dX9_tied_0 : decode cX9_tied 0 = .ok (.aload_n 0, 1) := by decide +kernel
theorem dX9_tied_1 : decode cX9_tied 1 = .ok (.iload_n 1, 1) := by decide +kernel
theorem dX9_tied_2 : decode cX9_tied 2 = .ok (.invokevirtual 145, 3) := by decide +kernel
theorem dX9_tied_5 : decode cX9_tied 5 = .ok (.ifCond .eq 25, 3) := by decide +kernel
theorem dX9_tied_8 : decode cX9_tied 8 = .ok (.aload_n 0, 1) := by decide +kernel
theorem dX9_tied_9 : decode cX9_tied 9 = .ok (.iload_n 2, 1) := by decide +kernel
theorem dX9_tied_10 : decode cX9_tied 10 = .ok (.invokevirtual 145, 3) := by decide +kernel
theorem dX9_tied_13 : decode cX9_tied 13 = .ok (.ifCond .eq 17, 3) := by decide +kernel
theorem dX9_tied_16 : decode cX9_tied 16 = .ok (.aload_n 0, 1) := by decide +kernel
theorem dX9_tied_17 : decode cX9_tied 17 = .ok (.getfield 7, 3) := by decide +kernel
theorem dX9_tied_20 : decode cX9_tied 20 = .ok (.bipush 10, 2) := by decide +kernel
theorem dX9_tied_22 : decode cX9_tied 22 = .ok (.iload_n 1, 1) := by decide +kernel
theorem dX9_tied_23 : decode cX9_tied 23 = .ok (.imul, 1) := by decide +kernel
theorem dX9_tied_24 : decode cX9_tied 24 = .ok (.iload_n 2, 1) := by decide +kernel
theorem dX9_tied_25 : decode cX9_tied 25 = .ok (.iadd, 1) := by decide +kernel
theorem dX9_tied_26 : decode cX9_tied 26 = .ok (.iaload, 1) := by decide +kernel
theorem dX9_tied_27 : decode cX9_tied 27 = .ok (.goto 4, 3) := by decide +kernel
theorem dX9_tied_30 : decode cX9_tied 30 = .ok (.iconst (-1), 1) := by decide +kernel
theorem dX9_tied_31 : decode cX9_tied 31 = .ok (.ireturn, 1) := by decide +kernel
theorem dX9_askers_0 : decode cX9_askers 0 = .ok (.aload_n 0, 1) := by decide +kernel
theorem dX9_askers_1 : decode cX9_askers 1 = .ok (.iload_n 1, 1) := by decide +kernel
theorem dX9_askers_2 : decode cX9_askers 2 = .ok (.invokevirtual 145, 3) := by decide +kernel
theorem dX9_askers_5 : decode cX9_askers 5 = .ok (.ifCond .ne 5, 3) := by decide +kernel
theorem dX9_askers_8 : decode cX9_askers 8 = .ok (.iconst (-1), 1) := by decide +kernel
theorem dX9_askers_9 : decode cX9_askers 9 = .ok (.ireturn, 1) := by decide +kernel
theorem dX9_askers_10 : decode cX9_askers 10 = .ok (.iload_n 2, 1) := by decide +kernel
theorem dX9_askers_11 : decode cX9_askers 11 = .ok (.i2l, 1) := by decide +kernel
theorem dX9_askers_12 : decode cX9_askers 12 = .ok (.lconst 0, 1) := by decide +kernel
theorem dX9_askers_13 : decode cX9_askers 13 = .ok (.ldc2_w 143, 3) := by decide +kernel
theorem dX9_askers_16 : decode cX9_askers 16 = .ok (.invokestatic 136, 3) := by decide +kernel
theorem dX9_askers_19 : decode cX9_askers 19 = .ok (.ifCond .ne 6, 3) := by decide +kernel
theorem dX9_askers_22 : decode cX9_askers 22 = .ok (.bipush (-2), 2) := by decide +kernel
theorem dX9_askers_24 : decode cX9_askers 24 = .ok (.ireturn, 1) := by decide +kernel
theorem dX9_askers_25 : decode cX9_askers 25 = .ok (.aload_n 0, 1) := by decide +kernel
theorem dX9_askers_26 : decode cX9_askers 26 = .ok (.getfield 13, 3) := by decide +kernel
theorem dX9_askers_29 : decode cX9_askers 29 = .ok (.iload_n 1, 1) := by decide +kernel
theorem dX9_askers_30 : decode cX9_askers 30 = .ok (.iaload, 1) := by decide +kernel
theorem dX9_askers_31 : decode cX9_askers 31 = .ok (.istore_n 3, 1) := by decide +kernel
theorem dX9_askers_32 : decode cX9_askers 32 = .ok (.aload_n 0, 1) := by decide +kernel
theorem dX9_askers_33 : decode cX9_askers 33 = .ok (.getfield 13, 3) := by decide +kernel
theorem dX9_askers_36 : decode cX9_askers 36 = .ok (.iload_n 1, 1) := by decide +kernel
theorem dX9_askers_37 : decode cX9_askers 37 = .ok (.iload_n 2, 1) := by decide +kernel
theorem dX9_askers_38 : decode cX9_askers 38 = .ok (.iastore, 1) := by decide +kernel
theorem dX9_askers_39 : decode cX9_askers 39 = .ok (.iload_n 3, 1) := by decide +kernel
theorem dX9_askers_40 : decode cX9_askers 40 = .ok (.ireturn, 1) := by decide +kernel
theorem dX9_guess_0 : decode cX9_guess 0 = .ok (.aload_n 0, 1) := by decide +kernel
theorem dX9_guess_1 : decode cX9_guess 1 = .ok (.iload_n 1, 1) := by decide +kernel
theorem dX9_guess_2 : decode cX9_guess 2 = .ok (.invokevirtual 145, 3) := by decide +kernel
theorem dX9_guess_5 : decode cX9_guess 5 = .ok (.ifCond .ne 5, 3) := by decide +kernel
theorem dX9_guess_8 : decode cX9_guess 8 = .ok (.iconst (-1), 1) := by decide +kernel
