theorem dX9_could_80 : decode cX9_could 80 = .ok (.bipush 16, 2) := by decide +kernel
theorem dX9_could_82 : decode cX9_could 82 = .ok (.ior, 1) := by decide +kernel
theorem dX9_could_83 : decode cX9_could 83 = .ok (.istore_n 2, 1) := by decide +kernel
theorem dX9_could_84 : decode cX9_could 84 = .ok (.iinc 3 1, 3) := by decide +kernel
theorem dX9_could_87 : decode cX9_could 87 = .ok (.goto (-63), 3) := by decide +kernel
theorem dX9_could_90 : decode cX9_could 90 = .ok (.iload_n 2, 1) := by decide +kernel
theorem dX9_could_91 : decode cX9_could 91 = .ok (.ireturn, 1) := by decide +kernel
theorem dX9_rulesLeft_0 : decode cX9_rulesLeft 0 = .ok (.iconst 0, 1) := by decide +kernel
theorem dX9_rulesLeft_1 : decode cX9_rulesLeft 1 = .ok (.istore_n 2, 1) := by decide +kernel
theorem dX9_rulesLeft_2 : decode cX9_rulesLeft 2 = .ok (.iconst 0, 1) := by decide +kernel
theorem dX9_rulesLeft_3 : decode cX9_rulesLeft 3 = .ok (.istore_n 3, 1) := by decide +kernel
theorem dX9_rulesLeft_4 : decode cX9_rulesLeft 4 = .ok (.iload_n 3, 1) := by decide +kernel
theorem dX9_rulesLeft_5 : decode cX9_rulesLeft 5 = .ok (.aload_n 0, 1) := by decide +kernel
theorem dX9_rulesLeft_6 : decode cX9_rulesLeft 6 = .ok (.getfield 253, 3) := by decide +kernel
theorem dX9_rulesLeft_9 : decode cX9_rulesLeft 9 = .ok (.if_icmp .ge 30, 3) := by decide +kernel
theorem dX9_rulesLeft_12 : decode cX9_rulesLeft 12 = .ok (.aload_n 0, 1) := by decide +kernel
theorem dX9_rulesLeft_13 : decode cX9_rulesLeft 13 = .ok (.aload_n 0, 1) := by decide +kernel
theorem dX9_rulesLeft_14 : decode cX9_rulesLeft 14 = .ok (.getfield 110, 3) := by decide +kernel
theorem dX9_rulesLeft_17 : decode cX9_rulesLeft 17 = .ok (.iload_n 3, 1) := by decide +kernel
theorem dX9_rulesLeft_18 : decode cX9_rulesLeft 18 = .ok (.iaload, 1) := by decide +kernel
theorem dX9_rulesLeft_19 : decode cX9_rulesLeft 19 = .ok (.invokevirtual 250, 3) := by decide +kernel
theorem dX9_rulesLeft_22 : decode cX9_rulesLeft 22 = .ok (.iload_n 2, 1) := by decide +kernel
theorem dX9_rulesLeft_23 : decode cX9_rulesLeft 23 = .ok (.iconst 1, 1) := by decide +kernel
theorem dX9_rulesLeft_24 : decode cX9_rulesLeft 24 = .ok (.aload_n 0, 1) := by decide +kernel
theorem dX9_rulesLeft_25 : decode cX9_rulesLeft 25 = .ok (.getfield 56, 3) := by decide +kernel
theorem dX9_rulesLeft_28 : decode cX9_rulesLeft 28 = .ok (.iload_n 1, 1) := by decide +kernel
theorem dX9_rulesLeft_29 : decode cX9_rulesLeft 29 = .ok (.iaload, 1) := by decide +kernel
theorem dX9_rulesLeft_30 : decode cX9_rulesLeft 30 = .ok (.ishl, 1) := by decide +kernel
theorem dX9_rulesLeft_31 : decode cX9_rulesLeft 31 = .ok (.ior, 1) := by decide +kernel
theorem dX9_rulesLeft_32 : decode cX9_rulesLeft 32 = .ok (.istore_n 2, 1) := by decide +kernel
theorem dX9_rulesLeft_33 : decode cX9_rulesLeft 33 = .ok (.iinc 3 1, 3) := by decide +kernel
theorem dX9_rulesLeft_36 : decode cX9_rulesLeft 36 = .ok (.goto (-32), 3) := by decide +kernel
theorem dX9_rulesLeft_39 : decode cX9_rulesLeft 39 = .ok (.iload_n 2, 1) := by decide +kernel
theorem dX9_rulesLeft_40 : decode cX9_rulesLeft 40 = .ok (.ireturn, 1) := by decide +kernel
theorem dX9_rules_0 : decode cX9_rules 0 = .ok (.aload_n 0, 1) := by decide +kernel
theorem dX9_rules_1 : decode cX9_rules 1 = .ok (.iload_n 1, 1) := by decide +kernel
theorem dX9_rules_2 : decode cX9_rules 2 = .ok (.invokevirtual 145, 3) := by decide +kernel
theorem dX9_rules_5 : decode cX9_rules 5 = .ok (.ifCond .ne 5, 3) := by decide +kernel
theorem dX9_rules_8 : decode cX9_rules 8 = .ok (.iconst (-1), 1) := by decide +kernel
theorem dX9_rules_9 : decode cX9_rules 9 = .ok (.ireturn, 1) := by decide +kernel
theorem dX9_rules_10 : decode cX9_rules 10 = .ok (.aload_n 0, 1) := by decide +kernel
theorem dX9_rules_11 : decode cX9_rules 11 = .ok (.invokevirtual 259, 3) := by decide +kernel
theorem dX9_rules_14 : decode cX9_rules 14 = .ok (.ifCond .eq 11, 3) := by decide +kernel
theorem dX9_rules_17 : decode cX9_rules 17 = .ok (.aload_n 0, 1) := by decide +kernel
theorem dX9_rules_18 : decode cX9_rules 18 = .ok (.iload_n 1, 1) := by decide +kernel
theorem dX9_rules_19 : decode cX9_rules 19 = .ok (.invokevirtual 262, 3) := by decide +kernel
theorem dX9_rules_22 : decode cX9_rules 22 = .ok (.goto 5, 3) := by decide +kernel
theorem dX9_rules_25 : decode cX9_rules 25 = .ok (.bipush (-5), 2) := by decide +kernel
theorem dX9_rules_27 : decode cX9_rules 27 = .ok (.ireturn, 1) := by decide +kernel
theorem dX9_learn_0 : decode cX9_learn 0 = .ok (.aload_n 0, 1) := by decide +kernel
theorem dX9_learn_1 : decode cX9_learn 1 = .ok (.invokevirtual 259, 3) := by decide +kernel
theorem dX9_learn_4 : decode cX9_learn 4 = .ok (.ifCond .ne 6, 3) := by decide +kernel
theorem dX9_learn_7 : decode cX9_learn 7 = .ok (.bipush (-5), 2) := by decide +kernel
theorem dX9_learn_9 : decode cX9_learn 9 = .ok (.ireturn, 1) := by decide +kernel
theorem dX9_learn_10 : decode cX9_learn 10 = .ok (.aload_n 0, 1) := by decide +kernel
theorem dX9_learn_11 : decode cX9_learn 11 = .ok (.getfield 253, 3) := by decide +kernel
theorem dX9_learn_14 : decode cX9_learn 14 = .ok (.ifCond .ne 6, 3) := by decide +kernel
theorem dX9_learn_17 : decode cX9_learn 17 = .ok (.bipush (-3), 2) := by decide +kernel
theorem dX9_learn_19 : decode cX9_learn 19 = .ok (.ireturn, 1) := by decide +kernel
theorem dX9_learn_20 : decode cX9_learn 20 = .ok (.iconst 0, 1) := by decide +kernel
theorem dX9_learn_21 : decode cX9_learn 21 = .ok (.istore_n 1, 1) := by decide +kernel
theorem dX9_learn_22 : decode cX9_learn 22 = .ok (.iload_n 1, 1) := by decide +kernel
theorem dX9_learn_23 : decode cX9_learn 23 = .ok (.aload_n 0, 1) := by decide +kernel
theorem dX9_learn_24 : decode cX9_learn 24 = .ok (.getfield 132, 3) := by decide +kernel
theorem dX9_learn_27 : decode cX9_learn 27 = .ok (.if_icmp .ge 20, 3) := by decide +kernel
theorem dX9_learn_30 : decode cX9_learn 30 = .ok (.aload_n 0, 1) := by decide +kernel
theorem dX9_learn_31 : decode cX9_learn 31 = .ok (.getfield 113, 3) := by decide +kernel
theorem dX9_learn_34 : decode cX9_learn 34 = .ok (.iload_n 1, 1) := by decide +kernel
theorem dX9_learn_35 : decode cX9_learn 35 = .ok (.aload_n 0, 1) := by decide +kernel
theorem dX9_learn_36 : decode cX9_learn 36 = .ok (.iload_n 1, 1) := by decide +kernel
theorem dX9_learn_37 : decode cX9_learn 37 = .ok (.invokevirtual 262, 3) := by decide +kernel
theorem dX9_learn_40 : decode cX9_learn 40 = .ok (.iastore, 1) := by decide +kernel
theorem dX9_learn_41 : decode cX9_learn 41 = .ok (.iinc 1 1, 3) := by decide +kernel
theorem dX9_learn_44 : decode cX9_learn 44 = .ok (.goto (-22), 3) := by decide +kernel
theorem dX9_learn_47 : decode cX9_learn 47 = .ok (.iconst 0, 1) := by decide +kernel
theorem dX9_learn_48 : decode cX9_learn 48 = .ok (.istore_n 1, 1) := by decide +kernel
theorem dX9_learn_49 : decode cX9_learn 49 = .ok (.iload_n 1, 1) := by decide +kernel
theorem dX9_learn_50 : decode cX9_learn 50 = .ok (.aload_n 0, 1) := by decide +kernel
theorem dX9_learn_51 : decode cX9_learn 51 = .ok (.getfield 132, 3) := by decide +kernel
theorem dX9_learn_54 : decode cX9_learn 54 = .ok (.if_icmp .ge 21, 3) := by decide +kernel
theorem dX9_learn_57 : decode cX9_learn 57 = .ok (.aload_n 0, 1) := by decide +kernel
theorem dX9_learn_58 : decode cX9_learn 58 = .ok (.getfield 16, 3) := by decide +kernel
theorem dX9_learn_61 : decode cX9_learn 61 = .ok (.iload_n 1, 1) := by decide +kernel
theorem dX9_learn_62 : decode cX9_learn 62 = .ok (.aload_n 0, 1) := by decide +kernel
theorem dX9_learn_63 : decode cX9_learn 63 = .ok (.getfield 113, 3) := by decide +kernel
theorem dX9_learn_66 : decode cX9_learn 66 = .ok (.iload_n 1, 1) := by decide +kernel
theorem dX9_learn_67 : decode cX9_learn 67 = .ok (.iaload, 1) := by decide +kernel
theorem dX9_learn_68 : decode cX9_learn 68 = .ok (.iastore, 1) := by decide +kernel
theorem dX9_learn_69 : decode cX9_learn 69 = .ok (.iinc 1 1, 3) := by decide +kernel
theorem dX9_learn_72 : decode cX9_learn 72 = .ok (.goto (-23), 3) := by decide +kernel
theorem dX9_learn_75 : decode cX9_learn 75 = .ok (.aload_n 0, 1) := by decide +kernel
theorem dX9_learn_76 : decode cX9_learn 76 = .ok (.invokevirtual 244, 3) := by decide +kernel
theorem dX9_learn_79 : decode cX9_learn 79 = .ok (.ireturn, 1) := by decide +kernel
theorem dX9_quarrel_0 : decode cX9_quarrel 0 = .ok (.aload_n 0, 1) := by decide +kernel
theorem dX9_quarrel_1 : decode cX9_quarrel 1 = .ok (.invokevirtual 244, 3) := by decide +kernel
theorem dX9_quarrel_4 : decode cX9_quarrel 4 = .ok (.istore_n 1, 1) := by decide +kernel
theorem dX9_quarrel_5 : decode cX9_quarrel 5 = .ok (.iload_n 1, 1) := by decide +kernel
theorem dX9_quarrel_6 : decode cX9_quarrel 6 = .ok (.sipush 256, 3) := by decide +kernel
theorem dX9_quarrel_9 : decode cX9_quarrel 9 = .ok (.if_icmp .le 6, 3) := by decide +kernel
theorem dX9_quarrel_12 : decode cX9_quarrel 12 = .ok (.bipush (-5), 2) := by decide +kernel
theorem dX9_quarrel_14 : decode cX9_quarrel 14 = .ok (.ireturn, 1) := by decide +kernel
theorem dX9_quarrel_15 : decode cX9_quarrel 15 = .ok (.iconst 0, 1) := by decide +kernel
theorem dX9_quarrel_16 : decode cX9_quarrel 16 = .ok (.istore_n 2, 1) := by decide +kernel
theorem dX9_quarrel_17 : decode cX9_quarrel 17 = .ok (.iload_n 2, 1) := by decide +kernel
theorem dX9_quarrel_18 : decode cX9_quarrel 18 = .ok (.aload_n 0, 1) := by decide +kernel
theorem dX9_quarrel_19 : decode cX9_quarrel 19 = .ok (.getfield 238, 3) := by decide +kernel
theorem dX9_quarrel_22 : decode cX9_quarrel 22 = .ok (.if_icmp .ge 46, 3) := by decide +kernel
theorem dX9_quarrel_25 : decode cX9_quarrel 25 = .ok (.iconst 0, 1) := by decide +kernel
theorem dX9_quarrel_26 : decode cX9_quarrel 26 = .ok (.istore_n 3, 1) := by decide +kernel
theorem dX9_quarrel_27 : decode cX9_quarrel 27 = .ok (.iconst 0, 1) := by decide +kernel
theorem dX9_quarrel_28 : decode cX9_quarrel 28 = .ok (.istore 4, 2) := by decide +kernel
theorem dX9_quarrel_30 : decode cX9_quarrel 30 = .ok (.iload 4, 2) := by decide +kernel
theorem dX9_quarrel_32 : decode cX9_quarrel 32 = .ok (.iload_n 1, 1) := by decide +kernel
theorem dX9_quarrel_33 : decode cX9_quarrel 33 = .ok (.if_icmp .ge 23, 3) := by decide +kernel
theorem dX9_quarrel_36 : decode cX9_quarrel 36 = .ok (.iload_n 3, 1) := by decide +kernel
theorem dX9_quarrel_37 : decode cX9_quarrel 37 = .ok (.ifCond .ne 19, 3) := by decide +kernel
theorem dX9_quarrel_40 : decode cX9_quarrel 40 = .ok (.aload_n 0, 1) := by decide +kernel
theorem dX9_quarrel_41 : decode cX9_quarrel 41 = .ok (.iload 4, 2) := by decide +kernel
theorem dX9_quarrel_43 : decode cX9_quarrel 43 = .ok (.iload_n 2, 1) := by decide +kernel
theorem dX9_quarrel_44 : decode cX9_quarrel 44 = .ok (.iconst 1, 1) := by decide +kernel
theorem dX9_quarrel_45 : decode cX9_quarrel 45 = .ok (.iadd, 1) := by decide +kernel
theorem dX9_quarrel_46 : decode cX9_quarrel 46 = .ok (.invokevirtual 256, 3) := by decide +kernel
theorem dX9_quarrel_49 : decode cX9_quarrel 49 = .ok (.istore_n 3, 1) := by decide +kernel
theorem dX9_quarrel_50 : decode cX9_quarrel 50 = .ok (.iinc 4 1, 3) := by decide +kernel
theorem dX9_quarrel_53 : decode cX9_quarrel 53 = .ok (.goto (-23), 3) := by decide +kernel
theorem dX9_quarrel_56 : decode cX9_quarrel 56 = .ok (.iload_n 3, 1) := by decide +kernel
theorem dX9_quarrel_57 : decode cX9_quarrel 57 = .ok (.ifCond .ne 5, 3) := by decide +kernel
theorem dX9_quarrel_60 : decode cX9_quarrel 60 = .ok (.iload_n 2, 1) := by decide +kernel
theorem dX9_quarrel_61 : decode cX9_quarrel 61 = .ok (.ireturn, 1) := by decide +kernel
theorem dX9_quarrel_62 : decode cX9_quarrel 62 = .ok (.iinc 2 1, 3) := by decide +kernel
theorem dX9_quarrel_65 : decode cX9_quarrel 65 = .ok (.goto (-48), 3) := by decide +kernel
theorem dX9_quarrel_68 : decode cX9_quarrel 68 = .ok (.bipush (-9), 2) := by decide +kernel
theorem dX9_quarrel_70 : decode cX9_quarrel 70 = .ok (.ireturn, 1) := by decide +kernel
theorem dX9_greatestAlike_0 : decode cX9_greatestAlike 0 = .ok (.iconst 0, 1) := by decide +kernel
theorem dX9_greatestAlike_1 : decode cX9_greatestAlike 1 = .ok (.istore_n 3, 1) := by decide +kernel
theorem dX9_greatestAlike_2 : decode cX9_greatestAlike 2 = .ok (.iload_n 3, 1) := by decide +kernel
theorem dX9_greatestAlike_3 : decode cX9_greatestAlike 3 = .ok (.aload_n 0, 1) := by decide +kernel
theorem dX9_greatestAlike_4 : decode cX9_greatestAlike 4 = .ok (.getfield 253, 3) := by decide +kernel
theorem dX9_greatestAlike_7 : decode cX9_greatestAlike 7 = .ok (.if_icmp .ge 104, 3) := by decide +kernel
theorem dX9_greatestAlike_10 : decode cX9_greatestAlike 10 = .ok (.aload_n 0, 1) := by decide +kernel
theorem dX9_greatestAlike_11 : decode cX9_greatestAlike 11 = .ok (.invokevirtual 209, 3) := by decide +kernel
theorem dX9_greatestAlike_14 : decode cX9_greatestAlike 14 = .ok (.aload_n 0, 1) := by decide +kernel
theorem dX9_greatestAlike_15 : decode cX9_greatestAlike 15 = .ok (.getfield 44, 3) := by decide +kernel
theorem dX9_greatestAlike_18 : decode cX9_greatestAlike 18 = .ok (.iload_n 1, 1) := by decide +kernel
theorem dX9_greatestAlike_19 : decode cX9_greatestAlike 19 = .ok (.iload_n 2, 1) := by decide +kernel
theorem dX9_greatestAlike_20 : decode cX9_greatestAlike 20 = .ok (.iastore, 1) := by decide +kernel
theorem dX9_greatestAlike_21 : decode cX9_greatestAlike 21 = .ok (.aload_n 0, 1) := by decide +kernel
theorem dX9_greatestAlike_22 : decode cX9_greatestAlike 22 = .ok (.aload_n 0, 1) := by decide +kernel
theorem dX9_greatestAlike_23 : decode cX9_greatestAlike 23 = .ok (.getfield 110, 3) := by decide +kernel
theorem dX9_greatestAlike_26 : decode cX9_greatestAlike 26 = .ok (.iload_n 3, 1) := by decide +kernel
theorem dX9_greatestAlike_27 : decode cX9_greatestAlike 27 = .ok (.iaload, 1) := by decide +kernel
theorem dX9_greatestAlike_28 : decode cX9_greatestAlike 28 = .ok (.invokevirtual 250, 3) := by decide +kernel
theorem dX9_greatestAlike_31 : decode cX9_greatestAlike 31 = .ok (.ldc2_w 265, 3) := by decide +kernel
theorem dX9_greatestAlike_34 : decode cX9_greatestAlike 34 = .ok (.lstore 4, 2) := by decide +kernel
theorem dX9_greatestAlike_36 : decode cX9_greatestAlike 36 = .ok (.aload_n 0, 1) := by decide +kernel
theorem dX9_greatestAlike_37 : decode cX9_greatestAlike 37 = .ok (.invokevirtual 212, 3) := by decide +kernel
theorem dX9_greatestAlike_40 : decode cX9_greatestAlike 40 = .ok (.ifCond .eq 57, 3) := by decide +kernel
theorem dX9_greatestAlike_43 : decode cX9_greatestAlike 43 = .ok (.lconst 0, 1) := by decide +kernel
theorem dX9_greatestAlike_44 : decode cX9_greatestAlike 44 = .ok (.lstore 4, 2) := by decide +kernel
theorem dX9_greatestAlike_46 : decode cX9_greatestAlike 46 = .ok (.iconst 0, 1) := by decide +kernel
theorem dX9_greatestAlike_47 : decode cX9_greatestAlike 47 = .ok (.istore 6, 2) := by decide +kernel
theorem dX9_greatestAlike_49 : decode cX9_greatestAlike 49 = .ok (.iload 6, 2) := by decide +kernel
theorem dX9_greatestAlike_51 : decode cX9_greatestAlike 51 = .ok (.aload_n 0, 1) := by decide +kernel
theorem dX9_greatestAlike_52 : decode cX9_greatestAlike 52 = .ok (.getfield 132, 3) := by decide +kernel
theorem dX9_greatestAlike_55 : decode cX9_greatestAlike 55 = .ok (.if_icmp .ge 42, 3) := by decide +kernel
theorem dX9_greatestAlike_58 : decode cX9_greatestAlike 58 = .ok (.ldc2_w 267, 3) := by decide +kernel
theorem dX9_greatestAlike_61 : decode cX9_greatestAlike 61 = .ok (.lload 4, 2) := by decide +kernel
theorem dX9_greatestAlike_63 : decode cX9_greatestAlike 63 = .ok (.lmul, 1) := by decide +kernel
theorem dX9_greatestAlike_64 : decode cX9_greatestAlike 64 = .ok (.aload_n 0, 1) := by decide +kernel
theorem dX9_greatestAlike_65 : decode cX9_greatestAlike 65 = .ok (.getfield 59, 3) := by decide +kernel
theorem dX9_greatestAlike_68 : decode cX9_greatestAlike 68 = .ok (.iload 6, 2) := by decide +kernel
theorem dX9_greatestAlike_70 : decode cX9_greatestAlike 70 = .ok (.iaload, 1) := by decide +kernel
theorem dX9_greatestAlike_71 : decode cX9_greatestAlike 71 = .ok (.bipush (-9), 2) := by decide +kernel
theorem dX9_greatestAlike_73 : decode cX9_greatestAlike 73 = .ok (.if_icmp .ne 7, 3) := by decide +kernel
theorem dX9_greatestAlike_76 : decode cX9_greatestAlike 76 = .ok (.iconst 5, 1) := by decide +kernel
theorem dX9_greatestAlike_77 : decode cX9_greatestAlike 77 = .ok (.goto 10, 3) := by decide +kernel
theorem dX9_greatestAlike_80 : decode cX9_greatestAlike 80 = .ok (.aload_n 0, 1) := by decide +kernel
theorem dX9_greatestAlike_81 : decode cX9_greatestAlike 81 = .ok (.getfield 59, 3) := by decide +kernel
theorem dX9_greatestAlike_84 : decode cX9_greatestAlike 84 = .ok (.iload 6, 2) := by decide +kernel
theorem dX9_greatestAlike_86 : decode cX9_greatestAlike 86 = .ok (.iaload, 1) := by decide +kernel
theorem dX9_greatestAlike_87 : decode cX9_greatestAlike 87 = .ok (.i2l, 1) := by decide +kernel
theorem dX9_greatestAlike_88 : decode cX9_greatestAlike 88 = .ok (.ladd, 1) := by decide +kernel
theorem dX9_greatestAlike_89 : decode cX9_greatestAlike 89 = .ok (.lstore 4, 2) := by decide +kernel
theorem dX9_greatestAlike_91 : decode cX9_greatestAlike 91 = .ok (.iinc 6 1, 3) := by decide +kernel
theorem dX9_greatestAlike_94 : decode cX9_greatestAlike 94 = .ok (.goto (-45), 3) := by decide +kernel
theorem dX9_greatestAlike_97 : decode cX9_greatestAlike 97 = .ok (.aload_n 0, 1) := by decide +kernel
theorem dX9_greatestAlike_98 : decode cX9_greatestAlike 98 = .ok (.getfield 116, 3) := by decide +kernel
theorem dX9_greatestAlike_101 : decode cX9_greatestAlike 101 = .ok (.iload_n 3, 1) := by decide +kernel
theorem dX9_greatestAlike_102 : decode cX9_greatestAlike 102 = .ok (.lload 4, 2) := by decide +kernel
theorem dX9_greatestAlike_104 : decode cX9_greatestAlike 104 = .ok (.lastore, 1) := by decide +kernel
theorem dX9_greatestAlike_105 : decode cX9_greatestAlike 105 = .ok (.iinc 3 1, 3) := by decide +kernel
theorem dX9_greatestAlike_108 : decode cX9_greatestAlike 108 = .ok (.goto (-106), 3) := by decide +kernel
theorem dX9_greatestAlike_111 : decode cX9_greatestAlike 111 = .ok (.iconst 0, 1) := by decide +kernel
theorem dX9_greatestAlike_112 : decode cX9_greatestAlike 112 = .ok (.istore_n 3, 1) := by decide +kernel
theorem dX9_greatestAlike_113 : decode cX9_greatestAlike 113 = .ok (.iconst 0, 1) := by decide +kernel
theorem dX9_greatestAlike_114 : decode cX9_greatestAlike 114 = .ok (.istore 4, 2) := by decide +kernel
theorem dX9_greatestAlike_116 : decode cX9_greatestAlike 116 = .ok (.iload 4, 2) := by decide +kernel
theorem dX9_greatestAlike_118 : decode cX9_greatestAlike 118 = .ok (.aload_n 0, 1) := by decide +kernel
theorem dX9_greatestAlike_119 : decode cX9_greatestAlike 119 = .ok (.getfield 253, 3) := by decide +kernel
theorem dX9_greatestAlike_122 : decode cX9_greatestAlike 122 = .ok (.if_icmp .ge 71, 3) := by decide +kernel
theorem dX9_greatestAlike_125 : decode cX9_greatestAlike 125 = .ok (.iconst 0, 1) := by decide +kernel
theorem dX9_greatestAlike_126 : decode cX9_greatestAlike 126 = .ok (.istore 5, 2) := by decide +kernel
theorem dX9_greatestAlike_128 : decode cX9_greatestAlike 128 = .ok (.iconst 0, 1) := by decide +kernel
theorem dX9_greatestAlike_129 : decode cX9_greatestAlike 129 = .ok (.istore 6, 2) := by decide +kernel
theorem dX9_greatestAlike_131 : decode cX9_greatestAlike 131 = .ok (.iload 6, 2) := by decide +kernel
theorem dX9_greatestAlike_133 : decode cX9_greatestAlike 133 = .ok (.aload_n 0, 1) := by decide +kernel
theorem dX9_greatestAlike_134 : decode cX9_greatestAlike 134 = .ok (.getfield 253, 3) := by decide +kernel
theorem dX9_greatestAlike_137 : decode cX9_greatestAlike 137 = .ok (.if_icmp .ge 37, 3) := by decide +kernel
theorem dX9_greatestAlike_140 : decode cX9_greatestAlike 140 = .ok (.iload 5, 2) := by decide +kernel
theorem dX9_greatestAlike_142 : decode cX9_greatestAlike 142 = .ok (.aload_n 0, 1) := by decide +kernel
theorem dX9_greatestAlike_143 : decode cX9_greatestAlike 143 = .ok (.getfield 116, 3) := by decide +kernel
theorem dX9_greatestAlike_146 : decode cX9_greatestAlike 146 = .ok (.iload 6, 2) := by decide +kernel
theorem dX9_greatestAlike_148 : decode cX9_greatestAlike 148 = .ok (.laload, 1) := by decide +kernel
theorem dX9_greatestAlike_149 : decode cX9_greatestAlike 149 = .ok (.aload_n 0, 1) := by decide +kernel
theorem dX9_greatestAlike_150 : decode cX9_greatestAlike 150 = .ok (.getfield 116, 3) := by decide +kernel
theorem dX9_greatestAlike_153 : decode cX9_greatestAlike 153 = .ok (.iload 4, 2) := by decide +kernel
theorem dX9_greatestAlike_155 : decode cX9_greatestAlike 155 = .ok (.laload, 1) := by decide +kernel
theorem dX9_greatestAlike_156 : decode cX9_greatestAlike 156 = .ok (.lcmp, 1) := by decide +kernel
theorem dX9_greatestAlike_157 : decode cX9_greatestAlike 157 = .ok (.ifCond .ne 7, 3) := by decide +kernel
theorem dX9_greatestAlike_160 : decode cX9_greatestAlike 160 = .ok (.iconst 1, 1) := by decide +kernel
theorem dX9_greatestAlike_161 : decode cX9_greatestAlike 161 = .ok (.goto 4, 3) := by decide +kernel
theorem dX9_greatestAlike_164 : decode cX9_greatestAlike 164 = .ok (.iconst 0, 1) := by decide +kernel
theorem dX9_greatestAlike_165 : decode cX9_greatestAlike 165 = .ok (.iadd, 1) := by decide +kernel
theorem dX9_greatestAlike_166 : decode cX9_greatestAlike 166 = .ok (.istore 5, 2) := by decide +kernel
theorem dX9_greatestAlike_168 : decode cX9_greatestAlike 168 = .ok (.iinc 6 1, 3) := by decide +kernel
theorem dX9_greatestAlike_171 : decode cX9_greatestAlike 171 = .ok (.goto (-40), 3) := by decide +kernel
theorem dX9_greatestAlike_174 : decode cX9_greatestAlike 174 = .ok (.iload 5, 2) := by decide +kernel
theorem dX9_greatestAlike_176 : decode cX9_greatestAlike 176 = .ok (.iload_n 3, 1) := by decide +kernel
theorem dX9_greatestAlike_177 : decode cX9_greatestAlike 177 = .ok (.if_icmp .le 8, 3) := by decide +kernel
theorem dX9_greatestAlike_180 : decode cX9_greatestAlike 180 = .ok (.iload 5, 2) := by decide +kernel
theorem dX9_greatestAlike_182 : decode cX9_greatestAlike 182 = .ok (.goto 4, 3) := by decide +kernel
theorem dX9_greatestAlike_185 : decode cX9_greatestAlike 185 = .ok (.iload_n 3, 1) := by decide +kernel
theorem dX9_greatestAlike_186 : decode cX9_greatestAlike 186 = .ok (.istore_n 3, 1) := by decide +kernel
theorem dX9_greatestAlike_187 : decode cX9_greatestAlike 187 = .ok (.iinc 4 1, 3) := by decide +kernel
theorem dX9_greatestAlike_190 : decode cX9_greatestAlike 190 = .ok (.goto (-74), 3) := by decide +kernel
theorem dX9_greatestAlike_193 : decode cX9_greatestAlike 193 = .ok (.iload_n 3, 1) := by decide +kernel
theorem dX9_greatestAlike_194 : decode cX9_greatestAlike 194 = .ok (.ireturn, 1) := by decide +kernel
theorem dX9_next_0 : decode cX9_next 0 = .ok (.aload_n 0, 1) := by decide +kernel
theorem dX9_next_1 : decode cX9_next 1 = .ok (.invokevirtual 259, 3) := by decide +kernel
theorem dX9_next_4 : decode cX9_next 4 = .ok (.ifCond .ne 6, 3) := by decide +kernel
theorem dX9_next_7 : decode cX9_next 7 = .ok (.bipush (-5), 2) := by decide +kernel
theorem dX9_next_9 : decode cX9_next 9 = .ok (.ireturn, 1) := by decide +kernel
theorem dX9_next_10 : decode cX9_next 10 = .ok (.aload_n 0, 1) := by decide +kernel
theorem dX9_next_11 : decode cX9_next 11 = .ok (.bipush (-9), 2) := by decide +kernel
theorem dX9_next_13 : decode cX9_next 13 = .ok (.putfield 269, 3) := by decide +kernel
theorem dX9_next_16 : decode cX9_next 16 = .ok (.aload_n 0, 1) := by decide +kernel
theorem dX9_next_17 : decode cX9_next 17 = .ok (.bipush (-9), 2) := by decide +kernel
theorem dX9_next_19 : decode cX9_next 19 = .ok (.putfield 272, 3) := by decide +kernel
theorem dX9_next_22 : decode cX9_next 22 = .ok (.iconst 0, 1) := by decide +kernel
theorem dX9_next_23 : decode cX9_next 23 = .ok (.istore_n 2, 1) := by decide +kernel
theorem dX9_next_24 : decode cX9_next 24 = .ok (.iload_n 2, 1) := by decide +kernel
theorem dX9_next_25 : decode cX9_next 25 = .ok (.iconst 5, 1) := by decide +kernel
theorem dX9_next_26 : decode cX9_next 26 = .ok (.aload_n 0, 1) := by decide +kernel
theorem dX9_next_27 : decode cX9_next 27 = .ok (.getfield 140, 3) := by decide +kernel
theorem dX9_next_30 : decode cX9_next 30 = .ok (.imul, 1) := by decide +kernel
theorem dX9_next_31 : decode cX9_next 31 = .ok (.if_icmp .ge 88, 3) := by decide +kernel
theorem dX9_next_34 : decode cX9_next 34 = .ok (.aload_n 0, 1) := by decide +kernel
theorem dX9_next_35 : decode cX9_next 35 = .ok (.getfield 253, 3) := by decide +kernel
theorem dX9_next_38 : decode cX9_next 38 = .ok (.iconst 1, 1) := by decide +kernel
theorem dX9_next_39 : decode cX9_next 39 = .ok (.if_icmp .le 80, 3) := by decide +kernel
theorem dX9_next_42 : decode cX9_next 42 = .ok (.iload_n 2, 1) := by decide +kernel
theorem dX9_next_43 : decode cX9_next 43 = .ok (.iconst 5, 1) := by decide +kernel
theorem dX9_next_44 : decode cX9_next 44 = .ok (.idiv, 1) := by decide +kernel
theorem dX9_next_45 : decode cX9_next 45 = .ok (.istore_n 3, 1) := by decide +kernel
theorem dX9_next_46 : decode cX9_next 46 = .ok (.aload_n 0, 1) := by decide +kernel
theorem dX9_next_47 : decode cX9_next 47 = .ok (.getfield 25, 3) := by decide +kernel
theorem dX9_next_50 : decode cX9_next 50 = .ok (.iload_n 3, 1) := by decide +kernel
theorem dX9_next_51 : decode cX9_next 51 = .ok (.baload, 1) := by decide +kernel
theorem dX9_next_52 : decode cX9_next 52 = .ok (.ifCond .eq 61, 3) := by decide +kernel
theorem dX9_next_55 : decode cX9_next 55 = .ok (.aload_n 0, 1) := by decide +kernel
theorem dX9_next_56 : decode cX9_next 56 = .ok (.getfield 29, 3) := by decide +kernel
theorem dX9_next_59 : decode cX9_next 59 = .ok (.iload_n 3, 1) := by decide +kernel
theorem dX9_next_60 : decode cX9_next 60 = .ok (.iaload, 1) := by decide +kernel
theorem dX9_next_61 : decode cX9_next 61 = .ok (.iload_n 2, 1) := by decide +kernel
theorem dX9_next_62 : decode cX9_next 62 = .ok (.iconst 5, 1) := by decide +kernel
theorem dX9_next_63 : decode cX9_next 63 = .ok (.irem, 1) := by decide +kernel
theorem dX9_next_64 : decode cX9_next 64 = .ok (.if_icmp .eq 49, 3) := by decide +kernel
theorem dX9_next_67 : decode cX9_next 67 = .ok (.aload_n 0, 1) := by decide +kernel
theorem dX9_next_68 : decode cX9_next 68 = .ok (.iload_n 3, 1) := by decide +kernel
theorem dX9_next_69 : decode cX9_next 69 = .ok (.iload_n 2, 1) := by decide +kernel
theorem dX9_next_70 : decode cX9_next 70 = .ok (.iconst 5, 1) := by decide +kernel
theorem dX9_next_71 : decode cX9_next 71 = .ok (.irem, 1) := by decide +kernel
theorem dX9_next_72 : decode cX9_next 72 = .ok (.invokevirtual 275, 3) := by decide +kernel
theorem dX9_next_75 : decode cX9_next 75 = .ok (.istore 4, 2) := by decide +kernel
theorem dX9_next_77 : decode cX9_next 77 = .ok (.aload_n 0, 1) := by decide +kernel
theorem dX9_next_78 : decode cX9_next 78 = .ok (.getfield 269, 3) := by decide +kernel
theorem dX9_next_81 : decode cX9_next 81 = .ok (.bipush (-9), 2) := by decide +kernel
theorem dX9_next_83 : decode cX9_next 83 = .ok (.if_icmp .eq 12, 3) := by decide +kernel
theorem dX9_next_86 : decode cX9_next 86 = .ok (.iload 4, 2) := by decide +kernel
theorem dX9_next_88 : decode cX9_next 88 = .ok (.aload_n 0, 1) := by decide +kernel
theorem dX9_next_89 : decode cX9_next 89 = .ok (.getfield 272, 3) := by decide +kernel
theorem dX9_next_92 : decode cX9_next 92 = .ok (.if_icmp .ge 21, 3) := by decide +kernel
theorem dX9_next_95 : decode cX9_next 95 = .ok (.aload_n 0, 1) := by decide +kernel
theorem dX9_next_96 : decode cX9_next 96 = .ok (.bipush 10, 2) := by decide +kernel
theorem dX9_next_98 : decode cX9_next 98 = .ok (.iload_n 3, 1) := by decide +kernel
theorem dX9_next_99 : decode cX9_next 99 = .ok (.imul, 1) := by decide +kernel
theorem dX9_next_100 : decode cX9_next 100 = .ok (.iload_n 2, 1) := by decide +kernel
theorem dX9_next_101 : decode cX9_next 101 = .ok (.iconst 5, 1) := by decide +kernel
theorem dX9_next_102 : decode cX9_next 102 = .ok (.irem, 1) := by decide +kernel
theorem dX9_next_103 : decode cX9_next 103 = .ok (.iadd, 1) := by decide +kernel
theorem dX9_next_104 : decode cX9_next 104 = .ok (.putfield 269, 3) := by decide +kernel
theorem dX9_next_107 : decode cX9_next 107 = .ok (.aload_n 0, 1) := by decide +kernel
theorem dX9_next_108 : decode cX9_next 108 = .ok (.iload 4, 2) := by decide +kernel
theorem dX9_next_110 : decode cX9_next 110 = .ok (.putfield 272, 3) := by decide +kernel
theorem dX9_next_113 : decode cX9_next 113 = .ok (.iinc 2 1, 3) := by decide +kernel
theorem dX9_next_116 : decode cX9_next 116 = .ok (.goto (-92), 3) := by decide +kernel
theorem dX9_next_119 : decode cX9_next 119 = .ok (.iload_n 1, 1) := by decide +kernel
theorem dX9_next_120 : decode cX9_next 120 = .ok (.ifCond .eq 10, 3) := by decide +kernel
theorem dX9_next_123 : decode cX9_next 123 = .ok (.aload_n 0, 1) := by decide +kernel
theorem dX9_next_124 : decode cX9_next 124 = .ok (.getfield 272, 3) := by decide +kernel
theorem dX9_next_127 : decode cX9_next 127 = .ok (.goto 7, 3) := by decide +kernel
theorem dX9_next_130 : decode cX9_next 130 = .ok (.aload_n 0, 1) := by decide +kernel
theorem dX9_next_131 : decode cX9_next 131 = .ok (.getfield 269, 3) := by decide +kernel
theorem dX9_next_134 : decode cX9_next 134 = .ok (.ireturn, 1) := by decide +kernel
theorem dX9_layChoice_0 : decode cX9_layChoice 0 = .ok (.iload_n 1, 1) := by decide +kernel
theorem dX9_layChoice_1 : decode cX9_layChoice 1 = .ok (.istore_n 2, 1) := by decide +kernel
theorem dX9_layChoice_2 : decode cX9_layChoice 2 = .ok (.iconst 1, 1) := by decide +kernel
theorem dX9_layChoice_3 : decode cX9_layChoice 3 = .ok (.istore_n 3, 1) := by decide +kernel
theorem dX9_layChoice_4 : decode cX9_layChoice 4 = .ok (.iconst 3, 1) := by decide +kernel
theorem dX9_layChoice_5 : decode cX9_layChoice 5 = .ok (.istore 4, 2) := by decide +kernel
theorem dX9_layChoice_7 : decode cX9_layChoice 7 = .ok (.iload 4, 2) := by decide +kernel
theorem dX9_layChoice_9 : decode cX9_layChoice 9 = .ok (.ifCond .lt 88, 3) := by decide +kernel
theorem dX9_layChoice_12 : decode cX9_layChoice 12 = .ok (.iload_n 2, 1) := by decide +kernel
theorem dX9_layChoice_13 : decode cX9_layChoice 13 = .ok (.iconst 5, 1) := by decide +kernel
theorem dX9_layChoice_14 : decode cX9_layChoice 14 = .ok (.irem, 1) := by decide +kernel
theorem dX9_layChoice_15 : decode cX9_layChoice 15 = .ok (.istore 5, 2) := by decide +kernel
theorem dX9_layChoice_17 : decode cX9_layChoice 17 = .ok (.iload_n 2, 1) := by decide +kernel
theorem dX9_layChoice_18 : decode cX9_layChoice 18 = .ok (.iconst 5, 1) := by decide +kernel
theorem dX9_layChoice_19 : decode cX9_layChoice 19 = .ok (.idiv, 1) := by decide +kernel
theorem dX9_layChoice_20 : decode cX9_layChoice 20 = .ok (.istore_n 2, 1) := by decide +kernel
theorem dX9_layChoice_21 : decode cX9_layChoice 21 = .ok (.iload 4, 2) := by decide +kernel
theorem dX9_layChoice_23 : decode cX9_layChoice 23 = .ok (.aload_n 0, 1) := by decide +kernel
theorem dX9_layChoice_24 : decode cX9_layChoice 24 = .ok (.getfield 140, 3) := by decide +kernel
theorem dX9_layChoice_27 : decode cX9_layChoice 27 = .ok (.if_icmp .ge 17, 3) := by decide +kernel
theorem dX9_layChoice_30 : decode cX9_layChoice 30 = .ok (.aload_n 0, 1) := by decide +kernel
theorem dX9_layChoice_31 : decode cX9_layChoice 31 = .ok (.getfield 25, 3) := by decide +kernel
theorem dX9_layChoice_34 : decode cX9_layChoice 34 = .ok (.iload 4, 2) := by decide +kernel
theorem dX9_layChoice_36 : decode cX9_layChoice 36 = .ok (.baload, 1) := by decide +kernel
theorem dX9_layChoice_37 : decode cX9_layChoice 37 = .ok (.ifCond .eq 7, 3) := by decide +kernel
theorem dX9_layChoice_40 : decode cX9_layChoice 40 = .ok (.iconst 1, 1) := by decide +kernel
theorem dX9_layChoice_41 : decode cX9_layChoice 41 = .ok (.goto 4, 3) := by decide +kernel
theorem dX9_layChoice_44 : decode cX9_layChoice 44 = .ok (.iconst 0, 1) := by decide +kernel
theorem dX9_layChoice_45 : decode cX9_layChoice 45 = .ok (.istore 6, 2) := by decide +kernel
theorem dX9_layChoice_47 : decode cX9_layChoice 47 = .ok (.iload_n 3, 1) := by decide +kernel
theorem dX9_layChoice_48 : decode cX9_layChoice 48 = .ok (.ifCond .eq 17, 3) := by decide +kernel
theorem dX9_layChoice_51 : decode cX9_layChoice 51 = .ok (.iload 6, 2) := by decide +kernel
theorem dX9_layChoice_53 : decode cX9_layChoice 53 = .ok (.ifCond .ne 8, 3) := by decide +kernel
theorem dX9_layChoice_56 : decode cX9_layChoice 56 = .ok (.iload 5, 2) := by decide +kernel
theorem dX9_layChoice_58 : decode cX9_layChoice 58 = .ok (.ifCond .ne 7, 3) := by decide +kernel
theorem dX9_layChoice_61 : decode cX9_layChoice 61 = .ok (.iconst 1, 1) := by decide +kernel
theorem dX9_layChoice_62 : decode cX9_layChoice 62 = .ok (.goto 4, 3) := by decide +kernel
theorem dX9_layChoice_65 : decode cX9_layChoice 65 = .ok (.iconst 0, 1) := by decide +kernel
theorem dX9_layChoice_66 : decode cX9_layChoice 66 = .ok (.istore_n 3, 1) := by decide +kernel
theorem dX9_layChoice_67 : decode cX9_layChoice 67 = .ok (.aload_n 0, 1) := by decide +kernel
theorem dX9_layChoice_68 : decode cX9_layChoice 68 = .ok (.getfield 120, 3) := by decide +kernel
theorem dX9_layChoice_71 : decode cX9_layChoice 71 = .ok (.iload 4, 2) := by decide +kernel
theorem dX9_layChoice_73 : decode cX9_layChoice 73 = .ok (.iload 6, 2) := by decide +kernel
theorem dX9_layChoice_75 : decode cX9_layChoice 75 = .ok (.ifCond .eq 8, 3) := by decide +kernel
theorem dX9_layChoice_78 : decode cX9_layChoice 78 = .ok (.iload 5, 2) := by decide +kernel
theorem dX9_layChoice_80 : decode cX9_layChoice 80 = .ok (.goto 10, 3) := by decide +kernel
theorem dX9_layChoice_83 : decode cX9_layChoice 83 = .ok (.aload_n 0, 1) := by decide +kernel
theorem dX9_layChoice_84 : decode cX9_layChoice 84 = .ok (.getfield 29, 3) := by decide +kernel
theorem dX9_layChoice_87 : decode cX9_layChoice 87 = .ok (.iload 4, 2) := by decide +kernel
theorem dX9_layChoice_89 : decode cX9_layChoice 89 = .ok (.iaload, 1) := by decide +kernel
theorem dX9_layChoice_90 : decode cX9_layChoice 90 = .ok (.iastore, 1) := by decide +kernel
theorem dX9_layChoice_91 : decode cX9_layChoice 91 = .ok (.iinc 4 (-1), 3) := by decide +kernel
theorem dX9_layChoice_94 : decode cX9_layChoice 94 = .ok (.goto (-87), 3) := by decide +kernel
theorem dX9_layChoice_97 : decode cX9_layChoice 97 = .ok (.iload_n 3, 1) := by decide +kernel
theorem dX9_layChoice_98 : decode cX9_layChoice 98 = .ok (.ireturn, 1) := by decide +kernel
theorem dX9_measure_0 : decode cX9_measure 0 = .ok (.aload_n 0, 1) := by decide +kernel
theorem dX9_measure_1 : decode cX9_measure 1 = .ok (.invokevirtual 209, 3) := by decide +kernel
theorem dX9_measure_4 : decode cX9_measure 4 = .ok (.iconst 0, 1) := by decide +kernel
theorem dX9_measure_5 : decode cX9_measure 5 = .ok (.istore_n 2, 1) := by decide +kernel
theorem dX9_measure_6 : decode cX9_measure 6 = .ok (.iload_n 2, 1) := by decide +kernel
theorem dX9_measure_7 : decode cX9_measure 7 = .ok (.aload_n 0, 1) := by decide +kernel
theorem dX9_measure_8 : decode cX9_measure 8 = .ok (.getfield 140, 3) := by decide +kernel
theorem dX9_measure_11 : decode cX9_measure 11 = .ok (.if_icmp .ge 46, 3) := by decide +kernel
theorem dX9_measure_14 : decode cX9_measure 14 = .ok (.aload_n 0, 1) := by decide +kernel
theorem dX9_measure_15 : decode cX9_measure 15 = .ok (.getfield 44, 3) := by decide +kernel
theorem dX9_measure_18 : decode cX9_measure 18 = .ok (.iload_n 2, 1) := by decide +kernel
theorem dX9_measure_19 : decode cX9_measure 19 = .ok (.aload_n 0, 1) := by decide +kernel
theorem dX9_measure_20 : decode cX9_measure 20 = .ok (.getfield 120, 3) := by decide +kernel
theorem dX9_measure_23 : decode cX9_measure 23 = .ok (.iload_n 2, 1) := by decide +kernel
theorem dX9_measure_24 : decode cX9_measure 24 = .ok (.iaload, 1) := by decide +kernel
theorem dX9_measure_25 : decode cX9_measure 25 = .ok (.iastore, 1) := by decide +kernel
theorem dX9_measure_26 : decode cX9_measure 26 = .ok (.aload_n 0, 1) := by decide +kernel
theorem dX9_measure_27 : decode cX9_measure 27 = .ok (.getfield 53, 3) := by decide +kernel
theorem dX9_measure_30 : decode cX9_measure 30 = .ok (.iload_n 2, 1) := by decide +kernel
theorem dX9_measure_31 : decode cX9_measure 31 = .ok (.aload_n 0, 1) := by decide +kernel
theorem dX9_measure_32 : decode cX9_measure 32 = .ok (.getfield 25, 3) := by decide +kernel
theorem dX9_measure_35 : decode cX9_measure 35 = .ok (.iload_n 2, 1) := by decide +kernel
theorem dX9_measure_36 : decode cX9_measure 36 = .ok (.baload, 1) := by decide +kernel
theorem dX9_measure_37 : decode cX9_measure 37 = .ok (.ifCond .eq 12, 3) := by decide +kernel
theorem dX9_measure_40 : decode cX9_measure 40 = .ok (.iload_n 2, 1) := by decide +kernel
theorem dX9_measure_41 : decode cX9_measure 41 = .ok (.iload_n 1, 1) := by decide +kernel
theorem dX9_measure_42 : decode cX9_measure 42 = .ok (.if_icmp .eq 7, 3) := by decide +kernel
theorem dX9_measure_45 : decode cX9_measure 45 = .ok (.iconst 1, 1) := by decide +kernel
theorem dX9_measure_46 : decode cX9_measure 46 = .ok (.goto 4, 3) := by decide +kernel
theorem dX9_measure_49 : decode cX9_measure 49 = .ok (.iconst 0, 1) := by decide +kernel
theorem dX9_measure_50 : decode cX9_measure 50 = .ok (.bastore, 1) := by decide +kernel
theorem dX9_measure_51 : decode cX9_measure 51 = .ok (.iinc 2 1, 3) := by decide +kernel
theorem dX9_measure_54 : decode cX9_measure 54 = .ok (.goto (-48), 3) := by decide +kernel
theorem dX9_measure_57 : decode cX9_measure 57 = .ok (.aload_n 0, 1) := by decide +kernel
theorem dX9_measure_58 : decode cX9_measure 58 = .ok (.invokevirtual 212, 3) := by decide +kernel
theorem dX9_measure_61 : decode cX9_measure 61 = .ok (.ifCond .ne 5, 3) := by decide +kernel
theorem dX9_measure_64 : decode cX9_measure 64 = .ok (.iconst 0, 1) := by decide +kernel
theorem dX9_measure_65 : decode cX9_measure 65 = .ok (.ireturn, 1) := by decide +kernel
theorem dX9_measure_66 : decode cX9_measure 66 = .ok (.aload_n 0, 1) := by decide +kernel
theorem dX9_measure_67 : decode cX9_measure 67 = .ok (.invokevirtual 228, 3) := by decide +kernel
theorem dX9_measure_70 : decode cX9_measure 70 = .ok (.istore_n 2, 1) := by decide +kernel
theorem dX9_measure_71 : decode cX9_measure 71 = .ok (.aload_n 0, 1) := by decide +kernel
theorem dX9_measure_72 : decode cX9_measure 72 = .ok (.invokevirtual 232, 3) := by decide +kernel
theorem dX9_measure_75 : decode cX9_measure 75 = .ok (.lstore_n 3, 1) := by decide +kernel
theorem dX9_measure_76 : decode cX9_measure 76 = .ok (.aload_n 0, 1) := by decide +kernel
theorem dX9_measure_77 : decode cX9_measure 77 = .ok (.iload_n 2, 1) := by decide +kernel
theorem dX9_measure_78 : decode cX9_measure 78 = .ok (.aload_n 0, 1) := by decide +kernel
theorem dX9_measure_79 : decode cX9_measure 79 = .ok (.getfield 278, 3) := by decide +kernel
theorem dX9_measure_82 : decode cX9_measure 82 = .ok (.if_icmp .le 7, 3) := by decide +kernel
theorem dX9_measure_85 : decode cX9_measure 85 = .ok (.iload_n 2, 1) := by decide +kernel
theorem dX9_measure_86 : decode cX9_measure 86 = .ok (.goto 7, 3) := by decide +kernel
theorem dX9_measure_89 : decode cX9_measure 89 = .ok (.aload_n 0, 1) := by decide +kernel
theorem dX9_measure_90 : decode cX9_measure 90 = .ok (.getfield 278, 3) := by decide +kernel
theorem dX9_measure_93 : decode cX9_measure 93 = .ok (.putfield 278, 3) := by decide +kernel
theorem dX9_measure_96 : decode cX9_measure 96 = .ok (.aload_n 0, 1) := by decide +kernel
theorem dX9_measure_97 : decode cX9_measure 97 = .ok (.lload_n 3, 1) := by decide +kernel
theorem dX9_measure_98 : decode cX9_measure 98 = .ok (.aload_n 0, 1) := by decide +kernel
theorem dX9_measure_99 : decode cX9_measure 99 = .ok (.getfield 281, 3) := by decide +kernel
theorem dX9_measure_102 : decode cX9_measure 102 = .ok (.lcmp, 1) := by decide +kernel
theorem dX9_measure_103 : decode cX9_measure 103 = .ok (.ifCond .le 7, 3) := by decide +kernel
theorem dX9_measure_106 : decode cX9_measure 106 = .ok (.lload_n 3, 1) := by decide +kernel
theorem dX9_measure_107 : decode cX9_measure 107 = .ok (.goto 7, 3) := by decide +kernel
theorem dX9_measure_110 : decode cX9_measure 110 = .ok (.aload_n 0, 1) := by decide +kernel
theorem dX9_measure_111 : decode cX9_measure 111 = .ok (.getfield 281, 3) := by decide +kernel
theorem dX9_measure_114 : decode cX9_measure 114 = .ok (.putfield 281, 3) := by decide +kernel
theorem dX9_measure_117 : decode cX9_measure 117 = .ok (.iconst 1, 1) := by decide +kernel
theorem dX9_measure_118 : decode cX9_measure 118 = .ok (.ireturn, 1) := by decide +kernel
theorem dX9_measureAll_0 : decode cX9_measureAll 0 = .ok (.aload_n 0, 1) := by decide +kernel
theorem dX9_measureAll_1 : decode cX9_measureAll 1 = .ok (.iconst (-1), 1) := by decide +kernel
theorem dX9_measureAll_2 : decode cX9_measureAll 2 = .ok (.putfield 278, 3) := by decide +kernel
theorem dX9_measureAll_5 : decode cX9_measureAll 5 = .ok (.aload_n 0, 1) := by decide +kernel
theorem dX9_measureAll_6 : decode cX9_measureAll 6 = .ok (.ldc2_w 265, 3) := by decide +kernel
theorem dX9_measureAll_9 : decode cX9_measureAll 9 = .ok (.putfield 281, 3) := by decide +kernel
theorem dX9_measureAll_12 : decode cX9_measureAll 12 = .ok (.aload_n 0, 1) := by decide +kernel
theorem dX9_measureAll_13 : decode cX9_measureAll 13 = .ok (.iconst 4, 1) := by decide +kernel
theorem dX9_measureAll_14 : decode cX9_measureAll 14 = .ok (.invokevirtual 285, 3) := by decide +kernel
theorem dX9_measureAll_17 : decode cX9_measureAll 17 = .ok (.istore_n 2, 1) := by decide +kernel
theorem dX9_measureAll_18 : decode cX9_measureAll 18 = .ok (.iconst 0, 1) := by decide +kernel
theorem dX9_measureAll_19 : decode cX9_measureAll 19 = .ok (.istore_n 3, 1) := by decide +kernel
theorem dX9_measureAll_20 : decode cX9_measureAll 20 = .ok (.iload_n 3, 1) := by decide +kernel
theorem dX9_measureAll_21 : decode cX9_measureAll 21 = .ok (.aload_n 0, 1) := by decide +kernel
theorem dX9_measureAll_22 : decode cX9_measureAll 22 = .ok (.getfield 140, 3) := by decide +kernel
theorem dX9_measureAll_25 : decode cX9_measureAll 25 = .ok (.if_icmp .ge 40, 3) := by decide +kernel
theorem dX9_measureAll_28 : decode cX9_measureAll 28 = .ok (.iload_n 1, 1) := by decide +kernel
theorem dX9_measureAll_29 : decode cX9_measureAll 29 = .ok (.ifCond .eq 36, 3) := by decide +kernel
theorem dX9_measureAll_32 : decode cX9_measureAll 32 = .ok (.iload_n 2, 1) := by decide +kernel
theorem dX9_measureAll_33 : decode cX9_measureAll 33 = .ok (.ifCond .eq 32, 3) := by decide +kernel
theorem dX9_measureAll_36 : decode cX9_measureAll 36 = .ok (.aload_n 0, 1) := by decide +kernel
theorem dX9_measureAll_37 : decode cX9_measureAll 37 = .ok (.getfield 25, 3) := by decide +kernel
theorem dX9_measureAll_40 : decode cX9_measureAll 40 = .ok (.iload_n 3, 1) := by decide +kernel
theorem dX9_measureAll_41 : decode cX9_measureAll 41 = .ok (.baload, 1) := by decide +kernel
theorem dX9_measureAll_42 : decode cX9_measureAll 42 = .ok (.ifCond .eq 11, 3) := by decide +kernel
theorem dX9_measureAll_45 : decode cX9_measureAll 45 = .ok (.aload_n 0, 1) := by decide +kernel
theorem dX9_measureAll_46 : decode cX9_measureAll 46 = .ok (.iload_n 3, 1) := by decide +kernel
theorem dX9_measureAll_47 : decode cX9_measureAll 47 = .ok (.invokevirtual 285, 3) := by decide +kernel
theorem dX9_measureAll_50 : decode cX9_measureAll 50 = .ok (.ifCond .eq 7, 3) := by decide +kernel
theorem dX9_measureAll_53 : decode cX9_measureAll 53 = .ok (.iconst 1, 1) := by decide +kernel
theorem dX9_measureAll_54 : decode cX9_measureAll 54 = .ok (.goto 4, 3) := by decide +kernel
theorem dX9_measureAll_57 : decode cX9_measureAll 57 = .ok (.iconst 0, 1) := by decide +kernel
theorem dX9_measureAll_58 : decode cX9_measureAll 58 = .ok (.istore_n 2, 1) := by decide +kernel
theorem dX9_measureAll_59 : decode cX9_measureAll 59 = .ok (.iinc 3 1, 3) := by decide +kernel
theorem dX9_measureAll_62 : decode cX9_measureAll 62 = .ok (.goto (-42), 3) := by decide +kernel
theorem dX9_measureAll_65 : decode cX9_measureAll 65 = .ok (.iload_n 2, 1) := by decide +kernel
theorem dX9_measureAll_66 : decode cX9_measureAll 66 = .ok (.ireturn, 1) := by decide +kernel
theorem dX9_layBest_0 : decode cX9_layBest 0 = .ok (.aload_n 0, 1) := by decide +kernel
theorem dX9_layBest_1 : decode cX9_layBest 1 = .ok (.iconst 0, 1) := by decide +kernel
theorem dX9_layBest_2 : decode cX9_layBest 2 = .ok (.putfield 288, 3) := by decide +kernel
theorem dX9_layBest_5 : decode cX9_layBest 5 = .ok (.iconst 0, 1) := by decide +kernel
theorem dX9_layBest_6 : decode cX9_layBest 6 = .ok (.istore_n 2, 1) := by decide +kernel
theorem dX9_layBest_7 : decode cX9_layBest 7 = .ok (.iload_n 2, 1) := by decide +kernel
theorem dX9_layBest_8 : decode cX9_layBest 8 = .ok (.sipush 625, 3) := by decide +kernel
theorem dX9_layBest_11 : decode cX9_layBest 11 = .ok (.if_icmp .ge 126, 3) := by decide +kernel
theorem dX9_layBest_14 : decode cX9_layBest 14 = .ok (.aload_n 0, 1) := by decide +kernel
theorem dX9_layBest_15 : decode cX9_layBest 15 = .ok (.iload_n 2, 1) := by decide +kernel
theorem dX9_layBest_16 : decode cX9_layBest 16 = .ok (.invokevirtual 291, 3) := by decide +kernel
theorem dX9_layBest_19 : decode cX9_layBest 19 = .ok (.ifCond .eq 112, 3) := by decide +kernel
theorem dX9_layBest_22 : decode cX9_layBest 22 = .ok (.aload_n 0, 1) := by decide +kernel
theorem dX9_layBest_23 : decode cX9_layBest 23 = .ok (.iload_n 1, 1) := by decide +kernel
theorem dX9_layBest_24 : decode cX9_layBest 24 = .ok (.invokevirtual 294, 3) := by decide +kernel
theorem dX9_layBest_27 : decode cX9_layBest 27 = .ok (.ifCond .eq 104, 3) := by decide +kernel
theorem dX9_layBest_30 : decode cX9_layBest 30 = .ok (.aload_n 0, 1) := by decide +kernel
theorem dX9_layBest_31 : decode cX9_layBest 31 = .ok (.getfield 288, 3) := by decide +kernel
theorem dX9_layBest_34 : decode cX9_layBest 34 = .ok (.ifCond .eq 37, 3) := by decide +kernel
theorem dX9_layBest_37 : decode cX9_layBest 37 = .ok (.aload_n 0, 1) := by decide +kernel
theorem dX9_layBest_38 : decode cX9_layBest 38 = .ok (.getfield 278, 3) := by decide +kernel
theorem dX9_layBest_41 : decode cX9_layBest 41 = .ok (.aload_n 0, 1) := by decide +kernel
theorem dX9_layBest_42 : decode cX9_layBest 42 = .ok (.getfield 298, 3) := by decide +kernel
theorem dX9_layBest_45 : decode cX9_layBest 45 = .ok (.if_icmp .lt 26, 3) := by decide +kernel
theorem dX9_layBest_48 : decode cX9_layBest 48 = .ok (.aload_n 0, 1) := by decide +kernel
theorem dX9_layBest_49 : decode cX9_layBest 49 = .ok (.getfield 278, 3) := by decide +kernel
theorem dX9_layBest_52 : decode cX9_layBest 52 = .ok (.aload_n 0, 1) := by decide +kernel
theorem dX9_layBest_53 : decode cX9_layBest 53 = .ok (.getfield 298, 3) := by decide +kernel
theorem dX9_layBest_56 : decode cX9_layBest 56 = .ok (.if_icmp .ne 19, 3) := by decide +kernel
theorem dX9_layBest_59 : decode cX9_layBest 59 = .ok (.aload_n 0, 1) := by decide +kernel
theorem dX9_layBest_60 : decode cX9_layBest 60 = .ok (.getfield 281, 3) := by decide +kernel
theorem dX9_layBest_63 : decode cX9_layBest 63 = .ok (.aload_n 0, 1) := by decide +kernel
theorem dX9_layBest_64 : decode cX9_layBest 64 = .ok (.getfield 301, 3) := by decide +kernel
theorem dX9_layBest_67 : decode cX9_layBest 67 = .ok (.lcmp, 1) := by decide +kernel
theorem dX9_layBest_68 : decode cX9_layBest 68 = .ok (.ifCond .ge 7, 3) := by decide +kernel
theorem dX9_layBest_71 : decode cX9_layBest 71 = .ok (.iconst 1, 1) := by decide +kernel
theorem dX9_layBest_72 : decode cX9_layBest 72 = .ok (.goto 4, 3) := by decide +kernel
theorem dX9_layBest_75 : decode cX9_layBest 75 = .ok (.iconst 0, 1) := by decide +kernel
theorem dX9_layBest_76 : decode cX9_layBest 76 = .ok (.istore_n 3, 1) := by decide +kernel
theorem dX9_layBest_77 : decode cX9_layBest 77 = .ok (.iload_n 3, 1) := by decide +kernel
theorem dX9_layBest_78 : decode cX9_layBest 78 = .ok (.ifCond .eq 53, 3) := by decide +kernel
theorem dX9_layBest_81 : decode cX9_layBest 81 = .ok (.aload_n 0, 1) := by decide +kernel
theorem dX9_layBest_82 : decode cX9_layBest 82 = .ok (.iconst 1, 1) := by decide +kernel
theorem dX9_layBest_83 : decode cX9_layBest 83 = .ok (.putfield 288, 3) := by decide +kernel
theorem dX9_layBest_86 : decode cX9_layBest 86 = .ok (.aload_n 0, 1) := by decide +kernel
theorem dX9_layBest_87 : decode cX9_layBest 87 = .ok (.aload_n 0, 1) := by decide +kernel
theorem dX9_layBest_88 : decode cX9_layBest 88 = .ok (.getfield 278, 3) := by decide +kernel
theorem dX9_layBest_91 : decode cX9_layBest 91 = .ok (.putfield 298, 3) := by decide +kernel
theorem dX9_layBest_94 : decode cX9_layBest 94 = .ok (.aload_n 0, 1) := by decide +kernel
theorem dX9_layBest_95 : decode cX9_layBest 95 = .ok (.aload_n 0, 1) := by decide +kernel
theorem dX9_layBest_96 : decode cX9_layBest 96 = .ok (.getfield 281, 3) := by decide +kernel
theorem dX9_layBest_99 : decode cX9_layBest 99 = .ok (.putfield 301, 3) := by decide +kernel
theorem dX9_layBest_102 : decode cX9_layBest 102 = .ok (.iconst 0, 1) := by decide +kernel
theorem dX9_layBest_103 : decode cX9_layBest 103 = .ok (.istore 4, 2) := by decide +kernel
theorem dX9_layBest_105 : decode cX9_layBest 105 = .ok (.iload 4, 2) := by decide +kernel
theorem dX9_layBest_107 : decode cX9_layBest 107 = .ok (.iconst 4, 1) := by decide +kernel
theorem dX9_layBest_108 : decode cX9_layBest 108 = .ok (.if_icmp .ge 23, 3) := by decide +kernel
theorem dX9_layBest_111 : decode cX9_layBest 111 = .ok (.aload_n 0, 1) := by decide +kernel
theorem dX9_layBest_112 : decode cX9_layBest 112 = .ok (.getfield 123, 3) := by decide +kernel
theorem dX9_layBest_115 : decode cX9_layBest 115 = .ok (.iload 4, 2) := by decide +kernel
theorem dX9_layBest_117 : decode cX9_layBest 117 = .ok (.aload_n 0, 1) := by decide +kernel
theorem dX9_layBest_118 : decode cX9_layBest 118 = .ok (.getfield 120, 3) := by decide +kernel
theorem dX9_layBest_121 : decode cX9_layBest 121 = .ok (.iload 4, 2) := by decide +kernel
theorem dX9_layBest_123 : decode cX9_layBest 123 = .ok (.iaload, 1) := by decide +kernel
theorem dX9_layBest_124 : decode cX9_layBest 124 = .ok (.iastore, 1) := by decide +kernel
theorem dX9_layBest_125 : decode cX9_layBest 125 = .ok (.iinc 4 1, 3) := by decide +kernel
theorem dX9_layBest_128 : decode cX9_layBest 128 = .ok (.goto (-23), 3) := by decide +kernel
theorem dX9_layBest_131 : decode cX9_layBest 131 = .ok (.iinc 2 1, 3) := by decide +kernel
theorem dX9_layBest_134 : decode cX9_layBest 134 = .ok (.goto (-127), 3) := by decide +kernel
theorem dX9_layBest_137 : decode cX9_layBest 137 = .ok (.return_, 1) := by decide +kernel
theorem dX9_best_0 : decode cX9_best 0 = .ok (.aload_n 0, 1) := by decide +kernel
theorem dX9_best_1 : decode cX9_best 1 = .ok (.iload_n 1, 1) := by decide +kernel
theorem dX9_best_2 : decode cX9_best 2 = .ok (.invokevirtual 304, 3) := by decide +kernel
theorem dX9_best_5 : decode cX9_best 5 = .ok (.aload_n 0, 1) := by decide +kernel
theorem dX9_best_6 : decode cX9_best 6 = .ok (.getfield 288, 3) := by decide +kernel
theorem dX9_best_9 : decode cX9_best 9 = .ok (.ifCond .eq 10, 3) := by decide +kernel
theorem dX9_best_12 : decode cX9_best 12 = .ok (.aload_n 0, 1) := by decide +kernel
theorem dX9_best_13 : decode cX9_best 13 = .ok (.getfield 298, 3) := by decide +kernel
theorem dX9_best_16 : decode cX9_best 16 = .ok (.goto 5, 3) := by decide +kernel
theorem dX9_best_19 : decode cX9_best 19 = .ok (.bipush (-9), 2) := by decide +kernel
theorem dX9_best_21 : decode cX9_best 21 = .ok (.ireturn, 1) := by decide +kernel
theorem dX9_bestSum_0 : decode cX9_bestSum 0 = .ok (.aload_n 0, 1) := by decide +kernel
theorem dX9_bestSum_1 : decode cX9_bestSum 1 = .ok (.iload_n 1, 1) := by decide +kernel
theorem dX9_bestSum_2 : decode cX9_bestSum 2 = .ok (.invokevirtual 304, 3) := by decide +kernel
theorem dX9_bestSum_5 : decode cX9_bestSum 5 = .ok (.aload_n 0, 1) := by decide +kernel
theorem dX9_bestSum_6 : decode cX9_bestSum 6 = .ok (.getfield 288, 3) := by decide +kernel
theorem dX9_bestSum_9 : decode cX9_bestSum 9 = .ok (.ifCond .eq 10, 3) := by decide +kernel
theorem dX9_bestSum_12 : decode cX9_bestSum 12 = .ok (.aload_n 0, 1) := by decide +kernel
theorem dX9_bestSum_13 : decode cX9_bestSum 13 = .ok (.getfield 301, 3) := by decide +kernel
theorem dX9_bestSum_16 : decode cX9_bestSum 16 = .ok (.goto 6, 3) := by decide +kernel
theorem dX9_bestSum_19 : decode cX9_bestSum 19 = .ok (.ldc2_w 308, 3) := by decide +kernel
theorem dX9_bestSum_22 : decode cX9_bestSum 22 = .ok (.lreturn, 1) := by decide +kernel
theorem dX9_bestKind_0 : decode cX9_bestKind 0 = .ok (.aload_n 0, 1) := by decide +kernel
theorem dX9_bestKind_1 : decode cX9_bestKind 1 = .ok (.iload_n 2, 1) := by decide +kernel
theorem dX9_bestKind_2 : decode cX9_bestKind 2 = .ok (.invokevirtual 160, 3) := by decide +kernel
theorem dX9_bestKind_5 : decode cX9_bestKind 5 = .ok (.ifCond .ne 5, 3) := by decide +kernel
theorem dX9_bestKind_8 : decode cX9_bestKind 8 = .ok (.iconst (-1), 1) := by decide +kernel
theorem dX9_bestKind_9 : decode cX9_bestKind 9 = .ok (.ireturn, 1) := by decide +kernel
theorem dX9_bestKind_10 : decode cX9_bestKind 10 = .ok (.aload_n 0, 1) := by decide +kernel
theorem dX9_bestKind_11 : decode cX9_bestKind 11 = .ok (.iload_n 1, 1) := by decide +kernel
theorem dX9_bestKind_12 : decode cX9_bestKind 12 = .ok (.invokevirtual 304, 3) := by decide +kernel
theorem dX9_bestKind_15 : decode cX9_bestKind 15 = .ok (.aload_n 0, 1) := by decide +kernel
theorem dX9_bestKind_16 : decode cX9_bestKind 16 = .ok (.getfield 288, 3) := by decide +kernel
theorem dX9_bestKind_19 : decode cX9_bestKind 19 = .ok (.ifCond .eq 12, 3) := by decide +kernel
theorem dX9_bestKind_22 : decode cX9_bestKind 22 = .ok (.aload_n 0, 1) := by decide +kernel
theorem dX9_bestKind_23 : decode cX9_bestKind 23 = .ok (.getfield 123, 3) := by decide +kernel
theorem dX9_bestKind_26 : decode cX9_bestKind 26 = .ok (.iload_n 2, 1) := by decide +kernel
theorem dX9_bestKind_27 : decode cX9_bestKind 27 = .ok (.iaload, 1) := by decide +kernel
theorem dX9_bestKind_28 : decode cX9_bestKind 28 = .ok (.goto 5, 3) := by decide +kernel
theorem dX9_bestKind_31 : decode cX9_bestKind 31 = .ok (.bipush (-9), 2) := by decide +kernel
theorem dX9_bestKind_33 : decode cX9_bestKind 33 = .ok (.ireturn, 1) := by decide +kernel
theorem dX9_aimOf_0 : decode cX9_aimOf 0 = .ok (.aload_n 0, 1) := by decide +kernel
theorem dX9_aimOf_1 : decode cX9_aimOf 1 = .ok (.getfield 41, 3) := by decide +kernel
theorem dX9_aimOf_4 : decode cX9_aimOf 4 = .ok (.iload_n 1, 1) := by decide +kernel
theorem dX9_aimOf_5 : decode cX9_aimOf 5 = .ok (.iaload, 1) := by decide +kernel
theorem dX9_aimOf_6 : decode cX9_aimOf 6 = .ok (.bipush (-9), 2) := by decide +kernel
theorem dX9_aimOf_8 : decode cX9_aimOf 8 = .ok (.if_icmp .ne 12, 3) := by decide +kernel
theorem dX9_aimOf_11 : decode cX9_aimOf 11 = .ok (.aload_n 0, 1) := by decide +kernel
theorem dX9_aimOf_12 : decode cX9_aimOf 12 = .ok (.getfield 29, 3) := by decide +kernel
theorem dX9_aimOf_15 : decode cX9_aimOf 15 = .ok (.iload_n 1, 1) := by decide +kernel
theorem dX9_aimOf_16 : decode cX9_aimOf 16 = .ok (.iaload, 1) := by decide +kernel
theorem dX9_aimOf_17 : decode cX9_aimOf 17 = .ok (.goto 9, 3) := by decide +kernel
theorem dX9_aimOf_20 : decode cX9_aimOf 20 = .ok (.aload_n 0, 1) := by decide +kernel
theorem dX9_aimOf_21 : decode cX9_aimOf 21 = .ok (.getfield 41, 3) := by decide +kernel
theorem dX9_aimOf_24 : decode cX9_aimOf 24 = .ok (.iload_n 1, 1) := by decide +kernel
theorem dX9_aimOf_25 : decode cX9_aimOf 25 = .ok (.iaload, 1) := by decide +kernel
theorem dX9_aimOf_26 : decode cX9_aimOf 26 = .ok (.ireturn, 1) := by decide +kernel
theorem dX9_aim_0 : decode cX9_aim 0 = .ok (.aload_n 0, 1) := by decide +kernel
theorem dX9_aim_1 : decode cX9_aim 1 = .ok (.iload_n 1, 1) := by decide +kernel
theorem dX9_aim_2 : decode cX9_aim 2 = .ok (.invokevirtual 160, 3) := by decide +kernel
theorem dX9_aim_5 : decode cX9_aim 5 = .ok (.ifCond .ne 5, 3) := by decide +kernel
theorem dX9_aim_8 : decode cX9_aim 8 = .ok (.iconst (-1), 1) := by decide +kernel
theorem dX9_aim_9 : decode cX9_aim 9 = .ok (.ireturn, 1) := by decide +kernel
theorem dX9_aim_10 : decode cX9_aim 10 = .ok (.iload_n 2, 1) := by decide +kernel
theorem dX9_aim_11 : decode cX9_aim 11 = .ok (.i2l, 1) := by decide +kernel
theorem dX9_aim_12 : decode cX9_aim 12 = .ok (.lconst 0, 1) := by decide +kernel
theorem dX9_aim_13 : decode cX9_aim 13 = .ok (.ldc2_w 163, 3) := by decide +kernel
theorem dX9_aim_16 : decode cX9_aim 16 = .ok (.invokestatic 136, 3) := by decide +kernel
theorem dX9_aim_19 : decode cX9_aim 19 = .ok (.ifCond .ne 6, 3) := by decide +kernel
theorem dX9_aim_22 : decode cX9_aim 22 = .ok (.bipush (-2), 2) := by decide +kernel
theorem dX9_aim_24 : decode cX9_aim 24 = .ok (.ireturn, 1) := by decide +kernel
theorem dX9_aim_25 : decode cX9_aim 25 = .ok (.aload_n 0, 1) := by decide +kernel
theorem dX9_aim_26 : decode cX9_aim 26 = .ok (.iload_n 1, 1) := by decide +kernel
theorem dX9_aim_27 : decode cX9_aim 27 = .ok (.invokevirtual 310, 3) := by decide +kernel
theorem dX9_aim_30 : decode cX9_aim 30 = .ok (.istore_n 3, 1) := by decide +kernel
theorem dX9_aim_31 : decode cX9_aim 31 = .ok (.aload_n 0, 1) := by decide +kernel
theorem dX9_aim_32 : decode cX9_aim 32 = .ok (.getfield 41, 3) := by decide +kernel
theorem dX9_aim_35 : decode cX9_aim 35 = .ok (.iload_n 1, 1) := by decide +kernel
theorem dX9_aim_36 : decode cX9_aim 36 = .ok (.iload_n 2, 1) := by decide +kernel
theorem dX9_aim_37 : decode cX9_aim 37 = .ok (.iastore, 1) := by decide +kernel
theorem dX9_aim_38 : decode cX9_aim 38 = .ok (.iload_n 3, 1) := by decide +kernel
theorem dX9_aim_39 : decode cX9_aim 39 = .ok (.ireturn, 1) := by decide +kernel
theorem dX9_stepCount_0 : decode cX9_stepCount 0 = .ok (.iconst 0, 1) := by decide +kernel
theorem dX9_stepCount_1 : decode cX9_stepCount 1 = .ok (.istore_n 1, 1) := by decide +kernel
theorem dX9_stepCount_2 : decode cX9_stepCount 2 = .ok (.iconst 0, 1) := by decide +kernel
theorem dX9_stepCount_3 : decode cX9_stepCount 3 = .ok (.istore_n 2, 1) := by decide +kernel
theorem dX9_stepCount_4 : decode cX9_stepCount 4 = .ok (.iload_n 2, 1) := by decide +kernel
theorem dX9_stepCount_5 : decode cX9_stepCount 5 = .ok (.aload_n 0, 1) := by decide +kernel
theorem dX9_stepCount_6 : decode cX9_stepCount 6 = .ok (.getfield 140, 3) := by decide +kernel
theorem dX9_stepCount_9 : decode cX9_stepCount 9 = .ok (.if_icmp .ge 31, 3) := by decide +kernel
theorem dX9_stepCount_12 : decode cX9_stepCount 12 = .ok (.iload_n 1, 1) := by decide +kernel
theorem dX9_stepCount_13 : decode cX9_stepCount 13 = .ok (.aload_n 0, 1) := by decide +kernel
theorem dX9_stepCount_14 : decode cX9_stepCount 14 = .ok (.iload_n 2, 1) := by decide +kernel
theorem dX9_stepCount_15 : decode cX9_stepCount 15 = .ok (.invokevirtual 310, 3) := by decide +kernel
theorem dX9_stepCount_18 : decode cX9_stepCount 18 = .ok (.aload_n 0, 1) := by decide +kernel
theorem dX9_stepCount_19 : decode cX9_stepCount 19 = .ok (.getfield 29, 3) := by decide +kernel
theorem dX9_stepCount_22 : decode cX9_stepCount 22 = .ok (.iload_n 2, 1) := by decide +kernel
theorem dX9_stepCount_23 : decode cX9_stepCount 23 = .ok (.iaload, 1) := by decide +kernel
theorem dX9_stepCount_24 : decode cX9_stepCount 24 = .ok (.if_icmp .eq 7, 3) := by decide +kernel
theorem dX9_stepCount_27 : decode cX9_stepCount 27 = .ok (.iconst 1, 1) := by decide +kernel
theorem dX9_stepCount_28 : decode cX9_stepCount 28 = .ok (.goto 4, 3) := by decide +kernel
theorem dX9_stepCount_31 : decode cX9_stepCount 31 = .ok (.iconst 0, 1) := by decide +kernel
theorem dX9_stepCount_32 : decode cX9_stepCount 32 = .ok (.iadd, 1) := by decide +kernel
theorem dX9_stepCount_33 : decode cX9_stepCount 33 = .ok (.istore_n 1, 1) := by decide +kernel
theorem dX9_stepCount_34 : decode cX9_stepCount 34 = .ok (.iinc 2 1, 3) := by decide +kernel
theorem dX9_stepCount_37 : decode cX9_stepCount 37 = .ok (.goto (-33), 3) := by decide +kernel
theorem dX9_stepCount_40 : decode cX9_stepCount 40 = .ok (.iload_n 1, 1) := by decide +kernel
theorem dX9_stepCount_41 : decode cX9_stepCount 41 = .ok (.ireturn, 1) := by decide +kernel
theorem dX9_layOrder_0 : decode cX9_layOrder 0 = .ok (.iload_n 1, 1) := by decide +kernel
theorem dX9_layOrder_1 : decode cX9_layOrder 1 = .ok (.istore_n 2, 1) := by decide +kernel
theorem dX9_layOrder_2 : decode cX9_layOrder 2 = .ok (.iconst 0, 1) := by decide +kernel
theorem dX9_layOrder_3 : decode cX9_layOrder 3 = .ok (.istore_n 3, 1) := by decide +kernel
theorem dX9_layOrder_4 : decode cX9_layOrder 4 = .ok (.iconst 1, 1) := by decide +kernel
theorem dX9_layOrder_5 : decode cX9_layOrder 5 = .ok (.istore 4, 2) := by decide +kernel
theorem dX9_layOrder_7 : decode cX9_layOrder 7 = .ok (.aload_n 0, 1) := by decide +kernel
theorem dX9_layOrder_8 : decode cX9_layOrder 8 = .ok (.getfield 313, 3) := by decide +kernel
theorem dX9_layOrder_11 : decode cX9_layOrder 11 = .ok (.iconst 1, 1) := by decide +kernel
theorem dX9_layOrder_12 : decode cX9_layOrder 12 = .ok (.isub, 1) := by decide +kernel
theorem dX9_layOrder_13 : decode cX9_layOrder 13 = .ok (.istore 5, 2) := by decide +kernel
theorem dX9_layOrder_15 : decode cX9_layOrder 15 = .ok (.iload 5, 2) := by decide +kernel
theorem dX9_layOrder_17 : decode cX9_layOrder 17 = .ok (.ifCond .lt 80, 3) := by decide +kernel
theorem dX9_layOrder_20 : decode cX9_layOrder 20 = .ok (.iload_n 2, 1) := by decide +kernel
theorem dX9_layOrder_21 : decode cX9_layOrder 21 = .ok (.iconst 4, 1) := by decide +kernel
theorem dX9_layOrder_22 : decode cX9_layOrder 22 = .ok (.irem, 1) := by decide +kernel
theorem dX9_layOrder_23 : decode cX9_layOrder 23 = .ok (.istore 6, 2) := by decide +kernel
theorem dX9_layOrder_25 : decode cX9_layOrder 25 = .ok (.iload_n 2, 1) := by decide +kernel
theorem dX9_layOrder_26 : decode cX9_layOrder 26 = .ok (.iconst 4, 1) := by decide +kernel
theorem dX9_layOrder_27 : decode cX9_layOrder 27 = .ok (.idiv, 1) := by decide +kernel
theorem dX9_layOrder_28 : decode cX9_layOrder 28 = .ok (.istore_n 2, 1) := by decide +kernel
theorem dX9_layOrder_29 : decode cX9_layOrder 29 = .ok (.aload_n 0, 1) := by decide +kernel
theorem dX9_layOrder_30 : decode cX9_layOrder 30 = .ok (.getfield 126, 3) := by decide +kernel
theorem dX9_layOrder_33 : decode cX9_layOrder 33 = .ok (.iload 5, 2) := by decide +kernel
theorem dX9_layOrder_35 : decode cX9_layOrder 35 = .ok (.iload 6, 2) := by decide +kernel
theorem dX9_layOrder_37 : decode cX9_layOrder 37 = .ok (.iastore, 1) := by decide +kernel
theorem dX9_layOrder_38 : decode cX9_layOrder 38 = .ok (.iload 4, 2) := by decide +kernel
theorem dX9_layOrder_40 : decode cX9_layOrder 40 = .ok (.ifCond .eq 41, 3) := by decide +kernel
theorem dX9_layOrder_43 : decode cX9_layOrder 43 = .ok (.iload 6, 2) := by decide +kernel
theorem dX9_layOrder_45 : decode cX9_layOrder 45 = .ok (.aload_n 0, 1) := by decide +kernel
theorem dX9_layOrder_46 : decode cX9_layOrder 46 = .ok (.getfield 140, 3) := by decide +kernel
theorem dX9_layOrder_49 : decode cX9_layOrder 49 = .ok (.if_icmp .ge 32, 3) := by decide +kernel
theorem dX9_layOrder_52 : decode cX9_layOrder 52 = .ok (.iload_n 3, 1) := by decide +kernel
theorem dX9_layOrder_53 : decode cX9_layOrder 53 = .ok (.iload 6, 2) := by decide +kernel
theorem dX9_layOrder_55 : decode cX9_layOrder 55 = .ok (.ishr, 1) := by decide +kernel
theorem dX9_layOrder_56 : decode cX9_layOrder 56 = .ok (.iconst 1, 1) := by decide +kernel
theorem dX9_layOrder_57 : decode cX9_layOrder 57 = .ok (.iand, 1) := by decide +kernel
theorem dX9_layOrder_58 : decode cX9_layOrder 58 = .ok (.ifCond .ne 23, 3) := by decide +kernel
theorem dX9_layOrder_61 : decode cX9_layOrder 61 = .ok (.aload_n 0, 1) := by decide +kernel
theorem dX9_layOrder_62 : decode cX9_layOrder 62 = .ok (.iload 6, 2) := by decide +kernel
theorem dX9_layOrder_64 : decode cX9_layOrder 64 = .ok (.invokevirtual 310, 3) := by decide +kernel
theorem dX9_layOrder_67 : decode cX9_layOrder 67 = .ok (.aload_n 0, 1) := by decide +kernel
theorem dX9_layOrder_68 : decode cX9_layOrder 68 = .ok (.getfield 29, 3) := by decide +kernel
theorem dX9_layOrder_71 : decode cX9_layOrder 71 = .ok (.iload 6, 2) := by decide +kernel
theorem dX9_layOrder_73 : decode cX9_layOrder 73 = .ok (.iaload, 1) := by decide +kernel
theorem dX9_layOrder_74 : decode cX9_layOrder 74 = .ok (.if_icmp .eq 7, 3) := by decide +kernel
theorem dX9_layOrder_77 : decode cX9_layOrder 77 = .ok (.iconst 1, 1) := by decide +kernel
theorem dX9_layOrder_78 : decode cX9_layOrder 78 = .ok (.goto 4, 3) := by decide +kernel
theorem dX9_layOrder_81 : decode cX9_layOrder 81 = .ok (.iconst 0, 1) := by decide +kernel
theorem dX9_layOrder_82 : decode cX9_layOrder 82 = .ok (.istore 4, 2) := by decide +kernel
theorem dX9_layOrder_84 : decode cX9_layOrder 84 = .ok (.iload_n 3, 1) := by decide +kernel
theorem dX9_layOrder_85 : decode cX9_layOrder 85 = .ok (.iconst 1, 1) := by decide +kernel
theorem dX9_layOrder_86 : decode cX9_layOrder 86 = .ok (.iload 6, 2) := by decide +kernel
theorem dX9_layOrder_88 : decode cX9_layOrder 88 = .ok (.ishl, 1) := by decide +kernel
theorem dX9_layOrder_89 : decode cX9_layOrder 89 = .ok (.ior, 1) := by decide +kernel
theorem dX9_layOrder_90 : decode cX9_layOrder 90 = .ok (.istore_n 3, 1) := by decide +kernel
theorem dX9_layOrder_91 : decode cX9_layOrder 91 = .ok (.iinc 5 (-1), 3) := by decide +kernel
theorem dX9_layOrder_94 : decode cX9_layOrder 94 = .ok (.goto (-79), 3) := by decide +kernel
theorem dX9_layOrder_97 : decode cX9_layOrder 97 = .ok (.iload 4, 2) := by decide +kernel
theorem dX9_layOrder_99 : decode cX9_layOrder 99 = .ok (.ifCond .eq 11, 3) := by decide +kernel
theorem dX9_layOrder_102 : decode cX9_layOrder 102 = .ok (.iload_n 2, 1) := by decide +kernel
theorem dX9_layOrder_103 : decode cX9_layOrder 103 = .ok (.ifCond .ne 7, 3) := by decide +kernel
theorem dX9_layOrder_106 : decode cX9_layOrder 106 = .ok (.iconst 1, 1) := by decide +kernel
theorem dX9_layOrder_107 : decode cX9_layOrder 107 = .ok (.goto 4, 3) := by decide +kernel
theorem dX9_layOrder_110 : decode cX9_layOrder 110 = .ok (.iconst 0, 1) := by decide +kernel
theorem dX9_layOrder_111 : decode cX9_layOrder 111 = .ok (.ireturn, 1) := by decide +kernel
theorem dX9_worstOfOrder_0 : decode cX9_worstOfOrder 0 = .ok (.iconst 0, 1) := by decide +kernel
theorem dX9_worstOfOrder_1 : decode cX9_worstOfOrder 1 = .ok (.istore_n 1, 1) := by decide +kernel
theorem dX9_worstOfOrder_2 : decode cX9_worstOfOrder 2 = .ok (.iconst 0, 1) := by decide +kernel
theorem dX9_worstOfOrder_3 : decode cX9_worstOfOrder 3 = .ok (.istore_n 2, 1) := by decide +kernel
theorem dX9_worstOfOrder_4 : decode cX9_worstOfOrder 4 = .ok (.iload_n 2, 1) := by decide +kernel
theorem dX9_worstOfOrder_5 : decode cX9_worstOfOrder 5 = .ok (.aload_n 0, 1) := by decide +kernel
theorem dX9_worstOfOrder_6 : decode cX9_worstOfOrder 6 = .ok (.getfield 313, 3) := by decide +kernel
theorem dX9_worstOfOrder_9 : decode cX9_worstOfOrder 9 = .ok (.if_icmp .ge 76, 3) := by decide +kernel
theorem dX9_worstOfOrder_12 : decode cX9_worstOfOrder 12 = .ok (.aload_n 0, 1) := by decide +kernel
theorem dX9_worstOfOrder_13 : decode cX9_worstOfOrder 13 = .ok (.invokevirtual 209, 3) := by decide +kernel
theorem dX9_worstOfOrder_16 : decode cX9_worstOfOrder 16 = .ok (.iconst 0, 1) := by decide +kernel
theorem dX9_worstOfOrder_17 : decode cX9_worstOfOrder 17 = .ok (.istore_n 3, 1) := by decide +kernel
theorem dX9_worstOfOrder_18 : decode cX9_worstOfOrder 18 = .ok (.iload_n 3, 1) := by decide +kernel
theorem dX9_worstOfOrder_19 : decode cX9_worstOfOrder 19 = .ok (.iload_n 2, 1) := by decide +kernel
theorem dX9_worstOfOrder_20 : decode cX9_worstOfOrder 20 = .ok (.if_icmp .gt 30, 3) := by decide +kernel
theorem dX9_worstOfOrder_23 : decode cX9_worstOfOrder 23 = .ok (.aload_n 0, 1) := by decide +kernel
theorem dX9_worstOfOrder_24 : decode cX9_worstOfOrder 24 = .ok (.getfield 44, 3) := by decide +kernel
theorem dX9_worstOfOrder_27 : decode cX9_worstOfOrder 27 = .ok (.aload_n 0, 1) := by decide +kernel
theorem dX9_worstOfOrder_28 : decode cX9_worstOfOrder 28 = .ok (.getfield 126, 3) := by decide +kernel
theorem dX9_worstOfOrder_31 : decode cX9_worstOfOrder 31 = .ok (.iload_n 3, 1) := by decide +kernel
theorem dX9_worstOfOrder_32 : decode cX9_worstOfOrder 32 = .ok (.iaload, 1) := by decide +kernel
theorem dX9_worstOfOrder_33 : decode cX9_worstOfOrder 33 = .ok (.aload_n 0, 1) := by decide +kernel
theorem dX9_worstOfOrder_34 : decode cX9_worstOfOrder 34 = .ok (.aload_n 0, 1) := by decide +kernel
theorem dX9_worstOfOrder_35 : decode cX9_worstOfOrder 35 = .ok (.getfield 126, 3) := by decide +kernel
theorem dX9_worstOfOrder_38 : decode cX9_worstOfOrder 38 = .ok (.iload_n 3, 1) := by decide +kernel
theorem dX9_worstOfOrder_39 : decode cX9_worstOfOrder 39 = .ok (.iaload, 1) := by decide +kernel
theorem dX9_worstOfOrder_40 : decode cX9_worstOfOrder 40 = .ok (.invokevirtual 310, 3) := by decide +kernel
theorem dX9_worstOfOrder_43 : decode cX9_worstOfOrder 43 = .ok (.iastore, 1) := by decide +kernel
theorem dX9_worstOfOrder_44 : decode cX9_worstOfOrder 44 = .ok (.iinc 3 1, 3) := by decide +kernel
theorem dX9_worstOfOrder_47 : decode cX9_worstOfOrder 47 = .ok (.goto (-29), 3) := by decide +kernel
theorem dX9_worstOfOrder_50 : decode cX9_worstOfOrder 50 = .ok (.aload_n 0, 1) := by decide +kernel
theorem dX9_worstOfOrder_51 : decode cX9_worstOfOrder 51 = .ok (.invokevirtual 212, 3) := by decide +kernel
theorem dX9_worstOfOrder_54 : decode cX9_worstOfOrder 54 = .ok (.ifCond .eq 10, 3) := by decide +kernel
theorem dX9_worstOfOrder_57 : decode cX9_worstOfOrder 57 = .ok (.aload_n 0, 1) := by decide +kernel
theorem dX9_worstOfOrder_58 : decode cX9_worstOfOrder 58 = .ok (.invokevirtual 228, 3) := by decide +kernel
theorem dX9_worstOfOrder_61 : decode cX9_worstOfOrder 61 = .ok (.goto 6, 3) := by decide +kernel
theorem dX9_worstOfOrder_64 : decode cX9_worstOfOrder 64 = .ok (.ldc_w 316, 3) := by decide +kernel
theorem dX9_worstOfOrder_67 : decode cX9_worstOfOrder 67 = .ok (.istore_n 3, 1) := by decide +kernel
theorem dX9_worstOfOrder_68 : decode cX9_worstOfOrder 68 = .ok (.iload_n 3, 1) := by decide +kernel
theorem dX9_worstOfOrder_69 : decode cX9_worstOfOrder 69 = .ok (.iload_n 1, 1) := by decide +kernel
theorem dX9_worstOfOrder_70 : decode cX9_worstOfOrder 70 = .ok (.if_icmp .le 7, 3) := by decide +kernel
theorem dX9_worstOfOrder_73 : decode cX9_worstOfOrder 73 = .ok (.iload_n 3, 1) := by decide +kernel
theorem dX9_worstOfOrder_74 : decode cX9_worstOfOrder 74 = .ok (.goto 4, 3) := by decide +kernel
theorem dX9_worstOfOrder_77 : decode cX9_worstOfOrder 77 = .ok (.iload_n 1, 1) := by decide +kernel
theorem dX9_worstOfOrder_78 : decode cX9_worstOfOrder 78 = .ok (.istore_n 1, 1) := by decide +kernel
theorem dX9_worstOfOrder_79 : decode cX9_worstOfOrder 79 = .ok (.iinc 2 1, 3) := by decide +kernel
theorem dX9_worstOfOrder_82 : decode cX9_worstOfOrder 82 = .ok (.goto (-78), 3) := by decide +kernel
theorem dX9_worstOfOrder_85 : decode cX9_worstOfOrder 85 = .ok (.iload_n 1, 1) := by decide +kernel
theorem dX9_worstOfOrder_86 : decode cX9_worstOfOrder 86 = .ok (.ireturn, 1) := by decide +kernel
theorem dX9_layOrders_0 : decode cX9_layOrders 0 = .ok (.aload_n 0, 1) := by decide +kernel
theorem dX9_layOrders_1 : decode cX9_layOrders 1 = .ok (.aload_n 0, 1) := by decide +kernel
theorem dX9_layOrders_2 : decode cX9_layOrders 2 = .ok (.invokevirtual 317, 3) := by decide +kernel
theorem dX9_layOrders_5 : decode cX9_layOrders 5 = .ok (.putfield 313, 3) := by decide +kernel
theorem dX9_layOrders_8 : decode cX9_layOrders 8 = .ok (.aload_n 0, 1) := by decide +kernel
theorem dX9_layOrders_9 : decode cX9_layOrders 9 = .ok (.iconst (-1), 1) := by decide +kernel
theorem dX9_layOrders_10 : decode cX9_layOrders 10 = .ok (.putfield 320, 3) := by decide +kernel
theorem dX9_layOrders_13 : decode cX9_layOrders 13 = .ok (.iconst 0, 1) := by decide +kernel
theorem dX9_layOrders_14 : decode cX9_layOrders 14 = .ok (.istore_n 1, 1) := by decide +kernel
theorem dX9_layOrders_15 : decode cX9_layOrders 15 = .ok (.iload_n 1, 1) := by decide +kernel
theorem dX9_layOrders_16 : decode cX9_layOrders 16 = .ok (.sipush 256, 3) := by decide +kernel
theorem dX9_layOrders_19 : decode cX9_layOrders 19 = .ok (.if_icmp .ge 74, 3) := by decide +kernel
theorem dX9_layOrders_22 : decode cX9_layOrders 22 = .ok (.aload_n 0, 1) := by decide +kernel
theorem dX9_layOrders_23 : decode cX9_layOrders 23 = .ok (.getfield 313, 3) := by decide +kernel
theorem dX9_layOrders_26 : decode cX9_layOrders 26 = .ok (.ifCond .le 67, 3) := by decide +kernel
theorem dX9_layOrders_29 : decode cX9_layOrders 29 = .ok (.aload_n 0, 1) := by decide +kernel
theorem dX9_layOrders_30 : decode cX9_layOrders 30 = .ok (.iload_n 1, 1) := by decide +kernel
theorem dX9_layOrders_31 : decode cX9_layOrders 31 = .ok (.invokevirtual 323, 3) := by decide +kernel
theorem dX9_layOrders_34 : decode cX9_layOrders 34 = .ok (.ifCond .eq 53, 3) := by decide +kernel
theorem dX9_layOrders_37 : decode cX9_layOrders 37 = .ok (.aload_n 0, 1) := by decide +kernel
theorem dX9_layOrders_38 : decode cX9_layOrders 38 = .ok (.invokevirtual 326, 3) := by decide +kernel
theorem dX9_layOrders_41 : decode cX9_layOrders 41 = .ok (.istore_n 2, 1) := by decide +kernel
theorem dX9_layOrders_42 : decode cX9_layOrders 42 = .ok (.aload_n 0, 1) := by decide +kernel
theorem dX9_layOrders_43 : decode cX9_layOrders 43 = .ok (.getfield 320, 3) := by decide +kernel
theorem dX9_layOrders_46 : decode cX9_layOrders 46 = .ok (.ifCond .lt 11, 3) := by decide +kernel
theorem dX9_layOrders_49 : decode cX9_layOrders 49 = .ok (.iload_n 2, 1) := by decide +kernel
theorem dX9_layOrders_50 : decode cX9_layOrders 50 = .ok (.aload_n 0, 1) := by decide +kernel
theorem dX9_layOrders_51 : decode cX9_layOrders 51 = .ok (.getfield 320, 3) := by decide +kernel
theorem dX9_layOrders_54 : decode cX9_layOrders 54 = .ok (.if_icmp .ge 33, 3) := by decide +kernel
theorem dX9_layOrders_57 : decode cX9_layOrders 57 = .ok (.aload_n 0, 1) := by decide +kernel
theorem dX9_layOrders_58 : decode cX9_layOrders 58 = .ok (.iload_n 2, 1) := by decide +kernel
theorem dX9_layOrders_59 : decode cX9_layOrders 59 = .ok (.putfield 320, 3) := by decide +kernel
theorem dX9_layOrders_62 : decode cX9_layOrders 62 = .ok (.iconst 0, 1) := by decide +kernel
theorem dX9_layOrders_63 : decode cX9_layOrders 63 = .ok (.istore_n 3, 1) := by decide +kernel
theorem dX9_layOrders_64 : decode cX9_layOrders 64 = .ok (.iload_n 3, 1) := by decide +kernel
theorem dX9_layOrders_65 : decode cX9_layOrders 65 = .ok (.iconst 4, 1) := by decide +kernel
theorem dX9_layOrders_66 : decode cX9_layOrders 66 = .ok (.if_icmp .ge 21, 3) := by decide +kernel
theorem dX9_layOrders_69 : decode cX9_layOrders 69 = .ok (.aload_n 0, 1) := by decide +kernel
theorem dX9_layOrders_70 : decode cX9_layOrders 70 = .ok (.getfield 129, 3) := by decide +kernel
theorem dX9_layOrders_73 : decode cX9_layOrders 73 = .ok (.iload_n 3, 1) := by decide +kernel
theorem dX9_layOrders_74 : decode cX9_layOrders 74 = .ok (.aload_n 0, 1) := by decide +kernel
theorem dX9_layOrders_75 : decode cX9_layOrders 75 = .ok (.getfield 126, 3) := by decide +kernel
theorem dX9_layOrders_78 : decode cX9_layOrders 78 = .ok (.iload_n 3, 1) := by decide +kernel
theorem dX9_layOrders_79 : decode cX9_layOrders 79 = .ok (.iaload, 1) := by decide +kernel
theorem dX9_layOrders_80 : decode cX9_layOrders 80 = .ok (.iastore, 1) := by decide +kernel
theorem dX9_layOrders_81 : decode cX9_layOrders 81 = .ok (.iinc 3 1, 3) := by decide +kernel
theorem dX9_layOrders_84 : decode cX9_layOrders 84 = .ok (.goto (-20), 3) := by decide +kernel
theorem dX9_layOrders_87 : decode cX9_layOrders 87 = .ok (.iinc 1 1, 3) := by decide +kernel
theorem dX9_layOrders_90 : decode cX9_layOrders 90 = .ok (.goto (-75), 3) := by decide +kernel
theorem dX9_layOrders_93 : decode cX9_layOrders 93 = .ok (.return_, 1) := by decide +kernel
theorem dX9_steps_0 : decode cX9_steps 0 = .ok (.aload_n 0, 1) := by decide +kernel
theorem dX9_steps_1 : decode cX9_steps 1 = .ok (.invokevirtual 317, 3) := by decide +kernel
theorem dX9_steps_4 : decode cX9_steps 4 = .ok (.ireturn, 1) := by decide +kernel
theorem dX9_step_0 : decode cX9_step 0 = .ok (.aload_n 0, 1) := by decide +kernel
theorem dX9_step_1 : decode cX9_step 1 = .ok (.invokevirtual 329, 3) := by decide +kernel
theorem dX9_step_4 : decode cX9_step 4 = .ok (.iload_n 1, 1) := by decide +kernel
theorem dX9_step_5 : decode cX9_step 5 = .ok (.i2l, 1) := by decide +kernel
theorem dX9_step_6 : decode cX9_step 6 = .ok (.lconst 0, 1) := by decide +kernel
theorem dX9_step_7 : decode cX9_step 7 = .ok (.aload_n 0, 1) := by decide +kernel
theorem dX9_step_8 : decode cX9_step 8 = .ok (.getfield 313, 3) := by decide +kernel
theorem dX9_step_11 : decode cX9_step 11 = .ok (.iconst 1, 1) := by decide +kernel
theorem dX9_step_12 : decode cX9_step 12 = .ok (.isub, 1) := by decide +kernel
theorem dX9_step_13 : decode cX9_step 13 = .ok (.i2l, 1) := by decide +kernel
theorem dX9_step_14 : decode cX9_step 14 = .ok (.invokestatic 136, 3) := by decide +kernel
theorem dX9_step_17 : decode cX9_step 17 = .ok (.ifCond .eq 12, 3) := by decide +kernel
theorem dX9_step_20 : decode cX9_step 20 = .ok (.aload_n 0, 1) := by decide +kernel
theorem dX9_step_21 : decode cX9_step 21 = .ok (.getfield 129, 3) := by decide +kernel
theorem dX9_step_24 : decode cX9_step 24 = .ok (.iload_n 1, 1) := by decide +kernel
theorem dX9_step_25 : decode cX9_step 25 = .ok (.iaload, 1) := by decide +kernel
theorem dX9_step_26 : decode cX9_step 26 = .ok (.goto 5, 3) := by decide +kernel
theorem dX9_step_29 : decode cX9_step 29 = .ok (.bipush (-9), 2) := by decide +kernel
theorem dX9_step_31 : decode cX9_step 31 = .ok (.ireturn, 1) := by decide +kernel
theorem dX9_stepWorst_0 : decode cX9_stepWorst 0 = .ok (.aload_n 0, 1) := by decide +kernel
theorem dX9_stepWorst_1 : decode cX9_stepWorst 1 = .ok (.invokevirtual 329, 3) := by decide +kernel
theorem dX9_stepWorst_4 : decode cX9_stepWorst 4 = .ok (.aload_n 0, 1) := by decide +kernel
theorem dX9_stepWorst_5 : decode cX9_stepWorst 5 = .ok (.getfield 313, 3) := by decide +kernel
theorem dX9_stepWorst_8 : decode cX9_stepWorst 8 = .ok (.ifCond .ne 7, 3) := by decide +kernel
theorem dX9_stepWorst_11 : decode cX9_stepWorst 11 = .ok (.iconst 0, 1) := by decide +kernel
theorem dX9_stepWorst_12 : decode cX9_stepWorst 12 = .ok (.goto 7, 3) := by decide +kernel
theorem dX9_stepWorst_15 : decode cX9_stepWorst 15 = .ok (.aload_n 0, 1) := by decide +kernel
theorem dX9_stepWorst_16 : decode cX9_stepWorst 16 = .ok (.getfield 320, 3) := by decide +kernel
theorem dX9_stepWorst_19 : decode cX9_stepWorst 19 = .ok (.ireturn, 1) := by decide +kernel
theorem dX9_go_0 : decode cX9_go 0 = .ok (.aload_n 0, 1) := by decide +kernel
theorem dX9_go_1 : decode cX9_go 1 = .ok (.invokevirtual 329, 3) := by decide +kernel
theorem dX9_go_4 : decode cX9_go 4 = .ok (.aload_n 0, 1) := by decide +kernel
theorem dX9_go_5 : decode cX9_go 5 = .ok (.getfield 313, 3) := by decide +kernel
theorem dX9_go_8 : decode cX9_go 8 = .ok (.ifCond .ne 6, 3) := by decide +kernel
theorem dX9_go_11 : decode cX9_go 11 = .ok (.bipush (-9), 2) := by decide +kernel
theorem dX9_go_13 : decode cX9_go 13 = .ok (.ireturn, 1) := by decide +kernel
theorem dX9_go_14 : decode cX9_go 14 = .ok (.aload_n 0, 1) := by decide +kernel
theorem dX9_go_15 : decode cX9_go 15 = .ok (.getfield 129, 3) := by decide +kernel
theorem dX9_go_18 : decode cX9_go 18 = .ok (.iconst 0, 1) := by decide +kernel
theorem dX9_go_19 : decode cX9_go 19 = .ok (.iaload, 1) := by decide +kernel
theorem dX9_go_20 : decode cX9_go 20 = .ok (.istore_n 1, 1) := by decide +kernel
theorem dX9_go_21 : decode cX9_go 21 = .ok (.aload_n 0, 1) := by decide +kernel
theorem dX9_go_22 : decode cX9_go 22 = .ok (.getfield 29, 3) := by decide +kernel
theorem dX9_go_25 : decode cX9_go 25 = .ok (.iload_n 1, 1) := by decide +kernel
theorem dX9_go_26 : decode cX9_go 26 = .ok (.aload_n 0, 1) := by decide +kernel
theorem dX9_go_27 : decode cX9_go 27 = .ok (.iload_n 1, 1) := by decide +kernel
theorem dX9_go_28 : decode cX9_go 28 = .ok (.invokevirtual 310, 3) := by decide +kernel
theorem dX9_go_31 : decode cX9_go 31 = .ok (.iastore, 1) := by decide +kernel
theorem dX9_go_32 : decode cX9_go 32 = .ok (.iload_n 1, 1) := by decide +kernel
theorem dX9_go_33 : decode cX9_go 33 = .ok (.ireturn, 1) := by decide +kernel
theorem dX9_count_0 : decode cX9_count 0 = .ok (.iconst 0, 1) := by decide +kernel
theorem dX9_count_1 : decode cX9_count 1 = .ok (.istore_n 2, 1) := by decide +kernel
theorem dX9_count_2 : decode cX9_count 2 = .ok (.iconst 0, 1) := by decide +kernel
theorem dX9_count_3 : decode cX9_count 3 = .ok (.istore_n 3, 1) := by decide +kernel
theorem dX9_count_4 : decode cX9_count 4 = .ok (.iconst 0, 1) := by decide +kernel
theorem dX9_count_5 : decode cX9_count 5 = .ok (.istore 4, 2) := by decide +kernel
theorem dX9_count_7 : decode cX9_count 7 = .ok (.iconst 0, 1) := by decide +kernel
theorem dX9_count_8 : decode cX9_count 8 = .ok (.istore 5, 2) := by decide +kernel
theorem dX9_count_10 : decode cX9_count 10 = .ok (.iload 5, 2) := by decide +kernel
theorem dX9_count_12 : decode cX9_count 12 = .ok (.aload_n 0, 1) := by decide +kernel
theorem dX9_count_13 : decode cX9_count 13 = .ok (.getfield 140, 3) := by decide +kernel
theorem dX9_count_16 : decode cX9_count 16 = .ok (.if_icmp .ge 27, 3) := by decide +kernel
theorem dX9_count_19 : decode cX9_count 19 = .ok (.iload_n 2, 1) := by decide +kernel
theorem dX9_count_20 : decode cX9_count 20 = .ok (.aload_n 0, 1) := by decide +kernel
theorem dX9_count_21 : decode cX9_count 21 = .ok (.getfield 25, 3) := by decide +kernel
theorem dX9_count_24 : decode cX9_count 24 = .ok (.iload 5, 2) := by decide +kernel
theorem dX9_count_26 : decode cX9_count 26 = .ok (.baload, 1) := by decide +kernel
theorem dX9_count_27 : decode cX9_count 27 = .ok (.ifCond .eq 7, 3) := by decide +kernel
theorem dX9_count_30 : decode cX9_count 30 = .ok (.iconst 1, 1) := by decide +kernel
theorem dX9_count_31 : decode cX9_count 31 = .ok (.goto 4, 3) := by decide +kernel
theorem dX9_count_34 : decode cX9_count 34 = .ok (.iconst 0, 1) := by decide +kernel
theorem dX9_count_35 : decode cX9_count 35 = .ok (.iadd, 1) := by decide +kernel
theorem dX9_count_36 : decode cX9_count 36 = .ok (.istore_n 2, 1) := by decide +kernel
theorem dX9_count_37 : decode cX9_count 37 = .ok (.iinc 5 1, 3) := by decide +kernel
theorem dX9_count_40 : decode cX9_count 40 = .ok (.goto (-30), 3) := by decide +kernel
theorem dX9_count_43 : decode cX9_count 43 = .ok (.iconst 0, 1) := by decide +kernel
theorem dX9_count_44 : decode cX9_count 44 = .ok (.istore 5, 2) := by decide +kernel
theorem dX9_count_46 : decode cX9_count 46 = .ok (.iload 5, 2) := by decide +kernel
theorem dX9_count_48 : decode cX9_count 48 = .ok (.aload_n 0, 1) := by decide +kernel
theorem dX9_count_49 : decode cX9_count 49 = .ok (.getfield 132, 3) := by decide +kernel
theorem dX9_count_52 : decode cX9_count 52 = .ok (.if_icmp .ge 43, 3) := by decide +kernel
theorem dX9_count_55 : decode cX9_count 55 = .ok (.iload_n 3, 1) := by decide +kernel
theorem dX9_count_56 : decode cX9_count 56 = .ok (.aload_n 0, 1) := by decide +kernel
theorem dX9_count_57 : decode cX9_count 57 = .ok (.getfield 13, 3) := by decide +kernel
theorem dX9_count_60 : decode cX9_count 60 = .ok (.iload 5, 2) := by decide +kernel
theorem dX9_count_62 : decode cX9_count 62 = .ok (.iaload, 1) := by decide +kernel
theorem dX9_count_63 : decode cX9_count 63 = .ok (.iadd, 1) := by decide +kernel
theorem dX9_count_64 : decode cX9_count 64 = .ok (.istore_n 3, 1) := by decide +kernel
theorem dX9_count_65 : decode cX9_count 65 = .ok (.iload 4, 2) := by decide +kernel
theorem dX9_count_67 : decode cX9_count 67 = .ok (.aload_n 0, 1) := by decide +kernel
theorem dX9_count_68 : decode cX9_count 68 = .ok (.getfield 16, 3) := by decide +kernel
theorem dX9_count_71 : decode cX9_count 71 = .ok (.iload 5, 2) := by decide +kernel
theorem dX9_count_73 : decode cX9_count 73 = .ok (.iaload, 1) := by decide +kernel
theorem dX9_count_74 : decode cX9_count 74 = .ok (.invokestatic 241, 3) := by decide +kernel
theorem dX9_count_77 : decode cX9_count 77 = .ok (.iconst 1, 1) := by decide +kernel
theorem dX9_count_78 : decode cX9_count 78 = .ok (.if_icmp .ne 7, 3) := by decide +kernel
theorem dX9_count_81 : decode cX9_count 81 = .ok (.iconst 1, 1) := by decide +kernel
theorem dX9_count_82 : decode cX9_count 82 = .ok (.goto 4, 3) := by decide +kernel
theorem dX9_count_85 : decode cX9_count 85 = .ok (.iconst 0, 1) := by decide +kernel
theorem dX9_count_86 : decode cX9_count 86 = .ok (.iadd, 1) := by decide +kernel
theorem dX9_count_87 : decode cX9_count 87 = .ok (.istore 4, 2) := by decide +kernel
theorem dX9_count_89 : decode cX9_count 89 = .ok (.iinc 5 1, 3) := by decide +kernel
theorem dX9_count_92 : decode cX9_count 92 = .ok (.goto (-46), 3) := by decide +kernel
theorem dX9_count_95 : decode cX9_count 95 = .ok (.iload_n 1, 1) := by decide +kernel
theorem dX9_count_96 : decode cX9_count 96 = .ok (.tableswitch 71 0 6 #[44, 49, 54, 59, 61, 66, 68], 44) := by decide +kernel
theorem dX9_count_140 : decode cX9_count 140 = .ok (.aload_n 0, 1) := by decide +kernel
theorem dX9_count_141 : decode cX9_count 141 = .ok (.getfield 132, 3) := by decide +kernel
theorem dX9_count_144 : decode cX9_count 144 = .ok (.ireturn, 1) := by decide +kernel
theorem dX9_count_145 : decode cX9_count 145 = .ok (.aload_n 0, 1) := by decide +kernel
theorem dX9_count_146 : decode cX9_count 146 = .ok (.getfield 153, 3) := by decide +kernel
theorem dX9_count_149 : decode cX9_count 149 = .ok (.ireturn, 1) := by decide +kernel
theorem dX9_count_150 : decode cX9_count 150 = .ok (.aload_n 0, 1) := by decide +kernel
theorem dX9_count_151 : decode cX9_count 151 = .ok (.getfield 140, 3) := by decide +kernel
theorem dX9_count_154 : decode cX9_count 154 = .ok (.ireturn, 1) := by decide +kernel
theorem dX9_count_155 : decode cX9_count 155 = .ok (.iload_n 2, 1) := by decide +kernel
theorem dX9_count_156 : decode cX9_count 156 = .ok (.ireturn, 1) := by decide +kernel
theorem dX9_count_157 : decode cX9_count 157 = .ok (.aload_n 0, 1) := by decide +kernel
theorem dX9_count_158 : decode cX9_count 158 = .ok (.getfield 238, 3) := by decide +kernel
theorem dX9_count_161 : decode cX9_count 161 = .ok (.ireturn, 1) := by decide +kernel
theorem dX9_count_162 : decode cX9_count 162 = .ok (.iload_n 3, 1) := by decide +kernel
theorem dX9_count_163 : decode cX9_count 163 = .ok (.ireturn, 1) := by decide +kernel
theorem dX9_count_164 : decode cX9_count 164 = .ok (.iload 4, 2) := by decide +kernel
theorem dX9_count_166 : decode cX9_count 166 = .ok (.ireturn, 1) := by decide +kernel
theorem dX9_count_167 : decode cX9_count 167 = .ok (.bipush (-2), 2) := by decide +kernel
theorem dX9_count_169 : decode cX9_count 169 = .ok (.ireturn, 1) := by decide +kernel
theorem dJ6_numberOfTrailingZeros_0f7a4_0 : decode cJ6_numberOfTrailingZeros_0f7a4 0 = .ok (.iload_n 0, 1) := by decide +kernel
theorem dJ6_numberOfTrailingZeros_0f7a4_1 : decode cJ6_numberOfTrailingZeros_0f7a4 1 = .ok (.iconst (-1), 1) := by decide +kernel
theorem dJ6_numberOfTrailingZeros_0f7a4_2 : decode cJ6_numberOfTrailingZeros_0f7a4 2 = .ok (.ixor, 1) := by decide +kernel
theorem dJ6_numberOfTrailingZeros_0f7a4_3 : decode cJ6_numberOfTrailingZeros_0f7a4 3 = .ok (.iload_n 0, 1) := by decide +kernel
theorem dJ6_numberOfTrailingZeros_0f7a4_4 : decode cJ6_numberOfTrailingZeros_0f7a4 4 = .ok (.iconst 1, 1) := by decide +kernel
theorem dJ6_numberOfTrailingZeros_0f7a4_5 : decode cJ6_numberOfTrailingZeros_0f7a4 5 = .ok (.isub, 1) := by decide +kernel
theorem dJ6_numberOfTrailingZeros_0f7a4_6 : decode cJ6_numberOfTrailingZeros_0f7a4 6 = .ok (.iand, 1) := by decide +kernel
theorem dJ6_numberOfTrailingZeros_0f7a4_7 : decode cJ6_numberOfTrailingZeros_0f7a4 7 = .ok (.istore_n 0, 1) := by decide +kernel
theorem dJ6_numberOfTrailingZeros_0f7a4_8 : decode cJ6_numberOfTrailingZeros_0f7a4 8 = .ok (.iload_n 0, 1) := by decide +kernel
theorem dJ6_numberOfTrailingZeros_0f7a4_9 : decode cJ6_numberOfTrailingZeros_0f7a4 9 = .ok (.ifCond .gt 8, 3) := by decide +kernel
theorem dJ6_numberOfTrailingZeros_0f7a4_12 : decode cJ6_numberOfTrailingZeros_0f7a4 12 = .ok (.iload_n 0, 1) := by decide +kernel
theorem dJ6_numberOfTrailingZeros_0f7a4_13 : decode cJ6_numberOfTrailingZeros_0f7a4 13 = .ok (.bipush 32, 2) := by decide +kernel
theorem dJ6_numberOfTrailingZeros_0f7a4_15 : decode cJ6_numberOfTrailingZeros_0f7a4 15 = .ok (.iand, 1) := by decide +kernel
theorem dJ6_numberOfTrailingZeros_0f7a4_16 : decode cJ6_numberOfTrailingZeros_0f7a4 16 = .ok (.ireturn, 1) := by decide +kernel
theorem dJ6_numberOfTrailingZeros_0f7a4_17 : decode cJ6_numberOfTrailingZeros_0f7a4 17 = .ok (.iconst 1, 1) := by decide +kernel
theorem dJ6_numberOfTrailingZeros_0f7a4_18 : decode cJ6_numberOfTrailingZeros_0f7a4 18 = .ok (.istore_n 1, 1) := by decide +kernel
theorem dJ6_numberOfTrailingZeros_0f7a4_19 : decode cJ6_numberOfTrailingZeros_0f7a4 19 = .ok (.iload_n 0, 1) := by decide +kernel
theorem dJ6_numberOfTrailingZeros_0f7a4_20 : decode cJ6_numberOfTrailingZeros_0f7a4 20 = .ok (.ldc_w 264, 3) := by decide +kernel
theorem dJ6_numberOfTrailingZeros_0f7a4_23 : decode cJ6_numberOfTrailingZeros_0f7a4 23 = .ok (.if_icmp .le 11, 3) := by decide +kernel
theorem dJ6_numberOfTrailingZeros_0f7a4_26 : decode cJ6_numberOfTrailingZeros_0f7a4 26 = .ok (.iinc 1 16, 3) := by decide +kernel
theorem dJ6_numberOfTrailingZeros_0f7a4_29 : decode cJ6_numberOfTrailingZeros_0f7a4 29 = .ok (.iload_n 0, 1) := by decide +kernel
theorem dJ6_numberOfTrailingZeros_0f7a4_30 : decode cJ6_numberOfTrailingZeros_0f7a4 30 = .ok (.bipush 16, 2) := by decide +kernel
theorem dJ6_numberOfTrailingZeros_0f7a4_32 : decode cJ6_numberOfTrailingZeros_0f7a4 32 = .ok (.iushr, 1) := by decide +kernel
theorem dJ6_numberOfTrailingZeros_0f7a4_33 : decode cJ6_numberOfTrailingZeros_0f7a4 33 = .ok (.istore_n 0, 1) := by decide +kernel
theorem dJ6_numberOfTrailingZeros_0f7a4_34 : decode cJ6_numberOfTrailingZeros_0f7a4 34 = .ok (.iload_n 0, 1) := by decide +kernel
theorem dJ6_numberOfTrailingZeros_0f7a4_35 : decode cJ6_numberOfTrailingZeros_0f7a4 35 = .ok (.sipush 256, 3) := by decide +kernel
theorem dJ6_numberOfTrailingZeros_0f7a4_38 : decode cJ6_numberOfTrailingZeros_0f7a4 38 = .ok (.if_icmp .le 11, 3) := by decide +kernel
theorem dJ6_numberOfTrailingZeros_0f7a4_41 : decode cJ6_numberOfTrailingZeros_0f7a4 41 = .ok (.iinc 1 8, 3) := by decide +kernel
theorem dJ6_numberOfTrailingZeros_0f7a4_44 : decode cJ6_numberOfTrailingZeros_0f7a4 44 = .ok (.iload_n 0, 1) := by decide +kernel
theorem dJ6_numberOfTrailingZeros_0f7a4_45 : decode cJ6_numberOfTrailingZeros_0f7a4 45 = .ok (.bipush 8, 2) := by decide +kernel
theorem dJ6_numberOfTrailingZeros_0f7a4_47 : decode cJ6_numberOfTrailingZeros_0f7a4 47 = .ok (.iushr, 1) := by decide +kernel
theorem dJ6_numberOfTrailingZeros_0f7a4_48 : decode cJ6_numberOfTrailingZeros_0f7a4 48 = .ok (.istore_n 0, 1) := by decide +kernel
theorem dJ6_numberOfTrailingZeros_0f7a4_49 : decode cJ6_numberOfTrailingZeros_0f7a4 49 = .ok (.iload_n 0, 1) := by decide +kernel
theorem dJ6_numberOfTrailingZeros_0f7a4_50 : decode cJ6_numberOfTrailingZeros_0f7a4 50 = .ok (.bipush 16, 2) := by decide +kernel
theorem dJ6_numberOfTrailingZeros_0f7a4_52 : decode cJ6_numberOfTrailingZeros_0f7a4 52 = .ok (.if_icmp .le 10, 3) := by decide +kernel
theorem dJ6_numberOfTrailingZeros_0f7a4_55 : decode cJ6_numberOfTrailingZeros_0f7a4 55 = .ok (.iinc 1 4, 3) := by decide +kernel
theorem dJ6_numberOfTrailingZeros_0f7a4_58 : decode cJ6_numberOfTrailingZeros_0f7a4 58 = .ok (.iload_n 0, 1) := by decide +kernel
theorem dJ6_numberOfTrailingZeros_0f7a4_59 : decode cJ6_numberOfTrailingZeros_0f7a4 59 = .ok (.iconst 4, 1) := by decide +kernel
theorem dJ6_numberOfTrailingZeros_0f7a4_60 : decode cJ6_numberOfTrailingZeros_0f7a4 60 = .ok (.iushr, 1) := by decide +kernel
theorem dJ6_numberOfTrailingZeros_0f7a4_61 : decode cJ6_numberOfTrailingZeros_0f7a4 61 = .ok (.istore_n 0, 1) := by decide +kernel
theorem dJ6_numberOfTrailingZeros_0f7a4_62 : decode cJ6_numberOfTrailingZeros_0f7a4 62 = .ok (.iload_n 0, 1) := by decide +kernel
theorem dJ6_numberOfTrailingZeros_0f7a4_63 : decode cJ6_numberOfTrailingZeros_0f7a4 63 = .ok (.iconst 4, 1) := by decide +kernel
theorem dJ6_numberOfTrailingZeros_0f7a4_64 : decode cJ6_numberOfTrailingZeros_0f7a4 64 = .ok (.if_icmp .le 10, 3) := by decide +kernel
theorem dJ6_numberOfTrailingZeros_0f7a4_67 : decode cJ6_numberOfTrailingZeros_0f7a4 67 = .ok (.iinc 1 2, 3) := by decide +kernel
theorem dJ6_numberOfTrailingZeros_0f7a4_70 : decode cJ6_numberOfTrailingZeros_0f7a4 70 = .ok (.iload_n 0, 1) := by decide +kernel
theorem dJ6_numberOfTrailingZeros_0f7a4_71 : decode cJ6_numberOfTrailingZeros_0f7a4 71 = .ok (.iconst 2, 1) := by decide +kernel
theorem dJ6_numberOfTrailingZeros_0f7a4_72 : decode cJ6_numberOfTrailingZeros_0f7a4 72 = .ok (.iushr, 1) := by decide +kernel
theorem dJ6_numberOfTrailingZeros_0f7a4_73 : decode cJ6_numberOfTrailingZeros_0f7a4 73 = .ok (.istore_n 0, 1) := by decide +kernel
theorem dJ6_numberOfTrailingZeros_0f7a4_74 : decode cJ6_numberOfTrailingZeros_0f7a4 74 = .ok (.iload_n 1, 1) := by decide +kernel
theorem dJ6_numberOfTrailingZeros_0f7a4_75 : decode cJ6_numberOfTrailingZeros_0f7a4 75 = .ok (.iload_n 0, 1) := by decide +kernel
theorem dJ6_numberOfTrailingZeros_0f7a4_76 : decode cJ6_numberOfTrailingZeros_0f7a4 76 = .ok (.iconst 1, 1) := by decide +kernel
theorem dJ6_numberOfTrailingZeros_0f7a4_77 : decode cJ6_numberOfTrailingZeros_0f7a4 77 = .ok (.iushr, 1) := by decide +kernel
theorem dJ6_numberOfTrailingZeros_0f7a4_78 : decode cJ6_numberOfTrailingZeros_0f7a4 78 = .ok (.iadd, 1) := by decide +kernel
theorem dJ6_numberOfTrailingZeros_0f7a4_79 : decode cJ6_numberOfTrailingZeros_0f7a4 79 = .ok (.ireturn, 1) := by decide +kernel
theorem dJ6_bitCount_0f7a4_0 : decode cJ6_bitCount_0f7a4 0 = .ok (.iload_n 0, 1) := by decide +kernel
theorem dJ6_bitCount_0f7a4_1 : decode cJ6_bitCount_0f7a4 1 = .ok (.iload_n 0, 1) := by decide +kernel
theorem dJ6_bitCount_0f7a4_2 : decode cJ6_bitCount_0f7a4 2 = .ok (.iconst 1, 1) := by decide +kernel
theorem dJ6_bitCount_0f7a4_3 : decode cJ6_bitCount_0f7a4 3 = .ok (.iushr, 1) := by decide +kernel
theorem dJ6_bitCount_0f7a4_4 : decode cJ6_bitCount_0f7a4 4 = .ok (.ldc_w 265, 3) := by decide +kernel
theorem dJ6_bitCount_0f7a4_7 : decode cJ6_bitCount_0f7a4 7 = .ok (.iand, 1) := by decide +kernel
theorem dJ6_bitCount_0f7a4_8 : decode cJ6_bitCount_0f7a4 8 = .ok (.isub, 1) := by decide +kernel
theorem dJ6_bitCount_0f7a4_9 : decode cJ6_bitCount_0f7a4 9 = .ok (.istore_n 0, 1) := by decide +kernel
theorem dJ6_bitCount_0f7a4_10 : decode cJ6_bitCount_0f7a4 10 = .ok (.iload_n 0, 1) := by decide +kernel
theorem dJ6_bitCount_0f7a4_11 : decode cJ6_bitCount_0f7a4 11 = .ok (.ldc_w 266, 3) := by decide +kernel
theorem dJ6_bitCount_0f7a4_14 : decode cJ6_bitCount_0f7a4 14 = .ok (.iand, 1) := by decide +kernel
theorem dJ6_bitCount_0f7a4_15 : decode cJ6_bitCount_0f7a4 15 = .ok (.iload_n 0, 1) := by decide +kernel
theorem dJ6_bitCount_0f7a4_16 : decode cJ6_bitCount_0f7a4 16 = .ok (.iconst 2, 1) := by decide +kernel
theorem dJ6_bitCount_0f7a4_17 : decode cJ6_bitCount_0f7a4 17 = .ok (.iushr, 1) := by decide +kernel
theorem dJ6_bitCount_0f7a4_18 : decode cJ6_bitCount_0f7a4 18 = .ok (.ldc_w 266, 3) := by decide +kernel
theorem dJ6_bitCount_0f7a4_21 : decode cJ6_bitCount_0f7a4 21 = .ok (.iand, 1) := by decide +kernel
theorem dJ6_bitCount_0f7a4_22 : decode cJ6_bitCount_0f7a4 22 = .ok (.iadd, 1) := by decide +kernel
theorem dJ6_bitCount_0f7a4_23 : decode cJ6_bitCount_0f7a4 23 = .ok (.istore_n 0, 1) := by decide +kernel
theorem dJ6_bitCount_0f7a4_24 : decode cJ6_bitCount_0f7a4 24 = .ok (.iload_n 0, 1) := by decide +kernel
theorem dJ6_bitCount_0f7a4_25 : decode cJ6_bitCount_0f7a4 25 = .ok (.iload_n 0, 1) := by decide +kernel
theorem dJ6_bitCount_0f7a4_26 : decode cJ6_bitCount_0f7a4 26 = .ok (.iconst 4, 1) := by decide +kernel
theorem dJ6_bitCount_0f7a4_27 : decode cJ6_bitCount_0f7a4 27 = .ok (.iushr, 1) := by decide +kernel
theorem dJ6_bitCount_0f7a4_28 : decode cJ6_bitCount_0f7a4 28 = .ok (.iadd, 1) := by decide +kernel
theorem dJ6_bitCount_0f7a4_29 : decode cJ6_bitCount_0f7a4 29 = .ok (.ldc_w 267, 3) := by decide +kernel
theorem dJ6_bitCount_0f7a4_32 : decode cJ6_bitCount_0f7a4 32 = .ok (.iand, 1) := by decide +kernel
theorem dJ6_bitCount_0f7a4_33 : decode cJ6_bitCount_0f7a4 33 = .ok (.istore_n 0, 1) := by decide +kernel
theorem dJ6_bitCount_0f7a4_34 : decode cJ6_bitCount_0f7a4 34 = .ok (.iload_n 0, 1) := by decide +kernel
theorem dJ6_bitCount_0f7a4_35 : decode cJ6_bitCount_0f7a4 35 = .ok (.iload_n 0, 1) := by decide +kernel
theorem dJ6_bitCount_0f7a4_36 : decode cJ6_bitCount_0f7a4 36 = .ok (.bipush 8, 2) := by decide +kernel
theorem dJ6_bitCount_0f7a4_38 : decode cJ6_bitCount_0f7a4 38 = .ok (.iushr, 1) := by decide +kernel
theorem dJ6_bitCount_0f7a4_39 : decode cJ6_bitCount_0f7a4 39 = .ok (.iadd, 1) := by decide +kernel
theorem dJ6_bitCount_0f7a4_40 : decode cJ6_bitCount_0f7a4 40 = .ok (.istore_n 0, 1) := by decide +kernel
theorem dJ6_bitCount_0f7a4_41 : decode cJ6_bitCount_0f7a4 41 = .ok (.iload_n 0, 1) := by decide +kernel
theorem dJ6_bitCount_0f7a4_42 : decode cJ6_bitCount_0f7a4 42 = .ok (.iload_n 0, 1) := by decide +kernel
theorem dJ6_bitCount_0f7a4_43 : decode cJ6_bitCount_0f7a4 43 = .ok (.bipush 16, 2) := by decide +kernel
theorem dJ6_bitCount_0f7a4_45 : decode cJ6_bitCount_0f7a4 45 = .ok (.iushr, 1) := by decide +kernel
theorem dJ6_bitCount_0f7a4_46 : decode cJ6_bitCount_0f7a4 46 = .ok (.iadd, 1) := by decide +kernel
theorem dJ6_bitCount_0f7a4_47 : decode cJ6_bitCount_0f7a4 47 = .ok (.istore_n 0, 1) := by decide +kernel
theorem dJ6_bitCount_0f7a4_48 : decode cJ6_bitCount_0f7a4 48 = .ok (.iload_n 0, 1) := by decide +kernel
theorem dJ6_bitCount_0f7a4_49 : decode cJ6_bitCount_0f7a4 49 = .ok (.bipush 63, 2) := by decide +kernel
theorem dJ6_bitCount_0f7a4_51 : decode cJ6_bitCount_0f7a4 51 = .ok (.iand, 1) := by decide +kernel
theorem dJ6_bitCount_0f7a4_52 : decode cJ6_bitCount_0f7a4 52 = .ok (.ireturn, 1) := by decide +kernel
theorem dJ9_max_7cf53_0 : decode cJ9_max_7cf53 0 = .ok (.iload_n 0, 1) := by decide +kernel
theorem dJ9_max_7cf53_1 : decode cJ9_max_7cf53 1 = .ok (.iload_n 1, 1) := by decide +kernel
theorem dJ9_max_7cf53_2 : decode cJ9_max_7cf53 2 = .ok (.if_icmp .lt 7, 3) := by decide +kernel
theorem dJ9_max_7cf53_5 : decode cJ9_max_7cf53 5 = .ok (.iload_n 0, 1) := by decide +kernel
theorem dJ9_max_7cf53_6 : decode cJ9_max_7cf53 6 = .ok (.goto 4, 3) := by decide +kernel
theorem dJ9_max_7cf53_9 : decode cJ9_max_7cf53 9 = .ok (.iload_n 1, 1) := by decide +kernel
theorem dJ9_max_7cf53_10 : decode cJ9_max_7cf53 10 = .ok (.ireturn, 1) := by decide +kernel
theorem dJ9_min_7cf53_0 : decode cJ9_min_7cf53 0 = .ok (.iload_n 0, 1) := by decide +kernel
theorem dJ9_min_7cf53_1 : decode cJ9_min_7cf53 1 = .ok (.iload_n 1, 1) := by decide +kernel
theorem dJ9_min_7cf53_2 : decode cJ9_min_7cf53 2 = .ok (.if_icmp .gt 7, 3) := by decide +kernel
theorem dJ9_min_7cf53_5 : decode cJ9_min_7cf53 5 = .ok (.iload_n 0, 1) := by decide +kernel
theorem dJ9_min_7cf53_6 : decode cJ9_min_7cf53 6 = .ok (.goto 4, 3) := by decide +kernel
theorem dJ9_min_7cf53_9 : decode cJ9_min_7cf53 9 = .ok (.iload_n 1, 1) := by decide +kernel
theorem dJ9_min_7cf53_10 : decode cJ9_min_7cf53 10 = .ok (.ireturn, 1) := by decide +kernel
theorem dJ7_fill_d0a16_0 : decode cJ7_fill_d0a16 0 = .ok (.iconst 0, 1) := by decide +kernel
theorem dJ7_fill_d0a16_1 : decode cJ7_fill_d0a16 1 = .ok (.istore_n 3, 1) := by decide +kernel
theorem dJ7_fill_d0a16_2 : decode cJ7_fill_d0a16 2 = .ok (.aload_n 0, 1) := by decide +kernel
theorem dJ7_fill_d0a16_3 : decode cJ7_fill_d0a16 3 = .ok (.arraylength, 1) := by decide +kernel
theorem dJ7_fill_d0a16_4 : decode cJ7_fill_d0a16 4 = .ok (.istore 4, 2) := by decide +kernel
theorem dJ7_fill_d0a16_6 : decode cJ7_fill_d0a16 6 = .ok (.iload_n 3, 1) := by decide +kernel
theorem dJ7_fill_d0a16_7 : decode cJ7_fill_d0a16 7 = .ok (.iload 4, 2) := by decide +kernel
theorem dJ7_fill_d0a16_9 : decode cJ7_fill_d0a16 9 = .ok (.if_icmp .ge 13, 3) := by decide +kernel
theorem dJ7_fill_d0a16_12 : decode cJ7_fill_d0a16 12 = .ok (.aload_n 0, 1) := by decide +kernel
theorem dJ7_fill_d0a16_13 : decode cJ7_fill_d0a16 13 = .ok (.iload_n 3, 1) := by decide +kernel
theorem dJ7_fill_d0a16_14 : decode cJ7_fill_d0a16 14 = .ok (.lload_n 1, 1) := by decide +kernel
theorem dJ7_fill_d0a16_15 : decode cJ7_fill_d0a16 15 = .ok (.lastore, 1) := by decide +kernel
theorem dJ7_fill_d0a16_16 : decode cJ7_fill_d0a16 16 = .ok (.iinc 3 1, 3) := by decide +kernel
theorem dJ7_fill_d0a16_19 : decode cJ7_fill_d0a16 19 = .ok (.goto (-13), 3) := by decide +kernel
theorem dJ7_fill_d0a16_22 : decode cJ7_fill_d0a16 22 = .ok (.return_, 1) := by decide +kernel
theorem dJ7_fill_53178_0 : decode cJ7_fill_53178 0 = .ok (.iconst 0, 1) := by decide +kernel
theorem dJ7_fill_53178_1 : decode cJ7_fill_53178 1 = .ok (.istore_n 2, 1) := by decide +kernel
theorem dJ7_fill_53178_2 : decode cJ7_fill_53178 2 = .ok (.aload_n 0, 1) := by decide +kernel
theorem dJ7_fill_53178_3 : decode cJ7_fill_53178 3 = .ok (.arraylength, 1) := by decide +kernel
theorem dJ7_fill_53178_4 : decode cJ7_fill_53178 4 = .ok (.istore_n 3, 1) := by decide +kernel
theorem dJ7_fill_53178_5 : decode cJ7_fill_53178 5 = .ok (.iload_n 2, 1) := by decide +kernel
theorem dJ7_fill_53178_6 : decode cJ7_fill_53178 6 = .ok (.iload_n 3, 1) := by decide +kernel
theorem dJ7_fill_53178_7 : decode cJ7_fill_53178 7 = .ok (.if_icmp .ge 13, 3) := by decide +kernel
theorem dJ7_fill_53178_10 : decode cJ7_fill_53178 10 = .ok (.aload_n 0, 1) := by decide +kernel
theorem dJ7_fill_53178_11 : decode cJ7_fill_53178 11 = .ok (.iload_n 2, 1) := by decide +kernel
theorem dJ7_fill_53178_12 : decode cJ7_fill_53178 12 = .ok (.iload_n 1, 1) := by decide +kernel
theorem dJ7_fill_53178_13 : decode cJ7_fill_53178 13 = .ok (.iastore, 1) := by decide +kernel
theorem dJ7_fill_53178_14 : decode cJ7_fill_53178 14 = .ok (.iinc 2 1, 3) := by decide +kernel
theorem dJ7_fill_53178_17 : decode cJ7_fill_53178 17 = .ok (.goto (-12), 3) := by decide +kernel
theorem dJ7_fill_53178_20 : decode cJ7_fill_53178 20 = .ok (.return_, 1) := by decide +kernel
theorem dL_law_0 : decode cL_law 0 = .ok (.new 7, 3) := by decide +kernel
theorem dL_law_3 : decode cL_law 3 = .ok (.dup, 1) := by decide +kernel
theorem dL_law_4 : decode cL_law 4 = .ok (.invokespecial 9, 3) := by decide +kernel
theorem dL_law_7 : decode cL_law 7 = .ok (.astore_n 1, 1) := by decide +kernel
theorem dL_law_8 : decode cL_law 8 = .ok (.new 10, 3) := by decide +kernel
theorem dL_law_11 : decode cL_law 11 = .ok (.dup, 1) := by decide +kernel
theorem dL_law_12 : decode cL_law 12 = .ok (.invokespecial 12, 3) := by decide +kernel
theorem dL_law_15 : decode cL_law 15 = .ok (.astore_n 2, 1) := by decide +kernel
theorem dL_law_16 : decode cL_law 16 = .ok (.iconst 0, 1) := by decide +kernel
theorem dL_law_17 : decode cL_law 17 = .ok (.istore_n 3, 1) := by decide +kernel
theorem dL_law_18 : decode cL_law 18 = .ok (.iload_n 3, 1) := by decide +kernel
theorem dL_law_19 : decode cL_law 19 = .ok (.aload_n 0, 1) := by decide +kernel
theorem dL_law_20 : decode cL_law 20 = .ok (.arraylength, 1) := by decide +kernel
theorem dL_law_21 : decode cL_law 21 = .ok (.iconst 4, 1) := by decide +kernel
theorem dL_law_22 : decode cL_law 22 = .ok (.isub, 1) := by decide +kernel
theorem dL_law_23 : decode cL_law 23 = .ok (.if_icmp .gt 1332, 3) := by decide +kernel
theorem dL_law_26 : decode cL_law 26 = .ok (.aload_n 0, 1) := by decide +kernel
theorem dL_law_27 : decode cL_law 27 = .ok (.iload_n 3, 1) := by decide +kernel
theorem dL_law_28 : decode cL_law 28 = .ok (.iaload, 1) := by decide +kernel
theorem dL_law_29 : decode cL_law 29 = .ok (.bipush 63, 2) := by decide +kernel
theorem dL_law_31 : decode cL_law 31 = .ok (.iand, 1) := by decide +kernel
theorem dL_law_32 : decode cL_law 32 = .ok (.tableswitch 1317 0 40 #[180, 203, 262, 295, 328, 361, 394, 427, 476, 509, 542, 591, 634, 647, 670, 693, 726, 749, 772, 795, 808, 822, 845, 878, 891, 934, 947, 960, 983, 1006, 1019, 1032, 1071, 1110, 1150, 1199, 1232, 1245, 1268, 1281, 1294], 180) := by decide +kernel
theorem dL_law_212 : decode cL_law 212 = .ok (.aload_n 1, 1) := by decide +kernel
theorem dL_law_213 : decode cL_law 213 = .ok (.aload_n 0, 1) := by decide +kernel
theorem dL_law_214 : decode cL_law 214 = .ok (.iload_n 3, 1) := by decide +kernel
theorem dL_law_215 : decode cL_law 215 = .ok (.iconst 1, 1) := by decide +kernel
theorem dL_law_216 : decode cL_law 216 = .ok (.iadd, 1) := by decide +kernel
theorem dL_law_217 : decode cL_law 217 = .ok (.iaload, 1) := by decide +kernel
theorem dL_law_218 : decode cL_law 218 = .ok (.invokevirtual 13, 3) := by decide +kernel
theorem dL_law_221 : decode cL_law 221 = .ok (.aload_n 2, 1) := by decide +kernel
theorem dL_law_222 : decode cL_law 222 = .ok (.aload_n 0, 1) := by decide +kernel
theorem dL_law_223 : decode cL_law 223 = .ok (.iload_n 3, 1) := by decide +kernel
theorem dL_law_224 : decode cL_law 224 = .ok (.iconst 1, 1) := by decide +kernel
theorem dL_law_225 : decode cL_law 225 = .ok (.iadd, 1) := by decide +kernel
theorem dL_law_226 : decode cL_law 226 = .ok (.iaload, 1) := by decide +kernel
theorem dL_law_227 : decode cL_law 227 = .ok (.invokevirtual 17, 3) := by decide +kernel
theorem dL_law_230 : decode cL_law 230 = .ok (.if_icmp .eq 1119, 3) := by decide +kernel
theorem dL_law_233 : decode cL_law 233 = .ok (.iconst 0, 1) := by decide +kernel
theorem dL_law_234 : decode cL_law 234 = .ok (.ireturn, 1) := by decide +kernel
theorem dL_law_235 : decode cL_law 235 = .ok (.aload_n 1, 1) := by decide +kernel
theorem dL_law_236 : decode cL_law 236 = .ok (.aload_n 0, 1) := by decide +kernel
theorem dL_law_237 : decode cL_law 237 = .ok (.iload_n 3, 1) := by decide +kernel
theorem dL_law_238 : decode cL_law 238 = .ok (.iconst 1, 1) := by decide +kernel
theorem dL_law_239 : decode cL_law 239 = .ok (.iadd, 1) := by decide +kernel
theorem dL_law_240 : decode cL_law 240 = .ok (.iaload, 1) := by decide +kernel
theorem dL_law_241 : decode cL_law 241 = .ok (.aload_n 0, 1) := by decide +kernel
theorem dL_law_242 : decode cL_law 242 = .ok (.iload_n 3, 1) := by decide +kernel
theorem dL_law_243 : decode cL_law 243 = .ok (.iconst 2, 1) := by decide +kernel
theorem dL_law_244 : decode cL_law 244 = .ok (.iadd, 1) := by decide +kernel
theorem dL_law_245 : decode cL_law 245 = .ok (.iaload, 1) := by decide +kernel
theorem dL_law_246 : decode cL_law 246 = .ok (.aload_n 0, 1) := by decide +kernel
theorem dL_law_247 : decode cL_law 247 = .ok (.iload_n 3, 1) := by decide +kernel
theorem dL_law_248 : decode cL_law 248 = .ok (.iconst 3, 1) := by decide +kernel
theorem dL_law_249 : decode cL_law 249 = .ok (.iadd, 1) := by decide +kernel
theorem dL_law_250 : decode cL_law 250 = .ok (.iaload, 1) := by decide +kernel
theorem dL_law_251 : decode cL_law 251 = .ok (.ifCond .eq 7, 3) := by decide +kernel
theorem dL_law_254 : decode cL_law 254 = .ok (.iconst 1, 1) := by decide +kernel
theorem dL_law_255 : decode cL_law 255 = .ok (.goto 4, 3) := by decide +kernel
theorem dL_law_258 : decode cL_law 258 = .ok (.iconst 0, 1) := by decide +kernel
theorem dL_law_259 : decode cL_law 259 = .ok (.invokevirtual 18, 3) := by decide +kernel
theorem dL_law_262 : decode cL_law 262 = .ok (.aload_n 2, 1) := by decide +kernel
theorem dL_law_263 : decode cL_law 263 = .ok (.aload_n 0, 1) := by decide +kernel
theorem dL_law_264 : decode cL_law 264 = .ok (.iload_n 3, 1) := by decide +kernel
theorem dL_law_265 : decode cL_law 265 = .ok (.iconst 1, 1) := by decide +kernel
theorem dL_law_266 : decode cL_law 266 = .ok (.iadd, 1) := by decide +kernel
theorem dL_law_267 : decode cL_law 267 = .ok (.iaload, 1) := by decide +kernel
theorem dL_law_268 : decode cL_law 268 = .ok (.aload_n 0, 1) := by decide +kernel
theorem dL_law_269 : decode cL_law 269 = .ok (.iload_n 3, 1) := by decide +kernel
theorem dL_law_270 : decode cL_law 270 = .ok (.iconst 2, 1) := by decide +kernel
theorem dL_law_271 : decode cL_law 271 = .ok (.iadd, 1) := by decide +kernel
theorem dL_law_272 : decode cL_law 272 = .ok (.iaload, 1) := by decide +kernel
theorem dL_law_273 : decode cL_law 273 = .ok (.aload_n 0, 1) := by decide +kernel
theorem dL_law_274 : decode cL_law 274 = .ok (.iload_n 3, 1) := by decide +kernel
theorem dL_law_275 : decode cL_law 275 = .ok (.iconst 3, 1) := by decide +kernel
theorem dL_law_276 : decode cL_law 276 = .ok (.iadd, 1) := by decide +kernel
theorem dL_law_277 : decode cL_law 277 = .ok (.iaload, 1) := by decide +kernel
theorem dL_law_278 : decode cL_law 278 = .ok (.ifCond .eq 7, 3) := by decide +kernel
theorem dL_law_281 : decode cL_law 281 = .ok (.iconst 1, 1) := by decide +kernel
theorem dL_law_282 : decode cL_law 282 = .ok (.goto 4, 3) := by decide +kernel
theorem dL_law_285 : decode cL_law 285 = .ok (.iconst 0, 1) := by decide +kernel
theorem dL_law_286 : decode cL_law 286 = .ok (.invokevirtual 22, 3) := by decide +kernel
theorem dL_law_289 : decode cL_law 289 = .ok (.if_icmp .eq 1060, 3) := by decide +kernel
theorem dL_law_292 : decode cL_law 292 = .ok (.iconst 0, 1) := by decide +kernel
theorem dL_law_293 : decode cL_law 293 = .ok (.ireturn, 1) := by decide +kernel
theorem dL_law_294 : decode cL_law 294 = .ok (.aload_n 1, 1) := by decide +kernel
theorem dL_law_295 : decode cL_law 295 = .ok (.aload_n 0, 1) := by decide +kernel
theorem dL_law_296 : decode cL_law 296 = .ok (.iload_n 3, 1) := by decide +kernel
theorem dL_law_297 : decode cL_law 297 = .ok (.iconst 1, 1) := by decide +kernel
theorem dL_law_298 : decode cL_law 298 = .ok (.iadd, 1) := by decide +kernel
theorem dL_law_299 : decode cL_law 299 = .ok (.iaload, 1) := by decide +kernel
theorem dL_law_300 : decode cL_law 300 = .ok (.aload_n 0, 1) := by decide +kernel
theorem dL_law_301 : decode cL_law 301 = .ok (.iload_n 3, 1) := by decide +kernel
theorem dL_law_302 : decode cL_law 302 = .ok (.iconst 2, 1) := by decide +kernel
theorem dL_law_303 : decode cL_law 303 = .ok (.iadd, 1) := by decide +kernel
theorem dL_law_304 : decode cL_law 304 = .ok (.iaload, 1) := by decide +kernel
theorem dL_law_305 : decode cL_law 305 = .ok (.invokevirtual 23, 3) := by decide +kernel
theorem dL_law_308 : decode cL_law 308 = .ok (.aload_n 2, 1) := by decide +kernel
theorem dL_law_309 : decode cL_law 309 = .ok (.aload_n 0, 1) := by decide +kernel
theorem dL_law_310 : decode cL_law 310 = .ok (.iload_n 3, 1) := by decide +kernel
theorem dL_law_311 : decode cL_law 311 = .ok (.iconst 1, 1) := by decide +kernel
theorem dL_law_312 : decode cL_law 312 = .ok (.iadd, 1) := by decide +kernel
theorem dL_law_313 : decode cL_law 313 = .ok (.iaload, 1) := by decide +kernel
theorem dL_law_314 : decode cL_law 314 = .ok (.aload_n 0, 1) := by decide +kernel
theorem dL_law_315 : decode cL_law 315 = .ok (.iload_n 3, 1) := by decide +kernel
theorem dL_law_316 : decode cL_law 316 = .ok (.iconst 2, 1) := by decide +kernel
theorem dL_law_317 : decode cL_law 317 = .ok (.iadd, 1) := by decide +kernel
theorem dL_law_318 : decode cL_law 318 = .ok (.iaload, 1) := by decide +kernel
theorem dL_law_319 : decode cL_law 319 = .ok (.invokevirtual 27, 3) := by decide +kernel
theorem dL_law_322 : decode cL_law 322 = .ok (.if_icmp .eq 1027, 3) := by decide +kernel
theorem dL_law_325 : decode cL_law 325 = .ok (.iconst 0, 1) := by decide +kernel
theorem dL_law_326 : decode cL_law 326 = .ok (.ireturn, 1) := by decide +kernel
theorem dL_law_327 : decode cL_law 327 = .ok (.aload_n 1, 1) := by decide +kernel
theorem dL_law_328 : decode cL_law 328 = .ok (.aload_n 0, 1) := by decide +kernel
theorem dL_law_329 : decode cL_law 329 = .ok (.iload_n 3, 1) := by decide +kernel
theorem dL_law_330 : decode cL_law 330 = .ok (.iconst 1, 1) := by decide +kernel
theorem dL_law_331 : decode cL_law 331 = .ok (.iadd, 1) := by decide +kernel
theorem dL_law_332 : decode cL_law 332 = .ok (.iaload, 1) := by decide +kernel
theorem dL_law_333 : decode cL_law 333 = .ok (.aload_n 0, 1) := by decide +kernel
theorem dL_law_334 : decode cL_law 334 = .ok (.iload_n 3, 1) := by decide +kernel
theorem dL_law_335 : decode cL_law 335 = .ok (.iconst 2, 1) := by decide +kernel
theorem dL_law_336 : decode cL_law 336 = .ok (.iadd, 1) := by decide +kernel
theorem dL_law_337 : decode cL_law 337 = .ok (.iaload, 1) := by decide +kernel
theorem dL_law_338 : decode cL_law 338 = .ok (.invokevirtual 28, 3) := by decide +kernel
theorem dL_law_341 : decode cL_law 341 = .ok (.aload_n 2, 1) := by decide +kernel
theorem dL_law_342 : decode cL_law 342 = .ok (.aload_n 0, 1) := by decide +kernel
theorem dL_law_343 : decode cL_law 343 = .ok (.iload_n 3, 1) := by decide +kernel
theorem dL_law_344 : decode cL_law 344 = .ok (.iconst 1, 1) := by decide +kernel
theorem dL_law_345 : decode cL_law 345 = .ok (.iadd, 1) := by decide +kernel
theorem dL_law_346 : decode cL_law 346 = .ok (.iaload, 1) := by decide +kernel
theorem dL_law_347 : decode cL_law 347 = .ok (.aload_n 0, 1) := by decide +kernel
theorem dL_law_348 : decode cL_law 348 = .ok (.iload_n 3, 1) := by decide +kernel
theorem dL_law_349 : decode cL_law 349 = .ok (.iconst 2, 1) := by decide +kernel
theorem dL_law_350 : decode cL_law 350 = .ok (.iadd, 1) := by decide +kernel
theorem dL_law_351 : decode cL_law 351 = .ok (.iaload, 1) := by decide +kernel
theorem dL_law_352 : decode cL_law 352 = .ok (.invokevirtual 31, 3) := by decide +kernel
theorem dL_law_355 : decode cL_law 355 = .ok (.if_icmp .eq 994, 3) := by decide +kernel
theorem dL_law_358 : decode cL_law 358 = .ok (.iconst 0, 1) := by decide +kernel
theorem dL_law_359 : decode cL_law 359 = .ok (.ireturn, 1) := by decide +kernel
theorem dL_law_360 : decode cL_law 360 = .ok (.aload_n 1, 1) := by decide +kernel
theorem dL_law_361 : decode cL_law 361 = .ok (.aload_n 0, 1) := by decide +kernel
theorem dL_law_362 : decode cL_law 362 = .ok (.iload_n 3, 1) := by decide +kernel
theorem dL_law_363 : decode cL_law 363 = .ok (.iconst 1, 1) := by decide +kernel
theorem dL_law_364 : decode cL_law 364 = .ok (.iadd, 1) := by decide +kernel
theorem dL_law_365 : decode cL_law 365 = .ok (.iaload, 1) := by decide +kernel
theorem dL_law_366 : decode cL_law 366 = .ok (.aload_n 0, 1) := by decide +kernel
theorem dL_law_367 : decode cL_law 367 = .ok (.iload_n 3, 1) := by decide +kernel
theorem dL_law_368 : decode cL_law 368 = .ok (.iconst 2, 1) := by decide +kernel
theorem dL_law_369 : decode cL_law 369 = .ok (.iadd, 1) := by decide +kernel
theorem dL_law_370 : decode cL_law 370 = .ok (.iaload, 1) := by decide +kernel
theorem dL_law_371 : decode cL_law 371 = .ok (.invokevirtual 32, 3) := by decide +kernel
theorem dL_law_374 : decode cL_law 374 = .ok (.aload_n 2, 1) := by decide +kernel
theorem dL_law_375 : decode cL_law 375 = .ok (.aload_n 0, 1) := by decide +kernel
theorem dL_law_376 : decode cL_law 376 = .ok (.iload_n 3, 1) := by decide +kernel
theorem dL_law_377 : decode cL_law 377 = .ok (.iconst 1, 1) := by decide +kernel
theorem dL_law_378 : decode cL_law 378 = .ok (.iadd, 1) := by decide +kernel
theorem dL_law_379 : decode cL_law 379 = .ok (.iaload, 1) := by decide +kernel
theorem dL_law_380 : decode cL_law 380 = .ok (.aload_n 0, 1) := by decide +kernel
theorem dL_law_381 : decode cL_law 381 = .ok (.iload_n 3, 1) := by decide +kernel
theorem dL_law_382 : decode cL_law 382 = .ok (.iconst 2, 1) := by decide +kernel
theorem dL_law_383 : decode cL_law 383 = .ok (.iadd, 1) := by decide +kernel
theorem dL_law_384 : decode cL_law 384 = .ok (.iaload, 1) := by decide +kernel
theorem dL_law_385 : decode cL_law 385 = .ok (.invokevirtual 35, 3) := by decide +kernel
theorem dL_law_388 : decode cL_law 388 = .ok (.if_icmp .eq 961, 3) := by decide +kernel
theorem dL_law_391 : decode cL_law 391 = .ok (.iconst 0, 1) := by decide +kernel
theorem dL_law_392 : decode cL_law 392 = .ok (.ireturn, 1) := by decide +kernel
theorem dL_law_393 : decode cL_law 393 = .ok (.aload_n 1, 1) := by decide +kernel
theorem dL_law_394 : decode cL_law 394 = .ok (.aload_n 0, 1) := by decide +kernel
theorem dL_law_395 : decode cL_law 395 = .ok (.iload_n 3, 1) := by decide +kernel
theorem dL_law_396 : decode cL_law 396 = .ok (.iconst 1, 1) := by decide +kernel
theorem dL_law_397 : decode cL_law 397 = .ok (.iadd, 1) := by decide +kernel
theorem dL_law_398 : decode cL_law 398 = .ok (.iaload, 1) := by decide +kernel
theorem dL_law_399 : decode cL_law 399 = .ok (.aload_n 0, 1) := by decide +kernel
theorem dL_law_400 : decode cL_law 400 = .ok (.iload_n 3, 1) := by decide +kernel
theorem dL_law_401 : decode cL_law 401 = .ok (.iconst 2, 1) := by decide +kernel
theorem dL_law_402 : decode cL_law 402 = .ok (.iadd, 1) := by decide +kernel
theorem dL_law_403 : decode cL_law 403 = .ok (.iaload, 1) := by decide +kernel
theorem dL_law_404 : decode cL_law 404 = .ok (.invokevirtual 36, 3) := by decide +kernel
theorem dL_law_407 : decode cL_law 407 = .ok (.aload_n 2, 1) := by decide +kernel
theorem dL_law_408 : decode cL_law 408 = .ok (.aload_n 0, 1) := by decide +kernel
theorem dL_law_409 : decode cL_law 409 = .ok (.iload_n 3, 1) := by decide +kernel
theorem dL_law_410 : decode cL_law 410 = .ok (.iconst 1, 1) := by decide +kernel
theorem dL_law_411 : decode cL_law 411 = .ok (.iadd, 1) := by decide +kernel
theorem dL_law_412 : decode cL_law 412 = .ok (.iaload, 1) := by decide +kernel
theorem dL_law_413 : decode cL_law 413 = .ok (.aload_n 0, 1) := by decide +kernel
theorem dL_law_414 : decode cL_law 414 = .ok (.iload_n 3, 1) := by decide +kernel
theorem dL_law_415 : decode cL_law 415 = .ok (.iconst 2, 1) := by decide +kernel
theorem dL_law_416 : decode cL_law 416 = .ok (.iadd, 1) := by decide +kernel
theorem dL_law_417 : decode cL_law 417 = .ok (.iaload, 1) := by decide +kernel
theorem dL_law_418 : decode cL_law 418 = .ok (.invokevirtual 39, 3) := by decide +kernel
theorem dL_law_421 : decode cL_law 421 = .ok (.if_icmp .eq 928, 3) := by decide +kernel
theorem dL_law_424 : decode cL_law 424 = .ok (.iconst 0, 1) := by decide +kernel
theorem dL_law_425 : decode cL_law 425 = .ok (.ireturn, 1) := by decide +kernel
theorem dL_law_426 : decode cL_law 426 = .ok (.aload_n 1, 1) := by decide +kernel
theorem dL_law_427 : decode cL_law 427 = .ok (.aload_n 0, 1) := by decide +kernel
theorem dL_law_428 : decode cL_law 428 = .ok (.iload_n 3, 1) := by decide +kernel
theorem dL_law_429 : decode cL_law 429 = .ok (.iconst 1, 1) := by decide +kernel
theorem dL_law_430 : decode cL_law 430 = .ok (.iadd, 1) := by decide +kernel
theorem dL_law_431 : decode cL_law 431 = .ok (.iaload, 1) := by decide +kernel
theorem dL_law_432 : decode cL_law 432 = .ok (.aload_n 0, 1) := by decide +kernel
theorem dL_law_433 : decode cL_law 433 = .ok (.iload_n 3, 1) := by decide +kernel
theorem dL_law_434 : decode cL_law 434 = .ok (.iconst 2, 1) := by decide +kernel
theorem dL_law_435 : decode cL_law 435 = .ok (.iadd, 1) := by decide +kernel
theorem dL_law_436 : decode cL_law 436 = .ok (.iaload, 1) := by decide +kernel
theorem dL_law_437 : decode cL_law 437 = .ok (.invokevirtual 40, 3) := by decide +kernel
theorem dL_law_440 : decode cL_law 440 = .ok (.aload_n 2, 1) := by decide +kernel
theorem dL_law_441 : decode cL_law 441 = .ok (.aload_n 0, 1) := by decide +kernel
theorem dL_law_442 : decode cL_law 442 = .ok (.iload_n 3, 1) := by decide +kernel
theorem dL_law_443 : decode cL_law 443 = .ok (.iconst 1, 1) := by decide +kernel
theorem dL_law_444 : decode cL_law 444 = .ok (.iadd, 1) := by decide +kernel
theorem dL_law_445 : decode cL_law 445 = .ok (.iaload, 1) := by decide +kernel
theorem dL_law_446 : decode cL_law 446 = .ok (.aload_n 0, 1) := by decide +kernel
theorem dL_law_447 : decode cL_law 447 = .ok (.iload_n 3, 1) := by decide +kernel
theorem dL_law_448 : decode cL_law 448 = .ok (.iconst 2, 1) := by decide +kernel
theorem dL_law_449 : decode cL_law 449 = .ok (.iadd, 1) := by decide +kernel
theorem dL_law_450 : decode cL_law 450 = .ok (.iaload, 1) := by decide +kernel
theorem dL_law_451 : decode cL_law 451 = .ok (.invokevirtual 43, 3) := by decide +kernel
theorem dL_law_454 : decode cL_law 454 = .ok (.if_icmp .eq 895, 3) := by decide +kernel
theorem dL_law_457 : decode cL_law 457 = .ok (.iconst 0, 1) := by decide +kernel
theorem dL_law_458 : decode cL_law 458 = .ok (.ireturn, 1) := by decide +kernel
theorem dL_law_459 : decode cL_law 459 = .ok (.aload_n 1, 1) := by decide +kernel
theorem dL_law_460 : decode cL_law 460 = .ok (.aload_n 0, 1) := by decide +kernel
theorem dL_law_461 : decode cL_law 461 = .ok (.iload_n 3, 1) := by decide +kernel
theorem dL_law_462 : decode cL_law 462 = .ok (.iconst 1, 1) := by decide +kernel
theorem dL_law_463 : decode cL_law 463 = .ok (.iadd, 1) := by decide +kernel
theorem dL_law_464 : decode cL_law 464 = .ok (.iaload, 1) := by decide +kernel
theorem dL_law_465 : decode cL_law 465 = .ok (.aload_n 0, 1) := by decide +kernel
theorem dL_law_466 : decode cL_law 466 = .ok (.iload_n 3, 1) := by decide +kernel
theorem dL_law_467 : decode cL_law 467 = .ok (.iconst 2, 1) := by decide +kernel
theorem dL_law_468 : decode cL_law 468 = .ok (.iadd, 1) := by decide +kernel
theorem dL_law_469 : decode cL_law 469 = .ok (.iaload, 1) := by decide +kernel
theorem dL_law_470 : decode cL_law 470 = .ok (.ifCond .eq 7, 3) := by decide +kernel
theorem dL_law_473 : decode cL_law 473 = .ok (.iconst 1, 1) := by decide +kernel
theorem dL_law_474 : decode cL_law 474 = .ok (.goto 4, 3) := by decide +kernel
theorem dL_law_477 : decode cL_law 477 = .ok (.iconst 0, 1) := by decide +kernel
theorem dL_law_478 : decode cL_law 478 = .ok (.invokevirtual 44, 3) := by decide +kernel
theorem dL_law_481 : decode cL_law 481 = .ok (.aload_n 2, 1) := by decide +kernel
theorem dL_law_482 : decode cL_law 482 = .ok (.aload_n 0, 1) := by decide +kernel
theorem dL_law_483 : decode cL_law 483 = .ok (.iload_n 3, 1) := by decide +kernel
theorem dL_law_484 : decode cL_law 484 = .ok (.iconst 1, 1) := by decide +kernel
theorem dL_law_485 : decode cL_law 485 = .ok (.iadd, 1) := by decide +kernel
theorem dL_law_486 : decode cL_law 486 = .ok (.iaload, 1) := by decide +kernel
theorem dL_law_487 : decode cL_law 487 = .ok (.aload_n 0, 1) := by decide +kernel
theorem dL_law_488 : decode cL_law 488 = .ok (.iload_n 3, 1) := by decide +kernel
theorem dL_law_489 : decode cL_law 489 = .ok (.iconst 2, 1) := by decide +kernel
theorem dL_law_490 : decode cL_law 490 = .ok (.iadd, 1) := by decide +kernel
theorem dL_law_491 : decode cL_law 491 = .ok (.iaload, 1) := by decide +kernel
theorem dL_law_492 : decode cL_law 492 = .ok (.ifCond .eq 7, 3) := by decide +kernel
theorem dL_law_495 : decode cL_law 495 = .ok (.iconst 1, 1) := by decide +kernel
theorem dL_law_496 : decode cL_law 496 = .ok (.goto 4, 3) := by decide +kernel
theorem dL_law_499 : decode cL_law 499 = .ok (.iconst 0, 1) := by decide +kernel
theorem dL_law_500 : decode cL_law 500 = .ok (.invokevirtual 48, 3) := by decide +kernel
theorem dL_law_503 : decode cL_law 503 = .ok (.if_icmp .eq 846, 3) := by decide +kernel
theorem dL_law_506 : decode cL_law 506 = .ok (.iconst 0, 1) := by decide +kernel
theorem dL_law_507 : decode cL_law 507 = .ok (.ireturn, 1) := by decide +kernel
theorem dL_law_508 : decode cL_law 508 = .ok (.aload_n 1, 1) := by decide +kernel
theorem dL_law_509 : decode cL_law 509 = .ok (.aload_n 0, 1) := by decide +kernel
theorem dL_law_510 : decode cL_law 510 = .ok (.iload_n 3, 1) := by decide +kernel
theorem dL_law_511 : decode cL_law 511 = .ok (.iconst 1, 1) := by decide +kernel
theorem dL_law_512 : decode cL_law 512 = .ok (.iadd, 1) := by decide +kernel
theorem dL_law_513 : decode cL_law 513 = .ok (.iaload, 1) := by decide +kernel
theorem dL_law_514 : decode cL_law 514 = .ok (.aload_n 0, 1) := by decide +kernel
theorem dL_law_515 : decode cL_law 515 = .ok (.iload_n 3, 1) := by decide +kernel
theorem dL_law_516 : decode cL_law 516 = .ok (.iconst 2, 1) := by decide +kernel
theorem dL_law_517 : decode cL_law 517 = .ok (.iadd, 1) := by decide +kernel
theorem dL_law_518 : decode cL_law 518 = .ok (.iaload, 1) := by decide +kernel
theorem dL_law_519 : decode cL_law 519 = .ok (.invokevirtual 49, 3) := by decide +kernel
theorem dL_law_522 : decode cL_law 522 = .ok (.aload_n 2, 1) := by decide +kernel
theorem dL_law_523 : decode cL_law 523 = .ok (.aload_n 0, 1) := by decide +kernel
theorem dL_law_524 : decode cL_law 524 = .ok (.iload_n 3, 1) := by decide +kernel
theorem dL_law_525 : decode cL_law 525 = .ok (.iconst 1, 1) := by decide +kernel
theorem dL_law_526 : decode cL_law 526 = .ok (.iadd, 1) := by decide +kernel
theorem dL_law_527 : decode cL_law 527 = .ok (.iaload, 1) := by decide +kernel
theorem dL_law_528 : decode cL_law 528 = .ok (.aload_n 0, 1) := by decide +kernel
theorem dL_law_529 : decode cL_law 529 = .ok (.iload_n 3, 1) := by decide +kernel
theorem dL_law_530 : decode cL_law 530 = .ok (.iconst 2, 1) := by decide +kernel
theorem dL_law_531 : decode cL_law 531 = .ok (.iadd, 1) := by decide +kernel
theorem dL_law_532 : decode cL_law 532 = .ok (.iaload, 1) := by decide +kernel
theorem dL_law_533 : decode cL_law 533 = .ok (.invokevirtual 52, 3) := by decide +kernel
theorem dL_law_536 : decode cL_law 536 = .ok (.if_icmp .eq 813, 3) := by decide +kernel
theorem dL_law_539 : decode cL_law 539 = .ok (.iconst 0, 1) := by decide +kernel
theorem dL_law_540 : decode cL_law 540 = .ok (.ireturn, 1) := by decide +kernel
theorem dL_law_541 : decode cL_law 541 = .ok (.aload_n 1, 1) := by decide +kernel
theorem dL_law_542 : decode cL_law 542 = .ok (.aload_n 0, 1) := by decide +kernel
theorem dL_law_543 : decode cL_law 543 = .ok (.iload_n 3, 1) := by decide +kernel
theorem dL_law_544 : decode cL_law 544 = .ok (.iconst 1, 1) := by decide +kernel
theorem dL_law_545 : decode cL_law 545 = .ok (.iadd, 1) := by decide +kernel
theorem dL_law_546 : decode cL_law 546 = .ok (.iaload, 1) := by decide +kernel
theorem dL_law_547 : decode cL_law 547 = .ok (.aload_n 0, 1) := by decide +kernel
theorem dL_law_548 : decode cL_law 548 = .ok (.iload_n 3, 1) := by decide +kernel
theorem dL_law_549 : decode cL_law 549 = .ok (.iconst 2, 1) := by decide +kernel
theorem dL_law_550 : decode cL_law 550 = .ok (.iadd, 1) := by decide +kernel
theorem dL_law_551 : decode cL_law 551 = .ok (.iaload, 1) := by decide +kernel
theorem dL_law_552 : decode cL_law 552 = .ok (.invokevirtual 53, 3) := by decide +kernel
theorem dL_law_555 : decode cL_law 555 = .ok (.aload_n 2, 1) := by decide +kernel
theorem dL_law_556 : decode cL_law 556 = .ok (.aload_n 0, 1) := by decide +kernel
theorem dL_law_557 : decode cL_law 557 = .ok (.iload_n 3, 1) := by decide +kernel
theorem dL_law_558 : decode cL_law 558 = .ok (.iconst 1, 1) := by decide +kernel
theorem dL_law_559 : decode cL_law 559 = .ok (.iadd, 1) := by decide +kernel
theorem dL_law_560 : decode cL_law 560 = .ok (.iaload, 1) := by decide +kernel
theorem dL_law_561 : decode cL_law 561 = .ok (.aload_n 0, 1) := by decide +kernel
theorem dL_law_562 : decode cL_law 562 = .ok (.iload_n 3, 1) := by decide +kernel
theorem dL_law_563 : decode cL_law 563 = .ok (.iconst 2, 1) := by decide +kernel
theorem dL_law_564 : decode cL_law 564 = .ok (.iadd, 1) := by decide +kernel
theorem dL_law_565 : decode cL_law 565 = .ok (.iaload, 1) := by decide +kernel
theorem dL_law_566 : decode cL_law 566 = .ok (.invokevirtual 56, 3) := by decide +kernel
theorem dL_law_569 : decode cL_law 569 = .ok (.if_icmp .eq 780, 3) := by decide +kernel
theorem dL_law_572 : decode cL_law 572 = .ok (.iconst 0, 1) := by decide +kernel
theorem dL_law_573 : decode cL_law 573 = .ok (.ireturn, 1) := by decide +kernel
theorem dL_law_574 : decode cL_law 574 = .ok (.aload_n 1, 1) := by decide +kernel
theorem dL_law_575 : decode cL_law 575 = .ok (.aload_n 0, 1) := by decide +kernel
theorem dL_law_576 : decode cL_law 576 = .ok (.iload_n 3, 1) := by decide +kernel
theorem dL_law_577 : decode cL_law 577 = .ok (.iconst 1, 1) := by decide +kernel
theorem dL_law_578 : decode cL_law 578 = .ok (.iadd, 1) := by decide +kernel
theorem dL_law_579 : decode cL_law 579 = .ok (.iaload, 1) := by decide +kernel
theorem dL_law_580 : decode cL_law 580 = .ok (.aload_n 0, 1) := by decide +kernel
theorem dL_law_581 : decode cL_law 581 = .ok (.iload_n 3, 1) := by decide +kernel
theorem dL_law_582 : decode cL_law 582 = .ok (.iconst 2, 1) := by decide +kernel
theorem dL_law_583 : decode cL_law 583 = .ok (.iadd, 1) := by decide +kernel
theorem dL_law_584 : decode cL_law 584 = .ok (.iaload, 1) := by decide +kernel
theorem dL_law_585 : decode cL_law 585 = .ok (.ifCond .eq 7, 3) := by decide +kernel
theorem dL_law_588 : decode cL_law 588 = .ok (.iconst 1, 1) := by decide +kernel
theorem dL_law_589 : decode cL_law 589 = .ok (.goto 4, 3) := by decide +kernel
theorem dL_law_592 : decode cL_law 592 = .ok (.iconst 0, 1) := by decide +kernel
theorem dL_law_593 : decode cL_law 593 = .ok (.invokevirtual 57, 3) := by decide +kernel
theorem dL_law_596 : decode cL_law 596 = .ok (.aload_n 2, 1) := by decide +kernel
theorem dL_law_597 : decode cL_law 597 = .ok (.aload_n 0, 1) := by decide +kernel
theorem dL_law_598 : decode cL_law 598 = .ok (.iload_n 3, 1) := by decide +kernel
theorem dL_law_599 : decode cL_law 599 = .ok (.iconst 1, 1) := by decide +kernel
theorem dL_law_600 : decode cL_law 600 = .ok (.iadd, 1) := by decide +kernel
theorem dL_law_601 : decode cL_law 601 = .ok (.iaload, 1) := by decide +kernel
theorem dL_law_602 : decode cL_law 602 = .ok (.aload_n 0, 1) := by decide +kernel
theorem dL_law_603 : decode cL_law 603 = .ok (.iload_n 3, 1) := by decide +kernel
theorem dL_law_604 : decode cL_law 604 = .ok (.iconst 2, 1) := by decide +kernel
theorem dL_law_605 : decode cL_law 605 = .ok (.iadd, 1) := by decide +kernel
theorem dL_law_606 : decode cL_law 606 = .ok (.iaload, 1) := by decide +kernel
theorem dL_law_607 : decode cL_law 607 = .ok (.ifCond .eq 7, 3) := by decide +kernel
theorem dL_law_610 : decode cL_law 610 = .ok (.iconst 1, 1) := by decide +kernel
theorem dL_law_611 : decode cL_law 611 = .ok (.goto 4, 3) := by decide +kernel
theorem dL_law_614 : decode cL_law 614 = .ok (.iconst 0, 1) := by decide +kernel
theorem dL_law_615 : decode cL_law 615 = .ok (.invokevirtual 60, 3) := by decide +kernel
theorem dL_law_618 : decode cL_law 618 = .ok (.if_icmp .eq 731, 3) := by decide +kernel
theorem dL_law_621 : decode cL_law 621 = .ok (.iconst 0, 1) := by decide +kernel
theorem dL_law_622 : decode cL_law 622 = .ok (.ireturn, 1) := by decide +kernel
theorem dL_law_623 : decode cL_law 623 = .ok (.aload_n 1, 1) := by decide +kernel
theorem dL_law_624 : decode cL_law 624 = .ok (.aload_n 0, 1) := by decide +kernel
theorem dL_law_625 : decode cL_law 625 = .ok (.iload_n 3, 1) := by decide +kernel
theorem dL_law_626 : decode cL_law 626 = .ok (.iconst 1, 1) := by decide +kernel
theorem dL_law_627 : decode cL_law 627 = .ok (.iadd, 1) := by decide +kernel
theorem dL_law_628 : decode cL_law 628 = .ok (.iaload, 1) := by decide +kernel
theorem dL_law_629 : decode cL_law 629 = .ok (.aload_n 0, 1) := by decide +kernel
theorem dL_law_630 : decode cL_law 630 = .ok (.iload_n 3, 1) := by decide +kernel
theorem dL_law_631 : decode cL_law 631 = .ok (.iconst 2, 1) := by decide +kernel
theorem dL_law_632 : decode cL_law 632 = .ok (.iadd, 1) := by decide +kernel
theorem dL_law_633 : decode cL_law 633 = .ok (.iaload, 1) := by decide +kernel
theorem dL_law_634 : decode cL_law 634 = .ok (.aload_n 0, 1) := by decide +kernel
theorem dL_law_635 : decode cL_law 635 = .ok (.iload_n 3, 1) := by decide +kernel
theorem dL_law_636 : decode cL_law 636 = .ok (.iconst 3, 1) := by decide +kernel
theorem dL_law_637 : decode cL_law 637 = .ok (.iadd, 1) := by decide +kernel
theorem dL_law_638 : decode cL_law 638 = .ok (.iaload, 1) := by decide +kernel
theorem dL_law_639 : decode cL_law 639 = .ok (.invokevirtual 61, 3) := by decide +kernel
theorem dL_law_642 : decode cL_law 642 = .ok (.aload_n 2, 1) := by decide +kernel
theorem dL_law_643 : decode cL_law 643 = .ok (.aload_n 0, 1) := by decide +kernel
theorem dL_law_644 : decode cL_law 644 = .ok (.iload_n 3, 1) := by decide +kernel
theorem dL_law_645 : decode cL_law 645 = .ok (.iconst 1, 1) := by decide +kernel
theorem dL_law_646 : decode cL_law 646 = .ok (.iadd, 1) := by decide +kernel
theorem dL_law_647 : decode cL_law 647 = .ok (.iaload, 1) := by decide +kernel
theorem dL_law_648 : decode cL_law 648 = .ok (.aload_n 0, 1) := by decide +kernel
theorem dL_law_649 : decode cL_law 649 = .ok (.iload_n 3, 1) := by decide +kernel
theorem dL_law_650 : decode cL_law 650 = .ok (.iconst 2, 1) := by decide +kernel
theorem dL_law_651 : decode cL_law 651 = .ok (.iadd, 1) := by decide +kernel
theorem dL_law_652 : decode cL_law 652 = .ok (.iaload, 1) := by decide +kernel
theorem dL_law_653 : decode cL_law 653 = .ok (.aload_n 0, 1) := by decide +kernel
theorem dL_law_654 : decode cL_law 654 = .ok (.iload_n 3, 1) := by decide +kernel
theorem dL_law_655 : decode cL_law 655 = .ok (.iconst 3, 1) := by decide +kernel
theorem dL_law_656 : decode cL_law 656 = .ok (.iadd, 1) := by decide +kernel
theorem dL_law_657 : decode cL_law 657 = .ok (.iaload, 1) := by decide +kernel
theorem dL_law_658 : decode cL_law 658 = .ok (.invokevirtual 65, 3) := by decide +kernel
theorem dL_law_661 : decode cL_law 661 = .ok (.if_icmp .eq 688, 3) := by decide +kernel
theorem dL_law_664 : decode cL_law 664 = .ok (.iconst 0, 1) := by decide +kernel
theorem dL_law_665 : decode cL_law 665 = .ok (.ireturn, 1) := by decide +kernel
theorem dL_law_666 : decode cL_law 666 = .ok (.aload_n 1, 1) := by decide +kernel
theorem dL_law_667 : decode cL_law 667 = .ok (.invokevirtual 66, 3) := by decide +kernel
theorem dL_law_670 : decode cL_law 670 = .ok (.aload_n 2, 1) := by decide +kernel
theorem dL_law_671 : decode cL_law 671 = .ok (.invokevirtual 70, 3) := by decide +kernel
theorem dL_law_674 : decode cL_law 674 = .ok (.if_icmp .eq 675, 3) := by decide +kernel
theorem dL_law_677 : decode cL_law 677 = .ok (.iconst 0, 1) := by decide +kernel
theorem dL_law_678 : decode cL_law 678 = .ok (.ireturn, 1) := by decide +kernel
theorem dL_law_679 : decode cL_law 679 = .ok (.aload_n 1, 1) := by decide +kernel
theorem dL_law_680 : decode cL_law 680 = .ok (.aload_n 0, 1) := by decide +kernel
theorem dL_law_681 : decode cL_law 681 = .ok (.iload_n 3, 1) := by decide +kernel
theorem dL_law_682 : decode cL_law 682 = .ok (.iconst 1, 1) := by decide +kernel
theorem dL_law_683 : decode cL_law 683 = .ok (.iadd, 1) := by decide +kernel
theorem dL_law_684 : decode cL_law 684 = .ok (.iaload, 1) := by decide +kernel
theorem dL_law_685 : decode cL_law 685 = .ok (.invokevirtual 71, 3) := by decide +kernel
theorem dL_law_688 : decode cL_law 688 = .ok (.aload_n 2, 1) := by decide +kernel
theorem dL_law_689 : decode cL_law 689 = .ok (.aload_n 0, 1) := by decide +kernel
theorem dL_law_690 : decode cL_law 690 = .ok (.iload_n 3, 1) := by decide +kernel
theorem dL_law_691 : decode cL_law 691 = .ok (.iconst 1, 1) := by decide +kernel
theorem dL_law_692 : decode cL_law 692 = .ok (.iadd, 1) := by decide +kernel
theorem dL_law_693 : decode cL_law 693 = .ok (.iaload, 1) := by decide +kernel
theorem dL_law_694 : decode cL_law 694 = .ok (.invokevirtual 74, 3) := by decide +kernel
theorem dL_law_697 : decode cL_law 697 = .ok (.if_icmp .eq 652, 3) := by decide +kernel
theorem dL_law_700 : decode cL_law 700 = .ok (.iconst 0, 1) := by decide +kernel
theorem dL_law_701 : decode cL_law 701 = .ok (.ireturn, 1) := by decide +kernel
theorem dL_law_702 : decode cL_law 702 = .ok (.aload_n 1, 1) := by decide +kernel
theorem dL_law_703 : decode cL_law 703 = .ok (.aload_n 0, 1) := by decide +kernel
theorem dL_law_704 : decode cL_law 704 = .ok (.iload_n 3, 1) := by decide +kernel
theorem dL_law_705 : decode cL_law 705 = .ok (.iconst 1, 1) := by decide +kernel
theorem dL_law_706 : decode cL_law 706 = .ok (.iadd, 1) := by decide +kernel
theorem dL_law_707 : decode cL_law 707 = .ok (.iaload, 1) := by decide +kernel
theorem dL_law_708 : decode cL_law 708 = .ok (.invokevirtual 75, 3) := by decide +kernel
theorem dL_law_711 : decode cL_law 711 = .ok (.aload_n 2, 1) := by decide +kernel
theorem dL_law_712 : decode cL_law 712 = .ok (.aload_n 0, 1) := by decide +kernel
theorem dL_law_713 : decode cL_law 713 = .ok (.iload_n 3, 1) := by decide +kernel
theorem dL_law_714 : decode cL_law 714 = .ok (.iconst 1, 1) := by decide +kernel
theorem dL_law_715 : decode cL_law 715 = .ok (.iadd, 1) := by decide +kernel
theorem dL_law_716 : decode cL_law 716 = .ok (.iaload, 1) := by decide +kernel
theorem dL_law_717 : decode cL_law 717 = .ok (.invokevirtual 78, 3) := by decide +kernel
theorem dL_law_720 : decode cL_law 720 = .ok (.if_icmp .eq 629, 3) := by decide +kernel
theorem dL_law_723 : decode cL_law 723 = .ok (.iconst 0, 1) := by decide +kernel
theorem dL_law_724 : decode cL_law 724 = .ok (.ireturn, 1) := by decide +kernel
theorem dL_law_725 : decode cL_law 725 = .ok (.aload_n 1, 1) := by decide +kernel
theorem dL_law_726 : decode cL_law 726 = .ok (.aload_n 0, 1) := by decide +kernel
theorem dL_law_727 : decode cL_law 727 = .ok (.iload_n 3, 1) := by decide +kernel
theorem dL_law_728 : decode cL_law 728 = .ok (.iconst 1, 1) := by decide +kernel
theorem dL_law_729 : decode cL_law 729 = .ok (.iadd, 1) := by decide +kernel
theorem dL_law_730 : decode cL_law 730 = .ok (.iaload, 1) := by decide +kernel
theorem dL_law_731 : decode cL_law 731 = .ok (.aload_n 0, 1) := by decide +kernel
theorem dL_law_732 : decode cL_law 732 = .ok (.iload_n 3, 1) := by decide +kernel
theorem dL_law_733 : decode cL_law 733 = .ok (.iconst 2, 1) := by decide +kernel
theorem dL_law_734 : decode cL_law 734 = .ok (.iadd, 1) := by decide +kernel
theorem dL_law_735 : decode cL_law 735 = .ok (.iaload, 1) := by decide +kernel
theorem dL_law_736 : decode cL_law 736 = .ok (.invokevirtual 79, 3) := by decide +kernel
theorem dL_law_739 : decode cL_law 739 = .ok (.aload_n 2, 1) := by decide +kernel
theorem dL_law_740 : decode cL_law 740 = .ok (.aload_n 0, 1) := by decide +kernel
theorem dL_law_741 : decode cL_law 741 = .ok (.iload_n 3, 1) := by decide +kernel
theorem dL_law_742 : decode cL_law 742 = .ok (.iconst 1, 1) := by decide +kernel
theorem dL_law_743 : decode cL_law 743 = .ok (.iadd, 1) := by decide +kernel
theorem dL_law_744 : decode cL_law 744 = .ok (.iaload, 1) := by decide +kernel
theorem dL_law_745 : decode cL_law 745 = .ok (.aload_n 0, 1) := by decide +kernel
theorem dL_law_746 : decode cL_law 746 = .ok (.iload_n 3, 1) := by decide +kernel
theorem dL_law_747 : decode cL_law 747 = .ok (.iconst 2, 1) := by decide +kernel
theorem dL_law_748 : decode cL_law 748 = .ok (.iadd, 1) := by decide +kernel
theorem dL_law_749 : decode cL_law 749 = .ok (.iaload, 1) := by decide +kernel
theorem dL_law_750 : decode cL_law 750 = .ok (.invokevirtual 82, 3) := by decide +kernel
theorem dL_law_753 : decode cL_law 753 = .ok (.if_icmp .eq 596, 3) := by decide +kernel
theorem dL_law_756 : decode cL_law 756 = .ok (.iconst 0, 1) := by decide +kernel
theorem dL_law_757 : decode cL_law 757 = .ok (.ireturn, 1) := by decide +kernel
theorem dL_law_758 : decode cL_law 758 = .ok (.aload_n 1, 1) := by decide +kernel
theorem dL_law_759 : decode cL_law 759 = .ok (.aload_n 0, 1) := by decide +kernel
theorem dL_law_760 : decode cL_law 760 = .ok (.iload_n 3, 1) := by decide +kernel
theorem dL_law_761 : decode cL_law 761 = .ok (.iconst 1, 1) := by decide +kernel
theorem dL_law_762 : decode cL_law 762 = .ok (.iadd, 1) := by decide +kernel
theorem dL_law_763 : decode cL_law 763 = .ok (.iaload, 1) := by decide +kernel
theorem dL_law_764 : decode cL_law 764 = .ok (.invokevirtual 83, 3) := by decide +kernel
theorem dL_law_767 : decode cL_law 767 = .ok (.aload_n 2, 1) := by decide +kernel
theorem dL_law_768 : decode cL_law 768 = .ok (.aload_n 0, 1) := by decide +kernel
theorem dL_law_769 : decode cL_law 769 = .ok (.iload_n 3, 1) := by decide +kernel
theorem dL_law_770 : decode cL_law 770 = .ok (.iconst 1, 1) := by decide +kernel
theorem dL_law_771 : decode cL_law 771 = .ok (.iadd, 1) := by decide +kernel
theorem dL_law_772 : decode cL_law 772 = .ok (.iaload, 1) := by decide +kernel
theorem dL_law_773 : decode cL_law 773 = .ok (.invokevirtual 86, 3) := by decide +kernel
theorem dL_law_776 : decode cL_law 776 = .ok (.if_icmp .eq 573, 3) := by decide +kernel
theorem dL_law_779 : decode cL_law 779 = .ok (.iconst 0, 1) := by decide +kernel
theorem dL_law_780 : decode cL_law 780 = .ok (.ireturn, 1) := by decide +kernel
theorem dL_law_781 : decode cL_law 781 = .ok (.aload_n 1, 1) := by decide +kernel
theorem dL_law_782 : decode cL_law 782 = .ok (.aload_n 0, 1) := by decide +kernel
theorem dL_law_783 : decode cL_law 783 = .ok (.iload_n 3, 1) := by decide +kernel
theorem dL_law_784 : decode cL_law 784 = .ok (.iconst 1, 1) := by decide +kernel
theorem dL_law_785 : decode cL_law 785 = .ok (.iadd, 1) := by decide +kernel
theorem dL_law_786 : decode cL_law 786 = .ok (.iaload, 1) := by decide +kernel
theorem dL_law_787 : decode cL_law 787 = .ok (.invokevirtual 87, 3) := by decide +kernel
theorem dL_law_790 : decode cL_law 790 = .ok (.aload_n 2, 1) := by decide +kernel
theorem dL_law_791 : decode cL_law 791 = .ok (.aload_n 0, 1) := by decide +kernel
theorem dL_law_792 : decode cL_law 792 = .ok (.iload_n 3, 1) := by decide +kernel
theorem dL_law_793 : decode cL_law 793 = .ok (.iconst 1, 1) := by decide +kernel
theorem dL_law_794 : decode cL_law 794 = .ok (.iadd, 1) := by decide +kernel
theorem dL_law_795 : decode cL_law 795 = .ok (.iaload, 1) := by decide +kernel
theorem dL_law_796 : decode cL_law 796 = .ok (.invokevirtual 90, 3) := by decide +kernel
theorem dL_law_799 : decode cL_law 799 = .ok (.if_icmp .eq 550, 3) := by decide +kernel
theorem dL_law_802 : decode cL_law 802 = .ok (.iconst 0, 1) := by decide +kernel
theorem dL_law_803 : decode cL_law 803 = .ok (.ireturn, 1) := by decide +kernel
theorem dL_law_804 : decode cL_law 804 = .ok (.aload_n 1, 1) := by decide +kernel
theorem dL_law_805 : decode cL_law 805 = .ok (.aload_n 0, 1) := by decide +kernel
theorem dL_law_806 : decode cL_law 806 = .ok (.iload_n 3, 1) := by decide +kernel
theorem dL_law_807 : decode cL_law 807 = .ok (.iconst 1, 1) := by decide +kernel
theorem dL_law_808 : decode cL_law 808 = .ok (.iadd, 1) := by decide +kernel
theorem dL_law_809 : decode cL_law 809 = .ok (.iaload, 1) := by decide +kernel
theorem dL_law_810 : decode cL_law 810 = .ok (.invokevirtual 91, 3) := by decide +kernel
theorem dL_law_813 : decode cL_law 813 = .ok (.aload_n 2, 1) := by decide +kernel
theorem dL_law_814 : decode cL_law 814 = .ok (.aload_n 0, 1) := by decide +kernel
theorem dL_law_815 : decode cL_law 815 = .ok (.iload_n 3, 1) := by decide +kernel
theorem dL_law_816 : decode cL_law 816 = .ok (.iconst 1, 1) := by decide +kernel
theorem dL_law_817 : decode cL_law 817 = .ok (.iadd, 1) := by decide +kernel
theorem dL_law_818 : decode cL_law 818 = .ok (.iaload, 1) := by decide +kernel
theorem dL_law_819 : decode cL_law 819 = .ok (.invokevirtual 94, 3) := by decide +kernel
theorem dL_law_822 : decode cL_law 822 = .ok (.if_icmp .eq 527, 3) := by decide +kernel
theorem dL_law_825 : decode cL_law 825 = .ok (.iconst 0, 1) := by decide +kernel
theorem dL_law_826 : decode cL_law 826 = .ok (.ireturn, 1) := by decide +kernel
theorem dL_law_827 : decode cL_law 827 = .ok (.aload_n 1, 1) := by decide +kernel
theorem dL_law_828 : decode cL_law 828 = .ok (.invokevirtual 95, 3) := by decide +kernel
theorem dL_law_831 : decode cL_law 831 = .ok (.aload_n 2, 1) := by decide +kernel
theorem dL_law_832 : decode cL_law 832 = .ok (.invokevirtual 98, 3) := by decide +kernel
theorem dL_law_835 : decode cL_law 835 = .ok (.if_icmp .eq 514, 3) := by decide +kernel
theorem dL_law_838 : decode cL_law 838 = .ok (.iconst 0, 1) := by decide +kernel
theorem dL_law_839 : decode cL_law 839 = .ok (.ireturn, 1) := by decide +kernel
theorem dL_law_840 : decode cL_law 840 = .ok (.aload_n 1, 1) := by decide +kernel
theorem dL_law_841 : decode cL_law 841 = .ok (.invokevirtual 99, 3) := by decide +kernel
theorem dL_law_844 : decode cL_law 844 = .ok (.aload_n 2, 1) := by decide +kernel
theorem dL_law_845 : decode cL_law 845 = .ok (.invokevirtual 103, 3) := by decide +kernel
theorem dL_law_848 : decode cL_law 848 = .ok (.lcmp, 1) := by decide +kernel
theorem dL_law_849 : decode cL_law 849 = .ok (.ifCond .eq 500, 3) := by decide +kernel
theorem dL_law_852 : decode cL_law 852 = .ok (.iconst 0, 1) := by decide +kernel
theorem dL_law_853 : decode cL_law 853 = .ok (.ireturn, 1) := by decide +kernel
theorem dL_law_854 : decode cL_law 854 = .ok (.aload_n 1, 1) := by decide +kernel
theorem dL_law_855 : decode cL_law 855 = .ok (.aload_n 0, 1) := by decide +kernel
theorem dL_law_856 : decode cL_law 856 = .ok (.iload_n 3, 1) := by decide +kernel
theorem dL_law_857 : decode cL_law 857 = .ok (.iconst 1, 1) := by decide +kernel
theorem dL_law_858 : decode cL_law 858 = .ok (.iadd, 1) := by decide +kernel
theorem dL_law_859 : decode cL_law 859 = .ok (.iaload, 1) := by decide +kernel
theorem dL_law_860 : decode cL_law 860 = .ok (.invokevirtual 104, 3) := by decide +kernel
theorem dL_law_863 : decode cL_law 863 = .ok (.aload_n 2, 1) := by decide +kernel
theorem dL_law_864 : decode cL_law 864 = .ok (.aload_n 0, 1) := by decide +kernel
theorem dL_law_865 : decode cL_law 865 = .ok (.iload_n 3, 1) := by decide +kernel
theorem dL_law_866 : decode cL_law 866 = .ok (.iconst 1, 1) := by decide +kernel
theorem dL_law_867 : decode cL_law 867 = .ok (.iadd, 1) := by decide +kernel
theorem dL_law_868 : decode cL_law 868 = .ok (.iaload, 1) := by decide +kernel
theorem dL_law_869 : decode cL_law 869 = .ok (.invokevirtual 107, 3) := by decide +kernel
theorem dL_law_872 : decode cL_law 872 = .ok (.if_icmp .eq 477, 3) := by decide +kernel
theorem dL_law_875 : decode cL_law 875 = .ok (.iconst 0, 1) := by decide +kernel
theorem dL_law_876 : decode cL_law 876 = .ok (.ireturn, 1) := by decide +kernel
theorem dL_law_877 : decode cL_law 877 = .ok (.aload_n 1, 1) := by decide +kernel
theorem dL_law_878 : decode cL_law 878 = .ok (.aload_n 0, 1) := by decide +kernel
theorem dL_law_879 : decode cL_law 879 = .ok (.iload_n 3, 1) := by decide +kernel
theorem dL_law_880 : decode cL_law 880 = .ok (.iconst 1, 1) := by decide +kernel
theorem dL_law_881 : decode cL_law 881 = .ok (.iadd, 1) := by decide +kernel
theorem dL_law_882 : decode cL_law 882 = .ok (.iaload, 1) := by decide +kernel
theorem dL_law_883 : decode cL_law 883 = .ok (.aload_n 0, 1) := by decide +kernel
theorem dL_law_884 : decode cL_law 884 = .ok (.iload_n 3, 1) := by decide +kernel
theorem dL_law_885 : decode cL_law 885 = .ok (.iconst 2, 1) := by decide +kernel
theorem dL_law_886 : decode cL_law 886 = .ok (.iadd, 1) := by decide +kernel
theorem dL_law_887 : decode cL_law 887 = .ok (.iaload, 1) := by decide +kernel
theorem dL_law_888 : decode cL_law 888 = .ok (.invokevirtual 108, 3) := by decide +kernel
theorem dL_law_891 : decode cL_law 891 = .ok (.aload_n 2, 1) := by decide +kernel
theorem dL_law_892 : decode cL_law 892 = .ok (.aload_n 0, 1) := by decide +kernel
theorem dL_law_893 : decode cL_law 893 = .ok (.iload_n 3, 1) := by decide +kernel
theorem dL_law_894 : decode cL_law 894 = .ok (.iconst 1, 1) := by decide +kernel
theorem dL_law_895 : decode cL_law 895 = .ok (.iadd, 1) := by decide +kernel
theorem dL_law_896 : decode cL_law 896 = .ok (.iaload, 1) := by decide +kernel
theorem dL_law_897 : decode cL_law 897 = .ok (.aload_n 0, 1) := by decide +kernel
theorem dL_law_898 : decode cL_law 898 = .ok (.iload_n 3, 1) := by decide +kernel
theorem dL_law_899 : decode cL_law 899 = .ok (.iconst 2, 1) := by decide +kernel
theorem dL_law_900 : decode cL_law 900 = .ok (.iadd, 1) := by decide +kernel
theorem dL_law_901 : decode cL_law 901 = .ok (.iaload, 1) := by decide +kernel
theorem dL_law_902 : decode cL_law 902 = .ok (.invokevirtual 111, 3) := by decide +kernel
theorem dL_law_905 : decode cL_law 905 = .ok (.if_icmp .eq 444, 3) := by decide +kernel
theorem dL_law_908 : decode cL_law 908 = .ok (.iconst 0, 1) := by decide +kernel
theorem dL_law_909 : decode cL_law 909 = .ok (.ireturn, 1) := by decide +kernel
theorem dL_law_910 : decode cL_law 910 = .ok (.aload_n 1, 1) := by decide +kernel
theorem dL_law_911 : decode cL_law 911 = .ok (.invokevirtual 112, 3) := by decide +kernel
theorem dL_law_914 : decode cL_law 914 = .ok (.aload_n 2, 1) := by decide +kernel
theorem dL_law_915 : decode cL_law 915 = .ok (.invokevirtual 115, 3) := by decide +kernel
theorem dL_law_918 : decode cL_law 918 = .ok (.if_icmp .eq 431, 3) := by decide +kernel
theorem dL_law_921 : decode cL_law 921 = .ok (.iconst 0, 1) := by decide +kernel
theorem dL_law_922 : decode cL_law 922 = .ok (.ireturn, 1) := by decide +kernel
theorem dL_law_923 : decode cL_law 923 = .ok (.aload_n 1, 1) := by decide +kernel
theorem dL_law_924 : decode cL_law 924 = .ok (.aload_n 0, 1) := by decide +kernel
theorem dL_law_925 : decode cL_law 925 = .ok (.iload_n 3, 1) := by decide +kernel
theorem dL_law_926 : decode cL_law 926 = .ok (.iconst 1, 1) := by decide +kernel
theorem dL_law_927 : decode cL_law 927 = .ok (.iadd, 1) := by decide +kernel
theorem dL_law_928 : decode cL_law 928 = .ok (.iaload, 1) := by decide +kernel
theorem dL_law_929 : decode cL_law 929 = .ok (.aload_n 0, 1) := by decide +kernel
theorem dL_law_930 : decode cL_law 930 = .ok (.iload_n 3, 1) := by decide +kernel
theorem dL_law_931 : decode cL_law 931 = .ok (.iconst 2, 1) := by decide +kernel
theorem dL_law_932 : decode cL_law 932 = .ok (.iadd, 1) := by decide +kernel
theorem dL_law_933 : decode cL_law 933 = .ok (.iaload, 1) := by decide +kernel
theorem dL_law_934 : decode cL_law 934 = .ok (.aload_n 0, 1) := by decide +kernel
theorem dL_law_935 : decode cL_law 935 = .ok (.iload_n 3, 1) := by decide +kernel
theorem dL_law_936 : decode cL_law 936 = .ok (.iconst 3, 1) := by decide +kernel
theorem dL_law_937 : decode cL_law 937 = .ok (.iadd, 1) := by decide +kernel
theorem dL_law_938 : decode cL_law 938 = .ok (.iaload, 1) := by decide +kernel
theorem dL_law_939 : decode cL_law 939 = .ok (.invokevirtual 116, 3) := by decide +kernel
theorem dL_law_942 : decode cL_law 942 = .ok (.aload_n 2, 1) := by decide +kernel
theorem dL_law_943 : decode cL_law 943 = .ok (.aload_n 0, 1) := by decide +kernel
theorem dL_law_944 : decode cL_law 944 = .ok (.iload_n 3, 1) := by decide +kernel
theorem dL_law_945 : decode cL_law 945 = .ok (.iconst 1, 1) := by decide +kernel
theorem dL_law_946 : decode cL_law 946 = .ok (.iadd, 1) := by decide +kernel
theorem dL_law_947 : decode cL_law 947 = .ok (.iaload, 1) := by decide +kernel
theorem dL_law_948 : decode cL_law 948 = .ok (.aload_n 0, 1) := by decide +kernel
theorem dL_law_949 : decode cL_law 949 = .ok (.iload_n 3, 1) := by decide +kernel
theorem dL_law_950 : decode cL_law 950 = .ok (.iconst 2, 1) := by decide +kernel
theorem dL_law_951 : decode cL_law 951 = .ok (.iadd, 1) := by decide +kernel
theorem dL_law_952 : decode cL_law 952 = .ok (.iaload, 1) := by decide +kernel
theorem dL_law_953 : decode cL_law 953 = .ok (.aload_n 0, 1) := by decide +kernel
theorem dL_law_954 : decode cL_law 954 = .ok (.iload_n 3, 1) := by decide +kernel
theorem dL_law_955 : decode cL_law 955 = .ok (.iconst 3, 1) := by decide +kernel
theorem dL_law_956 : decode cL_law 956 = .ok (.iadd, 1) := by decide +kernel
theorem dL_law_957 : decode cL_law 957 = .ok (.iaload, 1) := by decide +kernel
theorem dL_law_958 : decode cL_law 958 = .ok (.invokevirtual 119, 3) := by decide +kernel
theorem dL_law_961 : decode cL_law 961 = .ok (.if_icmp .eq 388, 3) := by decide +kernel
theorem dL_law_964 : decode cL_law 964 = .ok (.iconst 0, 1) := by decide +kernel
theorem dL_law_965 : decode cL_law 965 = .ok (.ireturn, 1) := by decide +kernel
theorem dL_law_966 : decode cL_law 966 = .ok (.aload_n 1, 1) := by decide +kernel
theorem dL_law_967 : decode cL_law 967 = .ok (.invokevirtual 120, 3) := by decide +kernel
theorem dL_law_970 : decode cL_law 970 = .ok (.aload_n 2, 1) := by decide +kernel
theorem dL_law_971 : decode cL_law 971 = .ok (.invokevirtual 123, 3) := by decide +kernel
theorem dL_law_974 : decode cL_law 974 = .ok (.if_icmp .eq 375, 3) := by decide +kernel
theorem dL_law_977 : decode cL_law 977 = .ok (.iconst 0, 1) := by decide +kernel
theorem dL_law_978 : decode cL_law 978 = .ok (.ireturn, 1) := by decide +kernel
theorem dL_law_979 : decode cL_law 979 = .ok (.aload_n 1, 1) := by decide +kernel
theorem dL_law_980 : decode cL_law 980 = .ok (.invokevirtual 124, 3) := by decide +kernel
theorem dL_law_983 : decode cL_law 983 = .ok (.aload_n 2, 1) := by decide +kernel
theorem dL_law_984 : decode cL_law 984 = .ok (.invokevirtual 127, 3) := by decide +kernel
theorem dL_law_987 : decode cL_law 987 = .ok (.if_icmp .eq 362, 3) := by decide +kernel
theorem dL_law_990 : decode cL_law 990 = .ok (.iconst 0, 1) := by decide +kernel
theorem dL_law_991 : decode cL_law 991 = .ok (.ireturn, 1) := by decide +kernel
theorem dL_law_992 : decode cL_law 992 = .ok (.aload_n 1, 1) := by decide +kernel
theorem dL_law_993 : decode cL_law 993 = .ok (.aload_n 0, 1) := by decide +kernel
theorem dL_law_994 : decode cL_law 994 = .ok (.iload_n 3, 1) := by decide +kernel
theorem dL_law_995 : decode cL_law 995 = .ok (.iconst 1, 1) := by decide +kernel
theorem dL_law_996 : decode cL_law 996 = .ok (.iadd, 1) := by decide +kernel
theorem dL_law_997 : decode cL_law 997 = .ok (.iaload, 1) := by decide +kernel
theorem dL_law_998 : decode cL_law 998 = .ok (.invokevirtual 128, 3) := by decide +kernel
theorem dL_law_1001 : decode cL_law 1001 = .ok (.aload_n 2, 1) := by decide +kernel
theorem dL_law_1002 : decode cL_law 1002 = .ok (.aload_n 0, 1) := by decide +kernel
theorem dL_law_1003 : decode cL_law 1003 = .ok (.iload_n 3, 1) := by decide +kernel
theorem dL_law_1004 : decode cL_law 1004 = .ok (.iconst 1, 1) := by decide +kernel
theorem dL_law_1005 : decode cL_law 1005 = .ok (.iadd, 1) := by decide +kernel
theorem dL_law_1006 : decode cL_law 1006 = .ok (.iaload, 1) := by decide +kernel
theorem dL_law_1007 : decode cL_law 1007 = .ok (.invokevirtual 131, 3) := by decide +kernel
theorem dL_law_1010 : decode cL_law 1010 = .ok (.if_icmp .eq 339, 3) := by decide +kernel
theorem dL_law_1013 : decode cL_law 1013 = .ok (.iconst 0, 1) := by decide +kernel
theorem dL_law_1014 : decode cL_law 1014 = .ok (.ireturn, 1) := by decide +kernel
theorem dL_law_1015 : decode cL_law 1015 = .ok (.aload_n 1, 1) := by decide +kernel
theorem dL_law_1016 : decode cL_law 1016 = .ok (.aload_n 0, 1) := by decide +kernel
theorem dL_law_1017 : decode cL_law 1017 = .ok (.iload_n 3, 1) := by decide +kernel
theorem dL_law_1018 : decode cL_law 1018 = .ok (.iconst 1, 1) := by decide +kernel
theorem dL_law_1019 : decode cL_law 1019 = .ok (.iadd, 1) := by decide +kernel
theorem dL_law_1020 : decode cL_law 1020 = .ok (.iaload, 1) := by decide +kernel
theorem dL_law_1021 : decode cL_law 1021 = .ok (.invokevirtual 132, 3) := by decide +kernel
theorem dL_law_1024 : decode cL_law 1024 = .ok (.aload_n 2, 1) := by decide +kernel
theorem dL_law_1025 : decode cL_law 1025 = .ok (.aload_n 0, 1) := by decide +kernel
theorem dL_law_1026 : decode cL_law 1026 = .ok (.iload_n 3, 1) := by decide +kernel
theorem dL_law_1027 : decode cL_law 1027 = .ok (.iconst 1, 1) := by decide +kernel
theorem dL_law_1028 : decode cL_law 1028 = .ok (.iadd, 1) := by decide +kernel
theorem dL_law_1029 : decode cL_law 1029 = .ok (.iaload, 1) := by decide +kernel
theorem dL_law_1030 : decode cL_law 1030 = .ok (.invokevirtual 135, 3) := by decide +kernel
theorem dL_law_1033 : decode cL_law 1033 = .ok (.if_icmp .eq 316, 3) := by decide +kernel
theorem dL_law_1036 : decode cL_law 1036 = .ok (.iconst 0, 1) := by decide +kernel
theorem dL_law_1037 : decode cL_law 1037 = .ok (.ireturn, 1) := by decide +kernel
theorem dL_law_1038 : decode cL_law 1038 = .ok (.aload_n 1, 1) := by decide +kernel
theorem dL_law_1039 : decode cL_law 1039 = .ok (.invokevirtual 136, 3) := by decide +kernel
theorem dL_law_1042 : decode cL_law 1042 = .ok (.aload_n 2, 1) := by decide +kernel
theorem dL_law_1043 : decode cL_law 1043 = .ok (.invokevirtual 139, 3) := by decide +kernel
theorem dL_law_1046 : decode cL_law 1046 = .ok (.if_icmp .eq 303, 3) := by decide +kernel
theorem dL_law_1049 : decode cL_law 1049 = .ok (.iconst 0, 1) := by decide +kernel
theorem dL_law_1050 : decode cL_law 1050 = .ok (.ireturn, 1) := by decide +kernel
theorem dL_law_1051 : decode cL_law 1051 = .ok (.aload_n 1, 1) := by decide +kernel
theorem dL_law_1052 : decode cL_law 1052 = .ok (.invokevirtual 140, 3) := by decide +kernel
theorem dL_law_1055 : decode cL_law 1055 = .ok (.aload_n 2, 1) := by decide +kernel
theorem dL_law_1056 : decode cL_law 1056 = .ok (.invokevirtual 143, 3) := by decide +kernel
theorem dL_law_1059 : decode cL_law 1059 = .ok (.if_icmp .eq 290, 3) := by decide +kernel
theorem dL_law_1062 : decode cL_law 1062 = .ok (.iconst 0, 1) := by decide +kernel
theorem dL_law_1063 : decode cL_law 1063 = .ok (.ireturn, 1) := by decide +kernel
theorem dL_law_1064 : decode cL_law 1064 = .ok (.aload_n 1, 1) := by decide +kernel
theorem dL_law_1065 : decode cL_law 1065 = .ok (.aload_n 0, 1) := by decide +kernel
theorem dL_law_1066 : decode cL_law 1066 = .ok (.iload_n 3, 1) := by decide +kernel
theorem dL_law_1067 : decode cL_law 1067 = .ok (.iconst 1, 1) := by decide +kernel
theorem dL_law_1068 : decode cL_law 1068 = .ok (.iadd, 1) := by decide +kernel
theorem dL_law_1069 : decode cL_law 1069 = .ok (.iaload, 1) := by decide +kernel
theorem dL_law_1070 : decode cL_law 1070 = .ok (.ifCond .eq 7, 3) := by decide +kernel
theorem dL_law_1073 : decode cL_law 1073 = .ok (.iconst 1, 1) := by decide +kernel
theorem dL_law_1074 : decode cL_law 1074 = .ok (.goto 4, 3) := by decide +kernel
theorem dL_law_1077 : decode cL_law 1077 = .ok (.iconst 0, 1) := by decide +kernel
theorem dL_law_1078 : decode cL_law 1078 = .ok (.invokevirtual 144, 3) := by decide +kernel
theorem dL_law_1081 : decode cL_law 1081 = .ok (.aload_n 2, 1) := by decide +kernel
theorem dL_law_1082 : decode cL_law 1082 = .ok (.aload_n 0, 1) := by decide +kernel
theorem dL_law_1083 : decode cL_law 1083 = .ok (.iload_n 3, 1) := by decide +kernel
theorem dL_law_1084 : decode cL_law 1084 = .ok (.iconst 1, 1) := by decide +kernel
theorem dL_law_1085 : decode cL_law 1085 = .ok (.iadd, 1) := by decide +kernel
theorem dL_law_1086 : decode cL_law 1086 = .ok (.iaload, 1) := by decide +kernel
theorem dL_law_1087 : decode cL_law 1087 = .ok (.ifCond .eq 7, 3) := by decide +kernel
theorem dL_law_1090 : decode cL_law 1090 = .ok (.iconst 1, 1) := by decide +kernel
theorem dL_law_1091 : decode cL_law 1091 = .ok (.goto 4, 3) := by decide +kernel
theorem dL_law_1094 : decode cL_law 1094 = .ok (.iconst 0, 1) := by decide +kernel
theorem dL_law_1095 : decode cL_law 1095 = .ok (.invokevirtual 148, 3) := by decide +kernel
theorem dL_law_1098 : decode cL_law 1098 = .ok (.if_icmp .eq 251, 3) := by decide +kernel
theorem dL_law_1101 : decode cL_law 1101 = .ok (.iconst 0, 1) := by decide +kernel
theorem dL_law_1102 : decode cL_law 1102 = .ok (.ireturn, 1) := by decide +kernel
theorem dL_law_1103 : decode cL_law 1103 = .ok (.aload_n 1, 1) := by decide +kernel
theorem dL_law_1104 : decode cL_law 1104 = .ok (.aload_n 0, 1) := by decide +kernel
theorem dL_law_1105 : decode cL_law 1105 = .ok (.iload_n 3, 1) := by decide +kernel
theorem dL_law_1106 : decode cL_law 1106 = .ok (.iconst 1, 1) := by decide +kernel
theorem dL_law_1107 : decode cL_law 1107 = .ok (.iadd, 1) := by decide +kernel
theorem dL_law_1108 : decode cL_law 1108 = .ok (.iaload, 1) := by decide +kernel
theorem dL_law_1109 : decode cL_law 1109 = .ok (.ifCond .eq 7, 3) := by decide +kernel
theorem dL_law_1112 : decode cL_law 1112 = .ok (.iconst 1, 1) := by decide +kernel
theorem dL_law_1113 : decode cL_law 1113 = .ok (.goto 4, 3) := by decide +kernel
theorem dL_law_1116 : decode cL_law 1116 = .ok (.iconst 0, 1) := by decide +kernel
theorem dL_law_1117 : decode cL_law 1117 = .ok (.invokevirtual 149, 3) := by decide +kernel
theorem dL_law_1120 : decode cL_law 1120 = .ok (.aload_n 2, 1) := by decide +kernel
theorem dL_law_1121 : decode cL_law 1121 = .ok (.aload_n 0, 1) := by decide +kernel
theorem dL_law_1122 : decode cL_law 1122 = .ok (.iload_n 3, 1) := by decide +kernel
theorem dL_law_1123 : decode cL_law 1123 = .ok (.iconst 1, 1) := by decide +kernel
theorem dL_law_1124 : decode cL_law 1124 = .ok (.iadd, 1) := by decide +kernel
theorem dL_law_1125 : decode cL_law 1125 = .ok (.iaload, 1) := by decide +kernel
theorem dL_law_1126 : decode cL_law 1126 = .ok (.ifCond .eq 7, 3) := by decide +kernel
theorem dL_law_1129 : decode cL_law 1129 = .ok (.iconst 1, 1) := by decide +kernel
theorem dL_law_1130 : decode cL_law 1130 = .ok (.goto 4, 3) := by decide +kernel
theorem dL_law_1133 : decode cL_law 1133 = .ok (.iconst 0, 1) := by decide +kernel
theorem dL_law_1134 : decode cL_law 1134 = .ok (.invokevirtual 152, 3) := by decide +kernel
theorem dL_law_1137 : decode cL_law 1137 = .ok (.if_icmp .eq 212, 3) := by decide +kernel
theorem dL_law_1140 : decode cL_law 1140 = .ok (.iconst 0, 1) := by decide +kernel
theorem dL_law_1141 : decode cL_law 1141 = .ok (.ireturn, 1) := by decide +kernel
theorem dL_law_1142 : decode cL_law 1142 = .ok (.aload_n 1, 1) := by decide +kernel
theorem dL_law_1143 : decode cL_law 1143 = .ok (.aload_n 0, 1) := by decide +kernel
theorem dL_law_1144 : decode cL_law 1144 = .ok (.iload_n 3, 1) := by decide +kernel
theorem dL_law_1145 : decode cL_law 1145 = .ok (.iconst 1, 1) := by decide +kernel
theorem dL_law_1146 : decode cL_law 1146 = .ok (.iadd, 1) := by decide +kernel
theorem dL_law_1147 : decode cL_law 1147 = .ok (.iaload, 1) := by decide +kernel
theorem dL_law_1148 : decode cL_law 1148 = .ok (.ifCond .eq 7, 3) := by decide +kernel
theorem dL_law_1151 : decode cL_law 1151 = .ok (.iconst 1, 1) := by decide +kernel
theorem dL_law_1152 : decode cL_law 1152 = .ok (.goto 4, 3) := by decide +kernel
theorem dL_law_1155 : decode cL_law 1155 = .ok (.iconst 0, 1) := by decide +kernel
theorem dL_law_1156 : decode cL_law 1156 = .ok (.invokevirtual 153, 3) := by decide +kernel
theorem dL_law_1159 : decode cL_law 1159 = .ok (.aload_n 2, 1) := by decide +kernel
theorem dL_law_1160 : decode cL_law 1160 = .ok (.aload_n 0, 1) := by decide +kernel
theorem dL_law_1161 : decode cL_law 1161 = .ok (.iload_n 3, 1) := by decide +kernel
theorem dL_law_1162 : decode cL_law 1162 = .ok (.iconst 1, 1) := by decide +kernel
theorem dL_law_1163 : decode cL_law 1163 = .ok (.iadd, 1) := by decide +kernel
theorem dL_law_1164 : decode cL_law 1164 = .ok (.iaload, 1) := by decide +kernel
theorem dL_law_1165 : decode cL_law 1165 = .ok (.ifCond .eq 7, 3) := by decide +kernel
theorem dL_law_1168 : decode cL_law 1168 = .ok (.iconst 1, 1) := by decide +kernel
theorem dL_law_1169 : decode cL_law 1169 = .ok (.goto 4, 3) := by decide +kernel
theorem dL_law_1172 : decode cL_law 1172 = .ok (.iconst 0, 1) := by decide +kernel
theorem dL_law_1173 : decode cL_law 1173 = .ok (.invokevirtual 157, 3) := by decide +kernel
theorem dL_law_1176 : decode cL_law 1176 = .ok (.lcmp, 1) := by decide +kernel
theorem dL_law_1177 : decode cL_law 1177 = .ok (.ifCond .eq 172, 3) := by decide +kernel
theorem dL_law_1180 : decode cL_law 1180 = .ok (.iconst 0, 1) := by decide +kernel
theorem dL_law_1181 : decode cL_law 1181 = .ok (.ireturn, 1) := by decide +kernel
theorem dL_law_1182 : decode cL_law 1182 = .ok (.aload_n 1, 1) := by decide +kernel
theorem dL_law_1183 : decode cL_law 1183 = .ok (.aload_n 0, 1) := by decide +kernel
theorem dL_law_1184 : decode cL_law 1184 = .ok (.iload_n 3, 1) := by decide +kernel
theorem dL_law_1185 : decode cL_law 1185 = .ok (.iconst 1, 1) := by decide +kernel
theorem dL_law_1186 : decode cL_law 1186 = .ok (.iadd, 1) := by decide +kernel
theorem dL_law_1187 : decode cL_law 1187 = .ok (.iaload, 1) := by decide +kernel
theorem dL_law_1188 : decode cL_law 1188 = .ok (.ifCond .eq 7, 3) := by decide +kernel
theorem dL_law_1191 : decode cL_law 1191 = .ok (.iconst 1, 1) := by decide +kernel
theorem dL_law_1192 : decode cL_law 1192 = .ok (.goto 4, 3) := by decide +kernel
theorem dL_law_1195 : decode cL_law 1195 = .ok (.iconst 0, 1) := by decide +kernel
theorem dL_law_1196 : decode cL_law 1196 = .ok (.aload_n 0, 1) := by decide +kernel
theorem dL_law_1197 : decode cL_law 1197 = .ok (.iload_n 3, 1) := by decide +kernel
theorem dL_law_1198 : decode cL_law 1198 = .ok (.iconst 2, 1) := by decide +kernel
theorem dL_law_1199 : decode cL_law 1199 = .ok (.iadd, 1) := by decide +kernel
theorem dL_law_1200 : decode cL_law 1200 = .ok (.iaload, 1) := by decide +kernel
theorem dL_law_1201 : decode cL_law 1201 = .ok (.invokevirtual 158, 3) := by decide +kernel
theorem dL_law_1204 : decode cL_law 1204 = .ok (.aload_n 2, 1) := by decide +kernel
theorem dL_law_1205 : decode cL_law 1205 = .ok (.aload_n 0, 1) := by decide +kernel
theorem dL_law_1206 : decode cL_law 1206 = .ok (.iload_n 3, 1) := by decide +kernel
theorem dL_law_1207 : decode cL_law 1207 = .ok (.iconst 1, 1) := by decide +kernel
theorem dL_law_1208 : decode cL_law 1208 = .ok (.iadd, 1) := by decide +kernel
theorem dL_law_1209 : decode cL_law 1209 = .ok (.iaload, 1) := by decide +kernel
theorem dL_law_1210 : decode cL_law 1210 = .ok (.ifCond .eq 7, 3) := by decide +kernel
theorem dL_law_1213 : decode cL_law 1213 = .ok (.iconst 1, 1) := by decide +kernel
theorem dL_law_1214 : decode cL_law 1214 = .ok (.goto 4, 3) := by decide +kernel
theorem dL_law_1217 : decode cL_law 1217 = .ok (.iconst 0, 1) := by decide +kernel
theorem dL_law_1218 : decode cL_law 1218 = .ok (.aload_n 0, 1) := by decide +kernel
theorem dL_law_1219 : decode cL_law 1219 = .ok (.iload_n 3, 1) := by decide +kernel
theorem dL_law_1220 : decode cL_law 1220 = .ok (.iconst 2, 1) := by decide +kernel
theorem dL_law_1221 : decode cL_law 1221 = .ok (.iadd, 1) := by decide +kernel
theorem dL_law_1222 : decode cL_law 1222 = .ok (.iaload, 1) := by decide +kernel
theorem dL_law_1223 : decode cL_law 1223 = .ok (.invokevirtual 162, 3) := by decide +kernel
theorem dL_law_1226 : decode cL_law 1226 = .ok (.if_icmp .eq 123, 3) := by decide +kernel
theorem dL_law_1229 : decode cL_law 1229 = .ok (.iconst 0, 1) := by decide +kernel
theorem dL_law_1230 : decode cL_law 1230 = .ok (.ireturn, 1) := by decide +kernel
theorem dL_law_1231 : decode cL_law 1231 = .ok (.aload_n 1, 1) := by decide +kernel
theorem dL_law_1232 : decode cL_law 1232 = .ok (.aload_n 0, 1) := by decide +kernel
theorem dL_law_1233 : decode cL_law 1233 = .ok (.iload_n 3, 1) := by decide +kernel
theorem dL_law_1234 : decode cL_law 1234 = .ok (.iconst 1, 1) := by decide +kernel
theorem dL_law_1235 : decode cL_law 1235 = .ok (.iadd, 1) := by decide +kernel
theorem dL_law_1236 : decode cL_law 1236 = .ok (.iaload, 1) := by decide +kernel
theorem dL_law_1237 : decode cL_law 1237 = .ok (.aload_n 0, 1) := by decide +kernel
theorem dL_law_1238 : decode cL_law 1238 = .ok (.iload_n 3, 1) := by decide +kernel
theorem dL_law_1239 : decode cL_law 1239 = .ok (.iconst 2, 1) := by decide +kernel
theorem dL_law_1240 : decode cL_law 1240 = .ok (.iadd, 1) := by decide +kernel
theorem dL_law_1241 : decode cL_law 1241 = .ok (.iaload, 1) := by decide +kernel
theorem dL_law_1242 : decode cL_law 1242 = .ok (.invokevirtual 163, 3) := by decide +kernel
theorem dL_law_1245 : decode cL_law 1245 = .ok (.aload_n 2, 1) := by decide +kernel
theorem dL_law_1246 : decode cL_law 1246 = .ok (.aload_n 0, 1) := by decide +kernel
theorem dL_law_1247 : decode cL_law 1247 = .ok (.iload_n 3, 1) := by decide +kernel
theorem dL_law_1248 : decode cL_law 1248 = .ok (.iconst 1, 1) := by decide +kernel
theorem dL_law_1249 : decode cL_law 1249 = .ok (.iadd, 1) := by decide +kernel
theorem dL_law_1250 : decode cL_law 1250 = .ok (.iaload, 1) := by decide +kernel
theorem dL_law_1251 : decode cL_law 1251 = .ok (.aload_n 0, 1) := by decide +kernel
theorem dL_law_1252 : decode cL_law 1252 = .ok (.iload_n 3, 1) := by decide +kernel
theorem dL_law_1253 : decode cL_law 1253 = .ok (.iconst 2, 1) := by decide +kernel
theorem dL_law_1254 : decode cL_law 1254 = .ok (.iadd, 1) := by decide +kernel
theorem dL_law_1255 : decode cL_law 1255 = .ok (.iaload, 1) := by decide +kernel
theorem dL_law_1256 : decode cL_law 1256 = .ok (.invokevirtual 166, 3) := by decide +kernel
theorem dL_law_1259 : decode cL_law 1259 = .ok (.if_icmp .eq 90, 3) := by decide +kernel
theorem dL_law_1262 : decode cL_law 1262 = .ok (.iconst 0, 1) := by decide +kernel
theorem dL_law_1263 : decode cL_law 1263 = .ok (.ireturn, 1) := by decide +kernel
theorem dL_law_1264 : decode cL_law 1264 = .ok (.aload_n 1, 1) := by decide +kernel
theorem dL_law_1265 : decode cL_law 1265 = .ok (.invokevirtual 167, 3) := by decide +kernel
theorem dL_law_1268 : decode cL_law 1268 = .ok (.aload_n 2, 1) := by decide +kernel
theorem dL_law_1269 : decode cL_law 1269 = .ok (.invokevirtual 170, 3) := by decide +kernel
theorem dL_law_1272 : decode cL_law 1272 = .ok (.if_icmp .eq 77, 3) := by decide +kernel
theorem dL_law_1275 : decode cL_law 1275 = .ok (.iconst 0, 1) := by decide +kernel
theorem dL_law_1276 : decode cL_law 1276 = .ok (.ireturn, 1) := by decide +kernel
theorem dL_law_1277 : decode cL_law 1277 = .ok (.aload_n 1, 1) := by decide +kernel
theorem dL_law_1278 : decode cL_law 1278 = .ok (.aload_n 0, 1) := by decide +kernel
theorem dL_law_1279 : decode cL_law 1279 = .ok (.iload_n 3, 1) := by decide +kernel
theorem dL_law_1280 : decode cL_law 1280 = .ok (.iconst 1, 1) := by decide +kernel
theorem dL_law_1281 : decode cL_law 1281 = .ok (.iadd, 1) := by decide +kernel
theorem dL_law_1282 : decode cL_law 1282 = .ok (.iaload, 1) := by decide +kernel
theorem dL_law_1283 : decode cL_law 1283 = .ok (.invokevirtual 171, 3) := by decide +kernel
theorem dL_law_1286 : decode cL_law 1286 = .ok (.aload_n 2, 1) := by decide +kernel
theorem dL_law_1287 : decode cL_law 1287 = .ok (.aload_n 0, 1) := by decide +kernel
theorem dL_law_1288 : decode cL_law 1288 = .ok (.iload_n 3, 1) := by decide +kernel
theorem dL_law_1289 : decode cL_law 1289 = .ok (.iconst 1, 1) := by decide +kernel
theorem dL_law_1290 : decode cL_law 1290 = .ok (.iadd, 1) := by decide +kernel
theorem dL_law_1291 : decode cL_law 1291 = .ok (.iaload, 1) := by decide +kernel
theorem dL_law_1292 : decode cL_law 1292 = .ok (.invokevirtual 174, 3) := by decide +kernel
theorem dL_law_1295 : decode cL_law 1295 = .ok (.if_icmp .eq 54, 3) := by decide +kernel
theorem dL_law_1298 : decode cL_law 1298 = .ok (.iconst 0, 1) := by decide +kernel
theorem dL_law_1299 : decode cL_law 1299 = .ok (.ireturn, 1) := by decide +kernel
theorem dL_law_1300 : decode cL_law 1300 = .ok (.aload_n 1, 1) := by decide +kernel
theorem dL_law_1301 : decode cL_law 1301 = .ok (.invokevirtual 175, 3) := by decide +kernel
theorem dL_law_1304 : decode cL_law 1304 = .ok (.aload_n 2, 1) := by decide +kernel
theorem dL_law_1305 : decode cL_law 1305 = .ok (.invokevirtual 178, 3) := by decide +kernel
theorem dL_law_1308 : decode cL_law 1308 = .ok (.if_icmp .eq 41, 3) := by decide +kernel
theorem dL_law_1311 : decode cL_law 1311 = .ok (.iconst 0, 1) := by decide +kernel
theorem dL_law_1312 : decode cL_law 1312 = .ok (.ireturn, 1) := by decide +kernel
theorem dL_law_1313 : decode cL_law 1313 = .ok (.aload_n 1, 1) := by decide +kernel
theorem dL_law_1314 : decode cL_law 1314 = .ok (.invokevirtual 179, 3) := by decide +kernel
theorem dL_law_1317 : decode cL_law 1317 = .ok (.aload_n 2, 1) := by decide +kernel
theorem dL_law_1318 : decode cL_law 1318 = .ok (.invokevirtual 182, 3) := by decide +kernel
theorem dL_law_1321 : decode cL_law 1321 = .ok (.if_icmp .eq 28, 3) := by decide +kernel
theorem dL_law_1324 : decode cL_law 1324 = .ok (.iconst 0, 1) := by decide +kernel
theorem dL_law_1325 : decode cL_law 1325 = .ok (.ireturn, 1) := by decide +kernel
theorem dL_law_1326 : decode cL_law 1326 = .ok (.aload_n 1, 1) := by decide +kernel
theorem dL_law_1327 : decode cL_law 1327 = .ok (.aload_n 0, 1) := by decide +kernel
theorem dL_law_1328 : decode cL_law 1328 = .ok (.iload_n 3, 1) := by decide +kernel
theorem dL_law_1329 : decode cL_law 1329 = .ok (.iconst 1, 1) := by decide +kernel
theorem dL_law_1330 : decode cL_law 1330 = .ok (.iadd, 1) := by decide +kernel
theorem dL_law_1331 : decode cL_law 1331 = .ok (.iaload, 1) := by decide +kernel
theorem dL_law_1332 : decode cL_law 1332 = .ok (.invokevirtual 183, 3) := by decide +kernel
theorem dL_law_1335 : decode cL_law 1335 = .ok (.aload_n 2, 1) := by decide +kernel
theorem dL_law_1336 : decode cL_law 1336 = .ok (.aload_n 0, 1) := by decide +kernel
theorem dL_law_1337 : decode cL_law 1337 = .ok (.iload_n 3, 1) := by decide +kernel
theorem dL_law_1338 : decode cL_law 1338 = .ok (.iconst 1, 1) := by decide +kernel
theorem dL_law_1339 : decode cL_law 1339 = .ok (.iadd, 1) := by decide +kernel
theorem dL_law_1340 : decode cL_law 1340 = .ok (.iaload, 1) := by decide +kernel
theorem dL_law_1341 : decode cL_law 1341 = .ok (.invokevirtual 186, 3) := by decide +kernel
theorem dL_law_1344 : decode cL_law 1344 = .ok (.if_icmp .eq 5, 3) := by decide +kernel
theorem dL_law_1347 : decode cL_law 1347 = .ok (.iconst 0, 1) := by decide +kernel
theorem dL_law_1348 : decode cL_law 1348 = .ok (.ireturn, 1) := by decide +kernel
theorem dL_law_1349 : decode cL_law 1349 = .ok (.iinc 3 4, 3) := by decide +kernel
theorem dL_law_1352 : decode cL_law 1352 = .ok (.goto (-1334), 3) := by decide +kernel
theorem dL_law_1355 : decode cL_law 1355 = .ok (.iconst 1, 1) := by decide +kernel
theorem dL_law_1356 : decode cL_law 1356 = .ok (.ireturn, 1) := by decide +kernel
