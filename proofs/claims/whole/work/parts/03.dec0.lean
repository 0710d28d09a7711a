theorem dX0_init_0 : decode cX0_init 0 = .ok (.aload_n 0, 1) := by decide +kernel
theorem dX0_init_1 : decode cX0_init 1 = .ok (.invokespecial 3, 3) := by decide +kernel
theorem dX0_init_4 : decode cX0_init 4 = .ok (.aload_n 0, 1) := by decide +kernel
theorem dX0_init_5 : decode cX0_init 5 = .ok (.new 9, 3) := by decide +kernel
theorem dX0_init_8 : decode cX0_init 8 = .ok (.dup, 1) := by decide +kernel
theorem dX0_init_9 : decode cX0_init 9 = .ok (.invokespecial 11, 3) := by decide +kernel
theorem dX0_init_12 : decode cX0_init 12 = .ok (.putfield 12, 3) := by decide +kernel
theorem dX0_init_15 : decode cX0_init 15 = .ok (.aload_n 0, 1) := by decide +kernel
theorem dX0_init_16 : decode cX0_init 16 = .ok (.bipush 6, 2) := by decide +kernel
theorem dX0_init_18 : decode cX0_init 18 = .ok (.anewarray 18, 3) := by decide +kernel
theorem dX0_init_21 : decode cX0_init 21 = .ok (.putfield 20, 3) := by decide +kernel
theorem dX0_init_24 : decode cX0_init 24 = .ok (.aload_n 0, 1) := by decide +kernel
theorem dX0_init_25 : decode cX0_init 25 = .ok (.sipush 256, 3) := by decide +kernel
theorem dX0_init_28 : decode cX0_init 28 = .ok (.newarray .int, 2) := by decide +kernel
theorem dX0_init_30 : decode cX0_init 30 = .ok (.putfield 24, 3) := by decide +kernel
theorem dX0_init_33 : decode cX0_init 33 = .ok (.aload_n 0, 1) := by decide +kernel
theorem dX0_init_34 : decode cX0_init 34 = .ok (.sipush 256, 3) := by decide +kernel
theorem dX0_init_37 : decode cX0_init 37 = .ok (.newarray .int, 2) := by decide +kernel
theorem dX0_init_39 : decode cX0_init 39 = .ok (.putfield 28, 3) := by decide +kernel
theorem dX0_init_42 : decode cX0_init 42 = .ok (.aload_n 0, 1) := by decide +kernel
theorem dX0_init_43 : decode cX0_init 43 = .ok (.sipush 256, 3) := by decide +kernel
theorem dX0_init_46 : decode cX0_init 46 = .ok (.newarray .int, 2) := by decide +kernel
theorem dX0_init_48 : decode cX0_init 48 = .ok (.putfield 31, 3) := by decide +kernel
theorem dX0_init_51 : decode cX0_init 51 = .ok (.aload_n 0, 1) := by decide +kernel
theorem dX0_init_52 : decode cX0_init 52 = .ok (.iconst 1, 1) := by decide +kernel
theorem dX0_init_53 : decode cX0_init 53 = .ok (.putfield 34, 3) := by decide +kernel
theorem dX0_init_56 : decode cX0_init 56 = .ok (.aload_n 0, 1) := by decide +kernel
theorem dX0_init_57 : decode cX0_init 57 = .ok (.aload_n 1, 1) := by decide +kernel
theorem dX0_init_58 : decode cX0_init 58 = .ok (.putfield 38, 3) := by decide +kernel
theorem dX0_init_61 : decode cX0_init 61 = .ok (.aload_n 0, 1) := by decide +kernel
theorem dX0_init_62 : decode cX0_init 62 = .ok (.aload_n 2, 1) := by decide +kernel
theorem dX0_init_63 : decode cX0_init 63 = .ok (.putfield 42, 3) := by decide +kernel
theorem dX0_init_66 : decode cX0_init 66 = .ok (.aload_n 0, 1) := by decide +kernel
theorem dX0_init_67 : decode cX0_init 67 = .ok (.aload_n 3, 1) := by decide +kernel
theorem dX0_init_68 : decode cX0_init 68 = .ok (.putfield 45, 3) := by decide +kernel
theorem dX0_init_71 : decode cX0_init 71 = .ok (.iconst 0, 1) := by decide +kernel
theorem dX0_init_72 : decode cX0_init 72 = .ok (.istore 4, 2) := by decide +kernel
theorem dX0_init_74 : decode cX0_init 74 = .ok (.iload 4, 2) := by decide +kernel
theorem dX0_init_76 : decode cX0_init 76 = .ok (.bipush 6, 2) := by decide +kernel
theorem dX0_init_78 : decode cX0_init 78 = .ok (.if_icmp .ge 23, 3) := by decide +kernel
theorem dX0_init_81 : decode cX0_init 81 = .ok (.aload_n 0, 1) := by decide +kernel
theorem dX0_init_82 : decode cX0_init 82 = .ok (.getfield 20, 3) := by decide +kernel
theorem dX0_init_85 : decode cX0_init 85 = .ok (.iload 4, 2) := by decide +kernel
theorem dX0_init_87 : decode cX0_init 87 = .ok (.new 18, 3) := by decide +kernel
theorem dX0_init_90 : decode cX0_init 90 = .ok (.dup, 1) := by decide +kernel
theorem dX0_init_91 : decode cX0_init 91 = .ok (.invokespecial 49, 3) := by decide +kernel
theorem dX0_init_94 : decode cX0_init 94 = .ok (.aastore, 1) := by decide +kernel
theorem dX0_init_95 : decode cX0_init 95 = .ok (.iinc 4 1, 3) := by decide +kernel
theorem dX0_init_98 : decode cX0_init 98 = .ok (.goto (-24), 3) := by decide +kernel
theorem dX0_init_101 : decode cX0_init 101 = .ok (.return_, 1) := by decide +kernel
theorem dX0_forget_0 : decode cX0_forget 0 = .ok (.aload_n 0, 1) := by decide +kernel
theorem dX0_forget_1 : decode cX0_forget 1 = .ok (.iconst 1, 1) := by decide +kernel
theorem dX0_forget_2 : decode cX0_forget 2 = .ok (.putfield 34, 3) := by decide +kernel
theorem dX0_forget_5 : decode cX0_forget 5 = .ok (.aload_n 0, 1) := by decide +kernel
theorem dX0_forget_6 : decode cX0_forget 6 = .ok (.iconst 0, 1) := by decide +kernel
theorem dX0_forget_7 : decode cX0_forget 7 = .ok (.putfield 50, 3) := by decide +kernel
theorem dX0_forget_10 : decode cX0_forget 10 = .ok (.return_, 1) := by decide +kernel
theorem dX0_keepTrial_0 : decode cX0_keepTrial 0 = .ok (.aload_n 0, 1) := by decide +kernel
theorem dX0_keepTrial_1 : decode cX0_keepTrial 1 = .ok (.getfield 20, 3) := by decide +kernel
theorem dX0_keepTrial_4 : decode cX0_keepTrial 4 = .ok (.aload_n 0, 1) := by decide +kernel
theorem dX0_keepTrial_5 : decode cX0_keepTrial 5 = .ok (.getfield 53, 3) := by decide +kernel
theorem dX0_keepTrial_8 : decode cX0_keepTrial 8 = .ok (.aaload, 1) := by decide +kernel
theorem dX0_keepTrial_9 : decode cX0_keepTrial 9 = .ok (.getfield 57, 3) := by decide +kernel
theorem dX0_keepTrial_12 : decode cX0_keepTrial 12 = .ok (.aload_n 0, 1) := by decide +kernel
theorem dX0_keepTrial_13 : decode cX0_keepTrial 13 = .ok (.getfield 42, 3) := by decide +kernel
theorem dX0_keepTrial_16 : decode cX0_keepTrial 16 = .ok (.invokevirtual 60, 3) := by decide +kernel
theorem dX0_keepTrial_19 : decode cX0_keepTrial 19 = .ok (.aload_n 0, 1) := by decide +kernel
theorem dX0_keepTrial_20 : decode cX0_keepTrial 20 = .ok (.dup, 1) := by decide +kernel
theorem dX0_keepTrial_21 : decode cX0_keepTrial 21 = .ok (.getfield 53, 3) := by decide +kernel
theorem dX0_keepTrial_24 : decode cX0_keepTrial 24 = .ok (.iconst 1, 1) := by decide +kernel
theorem dX0_keepTrial_25 : decode cX0_keepTrial 25 = .ok (.iadd, 1) := by decide +kernel
theorem dX0_keepTrial_26 : decode cX0_keepTrial 26 = .ok (.putfield 53, 3) := by decide +kernel
theorem dX0_keepTrial_29 : decode cX0_keepTrial 29 = .ok (.aload_n 0, 1) := by decide +kernel
theorem dX0_keepTrial_30 : decode cX0_keepTrial 30 = .ok (.getfield 53, 3) := by decide +kernel
theorem dX0_keepTrial_33 : decode cX0_keepTrial 33 = .ok (.iconst 1, 1) := by decide +kernel
theorem dX0_keepTrial_34 : decode cX0_keepTrial 34 = .ok (.isub, 1) := by decide +kernel
theorem dX0_keepTrial_35 : decode cX0_keepTrial 35 = .ok (.ireturn, 1) := by decide +kernel
theorem dX0_sift_0 : decode cX0_sift 0 = .ok (.aload_n 0, 1) := by decide +kernel
theorem dX0_sift_1 : decode cX0_sift 1 = .ok (.getfield 38, 3) := by decide +kernel
theorem dX0_sift_4 : decode cX0_sift 4 = .ok (.invokevirtual 64, 3) := by decide +kernel
theorem dX0_sift_7 : decode cX0_sift 7 = .ok (.sipush 256, 3) := by decide +kernel
theorem dX0_sift_10 : decode cX0_sift 10 = .ok (.if_icmp .le 5, 3) := by decide +kernel
theorem dX0_sift_13 : decode cX0_sift 13 = .ok (.iconst 0, 1) := by decide +kernel
theorem dX0_sift_14 : decode cX0_sift 14 = .ok (.ireturn, 1) := by decide +kernel
theorem dX0_sift_15 : decode cX0_sift 15 = .ok (.aload_n 0, 1) := by decide +kernel
theorem dX0_sift_16 : decode cX0_sift 16 = .ok (.getfield 34, 3) := by decide +kernel
theorem dX0_sift_19 : decode cX0_sift 19 = .ok (.ifCond .ne 5, 3) := by decide +kernel
theorem dX0_sift_22 : decode cX0_sift 22 = .ok (.iconst 1, 1) := by decide +kernel
theorem dX0_sift_23 : decode cX0_sift 23 = .ok (.ireturn, 1) := by decide +kernel
theorem dX0_sift_24 : decode cX0_sift 24 = .ok (.aload_n 0, 1) := by decide +kernel
theorem dX0_sift_25 : decode cX0_sift 25 = .ok (.iconst 0, 1) := by decide +kernel
theorem dX0_sift_26 : decode cX0_sift 26 = .ok (.putfield 34, 3) := by decide +kernel
theorem dX0_sift_29 : decode cX0_sift 29 = .ok (.aload_n 0, 1) := by decide +kernel
theorem dX0_sift_30 : decode cX0_sift 30 = .ok (.iconst 0, 1) := by decide +kernel
theorem dX0_sift_31 : decode cX0_sift 31 = .ok (.putfield 70, 3) := by decide +kernel
theorem dX0_sift_34 : decode cX0_sift 34 = .ok (.aload_n 0, 1) := by decide +kernel
theorem dX0_sift_35 : decode cX0_sift 35 = .ok (.bipush (-9), 2) := by decide +kernel
theorem dX0_sift_37 : decode cX0_sift 37 = .ok (.putfield 73, 3) := by decide +kernel
theorem dX0_sift_40 : decode cX0_sift 40 = .ok (.aload_n 0, 1) := by decide +kernel
theorem dX0_sift_41 : decode cX0_sift 41 = .ok (.getfield 45, 3) := by decide +kernel
theorem dX0_sift_44 : decode cX0_sift 44 = .ok (.invokevirtual 76, 3) := by decide +kernel
theorem dX0_sift_47 : decode cX0_sift 47 = .ok (.iconst 1, 1) := by decide +kernel
theorem dX0_sift_48 : decode cX0_sift 48 = .ok (.istore_n 1, 1) := by decide +kernel
theorem dX0_sift_49 : decode cX0_sift 49 = .ok (.iconst 0, 1) := by decide +kernel
theorem dX0_sift_50 : decode cX0_sift 50 = .ok (.istore_n 2, 1) := by decide +kernel
theorem dX0_sift_51 : decode cX0_sift 51 = .ok (.iload_n 2, 1) := by decide +kernel
theorem dX0_sift_52 : decode cX0_sift 52 = .ok (.sipush 256, 3) := by decide +kernel
theorem dX0_sift_55 : decode cX0_sift 55 = .ok (.if_icmp .ge 64, 3) := by decide +kernel
theorem dX0_sift_58 : decode cX0_sift 58 = .ok (.iload_n 1, 1) := by decide +kernel
theorem dX0_sift_59 : decode cX0_sift 59 = .ok (.ifCond .eq 60, 3) := by decide +kernel
theorem dX0_sift_62 : decode cX0_sift 62 = .ok (.aload_n 0, 1) := by decide +kernel
theorem dX0_sift_63 : decode cX0_sift 63 = .ok (.invokevirtual 81, 3) := by decide +kernel
theorem dX0_sift_66 : decode cX0_sift 66 = .ok (.istore_n 3, 1) := by decide +kernel
theorem dX0_sift_67 : decode cX0_sift 67 = .ok (.iload_n 3, 1) := by decide +kernel
theorem dX0_sift_68 : decode cX0_sift 68 = .ok (.bipush (-9), 2) := by decide +kernel
theorem dX0_sift_70 : decode cX0_sift 70 = .ok (.if_icmp .ne 26, 3) := by decide +kernel
theorem dX0_sift_73 : decode cX0_sift 73 = .ok (.aload_n 0, 1) := by decide +kernel
theorem dX0_sift_74 : decode cX0_sift 74 = .ok (.getfield 24, 3) := by decide +kernel
theorem dX0_sift_77 : decode cX0_sift 77 = .ok (.aload_n 0, 1) := by decide +kernel
theorem dX0_sift_78 : decode cX0_sift 78 = .ok (.getfield 70, 3) := by decide +kernel
theorem dX0_sift_81 : decode cX0_sift 81 = .ok (.aload_n 0, 1) := by decide +kernel
theorem dX0_sift_82 : decode cX0_sift 82 = .ok (.invokevirtual 84, 3) := by decide +kernel
theorem dX0_sift_85 : decode cX0_sift 85 = .ok (.iastore, 1) := by decide +kernel
theorem dX0_sift_86 : decode cX0_sift 86 = .ok (.aload_n 0, 1) := by decide +kernel
theorem dX0_sift_87 : decode cX0_sift 87 = .ok (.dup, 1) := by decide +kernel
theorem dX0_sift_88 : decode cX0_sift 88 = .ok (.getfield 70, 3) := by decide +kernel
theorem dX0_sift_91 : decode cX0_sift 91 = .ok (.iconst 1, 1) := by decide +kernel
theorem dX0_sift_92 : decode cX0_sift 92 = .ok (.iadd, 1) := by decide +kernel
theorem dX0_sift_93 : decode cX0_sift 93 = .ok (.putfield 70, 3) := by decide +kernel
theorem dX0_sift_96 : decode cX0_sift 96 = .ok (.aload_n 0, 1) := by decide +kernel
theorem dX0_sift_97 : decode cX0_sift 97 = .ok (.aload_n 0, 1) := by decide +kernel
theorem dX0_sift_98 : decode cX0_sift 98 = .ok (.getfield 73, 3) := by decide +kernel
theorem dX0_sift_101 : decode cX0_sift 101 = .ok (.iload_n 3, 1) := by decide +kernel
theorem dX0_sift_102 : decode cX0_sift 102 = .ok (.invokestatic 87, 3) := by decide +kernel
theorem dX0_sift_105 : decode cX0_sift 105 = .ok (.putfield 73, 3) := by decide +kernel
theorem dX0_sift_108 : decode cX0_sift 108 = .ok (.aload_n 0, 1) := by decide +kernel
theorem dX0_sift_109 : decode cX0_sift 109 = .ok (.invokevirtual 93, 3) := by decide +kernel
theorem dX0_sift_112 : decode cX0_sift 112 = .ok (.istore_n 1, 1) := by decide +kernel
theorem dX0_sift_113 : decode cX0_sift 113 = .ok (.iinc 2 1, 3) := by decide +kernel
theorem dX0_sift_116 : decode cX0_sift 116 = .ok (.goto (-65), 3) := by decide +kernel
theorem dX0_sift_119 : decode cX0_sift 119 = .ok (.aload_n 0, 1) := by decide +kernel
theorem dX0_sift_120 : decode cX0_sift 120 = .ok (.getfield 70, 3) := by decide +kernel
theorem dX0_sift_123 : decode cX0_sift 123 = .ok (.ifCond .le 9, 3) := by decide +kernel
theorem dX0_sift_126 : decode cX0_sift 126 = .ok (.aload_n 0, 1) := by decide +kernel
theorem dX0_sift_127 : decode cX0_sift 127 = .ok (.bipush (-9), 2) := by decide +kernel
theorem dX0_sift_129 : decode cX0_sift 129 = .ok (.putfield 73, 3) := by decide +kernel
theorem dX0_sift_132 : decode cX0_sift 132 = .ok (.iconst 1, 1) := by decide +kernel
theorem dX0_sift_133 : decode cX0_sift 133 = .ok (.ireturn, 1) := by decide +kernel
theorem dX0_takeNextRules_0 : decode cX0_takeNextRules 0 = .ok (.iconst 0, 1) := by decide +kernel
theorem dX0_takeNextRules_1 : decode cX0_takeNextRules 1 = .ok (.istore_n 1, 1) := by decide +kernel
theorem dX0_takeNextRules_2 : decode cX0_takeNextRules 2 = .ok (.iload_n 1, 1) := by decide +kernel
theorem dX0_takeNextRules_3 : decode cX0_takeNextRules 3 = .ok (.aload_n 0, 1) := by decide +kernel
theorem dX0_takeNextRules_4 : decode cX0_takeNextRules 4 = .ok (.getfield 38, 3) := by decide +kernel
theorem dX0_takeNextRules_7 : decode cX0_takeNextRules 7 = .ok (.getfield 97, 3) := by decide +kernel
theorem dX0_takeNextRules_10 : decode cX0_takeNextRules 10 = .ok (.if_icmp .ge 72, 3) := by decide +kernel
theorem dX0_takeNextRules_13 : decode cX0_takeNextRules 13 = .ok (.aload_n 0, 1) := by decide +kernel
theorem dX0_takeNextRules_14 : decode cX0_takeNextRules 14 = .ok (.getfield 38, 3) := by decide +kernel
theorem dX0_takeNextRules_17 : decode cX0_takeNextRules 17 = .ok (.getfield 100, 3) := by decide +kernel
theorem dX0_takeNextRules_20 : decode cX0_takeNextRules 20 = .ok (.iload_n 1, 1) := by decide +kernel
theorem dX0_takeNextRules_21 : decode cX0_takeNextRules 21 = .ok (.iaload, 1) := by decide +kernel
theorem dX0_takeNextRules_22 : decode cX0_takeNextRules 22 = .ok (.aload_n 0, 1) := by decide +kernel
theorem dX0_takeNextRules_23 : decode cX0_takeNextRules 23 = .ok (.getfield 45, 3) := by decide +kernel
theorem dX0_takeNextRules_26 : decode cX0_takeNextRules 26 = .ok (.getfield 103, 3) := by decide +kernel
theorem dX0_takeNextRules_29 : decode cX0_takeNextRules 29 = .ok (.iload_n 1, 1) := by decide +kernel
theorem dX0_takeNextRules_30 : decode cX0_takeNextRules 30 = .ok (.iaload, 1) := by decide +kernel
theorem dX0_takeNextRules_31 : decode cX0_takeNextRules 31 = .ok (.iconst 1, 1) := by decide +kernel
theorem dX0_takeNextRules_32 : decode cX0_takeNextRules 32 = .ok (.iadd, 1) := by decide +kernel
theorem dX0_takeNextRules_33 : decode cX0_takeNextRules 33 = .ok (.ishr, 1) := by decide +kernel
theorem dX0_takeNextRules_34 : decode cX0_takeNextRules 34 = .ok (.istore_n 2, 1) := by decide +kernel
theorem dX0_takeNextRules_35 : decode cX0_takeNextRules 35 = .ok (.iload_n 2, 1) := by decide +kernel
theorem dX0_takeNextRules_36 : decode cX0_takeNextRules 36 = .ok (.ifCond .eq 23, 3) := by decide +kernel
theorem dX0_takeNextRules_39 : decode cX0_takeNextRules 39 = .ok (.aload_n 0, 1) := by decide +kernel
theorem dX0_takeNextRules_40 : decode cX0_takeNextRules 40 = .ok (.getfield 45, 3) := by decide +kernel
theorem dX0_takeNextRules_43 : decode cX0_takeNextRules 43 = .ok (.getfield 103, 3) := by decide +kernel
theorem dX0_takeNextRules_46 : decode cX0_takeNextRules 46 = .ok (.iload_n 1, 1) := by decide +kernel
theorem dX0_takeNextRules_47 : decode cX0_takeNextRules 47 = .ok (.dup2, 1) := by decide +kernel
theorem dX0_takeNextRules_48 : decode cX0_takeNextRules 48 = .ok (.iaload, 1) := by decide +kernel
theorem dX0_takeNextRules_49 : decode cX0_takeNextRules 49 = .ok (.iconst 1, 1) := by decide +kernel
theorem dX0_takeNextRules_50 : decode cX0_takeNextRules 50 = .ok (.iload_n 2, 1) := by decide +kernel
theorem dX0_takeNextRules_51 : decode cX0_takeNextRules 51 = .ok (.invokestatic 106, 3) := by decide +kernel
theorem dX0_takeNextRules_54 : decode cX0_takeNextRules 54 = .ok (.iadd, 1) := by decide +kernel
theorem dX0_takeNextRules_55 : decode cX0_takeNextRules 55 = .ok (.iadd, 1) := by decide +kernel
theorem dX0_takeNextRules_56 : decode cX0_takeNextRules 56 = .ok (.iastore, 1) := by decide +kernel
theorem dX0_takeNextRules_57 : decode cX0_takeNextRules 57 = .ok (.iconst 1, 1) := by decide +kernel
theorem dX0_takeNextRules_58 : decode cX0_takeNextRules 58 = .ok (.ireturn, 1) := by decide +kernel
theorem dX0_takeNextRules_59 : decode cX0_takeNextRules 59 = .ok (.aload_n 0, 1) := by decide +kernel
theorem dX0_takeNextRules_60 : decode cX0_takeNextRules 60 = .ok (.getfield 45, 3) := by decide +kernel
theorem dX0_takeNextRules_63 : decode cX0_takeNextRules 63 = .ok (.getfield 103, 3) := by decide +kernel
theorem dX0_takeNextRules_66 : decode cX0_takeNextRules 66 = .ok (.iload_n 1, 1) := by decide +kernel
theorem dX0_takeNextRules_67 : decode cX0_takeNextRules 67 = .ok (.aload_n 0, 1) := by decide +kernel
theorem dX0_takeNextRules_68 : decode cX0_takeNextRules 68 = .ok (.getfield 38, 3) := by decide +kernel
theorem dX0_takeNextRules_71 : decode cX0_takeNextRules 71 = .ok (.iload_n 1, 1) := by decide +kernel
theorem dX0_takeNextRules_72 : decode cX0_takeNextRules 72 = .ok (.invokevirtual 112, 3) := by decide +kernel
theorem dX0_takeNextRules_75 : decode cX0_takeNextRules 75 = .ok (.iastore, 1) := by decide +kernel
theorem dX0_takeNextRules_76 : decode cX0_takeNextRules 76 = .ok (.iinc 1 1, 3) := by decide +kernel
theorem dX0_takeNextRules_79 : decode cX0_takeNextRules 79 = .ok (.goto (-77), 3) := by decide +kernel
theorem dX0_takeNextRules_82 : decode cX0_takeNextRules 82 = .ok (.iconst 0, 1) := by decide +kernel
theorem dX0_takeNextRules_83 : decode cX0_takeNextRules 83 = .ok (.ireturn, 1) := by decide +kernel
theorem dX0_firstQuarrel_0 : decode cX0_firstQuarrel 0 = .ok (.iconst 0, 1) := by decide +kernel
theorem dX0_firstQuarrel_1 : decode cX0_firstQuarrel 1 = .ok (.istore_n 1, 1) := by decide +kernel
theorem dX0_firstQuarrel_2 : decode cX0_firstQuarrel 2 = .ok (.iload_n 1, 1) := by decide +kernel
theorem dX0_firstQuarrel_3 : decode cX0_firstQuarrel 3 = .ok (.aload_n 0, 1) := by decide +kernel
theorem dX0_firstQuarrel_4 : decode cX0_firstQuarrel 4 = .ok (.getfield 53, 3) := by decide +kernel
theorem dX0_firstQuarrel_7 : decode cX0_firstQuarrel 7 = .ok (.if_icmp .ge 52, 3) := by decide +kernel
theorem dX0_firstQuarrel_10 : decode cX0_firstQuarrel 10 = .ok (.aload_n 0, 1) := by decide +kernel
theorem dX0_firstQuarrel_11 : decode cX0_firstQuarrel 11 = .ok (.getfield 20, 3) := by decide +kernel
theorem dX0_firstQuarrel_14 : decode cX0_firstQuarrel 14 = .ok (.iload_n 1, 1) := by decide +kernel
theorem dX0_firstQuarrel_15 : decode cX0_firstQuarrel 15 = .ok (.aaload, 1) := by decide +kernel
theorem dX0_firstQuarrel_16 : decode cX0_firstQuarrel 16 = .ok (.astore_n 2, 1) := by decide +kernel
theorem dX0_firstQuarrel_17 : decode cX0_firstQuarrel 17 = .ok (.aload_n 2, 1) := by decide +kernel
theorem dX0_firstQuarrel_18 : decode cX0_firstQuarrel 18 = .ok (.invokevirtual 115, 3) := by decide +kernel
theorem dX0_firstQuarrel_21 : decode cX0_firstQuarrel 21 = .ok (.ifCond .eq 32, 3) := by decide +kernel
theorem dX0_firstQuarrel_24 : decode cX0_firstQuarrel 24 = .ok (.aload_n 0, 1) := by decide +kernel
theorem dX0_firstQuarrel_25 : decode cX0_firstQuarrel 25 = .ok (.getfield 45, 3) := by decide +kernel
theorem dX0_firstQuarrel_28 : decode cX0_firstQuarrel 28 = .ok (.aload_n 2, 1) := by decide +kernel
theorem dX0_firstQuarrel_29 : decode cX0_firstQuarrel 29 = .ok (.getfield 57, 3) := by decide +kernel
theorem dX0_firstQuarrel_32 : decode cX0_firstQuarrel 32 = .ok (.invokevirtual 118, 3) := by decide +kernel
theorem dX0_firstQuarrel_35 : decode cX0_firstQuarrel 35 = .ok (.bipush (-9), 2) := by decide +kernel
theorem dX0_firstQuarrel_37 : decode cX0_firstQuarrel 37 = .ok (.if_icmp .eq 14, 3) := by decide +kernel
theorem dX0_firstQuarrel_40 : decode cX0_firstQuarrel 40 = .ok (.aload_n 2, 1) := by decide +kernel
theorem dX0_firstQuarrel_41 : decode cX0_firstQuarrel 41 = .ok (.aload_n 0, 1) := by decide +kernel
theorem dX0_firstQuarrel_42 : decode cX0_firstQuarrel 42 = .ok (.getfield 45, 3) := by decide +kernel
theorem dX0_firstQuarrel_45 : decode cX0_firstQuarrel 45 = .ok (.invokevirtual 122, 3) := by decide +kernel
theorem dX0_firstQuarrel_48 : decode cX0_firstQuarrel 48 = .ok (.ifCond .ne 5, 3) := by decide +kernel
theorem dX0_firstQuarrel_51 : decode cX0_firstQuarrel 51 = .ok (.iload_n 1, 1) := by decide +kernel
theorem dX0_firstQuarrel_52 : decode cX0_firstQuarrel 52 = .ok (.ireturn, 1) := by decide +kernel
theorem dX0_firstQuarrel_53 : decode cX0_firstQuarrel 53 = .ok (.iinc 1 1, 3) := by decide +kernel
theorem dX0_firstQuarrel_56 : decode cX0_firstQuarrel 56 = .ok (.goto (-54), 3) := by decide +kernel
theorem dX0_firstQuarrel_59 : decode cX0_firstQuarrel 59 = .ok (.bipush (-9), 2) := by decide +kernel
theorem dX0_firstQuarrel_61 : decode cX0_firstQuarrel 61 = .ok (.ireturn, 1) := by decide +kernel
theorem dX0_packedRules_0 : decode cX0_packedRules 0 = .ok (.iconst 0, 1) := by decide +kernel
theorem dX0_packedRules_1 : decode cX0_packedRules 1 = .ok (.istore_n 1, 1) := by decide +kernel
theorem dX0_packedRules_2 : decode cX0_packedRules 2 = .ok (.iconst 0, 1) := by decide +kernel
theorem dX0_packedRules_3 : decode cX0_packedRules 3 = .ok (.istore_n 2, 1) := by decide +kernel
theorem dX0_packedRules_4 : decode cX0_packedRules 4 = .ok (.iload_n 2, 1) := by decide +kernel
theorem dX0_packedRules_5 : decode cX0_packedRules 5 = .ok (.aload_n 0, 1) := by decide +kernel
theorem dX0_packedRules_6 : decode cX0_packedRules 6 = .ok (.getfield 38, 3) := by decide +kernel
theorem dX0_packedRules_9 : decode cX0_packedRules 9 = .ok (.getfield 97, 3) := by decide +kernel
theorem dX0_packedRules_12 : decode cX0_packedRules 12 = .ok (.if_icmp .ge 25, 3) := by decide +kernel
theorem dX0_packedRules_15 : decode cX0_packedRules 15 = .ok (.iload_n 1, 1) := by decide +kernel
theorem dX0_packedRules_16 : decode cX0_packedRules 16 = .ok (.aload_n 0, 1) := by decide +kernel
theorem dX0_packedRules_17 : decode cX0_packedRules 17 = .ok (.getfield 45, 3) := by decide +kernel
theorem dX0_packedRules_20 : decode cX0_packedRules 20 = .ok (.getfield 103, 3) := by decide +kernel
theorem dX0_packedRules_23 : decode cX0_packedRules 23 = .ok (.iload_n 2, 1) := by decide +kernel
theorem dX0_packedRules_24 : decode cX0_packedRules 24 = .ok (.iaload, 1) := by decide +kernel
theorem dX0_packedRules_25 : decode cX0_packedRules 25 = .ok (.iconst 2, 1) := by decide +kernel
theorem dX0_packedRules_26 : decode cX0_packedRules 26 = .ok (.iload_n 2, 1) := by decide +kernel
theorem dX0_packedRules_27 : decode cX0_packedRules 27 = .ok (.imul, 1) := by decide +kernel
theorem dX0_packedRules_28 : decode cX0_packedRules 28 = .ok (.ishl, 1) := by decide +kernel
theorem dX0_packedRules_29 : decode cX0_packedRules 29 = .ok (.ior, 1) := by decide +kernel
theorem dX0_packedRules_30 : decode cX0_packedRules 30 = .ok (.istore_n 1, 1) := by decide +kernel
theorem dX0_packedRules_31 : decode cX0_packedRules 31 = .ok (.iinc 2 1, 3) := by decide +kernel
theorem dX0_packedRules_34 : decode cX0_packedRules 34 = .ok (.goto (-30), 3) := by decide +kernel
theorem dX0_packedRules_37 : decode cX0_packedRules 37 = .ok (.iload_n 1, 1) := by decide +kernel
theorem dX0_packedRules_38 : decode cX0_packedRules 38 = .ok (.ireturn, 1) := by decide +kernel
theorem dX0_takeRules_0 : decode cX0_takeRules 0 = .ok (.iconst 0, 1) := by decide +kernel
theorem dX0_takeRules_1 : decode cX0_takeRules 1 = .ok (.istore_n 2, 1) := by decide +kernel
theorem dX0_takeRules_2 : decode cX0_takeRules 2 = .ok (.iload_n 2, 1) := by decide +kernel
theorem dX0_takeRules_3 : decode cX0_takeRules 3 = .ok (.aload_n 0, 1) := by decide +kernel
theorem dX0_takeRules_4 : decode cX0_takeRules 4 = .ok (.getfield 38, 3) := by decide +kernel
theorem dX0_takeRules_7 : decode cX0_takeRules 7 = .ok (.getfield 97, 3) := by decide +kernel
theorem dX0_takeRules_10 : decode cX0_takeRules 10 = .ok (.if_icmp .ge 25, 3) := by decide +kernel
theorem dX0_takeRules_13 : decode cX0_takeRules 13 = .ok (.aload_n 0, 1) := by decide +kernel
theorem dX0_takeRules_14 : decode cX0_takeRules 14 = .ok (.getfield 45, 3) := by decide +kernel
theorem dX0_takeRules_17 : decode cX0_takeRules 17 = .ok (.getfield 103, 3) := by decide +kernel
theorem dX0_takeRules_20 : decode cX0_takeRules 20 = .ok (.iload_n 2, 1) := by decide +kernel
theorem dX0_takeRules_21 : decode cX0_takeRules 21 = .ok (.iload_n 1, 1) := by decide +kernel
theorem dX0_takeRules_22 : decode cX0_takeRules 22 = .ok (.iconst 2, 1) := by decide +kernel
theorem dX0_takeRules_23 : decode cX0_takeRules 23 = .ok (.iload_n 2, 1) := by decide +kernel
theorem dX0_takeRules_24 : decode cX0_takeRules 24 = .ok (.imul, 1) := by decide +kernel
theorem dX0_takeRules_25 : decode cX0_takeRules 25 = .ok (.ishr, 1) := by decide +kernel
theorem dX0_takeRules_26 : decode cX0_takeRules 26 = .ok (.iconst 3, 1) := by decide +kernel
theorem dX0_takeRules_27 : decode cX0_takeRules 27 = .ok (.iand, 1) := by decide +kernel
theorem dX0_takeRules_28 : decode cX0_takeRules 28 = .ok (.iastore, 1) := by decide +kernel
theorem dX0_takeRules_29 : decode cX0_takeRules 29 = .ok (.iinc 2 1, 3) := by decide +kernel
theorem dX0_takeRules_32 : decode cX0_takeRules 32 = .ok (.goto (-30), 3) := by decide +kernel
theorem dX0_takeRules_35 : decode cX0_takeRules 35 = .ok (.return_, 1) := by decide +kernel
theorem dX0_rulesOf_0 : decode cX0_rulesOf 0 = .ok (.iconst 0, 1) := by decide +kernel
theorem dX0_rulesOf_1 : decode cX0_rulesOf 1 = .ok (.istore_n 2, 1) := by decide +kernel
theorem dX0_rulesOf_2 : decode cX0_rulesOf 2 = .ok (.iconst 0, 1) := by decide +kernel
theorem dX0_rulesOf_3 : decode cX0_rulesOf 3 = .ok (.istore_n 3, 1) := by decide +kernel
theorem dX0_rulesOf_4 : decode cX0_rulesOf 4 = .ok (.iload_n 3, 1) := by decide +kernel
theorem dX0_rulesOf_5 : decode cX0_rulesOf 5 = .ok (.aload_n 0, 1) := by decide +kernel
theorem dX0_rulesOf_6 : decode cX0_rulesOf 6 = .ok (.getfield 70, 3) := by decide +kernel
theorem dX0_rulesOf_9 : decode cX0_rulesOf 9 = .ok (.if_icmp .ge 26, 3) := by decide +kernel
theorem dX0_rulesOf_12 : decode cX0_rulesOf 12 = .ok (.iload_n 2, 1) := by decide +kernel
theorem dX0_rulesOf_13 : decode cX0_rulesOf 13 = .ok (.iconst 1, 1) := by decide +kernel
theorem dX0_rulesOf_14 : decode cX0_rulesOf 14 = .ok (.aload_n 0, 1) := by decide +kernel
theorem dX0_rulesOf_15 : decode cX0_rulesOf 15 = .ok (.getfield 24, 3) := by decide +kernel
theorem dX0_rulesOf_18 : decode cX0_rulesOf 18 = .ok (.iload_n 3, 1) := by decide +kernel
theorem dX0_rulesOf_19 : decode cX0_rulesOf 19 = .ok (.iaload, 1) := by decide +kernel
theorem dX0_rulesOf_20 : decode cX0_rulesOf 20 = .ok (.iconst 2, 1) := by decide +kernel
theorem dX0_rulesOf_21 : decode cX0_rulesOf 21 = .ok (.iload_n 1, 1) := by decide +kernel
theorem dX0_rulesOf_22 : decode cX0_rulesOf 22 = .ok (.imul, 1) := by decide +kernel
theorem dX0_rulesOf_23 : decode cX0_rulesOf 23 = .ok (.ishr, 1) := by decide +kernel
theorem dX0_rulesOf_24 : decode cX0_rulesOf 24 = .ok (.iconst 3, 1) := by decide +kernel
theorem dX0_rulesOf_25 : decode cX0_rulesOf 25 = .ok (.iand, 1) := by decide +kernel
theorem dX0_rulesOf_26 : decode cX0_rulesOf 26 = .ok (.ishl, 1) := by decide +kernel
theorem dX0_rulesOf_27 : decode cX0_rulesOf 27 = .ok (.ior, 1) := by decide +kernel
theorem dX0_rulesOf_28 : decode cX0_rulesOf 28 = .ok (.istore_n 2, 1) := by decide +kernel
theorem dX0_rulesOf_29 : decode cX0_rulesOf 29 = .ok (.iinc 3 1, 3) := by decide +kernel
theorem dX0_rulesOf_32 : decode cX0_rulesOf 32 = .ok (.goto (-28), 3) := by decide +kernel
theorem dX0_rulesOf_35 : decode cX0_rulesOf 35 = .ok (.iload_n 2, 1) := by decide +kernel
theorem dX0_rulesOf_36 : decode cX0_rulesOf 36 = .ok (.ireturn, 1) := by decide +kernel
theorem dX0_sitesOf_0 : decode cX0_sitesOf 0 = .ok (.iconst 0, 1) := by decide +kernel
theorem dX0_sitesOf_1 : decode cX0_sitesOf 1 = .ok (.istore_n 2, 1) := by decide +kernel
theorem dX0_sitesOf_2 : decode cX0_sitesOf 2 = .ok (.iconst 0, 1) := by decide +kernel
theorem dX0_sitesOf_3 : decode cX0_sitesOf 3 = .ok (.istore_n 3, 1) := by decide +kernel
theorem dX0_sitesOf_4 : decode cX0_sitesOf 4 = .ok (.iload_n 3, 1) := by decide +kernel
theorem dX0_sitesOf_5 : decode cX0_sitesOf 5 = .ok (.aload_n 0, 1) := by decide +kernel
theorem dX0_sitesOf_6 : decode cX0_sitesOf 6 = .ok (.getfield 70, 3) := by decide +kernel
theorem dX0_sitesOf_9 : decode cX0_sitesOf 9 = .ok (.if_icmp .ge 76, 3) := by decide +kernel
theorem dX0_sitesOf_12 : decode cX0_sitesOf 12 = .ok (.aload_n 0, 1) := by decide +kernel
theorem dX0_sitesOf_13 : decode cX0_sitesOf 13 = .ok (.aload_n 0, 1) := by decide +kernel
theorem dX0_sitesOf_14 : decode cX0_sitesOf 14 = .ok (.getfield 24, 3) := by decide +kernel
theorem dX0_sitesOf_17 : decode cX0_sitesOf 17 = .ok (.iload_n 3, 1) := by decide +kernel
theorem dX0_sitesOf_18 : decode cX0_sitesOf 18 = .ok (.iaload, 1) := by decide +kernel
theorem dX0_sitesOf_19 : decode cX0_sitesOf 19 = .ok (.invokevirtual 126, 3) := by decide +kernel
theorem dX0_sitesOf_22 : decode cX0_sitesOf 22 = .ok (.aload_n 0, 1) := by decide +kernel
theorem dX0_sitesOf_23 : decode cX0_sitesOf 23 = .ok (.getfield 45, 3) := by decide +kernel
theorem dX0_sitesOf_26 : decode cX0_sitesOf 26 = .ok (.aload_n 0, 1) := by decide +kernel
theorem dX0_sitesOf_27 : decode cX0_sitesOf 27 = .ok (.getfield 42, 3) := by decide +kernel
theorem dX0_sitesOf_30 : decode cX0_sitesOf 30 = .ok (.invokevirtual 118, 3) := by decide +kernel
theorem dX0_sitesOf_33 : decode cX0_sitesOf 33 = .ok (.bipush (-9), 2) := by decide +kernel
theorem dX0_sitesOf_35 : decode cX0_sitesOf 35 = .ok (.if_icmp .eq 7, 3) := by decide +kernel
theorem dX0_sitesOf_38 : decode cX0_sitesOf 38 = .ok (.iconst 1, 1) := by decide +kernel
theorem dX0_sitesOf_39 : decode cX0_sitesOf 39 = .ok (.goto 4, 3) := by decide +kernel
theorem dX0_sitesOf_42 : decode cX0_sitesOf 42 = .ok (.iconst 0, 1) := by decide +kernel
theorem dX0_sitesOf_43 : decode cX0_sitesOf 43 = .ok (.istore 4, 2) := by decide +kernel
theorem dX0_sitesOf_45 : decode cX0_sitesOf 45 = .ok (.aload_n 0, 1) := by decide +kernel
theorem dX0_sitesOf_46 : decode cX0_sitesOf 46 = .ok (.getfield 45, 3) := by decide +kernel
theorem dX0_sitesOf_49 : decode cX0_sitesOf 49 = .ok (.iload_n 1, 1) := by decide +kernel
theorem dX0_sitesOf_50 : decode cX0_sitesOf 50 = .ok (.invokevirtual 130, 3) := by decide +kernel
theorem dX0_sitesOf_53 : decode cX0_sitesOf 53 = .ok (.istore 5, 2) := by decide +kernel
theorem dX0_sitesOf_55 : decode cX0_sitesOf 55 = .ok (.iload_n 2, 1) := by decide +kernel
theorem dX0_sitesOf_56 : decode cX0_sitesOf 56 = .ok (.iload 4, 2) := by decide +kernel
theorem dX0_sitesOf_58 : decode cX0_sitesOf 58 = .ok (.ifCond .eq 17, 3) := by decide +kernel
theorem dX0_sitesOf_61 : decode cX0_sitesOf 61 = .ok (.iload 5, 2) := by decide +kernel
theorem dX0_sitesOf_63 : decode cX0_sitesOf 63 = .ok (.bipush (-9), 2) := by decide +kernel
theorem dX0_sitesOf_65 : decode cX0_sitesOf 65 = .ok (.if_icmp .eq 10, 3) := by decide +kernel
theorem dX0_sitesOf_68 : decode cX0_sitesOf 68 = .ok (.iconst 1, 1) := by decide +kernel
theorem dX0_sitesOf_69 : decode cX0_sitesOf 69 = .ok (.iload 5, 2) := by decide +kernel
theorem dX0_sitesOf_71 : decode cX0_sitesOf 71 = .ok (.ishl, 1) := by decide +kernel
theorem dX0_sitesOf_72 : decode cX0_sitesOf 72 = .ok (.goto 5, 3) := by decide +kernel
theorem dX0_sitesOf_75 : decode cX0_sitesOf 75 = .ok (.bipush 16, 2) := by decide +kernel
theorem dX0_sitesOf_77 : decode cX0_sitesOf 77 = .ok (.ior, 1) := by decide +kernel
theorem dX0_sitesOf_78 : decode cX0_sitesOf 78 = .ok (.istore_n 2, 1) := by decide +kernel
theorem dX0_sitesOf_79 : decode cX0_sitesOf 79 = .ok (.iinc 3 1, 3) := by decide +kernel
theorem dX0_sitesOf_82 : decode cX0_sitesOf 82 = .ok (.goto (-78), 3) := by decide +kernel
theorem dX0_sitesOf_85 : decode cX0_sitesOf 85 = .ok (.iload_n 2, 1) := by decide +kernel
theorem dX0_sitesOf_86 : decode cX0_sitesOf 86 = .ok (.ireturn, 1) := by decide +kernel
theorem dX0_seekTrial_0 : decode cX0_seekTrial 0 = .ok (.aload_n 0, 1) := by decide +kernel
theorem dX0_seekTrial_1 : decode cX0_seekTrial 1 = .ok (.getfield 50, 3) := by decide +kernel
theorem dX0_seekTrial_4 : decode cX0_seekTrial 4 = .ok (.ifCond .eq 4, 3) := by decide +kernel
theorem dX0_seekTrial_7 : decode cX0_seekTrial 7 = .ok (.return_, 1) := by decide +kernel
theorem dX0_seekTrial_8 : decode cX0_seekTrial 8 = .ok (.aload_n 0, 1) := by decide +kernel
theorem dX0_seekTrial_9 : decode cX0_seekTrial 9 = .ok (.iconst 1, 1) := by decide +kernel
theorem dX0_seekTrial_10 : decode cX0_seekTrial 10 = .ok (.putfield 50, 3) := by decide +kernel
theorem dX0_seekTrial_13 : decode cX0_seekTrial 13 = .ok (.aload_n 0, 1) := by decide +kernel
theorem dX0_seekTrial_14 : decode cX0_seekTrial 14 = .ok (.aload_n 0, 1) := by decide +kernel
theorem dX0_seekTrial_15 : decode cX0_seekTrial 15 = .ok (.getfield 70, 3) := by decide +kernel
theorem dX0_seekTrial_18 : decode cX0_seekTrial 18 = .ok (.iconst 1, 1) := by decide +kernel
theorem dX0_seekTrial_19 : decode cX0_seekTrial 19 = .ok (.iadd, 1) := by decide +kernel
theorem dX0_seekTrial_20 : decode cX0_seekTrial 20 = .ok (.putfield 133, 3) := by decide +kernel
theorem dX0_seekTrial_23 : decode cX0_seekTrial 23 = .ok (.iconst 0, 1) := by decide +kernel
theorem dX0_seekTrial_24 : decode cX0_seekTrial 24 = .ok (.istore_n 1, 1) := by decide +kernel
theorem dX0_seekTrial_25 : decode cX0_seekTrial 25 = .ok (.iload_n 1, 1) := by decide +kernel
theorem dX0_seekTrial_26 : decode cX0_seekTrial 26 = .ok (.aload_n 0, 1) := by decide +kernel
theorem dX0_seekTrial_27 : decode cX0_seekTrial 27 = .ok (.getfield 42, 3) := by decide +kernel
theorem dX0_seekTrial_30 : decode cX0_seekTrial 30 = .ok (.getfield 136, 3) := by decide +kernel
theorem dX0_seekTrial_33 : decode cX0_seekTrial 33 = .ok (.if_icmp .ge 84, 3) := by decide +kernel
theorem dX0_seekTrial_36 : decode cX0_seekTrial 36 = .ok (.iconst 0, 1) := by decide +kernel
theorem dX0_seekTrial_37 : decode cX0_seekTrial 37 = .ok (.istore_n 2, 1) := by decide +kernel
theorem dX0_seekTrial_38 : decode cX0_seekTrial 38 = .ok (.iload_n 2, 1) := by decide +kernel
theorem dX0_seekTrial_39 : decode cX0_seekTrial 39 = .ok (.iconst 4, 1) := by decide +kernel
theorem dX0_seekTrial_40 : decode cX0_seekTrial 40 = .ok (.if_icmp .gt 71, 3) := by decide +kernel
theorem dX0_seekTrial_43 : decode cX0_seekTrial 43 = .ok (.aload_n 0, 1) := by decide +kernel
theorem dX0_seekTrial_44 : decode cX0_seekTrial 44 = .ok (.getfield 42, 3) := by decide +kernel
theorem dX0_seekTrial_47 : decode cX0_seekTrial 47 = .ok (.getfield 137, 3) := by decide +kernel
theorem dX0_seekTrial_50 : decode cX0_seekTrial 50 = .ok (.iload_n 1, 1) := by decide +kernel
theorem dX0_seekTrial_51 : decode cX0_seekTrial 51 = .ok (.baload, 1) := by decide +kernel
theorem dX0_seekTrial_52 : decode cX0_seekTrial 52 = .ok (.ifCond .eq 59, 3) := by decide +kernel
theorem dX0_seekTrial_55 : decode cX0_seekTrial 55 = .ok (.iload_n 2, 1) := by decide +kernel
theorem dX0_seekTrial_56 : decode cX0_seekTrial 56 = .ok (.aload_n 0, 1) := by decide +kernel
theorem dX0_seekTrial_57 : decode cX0_seekTrial 57 = .ok (.getfield 42, 3) := by decide +kernel
theorem dX0_seekTrial_60 : decode cX0_seekTrial 60 = .ok (.getfield 141, 3) := by decide +kernel
theorem dX0_seekTrial_63 : decode cX0_seekTrial 63 = .ok (.iload_n 1, 1) := by decide +kernel
theorem dX0_seekTrial_64 : decode cX0_seekTrial 64 = .ok (.iaload, 1) := by decide +kernel
theorem dX0_seekTrial_65 : decode cX0_seekTrial 65 = .ok (.if_icmp .ne 10, 3) := by decide +kernel
theorem dX0_seekTrial_68 : decode cX0_seekTrial 68 = .ok (.aload_n 0, 1) := by decide +kernel
theorem dX0_seekTrial_69 : decode cX0_seekTrial 69 = .ok (.getfield 133, 3) := by decide +kernel
theorem dX0_seekTrial_72 : decode cX0_seekTrial 72 = .ok (.goto 9, 3) := by decide +kernel
theorem dX0_seekTrial_75 : decode cX0_seekTrial 75 = .ok (.aload_n 0, 1) := by decide +kernel
theorem dX0_seekTrial_76 : decode cX0_seekTrial 76 = .ok (.iload_n 1, 1) := by decide +kernel
theorem dX0_seekTrial_77 : decode cX0_seekTrial 77 = .ok (.iload_n 2, 1) := by decide +kernel
theorem dX0_seekTrial_78 : decode cX0_seekTrial 78 = .ok (.invokevirtual 144, 3) := by decide +kernel
theorem dX0_seekTrial_81 : decode cX0_seekTrial 81 = .ok (.istore_n 3, 1) := by decide +kernel
theorem dX0_seekTrial_82 : decode cX0_seekTrial 82 = .ok (.iload_n 3, 1) := by decide +kernel
theorem dX0_seekTrial_83 : decode cX0_seekTrial 83 = .ok (.aload_n 0, 1) := by decide +kernel
theorem dX0_seekTrial_84 : decode cX0_seekTrial 84 = .ok (.getfield 133, 3) := by decide +kernel
theorem dX0_seekTrial_87 : decode cX0_seekTrial 87 = .ok (.if_icmp .ge 18, 3) := by decide +kernel
theorem dX0_seekTrial_90 : decode cX0_seekTrial 90 = .ok (.aload_n 0, 1) := by decide +kernel
theorem dX0_seekTrial_91 : decode cX0_seekTrial 91 = .ok (.iload_n 3, 1) := by decide +kernel
theorem dX0_seekTrial_92 : decode cX0_seekTrial 92 = .ok (.putfield 133, 3) := by decide +kernel
theorem dX0_seekTrial_95 : decode cX0_seekTrial 95 = .ok (.aload_n 0, 1) := by decide +kernel
theorem dX0_seekTrial_96 : decode cX0_seekTrial 96 = .ok (.iload_n 1, 1) := by decide +kernel
theorem dX0_seekTrial_97 : decode cX0_seekTrial 97 = .ok (.putfield 147, 3) := by decide +kernel
theorem dX0_seekTrial_100 : decode cX0_seekTrial 100 = .ok (.aload_n 0, 1) := by decide +kernel
theorem dX0_seekTrial_101 : decode cX0_seekTrial 101 = .ok (.iload_n 2, 1) := by decide +kernel
theorem dX0_seekTrial_102 : decode cX0_seekTrial 102 = .ok (.putfield 150, 3) := by decide +kernel
theorem dX0_seekTrial_105 : decode cX0_seekTrial 105 = .ok (.iinc 2 1, 3) := by decide +kernel
theorem dX0_seekTrial_108 : decode cX0_seekTrial 108 = .ok (.goto (-70), 3) := by decide +kernel
theorem dX0_seekTrial_111 : decode cX0_seekTrial 111 = .ok (.iinc 1 1, 3) := by decide +kernel
theorem dX0_seekTrial_114 : decode cX0_seekTrial 114 = .ok (.goto (-89), 3) := by decide +kernel
theorem dX0_seekTrial_117 : decode cX0_seekTrial 117 = .ok (.return_, 1) := by decide +kernel
theorem dX0_greatestAlike_0 : decode cX0_greatestAlike 0 = .ok (.aload_n 0, 1) := by decide +kernel
theorem dX0_greatestAlike_1 : decode cX0_greatestAlike 1 = .ok (.getfield 12, 3) := by decide +kernel
theorem dX0_greatestAlike_4 : decode cX0_greatestAlike 4 = .ok (.aload_n 0, 1) := by decide +kernel
theorem dX0_greatestAlike_5 : decode cX0_greatestAlike 5 = .ok (.getfield 42, 3) := by decide +kernel
theorem dX0_greatestAlike_8 : decode cX0_greatestAlike 8 = .ok (.invokevirtual 60, 3) := by decide +kernel
theorem dX0_greatestAlike_11 : decode cX0_greatestAlike 11 = .ok (.aload_n 0, 1) := by decide +kernel
theorem dX0_greatestAlike_12 : decode cX0_greatestAlike 12 = .ok (.getfield 12, 3) := by decide +kernel
theorem dX0_greatestAlike_15 : decode cX0_greatestAlike 15 = .ok (.getfield 141, 3) := by decide +kernel
theorem dX0_greatestAlike_18 : decode cX0_greatestAlike 18 = .ok (.iload_n 1, 1) := by decide +kernel
theorem dX0_greatestAlike_19 : decode cX0_greatestAlike 19 = .ok (.iload_n 2, 1) := by decide +kernel
theorem dX0_greatestAlike_20 : decode cX0_greatestAlike 20 = .ok (.iastore, 1) := by decide +kernel
theorem dX0_greatestAlike_21 : decode cX0_greatestAlike 21 = .ok (.aload_n 0, 1) := by decide +kernel
theorem dX0_greatestAlike_22 : decode cX0_greatestAlike 22 = .ok (.iconst 0, 1) := by decide +kernel
theorem dX0_greatestAlike_23 : decode cX0_greatestAlike 23 = .ok (.putfield 153, 3) := by decide +kernel
theorem dX0_greatestAlike_26 : decode cX0_greatestAlike 26 = .ok (.iconst 0, 1) := by decide +kernel
theorem dX0_greatestAlike_27 : decode cX0_greatestAlike 27 = .ok (.istore_n 3, 1) := by decide +kernel
theorem dX0_greatestAlike_28 : decode cX0_greatestAlike 28 = .ok (.iconst 0, 1) := by decide +kernel
theorem dX0_greatestAlike_29 : decode cX0_greatestAlike 29 = .ok (.istore 4, 2) := by decide +kernel
theorem dX0_greatestAlike_31 : decode cX0_greatestAlike 31 = .ok (.iload 4, 2) := by decide +kernel
theorem dX0_greatestAlike_33 : decode cX0_greatestAlike 33 = .ok (.aload_n 0, 1) := by decide +kernel
theorem dX0_greatestAlike_34 : decode cX0_greatestAlike 34 = .ok (.getfield 70, 3) := by decide +kernel
theorem dX0_greatestAlike_37 : decode cX0_greatestAlike 37 = .ok (.if_icmp .ge 68, 3) := by decide +kernel
theorem dX0_greatestAlike_40 : decode cX0_greatestAlike 40 = .ok (.iload_n 3, 1) := by decide +kernel
theorem dX0_greatestAlike_41 : decode cX0_greatestAlike 41 = .ok (.aload_n 0, 1) := by decide +kernel
theorem dX0_greatestAlike_42 : decode cX0_greatestAlike 42 = .ok (.getfield 133, 3) := by decide +kernel
theorem dX0_greatestAlike_45 : decode cX0_greatestAlike 45 = .ok (.if_icmp .ge 60, 3) := by decide +kernel
theorem dX0_greatestAlike_48 : decode cX0_greatestAlike 48 = .ok (.aload_n 0, 1) := by decide +kernel
theorem dX0_greatestAlike_49 : decode cX0_greatestAlike 49 = .ok (.aload_n 0, 1) := by decide +kernel
theorem dX0_greatestAlike_50 : decode cX0_greatestAlike 50 = .ok (.getfield 24, 3) := by decide +kernel
theorem dX0_greatestAlike_53 : decode cX0_greatestAlike 53 = .ok (.iload 4, 2) := by decide +kernel
theorem dX0_greatestAlike_55 : decode cX0_greatestAlike 55 = .ok (.iaload, 1) := by decide +kernel
theorem dX0_greatestAlike_56 : decode cX0_greatestAlike 56 = .ok (.invokevirtual 126, 3) := by decide +kernel
theorem dX0_greatestAlike_59 : decode cX0_greatestAlike 59 = .ok (.aload_n 0, 1) := by decide +kernel
theorem dX0_greatestAlike_60 : decode cX0_greatestAlike 60 = .ok (.getfield 45, 3) := by decide +kernel
theorem dX0_greatestAlike_63 : decode cX0_greatestAlike 63 = .ok (.aload_n 0, 1) := by decide +kernel
theorem dX0_greatestAlike_64 : decode cX0_greatestAlike 64 = .ok (.getfield 12, 3) := by decide +kernel
theorem dX0_greatestAlike_67 : decode cX0_greatestAlike 67 = .ok (.invokevirtual 118, 3) := by decide +kernel
theorem dX0_greatestAlike_70 : decode cX0_greatestAlike 70 = .ok (.bipush (-9), 2) := by decide +kernel
theorem dX0_greatestAlike_72 : decode cX0_greatestAlike 72 = .ok (.if_icmp .ne 7, 3) := by decide +kernel
theorem dX0_greatestAlike_75 : decode cX0_greatestAlike 75 = .ok (.iconst (-1), 1) := by decide +kernel
theorem dX0_greatestAlike_76 : decode cX0_greatestAlike 76 = .ok (.goto 10, 3) := by decide +kernel
theorem dX0_greatestAlike_79 : decode cX0_greatestAlike 79 = .ok (.aload_n 0, 1) := by decide +kernel
theorem dX0_greatestAlike_80 : decode cX0_greatestAlike 80 = .ok (.getfield 45, 3) := by decide +kernel
theorem dX0_greatestAlike_83 : decode cX0_greatestAlike 83 = .ok (.invokevirtual 156, 3) := by decide +kernel
theorem dX0_greatestAlike_86 : decode cX0_greatestAlike 86 = .ok (.istore 5, 2) := by decide +kernel
theorem dX0_greatestAlike_88 : decode cX0_greatestAlike 88 = .ok (.iload_n 3, 1) := by decide +kernel
theorem dX0_greatestAlike_89 : decode cX0_greatestAlike 89 = .ok (.aload_n 0, 1) := by decide +kernel
theorem dX0_greatestAlike_90 : decode cX0_greatestAlike 90 = .ok (.iload 5, 2) := by decide +kernel
theorem dX0_greatestAlike_92 : decode cX0_greatestAlike 92 = .ok (.invokevirtual 159, 3) := by decide +kernel
theorem dX0_greatestAlike_95 : decode cX0_greatestAlike 95 = .ok (.invokestatic 87, 3) := by decide +kernel
theorem dX0_greatestAlike_98 : decode cX0_greatestAlike 98 = .ok (.istore_n 3, 1) := by decide +kernel
theorem dX0_greatestAlike_99 : decode cX0_greatestAlike 99 = .ok (.iinc 4 1, 3) := by decide +kernel
theorem dX0_greatestAlike_102 : decode cX0_greatestAlike 102 = .ok (.goto (-71), 3) := by decide +kernel
theorem dX0_greatestAlike_105 : decode cX0_greatestAlike 105 = .ok (.iload_n 3, 1) := by decide +kernel
theorem dX0_greatestAlike_106 : decode cX0_greatestAlike 106 = .ok (.ireturn, 1) := by decide +kernel
theorem dX0_countAlike_0 : decode cX0_countAlike 0 = .ok (.iconst 0, 1) := by decide +kernel
theorem dX0_countAlike_1 : decode cX0_countAlike 1 = .ok (.istore_n 2, 1) := by decide +kernel
theorem dX0_countAlike_2 : decode cX0_countAlike 2 = .ok (.iload_n 2, 1) := by decide +kernel
theorem dX0_countAlike_3 : decode cX0_countAlike 3 = .ok (.aload_n 0, 1) := by decide +kernel
theorem dX0_countAlike_4 : decode cX0_countAlike 4 = .ok (.getfield 153, 3) := by decide +kernel
theorem dX0_countAlike_7 : decode cX0_countAlike 7 = .ok (.if_icmp .ge 36, 3) := by decide +kernel
theorem dX0_countAlike_10 : decode cX0_countAlike 10 = .ok (.aload_n 0, 1) := by decide +kernel
theorem dX0_countAlike_11 : decode cX0_countAlike 11 = .ok (.getfield 28, 3) := by decide +kernel
theorem dX0_countAlike_14 : decode cX0_countAlike 14 = .ok (.iload_n 2, 1) := by decide +kernel
theorem dX0_countAlike_15 : decode cX0_countAlike 15 = .ok (.iaload, 1) := by decide +kernel
theorem dX0_countAlike_16 : decode cX0_countAlike 16 = .ok (.iload_n 1, 1) := by decide +kernel
theorem dX0_countAlike_17 : decode cX0_countAlike 17 = .ok (.if_icmp .ne 20, 3) := by decide +kernel
theorem dX0_countAlike_20 : decode cX0_countAlike 20 = .ok (.aload_n 0, 1) := by decide +kernel
theorem dX0_countAlike_21 : decode cX0_countAlike 21 = .ok (.getfield 31, 3) := by decide +kernel
theorem dX0_countAlike_24 : decode cX0_countAlike 24 = .ok (.iload_n 2, 1) := by decide +kernel
theorem dX0_countAlike_25 : decode cX0_countAlike 25 = .ok (.dup2, 1) := by decide +kernel
theorem dX0_countAlike_26 : decode cX0_countAlike 26 = .ok (.iaload, 1) := by decide +kernel
theorem dX0_countAlike_27 : decode cX0_countAlike 27 = .ok (.iconst 1, 1) := by decide +kernel
theorem dX0_countAlike_28 : decode cX0_countAlike 28 = .ok (.iadd, 1) := by decide +kernel
theorem dX0_countAlike_29 : decode cX0_countAlike 29 = .ok (.iastore, 1) := by decide +kernel
theorem dX0_countAlike_30 : decode cX0_countAlike 30 = .ok (.aload_n 0, 1) := by decide +kernel
theorem dX0_countAlike_31 : decode cX0_countAlike 31 = .ok (.getfield 31, 3) := by decide +kernel
theorem dX0_countAlike_34 : decode cX0_countAlike 34 = .ok (.iload_n 2, 1) := by decide +kernel
theorem dX0_countAlike_35 : decode cX0_countAlike 35 = .ok (.iaload, 1) := by decide +kernel
theorem dX0_countAlike_36 : decode cX0_countAlike 36 = .ok (.ireturn, 1) := by decide +kernel
theorem dX0_countAlike_37 : decode cX0_countAlike 37 = .ok (.iinc 2 1, 3) := by decide +kernel
theorem dX0_countAlike_40 : decode cX0_countAlike 40 = .ok (.goto (-38), 3) := by decide +kernel
theorem dX0_countAlike_43 : decode cX0_countAlike 43 = .ok (.aload_n 0, 1) := by decide +kernel
theorem dX0_countAlike_44 : decode cX0_countAlike 44 = .ok (.getfield 28, 3) := by decide +kernel
theorem dX0_countAlike_47 : decode cX0_countAlike 47 = .ok (.aload_n 0, 1) := by decide +kernel
theorem dX0_countAlike_48 : decode cX0_countAlike 48 = .ok (.getfield 153, 3) := by decide +kernel
theorem dX0_countAlike_51 : decode cX0_countAlike 51 = .ok (.iload_n 1, 1) := by decide +kernel
theorem dX0_countAlike_52 : decode cX0_countAlike 52 = .ok (.iastore, 1) := by decide +kernel
theorem dX0_countAlike_53 : decode cX0_countAlike 53 = .ok (.aload_n 0, 1) := by decide +kernel
theorem dX0_countAlike_54 : decode cX0_countAlike 54 = .ok (.getfield 31, 3) := by decide +kernel
theorem dX0_countAlike_57 : decode cX0_countAlike 57 = .ok (.aload_n 0, 1) := by decide +kernel
theorem dX0_countAlike_58 : decode cX0_countAlike 58 = .ok (.getfield 153, 3) := by decide +kernel
theorem dX0_countAlike_61 : decode cX0_countAlike 61 = .ok (.iconst 1, 1) := by decide +kernel
theorem dX0_countAlike_62 : decode cX0_countAlike 62 = .ok (.iastore, 1) := by decide +kernel
theorem dX0_countAlike_63 : decode cX0_countAlike 63 = .ok (.aload_n 0, 1) := by decide +kernel
theorem dX0_countAlike_64 : decode cX0_countAlike 64 = .ok (.dup, 1) := by decide +kernel
theorem dX0_countAlike_65 : decode cX0_countAlike 65 = .ok (.getfield 153, 3) := by decide +kernel
theorem dX0_countAlike_68 : decode cX0_countAlike 68 = .ok (.iconst 1, 1) := by decide +kernel
theorem dX0_countAlike_69 : decode cX0_countAlike 69 = .ok (.iadd, 1) := by decide +kernel
theorem dX0_countAlike_70 : decode cX0_countAlike 70 = .ok (.putfield 153, 3) := by decide +kernel
theorem dX0_countAlike_73 : decode cX0_countAlike 73 = .ok (.iconst 1, 1) := by decide +kernel
theorem dX0_countAlike_74 : decode cX0_countAlike 74 = .ok (.ireturn, 1) := by decide +kernel
theorem dX1_init_0 : decode cX1_init 0 = .ok (.aload_n 0, 1) := by decide +kernel
theorem dX1_init_1 : decode cX1_init 1 = .ok (.invokespecial 3, 3) := by decide +kernel
theorem dX1_init_4 : decode cX1_init 4 = .ok (.aload_n 0, 1) := by decide +kernel
theorem dX1_init_5 : decode cX1_init 5 = .ok (.new 9, 3) := by decide +kernel
theorem dX1_init_8 : decode cX1_init 8 = .ok (.dup, 1) := by decide +kernel
theorem dX1_init_9 : decode cX1_init 9 = .ok (.invokespecial 11, 3) := by decide +kernel
theorem dX1_init_12 : decode cX1_init 12 = .ok (.putfield 12, 3) := by decide +kernel
theorem dX1_init_15 : decode cX1_init 15 = .ok (.aload_n 0, 1) := by decide +kernel
theorem dX1_init_16 : decode cX1_init 16 = .ok (.iconst 4, 1) := by decide +kernel
theorem dX1_init_17 : decode cX1_init 17 = .ok (.newarray .int, 2) := by decide +kernel
theorem dX1_init_19 : decode cX1_init 19 = .ok (.putfield 18, 3) := by decide +kernel
theorem dX1_init_22 : decode cX1_init 22 = .ok (.aload_n 0, 1) := by decide +kernel
theorem dX1_init_23 : decode cX1_init 23 = .ok (.sipush 625, 3) := by decide +kernel
theorem dX1_init_26 : decode cX1_init 26 = .ok (.newarray .int, 2) := by decide +kernel
theorem dX1_init_28 : decode cX1_init 28 = .ok (.putfield 22, 3) := by decide +kernel
theorem dX1_init_31 : decode cX1_init 31 = .ok (.aload_n 0, 1) := by decide +kernel
theorem dX1_init_32 : decode cX1_init 32 = .ok (.sipush 625, 3) := by decide +kernel
theorem dX1_init_35 : decode cX1_init 35 = .ok (.newarray .int, 2) := by decide +kernel
theorem dX1_init_37 : decode cX1_init 37 = .ok (.putfield 25, 3) := by decide +kernel
theorem dX1_init_40 : decode cX1_init 40 = .ok (.aload_n 0, 1) := by decide +kernel
theorem dX1_init_41 : decode cX1_init 41 = .ok (.iconst 4, 1) := by decide +kernel
theorem dX1_init_42 : decode cX1_init 42 = .ok (.newarray .int, 2) := by decide +kernel
theorem dX1_init_44 : decode cX1_init 44 = .ok (.putfield 28, 3) := by decide +kernel
theorem dX1_init_47 : decode cX1_init 47 = .ok (.aload_n 0, 1) := by decide +kernel
theorem dX1_init_48 : decode cX1_init 48 = .ok (.iconst 4, 1) := by decide +kernel
theorem dX1_init_49 : decode cX1_init 49 = .ok (.newarray .int, 2) := by decide +kernel
theorem dX1_init_51 : decode cX1_init 51 = .ok (.putfield 31, 3) := by decide +kernel
theorem dX1_init_54 : decode cX1_init 54 = .ok (.aload_n 0, 1) := by decide +kernel
theorem dX1_init_55 : decode cX1_init 55 = .ok (.iconst 1, 1) := by decide +kernel
theorem dX1_init_56 : decode cX1_init 56 = .ok (.putfield 34, 3) := by decide +kernel
theorem dX1_init_59 : decode cX1_init 59 = .ok (.aload_n 0, 1) := by decide +kernel
theorem dX1_init_60 : decode cX1_init 60 = .ok (.aload_n 1, 1) := by decide +kernel
theorem dX1_init_61 : decode cX1_init 61 = .ok (.putfield 38, 3) := by decide +kernel
theorem dX1_init_64 : decode cX1_init 64 = .ok (.aload_n 0, 1) := by decide +kernel
theorem dX1_init_65 : decode cX1_init 65 = .ok (.aload_n 2, 1) := by decide +kernel
theorem dX1_init_66 : decode cX1_init 66 = .ok (.putfield 42, 3) := by decide +kernel
theorem dX1_init_69 : decode cX1_init 69 = .ok (.aload_n 0, 1) := by decide +kernel
theorem dX1_init_70 : decode cX1_init 70 = .ok (.aload_n 3, 1) := by decide +kernel
theorem dX1_init_71 : decode cX1_init 71 = .ok (.putfield 46, 3) := by decide +kernel
theorem dX1_init_74 : decode cX1_init 74 = .ok (.aload_n 0, 1) := by decide +kernel
theorem dX1_init_75 : decode cX1_init 75 = .ok (.aload 4, 2) := by decide +kernel
theorem dX1_init_77 : decode cX1_init 77 = .ok (.putfield 49, 3) := by decide +kernel
theorem dX1_init_80 : decode cX1_init 80 = .ok (.return_, 1) := by decide +kernel
theorem dX1_forget_0 : decode cX1_forget 0 = .ok (.aload_n 0, 1) := by decide +kernel
theorem dX1_forget_1 : decode cX1_forget 1 = .ok (.iconst 1, 1) := by decide +kernel
theorem dX1_forget_2 : decode cX1_forget 2 = .ok (.putfield 34, 3) := by decide +kernel
theorem dX1_forget_5 : decode cX1_forget 5 = .ok (.return_, 1) := by decide +kernel
theorem dX1_pickNow_0 : decode cX1_pickNow 0 = .ok (.iconst 0, 1) := by decide +kernel
theorem dX1_pickNow_1 : decode cX1_pickNow 1 = .ok (.istore_n 1, 1) := by decide +kernel
theorem dX1_pickNow_2 : decode cX1_pickNow 2 = .ok (.iload_n 1, 1) := by decide +kernel
theorem dX1_pickNow_3 : decode cX1_pickNow 3 = .ok (.iconst 4, 1) := by decide +kernel
theorem dX1_pickNow_4 : decode cX1_pickNow 4 = .ok (.if_icmp .ge 39, 3) := by decide +kernel
theorem dX1_pickNow_7 : decode cX1_pickNow 7 = .ok (.aload_n 0, 1) := by decide +kernel
theorem dX1_pickNow_8 : decode cX1_pickNow 8 = .ok (.getfield 28, 3) := by decide +kernel
theorem dX1_pickNow_11 : decode cX1_pickNow 11 = .ok (.iload_n 1, 1) := by decide +kernel
theorem dX1_pickNow_12 : decode cX1_pickNow 12 = .ok (.aload_n 0, 1) := by decide +kernel
theorem dX1_pickNow_13 : decode cX1_pickNow 13 = .ok (.getfield 46, 3) := by decide +kernel
theorem dX1_pickNow_16 : decode cX1_pickNow 16 = .ok (.iload_n 1, 1) := by decide +kernel
theorem dX1_pickNow_17 : decode cX1_pickNow 17 = .ok (.invokevirtual 53, 3) := by decide +kernel
theorem dX1_pickNow_20 : decode cX1_pickNow 20 = .ok (.ifCond .eq 15, 3) := by decide +kernel
theorem dX1_pickNow_23 : decode cX1_pickNow 23 = .ok (.aload_n 0, 1) := by decide +kernel
theorem dX1_pickNow_24 : decode cX1_pickNow 24 = .ok (.getfield 46, 3) := by decide +kernel
theorem dX1_pickNow_27 : decode cX1_pickNow 27 = .ok (.getfield 57, 3) := by decide +kernel
theorem dX1_pickNow_30 : decode cX1_pickNow 30 = .ok (.iload_n 1, 1) := by decide +kernel
theorem dX1_pickNow_31 : decode cX1_pickNow 31 = .ok (.iaload, 1) := by decide +kernel
theorem dX1_pickNow_32 : decode cX1_pickNow 32 = .ok (.goto 4, 3) := by decide +kernel
theorem dX1_pickNow_35 : decode cX1_pickNow 35 = .ok (.iconst 4, 1) := by decide +kernel
theorem dX1_pickNow_36 : decode cX1_pickNow 36 = .ok (.iastore, 1) := by decide +kernel
theorem dX1_pickNow_37 : decode cX1_pickNow 37 = .ok (.iinc 1 1, 3) := by decide +kernel
theorem dX1_pickNow_40 : decode cX1_pickNow 40 = .ok (.goto (-38), 3) := by decide +kernel
theorem dX1_pickNow_43 : decode cX1_pickNow 43 = .ok (.return_, 1) := by decide +kernel
theorem dX1_pickFirst_0 : decode cX1_pickFirst 0 = .ok (.iconst 0, 1) := by decide +kernel
theorem dX1_pickFirst_1 : decode cX1_pickFirst 1 = .ok (.istore_n 1, 1) := by decide +kernel
theorem dX1_pickFirst_2 : decode cX1_pickFirst 2 = .ok (.iload_n 1, 1) := by decide +kernel
theorem dX1_pickFirst_3 : decode cX1_pickFirst 3 = .ok (.iconst 4, 1) := by decide +kernel
theorem dX1_pickFirst_4 : decode cX1_pickFirst 4 = .ok (.if_icmp .ge 43, 3) := by decide +kernel
theorem dX1_pickFirst_7 : decode cX1_pickFirst 7 = .ok (.aload_n 0, 1) := by decide +kernel
theorem dX1_pickFirst_8 : decode cX1_pickFirst 8 = .ok (.getfield 28, 3) := by decide +kernel
theorem dX1_pickFirst_11 : decode cX1_pickFirst 11 = .ok (.iload_n 1, 1) := by decide +kernel
theorem dX1_pickFirst_12 : decode cX1_pickFirst 12 = .ok (.aload_n 0, 1) := by decide +kernel
theorem dX1_pickFirst_13 : decode cX1_pickFirst 13 = .ok (.getfield 46, 3) := by decide +kernel
theorem dX1_pickFirst_16 : decode cX1_pickFirst 16 = .ok (.iload_n 1, 1) := by decide +kernel
theorem dX1_pickFirst_17 : decode cX1_pickFirst 17 = .ok (.invokevirtual 60, 3) := by decide +kernel
theorem dX1_pickFirst_20 : decode cX1_pickFirst 20 = .ok (.ifCond .eq 19, 3) := by decide +kernel
theorem dX1_pickFirst_23 : decode cX1_pickFirst 23 = .ok (.aload_n 0, 1) := by decide +kernel
theorem dX1_pickFirst_24 : decode cX1_pickFirst 24 = .ok (.getfield 46, 3) := by decide +kernel
theorem dX1_pickFirst_27 : decode cX1_pickFirst 27 = .ok (.getfield 63, 3) := by decide +kernel
theorem dX1_pickFirst_30 : decode cX1_pickFirst 30 = .ok (.iload_n 1, 1) := by decide +kernel
theorem dX1_pickFirst_31 : decode cX1_pickFirst 31 = .ok (.baload, 1) := by decide +kernel
theorem dX1_pickFirst_32 : decode cX1_pickFirst 32 = .ok (.ifCond .eq 7, 3) := by decide +kernel
theorem dX1_pickFirst_35 : decode cX1_pickFirst 35 = .ok (.iconst 0, 1) := by decide +kernel
theorem dX1_pickFirst_36 : decode cX1_pickFirst 36 = .ok (.goto 4, 3) := by decide +kernel
theorem dX1_pickFirst_39 : decode cX1_pickFirst 39 = .ok (.iconst 4, 1) := by decide +kernel
theorem dX1_pickFirst_40 : decode cX1_pickFirst 40 = .ok (.iastore, 1) := by decide +kernel
theorem dX1_pickFirst_41 : decode cX1_pickFirst 41 = .ok (.iinc 1 1, 3) := by decide +kernel
theorem dX1_pickFirst_44 : decode cX1_pickFirst 44 = .ok (.goto (-42), 3) := by decide +kernel
theorem dX1_pickFirst_47 : decode cX1_pickFirst 47 = .ok (.return_, 1) := by decide +kernel
theorem dX1_pickNext_0 : decode cX1_pickNext 0 = .ok (.aload_n 0, 1) := by decide +kernel
theorem dX1_pickNext_1 : decode cX1_pickNext 1 = .ok (.getfield 46, 3) := by decide +kernel
theorem dX1_pickNext_4 : decode cX1_pickNext 4 = .ok (.getfield 67, 3) := by decide +kernel
theorem dX1_pickNext_7 : decode cX1_pickNext 7 = .ok (.iconst 1, 1) := by decide +kernel
theorem dX1_pickNext_8 : decode cX1_pickNext 8 = .ok (.isub, 1) := by decide +kernel
theorem dX1_pickNext_9 : decode cX1_pickNext 9 = .ok (.istore_n 1, 1) := by decide +kernel
theorem dX1_pickNext_10 : decode cX1_pickNext 10 = .ok (.iload_n 1, 1) := by decide +kernel
theorem dX1_pickNext_11 : decode cX1_pickNext 11 = .ok (.ifCond .lt 66, 3) := by decide +kernel
theorem dX1_pickNext_14 : decode cX1_pickNext 14 = .ok (.aload_n 0, 1) := by decide +kernel
theorem dX1_pickNext_15 : decode cX1_pickNext 15 = .ok (.getfield 46, 3) := by decide +kernel
theorem dX1_pickNext_18 : decode cX1_pickNext 18 = .ok (.getfield 63, 3) := by decide +kernel
theorem dX1_pickNext_21 : decode cX1_pickNext 21 = .ok (.iload_n 1, 1) := by decide +kernel
theorem dX1_pickNext_22 : decode cX1_pickNext 22 = .ok (.baload, 1) := by decide +kernel
theorem dX1_pickNext_23 : decode cX1_pickNext 23 = .ok (.ifCond .eq 25, 3) := by decide +kernel
theorem dX1_pickNext_26 : decode cX1_pickNext 26 = .ok (.aload_n 0, 1) := by decide +kernel
theorem dX1_pickNext_27 : decode cX1_pickNext 27 = .ok (.getfield 28, 3) := by decide +kernel
theorem dX1_pickNext_30 : decode cX1_pickNext 30 = .ok (.iload_n 1, 1) := by decide +kernel
theorem dX1_pickNext_31 : decode cX1_pickNext 31 = .ok (.iaload, 1) := by decide +kernel
theorem dX1_pickNext_32 : decode cX1_pickNext 32 = .ok (.iconst 4, 1) := by decide +kernel
theorem dX1_pickNext_33 : decode cX1_pickNext 33 = .ok (.if_icmp .ge 15, 3) := by decide +kernel
theorem dX1_pickNext_36 : decode cX1_pickNext 36 = .ok (.aload_n 0, 1) := by decide +kernel
theorem dX1_pickNext_37 : decode cX1_pickNext 37 = .ok (.getfield 28, 3) := by decide +kernel
theorem dX1_pickNext_40 : decode cX1_pickNext 40 = .ok (.iload_n 1, 1) := by decide +kernel
theorem dX1_pickNext_41 : decode cX1_pickNext 41 = .ok (.dup2, 1) := by decide +kernel
theorem dX1_pickNext_42 : decode cX1_pickNext 42 = .ok (.iaload, 1) := by decide +kernel
theorem dX1_pickNext_43 : decode cX1_pickNext 43 = .ok (.iconst 1, 1) := by decide +kernel
theorem dX1_pickNext_44 : decode cX1_pickNext 44 = .ok (.iadd, 1) := by decide +kernel
theorem dX1_pickNext_45 : decode cX1_pickNext 45 = .ok (.iastore, 1) := by decide +kernel
theorem dX1_pickNext_46 : decode cX1_pickNext 46 = .ok (.iconst 1, 1) := by decide +kernel
theorem dX1_pickNext_47 : decode cX1_pickNext 47 = .ok (.ireturn, 1) := by decide +kernel
theorem dX1_pickNext_48 : decode cX1_pickNext 48 = .ok (.aload_n 0, 1) := by decide +kernel
theorem dX1_pickNext_49 : decode cX1_pickNext 49 = .ok (.getfield 28, 3) := by decide +kernel
theorem dX1_pickNext_52 : decode cX1_pickNext 52 = .ok (.iload_n 1, 1) := by decide +kernel
theorem dX1_pickNext_53 : decode cX1_pickNext 53 = .ok (.aload_n 0, 1) := by decide +kernel
theorem dX1_pickNext_54 : decode cX1_pickNext 54 = .ok (.getfield 46, 3) := by decide +kernel
theorem dX1_pickNext_57 : decode cX1_pickNext 57 = .ok (.getfield 63, 3) := by decide +kernel
theorem dX1_pickNext_60 : decode cX1_pickNext 60 = .ok (.iload_n 1, 1) := by decide +kernel
theorem dX1_pickNext_61 : decode cX1_pickNext 61 = .ok (.baload, 1) := by decide +kernel
theorem dX1_pickNext_62 : decode cX1_pickNext 62 = .ok (.ifCond .eq 7, 3) := by decide +kernel
theorem dX1_pickNext_65 : decode cX1_pickNext 65 = .ok (.iconst 0, 1) := by decide +kernel
theorem dX1_pickNext_66 : decode cX1_pickNext 66 = .ok (.goto 4, 3) := by decide +kernel
theorem dX1_pickNext_69 : decode cX1_pickNext 69 = .ok (.iconst 4, 1) := by decide +kernel
theorem dX1_pickNext_70 : decode cX1_pickNext 70 = .ok (.iastore, 1) := by decide +kernel
theorem dX1_pickNext_71 : decode cX1_pickNext 71 = .ok (.iinc 1 (-1), 3) := by decide +kernel
theorem dX1_pickNext_74 : decode cX1_pickNext 74 = .ok (.goto (-64), 3) := by decide +kernel
theorem dX1_pickNext_77 : decode cX1_pickNext 77 = .ok (.iconst 0, 1) := by decide +kernel
theorem dX1_pickNext_78 : decode cX1_pickNext 78 = .ok (.ireturn, 1) := by decide +kernel
theorem dX1_place_0 : decode cX1_place 0 = .ok (.iconst 0, 1) := by decide +kernel
theorem dX1_place_1 : decode cX1_place 1 = .ok (.istore_n 1, 1) := by decide +kernel
theorem dX1_place_2 : decode cX1_place 2 = .ok (.iconst 0, 1) := by decide +kernel
theorem dX1_place_3 : decode cX1_place 3 = .ok (.istore_n 2, 1) := by decide +kernel
theorem dX1_place_4 : decode cX1_place 4 = .ok (.iload_n 2, 1) := by decide +kernel
theorem dX1_place_5 : decode cX1_place 5 = .ok (.iconst 4, 1) := by decide +kernel
theorem dX1_place_6 : decode cX1_place 6 = .ok (.if_icmp .ge 20, 3) := by decide +kernel
theorem dX1_place_9 : decode cX1_place 9 = .ok (.iload_n 1, 1) := by decide +kernel
theorem dX1_place_10 : decode cX1_place 10 = .ok (.iconst 5, 1) := by decide +kernel
theorem dX1_place_11 : decode cX1_place 11 = .ok (.imul, 1) := by decide +kernel
theorem dX1_place_12 : decode cX1_place 12 = .ok (.aload_n 0, 1) := by decide +kernel
theorem dX1_place_13 : decode cX1_place 13 = .ok (.getfield 28, 3) := by decide +kernel
theorem dX1_place_16 : decode cX1_place 16 = .ok (.iload_n 2, 1) := by decide +kernel
theorem dX1_place_17 : decode cX1_place 17 = .ok (.iaload, 1) := by decide +kernel
theorem dX1_place_18 : decode cX1_place 18 = .ok (.iadd, 1) := by decide +kernel
theorem dX1_place_19 : decode cX1_place 19 = .ok (.istore_n 1, 1) := by decide +kernel
theorem dX1_place_20 : decode cX1_place 20 = .ok (.iinc 2 1, 3) := by decide +kernel
theorem dX1_place_23 : decode cX1_place 23 = .ok (.goto (-19), 3) := by decide +kernel
theorem dX1_place_26 : decode cX1_place 26 = .ok (.iload_n 1, 1) := by decide +kernel
theorem dX1_place_27 : decode cX1_place 27 = .ok (.ireturn, 1) := by decide +kernel
theorem dX1_measure_0 : decode cX1_measure 0 = .ok (.aload_n 0, 1) := by decide +kernel
theorem dX1_measure_1 : decode cX1_measure 1 = .ok (.getfield 34, 3) := by decide +kernel
theorem dX1_measure_4 : decode cX1_measure 4 = .ok (.ifCond .eq 16, 3) := by decide +kernel
theorem dX1_measure_7 : decode cX1_measure 7 = .ok (.aload_n 0, 1) := by decide +kernel
theorem dX1_measure_8 : decode cX1_measure 8 = .ok (.getfield 22, 3) := by decide +kernel
theorem dX1_measure_11 : decode cX1_measure 11 = .ok (.iconst (-1), 1) := by decide +kernel
theorem dX1_measure_12 : decode cX1_measure 12 = .ok (.invokestatic 71, 3) := by decide +kernel
theorem dX1_measure_15 : decode cX1_measure 15 = .ok (.aload_n 0, 1) := by decide +kernel
theorem dX1_measure_16 : decode cX1_measure 16 = .ok (.iconst 0, 1) := by decide +kernel
theorem dX1_measure_17 : decode cX1_measure 17 = .ok (.putfield 34, 3) := by decide +kernel
theorem dX1_measure_20 : decode cX1_measure 20 = .ok (.aload_n 0, 1) := by decide +kernel
theorem dX1_measure_21 : decode cX1_measure 21 = .ok (.invokevirtual 77, 3) := by decide +kernel
theorem dX1_measure_24 : decode cX1_measure 24 = .ok (.istore_n 1, 1) := by decide +kernel
theorem dX1_measure_25 : decode cX1_measure 25 = .ok (.aload_n 0, 1) := by decide +kernel
theorem dX1_measure_26 : decode cX1_measure 26 = .ok (.getfield 22, 3) := by decide +kernel
theorem dX1_measure_29 : decode cX1_measure 29 = .ok (.iload_n 1, 1) := by decide +kernel
theorem dX1_measure_30 : decode cX1_measure 30 = .ok (.iaload, 1) := by decide +kernel
theorem dX1_measure_31 : decode cX1_measure 31 = .ok (.iconst (-1), 1) := by decide +kernel
theorem dX1_measure_32 : decode cX1_measure 32 = .ok (.if_icmp .ne 70, 3) := by decide +kernel
theorem dX1_measure_35 : decode cX1_measure 35 = .ok (.aload_n 0, 1) := by decide +kernel
theorem dX1_measure_36 : decode cX1_measure 36 = .ok (.getfield 12, 3) := by decide +kernel
theorem dX1_measure_39 : decode cX1_measure 39 = .ok (.aload_n 0, 1) := by decide +kernel
theorem dX1_measure_40 : decode cX1_measure 40 = .ok (.getfield 46, 3) := by decide +kernel
theorem dX1_measure_43 : decode cX1_measure 43 = .ok (.invokevirtual 81, 3) := by decide +kernel
theorem dX1_measure_46 : decode cX1_measure 46 = .ok (.aload_n 0, 1) := by decide +kernel
theorem dX1_measure_47 : decode cX1_measure 47 = .ok (.getfield 28, 3) := by decide +kernel
theorem dX1_measure_50 : decode cX1_measure 50 = .ok (.iconst 0, 1) := by decide +kernel
theorem dX1_measure_51 : decode cX1_measure 51 = .ok (.aload_n 0, 1) := by decide +kernel
theorem dX1_measure_52 : decode cX1_measure 52 = .ok (.getfield 12, 3) := by decide +kernel
theorem dX1_measure_55 : decode cX1_measure 55 = .ok (.getfield 57, 3) := by decide +kernel
theorem dX1_measure_58 : decode cX1_measure 58 = .ok (.iconst 0, 1) := by decide +kernel
theorem dX1_measure_59 : decode cX1_measure 59 = .ok (.iconst 4, 1) := by decide +kernel
theorem dX1_measure_60 : decode cX1_measure 60 = .ok (.invokestatic 85, 3) := by decide +kernel
theorem dX1_measure_63 : decode cX1_measure 63 = .ok (.aload_n 0, 1) := by decide +kernel
theorem dX1_measure_64 : decode cX1_measure 64 = .ok (.getfield 49, 3) := by decide +kernel
theorem dX1_measure_67 : decode cX1_measure 67 = .ok (.invokevirtual 91, 3) := by decide +kernel
theorem dX1_measure_70 : decode cX1_measure 70 = .ok (.aload_n 0, 1) := by decide +kernel
theorem dX1_measure_71 : decode cX1_measure 71 = .ok (.getfield 49, 3) := by decide +kernel
theorem dX1_measure_74 : decode cX1_measure 74 = .ok (.aload_n 0, 1) := by decide +kernel
theorem dX1_measure_75 : decode cX1_measure 75 = .ok (.getfield 12, 3) := by decide +kernel
theorem dX1_measure_78 : decode cX1_measure 78 = .ok (.invokevirtual 96, 3) := by decide +kernel
theorem dX1_measure_81 : decode cX1_measure 81 = .ok (.bipush (-9), 2) := by decide +kernel
theorem dX1_measure_83 : decode cX1_measure 83 = .ok (.if_icmp .ne 14, 3) := by decide +kernel
theorem dX1_measure_86 : decode cX1_measure 86 = .ok (.aload_n 0, 1) := by decide +kernel
theorem dX1_measure_87 : decode cX1_measure 87 = .ok (.getfield 22, 3) := by decide +kernel
theorem dX1_measure_90 : decode cX1_measure 90 = .ok (.iload_n 1, 1) := by decide +kernel
theorem dX1_measure_91 : decode cX1_measure 91 = .ok (.bipush (-9), 2) := by decide +kernel
theorem dX1_measure_93 : decode cX1_measure 93 = .ok (.iastore, 1) := by decide +kernel
theorem dX1_measure_94 : decode cX1_measure 94 = .ok (.goto 8, 3) := by decide +kernel
theorem dX1_measure_97 : decode cX1_measure 97 = .ok (.aload_n 0, 1) := by decide +kernel
theorem dX1_measure_98 : decode cX1_measure 98 = .ok (.iload_n 1, 1) := by decide +kernel
theorem dX1_measure_99 : decode cX1_measure 99 = .ok (.invokevirtual 100, 3) := by decide +kernel
theorem dX1_measure_102 : decode cX1_measure 102 = .ok (.iload_n 1, 1) := by decide +kernel
theorem dX1_measure_103 : decode cX1_measure 103 = .ok (.ireturn, 1) := by decide +kernel
theorem dX1_weighRest_0 : decode cX1_weighRest 0 = .ok (.aload_n 0, 1) := by decide +kernel
theorem dX1_weighRest_1 : decode cX1_weighRest 1 = .ok (.getfield 18, 3) := by decide +kernel
theorem dX1_weighRest_4 : decode cX1_weighRest 4 = .ok (.iconst 0, 1) := by decide +kernel
theorem dX1_weighRest_5 : decode cX1_weighRest 5 = .ok (.invokestatic 71, 3) := by decide +kernel
theorem dX1_weighRest_8 : decode cX1_weighRest 8 = .ok (.iconst 0, 1) := by decide +kernel
theorem dX1_weighRest_9 : decode cX1_weighRest 9 = .ok (.istore_n 2, 1) := by decide +kernel
theorem dX1_weighRest_10 : decode cX1_weighRest 10 = .ok (.iconst 0, 1) := by decide +kernel
theorem dX1_weighRest_11 : decode cX1_weighRest 11 = .ok (.istore_n 3, 1) := by decide +kernel
theorem dX1_weighRest_12 : decode cX1_weighRest 12 = .ok (.iload_n 3, 1) := by decide +kernel
theorem dX1_weighRest_13 : decode cX1_weighRest 13 = .ok (.aload_n 0, 1) := by decide +kernel
theorem dX1_weighRest_14 : decode cX1_weighRest 14 = .ok (.getfield 38, 3) := by decide +kernel
theorem dX1_weighRest_17 : decode cX1_weighRest 17 = .ok (.getfield 104, 3) := by decide +kernel
theorem dX1_weighRest_20 : decode cX1_weighRest 20 = .ok (.if_icmp .ge 91, 3) := by decide +kernel
theorem dX1_weighRest_23 : decode cX1_weighRest 23 = .ok (.aload_n 0, 1) := by decide +kernel
theorem dX1_weighRest_24 : decode cX1_weighRest 24 = .ok (.getfield 49, 3) := by decide +kernel
theorem dX1_weighRest_27 : decode cX1_weighRest 27 = .ok (.iload_n 3, 1) := by decide +kernel
theorem dX1_weighRest_28 : decode cX1_weighRest 28 = .ok (.invokevirtual 107, 3) := by decide +kernel
theorem dX1_weighRest_31 : decode cX1_weighRest 31 = .ok (.istore 4, 2) := by decide +kernel
theorem dX1_weighRest_33 : decode cX1_weighRest 33 = .ok (.iload 4, 2) := by decide +kernel
theorem dX1_weighRest_35 : decode cX1_weighRest 35 = .ok (.bipush (-9), 2) := by decide +kernel
theorem dX1_weighRest_37 : decode cX1_weighRest 37 = .ok (.if_icmp .ne 22, 3) := by decide +kernel
theorem dX1_weighRest_40 : decode cX1_weighRest 40 = .ok (.iload_n 2, 1) := by decide +kernel
theorem dX1_weighRest_41 : decode cX1_weighRest 41 = .ok (.aload_n 0, 1) := by decide +kernel
theorem dX1_weighRest_42 : decode cX1_weighRest 42 = .ok (.getfield 38, 3) := by decide +kernel
theorem dX1_weighRest_45 : decode cX1_weighRest 45 = .ok (.getfield 111, 3) := by decide +kernel
theorem dX1_weighRest_48 : decode cX1_weighRest 48 = .ok (.iload_n 3, 1) := by decide +kernel
theorem dX1_weighRest_49 : decode cX1_weighRest 49 = .ok (.iaload, 1) := by decide +kernel
theorem dX1_weighRest_50 : decode cX1_weighRest 50 = .ok (.sipush 1000, 3) := by decide +kernel
theorem dX1_weighRest_53 : decode cX1_weighRest 53 = .ok (.imul, 1) := by decide +kernel
theorem dX1_weighRest_54 : decode cX1_weighRest 54 = .ok (.iadd, 1) := by decide +kernel
theorem dX1_weighRest_55 : decode cX1_weighRest 55 = .ok (.istore_n 2, 1) := by decide +kernel
theorem dX1_weighRest_56 : decode cX1_weighRest 56 = .ok (.goto 49, 3) := by decide +kernel
theorem dX1_weighRest_59 : decode cX1_weighRest 59 = .ok (.iload_n 2, 1) := by decide +kernel
theorem dX1_weighRest_60 : decode cX1_weighRest 60 = .ok (.aload_n 0, 1) := by decide +kernel
theorem dX1_weighRest_61 : decode cX1_weighRest 61 = .ok (.getfield 38, 3) := by decide +kernel
theorem dX1_weighRest_64 : decode cX1_weighRest 64 = .ok (.getfield 111, 3) := by decide +kernel
theorem dX1_weighRest_67 : decode cX1_weighRest 67 = .ok (.iload_n 3, 1) := by decide +kernel
theorem dX1_weighRest_68 : decode cX1_weighRest 68 = .ok (.iaload, 1) := by decide +kernel
theorem dX1_weighRest_69 : decode cX1_weighRest 69 = .ok (.aload_n 0, 1) := by decide +kernel
theorem dX1_weighRest_70 : decode cX1_weighRest 70 = .ok (.getfield 42, 3) := by decide +kernel
theorem dX1_weighRest_73 : decode cX1_weighRest 73 = .ok (.getfield 114, 3) := by decide +kernel
theorem dX1_weighRest_76 : decode cX1_weighRest 76 = .ok (.iload_n 3, 1) := by decide +kernel
theorem dX1_weighRest_77 : decode cX1_weighRest 77 = .ok (.iconst 4, 1) := by decide +kernel
theorem dX1_weighRest_78 : decode cX1_weighRest 78 = .ok (.imul, 1) := by decide +kernel
theorem dX1_weighRest_79 : decode cX1_weighRest 79 = .ok (.iload 4, 2) := by decide +kernel
theorem dX1_weighRest_81 : decode cX1_weighRest 81 = .ok (.iadd, 1) := by decide +kernel
theorem dX1_weighRest_82 : decode cX1_weighRest 82 = .ok (.iaload, 1) := by decide +kernel
theorem dX1_weighRest_83 : decode cX1_weighRest 83 = .ok (.imul, 1) := by decide +kernel
theorem dX1_weighRest_84 : decode cX1_weighRest 84 = .ok (.iadd, 1) := by decide +kernel
theorem dX1_weighRest_85 : decode cX1_weighRest 85 = .ok (.istore_n 2, 1) := by decide +kernel
theorem dX1_weighRest_86 : decode cX1_weighRest 86 = .ok (.aload_n 0, 1) := by decide +kernel
theorem dX1_weighRest_87 : decode cX1_weighRest 87 = .ok (.getfield 18, 3) := by decide +kernel
theorem dX1_weighRest_90 : decode cX1_weighRest 90 = .ok (.iload 4, 2) := by decide +kernel
theorem dX1_weighRest_92 : decode cX1_weighRest 92 = .ok (.dup2, 1) := by decide +kernel
theorem dX1_weighRest_93 : decode cX1_weighRest 93 = .ok (.iaload, 1) := by decide +kernel
theorem dX1_weighRest_94 : decode cX1_weighRest 94 = .ok (.aload_n 0, 1) := by decide +kernel
theorem dX1_weighRest_95 : decode cX1_weighRest 95 = .ok (.getfield 38, 3) := by decide +kernel
theorem dX1_weighRest_98 : decode cX1_weighRest 98 = .ok (.getfield 111, 3) := by decide +kernel
theorem dX1_weighRest_101 : decode cX1_weighRest 101 = .ok (.iload_n 3, 1) := by decide +kernel
theorem dX1_weighRest_102 : decode cX1_weighRest 102 = .ok (.iaload, 1) := by decide +kernel
theorem dX1_weighRest_103 : decode cX1_weighRest 103 = .ok (.iadd, 1) := by decide +kernel
theorem dX1_weighRest_104 : decode cX1_weighRest 104 = .ok (.iastore, 1) := by decide +kernel
theorem dX1_weighRest_105 : decode cX1_weighRest 105 = .ok (.iinc 3 1, 3) := by decide +kernel
theorem dX1_weighRest_108 : decode cX1_weighRest 108 = .ok (.goto (-96), 3) := by decide +kernel
theorem dX1_weighRest_111 : decode cX1_weighRest 111 = .ok (.iconst 0, 1) := by decide +kernel
theorem dX1_weighRest_112 : decode cX1_weighRest 112 = .ok (.istore_n 3, 1) := by decide +kernel
theorem dX1_weighRest_113 : decode cX1_weighRest 113 = .ok (.iconst 0, 1) := by decide +kernel
theorem dX1_weighRest_114 : decode cX1_weighRest 114 = .ok (.istore 4, 2) := by decide +kernel
theorem dX1_weighRest_116 : decode cX1_weighRest 116 = .ok (.iload 4, 2) := by decide +kernel
theorem dX1_weighRest_118 : decode cX1_weighRest 118 = .ok (.aload_n 0, 1) := by decide +kernel
theorem dX1_weighRest_119 : decode cX1_weighRest 119 = .ok (.getfield 46, 3) := by decide +kernel
theorem dX1_weighRest_122 : decode cX1_weighRest 122 = .ok (.getfield 67, 3) := by decide +kernel
theorem dX1_weighRest_125 : decode cX1_weighRest 125 = .ok (.if_icmp .ge 34, 3) := by decide +kernel
theorem dX1_weighRest_128 : decode cX1_weighRest 128 = .ok (.iload_n 3, 1) := by decide +kernel
theorem dX1_weighRest_129 : decode cX1_weighRest 129 = .ok (.iconst 0, 1) := by decide +kernel
theorem dX1_weighRest_130 : decode cX1_weighRest 130 = .ok (.aload_n 0, 1) := by decide +kernel
theorem dX1_weighRest_131 : decode cX1_weighRest 131 = .ok (.getfield 18, 3) := by decide +kernel
theorem dX1_weighRest_134 : decode cX1_weighRest 134 = .ok (.iload 4, 2) := by decide +kernel
theorem dX1_weighRest_136 : decode cX1_weighRest 136 = .ok (.iaload, 1) := by decide +kernel
theorem dX1_weighRest_137 : decode cX1_weighRest 137 = .ok (.aload_n 0, 1) := by decide +kernel
theorem dX1_weighRest_138 : decode cX1_weighRest 138 = .ok (.getfield 42, 3) := by decide +kernel
theorem dX1_weighRest_141 : decode cX1_weighRest 141 = .ok (.getfield 119, 3) := by decide +kernel
theorem dX1_weighRest_144 : decode cX1_weighRest 144 = .ok (.iload 4, 2) := by decide +kernel
theorem dX1_weighRest_146 : decode cX1_weighRest 146 = .ok (.iaload, 1) := by decide +kernel
theorem dX1_weighRest_147 : decode cX1_weighRest 147 = .ok (.isub, 1) := by decide +kernel
theorem dX1_weighRest_148 : decode cX1_weighRest 148 = .ok (.invokestatic 122, 3) := by decide +kernel
theorem dX1_weighRest_151 : decode cX1_weighRest 151 = .ok (.iadd, 1) := by decide +kernel
theorem dX1_weighRest_152 : decode cX1_weighRest 152 = .ok (.istore_n 3, 1) := by decide +kernel
theorem dX1_weighRest_153 : decode cX1_weighRest 153 = .ok (.iinc 4 1, 3) := by decide +kernel
theorem dX1_weighRest_156 : decode cX1_weighRest 156 = .ok (.goto (-40), 3) := by decide +kernel
theorem dX1_weighRest_159 : decode cX1_weighRest 159 = .ok (.aload_n 0, 1) := by decide +kernel
theorem dX1_weighRest_160 : decode cX1_weighRest 160 = .ok (.getfield 22, 3) := by decide +kernel
theorem dX1_weighRest_163 : decode cX1_weighRest 163 = .ok (.iload_n 1, 1) := by decide +kernel
theorem dX1_weighRest_164 : decode cX1_weighRest 164 = .ok (.iload_n 3, 1) := by decide +kernel
theorem dX1_weighRest_165 : decode cX1_weighRest 165 = .ok (.iastore, 1) := by decide +kernel
theorem dX1_weighRest_166 : decode cX1_weighRest 166 = .ok (.aload_n 0, 1) := by decide +kernel
theorem dX1_weighRest_167 : decode cX1_weighRest 167 = .ok (.getfield 25, 3) := by decide +kernel
theorem dX1_weighRest_170 : decode cX1_weighRest 170 = .ok (.iload_n 1, 1) := by decide +kernel
theorem dX1_weighRest_171 : decode cX1_weighRest 171 = .ok (.iload_n 2, 1) := by decide +kernel
theorem dX1_weighRest_172 : decode cX1_weighRest 172 = .ok (.iastore, 1) := by decide +kernel
theorem dX1_weighRest_173 : decode cX1_weighRest 173 = .ok (.return_, 1) := by decide +kernel
theorem dX1_measureAll_0 : decode cX1_measureAll 0 = .ok (.aload_n 0, 1) := by decide +kernel
theorem dX1_measureAll_1 : decode cX1_measureAll 1 = .ok (.invokevirtual 128, 3) := by decide +kernel
theorem dX1_measureAll_4 : decode cX1_measureAll 4 = .ok (.iconst 1, 1) := by decide +kernel
theorem dX1_measureAll_5 : decode cX1_measureAll 5 = .ok (.istore_n 1, 1) := by decide +kernel
theorem dX1_measureAll_6 : decode cX1_measureAll 6 = .ok (.iconst 0, 1) := by decide +kernel
theorem dX1_measureAll_7 : decode cX1_measureAll 7 = .ok (.istore_n 2, 1) := by decide +kernel
theorem dX1_measureAll_8 : decode cX1_measureAll 8 = .ok (.iload_n 2, 1) := by decide +kernel
theorem dX1_measureAll_9 : decode cX1_measureAll 9 = .ok (.sipush 625, 3) := by decide +kernel
theorem dX1_measureAll_12 : decode cX1_measureAll 12 = .ok (.if_icmp .ge 23, 3) := by decide +kernel
theorem dX1_measureAll_15 : decode cX1_measureAll 15 = .ok (.iload_n 1, 1) := by decide +kernel
theorem dX1_measureAll_16 : decode cX1_measureAll 16 = .ok (.ifCond .eq 19, 3) := by decide +kernel
theorem dX1_measureAll_19 : decode cX1_measureAll 19 = .ok (.aload_n 0, 1) := by decide +kernel
theorem dX1_measureAll_20 : decode cX1_measureAll 20 = .ok (.invokevirtual 131, 3) := by decide +kernel
theorem dX1_measureAll_23 : decode cX1_measureAll 23 = .ok (.pop, 1) := by decide +kernel
theorem dX1_measureAll_24 : decode cX1_measureAll 24 = .ok (.aload_n 0, 1) := by decide +kernel
theorem dX1_measureAll_25 : decode cX1_measureAll 25 = .ok (.invokevirtual 134, 3) := by decide +kernel
theorem dX1_measureAll_28 : decode cX1_measureAll 28 = .ok (.istore_n 1, 1) := by decide +kernel
theorem dX1_measureAll_29 : decode cX1_measureAll 29 = .ok (.iinc 2 1, 3) := by decide +kernel
theorem dX1_measureAll_32 : decode cX1_measureAll 32 = .ok (.goto (-24), 3) := by decide +kernel
theorem dX1_measureAll_35 : decode cX1_measureAll 35 = .ok (.return_, 1) := by decide +kernel
theorem dX1_seek_0 : decode cX1_seek 0 = .ok (.aload_n 0, 1) := by decide +kernel
theorem dX1_seek_1 : decode cX1_seek 1 = .ok (.bipush (-9), 2) := by decide +kernel
theorem dX1_seek_3 : decode cX1_seek 3 = .ok (.putfield 138, 3) := by decide +kernel
theorem dX1_seek_6 : decode cX1_seek 6 = .ok (.aload_n 0, 1) := by decide +kernel
theorem dX1_seek_7 : decode cX1_seek 7 = .ok (.bipush (-9), 2) := by decide +kernel
theorem dX1_seek_9 : decode cX1_seek 9 = .ok (.putfield 141, 3) := by decide +kernel
theorem dX1_seek_12 : decode cX1_seek 12 = .ok (.aload_n 0, 1) := by decide +kernel
theorem dX1_seek_13 : decode cX1_seek 13 = .ok (.invokevirtual 128, 3) := by decide +kernel
theorem dX1_seek_16 : decode cX1_seek 16 = .ok (.iconst 1, 1) := by decide +kernel
theorem dX1_seek_17 : decode cX1_seek 17 = .ok (.istore_n 2, 1) := by decide +kernel
theorem dX1_seek_18 : decode cX1_seek 18 = .ok (.iconst 0, 1) := by decide +kernel
theorem dX1_seek_19 : decode cX1_seek 19 = .ok (.istore_n 3, 1) := by decide +kernel
theorem dX1_seek_20 : decode cX1_seek 20 = .ok (.iload_n 3, 1) := by decide +kernel
theorem dX1_seek_21 : decode cX1_seek 21 = .ok (.sipush 625, 3) := by decide +kernel
theorem dX1_seek_24 : decode cX1_seek 24 = .ok (.if_icmp .ge 76, 3) := by decide +kernel
theorem dX1_seek_27 : decode cX1_seek 27 = .ok (.iload_n 2, 1) := by decide +kernel
theorem dX1_seek_28 : decode cX1_seek 28 = .ok (.ifCond .eq 72, 3) := by decide +kernel
theorem dX1_seek_31 : decode cX1_seek 31 = .ok (.aload_n 0, 1) := by decide +kernel
theorem dX1_seek_32 : decode cX1_seek 32 = .ok (.iload_n 1, 1) := by decide +kernel
theorem dX1_seek_33 : decode cX1_seek 33 = .ok (.invokevirtual 144, 3) := by decide +kernel
theorem dX1_seek_36 : decode cX1_seek 36 = .ok (.istore 4, 2) := by decide +kernel
theorem dX1_seek_38 : decode cX1_seek 38 = .ok (.iload 4, 2) := by decide +kernel
theorem dX1_seek_40 : decode cX1_seek 40 = .ok (.ifCond .eq 49, 3) := by decide +kernel
theorem dX1_seek_43 : decode cX1_seek 43 = .ok (.aload_n 0, 1) := by decide +kernel
theorem dX1_seek_44 : decode cX1_seek 44 = .ok (.getfield 138, 3) := by decide +kernel
theorem dX1_seek_47 : decode cX1_seek 47 = .ok (.bipush (-9), 2) := by decide +kernel
theorem dX1_seek_49 : decode cX1_seek 49 = .ok (.if_icmp .eq 10, 3) := by decide +kernel
theorem dX1_seek_52 : decode cX1_seek 52 = .ok (.aload_n 0, 1) := by decide +kernel
theorem dX1_seek_53 : decode cX1_seek 53 = .ok (.invokevirtual 148, 3) := by decide +kernel
theorem dX1_seek_56 : decode cX1_seek 56 = .ok (.ifCond .eq 33, 3) := by decide +kernel
theorem dX1_seek_59 : decode cX1_seek 59 = .ok (.aload_n 0, 1) := by decide +kernel
theorem dX1_seek_60 : decode cX1_seek 60 = .ok (.aload_n 0, 1) := by decide +kernel
theorem dX1_seek_61 : decode cX1_seek 61 = .ok (.getfield 151, 3) := by decide +kernel
theorem dX1_seek_64 : decode cX1_seek 64 = .ok (.putfield 138, 3) := by decide +kernel
theorem dX1_seek_67 : decode cX1_seek 67 = .ok (.aload_n 0, 1) := by decide +kernel
theorem dX1_seek_68 : decode cX1_seek 68 = .ok (.aload_n 0, 1) := by decide +kernel
theorem dX1_seek_69 : decode cX1_seek 69 = .ok (.getfield 154, 3) := by decide +kernel
theorem dX1_seek_72 : decode cX1_seek 72 = .ok (.putfield 141, 3) := by decide +kernel
theorem dX1_seek_75 : decode cX1_seek 75 = .ok (.aload_n 0, 1) := by decide +kernel
theorem dX1_seek_76 : decode cX1_seek 76 = .ok (.getfield 28, 3) := by decide +kernel
theorem dX1_seek_79 : decode cX1_seek 79 = .ok (.iconst 0, 1) := by decide +kernel
theorem dX1_seek_80 : decode cX1_seek 80 = .ok (.aload_n 0, 1) := by decide +kernel
theorem dX1_seek_81 : decode cX1_seek 81 = .ok (.getfield 31, 3) := by decide +kernel
theorem dX1_seek_84 : decode cX1_seek 84 = .ok (.iconst 0, 1) := by decide +kernel
theorem dX1_seek_85 : decode cX1_seek 85 = .ok (.iconst 4, 1) := by decide +kernel
theorem dX1_seek_86 : decode cX1_seek 86 = .ok (.invokestatic 85, 3) := by decide +kernel
theorem dX1_seek_89 : decode cX1_seek 89 = .ok (.aload_n 0, 1) := by decide +kernel
theorem dX1_seek_90 : decode cX1_seek 90 = .ok (.invokevirtual 134, 3) := by decide +kernel
theorem dX1_seek_93 : decode cX1_seek 93 = .ok (.istore_n 2, 1) := by decide +kernel
theorem dX1_seek_94 : decode cX1_seek 94 = .ok (.iinc 3 1, 3) := by decide +kernel
theorem dX1_seek_97 : decode cX1_seek 97 = .ok (.goto (-77), 3) := by decide +kernel
theorem dX1_seek_100 : decode cX1_seek 100 = .ok (.return_, 1) := by decide +kernel
theorem dX1_isBetter_0 : decode cX1_isBetter 0 = .ok (.aload_n 0, 1) := by decide +kernel
theorem dX1_isBetter_1 : decode cX1_isBetter 1 = .ok (.getfield 151, 3) := by decide +kernel
theorem dX1_isBetter_4 : decode cX1_isBetter 4 = .ok (.aload_n 0, 1) := by decide +kernel
theorem dX1_isBetter_5 : decode cX1_isBetter 5 = .ok (.getfield 138, 3) := by decide +kernel
theorem dX1_isBetter_8 : decode cX1_isBetter 8 = .ok (.if_icmp .lt 25, 3) := by decide +kernel
theorem dX1_isBetter_11 : decode cX1_isBetter 11 = .ok (.aload_n 0, 1) := by decide +kernel
theorem dX1_isBetter_12 : decode cX1_isBetter 12 = .ok (.getfield 151, 3) := by decide +kernel
theorem dX1_isBetter_15 : decode cX1_isBetter 15 = .ok (.aload_n 0, 1) := by decide +kernel
theorem dX1_isBetter_16 : decode cX1_isBetter 16 = .ok (.getfield 138, 3) := by decide +kernel
theorem dX1_isBetter_19 : decode cX1_isBetter 19 = .ok (.if_icmp .ne 18, 3) := by decide +kernel
theorem dX1_isBetter_22 : decode cX1_isBetter 22 = .ok (.aload_n 0, 1) := by decide +kernel
theorem dX1_isBetter_23 : decode cX1_isBetter 23 = .ok (.getfield 154, 3) := by decide +kernel
theorem dX1_isBetter_26 : decode cX1_isBetter 26 = .ok (.aload_n 0, 1) := by decide +kernel
theorem dX1_isBetter_27 : decode cX1_isBetter 27 = .ok (.getfield 141, 3) := by decide +kernel
theorem dX1_isBetter_30 : decode cX1_isBetter 30 = .ok (.if_icmp .ge 7, 3) := by decide +kernel
theorem dX1_isBetter_33 : decode cX1_isBetter 33 = .ok (.iconst 1, 1) := by decide +kernel
theorem dX1_isBetter_34 : decode cX1_isBetter 34 = .ok (.goto 4, 3) := by decide +kernel
theorem dX1_isBetter_37 : decode cX1_isBetter 37 = .ok (.iconst 0, 1) := by decide +kernel
theorem dX1_isBetter_38 : decode cX1_isBetter 38 = .ok (.ireturn, 1) := by decide +kernel
theorem dX1_weighPick_0 : decode cX1_weighPick 0 = .ok (.aload_n 0, 1) := by decide +kernel
theorem dX1_weighPick_1 : decode cX1_weighPick 1 = .ok (.iconst 0, 1) := by decide +kernel
theorem dX1_weighPick_2 : decode cX1_weighPick 2 = .ok (.putfield 151, 3) := by decide +kernel
theorem dX1_weighPick_5 : decode cX1_weighPick 5 = .ok (.aload_n 0, 1) := by decide +kernel
theorem dX1_weighPick_6 : decode cX1_weighPick 6 = .ok (.iconst 0, 1) := by decide +kernel
theorem dX1_weighPick_7 : decode cX1_weighPick 7 = .ok (.putfield 154, 3) := by decide +kernel
theorem dX1_weighPick_10 : decode cX1_weighPick 10 = .ok (.aload_n 0, 1) := by decide +kernel
theorem dX1_weighPick_11 : decode cX1_weighPick 11 = .ok (.aload_n 0, 1) := by decide +kernel
theorem dX1_weighPick_12 : decode cX1_weighPick 12 = .ok (.invokevirtual 77, 3) := by decide +kernel
theorem dX1_weighPick_15 : decode cX1_weighPick 15 = .ok (.invokevirtual 157, 3) := by decide +kernel
theorem dX1_weighPick_18 : decode cX1_weighPick 18 = .ok (.istore_n 2, 1) := by decide +kernel
theorem dX1_weighPick_19 : decode cX1_weighPick 19 = .ok (.iconst 0, 1) := by decide +kernel
theorem dX1_weighPick_20 : decode cX1_weighPick 20 = .ok (.istore_n 3, 1) := by decide +kernel
theorem dX1_weighPick_21 : decode cX1_weighPick 21 = .ok (.iload_n 3, 1) := by decide +kernel
theorem dX1_weighPick_22 : decode cX1_weighPick 22 = .ok (.aload_n 0, 1) := by decide +kernel
theorem dX1_weighPick_23 : decode cX1_weighPick 23 = .ok (.getfield 46, 3) := by decide +kernel
theorem dX1_weighPick_26 : decode cX1_weighPick 26 = .ok (.getfield 67, 3) := by decide +kernel
theorem dX1_weighPick_29 : decode cX1_weighPick 29 = .ok (.if_icmp .ge 49, 3) := by decide +kernel
theorem dX1_weighPick_32 : decode cX1_weighPick 32 = .ok (.iload_n 1, 1) := by decide +kernel
theorem dX1_weighPick_33 : decode cX1_weighPick 33 = .ok (.ifCond .eq 45, 3) := by decide +kernel
theorem dX1_weighPick_36 : decode cX1_weighPick 36 = .ok (.iload_n 2, 1) := by decide +kernel
theorem dX1_weighPick_37 : decode cX1_weighPick 37 = .ok (.ifCond .eq 41, 3) := by decide +kernel
theorem dX1_weighPick_40 : decode cX1_weighPick 40 = .ok (.aload_n 0, 1) := by decide +kernel
theorem dX1_weighPick_41 : decode cX1_weighPick 41 = .ok (.getfield 28, 3) := by decide +kernel
theorem dX1_weighPick_44 : decode cX1_weighPick 44 = .ok (.iload_n 3, 1) := by decide +kernel
theorem dX1_weighPick_45 : decode cX1_weighPick 45 = .ok (.iaload, 1) := by decide +kernel
theorem dX1_weighPick_46 : decode cX1_weighPick 46 = .ok (.istore 4, 2) := by decide +kernel
theorem dX1_weighPick_48 : decode cX1_weighPick 48 = .ok (.aload_n 0, 1) := by decide +kernel
theorem dX1_weighPick_49 : decode cX1_weighPick 49 = .ok (.getfield 28, 3) := by decide +kernel
theorem dX1_weighPick_52 : decode cX1_weighPick 52 = .ok (.iload_n 3, 1) := by decide +kernel
theorem dX1_weighPick_53 : decode cX1_weighPick 53 = .ok (.iconst 4, 1) := by decide +kernel
theorem dX1_weighPick_54 : decode cX1_weighPick 54 = .ok (.iastore, 1) := by decide +kernel
theorem dX1_weighPick_55 : decode cX1_weighPick 55 = .ok (.aload_n 0, 1) := by decide +kernel
theorem dX1_weighPick_56 : decode cX1_weighPick 56 = .ok (.aload_n 0, 1) := by decide +kernel
theorem dX1_weighPick_57 : decode cX1_weighPick 57 = .ok (.invokevirtual 77, 3) := by decide +kernel
theorem dX1_weighPick_60 : decode cX1_weighPick 60 = .ok (.invokevirtual 157, 3) := by decide +kernel
theorem dX1_weighPick_63 : decode cX1_weighPick 63 = .ok (.istore_n 2, 1) := by decide +kernel
theorem dX1_weighPick_64 : decode cX1_weighPick 64 = .ok (.aload_n 0, 1) := by decide +kernel
theorem dX1_weighPick_65 : decode cX1_weighPick 65 = .ok (.getfield 28, 3) := by decide +kernel
theorem dX1_weighPick_68 : decode cX1_weighPick 68 = .ok (.iload_n 3, 1) := by decide +kernel
theorem dX1_weighPick_69 : decode cX1_weighPick 69 = .ok (.iload 4, 2) := by decide +kernel
theorem dX1_weighPick_71 : decode cX1_weighPick 71 = .ok (.iastore, 1) := by decide +kernel
theorem dX1_weighPick_72 : decode cX1_weighPick 72 = .ok (.iinc 3 1, 3) := by decide +kernel
theorem dX1_weighPick_75 : decode cX1_weighPick 75 = .ok (.goto (-54), 3) := by decide +kernel
theorem dX1_weighPick_78 : decode cX1_weighPick 78 = .ok (.iload_n 2, 1) := by decide +kernel
theorem dX1_weighPick_79 : decode cX1_weighPick 79 = .ok (.ireturn, 1) := by decide +kernel
theorem dX1_weighPlace_0 : decode cX1_weighPlace 0 = .ok (.aload_n 0, 1) := by decide +kernel
theorem dX1_weighPlace_1 : decode cX1_weighPlace 1 = .ok (.aload_n 0, 1) := by decide +kernel
theorem dX1_weighPlace_2 : decode cX1_weighPlace 2 = .ok (.getfield 151, 3) := by decide +kernel
theorem dX1_weighPlace_5 : decode cX1_weighPlace 5 = .ok (.aload_n 0, 1) := by decide +kernel
theorem dX1_weighPlace_6 : decode cX1_weighPlace 6 = .ok (.getfield 22, 3) := by decide +kernel
theorem dX1_weighPlace_9 : decode cX1_weighPlace 9 = .ok (.iload_n 1, 1) := by decide +kernel
theorem dX1_weighPlace_10 : decode cX1_weighPlace 10 = .ok (.iaload, 1) := by decide +kernel
theorem dX1_weighPlace_11 : decode cX1_weighPlace 11 = .ok (.invokestatic 122, 3) := by decide +kernel
theorem dX1_weighPlace_14 : decode cX1_weighPlace 14 = .ok (.putfield 151, 3) := by decide +kernel
theorem dX1_weighPlace_17 : decode cX1_weighPlace 17 = .ok (.aload_n 0, 1) := by decide +kernel
theorem dX1_weighPlace_18 : decode cX1_weighPlace 18 = .ok (.aload_n 0, 1) := by decide +kernel
theorem dX1_weighPlace_19 : decode cX1_weighPlace 19 = .ok (.getfield 154, 3) := by decide +kernel
theorem dX1_weighPlace_22 : decode cX1_weighPlace 22 = .ok (.aload_n 0, 1) := by decide +kernel
theorem dX1_weighPlace_23 : decode cX1_weighPlace 23 = .ok (.getfield 25, 3) := by decide +kernel
theorem dX1_weighPlace_26 : decode cX1_weighPlace 26 = .ok (.iload_n 1, 1) := by decide +kernel
theorem dX1_weighPlace_27 : decode cX1_weighPlace 27 = .ok (.iaload, 1) := by decide +kernel
theorem dX1_weighPlace_28 : decode cX1_weighPlace 28 = .ok (.invokestatic 122, 3) := by decide +kernel
theorem dX1_weighPlace_31 : decode cX1_weighPlace 31 = .ok (.putfield 154, 3) := by decide +kernel
theorem dX1_weighPlace_34 : decode cX1_weighPlace 34 = .ok (.aload_n 0, 1) := by decide +kernel
theorem dX1_weighPlace_35 : decode cX1_weighPlace 35 = .ok (.getfield 22, 3) := by decide +kernel
theorem dX1_weighPlace_38 : decode cX1_weighPlace 38 = .ok (.iload_n 1, 1) := by decide +kernel
theorem dX1_weighPlace_39 : decode cX1_weighPlace 39 = .ok (.iaload, 1) := by decide +kernel
theorem dX1_weighPlace_40 : decode cX1_weighPlace 40 = .ok (.bipush (-9), 2) := by decide +kernel
theorem dX1_weighPlace_42 : decode cX1_weighPlace 42 = .ok (.if_icmp .eq 7, 3) := by decide +kernel
theorem dX1_weighPlace_45 : decode cX1_weighPlace 45 = .ok (.iconst 1, 1) := by decide +kernel
theorem dX1_weighPlace_46 : decode cX1_weighPlace 46 = .ok (.goto 4, 3) := by decide +kernel
theorem dX1_weighPlace_49 : decode cX1_weighPlace 49 = .ok (.iconst 0, 1) := by decide +kernel
theorem dX1_weighPlace_50 : decode cX1_weighPlace 50 = .ok (.ireturn, 1) := by decide +kernel
theorem dX2_init_0 : decode cX2_init 0 = .ok (.aload_n 0, 1) := by decide +kernel
theorem dX2_init_1 : decode cX2_init 1 = .ok (.invokespecial 3, 3) := by decide +kernel
theorem dX2_init_4 : decode cX2_init 4 = .ok (.aload_n 0, 1) := by decide +kernel
theorem dX2_init_5 : decode cX2_init 5 = .ok (.bipush 10, 2) := by decide +kernel
theorem dX2_init_7 : decode cX2_init 7 = .ok (.newarray .int, 2) := by decide +kernel
theorem dX2_init_9 : decode cX2_init 9 = .ok (.putfield 9, 3) := by decide +kernel
theorem dX2_init_12 : decode cX2_init 12 = .ok (.aload_n 0, 1) := by decide +kernel
theorem dX2_init_13 : decode cX2_init 13 = .ok (.bipush 10, 2) := by decide +kernel
theorem dX2_init_15 : decode cX2_init 15 = .ok (.newarray .long, 2) := by decide +kernel
theorem dX2_init_17 : decode cX2_init 17 = .ok (.putfield 15, 3) := by decide +kernel
theorem dX2_init_20 : decode cX2_init 20 = .ok (.aload_n 0, 1) := by decide +kernel
theorem dX2_init_21 : decode cX2_init 21 = .ok (.bipush 10, 2) := by decide +kernel
theorem dX2_init_23 : decode cX2_init 23 = .ok (.newarray .long, 2) := by decide +kernel
theorem dX2_init_25 : decode cX2_init 25 = .ok (.putfield 19, 3) := by decide +kernel
theorem dX2_init_28 : decode cX2_init 28 = .ok (.aload_n 0, 1) := by decide +kernel
theorem dX2_init_29 : decode cX2_init 29 = .ok (.bipush 14, 2) := by decide +kernel
theorem dX2_init_31 : decode cX2_init 31 = .ok (.newarray .long, 2) := by decide +kernel
theorem dX2_init_33 : decode cX2_init 33 = .ok (.putfield 22, 3) := by decide +kernel
theorem dX2_init_36 : decode cX2_init 36 = .ok (.aload_n 0, 1) := by decide +kernel
theorem dX2_init_37 : decode cX2_init 37 = .ok (.bipush 14, 2) := by decide +kernel
theorem dX2_init_39 : decode cX2_init 39 = .ok (.newarray .int, 2) := by decide +kernel
theorem dX2_init_41 : decode cX2_init 41 = .ok (.putfield 25, 3) := by decide +kernel
theorem dX2_init_44 : decode cX2_init 44 = .ok (.aload_n 0, 1) := by decide +kernel
theorem dX2_init_45 : decode cX2_init 45 = .ok (.aload_n 1, 1) := by decide +kernel
theorem dX2_init_46 : decode cX2_init 46 = .ok (.putfield 28, 3) := by decide +kernel
theorem dX2_init_49 : decode cX2_init 49 = .ok (.aload_n 0, 1) := by decide +kernel
theorem dX2_init_50 : decode cX2_init 50 = .ok (.aload_n 2, 1) := by decide +kernel
theorem dX2_init_51 : decode cX2_init 51 = .ok (.putfield 32, 3) := by decide +kernel
theorem dX2_init_54 : decode cX2_init 54 = .ok (.return_, 1) := by decide +kernel
theorem dX2_ofSite_0 : decode cX2_ofSite 0 = .ok (.iload_n 2, 1) := by decide +kernel
theorem dX2_ofSite_1 : decode cX2_ofSite 1 = .ok (.i2l, 1) := by decide +kernel
theorem dX2_ofSite_2 : decode cX2_ofSite 2 = .ok (.lconst 1, 1) := by decide +kernel
theorem dX2_ofSite_3 : decode cX2_ofSite 3 = .ok (.ladd, 1) := by decide +kernel
theorem dX2_ofSite_4 : decode cX2_ofSite 4 = .ok (.iload_n 0, 1) := by decide +kernel
theorem dX2_ofSite_5 : decode cX2_ofSite 5 = .ok (.i2l, 1) := by decide +kernel
theorem dX2_ofSite_6 : decode cX2_ofSite 6 = .ok (.lconst 1, 1) := by decide +kernel
theorem dX2_ofSite_7 : decode cX2_ofSite 7 = .ok (.ladd, 1) := by decide +kernel
theorem dX2_ofSite_8 : decode cX2_ofSite 8 = .ok (.bipush 40, 2) := by decide +kernel
theorem dX2_ofSite_10 : decode cX2_ofSite 10 = .ok (.lshl, 1) := by decide +kernel
theorem dX2_ofSite_11 : decode cX2_ofSite 11 = .ok (.lor, 1) := by decide +kernel
theorem dX2_ofSite_12 : decode cX2_ofSite 12 = .ok (.iload_n 1, 1) := by decide +kernel
theorem dX2_ofSite_13 : decode cX2_ofSite 13 = .ok (.i2l, 1) := by decide +kernel
theorem dX2_ofSite_14 : decode cX2_ofSite 14 = .ok (.lconst 1, 1) := by decide +kernel
theorem dX2_ofSite_15 : decode cX2_ofSite 15 = .ok (.ladd, 1) := by decide +kernel
theorem dX2_ofSite_16 : decode cX2_ofSite 16 = .ok (.bipush 44, 2) := by decide +kernel
theorem dX2_ofSite_18 : decode cX2_ofSite 18 = .ok (.lshl, 1) := by decide +kernel
theorem dX2_ofSite_19 : decode cX2_ofSite 19 = .ok (.lor, 1) := by decide +kernel
theorem dX2_ofSite_20 : decode cX2_ofSite 20 = .ok (.lconst 1, 1) := by decide +kernel
theorem dX2_ofSite_21 : decode cX2_ofSite 21 = .ok (.bipush 48, 2) := by decide +kernel
theorem dX2_ofSite_23 : decode cX2_ofSite 23 = .ok (.iload_n 2, 1) := by decide +kernel
theorem dX2_ofSite_24 : decode cX2_ofSite 24 = .ok (.iadd, 1) := by decide +kernel
theorem dX2_ofSite_25 : decode cX2_ofSite 25 = .ok (.lshl, 1) := by decide +kernel
theorem dX2_ofSite_26 : decode cX2_ofSite 26 = .ok (.lor, 1) := by decide +kernel
theorem dX2_ofSite_27 : decode cX2_ofSite 27 = .ok (.lreturn, 1) := by decide +kernel
theorem dX2_passedOn_0 : decode cX2_passedOn 0 = .ok (.lload_n 0, 1) := by decide +kernel
theorem dX2_passedOn_1 : decode cX2_passedOn 1 = .ok (.ldc2_w 36, 3) := by decide +kernel
theorem dX2_passedOn_4 : decode cX2_passedOn 4 = .ok (.ladd, 1) := by decide +kernel
theorem dX2_passedOn_5 : decode cX2_passedOn 5 = .ok (.lstore_n 3, 1) := by decide +kernel
theorem dX2_passedOn_6 : decode cX2_passedOn 6 = .ok (.lload_n 3, 1) := by decide +kernel
theorem dX2_passedOn_7 : decode cX2_passedOn 7 = .ok (.ldc2_w 38, 3) := by decide +kernel
theorem dX2_passedOn_10 : decode cX2_passedOn 10 = .ok (.land, 1) := by decide +kernel
theorem dX2_passedOn_11 : decode cX2_passedOn 11 = .ok (.lload_n 0, 1) := by decide +kernel
theorem dX2_passedOn_12 : decode cX2_passedOn 12 = .ok (.ldc2_w 40, 3) := by decide +kernel
theorem dX2_passedOn_15 : decode cX2_passedOn 15 = .ok (.land, 1) := by decide +kernel
theorem dX2_passedOn_16 : decode cX2_passedOn 16 = .ok (.iconst 4, 1) := by decide +kernel
theorem dX2_passedOn_17 : decode cX2_passedOn 17 = .ok (.lshl, 1) := by decide +kernel
theorem dX2_passedOn_18 : decode cX2_passedOn 18 = .ok (.lor, 1) := by decide +kernel
theorem dX2_passedOn_19 : decode cX2_passedOn 19 = .ok (.iload_n 2, 1) := by decide +kernel
theorem dX2_passedOn_20 : decode cX2_passedOn 20 = .ok (.i2l, 1) := by decide +kernel
theorem dX2_passedOn_21 : decode cX2_passedOn 21 = .ok (.lconst 1, 1) := by decide +kernel
theorem dX2_passedOn_22 : decode cX2_passedOn 22 = .ok (.ladd, 1) := by decide +kernel
theorem dX2_passedOn_23 : decode cX2_passedOn 23 = .ok (.lor, 1) := by decide +kernel
theorem dX2_passedOn_24 : decode cX2_passedOn 24 = .ok (.lconst 1, 1) := by decide +kernel
theorem dX2_passedOn_25 : decode cX2_passedOn 25 = .ok (.bipush 48, 2) := by decide +kernel
theorem dX2_passedOn_27 : decode cX2_passedOn 27 = .ok (.iload_n 2, 1) := by decide +kernel
theorem dX2_passedOn_28 : decode cX2_passedOn 28 = .ok (.iadd, 1) := by decide +kernel
theorem dX2_passedOn_29 : decode cX2_passedOn 29 = .ok (.lshl, 1) := by decide +kernel
theorem dX2_passedOn_30 : decode cX2_passedOn 30 = .ok (.lor, 1) := by decide +kernel
theorem dX2_passedOn_31 : decode cX2_passedOn 31 = .ok (.lreturn, 1) := by decide +kernel
theorem dX2_siteOf_0 : decode cX2_siteOf 0 = .ok (.lload_n 0, 1) := by decide +kernel
theorem dX2_siteOf_1 : decode cX2_siteOf 1 = .ok (.bipush 40, 2) := by decide +kernel
theorem dX2_siteOf_3 : decode cX2_siteOf 3 = .ok (.lushr, 1) := by decide +kernel
theorem dX2_siteOf_4 : decode cX2_siteOf 4 = .ok (.ldc2_w 42, 3) := by decide +kernel
theorem dX2_siteOf_7 : decode cX2_siteOf 7 = .ok (.land, 1) := by decide +kernel
theorem dX2_siteOf_8 : decode cX2_siteOf 8 = .ok (.l2i, 1) := by decide +kernel
theorem dX2_siteOf_9 : decode cX2_siteOf 9 = .ok (.iconst 1, 1) := by decide +kernel
theorem dX2_siteOf_10 : decode cX2_siteOf 10 = .ok (.isub, 1) := by decide +kernel
theorem dX2_siteOf_11 : decode cX2_siteOf 11 = .ok (.ireturn, 1) := by decide +kernel
theorem dX2_namesOf_0 : decode cX2_namesOf 0 = .ok (.lload_n 0, 1) := by decide +kernel
theorem dX2_namesOf_1 : decode cX2_namesOf 1 = .ok (.bipush 44, 2) := by decide +kernel
theorem dX2_namesOf_3 : decode cX2_namesOf 3 = .ok (.lushr, 1) := by decide +kernel
theorem dX2_namesOf_4 : decode cX2_namesOf 4 = .ok (.ldc2_w 42, 3) := by decide +kernel
theorem dX2_namesOf_7 : decode cX2_namesOf 7 = .ok (.land, 1) := by decide +kernel
theorem dX2_namesOf_8 : decode cX2_namesOf 8 = .ok (.l2i, 1) := by decide +kernel
theorem dX2_namesOf_9 : decode cX2_namesOf 9 = .ok (.ireturn, 1) := by decide +kernel
theorem dX2_passedAt_0 : decode cX2_passedAt 0 = .ok (.iload_n 2, 1) := by decide +kernel
theorem dX2_passedAt_1 : decode cX2_passedAt 1 = .ok (.ifCond .lt 9, 3) := by decide +kernel
theorem dX2_passedAt_4 : decode cX2_passedAt 4 = .ok (.iload_n 2, 1) := by decide +kernel
theorem dX2_passedAt_5 : decode cX2_passedAt 5 = .ok (.bipush 10, 2) := by decide +kernel
theorem dX2_passedAt_7 : decode cX2_passedAt 7 = .ok (.if_icmp .lt 6, 3) := by decide +kernel
theorem dX2_passedAt_10 : decode cX2_passedAt 10 = .ok (.bipush (-9), 2) := by decide +kernel
theorem dX2_passedAt_12 : decode cX2_passedAt 12 = .ok (.ireturn, 1) := by decide +kernel
theorem dX2_passedAt_13 : decode cX2_passedAt 13 = .ok (.lload_n 0, 1) := by decide +kernel
theorem dX2_passedAt_14 : decode cX2_passedAt 14 = .ok (.iconst 4, 1) := by decide +kernel
theorem dX2_passedAt_15 : decode cX2_passedAt 15 = .ok (.iload_n 2, 1) := by decide +kernel
theorem dX2_passedAt_16 : decode cX2_passedAt 16 = .ok (.imul, 1) := by decide +kernel
theorem dX2_passedAt_17 : decode cX2_passedAt 17 = .ok (.lushr, 1) := by decide +kernel
theorem dX2_passedAt_18 : decode cX2_passedAt 18 = .ok (.ldc2_w 42, 3) := by decide +kernel
theorem dX2_passedAt_21 : decode cX2_passedAt 21 = .ok (.land, 1) := by decide +kernel
theorem dX2_passedAt_22 : decode cX2_passedAt 22 = .ok (.l2i, 1) := by decide +kernel
theorem dX2_passedAt_23 : decode cX2_passedAt 23 = .ok (.iconst 1, 1) := by decide +kernel
theorem dX2_passedAt_24 : decode cX2_passedAt 24 = .ok (.isub, 1) := by decide +kernel
theorem dX2_passedAt_25 : decode cX2_passedAt 25 = .ok (.istore_n 3, 1) := by decide +kernel
theorem dX2_passedAt_26 : decode cX2_passedAt 26 = .ok (.iload_n 3, 1) := by decide +kernel
theorem dX2_passedAt_27 : decode cX2_passedAt 27 = .ok (.ifCond .ge 8, 3) := by decide +kernel
theorem dX2_passedAt_30 : decode cX2_passedAt 30 = .ok (.bipush (-9), 2) := by decide +kernel
theorem dX2_passedAt_32 : decode cX2_passedAt 32 = .ok (.goto 4, 3) := by decide +kernel
theorem dX2_passedAt_35 : decode cX2_passedAt 35 = .ok (.iload_n 3, 1) := by decide +kernel
theorem dX2_passedAt_36 : decode cX2_passedAt 36 = .ok (.ireturn, 1) := by decide +kernel
theorem dX2_takeLeastRules_0 : decode cX2_takeLeastRules 0 = .ok (.iconst 0, 1) := by decide +kernel
theorem dX2_takeLeastRules_1 : decode cX2_takeLeastRules 1 = .ok (.istore_n 1, 1) := by decide +kernel
theorem dX2_takeLeastRules_2 : decode cX2_takeLeastRules 2 = .ok (.iload_n 1, 1) := by decide +kernel
theorem dX2_takeLeastRules_3 : decode cX2_takeLeastRules 3 = .ok (.aload_n 0, 1) := by decide +kernel
theorem dX2_takeLeastRules_4 : decode cX2_takeLeastRules 4 = .ok (.getfield 28, 3) := by decide +kernel
theorem dX2_takeLeastRules_7 : decode cX2_takeLeastRules 7 = .ok (.getfield 44, 3) := by decide +kernel
theorem dX2_takeLeastRules_10 : decode cX2_takeLeastRules 10 = .ok (.if_icmp .ge 23, 3) := by decide +kernel
theorem dX2_takeLeastRules_13 : decode cX2_takeLeastRules 13 = .ok (.aload_n 0, 1) := by decide +kernel
theorem dX2_takeLeastRules_14 : decode cX2_takeLeastRules 14 = .ok (.getfield 9, 3) := by decide +kernel
theorem dX2_takeLeastRules_17 : decode cX2_takeLeastRules 17 = .ok (.iload_n 1, 1) := by decide +kernel
theorem dX2_takeLeastRules_18 : decode cX2_takeLeastRules 18 = .ok (.aload_n 0, 1) := by decide +kernel
theorem dX2_takeLeastRules_19 : decode cX2_takeLeastRules 19 = .ok (.getfield 28, 3) := by decide +kernel
theorem dX2_takeLeastRules_22 : decode cX2_takeLeastRules 22 = .ok (.iload_n 1, 1) := by decide +kernel
theorem dX2_takeLeastRules_23 : decode cX2_takeLeastRules 23 = .ok (.invokevirtual 50, 3) := by decide +kernel
theorem dX2_takeLeastRules_26 : decode cX2_takeLeastRules 26 = .ok (.iastore, 1) := by decide +kernel
theorem dX2_takeLeastRules_27 : decode cX2_takeLeastRules 27 = .ok (.iinc 1 1, 3) := by decide +kernel
theorem dX2_takeLeastRules_30 : decode cX2_takeLeastRules 30 = .ok (.goto (-28), 3) := by decide +kernel
theorem dX2_takeLeastRules_33 : decode cX2_takeLeastRules 33 = .ok (.return_, 1) := by decide +kernel
theorem dX2_settle_0 : decode cX2_settle 0 = .ok (.aload_n 0, 1) := by decide +kernel
theorem dX2_settle_1 : decode cX2_settle 1 = .ok (.getfield 15, 3) := by decide +kernel
theorem dX2_settle_4 : decode cX2_settle 4 = .ok (.lconst 0, 1) := by decide +kernel
theorem dX2_settle_5 : decode cX2_settle 5 = .ok (.invokestatic 54, 3) := by decide +kernel
theorem dX2_settle_8 : decode cX2_settle 8 = .ok (.aload_n 0, 1) := by decide +kernel
theorem dX2_settle_9 : decode cX2_settle 9 = .ok (.getfield 28, 3) := by decide +kernel
theorem dX2_settle_12 : decode cX2_settle 12 = .ok (.invokevirtual 60, 3) := by decide +kernel
theorem dX2_settle_15 : decode cX2_settle 15 = .ok (.istore_n 2, 1) := by decide +kernel
theorem dX2_settle_16 : decode cX2_settle 16 = .ok (.iconst 0, 1) := by decide +kernel
theorem dX2_settle_17 : decode cX2_settle 17 = .ok (.istore_n 3, 1) := by decide +kernel
theorem dX2_settle_18 : decode cX2_settle 18 = .ok (.iload_n 3, 1) := by decide +kernel
theorem dX2_settle_19 : decode cX2_settle 19 = .ok (.bipush 40, 2) := by decide +kernel
theorem dX2_settle_21 : decode cX2_settle 21 = .ok (.if_icmp .gt 90, 3) := by decide +kernel
theorem dX2_settle_24 : decode cX2_settle 24 = .ok (.iconst 0, 1) := by decide +kernel
theorem dX2_settle_25 : decode cX2_settle 25 = .ok (.istore 4, 2) := by decide +kernel
theorem dX2_settle_27 : decode cX2_settle 27 = .ok (.iload 4, 2) := by decide +kernel
theorem dX2_settle_29 : decode cX2_settle 29 = .ok (.aload_n 0, 1) := by decide +kernel
theorem dX2_settle_30 : decode cX2_settle 30 = .ok (.getfield 28, 3) := by decide +kernel
theorem dX2_settle_33 : decode cX2_settle 33 = .ok (.getfield 44, 3) := by decide +kernel
theorem dX2_settle_36 : decode cX2_settle 36 = .ok (.if_icmp .ge 38, 3) := by decide +kernel
theorem dX2_settle_39 : decode cX2_settle 39 = .ok (.iload_n 2, 1) := by decide +kernel
theorem dX2_settle_40 : decode cX2_settle 40 = .ok (.iload 4, 2) := by decide +kernel
theorem dX2_settle_42 : decode cX2_settle 42 = .ok (.ishr, 1) := by decide +kernel
theorem dX2_settle_43 : decode cX2_settle 43 = .ok (.iconst 1, 1) := by decide +kernel
theorem dX2_settle_44 : decode cX2_settle 44 = .ok (.iand, 1) := by decide +kernel
theorem dX2_settle_45 : decode cX2_settle 45 = .ok (.ifCond .eq 23, 3) := by decide +kernel
theorem dX2_settle_48 : decode cX2_settle 48 = .ok (.aload_n 0, 1) := by decide +kernel
theorem dX2_settle_49 : decode cX2_settle 49 = .ok (.aload_n 1, 1) := by decide +kernel
theorem dX2_settle_50 : decode cX2_settle 50 = .ok (.iload 4, 2) := by decide +kernel
theorem dX2_settle_52 : decode cX2_settle 52 = .ok (.invokevirtual 64, 3) := by decide +kernel
theorem dX2_settle_55 : decode cX2_settle 55 = .ok (.aload_n 0, 1) := by decide +kernel
theorem dX2_settle_56 : decode cX2_settle 56 = .ok (.getfield 19, 3) := by decide +kernel
theorem dX2_settle_59 : decode cX2_settle 59 = .ok (.iload 4, 2) := by decide +kernel
theorem dX2_settle_61 : decode cX2_settle 61 = .ok (.aload_n 0, 1) := by decide +kernel
theorem dX2_settle_62 : decode cX2_settle 62 = .ok (.iload 4, 2) := by decide +kernel
theorem dX2_settle_64 : decode cX2_settle 64 = .ok (.invokevirtual 68, 3) := by decide +kernel
theorem dX2_settle_67 : decode cX2_settle 67 = .ok (.lastore, 1) := by decide +kernel
theorem dX2_settle_68 : decode cX2_settle 68 = .ok (.iinc 4 1, 3) := by decide +kernel
theorem dX2_settle_71 : decode cX2_settle 71 = .ok (.goto (-44), 3) := by decide +kernel
theorem dX2_settle_74 : decode cX2_settle 74 = .ok (.aload_n 0, 1) := by decide +kernel
theorem dX2_settle_75 : decode cX2_settle 75 = .ok (.iload_n 2, 1) := by decide +kernel
theorem dX2_settle_76 : decode cX2_settle 76 = .ok (.invokevirtual 72, 3) := by decide +kernel
theorem dX2_settle_79 : decode cX2_settle 79 = .ok (.istore 4, 2) := by decide +kernel
theorem dX2_settle_81 : decode cX2_settle 81 = .ok (.iload 4, 2) := by decide +kernel
theorem dX2_settle_83 : decode cX2_settle 83 = .ok (.ifCond .ne 5, 3) := by decide +kernel
theorem dX2_settle_86 : decode cX2_settle 86 = .ok (.iload_n 3, 1) := by decide +kernel
theorem dX2_settle_87 : decode cX2_settle 87 = .ok (.ireturn, 1) := by decide +kernel
theorem dX2_settle_88 : decode cX2_settle 88 = .ok (.aload_n 0, 1) := by decide +kernel
theorem dX2_settle_89 : decode cX2_settle 89 = .ok (.getfield 28, 3) := by decide +kernel
theorem dX2_settle_92 : decode cX2_settle 92 = .ok (.aload_n 0, 1) := by decide +kernel
theorem dX2_settle_93 : decode cX2_settle 93 = .ok (.getfield 28, 3) := by decide +kernel
theorem dX2_settle_96 : decode cX2_settle 96 = .ok (.getfield 75, 3) := by decide +kernel
theorem dX2_settle_99 : decode cX2_settle 99 = .ok (.iload 4, 2) := by decide +kernel
theorem dX2_settle_101 : decode cX2_settle 101 = .ok (.invokevirtual 78, 3) := by decide +kernel
theorem dX2_settle_104 : decode cX2_settle 104 = .ok (.istore_n 2, 1) := by decide +kernel
theorem dX2_settle_105 : decode cX2_settle 105 = .ok (.iinc 3 1, 3) := by decide +kernel
theorem dX2_settle_108 : decode cX2_settle 108 = .ok (.goto (-90), 3) := by decide +kernel
theorem dX2_settle_111 : decode cX2_settle 111 = .ok (.bipush (-9), 2) := by decide +kernel
theorem dX2_settle_113 : decode cX2_settle 113 = .ok (.ireturn, 1) := by decide +kernel
theorem dX2_takeFresh_0 : decode cX2_takeFresh 0 = .ok (.iconst 0, 1) := by decide +kernel
theorem dX2_takeFresh_1 : decode cX2_takeFresh 1 = .ok (.istore_n 2, 1) := by decide +kernel
theorem dX2_takeFresh_2 : decode cX2_takeFresh 2 = .ok (.iconst 0, 1) := by decide +kernel
theorem dX2_takeFresh_3 : decode cX2_takeFresh 3 = .ok (.istore_n 3, 1) := by decide +kernel
theorem dX2_takeFresh_4 : decode cX2_takeFresh 4 = .ok (.iload_n 3, 1) := by decide +kernel
theorem dX2_takeFresh_5 : decode cX2_takeFresh 5 = .ok (.aload_n 0, 1) := by decide +kernel
theorem dX2_takeFresh_6 : decode cX2_takeFresh 6 = .ok (.getfield 28, 3) := by decide +kernel
theorem dX2_takeFresh_9 : decode cX2_takeFresh 9 = .ok (.getfield 44, 3) := by decide +kernel
theorem dX2_takeFresh_12 : decode cX2_takeFresh 12 = .ok (.if_icmp .ge 51, 3) := by decide +kernel
theorem dX2_takeFresh_15 : decode cX2_takeFresh 15 = .ok (.iload_n 1, 1) := by decide +kernel
theorem dX2_takeFresh_16 : decode cX2_takeFresh 16 = .ok (.iload_n 3, 1) := by decide +kernel
theorem dX2_takeFresh_17 : decode cX2_takeFresh 17 = .ok (.ishr, 1) := by decide +kernel
theorem dX2_takeFresh_18 : decode cX2_takeFresh 18 = .ok (.iconst 1, 1) := by decide +kernel
theorem dX2_takeFresh_19 : decode cX2_takeFresh 19 = .ok (.iand, 1) := by decide +kernel
theorem dX2_takeFresh_20 : decode cX2_takeFresh 20 = .ok (.ifCond .eq 37, 3) := by decide +kernel
theorem dX2_takeFresh_23 : decode cX2_takeFresh 23 = .ok (.aload_n 0, 1) := by decide +kernel
theorem dX2_takeFresh_24 : decode cX2_takeFresh 24 = .ok (.getfield 19, 3) := by decide +kernel
theorem dX2_takeFresh_27 : decode cX2_takeFresh 27 = .ok (.iload_n 3, 1) := by decide +kernel
theorem dX2_takeFresh_28 : decode cX2_takeFresh 28 = .ok (.laload, 1) := by decide +kernel
theorem dX2_takeFresh_29 : decode cX2_takeFresh 29 = .ok (.aload_n 0, 1) := by decide +kernel
theorem dX2_takeFresh_30 : decode cX2_takeFresh 30 = .ok (.getfield 15, 3) := by decide +kernel
theorem dX2_takeFresh_33 : decode cX2_takeFresh 33 = .ok (.iload_n 3, 1) := by decide +kernel
theorem dX2_takeFresh_34 : decode cX2_takeFresh 34 = .ok (.laload, 1) := by decide +kernel
theorem dX2_takeFresh_35 : decode cX2_takeFresh 35 = .ok (.lcmp, 1) := by decide +kernel
theorem dX2_takeFresh_36 : decode cX2_takeFresh 36 = .ok (.ifCond .eq 21, 3) := by decide +kernel
theorem dX2_takeFresh_39 : decode cX2_takeFresh 39 = .ok (.aload_n 0, 1) := by decide +kernel
theorem dX2_takeFresh_40 : decode cX2_takeFresh 40 = .ok (.getfield 15, 3) := by decide +kernel
theorem dX2_takeFresh_43 : decode cX2_takeFresh 43 = .ok (.iload_n 3, 1) := by decide +kernel
theorem dX2_takeFresh_44 : decode cX2_takeFresh 44 = .ok (.aload_n 0, 1) := by decide +kernel
theorem dX2_takeFresh_45 : decode cX2_takeFresh 45 = .ok (.getfield 19, 3) := by decide +kernel
theorem dX2_takeFresh_48 : decode cX2_takeFresh 48 = .ok (.iload_n 3, 1) := by decide +kernel
theorem dX2_takeFresh_49 : decode cX2_takeFresh 49 = .ok (.laload, 1) := by decide +kernel
theorem dX2_takeFresh_50 : decode cX2_takeFresh 50 = .ok (.lastore, 1) := by decide +kernel
theorem dX2_takeFresh_51 : decode cX2_takeFresh 51 = .ok (.iload_n 2, 1) := by decide +kernel
theorem dX2_takeFresh_52 : decode cX2_takeFresh 52 = .ok (.iconst 1, 1) := by decide +kernel
theorem dX2_takeFresh_53 : decode cX2_takeFresh 53 = .ok (.iload_n 3, 1) := by decide +kernel
theorem dX2_takeFresh_54 : decode cX2_takeFresh 54 = .ok (.ishl, 1) := by decide +kernel
theorem dX2_takeFresh_55 : decode cX2_takeFresh 55 = .ok (.ior, 1) := by decide +kernel
theorem dX2_takeFresh_56 : decode cX2_takeFresh 56 = .ok (.istore_n 2, 1) := by decide +kernel
theorem dX2_takeFresh_57 : decode cX2_takeFresh 57 = .ok (.iinc 3 1, 3) := by decide +kernel
theorem dX2_takeFresh_60 : decode cX2_takeFresh 60 = .ok (.goto (-56), 3) := by decide +kernel
theorem dX2_takeFresh_63 : decode cX2_takeFresh 63 = .ok (.iload_n 2, 1) := by decide +kernel
theorem dX2_takeFresh_64 : decode cX2_takeFresh 64 = .ok (.ireturn, 1) := by decide +kernel
theorem dX2_hear_0 : decode cX2_hear 0 = .ok (.aload_n 0, 1) := by decide +kernel
theorem dX2_hear_1 : decode cX2_hear 1 = .ok (.iconst 0, 1) := by decide +kernel
theorem dX2_hear_2 : decode cX2_hear 2 = .ok (.putfield 82, 3) := by decide +kernel
theorem dX2_hear_5 : decode cX2_hear 5 = .ok (.iconst 0, 1) := by decide +kernel
theorem dX2_hear_6 : decode cX2_hear 6 = .ok (.istore_n 3, 1) := by decide +kernel
theorem dX2_hear_7 : decode cX2_hear 7 = .ok (.iload_n 3, 1) := by decide +kernel
theorem dX2_hear_8 : decode cX2_hear 8 = .ok (.aload_n 1, 1) := by decide +kernel
theorem dX2_hear_9 : decode cX2_hear 9 = .ok (.getfield 85, 3) := by decide +kernel
theorem dX2_hear_12 : decode cX2_hear 12 = .ok (.if_icmp .ge 60, 3) := by decide +kernel
theorem dX2_hear_15 : decode cX2_hear 15 = .ok (.aload_n 0, 1) := by decide +kernel
theorem dX2_hear_16 : decode cX2_hear 16 = .ok (.getfield 32, 3) := by decide +kernel
theorem dX2_hear_19 : decode cX2_hear 19 = .ok (.getfield 88, 3) := by decide +kernel
theorem dX2_hear_22 : decode cX2_hear 22 = .ok (.iload_n 3, 1) := by decide +kernel
theorem dX2_hear_23 : decode cX2_hear 23 = .ok (.iaload, 1) := by decide +kernel
theorem dX2_hear_24 : decode cX2_hear 24 = .ok (.iload_n 2, 1) := by decide +kernel
theorem dX2_hear_25 : decode cX2_hear 25 = .ok (.if_icmp .ne 41, 3) := by decide +kernel
theorem dX2_hear_28 : decode cX2_hear 28 = .ok (.aload_n 1, 1) := by decide +kernel
theorem dX2_hear_29 : decode cX2_hear 29 = .ok (.iload_n 3, 1) := by decide +kernel
theorem dX2_hear_30 : decode cX2_hear 30 = .ok (.invokevirtual 93, 3) := by decide +kernel
theorem dX2_hear_33 : decode cX2_hear 33 = .ok (.ifCond .eq 33, 3) := by decide +kernel
theorem dX2_hear_36 : decode cX2_hear 36 = .ok (.aload_n 0, 1) := by decide +kernel
theorem dX2_hear_37 : decode cX2_hear 37 = .ok (.getfield 22, 3) := by decide +kernel
theorem dX2_hear_40 : decode cX2_hear 40 = .ok (.aload_n 0, 1) := by decide +kernel
theorem dX2_hear_41 : decode cX2_hear 41 = .ok (.getfield 82, 3) := by decide +kernel
theorem dX2_hear_44 : decode cX2_hear 44 = .ok (.iload_n 3, 1) := by decide +kernel
theorem dX2_hear_45 : decode cX2_hear 45 = .ok (.aload_n 1, 1) := by decide +kernel
theorem dX2_hear_46 : decode cX2_hear 46 = .ok (.getfield 97, 3) := by decide +kernel
theorem dX2_hear_49 : decode cX2_hear 49 = .ok (.iload_n 3, 1) := by decide +kernel
theorem dX2_hear_50 : decode cX2_hear 50 = .ok (.iaload, 1) := by decide +kernel
theorem dX2_hear_51 : decode cX2_hear 51 = .ok (.iload_n 2, 1) := by decide +kernel
theorem dX2_hear_52 : decode cX2_hear 52 = .ok (.invokestatic 100, 3) := by decide +kernel
theorem dX2_hear_55 : decode cX2_hear 55 = .ok (.lastore, 1) := by decide +kernel
theorem dX2_hear_56 : decode cX2_hear 56 = .ok (.aload_n 0, 1) := by decide +kernel
theorem dX2_hear_57 : decode cX2_hear 57 = .ok (.dup, 1) := by decide +kernel
theorem dX2_hear_58 : decode cX2_hear 58 = .ok (.getfield 82, 3) := by decide +kernel
theorem dX2_hear_61 : decode cX2_hear 61 = .ok (.iconst 1, 1) := by decide +kernel
theorem dX2_hear_62 : decode cX2_hear 62 = .ok (.iadd, 1) := by decide +kernel
theorem dX2_hear_63 : decode cX2_hear 63 = .ok (.putfield 82, 3) := by decide +kernel
theorem dX2_hear_66 : decode cX2_hear 66 = .ok (.iinc 3 1, 3) := by decide +kernel
theorem dX2_hear_69 : decode cX2_hear 69 = .ok (.goto (-62), 3) := by decide +kernel
theorem dX2_hear_72 : decode cX2_hear 72 = .ok (.iconst 0, 1) := by decide +kernel
theorem dX2_hear_73 : decode cX2_hear 73 = .ok (.istore_n 3, 1) := by decide +kernel
theorem dX2_hear_74 : decode cX2_hear 74 = .ok (.iload_n 3, 1) := by decide +kernel
theorem dX2_hear_75 : decode cX2_hear 75 = .ok (.aload_n 0, 1) := by decide +kernel
theorem dX2_hear_76 : decode cX2_hear 76 = .ok (.getfield 28, 3) := by decide +kernel
theorem dX2_hear_79 : decode cX2_hear 79 = .ok (.getfield 44, 3) := by decide +kernel
theorem dX2_hear_82 : decode cX2_hear 82 = .ok (.if_icmp .ge 64, 3) := by decide +kernel
theorem dX2_hear_85 : decode cX2_hear 85 = .ok (.aload_n 0, 1) := by decide +kernel
theorem dX2_hear_86 : decode cX2_hear 86 = .ok (.getfield 28, 3) := by decide +kernel
theorem dX2_hear_89 : decode cX2_hear 89 = .ok (.getfield 75, 3) := by decide +kernel
theorem dX2_hear_92 : decode cX2_hear 92 = .ok (.iload_n 2, 1) := by decide +kernel
theorem dX2_hear_93 : decode cX2_hear 93 = .ok (.iaload, 1) := by decide +kernel
theorem dX2_hear_94 : decode cX2_hear 94 = .ok (.iload_n 3, 1) := by decide +kernel
theorem dX2_hear_95 : decode cX2_hear 95 = .ok (.ishr, 1) := by decide +kernel
theorem dX2_hear_96 : decode cX2_hear 96 = .ok (.iconst 1, 1) := by decide +kernel
theorem dX2_hear_97 : decode cX2_hear 97 = .ok (.iand, 1) := by decide +kernel
theorem dX2_hear_98 : decode cX2_hear 98 = .ok (.ifCond .eq 42, 3) := by decide +kernel
theorem dX2_hear_101 : decode cX2_hear 101 = .ok (.aload_n 0, 1) := by decide +kernel
theorem dX2_hear_102 : decode cX2_hear 102 = .ok (.aload_n 1, 1) := by decide +kernel
theorem dX2_hear_103 : decode cX2_hear 103 = .ok (.iload_n 3, 1) := by decide +kernel
theorem dX2_hear_104 : decode cX2_hear 104 = .ok (.iload_n 2, 1) := by decide +kernel
theorem dX2_hear_105 : decode cX2_hear 105 = .ok (.invokevirtual 104, 3) := by decide +kernel
theorem dX2_hear_108 : decode cX2_hear 108 = .ok (.ifCond .eq 32, 3) := by decide +kernel
theorem dX2_hear_111 : decode cX2_hear 111 = .ok (.aload_n 0, 1) := by decide +kernel
theorem dX2_hear_112 : decode cX2_hear 112 = .ok (.getfield 22, 3) := by decide +kernel
theorem dX2_hear_115 : decode cX2_hear 115 = .ok (.aload_n 0, 1) := by decide +kernel
theorem dX2_hear_116 : decode cX2_hear 116 = .ok (.getfield 82, 3) := by decide +kernel
theorem dX2_hear_119 : decode cX2_hear 119 = .ok (.aload_n 0, 1) := by decide +kernel
theorem dX2_hear_120 : decode cX2_hear 120 = .ok (.getfield 15, 3) := by decide +kernel
theorem dX2_hear_123 : decode cX2_hear 123 = .ok (.iload_n 3, 1) := by decide +kernel
theorem dX2_hear_124 : decode cX2_hear 124 = .ok (.laload, 1) := by decide +kernel
theorem dX2_hear_125 : decode cX2_hear 125 = .ok (.iload_n 2, 1) := by decide +kernel
theorem dX2_hear_126 : decode cX2_hear 126 = .ok (.invokestatic 108, 3) := by decide +kernel
theorem dX2_hear_129 : decode cX2_hear 129 = .ok (.lastore, 1) := by decide +kernel
theorem dX2_hear_130 : decode cX2_hear 130 = .ok (.aload_n 0, 1) := by decide +kernel
theorem dX2_hear_131 : decode cX2_hear 131 = .ok (.dup, 1) := by decide +kernel
theorem dX2_hear_132 : decode cX2_hear 132 = .ok (.getfield 82, 3) := by decide +kernel
theorem dX2_hear_135 : decode cX2_hear 135 = .ok (.iconst 1, 1) := by decide +kernel
theorem dX2_hear_136 : decode cX2_hear 136 = .ok (.iadd, 1) := by decide +kernel
theorem dX2_hear_137 : decode cX2_hear 137 = .ok (.putfield 82, 3) := by decide +kernel
theorem dX2_hear_140 : decode cX2_hear 140 = .ok (.iinc 3 1, 3) := by decide +kernel
theorem dX2_hear_143 : decode cX2_hear 143 = .ok (.goto (-69), 3) := by decide +kernel
theorem dX2_hear_146 : decode cX2_hear 146 = .ok (.return_, 1) := by decide +kernel
theorem dX2_passesOn_0 : decode cX2_passesOn 0 = .ok (.aload_n 0, 1) := by decide +kernel
theorem dX2_passesOn_1 : decode cX2_passesOn 1 = .ok (.getfield 15, 3) := by decide +kernel
theorem dX2_passesOn_4 : decode cX2_passesOn 4 = .ok (.iload_n 2, 1) := by decide +kernel
theorem dX2_passesOn_5 : decode cX2_passesOn 5 = .ok (.laload, 1) := by decide +kernel
theorem dX2_passesOn_6 : decode cX2_passesOn 6 = .ok (.lstore 4, 2) := by decide +kernel
theorem dX2_passesOn_8 : decode cX2_passesOn 8 = .ok (.lload 4, 2) := by decide +kernel
theorem dX2_passesOn_10 : decode cX2_passesOn 10 = .ok (.lconst 0, 1) := by decide +kernel
theorem dX2_passesOn_11 : decode cX2_passesOn 11 = .ok (.lcmp, 1) := by decide +kernel
theorem dX2_passesOn_12 : decode cX2_passesOn 12 = .ok (.ifCond .eq 17, 3) := by decide +kernel
theorem dX2_passesOn_15 : decode cX2_passesOn 15 = .ok (.lload 4, 2) := by decide +kernel
theorem dX2_passesOn_17 : decode cX2_passesOn 17 = .ok (.bipush 48, 2) := by decide +kernel
theorem dX2_passesOn_19 : decode cX2_passesOn 19 = .ok (.iload_n 3, 1) := by decide +kernel
theorem dX2_passesOn_20 : decode cX2_passesOn 20 = .ok (.iadd, 1) := by decide +kernel
theorem dX2_passesOn_21 : decode cX2_passesOn 21 = .ok (.lushr, 1) := by decide +kernel
theorem dX2_passesOn_22 : decode cX2_passesOn 22 = .ok (.lconst 1, 1) := by decide +kernel
theorem dX2_passesOn_23 : decode cX2_passesOn 23 = .ok (.land, 1) := by decide +kernel
theorem dX2_passesOn_24 : decode cX2_passesOn 24 = .ok (.lconst 0, 1) := by decide +kernel
theorem dX2_passesOn_25 : decode cX2_passesOn 25 = .ok (.lcmp, 1) := by decide +kernel
theorem dX2_passesOn_26 : decode cX2_passesOn 26 = .ok (.ifCond .eq 5, 3) := by decide +kernel
theorem dX2_passesOn_29 : decode cX2_passesOn 29 = .ok (.iconst 0, 1) := by decide +kernel
theorem dX2_passesOn_30 : decode cX2_passesOn 30 = .ok (.ireturn, 1) := by decide +kernel
theorem dX2_passesOn_31 : decode cX2_passesOn 31 = .ok (.lload 4, 2) := by decide +kernel
theorem dX2_passesOn_33 : decode cX2_passesOn 33 = .ok (.invokestatic 112, 3) := by decide +kernel
theorem dX2_passesOn_36 : decode cX2_passesOn 36 = .ok (.istore 6, 2) := by decide +kernel
theorem dX2_passesOn_38 : decode cX2_passesOn 38 = .ok (.iload 6, 2) := by decide +kernel
theorem dX2_passesOn_40 : decode cX2_passesOn 40 = .ok (.ifCond .lt 17, 3) := by decide +kernel
theorem dX2_passesOn_43 : decode cX2_passesOn 43 = .ok (.aload_n 1, 1) := by decide +kernel
theorem dX2_passesOn_44 : decode cX2_passesOn 44 = .ok (.getfield 116, 3) := by decide +kernel
theorem dX2_passesOn_47 : decode cX2_passesOn 47 = .ok (.iload 6, 2) := by decide +kernel
theorem dX2_passesOn_49 : decode cX2_passesOn 49 = .ok (.iaload, 1) := by decide +kernel
theorem dX2_passesOn_50 : decode cX2_passesOn 50 = .ok (.iload_n 3, 1) := by decide +kernel
theorem dX2_passesOn_51 : decode cX2_passesOn 51 = .ok (.ishr, 1) := by decide +kernel
theorem dX2_passesOn_52 : decode cX2_passesOn 52 = .ok (.iconst 1, 1) := by decide +kernel
theorem dX2_passesOn_53 : decode cX2_passesOn 53 = .ok (.iand, 1) := by decide +kernel
theorem dX2_passesOn_54 : decode cX2_passesOn 54 = .ok (.ifCond .eq 5, 3) := by decide +kernel
theorem dX2_passesOn_57 : decode cX2_passesOn 57 = .ok (.iconst 0, 1) := by decide +kernel
theorem dX2_passesOn_58 : decode cX2_passesOn 58 = .ok (.ireturn, 1) := by decide +kernel
theorem dX2_passesOn_59 : decode cX2_passesOn 59 = .ok (.lload 4, 2) := by decide +kernel
theorem dX2_passesOn_61 : decode cX2_passesOn 61 = .ok (.iconst 1, 1) := by decide +kernel
theorem dX2_passesOn_62 : decode cX2_passesOn 62 = .ok (.invokestatic 119, 3) := by decide +kernel
theorem dX2_passesOn_65 : decode cX2_passesOn 65 = .ok (.istore 7, 2) := by decide +kernel
theorem dX2_passesOn_67 : decode cX2_passesOn 67 = .ok (.iload 7, 2) := by decide +kernel
theorem dX2_passesOn_69 : decode cX2_passesOn 69 = .ok (.bipush (-9), 2) := by decide +kernel
theorem dX2_passesOn_71 : decode cX2_passesOn 71 = .ok (.if_icmp .ne 5, 3) := by decide +kernel
theorem dX2_passesOn_74 : decode cX2_passesOn 74 = .ok (.iconst 1, 1) := by decide +kernel
theorem dX2_passesOn_75 : decode cX2_passesOn 75 = .ok (.ireturn, 1) := by decide +kernel
theorem dX2_passesOn_76 : decode cX2_passesOn 76 = .ok (.aload_n 0, 1) := by decide +kernel
theorem dX2_passesOn_77 : decode cX2_passesOn 77 = .ok (.getfield 28, 3) := by decide +kernel
theorem dX2_passesOn_80 : decode cX2_passesOn 80 = .ok (.iload_n 2, 1) := by decide +kernel
theorem dX2_passesOn_81 : decode cX2_passesOn 81 = .ok (.iload 7, 2) := by decide +kernel
theorem dX2_passesOn_83 : decode cX2_passesOn 83 = .ok (.invokevirtual 123, 3) := by decide +kernel
theorem dX2_passesOn_86 : decode cX2_passesOn 86 = .ok (.iconst 1, 1) := by decide +kernel
theorem dX2_passesOn_87 : decode cX2_passesOn 87 = .ok (.if_icmp .eq 16, 3) := by decide +kernel
theorem dX2_passesOn_90 : decode cX2_passesOn 90 = .ok (.aload_n 0, 1) := by decide +kernel
theorem dX2_passesOn_91 : decode cX2_passesOn 91 = .ok (.getfield 28, 3) := by decide +kernel
theorem dX2_passesOn_94 : decode cX2_passesOn 94 = .ok (.iload_n 2, 1) := by decide +kernel
theorem dX2_passesOn_95 : decode cX2_passesOn 95 = .ok (.iload_n 3, 1) := by decide +kernel
theorem dX2_passesOn_96 : decode cX2_passesOn 96 = .ok (.invokevirtual 123, 3) := by decide +kernel
theorem dX2_passesOn_99 : decode cX2_passesOn 99 = .ok (.iconst 1, 1) := by decide +kernel
theorem dX2_passesOn_100 : decode cX2_passesOn 100 = .ok (.if_icmp .ne 7, 3) := by decide +kernel
theorem dX2_passesOn_103 : decode cX2_passesOn 103 = .ok (.iconst 1, 1) := by decide +kernel
theorem dX2_passesOn_104 : decode cX2_passesOn 104 = .ok (.goto 4, 3) := by decide +kernel
theorem dX2_passesOn_107 : decode cX2_passesOn 107 = .ok (.iconst 0, 1) := by decide +kernel
theorem dX2_passesOn_108 : decode cX2_passesOn 108 = .ok (.istore 8, 2) := by decide +kernel
theorem dX2_passesOn_110 : decode cX2_passesOn 110 = .ok (.iload 8, 2) := by decide +kernel
theorem dX2_passesOn_112 : decode cX2_passesOn 112 = .ok (.ifCond .eq 17, 3) := by decide +kernel
theorem dX2_passesOn_115 : decode cX2_passesOn 115 = .ok (.aload_n 1, 1) := by decide +kernel
theorem dX2_passesOn_116 : decode cX2_passesOn 116 = .ok (.getfield 127, 3) := by decide +kernel
theorem dX2_passesOn_119 : decode cX2_passesOn 119 = .ok (.iload 6, 2) := by decide +kernel
theorem dX2_passesOn_121 : decode cX2_passesOn 121 = .ok (.baload, 1) := by decide +kernel
theorem dX2_passesOn_122 : decode cX2_passesOn 122 = .ok (.ifCond .ne 7, 3) := by decide +kernel
theorem dX2_passesOn_125 : decode cX2_passesOn 125 = .ok (.iconst 1, 1) := by decide +kernel
theorem dX2_passesOn_126 : decode cX2_passesOn 126 = .ok (.goto 4, 3) := by decide +kernel
theorem dX2_passesOn_129 : decode cX2_passesOn 129 = .ok (.iconst 0, 1) := by decide +kernel
theorem dX2_passesOn_130 : decode cX2_passesOn 130 = .ok (.ireturn, 1) := by decide +kernel
theorem dX2_pick_0 : decode cX2_pick 0 = .ok (.aload_n 0, 1) := by decide +kernel
theorem dX2_pick_1 : decode cX2_pick 1 = .ok (.getfield 82, 3) := by decide +kernel
theorem dX2_pick_4 : decode cX2_pick 4 = .ok (.ifCond .ne 5, 3) := by decide +kernel
theorem dX2_pick_7 : decode cX2_pick 7 = .ok (.lconst 0, 1) := by decide +kernel
theorem dX2_pick_8 : decode cX2_pick 8 = .ok (.lreturn, 1) := by decide +kernel
theorem dX2_pick_9 : decode cX2_pick 9 = .ok (.iconst 0, 1) := by decide +kernel
theorem dX2_pick_10 : decode cX2_pick 10 = .ok (.istore_n 2, 1) := by decide +kernel
theorem dX2_pick_11 : decode cX2_pick 11 = .ok (.iconst 0, 1) := by decide +kernel
theorem dX2_pick_12 : decode cX2_pick 12 = .ok (.istore_n 3, 1) := by decide +kernel
theorem dX2_pick_13 : decode cX2_pick 13 = .ok (.iload_n 3, 1) := by decide +kernel
theorem dX2_pick_14 : decode cX2_pick 14 = .ok (.aload_n 0, 1) := by decide +kernel
theorem dX2_pick_15 : decode cX2_pick 15 = .ok (.getfield 82, 3) := by decide +kernel
theorem dX2_pick_18 : decode cX2_pick 18 = .ok (.if_icmp .ge 43, 3) := by decide +kernel
theorem dX2_pick_21 : decode cX2_pick 21 = .ok (.aload_n 0, 1) := by decide +kernel
theorem dX2_pick_22 : decode cX2_pick 22 = .ok (.getfield 25, 3) := by decide +kernel
theorem dX2_pick_25 : decode cX2_pick 25 = .ok (.iload_n 3, 1) := by decide +kernel
theorem dX2_pick_26 : decode cX2_pick 26 = .ok (.aload_n 0, 1) := by decide +kernel
theorem dX2_pick_27 : decode cX2_pick 27 = .ok (.iload_n 1, 1) := by decide +kernel
theorem dX2_pick_28 : decode cX2_pick 28 = .ok (.aload_n 0, 1) := by decide +kernel
theorem dX2_pick_29 : decode cX2_pick 29 = .ok (.getfield 22, 3) := by decide +kernel
theorem dX2_pick_32 : decode cX2_pick 32 = .ok (.iload_n 3, 1) := by decide +kernel
theorem dX2_pick_33 : decode cX2_pick 33 = .ok (.laload, 1) := by decide +kernel
theorem dX2_pick_34 : decode cX2_pick 34 = .ok (.invokevirtual 131, 3) := by decide +kernel
theorem dX2_pick_37 : decode cX2_pick 37 = .ok (.iastore, 1) := by decide +kernel
theorem dX2_pick_38 : decode cX2_pick 38 = .ok (.aload_n 0, 1) := by decide +kernel
theorem dX2_pick_39 : decode cX2_pick 39 = .ok (.getfield 25, 3) := by decide +kernel
theorem dX2_pick_42 : decode cX2_pick 42 = .ok (.iload_n 3, 1) := by decide +kernel
theorem dX2_pick_43 : decode cX2_pick 43 = .ok (.iaload, 1) := by decide +kernel
theorem dX2_pick_44 : decode cX2_pick 44 = .ok (.aload_n 0, 1) := by decide +kernel
theorem dX2_pick_45 : decode cX2_pick 45 = .ok (.getfield 25, 3) := by decide +kernel
theorem dX2_pick_48 : decode cX2_pick 48 = .ok (.iload_n 2, 1) := by decide +kernel
theorem dX2_pick_49 : decode cX2_pick 49 = .ok (.iaload, 1) := by decide +kernel
theorem dX2_pick_50 : decode cX2_pick 50 = .ok (.if_icmp .ge 5, 3) := by decide +kernel
theorem dX2_pick_53 : decode cX2_pick 53 = .ok (.iload_n 3, 1) := by decide +kernel
theorem dX2_pick_54 : decode cX2_pick 54 = .ok (.istore_n 2, 1) := by decide +kernel
theorem dX2_pick_55 : decode cX2_pick 55 = .ok (.iinc 3 1, 3) := by decide +kernel
theorem dX2_pick_58 : decode cX2_pick 58 = .ok (.goto (-45), 3) := by decide +kernel
theorem dX2_pick_61 : decode cX2_pick 61 = .ok (.aload_n 0, 1) := by decide +kernel
theorem dX2_pick_62 : decode cX2_pick 62 = .ok (.getfield 22, 3) := by decide +kernel
theorem dX2_pick_65 : decode cX2_pick 65 = .ok (.iload_n 2, 1) := by decide +kernel
theorem dX2_pick_66 : decode cX2_pick 66 = .ok (.laload, 1) := by decide +kernel
theorem dX2_pick_67 : decode cX2_pick 67 = .ok (.lreturn, 1) := by decide +kernel
theorem dX2_rank_0 : decode cX2_rank 0 = .ok (.lload_n 2, 1) := by decide +kernel
theorem dX2_rank_1 : decode cX2_rank 1 = .ok (.iconst 1, 1) := by decide +kernel
theorem dX2_rank_2 : decode cX2_rank 2 = .ok (.invokestatic 119, 3) := by decide +kernel
theorem dX2_rank_5 : decode cX2_rank 5 = .ok (.istore 4, 2) := by decide +kernel
theorem dX2_rank_7 : decode cX2_rank 7 = .ok (.lload_n 2, 1) := by decide +kernel
theorem dX2_rank_8 : decode cX2_rank 8 = .ok (.invokestatic 135, 3) := by decide +kernel
theorem dX2_rank_11 : decode cX2_rank 11 = .ok (.istore 5, 2) := by decide +kernel
theorem dX2_rank_13 : decode cX2_rank 13 = .ok (.iconst 0, 1) := by decide +kernel
theorem dX2_rank_14 : decode cX2_rank 14 = .ok (.istore 6, 2) := by decide +kernel
theorem dX2_rank_16 : decode cX2_rank 16 = .ok (.lload_n 2, 1) := by decide +kernel
theorem dX2_rank_17 : decode cX2_rank 17 = .ok (.invokestatic 112, 3) := by decide +kernel
theorem dX2_rank_20 : decode cX2_rank 20 = .ok (.istore 7, 2) := by decide +kernel
theorem dX2_rank_22 : decode cX2_rank 22 = .ok (.iload 4, 2) := by decide +kernel
theorem dX2_rank_24 : decode cX2_rank 24 = .ok (.bipush (-9), 2) := by decide +kernel
theorem dX2_rank_26 : decode cX2_rank 26 = .ok (.if_icmp .eq 41, 3) := by decide +kernel
theorem dX2_rank_29 : decode cX2_rank 29 = .ok (.aload_n 0, 1) := by decide +kernel
theorem dX2_rank_30 : decode cX2_rank 30 = .ok (.getfield 28, 3) := by decide +kernel
theorem dX2_rank_33 : decode cX2_rank 33 = .ok (.iload_n 1, 1) := by decide +kernel
theorem dX2_rank_34 : decode cX2_rank 34 = .ok (.iload 4, 2) := by decide +kernel
theorem dX2_rank_36 : decode cX2_rank 36 = .ok (.invokevirtual 123, 3) := by decide +kernel
theorem dX2_rank_39 : decode cX2_rank 39 = .ok (.iconst 1, 1) := by decide +kernel
theorem dX2_rank_40 : decode cX2_rank 40 = .ok (.isub, 1) := by decide +kernel
theorem dX2_rank_41 : decode cX2_rank 41 = .ok (.istore 6, 2) := by decide +kernel
theorem dX2_rank_43 : decode cX2_rank 43 = .ok (.iconst 4, 1) := by decide +kernel
theorem dX2_rank_44 : decode cX2_rank 44 = .ok (.aload_n 0, 1) := by decide +kernel
theorem dX2_rank_45 : decode cX2_rank 45 = .ok (.getfield 9, 3) := by decide +kernel
theorem dX2_rank_48 : decode cX2_rank 48 = .ok (.iload_n 1, 1) := by decide +kernel
theorem dX2_rank_49 : decode cX2_rank 49 = .ok (.iaload, 1) := by decide +kernel
theorem dX2_rank_50 : decode cX2_rank 50 = .ok (.iconst 1, 1) := by decide +kernel
theorem dX2_rank_51 : decode cX2_rank 51 = .ok (.if_icmp .ne 11, 3) := by decide +kernel
theorem dX2_rank_54 : decode cX2_rank 54 = .ok (.bipush 9, 2) := by decide +kernel
theorem dX2_rank_56 : decode cX2_rank 56 = .ok (.iload 4, 2) := by decide +kernel
theorem dX2_rank_58 : decode cX2_rank 58 = .ok (.isub, 1) := by decide +kernel
theorem dX2_rank_59 : decode cX2_rank 59 = .ok (.goto 5, 3) := by decide +kernel
theorem dX2_rank_62 : decode cX2_rank 62 = .ok (.iload 4, 2) := by decide +kernel
theorem dX2_rank_64 : decode cX2_rank 64 = .ok (.iadd, 1) := by decide +kernel
theorem dX2_rank_65 : decode cX2_rank 65 = .ok (.istore 7, 2) := by decide +kernel
theorem dX2_rank_67 : decode cX2_rank 67 = .ok (.aload_n 0, 1) := by decide +kernel
theorem dX2_rank_68 : decode cX2_rank 68 = .ok (.getfield 9, 3) := by decide +kernel
theorem dX2_rank_71 : decode cX2_rank 71 = .ok (.iload_n 1, 1) := by decide +kernel
theorem dX2_rank_72 : decode cX2_rank 72 = .ok (.iaload, 1) := by decide +kernel
theorem dX2_rank_73 : decode cX2_rank 73 = .ok (.lookupswitch 55 #[(2, 27), (3, 41)], 27) := by decide +kernel
theorem dX2_rank_100 : decode cX2_rank 100 = .ok (.iload 5, 2) := by decide +kernel
theorem dX2_rank_102 : decode cX2_rank 102 = .ok (.bipush 10, 2) := by decide +kernel
theorem dX2_rank_104 : decode cX2_rank 104 = .ok (.ishl, 1) := by decide +kernel
theorem dX2_rank_105 : decode cX2_rank 105 = .ok (.iload 6, 2) := by decide +kernel
theorem dX2_rank_107 : decode cX2_rank 107 = .ok (.iconst 5, 1) := by decide +kernel
theorem dX2_rank_108 : decode cX2_rank 108 = .ok (.ishl, 1) := by decide +kernel
theorem dX2_rank_109 : decode cX2_rank 109 = .ok (.ior, 1) := by decide +kernel
theorem dX2_rank_110 : decode cX2_rank 110 = .ok (.iload 7, 2) := by decide +kernel
theorem dX2_rank_112 : decode cX2_rank 112 = .ok (.ior, 1) := by decide +kernel
theorem dX2_rank_113 : decode cX2_rank 113 = .ok (.ireturn, 1) := by decide +kernel
theorem dX2_rank_114 : decode cX2_rank 114 = .ok (.iload 6, 2) := by decide +kernel
theorem dX2_rank_116 : decode cX2_rank 116 = .ok (.bipush 10, 2) := by decide +kernel
theorem dX2_rank_118 : decode cX2_rank 118 = .ok (.ishl, 1) := by decide +kernel
theorem dX2_rank_119 : decode cX2_rank 119 = .ok (.iload 7, 2) := by decide +kernel
theorem dX2_rank_121 : decode cX2_rank 121 = .ok (.iconst 5, 1) := by decide +kernel
theorem dX2_rank_122 : decode cX2_rank 122 = .ok (.ishl, 1) := by decide +kernel
theorem dX2_rank_123 : decode cX2_rank 123 = .ok (.ior, 1) := by decide +kernel
theorem dX2_rank_124 : decode cX2_rank 124 = .ok (.iload 5, 2) := by decide +kernel
theorem dX2_rank_126 : decode cX2_rank 126 = .ok (.ior, 1) := by decide +kernel
theorem dX2_rank_127 : decode cX2_rank 127 = .ok (.ireturn, 1) := by decide +kernel
theorem dX2_rank_128 : decode cX2_rank 128 = .ok (.iload 6, 2) := by decide +kernel
theorem dX2_rank_130 : decode cX2_rank 130 = .ok (.bipush 10, 2) := by decide +kernel
theorem dX2_rank_132 : decode cX2_rank 132 = .ok (.ishl, 1) := by decide +kernel
theorem dX2_rank_133 : decode cX2_rank 133 = .ok (.iload 5, 2) := by decide +kernel
theorem dX2_rank_135 : decode cX2_rank 135 = .ok (.iconst 5, 1) := by decide +kernel
theorem dX2_rank_136 : decode cX2_rank 136 = .ok (.ishl, 1) := by decide +kernel
theorem dX2_rank_137 : decode cX2_rank 137 = .ok (.ior, 1) := by decide +kernel
theorem dX2_rank_138 : decode cX2_rank 138 = .ok (.iload 7, 2) := by decide +kernel
theorem dX2_rank_140 : decode cX2_rank 140 = .ok (.ior, 1) := by decide +kernel
theorem dX2_rank_141 : decode cX2_rank 141 = .ok (.ireturn, 1) := by decide +kernel
theorem dX2_needed_0 : decode cX2_needed 0 = .ok (.aload_n 0, 1) := by decide +kernel
theorem dX2_needed_1 : decode cX2_needed 1 = .ok (.getfield 82, 3) := by decide +kernel
theorem dX2_needed_4 : decode cX2_needed 4 = .ok (.iconst 2, 1) := by decide +kernel
theorem dX2_needed_5 : decode cX2_needed 5 = .ok (.if_icmp .ge 17, 3) := by decide +kernel
theorem dX2_needed_8 : decode cX2_needed 8 = .ok (.aload_n 0, 1) := by decide +kernel
theorem dX2_needed_9 : decode cX2_needed 9 = .ok (.getfield 82, 3) := by decide +kernel
theorem dX2_needed_12 : decode cX2_needed 12 = .ok (.ifCond .ne 8, 3) := by decide +kernel
theorem dX2_needed_15 : decode cX2_needed 15 = .ok (.bipush (-9), 2) := by decide +kernel
theorem dX2_needed_17 : decode cX2_needed 17 = .ok (.goto 4, 3) := by decide +kernel
theorem dX2_needed_20 : decode cX2_needed 20 = .ok (.iconst 0, 1) := by decide +kernel
theorem dX2_needed_21 : decode cX2_needed 21 = .ok (.ireturn, 1) := by decide +kernel
theorem dX2_needed_22 : decode cX2_needed 22 = .ok (.aload_n 0, 1) := by decide +kernel
theorem dX2_needed_23 : decode cX2_needed 23 = .ok (.iload_n 1, 1) := by decide +kernel
theorem dX2_needed_24 : decode cX2_needed 24 = .ok (.aload_n 0, 1) := by decide +kernel
theorem dX2_needed_25 : decode cX2_needed 25 = .ok (.iload_n 1, 1) := by decide +kernel
theorem dX2_needed_26 : decode cX2_needed 26 = .ok (.invokevirtual 68, 3) := by decide +kernel
theorem dX2_needed_29 : decode cX2_needed 29 = .ok (.invokevirtual 131, 3) := by decide +kernel
theorem dX2_needed_32 : decode cX2_needed 32 = .ok (.istore_n 2, 1) := by decide +kernel
theorem dX2_needed_33 : decode cX2_needed 33 = .ok (.iconst 0, 1) := by decide +kernel
theorem dX2_needed_34 : decode cX2_needed 34 = .ok (.istore_n 3, 1) := by decide +kernel
theorem dX2_needed_35 : decode cX2_needed 35 = .ok (.iload_n 3, 1) := by decide +kernel
theorem dX2_needed_36 : decode cX2_needed 36 = .ok (.iconst 2, 1) := by decide +kernel
theorem dX2_needed_37 : decode cX2_needed 37 = .ok (.if_icmp .ge 39, 3) := by decide +kernel
theorem dX2_needed_40 : decode cX2_needed 40 = .ok (.aload_n 0, 1) := by decide +kernel
theorem dX2_needed_41 : decode cX2_needed 41 = .ok (.iload_n 2, 1) := by decide +kernel
theorem dX2_needed_42 : decode cX2_needed 42 = .ok (.bipush 10, 2) := by decide +kernel
theorem dX2_needed_44 : decode cX2_needed 44 = .ok (.iconst 5, 1) := by decide +kernel
theorem dX2_needed_45 : decode cX2_needed 45 = .ok (.iload_n 3, 1) := by decide +kernel
theorem dX2_needed_46 : decode cX2_needed 46 = .ok (.imul, 1) := by decide +kernel
theorem dX2_needed_47 : decode cX2_needed 47 = .ok (.isub, 1) := by decide +kernel
theorem dX2_needed_48 : decode cX2_needed 48 = .ok (.invokevirtual 138, 3) := by decide +kernel
theorem dX2_needed_51 : decode cX2_needed 51 = .ok (.iconst 1, 1) := by decide +kernel
theorem dX2_needed_52 : decode cX2_needed 52 = .ok (.if_icmp .ne 18, 3) := by decide +kernel
theorem dX2_needed_55 : decode cX2_needed 55 = .ok (.getstatic 141, 3) := by decide +kernel
theorem dX2_needed_58 : decode cX2_needed 58 = .ok (.aload_n 0, 1) := by decide +kernel
theorem dX2_needed_59 : decode cX2_needed 59 = .ok (.getfield 9, 3) := by decide +kernel
theorem dX2_needed_62 : decode cX2_needed 62 = .ok (.iload_n 1, 1) := by decide +kernel
theorem dX2_needed_63 : decode cX2_needed 63 = .ok (.iaload, 1) := by decide +kernel
theorem dX2_needed_64 : decode cX2_needed 64 = .ok (.iconst 3, 1) := by decide +kernel
theorem dX2_needed_65 : decode cX2_needed 65 = .ok (.imul, 1) := by decide +kernel
theorem dX2_needed_66 : decode cX2_needed 66 = .ok (.iload_n 3, 1) := by decide +kernel
theorem dX2_needed_67 : decode cX2_needed 67 = .ok (.iadd, 1) := by decide +kernel
theorem dX2_needed_68 : decode cX2_needed 68 = .ok (.iaload, 1) := by decide +kernel
theorem dX2_needed_69 : decode cX2_needed 69 = .ok (.ireturn, 1) := by decide +kernel
theorem dX2_needed_70 : decode cX2_needed 70 = .ok (.iinc 3 1, 3) := by decide +kernel
theorem dX2_needed_73 : decode cX2_needed 73 = .ok (.goto (-38), 3) := by decide +kernel
theorem dX2_needed_76 : decode cX2_needed 76 = .ok (.getstatic 141, 3) := by decide +kernel
theorem dX2_needed_79 : decode cX2_needed 79 = .ok (.aload_n 0, 1) := by decide +kernel
theorem dX2_needed_80 : decode cX2_needed 80 = .ok (.getfield 9, 3) := by decide +kernel
theorem dX2_needed_83 : decode cX2_needed 83 = .ok (.iload_n 1, 1) := by decide +kernel
theorem dX2_needed_84 : decode cX2_needed 84 = .ok (.iaload, 1) := by decide +kernel
theorem dX2_needed_85 : decode cX2_needed 85 = .ok (.iconst 3, 1) := by decide +kernel
theorem dX2_needed_86 : decode cX2_needed 86 = .ok (.imul, 1) := by decide +kernel
theorem dX2_needed_87 : decode cX2_needed 87 = .ok (.iconst 2, 1) := by decide +kernel
theorem dX2_needed_88 : decode cX2_needed 88 = .ok (.iadd, 1) := by decide +kernel
theorem dX2_needed_89 : decode cX2_needed 89 = .ok (.iaload, 1) := by decide +kernel
theorem dX2_needed_90 : decode cX2_needed 90 = .ok (.ireturn, 1) := by decide +kernel
theorem dX2_alike_0 : decode cX2_alike 0 = .ok (.iconst 0, 1) := by decide +kernel
theorem dX2_alike_1 : decode cX2_alike 1 = .ok (.istore_n 3, 1) := by decide +kernel
theorem dX2_alike_2 : decode cX2_alike 2 = .ok (.iconst 0, 1) := by decide +kernel
theorem dX2_alike_3 : decode cX2_alike 3 = .ok (.istore 4, 2) := by decide +kernel
theorem dX2_alike_5 : decode cX2_alike 5 = .ok (.iload 4, 2) := by decide +kernel
theorem dX2_alike_7 : decode cX2_alike 7 = .ok (.aload_n 0, 1) := by decide +kernel
theorem dX2_alike_8 : decode cX2_alike 8 = .ok (.getfield 82, 3) := by decide +kernel
theorem dX2_alike_11 : decode cX2_alike 11 = .ok (.if_icmp .ge 27, 3) := by decide +kernel
theorem dX2_alike_14 : decode cX2_alike 14 = .ok (.aload_n 0, 1) := by decide +kernel
theorem dX2_alike_15 : decode cX2_alike 15 = .ok (.getfield 25, 3) := by decide +kernel
theorem dX2_alike_18 : decode cX2_alike 18 = .ok (.iload 4, 2) := by decide +kernel
theorem dX2_alike_20 : decode cX2_alike 20 = .ok (.iaload, 1) := by decide +kernel
theorem dX2_alike_21 : decode cX2_alike 21 = .ok (.iload_n 2, 1) := by decide +kernel
theorem dX2_alike_22 : decode cX2_alike 22 = .ok (.ishr, 1) := by decide +kernel
theorem dX2_alike_23 : decode cX2_alike 23 = .ok (.iload_n 1, 1) := by decide +kernel
theorem dX2_alike_24 : decode cX2_alike 24 = .ok (.iload_n 2, 1) := by decide +kernel
theorem dX2_alike_25 : decode cX2_alike 25 = .ok (.ishr, 1) := by decide +kernel
theorem dX2_alike_26 : decode cX2_alike 26 = .ok (.if_icmp .ne 6, 3) := by decide +kernel
theorem dX2_alike_29 : decode cX2_alike 29 = .ok (.iinc 3 1, 3) := by decide +kernel
theorem dX2_alike_32 : decode cX2_alike 32 = .ok (.iinc 4 1, 3) := by decide +kernel
theorem dX2_alike_35 : decode cX2_alike 35 = .ok (.goto (-30), 3) := by decide +kernel
theorem dX2_alike_38 : decode cX2_alike 38 = .ok (.iload_n 3, 1) := by decide +kernel
theorem dX2_alike_39 : decode cX2_alike 39 = .ok (.ireturn, 1) := by decide +kernel
theorem dX2_comesTo_0 : decode cX2_comesTo 0 = .ok (.aload_n 0, 1) := by decide +kernel
theorem dX2_comesTo_1 : decode cX2_comesTo 1 = .ok (.getfield 15, 3) := by decide +kernel
theorem dX2_comesTo_4 : decode cX2_comesTo 4 = .ok (.iload_n 1, 1) := by decide +kernel
theorem dX2_comesTo_5 : decode cX2_comesTo 5 = .ok (.laload, 1) := by decide +kernel
theorem dX2_comesTo_6 : decode cX2_comesTo 6 = .ok (.lconst 0, 1) := by decide +kernel
theorem dX2_comesTo_7 : decode cX2_comesTo 7 = .ok (.lcmp, 1) := by decide +kernel
theorem dX2_comesTo_8 : decode cX2_comesTo 8 = .ok (.ifCond .ne 8, 3) := by decide +kernel
theorem dX2_comesTo_11 : decode cX2_comesTo 11 = .ok (.bipush (-9), 2) := by decide +kernel
theorem dX2_comesTo_13 : decode cX2_comesTo 13 = .ok (.goto 12, 3) := by decide +kernel
theorem dX2_comesTo_16 : decode cX2_comesTo 16 = .ok (.aload_n 0, 1) := by decide +kernel
theorem dX2_comesTo_17 : decode cX2_comesTo 17 = .ok (.getfield 15, 3) := by decide +kernel
theorem dX2_comesTo_20 : decode cX2_comesTo 20 = .ok (.iload_n 1, 1) := by decide +kernel
theorem dX2_comesTo_21 : decode cX2_comesTo 21 = .ok (.laload, 1) := by decide +kernel
theorem dX2_comesTo_22 : decode cX2_comesTo 22 = .ok (.invokestatic 112, 3) := by decide +kernel
theorem dX2_comesTo_25 : decode cX2_comesTo 25 = .ok (.ireturn, 1) := by decide +kernel
theorem dX2_outcome_0 : decode cX2_outcome 0 = .ok (.iconst 0, 1) := by decide +kernel
theorem dX2_outcome_1 : decode cX2_outcome 1 = .ok (.istore_n 1, 1) := by decide +kernel
theorem dX2_outcome_2 : decode cX2_outcome 2 = .ok (.iconst 0, 1) := by decide +kernel
theorem dX2_outcome_3 : decode cX2_outcome 3 = .ok (.istore_n 2, 1) := by decide +kernel
theorem dX2_outcome_4 : decode cX2_outcome 4 = .ok (.iload_n 2, 1) := by decide +kernel
theorem dX2_outcome_5 : decode cX2_outcome 5 = .ok (.aload_n 0, 1) := by decide +kernel
theorem dX2_outcome_6 : decode cX2_outcome 6 = .ok (.getfield 28, 3) := by decide +kernel
theorem dX2_outcome_9 : decode cX2_outcome 9 = .ok (.getfield 44, 3) := by decide +kernel
theorem dX2_outcome_12 : decode cX2_outcome 12 = .ok (.if_icmp .ge 27, 3) := by decide +kernel
theorem dX2_outcome_15 : decode cX2_outcome 15 = .ok (.iload_n 1, 1) := by decide +kernel
theorem dX2_outcome_16 : decode cX2_outcome 16 = .ok (.aload_n 0, 1) := by decide +kernel
theorem dX2_outcome_17 : decode cX2_outcome 17 = .ok (.getfield 15, 3) := by decide +kernel
theorem dX2_outcome_20 : decode cX2_outcome 20 = .ok (.iload_n 2, 1) := by decide +kernel
theorem dX2_outcome_21 : decode cX2_outcome 21 = .ok (.laload, 1) := by decide +kernel
theorem dX2_outcome_22 : decode cX2_outcome 22 = .ok (.invokestatic 112, 3) := by decide +kernel
theorem dX2_outcome_25 : decode cX2_outcome 25 = .ok (.iconst 1, 1) := by decide +kernel
theorem dX2_outcome_26 : decode cX2_outcome 26 = .ok (.iadd, 1) := by decide +kernel
theorem dX2_outcome_27 : decode cX2_outcome 27 = .ok (.iconst 3, 1) := by decide +kernel
theorem dX2_outcome_28 : decode cX2_outcome 28 = .ok (.iload_n 2, 1) := by decide +kernel
theorem dX2_outcome_29 : decode cX2_outcome 29 = .ok (.imul, 1) := by decide +kernel
theorem dX2_outcome_30 : decode cX2_outcome 30 = .ok (.ishl, 1) := by decide +kernel
theorem dX2_outcome_31 : decode cX2_outcome 31 = .ok (.ior, 1) := by decide +kernel
theorem dX2_outcome_32 : decode cX2_outcome 32 = .ok (.istore_n 1, 1) := by decide +kernel
theorem dX2_outcome_33 : decode cX2_outcome 33 = .ok (.iinc 2 1, 3) := by decide +kernel
theorem dX2_outcome_36 : decode cX2_outcome 36 = .ok (.goto (-32), 3) := by decide +kernel
theorem dX2_outcome_39 : decode cX2_outcome 39 = .ok (.iload_n 1, 1) := by decide +kernel
theorem dX2_outcome_40 : decode cX2_outcome 40 = .ok (.ireturn, 1) := by decide +kernel
theorem dX3_init_0 : decode cX3_init 0 = .ok (.aload_n 0, 1) := by decide +kernel
theorem dX3_init_1 : decode cX3_init 1 = .ok (.invokespecial 3, 3) := by decide +kernel
theorem dX3_init_4 : decode cX3_init 4 = .ok (.aload_n 0, 1) := by decide +kernel
theorem dX3_init_5 : decode cX3_init 5 = .ok (.bipush 10, 2) := by decide +kernel
theorem dX3_init_7 : decode cX3_init 7 = .ok (.newarray .int, 2) := by decide +kernel
theorem dX3_init_9 : decode cX3_init 9 = .ok (.putfield 9, 3) := by decide +kernel
theorem dX3_init_12 : decode cX3_init 12 = .ok (.aload_n 0, 1) := by decide +kernel
theorem dX3_init_13 : decode cX3_init 13 = .ok (.bipush 10, 2) := by decide +kernel
theorem dX3_init_15 : decode cX3_init 15 = .ok (.newarray .int, 2) := by decide +kernel
theorem dX3_init_17 : decode cX3_init 17 = .ok (.putfield 15, 3) := by decide +kernel
theorem dX3_init_20 : decode cX3_init 20 = .ok (.aload_n 0, 1) := by decide +kernel
theorem dX3_init_21 : decode cX3_init 21 = .ok (.bipush 100, 2) := by decide +kernel
theorem dX3_init_23 : decode cX3_init 23 = .ok (.newarray .int, 2) := by decide +kernel
theorem dX3_init_25 : decode cX3_init 25 = .ok (.putfield 18, 3) := by decide +kernel
theorem dX3_init_28 : decode cX3_init 28 = .ok (.aload_n 0, 1) := by decide +kernel
theorem dX3_init_29 : decode cX3_init 29 = .ok (.bipush 10, 2) := by decide +kernel
theorem dX3_init_31 : decode cX3_init 31 = .ok (.newarray .int, 2) := by decide +kernel
theorem dX3_init_33 : decode cX3_init 33 = .ok (.putfield 21, 3) := by decide +kernel
theorem dX3_init_36 : decode cX3_init 36 = .ok (.aload_n 0, 1) := by decide +kernel
theorem dX3_init_37 : decode cX3_init 37 = .ok (.bipush 10, 2) := by decide +kernel
theorem dX3_init_39 : decode cX3_init 39 = .ok (.newarray .int, 2) := by decide +kernel
theorem dX3_init_41 : decode cX3_init 41 = .ok (.putfield 24, 3) := by decide +kernel
theorem dX3_init_44 : decode cX3_init 44 = .ok (.return_, 1) := by decide +kernel
theorem dX3_has_0 : decode cX3_has 0 = .ok (.iload_n 1, 1) := by decide +kernel
theorem dX3_has_1 : decode cX3_has 1 = .ok (.ifCond .lt 15, 3) := by decide +kernel
theorem dX3_has_4 : decode cX3_has 4 = .ok (.iload_n 1, 1) := by decide +kernel
theorem dX3_has_5 : decode cX3_has 5 = .ok (.aload_n 0, 1) := by decide +kernel
theorem dX3_has_6 : decode cX3_has 6 = .ok (.getfield 27, 3) := by decide +kernel
theorem dX3_has_9 : decode cX3_has 9 = .ok (.if_icmp .ge 7, 3) := by decide +kernel
theorem dX3_has_12 : decode cX3_has 12 = .ok (.iconst 1, 1) := by decide +kernel
theorem dX3_has_13 : decode cX3_has 13 = .ok (.goto 4, 3) := by decide +kernel
theorem dX3_has_16 : decode cX3_has 16 = .ok (.iconst 0, 1) := by decide +kernel
theorem dX3_has_17 : decode cX3_has 17 = .ok (.ireturn, 1) := by decide +kernel
theorem dX3_everyone_0 : decode cX3_everyone 0 = .ok (.iconst 1, 1) := by decide +kernel
theorem dX3_everyone_1 : decode cX3_everyone 1 = .ok (.aload_n 0, 1) := by decide +kernel
theorem dX3_everyone_2 : decode cX3_everyone 2 = .ok (.getfield 27, 3) := by decide +kernel
theorem dX3_everyone_5 : decode cX3_everyone 5 = .ok (.ishl, 1) := by decide +kernel
theorem dX3_everyone_6 : decode cX3_everyone 6 = .ok (.iconst 1, 1) := by decide +kernel
theorem dX3_everyone_7 : decode cX3_everyone 7 = .ok (.isub, 1) := by decide +kernel
theorem dX3_everyone_8 : decode cX3_everyone 8 = .ok (.ireturn, 1) := by decide +kernel
theorem dX3_add_0 : decode cX3_add 0 = .ok (.aload_n 0, 1) := by decide +kernel
theorem dX3_add_1 : decode cX3_add 1 = .ok (.getfield 9, 3) := by decide +kernel
theorem dX3_add_4 : decode cX3_add 4 = .ok (.aload_n 0, 1) := by decide +kernel
theorem dX3_add_5 : decode cX3_add 5 = .ok (.getfield 27, 3) := by decide +kernel
theorem dX3_add_8 : decode cX3_add 8 = .ok (.iload_n 1, 1) := by decide +kernel
theorem dX3_add_9 : decode cX3_add 9 = .ok (.iastore, 1) := by decide +kernel
theorem dX3_add_10 : decode cX3_add 10 = .ok (.aload_n 0, 1) := by decide +kernel
theorem dX3_add_11 : decode cX3_add 11 = .ok (.getfield 15, 3) := by decide +kernel
theorem dX3_add_14 : decode cX3_add 14 = .ok (.aload_n 0, 1) := by decide +kernel
theorem dX3_add_15 : decode cX3_add 15 = .ok (.getfield 27, 3) := by decide +kernel
theorem dX3_add_18 : decode cX3_add 18 = .ok (.iconst 1, 1) := by decide +kernel
theorem dX3_add_19 : decode cX3_add 19 = .ok (.iastore, 1) := by decide +kernel
theorem dX3_add_20 : decode cX3_add 20 = .ok (.aload_n 0, 1) := by decide +kernel
theorem dX3_add_21 : decode cX3_add 21 = .ok (.dup, 1) := by decide +kernel
theorem dX3_add_22 : decode cX3_add 22 = .ok (.getfield 27, 3) := by decide +kernel
theorem dX3_add_25 : decode cX3_add 25 = .ok (.iconst 1, 1) := by decide +kernel
theorem dX3_add_26 : decode cX3_add 26 = .ok (.iadd, 1) := by decide +kernel
theorem dX3_add_27 : decode cX3_add 27 = .ok (.putfield 27, 3) := by decide +kernel
theorem dX3_add_30 : decode cX3_add 30 = .ok (.aload_n 0, 1) := by decide +kernel
theorem dX3_add_31 : decode cX3_add 31 = .ok (.getfield 27, 3) := by decide +kernel
theorem dX3_add_34 : decode cX3_add 34 = .ok (.iconst 1, 1) := by decide +kernel
theorem dX3_add_35 : decode cX3_add 35 = .ok (.isub, 1) := by decide +kernel
theorem dX3_add_36 : decode cX3_add 36 = .ok (.ireturn, 1) := by decide +kernel
theorem dX3_bond_0 : decode cX3_bond 0 = .ok (.aload_n 0, 1) := by decide +kernel
theorem dX3_bond_1 : decode cX3_bond 1 = .ok (.getfield 18, 3) := by decide +kernel
theorem dX3_bond_4 : decode cX3_bond 4 = .ok (.iload_n 1, 1) := by decide +kernel
theorem dX3_bond_5 : decode cX3_bond 5 = .ok (.bipush 10, 2) := by decide +kernel
theorem dX3_bond_7 : decode cX3_bond 7 = .ok (.imul, 1) := by decide +kernel
theorem dX3_bond_8 : decode cX3_bond 8 = .ok (.iload_n 2, 1) := by decide +kernel
theorem dX3_bond_9 : decode cX3_bond 9 = .ok (.iadd, 1) := by decide +kernel
theorem dX3_bond_10 : decode cX3_bond 10 = .ok (.iaload, 1) := by decide +kernel
theorem dX3_bond_11 : decode cX3_bond 11 = .ok (.ireturn, 1) := by decide +kernel
theorem dX3_join_0 : decode cX3_join 0 = .ok (.aload_n 0, 1) := by decide +kernel
theorem dX3_join_1 : decode cX3_join 1 = .ok (.getfield 18, 3) := by decide +kernel
theorem dX3_join_4 : decode cX3_join 4 = .ok (.iload_n 1, 1) := by decide +kernel
theorem dX3_join_5 : decode cX3_join 5 = .ok (.bipush 10, 2) := by decide +kernel
theorem dX3_join_7 : decode cX3_join 7 = .ok (.imul, 1) := by decide +kernel
theorem dX3_join_8 : decode cX3_join 8 = .ok (.iload_n 2, 1) := by decide +kernel
theorem dX3_join_9 : decode cX3_join 9 = .ok (.iadd, 1) := by decide +kernel
theorem dX3_join_10 : decode cX3_join 10 = .ok (.iload_n 3, 1) := by decide +kernel
theorem dX3_join_11 : decode cX3_join 11 = .ok (.ifCond .eq 7, 3) := by decide +kernel
theorem dX3_join_14 : decode cX3_join 14 = .ok (.iconst 3, 1) := by decide +kernel
theorem dX3_join_15 : decode cX3_join 15 = .ok (.goto 4, 3) := by decide +kernel
theorem dX3_join_18 : decode cX3_join 18 = .ok (.iconst 2, 1) := by decide +kernel
theorem dX3_join_19 : decode cX3_join 19 = .ok (.iastore, 1) := by decide +kernel
theorem dX3_join_20 : decode cX3_join 20 = .ok (.aload_n 0, 1) := by decide +kernel
theorem dX3_join_21 : decode cX3_join 21 = .ok (.getfield 18, 3) := by decide +kernel
theorem dX3_join_24 : decode cX3_join 24 = .ok (.iload_n 2, 1) := by decide +kernel
theorem dX3_join_25 : decode cX3_join 25 = .ok (.bipush 10, 2) := by decide +kernel
theorem dX3_join_27 : decode cX3_join 27 = .ok (.imul, 1) := by decide +kernel
theorem dX3_join_28 : decode cX3_join 28 = .ok (.iload_n 1, 1) := by decide +kernel
theorem dX3_join_29 : decode cX3_join 29 = .ok (.iadd, 1) := by decide +kernel
theorem dX3_join_30 : decode cX3_join 30 = .ok (.iload_n 3, 1) := by decide +kernel
theorem dX3_join_31 : decode cX3_join 31 = .ok (.ifCond .eq 7, 3) := by decide +kernel
theorem dX3_join_34 : decode cX3_join 34 = .ok (.iconst 1, 1) := by decide +kernel
theorem dX3_join_35 : decode cX3_join 35 = .ok (.goto 4, 3) := by decide +kernel
theorem dX3_join_38 : decode cX3_join 38 = .ok (.iconst 2, 1) := by decide +kernel
theorem dX3_join_39 : decode cX3_join 39 = .ok (.iastore, 1) := by decide +kernel
theorem dX3_join_40 : decode cX3_join 40 = .ok (.aload_n 0, 1) := by decide +kernel
theorem dX3_join_41 : decode cX3_join 41 = .ok (.getfield 21, 3) := by decide +kernel
theorem dX3_join_44 : decode cX3_join 44 = .ok (.iload_n 1, 1) := by decide +kernel
theorem dX3_join_45 : decode cX3_join 45 = .ok (.dup2, 1) := by decide +kernel
theorem dX3_join_46 : decode cX3_join 46 = .ok (.iaload, 1) := by decide +kernel
theorem dX3_join_47 : decode cX3_join 47 = .ok (.iconst 1, 1) := by decide +kernel
theorem dX3_join_48 : decode cX3_join 48 = .ok (.iload_n 2, 1) := by decide +kernel
theorem dX3_join_49 : decode cX3_join 49 = .ok (.ishl, 1) := by decide +kernel
theorem dX3_join_50 : decode cX3_join 50 = .ok (.ior, 1) := by decide +kernel
theorem dX3_join_51 : decode cX3_join 51 = .ok (.iastore, 1) := by decide +kernel
theorem dX3_join_52 : decode cX3_join 52 = .ok (.aload_n 0, 1) := by decide +kernel
theorem dX3_join_53 : decode cX3_join 53 = .ok (.getfield 21, 3) := by decide +kernel
theorem dX3_join_56 : decode cX3_join 56 = .ok (.iload_n 2, 1) := by decide +kernel
theorem dX3_join_57 : decode cX3_join 57 = .ok (.dup2, 1) := by decide +kernel
theorem dX3_join_58 : decode cX3_join 58 = .ok (.iaload, 1) := by decide +kernel
theorem dX3_join_59 : decode cX3_join 59 = .ok (.iconst 1, 1) := by decide +kernel
theorem dX3_join_60 : decode cX3_join 60 = .ok (.iload_n 1, 1) := by decide +kernel
theorem dX3_join_61 : decode cX3_join 61 = .ok (.ishl, 1) := by decide +kernel
theorem dX3_join_62 : decode cX3_join 62 = .ok (.ior, 1) := by decide +kernel
theorem dX3_join_63 : decode cX3_join 63 = .ok (.iastore, 1) := by decide +kernel
theorem dX3_join_64 : decode cX3_join 64 = .ok (.iload_n 3, 1) := by decide +kernel
theorem dX3_join_65 : decode cX3_join 65 = .ok (.ifCond .eq 15, 3) := by decide +kernel
theorem dX3_join_68 : decode cX3_join 68 = .ok (.aload_n 0, 1) := by decide +kernel
theorem dX3_join_69 : decode cX3_join 69 = .ok (.getfield 24, 3) := by decide +kernel
theorem dX3_join_72 : decode cX3_join 72 = .ok (.iload_n 1, 1) := by decide +kernel
theorem dX3_join_73 : decode cX3_join 73 = .ok (.dup2, 1) := by decide +kernel
theorem dX3_join_74 : decode cX3_join 74 = .ok (.iaload, 1) := by decide +kernel
theorem dX3_join_75 : decode cX3_join 75 = .ok (.iconst 1, 1) := by decide +kernel
theorem dX3_join_76 : decode cX3_join 76 = .ok (.iload_n 2, 1) := by decide +kernel
theorem dX3_join_77 : decode cX3_join 77 = .ok (.ishl, 1) := by decide +kernel
theorem dX3_join_78 : decode cX3_join 78 = .ok (.ior, 1) := by decide +kernel
theorem dX3_join_79 : decode cX3_join 79 = .ok (.iastore, 1) := by decide +kernel
theorem dX3_join_80 : decode cX3_join 80 = .ok (.aload_n 0, 1) := by decide +kernel
theorem dX3_join_81 : decode cX3_join 81 = .ok (.dup, 1) := by decide +kernel
theorem dX3_join_82 : decode cX3_join 82 = .ok (.getfield 31, 3) := by decide +kernel
theorem dX3_join_85 : decode cX3_join 85 = .ok (.iconst 1, 1) := by decide +kernel
theorem dX3_join_86 : decode cX3_join 86 = .ok (.iadd, 1) := by decide +kernel
theorem dX3_join_87 : decode cX3_join 87 = .ok (.putfield 31, 3) := by decide +kernel
theorem dX3_join_90 : decode cX3_join 90 = .ok (.aload_n 0, 1) := by decide +kernel
theorem dX3_join_91 : decode cX3_join 91 = .ok (.getfield 31, 3) := by decide +kernel
theorem dX3_join_94 : decode cX3_join 94 = .ok (.ireturn, 1) := by decide +kernel
theorem dX3_buysFrom_0 : decode cX3_buysFrom 0 = .ok (.aload_n 0, 1) := by decide +kernel
theorem dX3_buysFrom_1 : decode cX3_buysFrom 1 = .ok (.getfield 24, 3) := by decide +kernel
theorem dX3_buysFrom_4 : decode cX3_buysFrom 4 = .ok (.iload_n 1, 1) := by decide +kernel
theorem dX3_buysFrom_5 : decode cX3_buysFrom 5 = .ok (.iaload, 1) := by decide +kernel
theorem dX3_buysFrom_6 : decode cX3_buysFrom 6 = .ok (.istore_n 3, 1) := by decide +kernel
theorem dX3_buysFrom_7 : decode cX3_buysFrom 7 = .ok (.iconst 0, 1) := by decide +kernel
theorem dX3_buysFrom_8 : decode cX3_buysFrom 8 = .ok (.istore 4, 2) := by decide +kernel
theorem dX3_buysFrom_10 : decode cX3_buysFrom 10 = .ok (.iload 4, 2) := by decide +kernel
theorem dX3_buysFrom_12 : decode cX3_buysFrom 12 = .ok (.aload_n 0, 1) := by decide +kernel
theorem dX3_buysFrom_13 : decode cX3_buysFrom 13 = .ok (.getfield 27, 3) := by decide +kernel
theorem dX3_buysFrom_16 : decode cX3_buysFrom 16 = .ok (.if_icmp .ge 21, 3) := by decide +kernel
theorem dX3_buysFrom_19 : decode cX3_buysFrom 19 = .ok (.iload_n 3, 1) := by decide +kernel
theorem dX3_buysFrom_20 : decode cX3_buysFrom 20 = .ok (.aload_n 0, 1) := by decide +kernel
theorem dX3_buysFrom_21 : decode cX3_buysFrom 21 = .ok (.aload_n 0, 1) := by decide +kernel
theorem dX3_buysFrom_22 : decode cX3_buysFrom 22 = .ok (.getfield 24, 3) := by decide +kernel
theorem dX3_buysFrom_25 : decode cX3_buysFrom 25 = .ok (.iload_n 3, 1) := by decide +kernel
theorem dX3_buysFrom_26 : decode cX3_buysFrom 26 = .ok (.invokevirtual 34, 3) := by decide +kernel
theorem dX3_buysFrom_29 : decode cX3_buysFrom 29 = .ok (.ior, 1) := by decide +kernel
theorem dX3_buysFrom_30 : decode cX3_buysFrom 30 = .ok (.istore_n 3, 1) := by decide +kernel
theorem dX3_buysFrom_31 : decode cX3_buysFrom 31 = .ok (.iinc 4 1, 3) := by decide +kernel
theorem dX3_buysFrom_34 : decode cX3_buysFrom 34 = .ok (.goto (-24), 3) := by decide +kernel
theorem dX3_buysFrom_37 : decode cX3_buysFrom 37 = .ok (.iload_n 3, 1) := by decide +kernel
theorem dX3_buysFrom_38 : decode cX3_buysFrom 38 = .ok (.iload_n 2, 1) := by decide +kernel
theorem dX3_buysFrom_39 : decode cX3_buysFrom 39 = .ok (.ishr, 1) := by decide +kernel
theorem dX3_buysFrom_40 : decode cX3_buysFrom 40 = .ok (.iconst 1, 1) := by decide +kernel
theorem dX3_buysFrom_41 : decode cX3_buysFrom 41 = .ok (.iand, 1) := by decide +kernel
theorem dX3_buysFrom_42 : decode cX3_buysFrom 42 = .ok (.ifCond .eq 7, 3) := by decide +kernel
theorem dX3_buysFrom_45 : decode cX3_buysFrom 45 = .ok (.iconst 1, 1) := by decide +kernel
theorem dX3_buysFrom_46 : decode cX3_buysFrom 46 = .ok (.goto 4, 3) := by decide +kernel
theorem dX3_buysFrom_49 : decode cX3_buysFrom 49 = .ok (.iconst 0, 1) := by decide +kernel
theorem dX3_buysFrom_50 : decode cX3_buysFrom 50 = .ok (.ireturn, 1) := by decide +kernel
theorem dX3_union_0 : decode cX3_union 0 = .ok (.iconst 0, 1) := by decide +kernel
theorem dX3_union_1 : decode cX3_union 1 = .ok (.istore_n 3, 1) := by decide +kernel
theorem dX3_union_2 : decode cX3_union 2 = .ok (.iconst 0, 1) := by decide +kernel
theorem dX3_union_3 : decode cX3_union 3 = .ok (.istore 4, 2) := by decide +kernel
theorem dX3_union_5 : decode cX3_union 5 = .ok (.iload 4, 2) := by decide +kernel
theorem dX3_union_7 : decode cX3_union 7 = .ok (.aload_n 0, 1) := by decide +kernel
theorem dX3_union_8 : decode cX3_union 8 = .ok (.getfield 27, 3) := by decide +kernel
theorem dX3_union_11 : decode cX3_union 11 = .ok (.if_icmp .ge 25, 3) := by decide +kernel
theorem dX3_union_14 : decode cX3_union 14 = .ok (.iload_n 2, 1) := by decide +kernel
theorem dX3_union_15 : decode cX3_union 15 = .ok (.iload 4, 2) := by decide +kernel
theorem dX3_union_17 : decode cX3_union 17 = .ok (.ishr, 1) := by decide +kernel
theorem dX3_union_18 : decode cX3_union 18 = .ok (.iconst 1, 1) := by decide +kernel
theorem dX3_union_19 : decode cX3_union 19 = .ok (.iand, 1) := by decide +kernel
theorem dX3_union_20 : decode cX3_union 20 = .ok (.ifCond .eq 10, 3) := by decide +kernel
theorem dX3_union_23 : decode cX3_union 23 = .ok (.iload_n 3, 1) := by decide +kernel
theorem dX3_union_24 : decode cX3_union 24 = .ok (.aload_n 1, 1) := by decide +kernel
theorem dX3_union_25 : decode cX3_union 25 = .ok (.iload 4, 2) := by decide +kernel
theorem dX3_union_27 : decode cX3_union 27 = .ok (.iaload, 1) := by decide +kernel
theorem dX3_union_28 : decode cX3_union 28 = .ok (.ior, 1) := by decide +kernel
theorem dX3_union_29 : decode cX3_union 29 = .ok (.istore_n 3, 1) := by decide +kernel
theorem dX3_union_30 : decode cX3_union 30 = .ok (.iinc 4 1, 3) := by decide +kernel
theorem dX3_union_33 : decode cX3_union 33 = .ok (.goto (-28), 3) := by decide +kernel
theorem dX3_union_36 : decode cX3_union 36 = .ok (.iload_n 3, 1) := by decide +kernel
theorem dX3_union_37 : decode cX3_union 37 = .ok (.ireturn, 1) := by decide +kernel
theorem dX3_leastRule_0 : decode cX3_leastRule 0 = .ok (.aload_n 0, 1) := by decide +kernel
theorem dX3_leastRule_1 : decode cX3_leastRule 1 = .ok (.getfield 15, 3) := by decide +kernel
theorem dX3_leastRule_4 : decode cX3_leastRule 4 = .ok (.iload_n 1, 1) := by decide +kernel
theorem dX3_leastRule_5 : decode cX3_leastRule 5 = .ok (.iaload, 1) := by decide +kernel
theorem dX3_leastRule_6 : decode cX3_leastRule 6 = .ok (.invokestatic 38, 3) := by decide +kernel
theorem dX3_leastRule_9 : decode cX3_leastRule 9 = .ok (.ireturn, 1) := by decide +kernel
theorem dX3_caseCount_0 : decode cX3_caseCount 0 = .ok (.iconst 1, 1) := by decide +kernel
theorem dX3_caseCount_1 : decode cX3_caseCount 1 = .ok (.istore_n 1, 1) := by decide +kernel
theorem dX3_caseCount_2 : decode cX3_caseCount 2 = .ok (.iconst 0, 1) := by decide +kernel
theorem dX3_caseCount_3 : decode cX3_caseCount 3 = .ok (.istore_n 2, 1) := by decide +kernel
theorem dX3_caseCount_4 : decode cX3_caseCount 4 = .ok (.iload_n 2, 1) := by decide +kernel
theorem dX3_caseCount_5 : decode cX3_caseCount 5 = .ok (.aload_n 0, 1) := by decide +kernel
theorem dX3_caseCount_6 : decode cX3_caseCount 6 = .ok (.getfield 27, 3) := by decide +kernel
theorem dX3_caseCount_9 : decode cX3_caseCount 9 = .ok (.if_icmp .ge 21, 3) := by decide +kernel
theorem dX3_caseCount_12 : decode cX3_caseCount 12 = .ok (.iload_n 1, 1) := by decide +kernel
theorem dX3_caseCount_13 : decode cX3_caseCount 13 = .ok (.aload_n 0, 1) := by decide +kernel
theorem dX3_caseCount_14 : decode cX3_caseCount 14 = .ok (.getfield 15, 3) := by decide +kernel
theorem dX3_caseCount_17 : decode cX3_caseCount 17 = .ok (.iload_n 2, 1) := by decide +kernel
theorem dX3_caseCount_18 : decode cX3_caseCount 18 = .ok (.iaload, 1) := by decide +kernel
theorem dX3_caseCount_19 : decode cX3_caseCount 19 = .ok (.invokestatic 44, 3) := by decide +kernel
theorem dX3_caseCount_22 : decode cX3_caseCount 22 = .ok (.imul, 1) := by decide +kernel
theorem dX3_caseCount_23 : decode cX3_caseCount 23 = .ok (.istore_n 1, 1) := by decide +kernel
theorem dX3_caseCount_24 : decode cX3_caseCount 24 = .ok (.iinc 2 1, 3) := by decide +kernel
theorem dX3_caseCount_27 : decode cX3_caseCount 27 = .ok (.goto (-23), 3) := by decide +kernel
theorem dX3_caseCount_30 : decode cX3_caseCount 30 = .ok (.iload_n 1, 1) := by decide +kernel
theorem dX3_caseCount_31 : decode cX3_caseCount 31 = .ok (.ireturn, 1) := by decide +kernel
theorem dX3_surelyGuessed_0 : decode cX3_surelyGuessed 0 = .ok (.iconst 0, 1) := by decide +kernel
theorem dX3_surelyGuessed_1 : decode cX3_surelyGuessed 1 = .ok (.istore_n 1, 1) := by decide +kernel
theorem dX3_surelyGuessed_2 : decode cX3_surelyGuessed 2 = .ok (.iconst 0, 1) := by decide +kernel
theorem dX3_surelyGuessed_3 : decode cX3_surelyGuessed 3 = .ok (.istore_n 2, 1) := by decide +kernel
theorem dX3_surelyGuessed_4 : decode cX3_surelyGuessed 4 = .ok (.iload_n 2, 1) := by decide +kernel
theorem dX3_surelyGuessed_5 : decode cX3_surelyGuessed 5 = .ok (.aload_n 0, 1) := by decide +kernel
theorem dX3_surelyGuessed_6 : decode cX3_surelyGuessed 6 = .ok (.getfield 27, 3) := by decide +kernel
theorem dX3_surelyGuessed_9 : decode cX3_surelyGuessed 9 = .ok (.if_icmp .ge 25, 3) := by decide +kernel
theorem dX3_surelyGuessed_12 : decode cX3_surelyGuessed 12 = .ok (.aload_n 0, 1) := by decide +kernel
theorem dX3_surelyGuessed_13 : decode cX3_surelyGuessed 13 = .ok (.getfield 15, 3) := by decide +kernel
theorem dX3_surelyGuessed_16 : decode cX3_surelyGuessed 16 = .ok (.iload_n 2, 1) := by decide +kernel
theorem dX3_surelyGuessed_17 : decode cX3_surelyGuessed 17 = .ok (.iaload, 1) := by decide +kernel
theorem dX3_surelyGuessed_18 : decode cX3_surelyGuessed 18 = .ok (.invokestatic 44, 3) := by decide +kernel
theorem dX3_surelyGuessed_21 : decode cX3_surelyGuessed 21 = .ok (.iconst 1, 1) := by decide +kernel
theorem dX3_surelyGuessed_22 : decode cX3_surelyGuessed 22 = .ok (.if_icmp .ne 6, 3) := by decide +kernel
theorem dX3_surelyGuessed_25 : decode cX3_surelyGuessed 25 = .ok (.iinc 1 1, 3) := by decide +kernel
theorem dX3_surelyGuessed_28 : decode cX3_surelyGuessed 28 = .ok (.iinc 2 1, 3) := by decide +kernel
theorem dX3_surelyGuessed_31 : decode cX3_surelyGuessed 31 = .ok (.goto (-27), 3) := by decide +kernel
theorem dX3_surelyGuessed_34 : decode cX3_surelyGuessed 34 = .ok (.iload_n 1, 1) := by decide +kernel
theorem dX3_surelyGuessed_35 : decode cX3_surelyGuessed 35 = .ok (.ireturn, 1) := by decide +kernel
theorem dX3_allAskers_0 : decode cX3_allAskers 0 = .ok (.iconst 0, 1) := by decide +kernel
theorem dX3_allAskers_1 : decode cX3_allAskers 1 = .ok (.istore_n 1, 1) := by decide +kernel
theorem dX3_allAskers_2 : decode cX3_allAskers 2 = .ok (.iconst 0, 1) := by decide +kernel
theorem dX3_allAskers_3 : decode cX3_allAskers 3 = .ok (.istore_n 2, 1) := by decide +kernel
theorem dX3_allAskers_4 : decode cX3_allAskers 4 = .ok (.iload_n 2, 1) := by decide +kernel
theorem dX3_allAskers_5 : decode cX3_allAskers 5 = .ok (.aload_n 0, 1) := by decide +kernel
theorem dX3_allAskers_6 : decode cX3_allAskers 6 = .ok (.getfield 27, 3) := by decide +kernel
theorem dX3_allAskers_9 : decode cX3_allAskers 9 = .ok (.if_icmp .ge 18, 3) := by decide +kernel
theorem dX3_allAskers_12 : decode cX3_allAskers 12 = .ok (.iload_n 1, 1) := by decide +kernel
theorem dX3_allAskers_13 : decode cX3_allAskers 13 = .ok (.aload_n 0, 1) := by decide +kernel
theorem dX3_allAskers_14 : decode cX3_allAskers 14 = .ok (.getfield 9, 3) := by decide +kernel
theorem dX3_allAskers_17 : decode cX3_allAskers 17 = .ok (.iload_n 2, 1) := by decide +kernel
theorem dX3_allAskers_18 : decode cX3_allAskers 18 = .ok (.iaload, 1) := by decide +kernel
theorem dX3_allAskers_19 : decode cX3_allAskers 19 = .ok (.iadd, 1) := by decide +kernel
theorem dX3_allAskers_20 : decode cX3_allAskers 20 = .ok (.istore_n 1, 1) := by decide +kernel
theorem dX3_allAskers_21 : decode cX3_allAskers 21 = .ok (.iinc 2 1, 3) := by decide +kernel
theorem dX3_allAskers_24 : decode cX3_allAskers 24 = .ok (.goto (-20), 3) := by decide +kernel
theorem dX3_allAskers_27 : decode cX3_allAskers 27 = .ok (.iload_n 1, 1) := by decide +kernel
theorem dX3_allAskers_28 : decode cX3_allAskers 28 = .ok (.ireturn, 1) := by decide +kernel
theorem dX3_askersUnlike_0 : decode cX3_askersUnlike 0 = .ok (.iconst 0, 1) := by decide +kernel
theorem dX3_askersUnlike_1 : decode cX3_askersUnlike 1 = .ok (.istore_n 3, 1) := by decide +kernel
theorem dX3_askersUnlike_2 : decode cX3_askersUnlike 2 = .ok (.iconst 0, 1) := by decide +kernel
theorem dX3_askersUnlike_3 : decode cX3_askersUnlike 3 = .ok (.istore 4, 2) := by decide +kernel
theorem dX3_askersUnlike_5 : decode cX3_askersUnlike 5 = .ok (.iload 4, 2) := by decide +kernel
theorem dX3_askersUnlike_7 : decode cX3_askersUnlike 7 = .ok (.aload_n 0, 1) := by decide +kernel
theorem dX3_askersUnlike_8 : decode cX3_askersUnlike 8 = .ok (.getfield 27, 3) := by decide +kernel
theorem dX3_askersUnlike_11 : decode cX3_askersUnlike 11 = .ok (.if_icmp .ge 33, 3) := by decide +kernel
theorem dX3_askersUnlike_14 : decode cX3_askersUnlike 14 = .ok (.iload_n 1, 1) := by decide +kernel
theorem dX3_askersUnlike_15 : decode cX3_askersUnlike 15 = .ok (.iload_n 2, 1) := by decide +kernel
theorem dX3_askersUnlike_16 : decode cX3_askersUnlike 16 = .ok (.ixor, 1) := by decide +kernel
theorem dX3_askersUnlike_17 : decode cX3_askersUnlike 17 = .ok (.iconst 3, 1) := by decide +kernel
theorem dX3_askersUnlike_18 : decode cX3_askersUnlike 18 = .ok (.iload 4, 2) := by decide +kernel
theorem dX3_askersUnlike_20 : decode cX3_askersUnlike 20 = .ok (.imul, 1) := by decide +kernel
theorem dX3_askersUnlike_21 : decode cX3_askersUnlike 21 = .ok (.ishr, 1) := by decide +kernel
theorem dX3_askersUnlike_22 : decode cX3_askersUnlike 22 = .ok (.bipush 7, 2) := by decide +kernel
theorem dX3_askersUnlike_24 : decode cX3_askersUnlike 24 = .ok (.iand, 1) := by decide +kernel
theorem dX3_askersUnlike_25 : decode cX3_askersUnlike 25 = .ok (.ifCond .eq 13, 3) := by decide +kernel
theorem dX3_askersUnlike_28 : decode cX3_askersUnlike 28 = .ok (.iload_n 3, 1) := by decide +kernel
theorem dX3_askersUnlike_29 : decode cX3_askersUnlike 29 = .ok (.aload_n 0, 1) := by decide +kernel
theorem dX3_askersUnlike_30 : decode cX3_askersUnlike 30 = .ok (.getfield 9, 3) := by decide +kernel
theorem dX3_askersUnlike_33 : decode cX3_askersUnlike 33 = .ok (.iload 4, 2) := by decide +kernel
theorem dX3_askersUnlike_35 : decode cX3_askersUnlike 35 = .ok (.iaload, 1) := by decide +kernel
theorem dX3_askersUnlike_36 : decode cX3_askersUnlike 36 = .ok (.iadd, 1) := by decide +kernel
theorem dX3_askersUnlike_37 : decode cX3_askersUnlike 37 = .ok (.istore_n 3, 1) := by decide +kernel
theorem dX3_askersUnlike_38 : decode cX3_askersUnlike 38 = .ok (.iinc 4 1, 3) := by decide +kernel
theorem dX3_askersUnlike_41 : decode cX3_askersUnlike 41 = .ok (.goto (-36), 3) := by decide +kernel
theorem dX3_askersUnlike_44 : decode cX3_askersUnlike 44 = .ok (.iload_n 3, 1) := by decide +kernel
theorem dX3_askersUnlike_45 : decode cX3_askersUnlike 45 = .ok (.ireturn, 1) := by decide +kernel
theorem dX4_init_0 : decode cX4_init 0 = .ok (.aload_n 0, 1) := by decide +kernel
theorem dX4_init_1 : decode cX4_init 1 = .ok (.invokespecial 3, 3) := by decide +kernel
theorem dX4_init_4 : decode cX4_init 4 = .ok (.aload_n 0, 1) := by decide +kernel
theorem dX4_init_5 : decode cX4_init 5 = .ok (.bipush 16, 2) := by decide +kernel
theorem dX4_init_7 : decode cX4_init 7 = .ok (.newarray .int, 2) := by decide +kernel
theorem dX4_init_9 : decode cX4_init 9 = .ok (.putfield 11, 3) := by decide +kernel
theorem dX4_init_12 : decode cX4_init 12 = .ok (.aload_n 0, 1) := by decide +kernel
theorem dX4_init_13 : decode cX4_init 13 = .ok (.bipush 16, 2) := by decide +kernel
theorem dX4_init_15 : decode cX4_init 15 = .ok (.newarray .int, 2) := by decide +kernel
theorem dX4_init_17 : decode cX4_init 17 = .ok (.putfield 15, 3) := by decide +kernel
theorem dX4_init_20 : decode cX4_init 20 = .ok (.aload_n 0, 1) := by decide +kernel
theorem dX4_init_21 : decode cX4_init 21 = .ok (.iconst 4, 1) := by decide +kernel
theorem dX4_init_22 : decode cX4_init 22 = .ok (.newarray .int, 2) := by decide +kernel
theorem dX4_init_24 : decode cX4_init 24 = .ok (.putfield 18, 3) := by decide +kernel
theorem dX4_init_27 : decode cX4_init 27 = .ok (.aload_n 0, 1) := by decide +kernel
theorem dX4_init_28 : decode cX4_init 28 = .ok (.aload_n 1, 1) := by decide +kernel
theorem dX4_init_29 : decode cX4_init 29 = .ok (.putfield 21, 3) := by decide +kernel
theorem dX4_init_32 : decode cX4_init 32 = .ok (.aload_n 0, 1) := by decide +kernel
theorem dX4_init_33 : decode cX4_init 33 = .ok (.aload_n 2, 1) := by decide +kernel
theorem dX4_init_34 : decode cX4_init 34 = .ok (.putfield 25, 3) := by decide +kernel
theorem dX4_init_37 : decode cX4_init 37 = .ok (.aload_n 0, 1) := by decide +kernel
theorem dX4_init_38 : decode cX4_init 38 = .ok (.aload_n 3, 1) := by decide +kernel
theorem dX4_init_39 : decode cX4_init 39 = .ok (.putfield 29, 3) := by decide +kernel
theorem dX4_init_42 : decode cX4_init 42 = .ok (.return_, 1) := by decide +kernel
theorem dX4_aimOf_0 : decode cX4_aimOf 0 = .ok (.aload_n 0, 1) := by decide +kernel
