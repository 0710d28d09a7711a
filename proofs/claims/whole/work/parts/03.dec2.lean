theorem dX9_guess_9 : decode cX9_guess 9 = .ok (.ireturn, 1) := by decide +kernel
theorem dX9_guess_10 : decode cX9_guess 10 = .ok (.iload_n 2, 1) := by decide +kernel
theorem dX9_guess_11 : decode cX9_guess 11 = .ok (.i2l, 1) := by decide +kernel
theorem dX9_guess_12 : decode cX9_guess 12 = .ok (.lconst 1, 1) := by decide +kernel
theorem dX9_guess_13 : decode cX9_guess 13 = .ok (.ldc2_w 156, 3) := by decide +kernel
theorem dX9_guess_16 : decode cX9_guess 16 = .ok (.invokestatic 136, 3) := by decide +kernel
theorem dX9_guess_19 : decode cX9_guess 19 = .ok (.ifCond .ne 6, 3) := by decide +kernel
theorem dX9_guess_22 : decode cX9_guess 22 = .ok (.bipush (-2), 2) := by decide +kernel
theorem dX9_guess_24 : decode cX9_guess 24 = .ok (.ireturn, 1) := by decide +kernel
theorem dX9_guess_25 : decode cX9_guess 25 = .ok (.aload_n 0, 1) := by decide +kernel
theorem dX9_guess_26 : decode cX9_guess 26 = .ok (.getfield 16, 3) := by decide +kernel
theorem dX9_guess_29 : decode cX9_guess 29 = .ok (.iload_n 1, 1) := by decide +kernel
theorem dX9_guess_30 : decode cX9_guess 30 = .ok (.iaload, 1) := by decide +kernel
theorem dX9_guess_31 : decode cX9_guess 31 = .ok (.istore_n 3, 1) := by decide +kernel
theorem dX9_guess_32 : decode cX9_guess 32 = .ok (.aload_n 0, 1) := by decide +kernel
theorem dX9_guess_33 : decode cX9_guess 33 = .ok (.getfield 16, 3) := by decide +kernel
theorem dX9_guess_36 : decode cX9_guess 36 = .ok (.iload_n 1, 1) := by decide +kernel
theorem dX9_guess_37 : decode cX9_guess 37 = .ok (.iload_n 2, 1) := by decide +kernel
theorem dX9_guess_38 : decode cX9_guess 38 = .ok (.iastore, 1) := by decide +kernel
theorem dX9_guess_39 : decode cX9_guess 39 = .ok (.iload_n 3, 1) := by decide +kernel
theorem dX9_guess_40 : decode cX9_guess 40 = .ok (.ireturn, 1) := by decide +kernel
theorem dX9_site_0 : decode cX9_site 0 = .ok (.aload_n 0, 1) := by decide +kernel
theorem dX9_site_1 : decode cX9_site 1 = .ok (.iload_n 1, 1) := by decide +kernel
theorem dX9_site_2 : decode cX9_site 2 = .ok (.invokevirtual 145, 3) := by decide +kernel
theorem dX9_site_5 : decode cX9_site 5 = .ok (.ifCond .ne 5, 3) := by decide +kernel
theorem dX9_site_8 : decode cX9_site 8 = .ok (.iconst (-1), 1) := by decide +kernel
theorem dX9_site_9 : decode cX9_site 9 = .ok (.ireturn, 1) := by decide +kernel
theorem dX9_site_10 : decode cX9_site 10 = .ok (.iload_n 2, 1) := by decide +kernel
theorem dX9_site_11 : decode cX9_site 11 = .ok (.i2l, 1) := by decide +kernel
theorem dX9_site_12 : decode cX9_site 12 = .ok (.lconst 0, 1) := by decide +kernel
theorem dX9_site_13 : decode cX9_site 13 = .ok (.ldc2_w 158, 3) := by decide +kernel
theorem dX9_site_16 : decode cX9_site 16 = .ok (.invokestatic 136, 3) := by decide +kernel
theorem dX9_site_19 : decode cX9_site 19 = .ok (.ifCond .ne 6, 3) := by decide +kernel
theorem dX9_site_22 : decode cX9_site 22 = .ok (.bipush (-2), 2) := by decide +kernel
theorem dX9_site_24 : decode cX9_site 24 = .ok (.ireturn, 1) := by decide +kernel
theorem dX9_site_25 : decode cX9_site 25 = .ok (.aload_n 0, 1) := by decide +kernel
theorem dX9_site_26 : decode cX9_site 26 = .ok (.getfield 140, 3) := by decide +kernel
theorem dX9_site_29 : decode cX9_site 29 = .ok (.iconst 4, 1) := by decide +kernel
theorem dX9_site_30 : decode cX9_site 30 = .ok (.if_icmp .ne 6, 3) := by decide +kernel
theorem dX9_site_33 : decode cX9_site 33 = .ok (.bipush (-4), 2) := by decide +kernel
theorem dX9_site_35 : decode cX9_site 35 = .ok (.ireturn, 1) := by decide +kernel
theorem dX9_site_36 : decode cX9_site 36 = .ok (.aload_n 0, 1) := by decide +kernel
theorem dX9_site_37 : decode cX9_site 37 = .ok (.getfield 19, 3) := by decide +kernel
theorem dX9_site_40 : decode cX9_site 40 = .ok (.aload_n 0, 1) := by decide +kernel
theorem dX9_site_41 : decode cX9_site 41 = .ok (.getfield 140, 3) := by decide +kernel
theorem dX9_site_44 : decode cX9_site 44 = .ok (.iload_n 1, 1) := by decide +kernel
theorem dX9_site_45 : decode cX9_site 45 = .ok (.iastore, 1) := by decide +kernel
theorem dX9_site_46 : decode cX9_site 46 = .ok (.aload_n 0, 1) := by decide +kernel
theorem dX9_site_47 : decode cX9_site 47 = .ok (.getfield 22, 3) := by decide +kernel
theorem dX9_site_50 : decode cX9_site 50 = .ok (.aload_n 0, 1) := by decide +kernel
theorem dX9_site_51 : decode cX9_site 51 = .ok (.getfield 140, 3) := by decide +kernel
theorem dX9_site_54 : decode cX9_site 54 = .ok (.iload_n 2, 1) := by decide +kernel
theorem dX9_site_55 : decode cX9_site 55 = .ok (.iastore, 1) := by decide +kernel
theorem dX9_site_56 : decode cX9_site 56 = .ok (.aload_n 0, 1) := by decide +kernel
theorem dX9_site_57 : decode cX9_site 57 = .ok (.getfield 25, 3) := by decide +kernel
theorem dX9_site_60 : decode cX9_site 60 = .ok (.aload_n 0, 1) := by decide +kernel
theorem dX9_site_61 : decode cX9_site 61 = .ok (.getfield 140, 3) := by decide +kernel
theorem dX9_site_64 : decode cX9_site 64 = .ok (.iconst 1, 1) := by decide +kernel
theorem dX9_site_65 : decode cX9_site 65 = .ok (.bastore, 1) := by decide +kernel
theorem dX9_site_66 : decode cX9_site 66 = .ok (.aload_n 0, 1) := by decide +kernel
theorem dX9_site_67 : decode cX9_site 67 = .ok (.getfield 29, 3) := by decide +kernel
theorem dX9_site_70 : decode cX9_site 70 = .ok (.aload_n 0, 1) := by decide +kernel
theorem dX9_site_71 : decode cX9_site 71 = .ok (.getfield 140, 3) := by decide +kernel
theorem dX9_site_74 : decode cX9_site 74 = .ok (.iconst 0, 1) := by decide +kernel
theorem dX9_site_75 : decode cX9_site 75 = .ok (.iastore, 1) := by decide +kernel
theorem dX9_site_76 : decode cX9_site 76 = .ok (.aload_n 0, 1) := by decide +kernel
theorem dX9_site_77 : decode cX9_site 77 = .ok (.getfield 32, 3) := by decide +kernel
theorem dX9_site_80 : decode cX9_site 80 = .ok (.aload_n 0, 1) := by decide +kernel
theorem dX9_site_81 : decode cX9_site 81 = .ok (.getfield 140, 3) := by decide +kernel
theorem dX9_site_84 : decode cX9_site 84 = .ok (.iconst 0, 1) := by decide +kernel
theorem dX9_site_85 : decode cX9_site 85 = .ok (.iastore, 1) := by decide +kernel
theorem dX9_site_86 : decode cX9_site 86 = .ok (.aload_n 0, 1) := by decide +kernel
theorem dX9_site_87 : decode cX9_site 87 = .ok (.getfield 35, 3) := by decide +kernel
theorem dX9_site_90 : decode cX9_site 90 = .ok (.aload_n 0, 1) := by decide +kernel
theorem dX9_site_91 : decode cX9_site 91 = .ok (.getfield 140, 3) := by decide +kernel
theorem dX9_site_94 : decode cX9_site 94 = .ok (.iconst 0, 1) := by decide +kernel
theorem dX9_site_95 : decode cX9_site 95 = .ok (.bastore, 1) := by decide +kernel
theorem dX9_site_96 : decode cX9_site 96 = .ok (.aload_n 0, 1) := by decide +kernel
theorem dX9_site_97 : decode cX9_site 97 = .ok (.getfield 41, 3) := by decide +kernel
theorem dX9_site_100 : decode cX9_site 100 = .ok (.aload_n 0, 1) := by decide +kernel
theorem dX9_site_101 : decode cX9_site 101 = .ok (.getfield 140, 3) := by decide +kernel
theorem dX9_site_104 : decode cX9_site 104 = .ok (.bipush (-9), 2) := by decide +kernel
theorem dX9_site_106 : decode cX9_site 106 = .ok (.iastore, 1) := by decide +kernel
theorem dX9_site_107 : decode cX9_site 107 = .ok (.aload_n 0, 1) := by decide +kernel
theorem dX9_site_108 : decode cX9_site 108 = .ok (.dup, 1) := by decide +kernel
theorem dX9_site_109 : decode cX9_site 109 = .ok (.getfield 140, 3) := by decide +kernel
theorem dX9_site_112 : decode cX9_site 112 = .ok (.iconst 1, 1) := by decide +kernel
theorem dX9_site_113 : decode cX9_site 113 = .ok (.iadd, 1) := by decide +kernel
theorem dX9_site_114 : decode cX9_site 114 = .ok (.putfield 140, 3) := by decide +kernel
theorem dX9_site_117 : decode cX9_site 117 = .ok (.aload_n 0, 1) := by decide +kernel
theorem dX9_site_118 : decode cX9_site 118 = .ok (.getfield 140, 3) := by decide +kernel
theorem dX9_site_121 : decode cX9_site 121 = .ok (.iconst 1, 1) := by decide +kernel
theorem dX9_site_122 : decode cX9_site 122 = .ok (.isub, 1) := by decide +kernel
theorem dX9_site_123 : decode cX9_site 123 = .ok (.ireturn, 1) := by decide +kernel
theorem dX9_room_0 : decode cX9_room 0 = .ok (.aload_n 0, 1) := by decide +kernel
theorem dX9_room_1 : decode cX9_room 1 = .ok (.iload_n 1, 1) := by decide +kernel
theorem dX9_room_2 : decode cX9_room 2 = .ok (.invokevirtual 160, 3) := by decide +kernel
theorem dX9_room_5 : decode cX9_room 5 = .ok (.ifCond .ne 5, 3) := by decide +kernel
theorem dX9_room_8 : decode cX9_room 8 = .ok (.iconst (-1), 1) := by decide +kernel
theorem dX9_room_9 : decode cX9_room 9 = .ok (.ireturn, 1) := by decide +kernel
theorem dX9_room_10 : decode cX9_room 10 = .ok (.iload_n 2, 1) := by decide +kernel
theorem dX9_room_11 : decode cX9_room 11 = .ok (.i2l, 1) := by decide +kernel
theorem dX9_room_12 : decode cX9_room 12 = .ok (.lconst 0, 1) := by decide +kernel
theorem dX9_room_13 : decode cX9_room 13 = .ok (.ldc2_w 158, 3) := by decide +kernel
theorem dX9_room_16 : decode cX9_room 16 = .ok (.invokestatic 136, 3) := by decide +kernel
theorem dX9_room_19 : decode cX9_room 19 = .ok (.ifCond .ne 6, 3) := by decide +kernel
theorem dX9_room_22 : decode cX9_room 22 = .ok (.bipush (-2), 2) := by decide +kernel
theorem dX9_room_24 : decode cX9_room 24 = .ok (.ireturn, 1) := by decide +kernel
theorem dX9_room_25 : decode cX9_room 25 = .ok (.aload_n 0, 1) := by decide +kernel
theorem dX9_room_26 : decode cX9_room 26 = .ok (.getfield 22, 3) := by decide +kernel
theorem dX9_room_29 : decode cX9_room 29 = .ok (.iload_n 1, 1) := by decide +kernel
theorem dX9_room_30 : decode cX9_room 30 = .ok (.iaload, 1) := by decide +kernel
theorem dX9_room_31 : decode cX9_room 31 = .ok (.istore_n 3, 1) := by decide +kernel
theorem dX9_room_32 : decode cX9_room 32 = .ok (.aload_n 0, 1) := by decide +kernel
theorem dX9_room_33 : decode cX9_room 33 = .ok (.getfield 22, 3) := by decide +kernel
theorem dX9_room_36 : decode cX9_room 36 = .ok (.iload_n 1, 1) := by decide +kernel
theorem dX9_room_37 : decode cX9_room 37 = .ok (.iload_n 2, 1) := by decide +kernel
theorem dX9_room_38 : decode cX9_room 38 = .ok (.iastore, 1) := by decide +kernel
theorem dX9_room_39 : decode cX9_room 39 = .ok (.iload_n 3, 1) := by decide +kernel
theorem dX9_room_40 : decode cX9_room 40 = .ok (.ireturn, 1) := by decide +kernel
theorem dX9_up_0 : decode cX9_up 0 = .ok (.aload_n 0, 1) := by decide +kernel
theorem dX9_up_1 : decode cX9_up 1 = .ok (.iload_n 1, 1) := by decide +kernel
theorem dX9_up_2 : decode cX9_up 2 = .ok (.invokevirtual 160, 3) := by decide +kernel
theorem dX9_up_5 : decode cX9_up 5 = .ok (.ifCond .ne 5, 3) := by decide +kernel
theorem dX9_up_8 : decode cX9_up 8 = .ok (.iconst (-1), 1) := by decide +kernel
theorem dX9_up_9 : decode cX9_up 9 = .ok (.ireturn, 1) := by decide +kernel
theorem dX9_up_10 : decode cX9_up 10 = .ok (.aload_n 0, 1) := by decide +kernel
theorem dX9_up_11 : decode cX9_up 11 = .ok (.getfield 25, 3) := by decide +kernel
theorem dX9_up_14 : decode cX9_up 14 = .ok (.iload_n 1, 1) := by decide +kernel
theorem dX9_up_15 : decode cX9_up 15 = .ok (.baload, 1) := by decide +kernel
theorem dX9_up_16 : decode cX9_up 16 = .ok (.ifCond .eq 7, 3) := by decide +kernel
theorem dX9_up_19 : decode cX9_up 19 = .ok (.iconst 1, 1) := by decide +kernel
theorem dX9_up_20 : decode cX9_up 20 = .ok (.goto 4, 3) := by decide +kernel
theorem dX9_up_23 : decode cX9_up 23 = .ok (.iconst 0, 1) := by decide +kernel
theorem dX9_up_24 : decode cX9_up 24 = .ok (.istore_n 3, 1) := by decide +kernel
theorem dX9_up_25 : decode cX9_up 25 = .ok (.aload_n 0, 1) := by decide +kernel
theorem dX9_up_26 : decode cX9_up 26 = .ok (.getfield 25, 3) := by decide +kernel
theorem dX9_up_29 : decode cX9_up 29 = .ok (.iload_n 1, 1) := by decide +kernel
theorem dX9_up_30 : decode cX9_up 30 = .ok (.iload_n 2, 1) := by decide +kernel
theorem dX9_up_31 : decode cX9_up 31 = .ok (.bastore, 1) := by decide +kernel
theorem dX9_up_32 : decode cX9_up 32 = .ok (.iload_n 3, 1) := by decide +kernel
theorem dX9_up_33 : decode cX9_up 33 = .ok (.ireturn, 1) := by decide +kernel
theorem dX9_kind_0 : decode cX9_kind 0 = .ok (.aload_n 0, 1) := by decide +kernel
theorem dX9_kind_1 : decode cX9_kind 1 = .ok (.iload_n 1, 1) := by decide +kernel
theorem dX9_kind_2 : decode cX9_kind 2 = .ok (.invokevirtual 160, 3) := by decide +kernel
theorem dX9_kind_5 : decode cX9_kind 5 = .ok (.ifCond .ne 5, 3) := by decide +kernel
theorem dX9_kind_8 : decode cX9_kind 8 = .ok (.iconst (-1), 1) := by decide +kernel
theorem dX9_kind_9 : decode cX9_kind 9 = .ok (.ireturn, 1) := by decide +kernel
theorem dX9_kind_10 : decode cX9_kind 10 = .ok (.iload_n 2, 1) := by decide +kernel
theorem dX9_kind_11 : decode cX9_kind 11 = .ok (.i2l, 1) := by decide +kernel
theorem dX9_kind_12 : decode cX9_kind 12 = .ok (.lconst 0, 1) := by decide +kernel
theorem dX9_kind_13 : decode cX9_kind 13 = .ok (.ldc2_w 163, 3) := by decide +kernel
theorem dX9_kind_16 : decode cX9_kind 16 = .ok (.invokestatic 136, 3) := by decide +kernel
theorem dX9_kind_19 : decode cX9_kind 19 = .ok (.ifCond .ne 6, 3) := by decide +kernel
theorem dX9_kind_22 : decode cX9_kind 22 = .ok (.bipush (-2), 2) := by decide +kernel
theorem dX9_kind_24 : decode cX9_kind 24 = .ok (.ireturn, 1) := by decide +kernel
theorem dX9_kind_25 : decode cX9_kind 25 = .ok (.aload_n 0, 1) := by decide +kernel
theorem dX9_kind_26 : decode cX9_kind 26 = .ok (.getfield 29, 3) := by decide +kernel
theorem dX9_kind_29 : decode cX9_kind 29 = .ok (.iload_n 1, 1) := by decide +kernel
theorem dX9_kind_30 : decode cX9_kind 30 = .ok (.iaload, 1) := by decide +kernel
theorem dX9_kind_31 : decode cX9_kind 31 = .ok (.istore_n 3, 1) := by decide +kernel
theorem dX9_kind_32 : decode cX9_kind 32 = .ok (.aload_n 0, 1) := by decide +kernel
theorem dX9_kind_33 : decode cX9_kind 33 = .ok (.getfield 29, 3) := by decide +kernel
theorem dX9_kind_36 : decode cX9_kind 36 = .ok (.iload_n 1, 1) := by decide +kernel
theorem dX9_kind_37 : decode cX9_kind 37 = .ok (.iload_n 2, 1) := by decide +kernel
theorem dX9_kind_38 : decode cX9_kind 38 = .ok (.iastore, 1) := by decide +kernel
theorem dX9_kind_39 : decode cX9_kind 39 = .ok (.iload_n 3, 1) := by decide +kernel
theorem dX9_kind_40 : decode cX9_kind 40 = .ok (.ireturn, 1) := by decide +kernel
theorem dX9_held_0 : decode cX9_held 0 = .ok (.aload_n 0, 1) := by decide +kernel
theorem dX9_held_1 : decode cX9_held 1 = .ok (.iload_n 1, 1) := by decide +kernel
theorem dX9_held_2 : decode cX9_held 2 = .ok (.invokevirtual 160, 3) := by decide +kernel
theorem dX9_held_5 : decode cX9_held 5 = .ok (.ifCond .ne 5, 3) := by decide +kernel
theorem dX9_held_8 : decode cX9_held 8 = .ok (.iconst (-1), 1) := by decide +kernel
theorem dX9_held_9 : decode cX9_held 9 = .ok (.ireturn, 1) := by decide +kernel
theorem dX9_held_10 : decode cX9_held 10 = .ok (.iload_n 2, 1) := by decide +kernel
theorem dX9_held_11 : decode cX9_held 11 = .ok (.i2l, 1) := by decide +kernel
theorem dX9_held_12 : decode cX9_held 12 = .ok (.lconst 0, 1) := by decide +kernel
theorem dX9_held_13 : decode cX9_held 13 = .ok (.iconst 1, 1) := by decide +kernel
theorem dX9_held_14 : decode cX9_held 14 = .ok (.aload_n 0, 1) := by decide +kernel
theorem dX9_held_15 : decode cX9_held 15 = .ok (.getfield 132, 3) := by decide +kernel
theorem dX9_held_18 : decode cX9_held 18 = .ok (.ishl, 1) := by decide +kernel
theorem dX9_held_19 : decode cX9_held 19 = .ok (.iconst 1, 1) := by decide +kernel
theorem dX9_held_20 : decode cX9_held 20 = .ok (.isub, 1) := by decide +kernel
theorem dX9_held_21 : decode cX9_held 21 = .ok (.i2l, 1) := by decide +kernel
theorem dX9_held_22 : decode cX9_held 22 = .ok (.invokestatic 136, 3) := by decide +kernel
theorem dX9_held_25 : decode cX9_held 25 = .ok (.ifCond .ne 6, 3) := by decide +kernel
theorem dX9_held_28 : decode cX9_held 28 = .ok (.bipush (-2), 2) := by decide +kernel
theorem dX9_held_30 : decode cX9_held 30 = .ok (.ireturn, 1) := by decide +kernel
theorem dX9_held_31 : decode cX9_held 31 = .ok (.aload_n 0, 1) := by decide +kernel
theorem dX9_held_32 : decode cX9_held 32 = .ok (.getfield 32, 3) := by decide +kernel
theorem dX9_held_35 : decode cX9_held 35 = .ok (.iload_n 1, 1) := by decide +kernel
theorem dX9_held_36 : decode cX9_held 36 = .ok (.iaload, 1) := by decide +kernel
theorem dX9_held_37 : decode cX9_held 37 = .ok (.istore_n 3, 1) := by decide +kernel
theorem dX9_held_38 : decode cX9_held 38 = .ok (.aload_n 0, 1) := by decide +kernel
theorem dX9_held_39 : decode cX9_held 39 = .ok (.getfield 32, 3) := by decide +kernel
theorem dX9_held_42 : decode cX9_held 42 = .ok (.iload_n 1, 1) := by decide +kernel
theorem dX9_held_43 : decode cX9_held 43 = .ok (.iload_n 2, 1) := by decide +kernel
theorem dX9_held_44 : decode cX9_held 44 = .ok (.iastore, 1) := by decide +kernel
theorem dX9_held_45 : decode cX9_held 45 = .ok (.iload_n 3, 1) := by decide +kernel
theorem dX9_held_46 : decode cX9_held 46 = .ok (.ireturn, 1) := by decide +kernel
theorem dX9_near_0 : decode cX9_near 0 = .ok (.aload_n 0, 1) := by decide +kernel
theorem dX9_near_1 : decode cX9_near 1 = .ok (.iload_n 1, 1) := by decide +kernel
theorem dX9_near_2 : decode cX9_near 2 = .ok (.invokevirtual 160, 3) := by decide +kernel
theorem dX9_near_5 : decode cX9_near 5 = .ok (.ifCond .ne 5, 3) := by decide +kernel
theorem dX9_near_8 : decode cX9_near 8 = .ok (.iconst (-1), 1) := by decide +kernel
theorem dX9_near_9 : decode cX9_near 9 = .ok (.ireturn, 1) := by decide +kernel
theorem dX9_near_10 : decode cX9_near 10 = .ok (.aload_n 0, 1) := by decide +kernel
theorem dX9_near_11 : decode cX9_near 11 = .ok (.getfield 35, 3) := by decide +kernel
theorem dX9_near_14 : decode cX9_near 14 = .ok (.iload_n 1, 1) := by decide +kernel
theorem dX9_near_15 : decode cX9_near 15 = .ok (.baload, 1) := by decide +kernel
theorem dX9_near_16 : decode cX9_near 16 = .ok (.ifCond .eq 7, 3) := by decide +kernel
theorem dX9_near_19 : decode cX9_near 19 = .ok (.iconst 1, 1) := by decide +kernel
theorem dX9_near_20 : decode cX9_near 20 = .ok (.goto 4, 3) := by decide +kernel
theorem dX9_near_23 : decode cX9_near 23 = .ok (.iconst 0, 1) := by decide +kernel
theorem dX9_near_24 : decode cX9_near 24 = .ok (.istore_n 3, 1) := by decide +kernel
theorem dX9_near_25 : decode cX9_near 25 = .ok (.aload_n 0, 1) := by decide +kernel
theorem dX9_near_26 : decode cX9_near 26 = .ok (.getfield 35, 3) := by decide +kernel
theorem dX9_near_29 : decode cX9_near 29 = .ok (.iload_n 1, 1) := by decide +kernel
theorem dX9_near_30 : decode cX9_near 30 = .ok (.iload_n 2, 1) := by decide +kernel
theorem dX9_near_31 : decode cX9_near 31 = .ok (.bastore, 1) := by decide +kernel
theorem dX9_near_32 : decode cX9_near 32 = .ok (.iload_n 3, 1) := by decide +kernel
theorem dX9_near_33 : decode cX9_near 33 = .ok (.ireturn, 1) := by decide +kernel
theorem dX9_late_0 : decode cX9_late 0 = .ok (.aload_n 0, 1) := by decide +kernel
theorem dX9_late_1 : decode cX9_late 1 = .ok (.iload_n 1, 1) := by decide +kernel
theorem dX9_late_2 : decode cX9_late 2 = .ok (.invokevirtual 145, 3) := by decide +kernel
theorem dX9_late_5 : decode cX9_late 5 = .ok (.ifCond .eq 11, 3) := by decide +kernel
theorem dX9_late_8 : decode cX9_late 8 = .ok (.aload_n 0, 1) := by decide +kernel
theorem dX9_late_9 : decode cX9_late 9 = .ok (.iload_n 2, 1) := by decide +kernel
theorem dX9_late_10 : decode cX9_late 10 = .ok (.invokevirtual 160, 3) := by decide +kernel
theorem dX9_late_13 : decode cX9_late 13 = .ok (.ifCond .ne 5, 3) := by decide +kernel
theorem dX9_late_16 : decode cX9_late 16 = .ok (.iconst (-1), 1) := by decide +kernel
theorem dX9_late_17 : decode cX9_late 17 = .ok (.ireturn, 1) := by decide +kernel
theorem dX9_late_18 : decode cX9_late 18 = .ok (.iload_n 3, 1) := by decide +kernel
theorem dX9_late_19 : decode cX9_late 19 = .ok (.i2l, 1) := by decide +kernel
theorem dX9_late_20 : decode cX9_late 20 = .ok (.lconst 0, 1) := by decide +kernel
theorem dX9_late_21 : decode cX9_late 21 = .ok (.ldc2_w 165, 3) := by decide +kernel
theorem dX9_late_24 : decode cX9_late 24 = .ok (.invokestatic 136, 3) := by decide +kernel
theorem dX9_late_27 : decode cX9_late 27 = .ok (.ifCond .ne 6, 3) := by decide +kernel
theorem dX9_late_30 : decode cX9_late 30 = .ok (.bipush (-2), 2) := by decide +kernel
theorem dX9_late_32 : decode cX9_late 32 = .ok (.ireturn, 1) := by decide +kernel
theorem dX9_late_33 : decode cX9_late 33 = .ok (.aload_n 0, 1) := by decide +kernel
theorem dX9_late_34 : decode cX9_late 34 = .ok (.getfield 38, 3) := by decide +kernel
theorem dX9_late_37 : decode cX9_late 37 = .ok (.iconst 4, 1) := by decide +kernel
theorem dX9_late_38 : decode cX9_late 38 = .ok (.iload_n 1, 1) := by decide +kernel
theorem dX9_late_39 : decode cX9_late 39 = .ok (.imul, 1) := by decide +kernel
theorem dX9_late_40 : decode cX9_late 40 = .ok (.iload_n 2, 1) := by decide +kernel
theorem dX9_late_41 : decode cX9_late 41 = .ok (.iadd, 1) := by decide +kernel
theorem dX9_late_42 : decode cX9_late 42 = .ok (.iaload, 1) := by decide +kernel
theorem dX9_late_43 : decode cX9_late 43 = .ok (.istore 4, 2) := by decide +kernel
theorem dX9_late_45 : decode cX9_late 45 = .ok (.aload_n 0, 1) := by decide +kernel
theorem dX9_late_46 : decode cX9_late 46 = .ok (.getfield 38, 3) := by decide +kernel
theorem dX9_late_49 : decode cX9_late 49 = .ok (.iconst 4, 1) := by decide +kernel
theorem dX9_late_50 : decode cX9_late 50 = .ok (.iload_n 1, 1) := by decide +kernel
theorem dX9_late_51 : decode cX9_late 51 = .ok (.imul, 1) := by decide +kernel
theorem dX9_late_52 : decode cX9_late 52 = .ok (.iload_n 2, 1) := by decide +kernel
theorem dX9_late_53 : decode cX9_late 53 = .ok (.iadd, 1) := by decide +kernel
theorem dX9_late_54 : decode cX9_late 54 = .ok (.iload_n 3, 1) := by decide +kernel
theorem dX9_late_55 : decode cX9_late 55 = .ok (.iastore, 1) := by decide +kernel
theorem dX9_late_56 : decode cX9_late 56 = .ok (.iload 4, 2) := by decide +kernel
theorem dX9_late_58 : decode cX9_late 58 = .ok (.ireturn, 1) := by decide +kernel
theorem dX9_least_0 : decode cX9_least 0 = .ok (.iconst 0, 1) := by decide +kernel
theorem dX9_least_1 : decode cX9_least 1 = .ok (.istore_n 1, 1) := by decide +kernel
theorem dX9_least_2 : decode cX9_least 2 = .ok (.iload_n 0, 1) := by decide +kernel
theorem dX9_least_3 : decode cX9_least 3 = .ok (.iload_n 1, 1) := by decide +kernel
theorem dX9_least_4 : decode cX9_least 4 = .ok (.ishr, 1) := by decide +kernel
theorem dX9_least_5 : decode cX9_least 5 = .ok (.iconst 1, 1) := by decide +kernel
theorem dX9_least_6 : decode cX9_least 6 = .ok (.iand, 1) := by decide +kernel
theorem dX9_least_7 : decode cX9_least 7 = .ok (.ifCond .ne 9, 3) := by decide +kernel
theorem dX9_least_10 : decode cX9_least 10 = .ok (.iinc 1 1, 3) := by decide +kernel
theorem dX9_least_13 : decode cX9_least 13 = .ok (.goto (-11), 3) := by decide +kernel
theorem dX9_least_16 : decode cX9_least 16 = .ok (.iload_n 1, 1) := by decide +kernel
theorem dX9_least_17 : decode cX9_least 17 = .ok (.ireturn, 1) := by decide +kernel
theorem dX9_askNow_0 : decode cX9_askNow 0 = .ok (.aload_n 0, 1) := by decide +kernel
theorem dX9_askNow_1 : decode cX9_askNow 1 = .ok (.aload_n 0, 1) := by decide +kernel
theorem dX9_askNow_2 : decode cX9_askNow 2 = .ok (.getfield 140, 3) := by decide +kernel
theorem dX9_askNow_5 : decode cX9_askNow 5 = .ok (.putfield 167, 3) := by decide +kernel
theorem dX9_askNow_8 : decode cX9_askNow 8 = .ok (.iconst 0, 1) := by decide +kernel
theorem dX9_askNow_9 : decode cX9_askNow 9 = .ok (.istore_n 1, 1) := by decide +kernel
theorem dX9_askNow_10 : decode cX9_askNow 10 = .ok (.iload_n 1, 1) := by decide +kernel
theorem dX9_askNow_11 : decode cX9_askNow 11 = .ok (.iconst 4, 1) := by decide +kernel
theorem dX9_askNow_12 : decode cX9_askNow 12 = .ok (.if_icmp .ge 57, 3) := by decide +kernel
theorem dX9_askNow_15 : decode cX9_askNow 15 = .ok (.aload_n 0, 1) := by decide +kernel
theorem dX9_askNow_16 : decode cX9_askNow 16 = .ok (.getfield 44, 3) := by decide +kernel
theorem dX9_askNow_19 : decode cX9_askNow 19 = .ok (.iload_n 1, 1) := by decide +kernel
theorem dX9_askNow_20 : decode cX9_askNow 20 = .ok (.aload_n 0, 1) := by decide +kernel
theorem dX9_askNow_21 : decode cX9_askNow 21 = .ok (.getfield 29, 3) := by decide +kernel
theorem dX9_askNow_24 : decode cX9_askNow 24 = .ok (.iload_n 1, 1) := by decide +kernel
theorem dX9_askNow_25 : decode cX9_askNow 25 = .ok (.iaload, 1) := by decide +kernel
theorem dX9_askNow_26 : decode cX9_askNow 26 = .ok (.iastore, 1) := by decide +kernel
theorem dX9_askNow_27 : decode cX9_askNow 27 = .ok (.aload_n 0, 1) := by decide +kernel
theorem dX9_askNow_28 : decode cX9_askNow 28 = .ok (.getfield 47, 3) := by decide +kernel
theorem dX9_askNow_31 : decode cX9_askNow 31 = .ok (.iload_n 1, 1) := by decide +kernel
theorem dX9_askNow_32 : decode cX9_askNow 32 = .ok (.aload_n 0, 1) := by decide +kernel
theorem dX9_askNow_33 : decode cX9_askNow 33 = .ok (.getfield 32, 3) := by decide +kernel
theorem dX9_askNow_36 : decode cX9_askNow 36 = .ok (.iload_n 1, 1) := by decide +kernel
theorem dX9_askNow_37 : decode cX9_askNow 37 = .ok (.iaload, 1) := by decide +kernel
theorem dX9_askNow_38 : decode cX9_askNow 38 = .ok (.iastore, 1) := by decide +kernel
theorem dX9_askNow_39 : decode cX9_askNow 39 = .ok (.aload_n 0, 1) := by decide +kernel
theorem dX9_askNow_40 : decode cX9_askNow 40 = .ok (.getfield 50, 3) := by decide +kernel
theorem dX9_askNow_43 : decode cX9_askNow 43 = .ok (.iload_n 1, 1) := by decide +kernel
theorem dX9_askNow_44 : decode cX9_askNow 44 = .ok (.aload_n 0, 1) := by decide +kernel
theorem dX9_askNow_45 : decode cX9_askNow 45 = .ok (.getfield 35, 3) := by decide +kernel
theorem dX9_askNow_48 : decode cX9_askNow 48 = .ok (.iload_n 1, 1) := by decide +kernel
theorem dX9_askNow_49 : decode cX9_askNow 49 = .ok (.baload, 1) := by decide +kernel
theorem dX9_askNow_50 : decode cX9_askNow 50 = .ok (.bastore, 1) := by decide +kernel
theorem dX9_askNow_51 : decode cX9_askNow 51 = .ok (.aload_n 0, 1) := by decide +kernel
theorem dX9_askNow_52 : decode cX9_askNow 52 = .ok (.getfield 53, 3) := by decide +kernel
theorem dX9_askNow_55 : decode cX9_askNow 55 = .ok (.iload_n 1, 1) := by decide +kernel
theorem dX9_askNow_56 : decode cX9_askNow 56 = .ok (.aload_n 0, 1) := by decide +kernel
theorem dX9_askNow_57 : decode cX9_askNow 57 = .ok (.getfield 25, 3) := by decide +kernel
theorem dX9_askNow_60 : decode cX9_askNow 60 = .ok (.iload_n 1, 1) := by decide +kernel
theorem dX9_askNow_61 : decode cX9_askNow 61 = .ok (.baload, 1) := by decide +kernel
theorem dX9_askNow_62 : decode cX9_askNow 62 = .ok (.bastore, 1) := by decide +kernel
theorem dX9_askNow_63 : decode cX9_askNow 63 = .ok (.iinc 1 1, 3) := by decide +kernel
theorem dX9_askNow_66 : decode cX9_askNow 66 = .ok (.goto (-56), 3) := by decide +kernel
theorem dX9_askNow_69 : decode cX9_askNow 69 = .ok (.iconst 0, 1) := by decide +kernel
theorem dX9_askNow_70 : decode cX9_askNow 70 = .ok (.istore_n 1, 1) := by decide +kernel
theorem dX9_askNow_71 : decode cX9_askNow 71 = .ok (.iload_n 1, 1) := by decide +kernel
theorem dX9_askNow_72 : decode cX9_askNow 72 = .ok (.aload_n 0, 1) := by decide +kernel
theorem dX9_askNow_73 : decode cX9_askNow 73 = .ok (.getfield 132, 3) := by decide +kernel
theorem dX9_askNow_76 : decode cX9_askNow 76 = .ok (.if_icmp .ge 24, 3) := by decide +kernel
theorem dX9_askNow_79 : decode cX9_askNow 79 = .ok (.aload_n 0, 1) := by decide +kernel
theorem dX9_askNow_80 : decode cX9_askNow 80 = .ok (.getfield 56, 3) := by decide +kernel
theorem dX9_askNow_83 : decode cX9_askNow 83 = .ok (.iload_n 1, 1) := by decide +kernel
theorem dX9_askNow_84 : decode cX9_askNow 84 = .ok (.aload_n 0, 1) := by decide +kernel
theorem dX9_askNow_85 : decode cX9_askNow 85 = .ok (.getfield 16, 3) := by decide +kernel
theorem dX9_askNow_88 : decode cX9_askNow 88 = .ok (.iload_n 1, 1) := by decide +kernel
theorem dX9_askNow_89 : decode cX9_askNow 89 = .ok (.iaload, 1) := by decide +kernel
theorem dX9_askNow_90 : decode cX9_askNow 90 = .ok (.invokestatic 170, 3) := by decide +kernel
theorem dX9_askNow_93 : decode cX9_askNow 93 = .ok (.iastore, 1) := by decide +kernel
theorem dX9_askNow_94 : decode cX9_askNow 94 = .ok (.iinc 1 1, 3) := by decide +kernel
theorem dX9_askNow_97 : decode cX9_askNow 97 = .ok (.goto (-26), 3) := by decide +kernel
theorem dX9_askNow_100 : decode cX9_askNow 100 = .ok (.return_, 1) := by decide +kernel
theorem dX9_speaks_0 : decode cX9_speaks 0 = .ok (.iload_n 1, 1) := by decide +kernel
theorem dX9_speaks_1 : decode cX9_speaks 1 = .ok (.aload_n 0, 1) := by decide +kernel
theorem dX9_speaks_2 : decode cX9_speaks 2 = .ok (.getfield 167, 3) := by decide +kernel
theorem dX9_speaks_5 : decode cX9_speaks 5 = .ok (.if_icmp .ge 36, 3) := by decide +kernel
theorem dX9_speaks_8 : decode cX9_speaks 8 = .ok (.aload_n 0, 1) := by decide +kernel
theorem dX9_speaks_9 : decode cX9_speaks 9 = .ok (.getfield 19, 3) := by decide +kernel
theorem dX9_speaks_12 : decode cX9_speaks 12 = .ok (.iload_n 1, 1) := by decide +kernel
theorem dX9_speaks_13 : decode cX9_speaks 13 = .ok (.iaload, 1) := by decide +kernel
theorem dX9_speaks_14 : decode cX9_speaks 14 = .ok (.iload_n 2, 1) := by decide +kernel
theorem dX9_speaks_15 : decode cX9_speaks 15 = .ok (.if_icmp .ne 26, 3) := by decide +kernel
theorem dX9_speaks_18 : decode cX9_speaks 18 = .ok (.aload_n 0, 1) := by decide +kernel
theorem dX9_speaks_19 : decode cX9_speaks 19 = .ok (.getfield 53, 3) := by decide +kernel
theorem dX9_speaks_22 : decode cX9_speaks 22 = .ok (.iload_n 1, 1) := by decide +kernel
theorem dX9_speaks_23 : decode cX9_speaks 23 = .ok (.baload, 1) := by decide +kernel
theorem dX9_speaks_24 : decode cX9_speaks 24 = .ok (.ifCond .eq 17, 3) := by decide +kernel
theorem dX9_speaks_27 : decode cX9_speaks 27 = .ok (.aload_n 0, 1) := by decide +kernel
theorem dX9_speaks_28 : decode cX9_speaks 28 = .ok (.getfield 44, 3) := by decide +kernel
theorem dX9_speaks_31 : decode cX9_speaks 31 = .ok (.iload_n 1, 1) := by decide +kernel
theorem dX9_speaks_32 : decode cX9_speaks 32 = .ok (.iaload, 1) := by decide +kernel
theorem dX9_speaks_33 : decode cX9_speaks 33 = .ok (.iconst 4, 1) := by decide +kernel
theorem dX9_speaks_34 : decode cX9_speaks 34 = .ok (.if_icmp .eq 7, 3) := by decide +kernel
theorem dX9_speaks_37 : decode cX9_speaks 37 = .ok (.iconst 1, 1) := by decide +kernel
theorem dX9_speaks_38 : decode cX9_speaks 38 = .ok (.goto 4, 3) := by decide +kernel
theorem dX9_speaks_41 : decode cX9_speaks 41 = .ok (.iconst 0, 1) := by decide +kernel
theorem dX9_speaks_42 : decode cX9_speaks 42 = .ok (.ireturn, 1) := by decide +kernel
theorem dX9_passes_0 : decode cX9_passes 0 = .ok (.aload_n 0, 1) := by decide +kernel
theorem dX9_passes_1 : decode cX9_passes 1 = .ok (.getfield 59, 3) := by decide +kernel
theorem dX9_passes_4 : decode cX9_passes 4 = .ok (.iload_n 1, 1) := by decide +kernel
theorem dX9_passes_5 : decode cX9_passes 5 = .ok (.iaload, 1) := by decide +kernel
theorem dX9_passes_6 : decode cX9_passes 6 = .ok (.istore_n 3, 1) := by decide +kernel
theorem dX9_passes_7 : decode cX9_passes 7 = .ok (.aload_n 0, 1) := by decide +kernel
theorem dX9_passes_8 : decode cX9_passes 8 = .ok (.getfield 7, 3) := by decide +kernel
theorem dX9_passes_11 : decode cX9_passes 11 = .ok (.bipush 10, 2) := by decide +kernel
theorem dX9_passes_13 : decode cX9_passes 13 = .ok (.iload_n 1, 1) := by decide +kernel
theorem dX9_passes_14 : decode cX9_passes 14 = .ok (.imul, 1) := by decide +kernel
theorem dX9_passes_15 : decode cX9_passes 15 = .ok (.iload_n 2, 1) := by decide +kernel
theorem dX9_passes_16 : decode cX9_passes 16 = .ok (.iadd, 1) := by decide +kernel
theorem dX9_passes_17 : decode cX9_passes 17 = .ok (.iaload, 1) := by decide +kernel
theorem dX9_passes_18 : decode cX9_passes 18 = .ok (.ifCond .eq 23, 3) := by decide +kernel
theorem dX9_passes_21 : decode cX9_passes 21 = .ok (.iload_n 3, 1) := by decide +kernel
theorem dX9_passes_22 : decode cX9_passes 22 = .ok (.bipush (-9), 2) := by decide +kernel
theorem dX9_passes_24 : decode cX9_passes 24 = .ok (.if_icmp .eq 17, 3) := by decide +kernel
theorem dX9_passes_27 : decode cX9_passes 27 = .ok (.aload_n 0, 1) := by decide +kernel
theorem dX9_passes_28 : decode cX9_passes 28 = .ok (.getfield 47, 3) := by decide +kernel
theorem dX9_passes_31 : decode cX9_passes 31 = .ok (.iload_n 3, 1) := by decide +kernel
theorem dX9_passes_32 : decode cX9_passes 32 = .ok (.iaload, 1) := by decide +kernel
theorem dX9_passes_33 : decode cX9_passes 33 = .ok (.iload_n 2, 1) := by decide +kernel
theorem dX9_passes_34 : decode cX9_passes 34 = .ok (.ishr, 1) := by decide +kernel
theorem dX9_passes_35 : decode cX9_passes 35 = .ok (.iconst 1, 1) := by decide +kernel
theorem dX9_passes_36 : decode cX9_passes 36 = .ok (.iand, 1) := by decide +kernel
theorem dX9_passes_37 : decode cX9_passes 37 = .ok (.iconst 1, 1) := by decide +kernel
theorem dX9_passes_38 : decode cX9_passes 38 = .ok (.if_icmp .ne 5, 3) := by decide +kernel
theorem dX9_passes_41 : decode cX9_passes 41 = .ok (.iconst 0, 1) := by decide +kernel
theorem dX9_passes_42 : decode cX9_passes 42 = .ok (.ireturn, 1) := by decide +kernel
theorem dX9_passes_43 : decode cX9_passes 43 = .ok (.iconst 0, 1) := by decide +kernel
theorem dX9_passes_44 : decode cX9_passes 44 = .ok (.istore 4, 2) := by decide +kernel
theorem dX9_passes_46 : decode cX9_passes 46 = .ok (.iload 4, 2) := by decide +kernel
theorem dX9_passes_48 : decode cX9_passes 48 = .ok (.aload_n 0, 1) := by decide +kernel
theorem dX9_passes_49 : decode cX9_passes 49 = .ok (.getfield 68, 3) := by decide +kernel
theorem dX9_passes_52 : decode cX9_passes 52 = .ok (.iload_n 1, 1) := by decide +kernel
theorem dX9_passes_53 : decode cX9_passes 53 = .ok (.iaload, 1) := by decide +kernel
theorem dX9_passes_54 : decode cX9_passes 54 = .ok (.if_icmp .ge 27, 3) := by decide +kernel
theorem dX9_passes_57 : decode cX9_passes 57 = .ok (.aload_n 0, 1) := by decide +kernel
theorem dX9_passes_58 : decode cX9_passes 58 = .ok (.getfield 71, 3) := by decide +kernel
theorem dX9_passes_61 : decode cX9_passes 61 = .ok (.bipush 10, 2) := by decide +kernel
theorem dX9_passes_63 : decode cX9_passes 63 = .ok (.iload_n 1, 1) := by decide +kernel
theorem dX9_passes_64 : decode cX9_passes 64 = .ok (.imul, 1) := by decide +kernel
theorem dX9_passes_65 : decode cX9_passes 65 = .ok (.iload 4, 2) := by decide +kernel
theorem dX9_passes_67 : decode cX9_passes 67 = .ok (.iadd, 1) := by decide +kernel
theorem dX9_passes_68 : decode cX9_passes 68 = .ok (.iaload, 1) := by decide +kernel
theorem dX9_passes_69 : decode cX9_passes 69 = .ok (.iload_n 2, 1) := by decide +kernel
theorem dX9_passes_70 : decode cX9_passes 70 = .ok (.if_icmp .ne 5, 3) := by decide +kernel
theorem dX9_passes_73 : decode cX9_passes 73 = .ok (.iconst 0, 1) := by decide +kernel
theorem dX9_passes_74 : decode cX9_passes 74 = .ok (.ireturn, 1) := by decide +kernel
theorem dX9_passes_75 : decode cX9_passes 75 = .ok (.iinc 4 1, 3) := by decide +kernel
theorem dX9_passes_78 : decode cX9_passes 78 = .ok (.goto (-32), 3) := by decide +kernel
theorem dX9_passes_81 : decode cX9_passes 81 = .ok (.aload_n 0, 1) := by decide +kernel
theorem dX9_passes_82 : decode cX9_passes 82 = .ok (.getfield 65, 3) := by decide +kernel
theorem dX9_passes_85 : decode cX9_passes 85 = .ok (.iload_n 1, 1) := by decide +kernel
theorem dX9_passes_86 : decode cX9_passes 86 = .ok (.iaload, 1) := by decide +kernel
theorem dX9_passes_87 : decode cX9_passes 87 = .ok (.bipush 16, 2) := by decide +kernel
theorem dX9_passes_89 : decode cX9_passes 89 = .ok (.if_icmp .lt 7, 3) := by decide +kernel
theorem dX9_passes_92 : decode cX9_passes 92 = .ok (.iconst 1, 1) := by decide +kernel
theorem dX9_passes_93 : decode cX9_passes 93 = .ok (.goto 4, 3) := by decide +kernel
theorem dX9_passes_96 : decode cX9_passes 96 = .ok (.iconst 0, 1) := by decide +kernel
theorem dX9_passes_97 : decode cX9_passes 97 = .ok (.istore 4, 2) := by decide +kernel
theorem dX9_passes_99 : decode cX9_passes 99 = .ok (.aload_n 0, 1) := by decide +kernel
theorem dX9_passes_100 : decode cX9_passes 100 = .ok (.getfield 50, 3) := by decide +kernel
theorem dX9_passes_103 : decode cX9_passes 103 = .ok (.iload_n 3, 1) := by decide +kernel
theorem dX9_passes_104 : decode cX9_passes 104 = .ok (.baload, 1) := by decide +kernel
theorem dX9_passes_105 : decode cX9_passes 105 = .ok (.ifCond .eq 6, 3) := by decide +kernel
theorem dX9_passes_108 : decode cX9_passes 108 = .ok (.iload 4, 2) := by decide +kernel
theorem dX9_passes_110 : decode cX9_passes 110 = .ok (.ireturn, 1) := by decide +kernel
theorem dX9_passes_111 : decode cX9_passes 111 = .ok (.iload 4, 2) := by decide +kernel
theorem dX9_passes_113 : decode cX9_passes 113 = .ok (.ifCond .ne 38, 3) := by decide +kernel
theorem dX9_passes_116 : decode cX9_passes 116 = .ok (.aload_n 0, 1) := by decide +kernel
theorem dX9_passes_117 : decode cX9_passes 117 = .ok (.getfield 7, 3) := by decide +kernel
theorem dX9_passes_120 : decode cX9_passes 120 = .ok (.bipush 10, 2) := by decide +kernel
theorem dX9_passes_122 : decode cX9_passes 122 = .ok (.iload_n 1, 1) := by decide +kernel
theorem dX9_passes_123 : decode cX9_passes 123 = .ok (.imul, 1) := by decide +kernel
theorem dX9_passes_124 : decode cX9_passes 124 = .ok (.aload_n 0, 1) := by decide +kernel
theorem dX9_passes_125 : decode cX9_passes 125 = .ok (.getfield 65, 3) := by decide +kernel
theorem dX9_passes_128 : decode cX9_passes 128 = .ok (.iload_n 1, 1) := by decide +kernel
theorem dX9_passes_129 : decode cX9_passes 129 = .ok (.iaload, 1) := by decide +kernel
theorem dX9_passes_130 : decode cX9_passes 130 = .ok (.iadd, 1) := by decide +kernel
theorem dX9_passes_131 : decode cX9_passes 131 = .ok (.iaload, 1) := by decide +kernel
theorem dX9_passes_132 : decode cX9_passes 132 = .ok (.iconst 1, 1) := by decide +kernel
theorem dX9_passes_133 : decode cX9_passes 133 = .ok (.if_icmp .eq 18, 3) := by decide +kernel
theorem dX9_passes_136 : decode cX9_passes 136 = .ok (.aload_n 0, 1) := by decide +kernel
theorem dX9_passes_137 : decode cX9_passes 137 = .ok (.getfield 7, 3) := by decide +kernel
theorem dX9_passes_140 : decode cX9_passes 140 = .ok (.bipush 10, 2) := by decide +kernel
theorem dX9_passes_142 : decode cX9_passes 142 = .ok (.iload_n 1, 1) := by decide +kernel
theorem dX9_passes_143 : decode cX9_passes 143 = .ok (.imul, 1) := by decide +kernel
theorem dX9_passes_144 : decode cX9_passes 144 = .ok (.iload_n 2, 1) := by decide +kernel
theorem dX9_passes_145 : decode cX9_passes 145 = .ok (.iadd, 1) := by decide +kernel
theorem dX9_passes_146 : decode cX9_passes 146 = .ok (.iaload, 1) := by decide +kernel
theorem dX9_passes_147 : decode cX9_passes 147 = .ok (.iconst 1, 1) := by decide +kernel
theorem dX9_passes_148 : decode cX9_passes 148 = .ok (.if_icmp .ne 7, 3) := by decide +kernel
theorem dX9_passes_151 : decode cX9_passes 151 = .ok (.iconst 1, 1) := by decide +kernel
theorem dX9_passes_152 : decode cX9_passes 152 = .ok (.goto 4, 3) := by decide +kernel
theorem dX9_passes_155 : decode cX9_passes 155 = .ok (.iconst 0, 1) := by decide +kernel
theorem dX9_passes_156 : decode cX9_passes 156 = .ok (.ireturn, 1) := by decide +kernel
theorem dX9_worth_0 : decode cX9_worth 0 = .ok (.iload_n 2, 1) := by decide +kernel
theorem dX9_worth_1 : decode cX9_worth 1 = .ok (.bipush 16, 2) := by decide +kernel
theorem dX9_worth_3 : decode cX9_worth 3 = .ok (.if_icmp .lt 7, 3) := by decide +kernel
theorem dX9_worth_6 : decode cX9_worth 6 = .ok (.iconst 1, 1) := by decide +kernel
theorem dX9_worth_7 : decode cX9_worth 7 = .ok (.goto 4, 3) := by decide +kernel
theorem dX9_worth_10 : decode cX9_worth 10 = .ok (.iconst 0, 1) := by decide +kernel
theorem dX9_worth_11 : decode cX9_worth 11 = .ok (.istore 4, 2) := by decide +kernel
theorem dX9_worth_13 : decode cX9_worth 13 = .ok (.iload_n 3, 1) := by decide +kernel
theorem dX9_worth_14 : decode cX9_worth 14 = .ok (.iconst 1, 1) := by decide +kernel
theorem dX9_worth_15 : decode cX9_worth 15 = .ok (.if_icmp .ne 48, 3) := by decide +kernel
theorem dX9_worth_18 : decode cX9_worth 18 = .ok (.iload 4, 2) := by decide +kernel
theorem dX9_worth_20 : decode cX9_worth 20 = .ok (.ifCond .ne 18, 3) := by decide +kernel
theorem dX9_worth_23 : decode cX9_worth 23 = .ok (.aload_n 0, 1) := by decide +kernel
theorem dX9_worth_24 : decode cX9_worth 24 = .ok (.getfield 7, 3) := by decide +kernel
theorem dX9_worth_27 : decode cX9_worth 27 = .ok (.bipush 10, 2) := by decide +kernel
theorem dX9_worth_29 : decode cX9_worth 29 = .ok (.iload_n 1, 1) := by decide +kernel
theorem dX9_worth_30 : decode cX9_worth 30 = .ok (.imul, 1) := by decide +kernel
theorem dX9_worth_31 : decode cX9_worth 31 = .ok (.iload_n 2, 1) := by decide +kernel
theorem dX9_worth_32 : decode cX9_worth 32 = .ok (.iadd, 1) := by decide +kernel
theorem dX9_worth_33 : decode cX9_worth 33 = .ok (.iaload, 1) := by decide +kernel
theorem dX9_worth_34 : decode cX9_worth 34 = .ok (.iconst 1, 1) := by decide +kernel
theorem dX9_worth_35 : decode cX9_worth 35 = .ok (.if_icmp .ne 7, 3) := by decide +kernel
theorem dX9_worth_38 : decode cX9_worth 38 = .ok (.iconst 0, 1) := by decide +kernel
theorem dX9_worth_39 : decode cX9_worth 39 = .ok (.goto 23, 3) := by decide +kernel
theorem dX9_worth_42 : decode cX9_worth 42 = .ok (.aload_n 0, 1) := by decide +kernel
theorem dX9_worth_43 : decode cX9_worth 43 = .ok (.getfield 7, 3) := by decide +kernel
theorem dX9_worth_46 : decode cX9_worth 46 = .ok (.bipush 10, 2) := by decide +kernel
theorem dX9_worth_48 : decode cX9_worth 48 = .ok (.iload_n 1, 1) := by decide +kernel
theorem dX9_worth_49 : decode cX9_worth 49 = .ok (.imul, 1) := by decide +kernel
theorem dX9_worth_50 : decode cX9_worth 50 = .ok (.iload_n 2, 1) := by decide +kernel
theorem dX9_worth_51 : decode cX9_worth 51 = .ok (.iadd, 1) := by decide +kernel
theorem dX9_worth_52 : decode cX9_worth 52 = .ok (.iaload, 1) := by decide +kernel
theorem dX9_worth_53 : decode cX9_worth 53 = .ok (.iconst 2, 1) := by decide +kernel
theorem dX9_worth_54 : decode cX9_worth 54 = .ok (.if_icmp .ne 7, 3) := by decide +kernel
theorem dX9_worth_57 : decode cX9_worth 57 = .ok (.iconst 1, 1) := by decide +kernel
theorem dX9_worth_58 : decode cX9_worth 58 = .ok (.goto 4, 3) := by decide +kernel
theorem dX9_worth_61 : decode cX9_worth 61 = .ok (.iconst 2, 1) := by decide +kernel
theorem dX9_worth_62 : decode cX9_worth 62 = .ok (.ireturn, 1) := by decide +kernel
theorem dX9_worth_63 : decode cX9_worth 63 = .ok (.iload_n 3, 1) := by decide +kernel
theorem dX9_worth_64 : decode cX9_worth 64 = .ok (.iconst 2, 1) := by decide +kernel
theorem dX9_worth_65 : decode cX9_worth 65 = .ok (.if_icmp .ne 31, 3) := by decide +kernel
theorem dX9_worth_68 : decode cX9_worth 68 = .ok (.iload 4, 2) := by decide +kernel
theorem dX9_worth_70 : decode cX9_worth 70 = .ok (.ifCond .eq 17, 3) := by decide +kernel
theorem dX9_worth_73 : decode cX9_worth 73 = .ok (.iconst 1, 1) := by decide +kernel
theorem dX9_worth_74 : decode cX9_worth 74 = .ok (.aload_n 0, 1) := by decide +kernel
theorem dX9_worth_75 : decode cX9_worth 75 = .ok (.getfield 44, 3) := by decide +kernel
theorem dX9_worth_78 : decode cX9_worth 78 = .ok (.iload_n 2, 1) := by decide +kernel
theorem dX9_worth_79 : decode cX9_worth 79 = .ok (.bipush 16, 2) := by decide +kernel
theorem dX9_worth_81 : decode cX9_worth 81 = .ok (.isub, 1) := by decide +kernel
theorem dX9_worth_82 : decode cX9_worth 82 = .ok (.iaload, 1) := by decide +kernel
theorem dX9_worth_83 : decode cX9_worth 83 = .ok (.iadd, 1) := by decide +kernel
theorem dX9_worth_84 : decode cX9_worth 84 = .ok (.goto 11, 3) := by decide +kernel
theorem dX9_worth_87 : decode cX9_worth 87 = .ok (.aload_n 0, 1) := by decide +kernel
theorem dX9_worth_88 : decode cX9_worth 88 = .ok (.getfield 62, 3) := by decide +kernel
theorem dX9_worth_91 : decode cX9_worth 91 = .ok (.iload_n 2, 1) := by decide +kernel
theorem dX9_worth_92 : decode cX9_worth 92 = .ok (.iaload, 1) := by decide +kernel
theorem dX9_worth_93 : decode cX9_worth 93 = .ok (.iconst 1, 1) := by decide +kernel
theorem dX9_worth_94 : decode cX9_worth 94 = .ok (.iadd, 1) := by decide +kernel
theorem dX9_worth_95 : decode cX9_worth 95 = .ok (.ireturn, 1) := by decide +kernel
theorem dX9_worth_96 : decode cX9_worth 96 = .ok (.iload 4, 2) := by decide +kernel
theorem dX9_worth_98 : decode cX9_worth 98 = .ok (.ifCond .eq 10, 3) := by decide +kernel
theorem dX9_worth_101 : decode cX9_worth 101 = .ok (.iload_n 2, 1) := by decide +kernel
theorem dX9_worth_102 : decode cX9_worth 102 = .ok (.bipush 16, 2) := by decide +kernel
theorem dX9_worth_104 : decode cX9_worth 104 = .ok (.isub, 1) := by decide +kernel
theorem dX9_worth_105 : decode cX9_worth 105 = .ok (.goto 24, 3) := by decide +kernel
theorem dX9_worth_108 : decode cX9_worth 108 = .ok (.aload_n 0, 1) := by decide +kernel
theorem dX9_worth_109 : decode cX9_worth 109 = .ok (.getfield 56, 3) := by decide +kernel
theorem dX9_worth_112 : decode cX9_worth 112 = .ok (.iload_n 1, 1) := by decide +kernel
theorem dX9_worth_113 : decode cX9_worth 113 = .ok (.iaload, 1) := by decide +kernel
theorem dX9_worth_114 : decode cX9_worth 114 = .ok (.iconst 1, 1) := by decide +kernel
theorem dX9_worth_115 : decode cX9_worth 115 = .ok (.if_icmp .ne 10, 3) := by decide +kernel
theorem dX9_worth_118 : decode cX9_worth 118 = .ok (.bipush 100, 2) := by decide +kernel
theorem dX9_worth_120 : decode cX9_worth 120 = .ok (.iload_n 2, 1) := by decide +kernel
theorem dX9_worth_121 : decode cX9_worth 121 = .ok (.isub, 1) := by decide +kernel
theorem dX9_worth_122 : decode cX9_worth 122 = .ok (.goto 7, 3) := by decide +kernel
theorem dX9_worth_125 : decode cX9_worth 125 = .ok (.bipush 16, 2) := by decide +kernel
theorem dX9_worth_127 : decode cX9_worth 127 = .ok (.iload_n 2, 1) := by decide +kernel
theorem dX9_worth_128 : decode cX9_worth 128 = .ok (.iadd, 1) := by decide +kernel
theorem dX9_worth_129 : decode cX9_worth 129 = .ok (.ireturn, 1) := by decide +kernel
theorem dX9_thing_0 : decode cX9_thing 0 = .ok (.iload_n 0, 1) := by decide +kernel
theorem dX9_thing_1 : decode cX9_thing 1 = .ok (.lookupswitch 65 #[(2, 27), (3, 46)], 27) := by decide +kernel
theorem dX9_thing_28 : decode cX9_thing 28 = .ok (.iload_n 1, 1) := by decide +kernel
theorem dX9_thing_29 : decode cX9_thing 29 = .ok (.ifCond .ne 7, 3) := by decide +kernel
theorem dX9_thing_32 : decode cX9_thing 32 = .ok (.iconst 2, 1) := by decide +kernel
theorem dX9_thing_33 : decode cX9_thing 33 = .ok (.goto 13, 3) := by decide +kernel
theorem dX9_thing_36 : decode cX9_thing 36 = .ok (.iload_n 1, 1) := by decide +kernel
theorem dX9_thing_37 : decode cX9_thing 37 = .ok (.iconst 1, 1) := by decide +kernel
theorem dX9_thing_38 : decode cX9_thing 38 = .ok (.if_icmp .ne 7, 3) := by decide +kernel
theorem dX9_thing_41 : decode cX9_thing 41 = .ok (.iconst 1, 1) := by decide +kernel
theorem dX9_thing_42 : decode cX9_thing 42 = .ok (.goto 4, 3) := by decide +kernel
theorem dX9_thing_45 : decode cX9_thing 45 = .ok (.iconst 3, 1) := by decide +kernel
theorem dX9_thing_46 : decode cX9_thing 46 = .ok (.ireturn, 1) := by decide +kernel
theorem dX9_thing_47 : decode cX9_thing 47 = .ok (.iload_n 1, 1) := by decide +kernel
theorem dX9_thing_48 : decode cX9_thing 48 = .ok (.ifCond .ne 7, 3) := by decide +kernel
theorem dX9_thing_51 : decode cX9_thing 51 = .ok (.iconst 1, 1) := by decide +kernel
theorem dX9_thing_52 : decode cX9_thing 52 = .ok (.goto 13, 3) := by decide +kernel
theorem dX9_thing_55 : decode cX9_thing 55 = .ok (.iload_n 1, 1) := by decide +kernel
theorem dX9_thing_56 : decode cX9_thing 56 = .ok (.iconst 1, 1) := by decide +kernel
theorem dX9_thing_57 : decode cX9_thing 57 = .ok (.if_icmp .ne 7, 3) := by decide +kernel
theorem dX9_thing_60 : decode cX9_thing 60 = .ok (.iconst 3, 1) := by decide +kernel
theorem dX9_thing_61 : decode cX9_thing 61 = .ok (.goto 4, 3) := by decide +kernel
theorem dX9_thing_64 : decode cX9_thing 64 = .ok (.iconst 2, 1) := by decide +kernel
theorem dX9_thing_65 : decode cX9_thing 65 = .ok (.ireturn, 1) := by decide +kernel
theorem dX9_thing_66 : decode cX9_thing 66 = .ok (.iload_n 1, 1) := by decide +kernel
theorem dX9_thing_67 : decode cX9_thing 67 = .ok (.iconst 1, 1) := by decide +kernel
theorem dX9_thing_68 : decode cX9_thing 68 = .ok (.iadd, 1) := by decide +kernel
theorem dX9_thing_69 : decode cX9_thing 69 = .ok (.ireturn, 1) := by decide +kernel
theorem dX9_isAhead_0 : decode cX9_isAhead 0 = .ok (.iconst 0, 1) := by decide +kernel
theorem dX9_isAhead_1 : decode cX9_isAhead 1 = .ok (.istore 4, 2) := by decide +kernel
theorem dX9_isAhead_3 : decode cX9_isAhead 3 = .ok (.iload 4, 2) := by decide +kernel
theorem dX9_isAhead_5 : decode cX9_isAhead 5 = .ok (.iconst 3, 1) := by decide +kernel
theorem dX9_isAhead_6 : decode cX9_isAhead 6 = .ok (.if_icmp .ge 57, 3) := by decide +kernel
theorem dX9_isAhead_9 : decode cX9_isAhead 9 = .ok (.aload_n 0, 1) := by decide +kernel
theorem dX9_isAhead_10 : decode cX9_isAhead 10 = .ok (.getfield 56, 3) := by decide +kernel
theorem dX9_isAhead_13 : decode cX9_isAhead 13 = .ok (.iload_n 1, 1) := by decide +kernel
theorem dX9_isAhead_14 : decode cX9_isAhead 14 = .ok (.iaload, 1) := by decide +kernel
theorem dX9_isAhead_15 : decode cX9_isAhead 15 = .ok (.iload 4, 2) := by decide +kernel
theorem dX9_isAhead_17 : decode cX9_isAhead 17 = .ok (.invokestatic 174, 3) := by decide +kernel
theorem dX9_isAhead_20 : decode cX9_isAhead 20 = .ok (.istore 5, 2) := by decide +kernel
theorem dX9_isAhead_22 : decode cX9_isAhead 22 = .ok (.aload_n 0, 1) := by decide +kernel
theorem dX9_isAhead_23 : decode cX9_isAhead 23 = .ok (.iload_n 1, 1) := by decide +kernel
theorem dX9_isAhead_24 : decode cX9_isAhead 24 = .ok (.iload_n 2, 1) := by decide +kernel
theorem dX9_isAhead_25 : decode cX9_isAhead 25 = .ok (.iload 5, 2) := by decide +kernel
theorem dX9_isAhead_27 : decode cX9_isAhead 27 = .ok (.invokevirtual 178, 3) := by decide +kernel
theorem dX9_isAhead_30 : decode cX9_isAhead 30 = .ok (.aload_n 0, 1) := by decide +kernel
theorem dX9_isAhead_31 : decode cX9_isAhead 31 = .ok (.iload_n 1, 1) := by decide +kernel
theorem dX9_isAhead_32 : decode cX9_isAhead 32 = .ok (.iload_n 3, 1) := by decide +kernel
theorem dX9_isAhead_33 : decode cX9_isAhead 33 = .ok (.iload 5, 2) := by decide +kernel
theorem dX9_isAhead_35 : decode cX9_isAhead 35 = .ok (.invokevirtual 178, 3) := by decide +kernel
theorem dX9_isAhead_38 : decode cX9_isAhead 38 = .ok (.isub, 1) := by decide +kernel
theorem dX9_isAhead_39 : decode cX9_isAhead 39 = .ok (.istore 6, 2) := by decide +kernel
theorem dX9_isAhead_41 : decode cX9_isAhead 41 = .ok (.iload 6, 2) := by decide +kernel
theorem dX9_isAhead_43 : decode cX9_isAhead 43 = .ok (.ifCond .eq 14, 3) := by decide +kernel
theorem dX9_isAhead_46 : decode cX9_isAhead 46 = .ok (.iload 6, 2) := by decide +kernel
theorem dX9_isAhead_48 : decode cX9_isAhead 48 = .ok (.ifCond .ge 7, 3) := by decide +kernel
theorem dX9_isAhead_51 : decode cX9_isAhead 51 = .ok (.iconst 1, 1) := by decide +kernel
theorem dX9_isAhead_52 : decode cX9_isAhead 52 = .ok (.goto 4, 3) := by decide +kernel
theorem dX9_isAhead_55 : decode cX9_isAhead 55 = .ok (.iconst 0, 1) := by decide +kernel
theorem dX9_isAhead_56 : decode cX9_isAhead 56 = .ok (.ireturn, 1) := by decide +kernel
theorem dX9_isAhead_57 : decode cX9_isAhead 57 = .ok (.iinc 4 1, 3) := by decide +kernel
theorem dX9_isAhead_60 : decode cX9_isAhead 60 = .ok (.goto (-57), 3) := by decide +kernel
theorem dX9_isAhead_63 : decode cX9_isAhead 63 = .ok (.iconst 0, 1) := by decide +kernel
theorem dX9_isAhead_64 : decode cX9_isAhead 64 = .ok (.ireturn, 1) := by decide +kernel
theorem dX9_choice_0 : decode cX9_choice 0 = .ok (.bipush (-9), 2) := by decide +kernel
theorem dX9_choice_2 : decode cX9_choice 2 = .ok (.istore_n 2, 1) := by decide +kernel
theorem dX9_choice_3 : decode cX9_choice 3 = .ok (.iconst 0, 1) := by decide +kernel
theorem dX9_choice_4 : decode cX9_choice 4 = .ok (.istore_n 3, 1) := by decide +kernel
theorem dX9_choice_5 : decode cX9_choice 5 = .ok (.iload_n 3, 1) := by decide +kernel
theorem dX9_choice_6 : decode cX9_choice 6 = .ok (.iconst 4, 1) := by decide +kernel
theorem dX9_choice_7 : decode cX9_choice 7 = .ok (.if_icmp .ge 46, 3) := by decide +kernel
theorem dX9_choice_10 : decode cX9_choice 10 = .ok (.aload_n 0, 1) := by decide +kernel
theorem dX9_choice_11 : decode cX9_choice 11 = .ok (.iload_n 3, 1) := by decide +kernel
theorem dX9_choice_12 : decode cX9_choice 12 = .ok (.iload_n 1, 1) := by decide +kernel
theorem dX9_choice_13 : decode cX9_choice 13 = .ok (.invokevirtual 182, 3) := by decide +kernel
theorem dX9_choice_16 : decode cX9_choice 16 = .ok (.ifCond .eq 31, 3) := by decide +kernel
theorem dX9_choice_19 : decode cX9_choice 19 = .ok (.iload_n 2, 1) := by decide +kernel
theorem dX9_choice_20 : decode cX9_choice 20 = .ok (.bipush (-9), 2) := by decide +kernel
theorem dX9_choice_22 : decode cX9_choice 22 = .ok (.if_icmp .eq 16, 3) := by decide +kernel
theorem dX9_choice_25 : decode cX9_choice 25 = .ok (.aload_n 0, 1) := by decide +kernel
theorem dX9_choice_26 : decode cX9_choice 26 = .ok (.iload_n 1, 1) := by decide +kernel
theorem dX9_choice_27 : decode cX9_choice 27 = .ok (.bipush 16, 2) := by decide +kernel
theorem dX9_choice_29 : decode cX9_choice 29 = .ok (.iload_n 3, 1) := by decide +kernel
theorem dX9_choice_30 : decode cX9_choice 30 = .ok (.iadd, 1) := by decide +kernel
theorem dX9_choice_31 : decode cX9_choice 31 = .ok (.iload_n 2, 1) := by decide +kernel
theorem dX9_choice_32 : decode cX9_choice 32 = .ok (.invokevirtual 185, 3) := by decide +kernel
theorem dX9_choice_35 : decode cX9_choice 35 = .ok (.ifCond .eq 10, 3) := by decide +kernel
theorem dX9_choice_38 : decode cX9_choice 38 = .ok (.bipush 16, 2) := by decide +kernel
theorem dX9_choice_40 : decode cX9_choice 40 = .ok (.iload_n 3, 1) := by decide +kernel
theorem dX9_choice_41 : decode cX9_choice 41 = .ok (.iadd, 1) := by decide +kernel
theorem dX9_choice_42 : decode cX9_choice 42 = .ok (.goto 4, 3) := by decide +kernel
theorem dX9_choice_45 : decode cX9_choice 45 = .ok (.iload_n 2, 1) := by decide +kernel
theorem dX9_choice_46 : decode cX9_choice 46 = .ok (.istore_n 2, 1) := by decide +kernel
theorem dX9_choice_47 : decode cX9_choice 47 = .ok (.iinc 3 1, 3) := by decide +kernel
theorem dX9_choice_50 : decode cX9_choice 50 = .ok (.goto (-45), 3) := by decide +kernel
theorem dX9_choice_53 : decode cX9_choice 53 = .ok (.iconst 0, 1) := by decide +kernel
theorem dX9_choice_54 : decode cX9_choice 54 = .ok (.istore_n 3, 1) := by decide +kernel
theorem dX9_choice_55 : decode cX9_choice 55 = .ok (.iload_n 3, 1) := by decide +kernel
theorem dX9_choice_56 : decode cX9_choice 56 = .ok (.aload_n 0, 1) := by decide +kernel
theorem dX9_choice_57 : decode cX9_choice 57 = .ok (.getfield 132, 3) := by decide +kernel
theorem dX9_choice_60 : decode cX9_choice 60 = .ok (.if_icmp .ge 45, 3) := by decide +kernel
theorem dX9_choice_63 : decode cX9_choice 63 = .ok (.iload_n 3, 1) := by decide +kernel
theorem dX9_choice_64 : decode cX9_choice 64 = .ok (.iload_n 1, 1) := by decide +kernel
theorem dX9_choice_65 : decode cX9_choice 65 = .ok (.if_icmp .eq 34, 3) := by decide +kernel
theorem dX9_choice_68 : decode cX9_choice 68 = .ok (.aload_n 0, 1) := by decide +kernel
theorem dX9_choice_69 : decode cX9_choice 69 = .ok (.iload_n 3, 1) := by decide +kernel
theorem dX9_choice_70 : decode cX9_choice 70 = .ok (.iload_n 1, 1) := by decide +kernel
theorem dX9_choice_71 : decode cX9_choice 71 = .ok (.invokevirtual 189, 3) := by decide +kernel
theorem dX9_choice_74 : decode cX9_choice 74 = .ok (.ifCond .eq 25, 3) := by decide +kernel
theorem dX9_choice_77 : decode cX9_choice 77 = .ok (.iload_n 2, 1) := by decide +kernel
theorem dX9_choice_78 : decode cX9_choice 78 = .ok (.bipush (-9), 2) := by decide +kernel
theorem dX9_choice_80 : decode cX9_choice 80 = .ok (.if_icmp .eq 13, 3) := by decide +kernel
theorem dX9_choice_83 : decode cX9_choice 83 = .ok (.aload_n 0, 1) := by decide +kernel
theorem dX9_choice_84 : decode cX9_choice 84 = .ok (.iload_n 1, 1) := by decide +kernel
theorem dX9_choice_85 : decode cX9_choice 85 = .ok (.iload_n 3, 1) := by decide +kernel
theorem dX9_choice_86 : decode cX9_choice 86 = .ok (.iload_n 2, 1) := by decide +kernel
theorem dX9_choice_87 : decode cX9_choice 87 = .ok (.invokevirtual 185, 3) := by decide +kernel
theorem dX9_choice_90 : decode cX9_choice 90 = .ok (.ifCond .eq 7, 3) := by decide +kernel
theorem dX9_choice_93 : decode cX9_choice 93 = .ok (.iload_n 3, 1) := by decide +kernel
theorem dX9_choice_94 : decode cX9_choice 94 = .ok (.goto 4, 3) := by decide +kernel
theorem dX9_choice_97 : decode cX9_choice 97 = .ok (.iload_n 2, 1) := by decide +kernel
theorem dX9_choice_98 : decode cX9_choice 98 = .ok (.istore_n 2, 1) := by decide +kernel
theorem dX9_choice_99 : decode cX9_choice 99 = .ok (.iinc 3 1, 3) := by decide +kernel
theorem dX9_choice_102 : decode cX9_choice 102 = .ok (.goto (-47), 3) := by decide +kernel
theorem dX9_choice_105 : decode cX9_choice 105 = .ok (.iload_n 2, 1) := by decide +kernel
theorem dX9_choice_106 : decode cX9_choice 106 = .ok (.ireturn, 1) := by decide +kernel
theorem dX9_layNext_0 : decode cX9_layNext 0 = .ok (.aload_n 0, 1) := by decide +kernel
theorem dX9_layNext_1 : decode cX9_layNext 1 = .ok (.iload_n 1, 1) := by decide +kernel
theorem dX9_layNext_2 : decode cX9_layNext 2 = .ok (.invokevirtual 192, 3) := by decide +kernel
theorem dX9_layNext_5 : decode cX9_layNext 5 = .ok (.istore_n 2, 1) := by decide +kernel
theorem dX9_layNext_6 : decode cX9_layNext 6 = .ok (.aload_n 0, 1) := by decide +kernel
theorem dX9_layNext_7 : decode cX9_layNext 7 = .ok (.getfield 80, 3) := by decide +kernel
theorem dX9_layNext_10 : decode cX9_layNext 10 = .ok (.iload_n 1, 1) := by decide +kernel
theorem dX9_layNext_11 : decode cX9_layNext 11 = .ok (.iload_n 2, 1) := by decide +kernel
theorem dX9_layNext_12 : decode cX9_layNext 12 = .ok (.iastore, 1) := by decide +kernel
theorem dX9_layNext_13 : decode cX9_layNext 13 = .ok (.aload_n 0, 1) := by decide +kernel
theorem dX9_layNext_14 : decode cX9_layNext 14 = .ok (.getfield 83, 3) := by decide +kernel
theorem dX9_layNext_17 : decode cX9_layNext 17 = .ok (.iload_n 1, 1) := by decide +kernel
theorem dX9_layNext_18 : decode cX9_layNext 18 = .ok (.iconst 0, 1) := by decide +kernel
theorem dX9_layNext_19 : decode cX9_layNext 19 = .ok (.iastore, 1) := by decide +kernel
theorem dX9_layNext_20 : decode cX9_layNext 20 = .ok (.aload_n 0, 1) := by decide +kernel
theorem dX9_layNext_21 : decode cX9_layNext 21 = .ok (.getfield 74, 3) := by decide +kernel
theorem dX9_layNext_24 : decode cX9_layNext 24 = .ok (.iload_n 1, 1) := by decide +kernel
theorem dX9_layNext_25 : decode cX9_layNext 25 = .ok (.bipush (-9), 2) := by decide +kernel
theorem dX9_layNext_27 : decode cX9_layNext 27 = .ok (.iastore, 1) := by decide +kernel
theorem dX9_layNext_28 : decode cX9_layNext 28 = .ok (.aload_n 0, 1) := by decide +kernel
theorem dX9_layNext_29 : decode cX9_layNext 29 = .ok (.getfield 77, 3) := by decide +kernel
theorem dX9_layNext_32 : decode cX9_layNext 32 = .ok (.iload_n 1, 1) := by decide +kernel
theorem dX9_layNext_33 : decode cX9_layNext 33 = .ok (.iconst 0, 1) := by decide +kernel
theorem dX9_layNext_34 : decode cX9_layNext 34 = .ok (.iastore, 1) := by decide +kernel
theorem dX9_layNext_35 : decode cX9_layNext 35 = .ok (.iload_n 2, 1) := by decide +kernel
theorem dX9_layNext_36 : decode cX9_layNext 36 = .ok (.bipush (-9), 2) := by decide +kernel
theorem dX9_layNext_38 : decode cX9_layNext 38 = .ok (.if_icmp .ne 4, 3) := by decide +kernel
theorem dX9_layNext_41 : decode cX9_layNext 41 = .ok (.return_, 1) := by decide +kernel
theorem dX9_layNext_42 : decode cX9_layNext 42 = .ok (.aload_n 0, 1) := by decide +kernel
theorem dX9_layNext_43 : decode cX9_layNext 43 = .ok (.getfield 86, 3) := by decide +kernel
theorem dX9_layNext_46 : decode cX9_layNext 46 = .ok (.bipush 10, 2) := by decide +kernel
theorem dX9_layNext_48 : decode cX9_layNext 48 = .ok (.iload_n 1, 1) := by decide +kernel
theorem dX9_layNext_49 : decode cX9_layNext 49 = .ok (.imul, 1) := by decide +kernel
theorem dX9_layNext_50 : decode cX9_layNext 50 = .ok (.iload_n 1, 1) := by decide +kernel
theorem dX9_layNext_51 : decode cX9_layNext 51 = .ok (.iastore, 1) := by decide +kernel
theorem dX9_layNext_52 : decode cX9_layNext 52 = .ok (.aload_n 0, 1) := by decide +kernel
theorem dX9_layNext_53 : decode cX9_layNext 53 = .ok (.getfield 83, 3) := by decide +kernel
theorem dX9_layNext_56 : decode cX9_layNext 56 = .ok (.iload_n 1, 1) := by decide +kernel
theorem dX9_layNext_57 : decode cX9_layNext 57 = .ok (.iconst 1, 1) := by decide +kernel
theorem dX9_layNext_58 : decode cX9_layNext 58 = .ok (.iastore, 1) := by decide +kernel
theorem dX9_layNext_59 : decode cX9_layNext 59 = .ok (.aload_n 0, 1) := by decide +kernel
theorem dX9_layNext_60 : decode cX9_layNext 60 = .ok (.getfield 77, 3) := by decide +kernel
theorem dX9_layNext_63 : decode cX9_layNext 63 = .ok (.iload_n 1, 1) := by decide +kernel
theorem dX9_layNext_64 : decode cX9_layNext 64 = .ok (.aload_n 0, 1) := by decide +kernel
theorem dX9_layNext_65 : decode cX9_layNext 65 = .ok (.iload_n 1, 1) := by decide +kernel
theorem dX9_layNext_66 : decode cX9_layNext 66 = .ok (.iload_n 2, 1) := by decide +kernel
theorem dX9_layNext_67 : decode cX9_layNext 67 = .ok (.iconst 2, 1) := by decide +kernel
theorem dX9_layNext_68 : decode cX9_layNext 68 = .ok (.invokevirtual 178, 3) := by decide +kernel
theorem dX9_layNext_71 : decode cX9_layNext 71 = .ok (.iastore, 1) := by decide +kernel
theorem dX9_layNext_72 : decode cX9_layNext 72 = .ok (.iload_n 2, 1) := by decide +kernel
theorem dX9_layNext_73 : decode cX9_layNext 73 = .ok (.bipush 16, 2) := by decide +kernel
theorem dX9_layNext_75 : decode cX9_layNext 75 = .ok (.if_icmp .lt 16, 3) := by decide +kernel
theorem dX9_layNext_78 : decode cX9_layNext 78 = .ok (.aload_n 0, 1) := by decide +kernel
theorem dX9_layNext_79 : decode cX9_layNext 79 = .ok (.getfield 74, 3) := by decide +kernel
theorem dX9_layNext_82 : decode cX9_layNext 82 = .ok (.iload_n 1, 1) := by decide +kernel
theorem dX9_layNext_83 : decode cX9_layNext 83 = .ok (.iload_n 2, 1) := by decide +kernel
theorem dX9_layNext_84 : decode cX9_layNext 84 = .ok (.bipush 16, 2) := by decide +kernel
theorem dX9_layNext_86 : decode cX9_layNext 86 = .ok (.isub, 1) := by decide +kernel
theorem dX9_layNext_87 : decode cX9_layNext 87 = .ok (.iastore, 1) := by decide +kernel
theorem dX9_layNext_88 : decode cX9_layNext 88 = .ok (.goto 71, 3) := by decide +kernel
theorem dX9_layNext_91 : decode cX9_layNext 91 = .ok (.aload_n 0, 1) := by decide +kernel
theorem dX9_layNext_92 : decode cX9_layNext 92 = .ok (.getfield 74, 3) := by decide +kernel
theorem dX9_layNext_95 : decode cX9_layNext 95 = .ok (.iload_n 1, 1) := by decide +kernel
theorem dX9_layNext_96 : decode cX9_layNext 96 = .ok (.aload_n 0, 1) := by decide +kernel
theorem dX9_layNext_97 : decode cX9_layNext 97 = .ok (.getfield 59, 3) := by decide +kernel
theorem dX9_layNext_100 : decode cX9_layNext 100 = .ok (.iload_n 2, 1) := by decide +kernel
theorem dX9_layNext_101 : decode cX9_layNext 101 = .ok (.iaload, 1) := by decide +kernel
theorem dX9_layNext_102 : decode cX9_layNext 102 = .ok (.iastore, 1) := by decide +kernel
theorem dX9_layNext_103 : decode cX9_layNext 103 = .ok (.iconst 0, 1) := by decide +kernel
theorem dX9_layNext_104 : decode cX9_layNext 104 = .ok (.istore_n 3, 1) := by decide +kernel
theorem dX9_layNext_105 : decode cX9_layNext 105 = .ok (.iload_n 3, 1) := by decide +kernel
theorem dX9_layNext_106 : decode cX9_layNext 106 = .ok (.aload_n 0, 1) := by decide +kernel
theorem dX9_layNext_107 : decode cX9_layNext 107 = .ok (.getfield 68, 3) := by decide +kernel
theorem dX9_layNext_110 : decode cX9_layNext 110 = .ok (.iload_n 2, 1) := by decide +kernel
theorem dX9_layNext_111 : decode cX9_layNext 111 = .ok (.iaload, 1) := by decide +kernel
theorem dX9_layNext_112 : decode cX9_layNext 112 = .ok (.if_icmp .ge 33, 3) := by decide +kernel
theorem dX9_layNext_115 : decode cX9_layNext 115 = .ok (.aload_n 0, 1) := by decide +kernel
theorem dX9_layNext_116 : decode cX9_layNext 116 = .ok (.getfield 86, 3) := by decide +kernel
theorem dX9_layNext_119 : decode cX9_layNext 119 = .ok (.bipush 10, 2) := by decide +kernel
theorem dX9_layNext_121 : decode cX9_layNext 121 = .ok (.iload_n 1, 1) := by decide +kernel
theorem dX9_layNext_122 : decode cX9_layNext 122 = .ok (.imul, 1) := by decide +kernel
theorem dX9_layNext_123 : decode cX9_layNext 123 = .ok (.iconst 1, 1) := by decide +kernel
theorem dX9_layNext_124 : decode cX9_layNext 124 = .ok (.iadd, 1) := by decide +kernel
theorem dX9_layNext_125 : decode cX9_layNext 125 = .ok (.iload_n 3, 1) := by decide +kernel
theorem dX9_layNext_126 : decode cX9_layNext 126 = .ok (.iadd, 1) := by decide +kernel
theorem dX9_layNext_127 : decode cX9_layNext 127 = .ok (.aload_n 0, 1) := by decide +kernel
theorem dX9_layNext_128 : decode cX9_layNext 128 = .ok (.getfield 71, 3) := by decide +kernel
theorem dX9_layNext_131 : decode cX9_layNext 131 = .ok (.bipush 10, 2) := by decide +kernel
theorem dX9_layNext_133 : decode cX9_layNext 133 = .ok (.iload_n 2, 1) := by decide +kernel
theorem dX9_layNext_134 : decode cX9_layNext 134 = .ok (.imul, 1) := by decide +kernel
theorem dX9_layNext_135 : decode cX9_layNext 135 = .ok (.iload_n 3, 1) := by decide +kernel
theorem dX9_layNext_136 : decode cX9_layNext 136 = .ok (.iadd, 1) := by decide +kernel
theorem dX9_layNext_137 : decode cX9_layNext 137 = .ok (.iaload, 1) := by decide +kernel
theorem dX9_layNext_138 : decode cX9_layNext 138 = .ok (.iastore, 1) := by decide +kernel
theorem dX9_layNext_139 : decode cX9_layNext 139 = .ok (.iinc 3 1, 3) := by decide +kernel
theorem dX9_layNext_142 : decode cX9_layNext 142 = .ok (.goto (-37), 3) := by decide +kernel
theorem dX9_layNext_145 : decode cX9_layNext 145 = .ok (.aload_n 0, 1) := by decide +kernel
theorem dX9_layNext_146 : decode cX9_layNext 146 = .ok (.getfield 83, 3) := by decide +kernel
theorem dX9_layNext_149 : decode cX9_layNext 149 = .ok (.iload_n 1, 1) := by decide +kernel
theorem dX9_layNext_150 : decode cX9_layNext 150 = .ok (.iconst 1, 1) := by decide +kernel
theorem dX9_layNext_151 : decode cX9_layNext 151 = .ok (.aload_n 0, 1) := by decide +kernel
theorem dX9_layNext_152 : decode cX9_layNext 152 = .ok (.getfield 68, 3) := by decide +kernel
theorem dX9_layNext_155 : decode cX9_layNext 155 = .ok (.iload_n 2, 1) := by decide +kernel
theorem dX9_layNext_156 : decode cX9_layNext 156 = .ok (.iaload, 1) := by decide +kernel
theorem dX9_layNext_157 : decode cX9_layNext 157 = .ok (.iadd, 1) := by decide +kernel
theorem dX9_layNext_158 : decode cX9_layNext 158 = .ok (.iastore, 1) := by decide +kernel
theorem dX9_layNext_159 : decode cX9_layNext 159 = .ok (.return_, 1) := by decide +kernel
theorem dX9_takeNext_0 : decode cX9_takeNext 0 = .ok (.aload_n 0, 1) := by decide +kernel
theorem dX9_takeNext_1 : decode cX9_takeNext 1 = .ok (.getfield 74, 3) := by decide +kernel
theorem dX9_takeNext_4 : decode cX9_takeNext 4 = .ok (.iload_n 1, 1) := by decide +kernel
theorem dX9_takeNext_5 : decode cX9_takeNext 5 = .ok (.iaload, 1) := by decide +kernel
theorem dX9_takeNext_6 : decode cX9_takeNext 6 = .ok (.aload_n 0, 1) := by decide +kernel
theorem dX9_takeNext_7 : decode cX9_takeNext 7 = .ok (.getfield 59, 3) := by decide +kernel
theorem dX9_takeNext_10 : decode cX9_takeNext 10 = .ok (.iload_n 1, 1) := by decide +kernel
theorem dX9_takeNext_11 : decode cX9_takeNext 11 = .ok (.iaload, 1) := by decide +kernel
theorem dX9_takeNext_12 : decode cX9_takeNext 12 = .ok (.if_icmp .ne 33, 3) := by decide +kernel
theorem dX9_takeNext_15 : decode cX9_takeNext 15 = .ok (.aload_n 0, 1) := by decide +kernel
theorem dX9_takeNext_16 : decode cX9_takeNext 16 = .ok (.getfield 77, 3) := by decide +kernel
theorem dX9_takeNext_19 : decode cX9_takeNext 19 = .ok (.iload_n 1, 1) := by decide +kernel
theorem dX9_takeNext_20 : decode cX9_takeNext 20 = .ok (.iaload, 1) := by decide +kernel
theorem dX9_takeNext_21 : decode cX9_takeNext 21 = .ok (.aload_n 0, 1) := by decide +kernel
theorem dX9_takeNext_22 : decode cX9_takeNext 22 = .ok (.getfield 62, 3) := by decide +kernel
theorem dX9_takeNext_25 : decode cX9_takeNext 25 = .ok (.iload_n 1, 1) := by decide +kernel
theorem dX9_takeNext_26 : decode cX9_takeNext 26 = .ok (.iaload, 1) := by decide +kernel
theorem dX9_takeNext_27 : decode cX9_takeNext 27 = .ok (.if_icmp .ne 18, 3) := by decide +kernel
theorem dX9_takeNext_30 : decode cX9_takeNext 30 = .ok (.aload_n 0, 1) := by decide +kernel
theorem dX9_takeNext_31 : decode cX9_takeNext 31 = .ok (.getfield 83, 3) := by decide +kernel
theorem dX9_takeNext_34 : decode cX9_takeNext 34 = .ok (.iload_n 1, 1) := by decide +kernel
theorem dX9_takeNext_35 : decode cX9_takeNext 35 = .ok (.iaload, 1) := by decide +kernel
theorem dX9_takeNext_36 : decode cX9_takeNext 36 = .ok (.aload_n 0, 1) := by decide +kernel
theorem dX9_takeNext_37 : decode cX9_takeNext 37 = .ok (.getfield 68, 3) := by decide +kernel
theorem dX9_takeNext_40 : decode cX9_takeNext 40 = .ok (.iload_n 1, 1) := by decide +kernel
theorem dX9_takeNext_41 : decode cX9_takeNext 41 = .ok (.iaload, 1) := by decide +kernel
theorem dX9_takeNext_42 : decode cX9_takeNext 42 = .ok (.if_icmp .eq 7, 3) := by decide +kernel
theorem dX9_takeNext_45 : decode cX9_takeNext 45 = .ok (.iconst 1, 1) := by decide +kernel
theorem dX9_takeNext_46 : decode cX9_takeNext 46 = .ok (.goto 4, 3) := by decide +kernel
theorem dX9_takeNext_49 : decode cX9_takeNext 49 = .ok (.iconst 0, 1) := by decide +kernel
theorem dX9_takeNext_50 : decode cX9_takeNext 50 = .ok (.istore_n 2, 1) := by decide +kernel
theorem dX9_takeNext_51 : decode cX9_takeNext 51 = .ok (.iconst 0, 1) := by decide +kernel
theorem dX9_takeNext_52 : decode cX9_takeNext 52 = .ok (.istore_n 3, 1) := by decide +kernel
theorem dX9_takeNext_53 : decode cX9_takeNext 53 = .ok (.iload_n 3, 1) := by decide +kernel
theorem dX9_takeNext_54 : decode cX9_takeNext 54 = .ok (.aload_n 0, 1) := by decide +kernel
theorem dX9_takeNext_55 : decode cX9_takeNext 55 = .ok (.getfield 83, 3) := by decide +kernel
theorem dX9_takeNext_58 : decode cX9_takeNext 58 = .ok (.iload_n 1, 1) := by decide +kernel
theorem dX9_takeNext_59 : decode cX9_takeNext 59 = .ok (.iaload, 1) := by decide +kernel
theorem dX9_takeNext_60 : decode cX9_takeNext 60 = .ok (.if_icmp .ge 66, 3) := by decide +kernel
theorem dX9_takeNext_63 : decode cX9_takeNext 63 = .ok (.iload_n 2, 1) := by decide +kernel
theorem dX9_takeNext_64 : decode cX9_takeNext 64 = .ok (.ifCond .ne 28, 3) := by decide +kernel
theorem dX9_takeNext_67 : decode cX9_takeNext 67 = .ok (.aload_n 0, 1) := by decide +kernel
theorem dX9_takeNext_68 : decode cX9_takeNext 68 = .ok (.getfield 86, 3) := by decide +kernel
theorem dX9_takeNext_71 : decode cX9_takeNext 71 = .ok (.bipush 10, 2) := by decide +kernel
theorem dX9_takeNext_73 : decode cX9_takeNext 73 = .ok (.iload_n 1, 1) := by decide +kernel
theorem dX9_takeNext_74 : decode cX9_takeNext 74 = .ok (.imul, 1) := by decide +kernel
theorem dX9_takeNext_75 : decode cX9_takeNext 75 = .ok (.iload_n 3, 1) := by decide +kernel
theorem dX9_takeNext_76 : decode cX9_takeNext 76 = .ok (.iadd, 1) := by decide +kernel
theorem dX9_takeNext_77 : decode cX9_takeNext 77 = .ok (.iaload, 1) := by decide +kernel
theorem dX9_takeNext_78 : decode cX9_takeNext 78 = .ok (.aload_n 0, 1) := by decide +kernel
theorem dX9_takeNext_79 : decode cX9_takeNext 79 = .ok (.getfield 71, 3) := by decide +kernel
theorem dX9_takeNext_82 : decode cX9_takeNext 82 = .ok (.bipush 10, 2) := by decide +kernel
theorem dX9_takeNext_84 : decode cX9_takeNext 84 = .ok (.iload_n 1, 1) := by decide +kernel
theorem dX9_takeNext_85 : decode cX9_takeNext 85 = .ok (.imul, 1) := by decide +kernel
theorem dX9_takeNext_86 : decode cX9_takeNext 86 = .ok (.iload_n 3, 1) := by decide +kernel
theorem dX9_takeNext_87 : decode cX9_takeNext 87 = .ok (.iadd, 1) := by decide +kernel
theorem dX9_takeNext_88 : decode cX9_takeNext 88 = .ok (.iaload, 1) := by decide +kernel
theorem dX9_takeNext_89 : decode cX9_takeNext 89 = .ok (.if_icmp .eq 7, 3) := by decide +kernel
theorem dX9_takeNext_92 : decode cX9_takeNext 92 = .ok (.iconst 1, 1) := by decide +kernel
theorem dX9_takeNext_93 : decode cX9_takeNext 93 = .ok (.goto 4, 3) := by decide +kernel
theorem dX9_takeNext_96 : decode cX9_takeNext 96 = .ok (.iconst 0, 1) := by decide +kernel
theorem dX9_takeNext_97 : decode cX9_takeNext 97 = .ok (.istore_n 2, 1) := by decide +kernel
theorem dX9_takeNext_98 : decode cX9_takeNext 98 = .ok (.aload_n 0, 1) := by decide +kernel
theorem dX9_takeNext_99 : decode cX9_takeNext 99 = .ok (.getfield 71, 3) := by decide +kernel
theorem dX9_takeNext_102 : decode cX9_takeNext 102 = .ok (.bipush 10, 2) := by decide +kernel
theorem dX9_takeNext_104 : decode cX9_takeNext 104 = .ok (.iload_n 1, 1) := by decide +kernel
theorem dX9_takeNext_105 : decode cX9_takeNext 105 = .ok (.imul, 1) := by decide +kernel
theorem dX9_takeNext_106 : decode cX9_takeNext 106 = .ok (.iload_n 3, 1) := by decide +kernel
theorem dX9_takeNext_107 : decode cX9_takeNext 107 = .ok (.iadd, 1) := by decide +kernel
theorem dX9_takeNext_108 : decode cX9_takeNext 108 = .ok (.aload_n 0, 1) := by decide +kernel
theorem dX9_takeNext_109 : decode cX9_takeNext 109 = .ok (.getfield 86, 3) := by decide +kernel
theorem dX9_takeNext_112 : decode cX9_takeNext 112 = .ok (.bipush 10, 2) := by decide +kernel
theorem dX9_takeNext_114 : decode cX9_takeNext 114 = .ok (.iload_n 1, 1) := by decide +kernel
theorem dX9_takeNext_115 : decode cX9_takeNext 115 = .ok (.imul, 1) := by decide +kernel
theorem dX9_takeNext_116 : decode cX9_takeNext 116 = .ok (.iload_n 3, 1) := by decide +kernel
theorem dX9_takeNext_117 : decode cX9_takeNext 117 = .ok (.iadd, 1) := by decide +kernel
theorem dX9_takeNext_118 : decode cX9_takeNext 118 = .ok (.iaload, 1) := by decide +kernel
theorem dX9_takeNext_119 : decode cX9_takeNext 119 = .ok (.iastore, 1) := by decide +kernel
theorem dX9_takeNext_120 : decode cX9_takeNext 120 = .ok (.iinc 3 1, 3) := by decide +kernel
theorem dX9_takeNext_123 : decode cX9_takeNext 123 = .ok (.goto (-70), 3) := by decide +kernel
theorem dX9_takeNext_126 : decode cX9_takeNext 126 = .ok (.aload_n 0, 1) := by decide +kernel
theorem dX9_takeNext_127 : decode cX9_takeNext 127 = .ok (.getfield 59, 3) := by decide +kernel
theorem dX9_takeNext_130 : decode cX9_takeNext 130 = .ok (.iload_n 1, 1) := by decide +kernel
theorem dX9_takeNext_131 : decode cX9_takeNext 131 = .ok (.aload_n 0, 1) := by decide +kernel
theorem dX9_takeNext_132 : decode cX9_takeNext 132 = .ok (.getfield 74, 3) := by decide +kernel
theorem dX9_takeNext_135 : decode cX9_takeNext 135 = .ok (.iload_n 1, 1) := by decide +kernel
theorem dX9_takeNext_136 : decode cX9_takeNext 136 = .ok (.iaload, 1) := by decide +kernel
theorem dX9_takeNext_137 : decode cX9_takeNext 137 = .ok (.iastore, 1) := by decide +kernel
theorem dX9_takeNext_138 : decode cX9_takeNext 138 = .ok (.aload_n 0, 1) := by decide +kernel
theorem dX9_takeNext_139 : decode cX9_takeNext 139 = .ok (.getfield 62, 3) := by decide +kernel
theorem dX9_takeNext_142 : decode cX9_takeNext 142 = .ok (.iload_n 1, 1) := by decide +kernel
theorem dX9_takeNext_143 : decode cX9_takeNext 143 = .ok (.aload_n 0, 1) := by decide +kernel
theorem dX9_takeNext_144 : decode cX9_takeNext 144 = .ok (.getfield 77, 3) := by decide +kernel
theorem dX9_takeNext_147 : decode cX9_takeNext 147 = .ok (.iload_n 1, 1) := by decide +kernel
theorem dX9_takeNext_148 : decode cX9_takeNext 148 = .ok (.iaload, 1) := by decide +kernel
theorem dX9_takeNext_149 : decode cX9_takeNext 149 = .ok (.iastore, 1) := by decide +kernel
theorem dX9_takeNext_150 : decode cX9_takeNext 150 = .ok (.aload_n 0, 1) := by decide +kernel
theorem dX9_takeNext_151 : decode cX9_takeNext 151 = .ok (.getfield 65, 3) := by decide +kernel
theorem dX9_takeNext_154 : decode cX9_takeNext 154 = .ok (.iload_n 1, 1) := by decide +kernel
theorem dX9_takeNext_155 : decode cX9_takeNext 155 = .ok (.aload_n 0, 1) := by decide +kernel
theorem dX9_takeNext_156 : decode cX9_takeNext 156 = .ok (.getfield 80, 3) := by decide +kernel
theorem dX9_takeNext_159 : decode cX9_takeNext 159 = .ok (.iload_n 1, 1) := by decide +kernel
theorem dX9_takeNext_160 : decode cX9_takeNext 160 = .ok (.iaload, 1) := by decide +kernel
theorem dX9_takeNext_161 : decode cX9_takeNext 161 = .ok (.iastore, 1) := by decide +kernel
theorem dX9_takeNext_162 : decode cX9_takeNext 162 = .ok (.aload_n 0, 1) := by decide +kernel
theorem dX9_takeNext_163 : decode cX9_takeNext 163 = .ok (.getfield 68, 3) := by decide +kernel
theorem dX9_takeNext_166 : decode cX9_takeNext 166 = .ok (.iload_n 1, 1) := by decide +kernel
theorem dX9_takeNext_167 : decode cX9_takeNext 167 = .ok (.aload_n 0, 1) := by decide +kernel
theorem dX9_takeNext_168 : decode cX9_takeNext 168 = .ok (.getfield 83, 3) := by decide +kernel
theorem dX9_takeNext_171 : decode cX9_takeNext 171 = .ok (.iload_n 1, 1) := by decide +kernel
theorem dX9_takeNext_172 : decode cX9_takeNext 172 = .ok (.iaload, 1) := by decide +kernel
theorem dX9_takeNext_173 : decode cX9_takeNext 173 = .ok (.iastore, 1) := by decide +kernel
theorem dX9_takeNext_174 : decode cX9_takeNext 174 = .ok (.iload_n 2, 1) := by decide +kernel
theorem dX9_takeNext_175 : decode cX9_takeNext 175 = .ok (.ireturn, 1) := by decide +kernel
theorem dX9_settle_0 : decode cX9_settle 0 = .ok (.aload_n 0, 1) := by decide +kernel
theorem dX9_settle_1 : decode cX9_settle 1 = .ok (.iconst 0, 1) := by decide +kernel
theorem dX9_settle_2 : decode cX9_settle 2 = .ok (.putfield 195, 3) := by decide +kernel
theorem dX9_settle_5 : decode cX9_settle 5 = .ok (.iconst 0, 1) := by decide +kernel
theorem dX9_settle_6 : decode cX9_settle 6 = .ok (.istore_n 1, 1) := by decide +kernel
theorem dX9_settle_7 : decode cX9_settle 7 = .ok (.iload_n 1, 1) := by decide +kernel
theorem dX9_settle_8 : decode cX9_settle 8 = .ok (.aload_n 0, 1) := by decide +kernel
theorem dX9_settle_9 : decode cX9_settle 9 = .ok (.getfield 132, 3) := by decide +kernel
theorem dX9_settle_12 : decode cX9_settle 12 = .ok (.if_icmp .ge 39, 3) := by decide +kernel
theorem dX9_settle_15 : decode cX9_settle 15 = .ok (.aload_n 0, 1) := by decide +kernel
theorem dX9_settle_16 : decode cX9_settle 16 = .ok (.getfield 59, 3) := by decide +kernel
theorem dX9_settle_19 : decode cX9_settle 19 = .ok (.iload_n 1, 1) := by decide +kernel
theorem dX9_settle_20 : decode cX9_settle 20 = .ok (.bipush (-9), 2) := by decide +kernel
theorem dX9_settle_22 : decode cX9_settle 22 = .ok (.iastore, 1) := by decide +kernel
theorem dX9_settle_23 : decode cX9_settle 23 = .ok (.aload_n 0, 1) := by decide +kernel
theorem dX9_settle_24 : decode cX9_settle 24 = .ok (.getfield 62, 3) := by decide +kernel
theorem dX9_settle_27 : decode cX9_settle 27 = .ok (.iload_n 1, 1) := by decide +kernel
theorem dX9_settle_28 : decode cX9_settle 28 = .ok (.iconst 0, 1) := by decide +kernel
theorem dX9_settle_29 : decode cX9_settle 29 = .ok (.iastore, 1) := by decide +kernel
theorem dX9_settle_30 : decode cX9_settle 30 = .ok (.aload_n 0, 1) := by decide +kernel
theorem dX9_settle_31 : decode cX9_settle 31 = .ok (.getfield 65, 3) := by decide +kernel
theorem dX9_settle_34 : decode cX9_settle 34 = .ok (.iload_n 1, 1) := by decide +kernel
theorem dX9_settle_35 : decode cX9_settle 35 = .ok (.bipush (-9), 2) := by decide +kernel
theorem dX9_settle_37 : decode cX9_settle 37 = .ok (.iastore, 1) := by decide +kernel
theorem dX9_settle_38 : decode cX9_settle 38 = .ok (.aload_n 0, 1) := by decide +kernel
theorem dX9_settle_39 : decode cX9_settle 39 = .ok (.getfield 68, 3) := by decide +kernel
theorem dX9_settle_42 : decode cX9_settle 42 = .ok (.iload_n 1, 1) := by decide +kernel
theorem dX9_settle_43 : decode cX9_settle 43 = .ok (.iconst 0, 1) := by decide +kernel
theorem dX9_settle_44 : decode cX9_settle 44 = .ok (.iastore, 1) := by decide +kernel
theorem dX9_settle_45 : decode cX9_settle 45 = .ok (.iinc 1 1, 3) := by decide +kernel
theorem dX9_settle_48 : decode cX9_settle 48 = .ok (.goto (-41), 3) := by decide +kernel
theorem dX9_settle_51 : decode cX9_settle 51 = .ok (.iconst 1, 1) := by decide +kernel
theorem dX9_settle_52 : decode cX9_settle 52 = .ok (.istore_n 1, 1) := by decide +kernel
theorem dX9_settle_53 : decode cX9_settle 53 = .ok (.iload_n 1, 1) := by decide +kernel
theorem dX9_settle_54 : decode cX9_settle 54 = .ok (.ifCond .eq 82, 3) := by decide +kernel
theorem dX9_settle_57 : decode cX9_settle 57 = .ok (.aload_n 0, 1) := by decide +kernel
theorem dX9_settle_58 : decode cX9_settle 58 = .ok (.getfield 195, 3) := by decide +kernel
theorem dX9_settle_61 : decode cX9_settle 61 = .ok (.bipush 40, 2) := by decide +kernel
theorem dX9_settle_63 : decode cX9_settle 63 = .ok (.if_icmp .gt 73, 3) := by decide +kernel
theorem dX9_settle_66 : decode cX9_settle 66 = .ok (.iconst 0, 1) := by decide +kernel
theorem dX9_settle_67 : decode cX9_settle 67 = .ok (.istore_n 1, 1) := by decide +kernel
theorem dX9_settle_68 : decode cX9_settle 68 = .ok (.iconst 0, 1) := by decide +kernel
theorem dX9_settle_69 : decode cX9_settle 69 = .ok (.istore_n 2, 1) := by decide +kernel
theorem dX9_settle_70 : decode cX9_settle 70 = .ok (.iload_n 2, 1) := by decide +kernel
theorem dX9_settle_71 : decode cX9_settle 71 = .ok (.aload_n 0, 1) := by decide +kernel
theorem dX9_settle_72 : decode cX9_settle 72 = .ok (.getfield 132, 3) := by decide +kernel
theorem dX9_settle_75 : decode cX9_settle 75 = .ok (.if_icmp .ge 14, 3) := by decide +kernel
theorem dX9_settle_78 : decode cX9_settle 78 = .ok (.aload_n 0, 1) := by decide +kernel
theorem dX9_settle_79 : decode cX9_settle 79 = .ok (.iload_n 2, 1) := by decide +kernel
theorem dX9_settle_80 : decode cX9_settle 80 = .ok (.invokevirtual 198, 3) := by decide +kernel
theorem dX9_settle_83 : decode cX9_settle 83 = .ok (.iinc 2 1, 3) := by decide +kernel
theorem dX9_settle_86 : decode cX9_settle 86 = .ok (.goto (-16), 3) := by decide +kernel
theorem dX9_settle_89 : decode cX9_settle 89 = .ok (.iconst 0, 1) := by decide +kernel
theorem dX9_settle_90 : decode cX9_settle 90 = .ok (.istore_n 2, 1) := by decide +kernel
theorem dX9_settle_91 : decode cX9_settle 91 = .ok (.iload_n 2, 1) := by decide +kernel
theorem dX9_settle_92 : decode cX9_settle 92 = .ok (.aload_n 0, 1) := by decide +kernel
theorem dX9_settle_93 : decode cX9_settle 93 = .ok (.getfield 132, 3) := by decide +kernel
theorem dX9_settle_96 : decode cX9_settle 96 = .ok (.if_icmp .ge 19, 3) := by decide +kernel
theorem dX9_settle_99 : decode cX9_settle 99 = .ok (.aload_n 0, 1) := by decide +kernel
theorem dX9_settle_100 : decode cX9_settle 100 = .ok (.iload_n 2, 1) := by decide +kernel
theorem dX9_settle_101 : decode cX9_settle 101 = .ok (.invokevirtual 202, 3) := by decide +kernel
theorem dX9_settle_104 : decode cX9_settle 104 = .ok (.ifCond .eq 5, 3) := by decide +kernel
theorem dX9_settle_107 : decode cX9_settle 107 = .ok (.iconst 1, 1) := by decide +kernel
theorem dX9_settle_108 : decode cX9_settle 108 = .ok (.istore_n 1, 1) := by decide +kernel
theorem dX9_settle_109 : decode cX9_settle 109 = .ok (.iinc 2 1, 3) := by decide +kernel
theorem dX9_settle_112 : decode cX9_settle 112 = .ok (.goto (-21), 3) := by decide +kernel
theorem dX9_settle_115 : decode cX9_settle 115 = .ok (.aload_n 0, 1) := by decide +kernel
theorem dX9_settle_116 : decode cX9_settle 116 = .ok (.dup, 1) := by decide +kernel
theorem dX9_settle_117 : decode cX9_settle 117 = .ok (.getfield 195, 3) := by decide +kernel
theorem dX9_settle_120 : decode cX9_settle 120 = .ok (.iload_n 1, 1) := by decide +kernel
theorem dX9_settle_121 : decode cX9_settle 121 = .ok (.ifCond .eq 7, 3) := by decide +kernel
theorem dX9_settle_124 : decode cX9_settle 124 = .ok (.iconst 1, 1) := by decide +kernel
theorem dX9_settle_125 : decode cX9_settle 125 = .ok (.goto 4, 3) := by decide +kernel
theorem dX9_settle_128 : decode cX9_settle 128 = .ok (.iconst 0, 1) := by decide +kernel
theorem dX9_settle_129 : decode cX9_settle 129 = .ok (.iadd, 1) := by decide +kernel
theorem dX9_settle_130 : decode cX9_settle 130 = .ok (.putfield 195, 3) := by decide +kernel
theorem dX9_settle_133 : decode cX9_settle 133 = .ok (.goto (-80), 3) := by decide +kernel
theorem dX9_settle_136 : decode cX9_settle 136 = .ok (.aload_n 0, 1) := by decide +kernel
theorem dX9_settle_137 : decode cX9_settle 137 = .ok (.aload_n 0, 1) := by decide +kernel
theorem dX9_settle_138 : decode cX9_settle 138 = .ok (.getfield 195, 3) := by decide +kernel
theorem dX9_settle_141 : decode cX9_settle 141 = .ok (.bipush 40, 2) := by decide +kernel
theorem dX9_settle_143 : decode cX9_settle 143 = .ok (.if_icmp .gt 7, 3) := by decide +kernel
theorem dX9_settle_146 : decode cX9_settle 146 = .ok (.iconst 1, 1) := by decide +kernel
theorem dX9_settle_147 : decode cX9_settle 147 = .ok (.goto 4, 3) := by decide +kernel
theorem dX9_settle_150 : decode cX9_settle 150 = .ok (.iconst 0, 1) := by decide +kernel
theorem dX9_settle_151 : decode cX9_settle 151 = .ok (.putfield 205, 3) := by decide +kernel
theorem dX9_settle_154 : decode cX9_settle 154 = .ok (.aload_n 0, 1) := by decide +kernel
theorem dX9_settle_155 : decode cX9_settle 155 = .ok (.getfield 205, 3) := by decide +kernel
theorem dX9_settle_158 : decode cX9_settle 158 = .ok (.ireturn, 1) := by decide +kernel
theorem dX9_settleNow_0 : decode cX9_settleNow 0 = .ok (.aload_n 0, 1) := by decide +kernel
theorem dX9_settleNow_1 : decode cX9_settleNow 1 = .ok (.invokevirtual 209, 3) := by decide +kernel
theorem dX9_settleNow_4 : decode cX9_settleNow 4 = .ok (.aload_n 0, 1) := by decide +kernel
theorem dX9_settleNow_5 : decode cX9_settleNow 5 = .ok (.invokevirtual 212, 3) := by decide +kernel
theorem dX9_settleNow_8 : decode cX9_settleNow 8 = .ok (.ireturn, 1) := by decide +kernel
theorem dX9_rounds_0 : decode cX9_rounds 0 = .ok (.aload_n 0, 1) := by decide +kernel
theorem dX9_rounds_1 : decode cX9_rounds 1 = .ok (.invokevirtual 216, 3) := by decide +kernel
theorem dX9_rounds_4 : decode cX9_rounds 4 = .ok (.ifCond .eq 10, 3) := by decide +kernel
theorem dX9_rounds_7 : decode cX9_rounds 7 = .ok (.aload_n 0, 1) := by decide +kernel
theorem dX9_rounds_8 : decode cX9_rounds 8 = .ok (.getfield 195, 3) := by decide +kernel
theorem dX9_rounds_11 : decode cX9_rounds 11 = .ok (.goto 5, 3) := by decide +kernel
theorem dX9_rounds_14 : decode cX9_rounds 14 = .ok (.bipush (-9), 2) := by decide +kernel
theorem dX9_rounds_16 : decode cX9_rounds 16 = .ok (.ireturn, 1) := by decide +kernel
theorem dX9_comes_0 : decode cX9_comes 0 = .ok (.aload_n 0, 1) := by decide +kernel
theorem dX9_comes_1 : decode cX9_comes 1 = .ok (.iload_n 1, 1) := by decide +kernel
theorem dX9_comes_2 : decode cX9_comes 2 = .ok (.invokevirtual 145, 3) := by decide +kernel
theorem dX9_comes_5 : decode cX9_comes 5 = .ok (.ifCond .ne 5, 3) := by decide +kernel
theorem dX9_comes_8 : decode cX9_comes 8 = .ok (.iconst (-1), 1) := by decide +kernel
theorem dX9_comes_9 : decode cX9_comes 9 = .ok (.ireturn, 1) := by decide +kernel
theorem dX9_comes_10 : decode cX9_comes 10 = .ok (.aload_n 0, 1) := by decide +kernel
theorem dX9_comes_11 : decode cX9_comes 11 = .ok (.invokevirtual 216, 3) := by decide +kernel
theorem dX9_comes_14 : decode cX9_comes 14 = .ok (.ifCond .eq 12, 3) := by decide +kernel
theorem dX9_comes_17 : decode cX9_comes 17 = .ok (.aload_n 0, 1) := by decide +kernel
theorem dX9_comes_18 : decode cX9_comes 18 = .ok (.getfield 59, 3) := by decide +kernel
theorem dX9_comes_21 : decode cX9_comes 21 = .ok (.iload_n 1, 1) := by decide +kernel
theorem dX9_comes_22 : decode cX9_comes 22 = .ok (.iaload, 1) := by decide +kernel
theorem dX9_comes_23 : decode cX9_comes 23 = .ok (.goto 5, 3) := by decide +kernel
theorem dX9_comes_26 : decode cX9_comes 26 = .ok (.bipush (-3), 2) := by decide +kernel
theorem dX9_comes_28 : decode cX9_comes 28 = .ok (.ireturn, 1) := by decide +kernel
theorem dX9_names_0 : decode cX9_names 0 = .ok (.aload_n 0, 1) := by decide +kernel
theorem dX9_names_1 : decode cX9_names 1 = .ok (.iload_n 1, 1) := by decide +kernel
theorem dX9_names_2 : decode cX9_names 2 = .ok (.invokevirtual 145, 3) := by decide +kernel
theorem dX9_names_5 : decode cX9_names 5 = .ok (.ifCond .ne 5, 3) := by decide +kernel
theorem dX9_names_8 : decode cX9_names 8 = .ok (.iconst (-1), 1) := by decide +kernel
theorem dX9_names_9 : decode cX9_names 9 = .ok (.ireturn, 1) := by decide +kernel
theorem dX9_names_10 : decode cX9_names 10 = .ok (.aload_n 0, 1) := by decide +kernel
theorem dX9_names_11 : decode cX9_names 11 = .ok (.invokevirtual 216, 3) := by decide +kernel
theorem dX9_names_14 : decode cX9_names 14 = .ok (.ifCond .eq 12, 3) := by decide +kernel
theorem dX9_names_17 : decode cX9_names 17 = .ok (.aload_n 0, 1) := by decide +kernel
theorem dX9_names_18 : decode cX9_names 18 = .ok (.getfield 62, 3) := by decide +kernel
theorem dX9_names_21 : decode cX9_names 21 = .ok (.iload_n 1, 1) := by decide +kernel
theorem dX9_names_22 : decode cX9_names 22 = .ok (.iaload, 1) := by decide +kernel
theorem dX9_names_23 : decode cX9_names 23 = .ok (.goto 5, 3) := by decide +kernel
theorem dX9_names_26 : decode cX9_names 26 = .ok (.bipush (-3), 2) := by decide +kernel
theorem dX9_names_28 : decode cX9_names 28 = .ok (.ireturn, 1) := by decide +kernel
theorem dX9_way_0 : decode cX9_way 0 = .ok (.aload_n 0, 1) := by decide +kernel
theorem dX9_way_1 : decode cX9_way 1 = .ok (.iload_n 1, 1) := by decide +kernel
theorem dX9_way_2 : decode cX9_way 2 = .ok (.invokevirtual 145, 3) := by decide +kernel
theorem dX9_way_5 : decode cX9_way 5 = .ok (.ifCond .ne 5, 3) := by decide +kernel
theorem dX9_way_8 : decode cX9_way 8 = .ok (.iconst (-1), 1) := by decide +kernel
theorem dX9_way_9 : decode cX9_way 9 = .ok (.ireturn, 1) := by decide +kernel
theorem dX9_way_10 : decode cX9_way 10 = .ok (.aload_n 0, 1) := by decide +kernel
theorem dX9_way_11 : decode cX9_way 11 = .ok (.invokevirtual 216, 3) := by decide +kernel
theorem dX9_way_14 : decode cX9_way 14 = .ok (.ifCond .ne 8, 3) := by decide +kernel
theorem dX9_way_17 : decode cX9_way 17 = .ok (.bipush (-3), 2) := by decide +kernel
theorem dX9_way_19 : decode cX9_way 19 = .ok (.goto 37, 3) := by decide +kernel
theorem dX9_way_22 : decode cX9_way 22 = .ok (.iload_n 2, 1) := by decide +kernel
theorem dX9_way_23 : decode cX9_way 23 = .ok (.i2l, 1) := by decide +kernel
theorem dX9_way_24 : decode cX9_way 24 = .ok (.lconst 0, 1) := by decide +kernel
theorem dX9_way_25 : decode cX9_way 25 = .ok (.aload_n 0, 1) := by decide +kernel
theorem dX9_way_26 : decode cX9_way 26 = .ok (.getfield 68, 3) := by decide +kernel
theorem dX9_way_29 : decode cX9_way 29 = .ok (.iload_n 1, 1) := by decide +kernel
theorem dX9_way_30 : decode cX9_way 30 = .ok (.iaload, 1) := by decide +kernel
theorem dX9_way_31 : decode cX9_way 31 = .ok (.iconst 1, 1) := by decide +kernel
theorem dX9_way_32 : decode cX9_way 32 = .ok (.isub, 1) := by decide +kernel
theorem dX9_way_33 : decode cX9_way 33 = .ok (.i2l, 1) := by decide +kernel
theorem dX9_way_34 : decode cX9_way 34 = .ok (.invokestatic 136, 3) := by decide +kernel
theorem dX9_way_37 : decode cX9_way 37 = .ok (.ifCond .eq 17, 3) := by decide +kernel
theorem dX9_way_40 : decode cX9_way 40 = .ok (.aload_n 0, 1) := by decide +kernel
theorem dX9_way_41 : decode cX9_way 41 = .ok (.getfield 71, 3) := by decide +kernel
theorem dX9_way_44 : decode cX9_way 44 = .ok (.bipush 10, 2) := by decide +kernel
theorem dX9_way_46 : decode cX9_way 46 = .ok (.iload_n 1, 1) := by decide +kernel
theorem dX9_way_47 : decode cX9_way 47 = .ok (.imul, 1) := by decide +kernel
theorem dX9_way_48 : decode cX9_way 48 = .ok (.iload_n 2, 1) := by decide +kernel
theorem dX9_way_49 : decode cX9_way 49 = .ok (.iadd, 1) := by decide +kernel
theorem dX9_way_50 : decode cX9_way 50 = .ok (.iaload, 1) := by decide +kernel
theorem dX9_way_51 : decode cX9_way 51 = .ok (.goto 5, 3) := by decide +kernel
theorem dX9_way_54 : decode cX9_way 54 = .ok (.bipush (-9), 2) := by decide +kernel
theorem dX9_way_56 : decode cX9_way 56 = .ok (.ireturn, 1) := by decide +kernel
theorem dX9_come_0 : decode cX9_come 0 = .ok (.iconst 0, 1) := by decide +kernel
theorem dX9_come_1 : decode cX9_come 1 = .ok (.istore_n 2, 1) := by decide +kernel
theorem dX9_come_2 : decode cX9_come 2 = .ok (.iconst 0, 1) := by decide +kernel
theorem dX9_come_3 : decode cX9_come 3 = .ok (.istore_n 3, 1) := by decide +kernel
theorem dX9_come_4 : decode cX9_come 4 = .ok (.iload_n 3, 1) := by decide +kernel
theorem dX9_come_5 : decode cX9_come 5 = .ok (.iconst 4, 1) := by decide +kernel
theorem dX9_come_6 : decode cX9_come 6 = .ok (.if_icmp .ge 26, 3) := by decide +kernel
theorem dX9_come_9 : decode cX9_come 9 = .ok (.iload_n 2, 1) := by decide +kernel
theorem dX9_come_10 : decode cX9_come 10 = .ok (.aload_n 0, 1) := by decide +kernel
theorem dX9_come_11 : decode cX9_come 11 = .ok (.iload_n 3, 1) := by decide +kernel
theorem dX9_come_12 : decode cX9_come 12 = .ok (.iload_n 1, 1) := by decide +kernel
theorem dX9_come_13 : decode cX9_come 13 = .ok (.invokevirtual 182, 3) := by decide +kernel
theorem dX9_come_16 : decode cX9_come 16 = .ok (.ifCond .eq 7, 3) := by decide +kernel
theorem dX9_come_19 : decode cX9_come 19 = .ok (.iconst 1, 1) := by decide +kernel
theorem dX9_come_20 : decode cX9_come 20 = .ok (.goto 4, 3) := by decide +kernel
theorem dX9_come_23 : decode cX9_come 23 = .ok (.iconst 0, 1) := by decide +kernel
theorem dX9_come_24 : decode cX9_come 24 = .ok (.iadd, 1) := by decide +kernel
theorem dX9_come_25 : decode cX9_come 25 = .ok (.istore_n 2, 1) := by decide +kernel
theorem dX9_come_26 : decode cX9_come 26 = .ok (.iinc 3 1, 3) := by decide +kernel
theorem dX9_come_29 : decode cX9_come 29 = .ok (.goto (-25), 3) := by decide +kernel
theorem dX9_come_32 : decode cX9_come 32 = .ok (.iconst 0, 1) := by decide +kernel
theorem dX9_come_33 : decode cX9_come 33 = .ok (.istore_n 3, 1) := by decide +kernel
theorem dX9_come_34 : decode cX9_come 34 = .ok (.iload_n 3, 1) := by decide +kernel
theorem dX9_come_35 : decode cX9_come 35 = .ok (.aload_n 0, 1) := by decide +kernel
theorem dX9_come_36 : decode cX9_come 36 = .ok (.getfield 132, 3) := by decide +kernel
theorem dX9_come_39 : decode cX9_come 39 = .ok (.if_icmp .ge 31, 3) := by decide +kernel
theorem dX9_come_42 : decode cX9_come 42 = .ok (.iload_n 2, 1) := by decide +kernel
theorem dX9_come_43 : decode cX9_come 43 = .ok (.iload_n 3, 1) := by decide +kernel
theorem dX9_come_44 : decode cX9_come 44 = .ok (.iload_n 1, 1) := by decide +kernel
theorem dX9_come_45 : decode cX9_come 45 = .ok (.if_icmp .eq 16, 3) := by decide +kernel
theorem dX9_come_48 : decode cX9_come 48 = .ok (.aload_n 0, 1) := by decide +kernel
theorem dX9_come_49 : decode cX9_come 49 = .ok (.iload_n 3, 1) := by decide +kernel
theorem dX9_come_50 : decode cX9_come 50 = .ok (.iload_n 1, 1) := by decide +kernel
theorem dX9_come_51 : decode cX9_come 51 = .ok (.invokevirtual 189, 3) := by decide +kernel
theorem dX9_come_54 : decode cX9_come 54 = .ok (.ifCond .eq 7, 3) := by decide +kernel
theorem dX9_come_57 : decode cX9_come 57 = .ok (.iconst 1, 1) := by decide +kernel
theorem dX9_come_58 : decode cX9_come 58 = .ok (.goto 4, 3) := by decide +kernel
theorem dX9_come_61 : decode cX9_come 61 = .ok (.iconst 0, 1) := by decide +kernel
theorem dX9_come_62 : decode cX9_come 62 = .ok (.iadd, 1) := by decide +kernel
theorem dX9_come_63 : decode cX9_come 63 = .ok (.istore_n 2, 1) := by decide +kernel
theorem dX9_come_64 : decode cX9_come 64 = .ok (.iinc 3 1, 3) := by decide +kernel
theorem dX9_come_67 : decode cX9_come 67 = .ok (.goto (-33), 3) := by decide +kernel
theorem dX9_come_70 : decode cX9_come 70 = .ok (.iload_n 2, 1) := by decide +kernel
theorem dX9_come_71 : decode cX9_come 71 = .ok (.ireturn, 1) := by decide +kernel
theorem dX9_told_0 : decode cX9_told 0 = .ok (.aload_n 0, 1) := by decide +kernel
theorem dX9_told_1 : decode cX9_told 1 = .ok (.iload_n 1, 1) := by decide +kernel
theorem dX9_told_2 : decode cX9_told 2 = .ok (.invokevirtual 145, 3) := by decide +kernel
theorem dX9_told_5 : decode cX9_told 5 = .ok (.ifCond .ne 5, 3) := by decide +kernel
theorem dX9_told_8 : decode cX9_told 8 = .ok (.iconst (-1), 1) := by decide +kernel
theorem dX9_told_9 : decode cX9_told 9 = .ok (.ireturn, 1) := by decide +kernel
theorem dX9_told_10 : decode cX9_told 10 = .ok (.aload_n 0, 1) := by decide +kernel
theorem dX9_told_11 : decode cX9_told 11 = .ok (.invokevirtual 216, 3) := by decide +kernel
theorem dX9_told_14 : decode cX9_told 14 = .ok (.ifCond .eq 11, 3) := by decide +kernel
theorem dX9_told_17 : decode cX9_told 17 = .ok (.aload_n 0, 1) := by decide +kernel
theorem dX9_told_18 : decode cX9_told 18 = .ok (.iload_n 1, 1) := by decide +kernel
theorem dX9_told_19 : decode cX9_told 19 = .ok (.invokevirtual 219, 3) := by decide +kernel
theorem dX9_told_22 : decode cX9_told 22 = .ok (.goto 5, 3) := by decide +kernel
theorem dX9_told_25 : decode cX9_told 25 = .ok (.bipush (-3), 2) := by decide +kernel
theorem dX9_told_27 : decode cX9_told 27 = .ok (.ireturn, 1) := by decide +kernel
theorem dX9_alike_0 : decode cX9_alike 0 = .ok (.iconst 0, 1) := by decide +kernel
theorem dX9_alike_1 : decode cX9_alike 1 = .ok (.istore_n 3, 1) := by decide +kernel
theorem dX9_alike_2 : decode cX9_alike 2 = .ok (.iconst 0, 1) := by decide +kernel
theorem dX9_alike_3 : decode cX9_alike 3 = .ok (.istore 4, 2) := by decide +kernel
theorem dX9_alike_5 : decode cX9_alike 5 = .ok (.iload 4, 2) := by decide +kernel
theorem dX9_alike_7 : decode cX9_alike 7 = .ok (.bipush 20, 2) := by decide +kernel
theorem dX9_alike_9 : decode cX9_alike 9 = .ok (.if_icmp .ge 139, 3) := by decide +kernel
theorem dX9_alike_12 : decode cX9_alike 12 = .ok (.iload 4, 2) := by decide +kernel
theorem dX9_alike_14 : decode cX9_alike 14 = .ok (.bipush 16, 2) := by decide +kernel
theorem dX9_alike_16 : decode cX9_alike 16 = .ok (.if_icmp .ge 36, 3) := by decide +kernel
theorem dX9_alike_19 : decode cX9_alike 19 = .ok (.iload 4, 2) := by decide +kernel
theorem dX9_alike_21 : decode cX9_alike 21 = .ok (.aload_n 0, 1) := by decide +kernel
theorem dX9_alike_22 : decode cX9_alike 22 = .ok (.getfield 132, 3) := by decide +kernel
theorem dX9_alike_25 : decode cX9_alike 25 = .ok (.if_icmp .ge 23, 3) := by decide +kernel
theorem dX9_alike_28 : decode cX9_alike 28 = .ok (.iload 4, 2) := by decide +kernel
theorem dX9_alike_30 : decode cX9_alike 30 = .ok (.iload_n 1, 1) := by decide +kernel
theorem dX9_alike_31 : decode cX9_alike 31 = .ok (.if_icmp .eq 17, 3) := by decide +kernel
theorem dX9_alike_34 : decode cX9_alike 34 = .ok (.aload_n 0, 1) := by decide +kernel
theorem dX9_alike_35 : decode cX9_alike 35 = .ok (.iload 4, 2) := by decide +kernel
theorem dX9_alike_37 : decode cX9_alike 37 = .ok (.iload_n 1, 1) := by decide +kernel
theorem dX9_alike_38 : decode cX9_alike 38 = .ok (.invokevirtual 189, 3) := by decide +kernel
theorem dX9_alike_41 : decode cX9_alike 41 = .ok (.ifCond .eq 7, 3) := by decide +kernel
theorem dX9_alike_44 : decode cX9_alike 44 = .ok (.iconst 1, 1) := by decide +kernel
theorem dX9_alike_45 : decode cX9_alike 45 = .ok (.goto 17, 3) := by decide +kernel
theorem dX9_alike_48 : decode cX9_alike 48 = .ok (.iconst 0, 1) := by decide +kernel
theorem dX9_alike_49 : decode cX9_alike 49 = .ok (.goto 13, 3) := by decide +kernel
theorem dX9_alike_52 : decode cX9_alike 52 = .ok (.aload_n 0, 1) := by decide +kernel
theorem dX9_alike_53 : decode cX9_alike 53 = .ok (.iload 4, 2) := by decide +kernel
theorem dX9_alike_55 : decode cX9_alike 55 = .ok (.bipush 16, 2) := by decide +kernel
theorem dX9_alike_57 : decode cX9_alike 57 = .ok (.isub, 1) := by decide +kernel
theorem dX9_alike_58 : decode cX9_alike 58 = .ok (.iload_n 1, 1) := by decide +kernel
theorem dX9_alike_59 : decode cX9_alike 59 = .ok (.invokevirtual 182, 3) := by decide +kernel
theorem dX9_alike_62 : decode cX9_alike 62 = .ok (.istore 5, 2) := by decide +kernel
theorem dX9_alike_64 : decode cX9_alike 64 = .ok (.iconst 0, 1) := by decide +kernel
theorem dX9_alike_65 : decode cX9_alike 65 = .ok (.istore 6, 2) := by decide +kernel
theorem dX9_alike_67 : decode cX9_alike 67 = .ok (.iload 6, 2) := by decide +kernel
theorem dX9_alike_69 : decode cX9_alike 69 = .ok (.iload_n 2, 1) := by decide +kernel
theorem dX9_alike_70 : decode cX9_alike 70 = .ok (.if_icmp .ge 59, 3) := by decide +kernel
theorem dX9_alike_73 : decode cX9_alike 73 = .ok (.iload 5, 2) := by decide +kernel
theorem dX9_alike_75 : decode cX9_alike 75 = .ok (.ifCond .eq 54, 3) := by decide +kernel
theorem dX9_alike_78 : decode cX9_alike 78 = .ok (.aload_n 0, 1) := by decide +kernel
theorem dX9_alike_79 : decode cX9_alike 79 = .ok (.getfield 56, 3) := by decide +kernel
theorem dX9_alike_82 : decode cX9_alike 82 = .ok (.iload_n 1, 1) := by decide +kernel
theorem dX9_alike_83 : decode cX9_alike 83 = .ok (.iaload, 1) := by decide +kernel
theorem dX9_alike_84 : decode cX9_alike 84 = .ok (.iload 6, 2) := by decide +kernel
theorem dX9_alike_86 : decode cX9_alike 86 = .ok (.invokestatic 174, 3) := by decide +kernel
theorem dX9_alike_89 : decode cX9_alike 89 = .ok (.istore 7, 2) := by decide +kernel
theorem dX9_alike_91 : decode cX9_alike 91 = .ok (.aload_n 0, 1) := by decide +kernel
theorem dX9_alike_92 : decode cX9_alike 92 = .ok (.iload_n 1, 1) := by decide +kernel
theorem dX9_alike_93 : decode cX9_alike 93 = .ok (.iload 4, 2) := by decide +kernel
theorem dX9_alike_95 : decode cX9_alike 95 = .ok (.iload 7, 2) := by decide +kernel
theorem dX9_alike_97 : decode cX9_alike 97 = .ok (.invokevirtual 178, 3) := by decide +kernel
theorem dX9_alike_100 : decode cX9_alike 100 = .ok (.aload_n 0, 1) := by decide +kernel
theorem dX9_alike_101 : decode cX9_alike 101 = .ok (.iload_n 1, 1) := by decide +kernel
theorem dX9_alike_102 : decode cX9_alike 102 = .ok (.aload_n 0, 1) := by decide +kernel
theorem dX9_alike_103 : decode cX9_alike 103 = .ok (.getfield 65, 3) := by decide +kernel
theorem dX9_alike_106 : decode cX9_alike 106 = .ok (.iload_n 1, 1) := by decide +kernel
theorem dX9_alike_107 : decode cX9_alike 107 = .ok (.iaload, 1) := by decide +kernel
theorem dX9_alike_108 : decode cX9_alike 108 = .ok (.iload 7, 2) := by decide +kernel
theorem dX9_alike_110 : decode cX9_alike 110 = .ok (.invokevirtual 178, 3) := by decide +kernel
theorem dX9_alike_113 : decode cX9_alike 113 = .ok (.if_icmp .ne 7, 3) := by decide +kernel
theorem dX9_alike_116 : decode cX9_alike 116 = .ok (.iconst 1, 1) := by decide +kernel
theorem dX9_alike_117 : decode cX9_alike 117 = .ok (.goto 4, 3) := by decide +kernel
theorem dX9_alike_120 : decode cX9_alike 120 = .ok (.iconst 0, 1) := by decide +kernel
theorem dX9_alike_121 : decode cX9_alike 121 = .ok (.istore 5, 2) := by decide +kernel
theorem dX9_alike_123 : decode cX9_alike 123 = .ok (.iinc 6 1, 3) := by decide +kernel
theorem dX9_alike_126 : decode cX9_alike 126 = .ok (.goto (-59), 3) := by decide +kernel
theorem dX9_alike_129 : decode cX9_alike 129 = .ok (.iload_n 3, 1) := by decide +kernel
theorem dX9_alike_130 : decode cX9_alike 130 = .ok (.iload 5, 2) := by decide +kernel
theorem dX9_alike_132 : decode cX9_alike 132 = .ok (.ifCond .eq 7, 3) := by decide +kernel
theorem dX9_alike_135 : decode cX9_alike 135 = .ok (.iconst 1, 1) := by decide +kernel
theorem dX9_alike_136 : decode cX9_alike 136 = .ok (.goto 4, 3) := by decide +kernel
theorem dX9_alike_139 : decode cX9_alike 139 = .ok (.iconst 0, 1) := by decide +kernel
theorem dX9_alike_140 : decode cX9_alike 140 = .ok (.iadd, 1) := by decide +kernel
theorem dX9_alike_141 : decode cX9_alike 141 = .ok (.istore_n 3, 1) := by decide +kernel
theorem dX9_alike_142 : decode cX9_alike 142 = .ok (.iinc 4 1, 3) := by decide +kernel
theorem dX9_alike_145 : decode cX9_alike 145 = .ok (.goto (-140), 3) := by decide +kernel
theorem dX9_alike_148 : decode cX9_alike 148 = .ok (.iload_n 3, 1) := by decide +kernel
theorem dX9_alike_149 : decode cX9_alike 149 = .ok (.ireturn, 1) := by decide +kernel
theorem dX9_why_0 : decode cX9_why 0 = .ok (.aload_n 0, 1) := by decide +kernel
theorem dX9_why_1 : decode cX9_why 1 = .ok (.iload_n 1, 1) := by decide +kernel
theorem dX9_why_2 : decode cX9_why 2 = .ok (.invokevirtual 145, 3) := by decide +kernel
theorem dX9_why_5 : decode cX9_why 5 = .ok (.ifCond .ne 5, 3) := by decide +kernel
theorem dX9_why_8 : decode cX9_why 8 = .ok (.iconst (-1), 1) := by decide +kernel
theorem dX9_why_9 : decode cX9_why 9 = .ok (.ireturn, 1) := by decide +kernel
theorem dX9_why_10 : decode cX9_why 10 = .ok (.aload_n 0, 1) := by decide +kernel
theorem dX9_why_11 : decode cX9_why 11 = .ok (.invokevirtual 216, 3) := by decide +kernel
theorem dX9_why_14 : decode cX9_why 14 = .ok (.ifCond .ne 6, 3) := by decide +kernel
theorem dX9_why_17 : decode cX9_why 17 = .ok (.bipush (-3), 2) := by decide +kernel
theorem dX9_why_19 : decode cX9_why 19 = .ok (.ireturn, 1) := by decide +kernel
theorem dX9_why_20 : decode cX9_why 20 = .ok (.aload_n 0, 1) := by decide +kernel
theorem dX9_why_21 : decode cX9_why 21 = .ok (.getfield 59, 3) := by decide +kernel
theorem dX9_why_24 : decode cX9_why 24 = .ok (.iload_n 1, 1) := by decide +kernel
theorem dX9_why_25 : decode cX9_why 25 = .ok (.iaload, 1) := by decide +kernel
theorem dX9_why_26 : decode cX9_why 26 = .ok (.bipush (-9), 2) := by decide +kernel
theorem dX9_why_28 : decode cX9_why 28 = .ok (.if_icmp .ne 6, 3) := by decide +kernel
theorem dX9_why_31 : decode cX9_why 31 = .ok (.bipush (-9), 2) := by decide +kernel
theorem dX9_why_33 : decode cX9_why 33 = .ok (.ireturn, 1) := by decide +kernel
theorem dX9_why_34 : decode cX9_why 34 = .ok (.iconst 0, 1) := by decide +kernel
theorem dX9_why_35 : decode cX9_why 35 = .ok (.istore_n 2, 1) := by decide +kernel
theorem dX9_why_36 : decode cX9_why 36 = .ok (.aload_n 0, 1) := by decide +kernel
theorem dX9_why_37 : decode cX9_why 37 = .ok (.iload_n 1, 1) := by decide +kernel
theorem dX9_why_38 : decode cX9_why 38 = .ok (.iload_n 2, 1) := by decide +kernel
theorem dX9_why_39 : decode cX9_why 39 = .ok (.invokevirtual 222, 3) := by decide +kernel
theorem dX9_why_42 : decode cX9_why 42 = .ok (.iconst 1, 1) := by decide +kernel
theorem dX9_why_43 : decode cX9_why 43 = .ok (.if_icmp .le 9, 3) := by decide +kernel
theorem dX9_why_46 : decode cX9_why 46 = .ok (.iinc 2 1, 3) := by decide +kernel
theorem dX9_why_49 : decode cX9_why 49 = .ok (.goto (-13), 3) := by decide +kernel
theorem dX9_why_52 : decode cX9_why 52 = .ok (.iload_n 2, 1) := by decide +kernel
theorem dX9_why_53 : decode cX9_why 53 = .ok (.ifCond .ne 7, 3) := by decide +kernel
theorem dX9_why_56 : decode cX9_why 56 = .ok (.iconst 0, 1) := by decide +kernel
theorem dX9_why_57 : decode cX9_why 57 = .ok (.goto 15, 3) := by decide +kernel
theorem dX9_why_60 : decode cX9_why 60 = .ok (.aload_n 0, 1) := by decide +kernel
theorem dX9_why_61 : decode cX9_why 61 = .ok (.getfield 56, 3) := by decide +kernel
theorem dX9_why_64 : decode cX9_why 64 = .ok (.iload_n 1, 1) := by decide +kernel
theorem dX9_why_65 : decode cX9_why 65 = .ok (.iaload, 1) := by decide +kernel
theorem dX9_why_66 : decode cX9_why 66 = .ok (.iload_n 2, 1) := by decide +kernel
theorem dX9_why_67 : decode cX9_why 67 = .ok (.iconst 1, 1) := by decide +kernel
theorem dX9_why_68 : decode cX9_why 68 = .ok (.isub, 1) := by decide +kernel
theorem dX9_why_69 : decode cX9_why 69 = .ok (.invokestatic 174, 3) := by decide +kernel
theorem dX9_why_72 : decode cX9_why 72 = .ok (.ireturn, 1) := by decide +kernel
theorem dX9_loadOf_0 : decode cX9_loadOf 0 = .ok (.iconst 0, 1) := by decide +kernel
theorem dX9_loadOf_1 : decode cX9_loadOf 1 = .ok (.istore_n 2, 1) := by decide +kernel
theorem dX9_loadOf_2 : decode cX9_loadOf 2 = .ok (.iconst 0, 1) := by decide +kernel
theorem dX9_loadOf_3 : decode cX9_loadOf 3 = .ok (.istore_n 3, 1) := by decide +kernel
theorem dX9_loadOf_4 : decode cX9_loadOf 4 = .ok (.iload_n 3, 1) := by decide +kernel
theorem dX9_loadOf_5 : decode cX9_loadOf 5 = .ok (.aload_n 0, 1) := by decide +kernel
theorem dX9_loadOf_6 : decode cX9_loadOf 6 = .ok (.getfield 132, 3) := by decide +kernel
theorem dX9_loadOf_9 : decode cX9_loadOf 9 = .ok (.if_icmp .ge 32, 3) := by decide +kernel
theorem dX9_loadOf_12 : decode cX9_loadOf 12 = .ok (.iload_n 2, 1) := by decide +kernel
theorem dX9_loadOf_13 : decode cX9_loadOf 13 = .ok (.aload_n 0, 1) := by decide +kernel
theorem dX9_loadOf_14 : decode cX9_loadOf 14 = .ok (.getfield 59, 3) := by decide +kernel
theorem dX9_loadOf_17 : decode cX9_loadOf 17 = .ok (.iload_n 3, 1) := by decide +kernel
theorem dX9_loadOf_18 : decode cX9_loadOf 18 = .ok (.iaload, 1) := by decide +kernel
theorem dX9_loadOf_19 : decode cX9_loadOf 19 = .ok (.iload_n 1, 1) := by decide +kernel
theorem dX9_loadOf_20 : decode cX9_loadOf 20 = .ok (.if_icmp .ne 12, 3) := by decide +kernel
theorem dX9_loadOf_23 : decode cX9_loadOf 23 = .ok (.aload_n 0, 1) := by decide +kernel
theorem dX9_loadOf_24 : decode cX9_loadOf 24 = .ok (.getfield 13, 3) := by decide +kernel
theorem dX9_loadOf_27 : decode cX9_loadOf 27 = .ok (.iload_n 3, 1) := by decide +kernel
theorem dX9_loadOf_28 : decode cX9_loadOf 28 = .ok (.iaload, 1) := by decide +kernel
theorem dX9_loadOf_29 : decode cX9_loadOf 29 = .ok (.goto 4, 3) := by decide +kernel
theorem dX9_loadOf_32 : decode cX9_loadOf 32 = .ok (.iconst 0, 1) := by decide +kernel
theorem dX9_loadOf_33 : decode cX9_loadOf 33 = .ok (.iadd, 1) := by decide +kernel
theorem dX9_loadOf_34 : decode cX9_loadOf 34 = .ok (.istore_n 2, 1) := by decide +kernel
theorem dX9_loadOf_35 : decode cX9_loadOf 35 = .ok (.iinc 3 1, 3) := by decide +kernel
theorem dX9_loadOf_38 : decode cX9_loadOf 38 = .ok (.goto (-34), 3) := by decide +kernel
theorem dX9_loadOf_41 : decode cX9_loadOf 41 = .ok (.iload_n 2, 1) := by decide +kernel
theorem dX9_loadOf_42 : decode cX9_loadOf 42 = .ok (.ireturn, 1) := by decide +kernel
theorem dX9_excessOf_0 : decode cX9_excessOf 0 = .ok (.iconst 0, 1) := by decide +kernel
theorem dX9_excessOf_1 : decode cX9_excessOf 1 = .ok (.istore_n 1, 1) := by decide +kernel
theorem dX9_excessOf_2 : decode cX9_excessOf 2 = .ok (.iconst 0, 1) := by decide +kernel
theorem dX9_excessOf_3 : decode cX9_excessOf 3 = .ok (.istore_n 2, 1) := by decide +kernel
theorem dX9_excessOf_4 : decode cX9_excessOf 4 = .ok (.iload_n 2, 1) := by decide +kernel
theorem dX9_excessOf_5 : decode cX9_excessOf 5 = .ok (.aload_n 0, 1) := by decide +kernel
theorem dX9_excessOf_6 : decode cX9_excessOf 6 = .ok (.getfield 140, 3) := by decide +kernel
theorem dX9_excessOf_9 : decode cX9_excessOf 9 = .ok (.if_icmp .ge 34, 3) := by decide +kernel
theorem dX9_excessOf_12 : decode cX9_excessOf 12 = .ok (.aload_n 0, 1) := by decide +kernel
theorem dX9_excessOf_13 : decode cX9_excessOf 13 = .ok (.iload_n 2, 1) := by decide +kernel
theorem dX9_excessOf_14 : decode cX9_excessOf 14 = .ok (.invokevirtual 225, 3) := by decide +kernel
theorem dX9_excessOf_17 : decode cX9_excessOf 17 = .ok (.aload_n 0, 1) := by decide +kernel
theorem dX9_excessOf_18 : decode cX9_excessOf 18 = .ok (.getfield 22, 3) := by decide +kernel
theorem dX9_excessOf_21 : decode cX9_excessOf 21 = .ok (.iload_n 2, 1) := by decide +kernel
theorem dX9_excessOf_22 : decode cX9_excessOf 22 = .ok (.iaload, 1) := by decide +kernel
theorem dX9_excessOf_23 : decode cX9_excessOf 23 = .ok (.isub, 1) := by decide +kernel
theorem dX9_excessOf_24 : decode cX9_excessOf 24 = .ok (.istore_n 3, 1) := by decide +kernel
theorem dX9_excessOf_25 : decode cX9_excessOf 25 = .ok (.iload_n 1, 1) := by decide +kernel
theorem dX9_excessOf_26 : decode cX9_excessOf 26 = .ok (.iload_n 3, 1) := by decide +kernel
theorem dX9_excessOf_27 : decode cX9_excessOf 27 = .ok (.ifCond .le 7, 3) := by decide +kernel
theorem dX9_excessOf_30 : decode cX9_excessOf 30 = .ok (.iload_n 3, 1) := by decide +kernel
theorem dX9_excessOf_31 : decode cX9_excessOf 31 = .ok (.goto 4, 3) := by decide +kernel
theorem dX9_excessOf_34 : decode cX9_excessOf 34 = .ok (.iconst 0, 1) := by decide +kernel
theorem dX9_excessOf_35 : decode cX9_excessOf 35 = .ok (.iadd, 1) := by decide +kernel
theorem dX9_excessOf_36 : decode cX9_excessOf 36 = .ok (.istore_n 1, 1) := by decide +kernel
theorem dX9_excessOf_37 : decode cX9_excessOf 37 = .ok (.iinc 2 1, 3) := by decide +kernel
theorem dX9_excessOf_40 : decode cX9_excessOf 40 = .ok (.goto (-36), 3) := by decide +kernel
theorem dX9_excessOf_43 : decode cX9_excessOf 43 = .ok (.iload_n 1, 1) := by decide +kernel
theorem dX9_excessOf_44 : decode cX9_excessOf 44 = .ok (.ireturn, 1) := by decide +kernel
theorem dX9_sumOf_0 : decode cX9_sumOf 0 = .ok (.lconst 0, 1) := by decide +kernel
theorem dX9_sumOf_1 : decode cX9_sumOf 1 = .ok (.lstore_n 1, 1) := by decide +kernel
theorem dX9_sumOf_2 : decode cX9_sumOf 2 = .ok (.iconst 0, 1) := by decide +kernel
theorem dX9_sumOf_3 : decode cX9_sumOf 3 = .ok (.istore_n 3, 1) := by decide +kernel
theorem dX9_sumOf_4 : decode cX9_sumOf 4 = .ok (.iload_n 3, 1) := by decide +kernel
theorem dX9_sumOf_5 : decode cX9_sumOf 5 = .ok (.aload_n 0, 1) := by decide +kernel
theorem dX9_sumOf_6 : decode cX9_sumOf 6 = .ok (.getfield 132, 3) := by decide +kernel
theorem dX9_sumOf_9 : decode cX9_sumOf 9 = .ok (.if_icmp .ge 53, 3) := by decide +kernel
theorem dX9_sumOf_12 : decode cX9_sumOf 12 = .ok (.lload_n 1, 1) := by decide +kernel
theorem dX9_sumOf_13 : decode cX9_sumOf 13 = .ok (.aload_n 0, 1) := by decide +kernel
theorem dX9_sumOf_14 : decode cX9_sumOf 14 = .ok (.getfield 13, 3) := by decide +kernel
theorem dX9_sumOf_17 : decode cX9_sumOf 17 = .ok (.iload_n 3, 1) := by decide +kernel
theorem dX9_sumOf_18 : decode cX9_sumOf 18 = .ok (.iaload, 1) := by decide +kernel
theorem dX9_sumOf_19 : decode cX9_sumOf 19 = .ok (.i2l, 1) := by decide +kernel
theorem dX9_sumOf_20 : decode cX9_sumOf 20 = .ok (.aload_n 0, 1) := by decide +kernel
theorem dX9_sumOf_21 : decode cX9_sumOf 21 = .ok (.getfield 59, 3) := by decide +kernel
theorem dX9_sumOf_24 : decode cX9_sumOf 24 = .ok (.iload_n 3, 1) := by decide +kernel
theorem dX9_sumOf_25 : decode cX9_sumOf 25 = .ok (.iaload, 1) := by decide +kernel
theorem dX9_sumOf_26 : decode cX9_sumOf 26 = .ok (.bipush (-9), 2) := by decide +kernel
theorem dX9_sumOf_28 : decode cX9_sumOf 28 = .ok (.if_icmp .ne 9, 3) := by decide +kernel
theorem dX9_sumOf_31 : decode cX9_sumOf 31 = .ok (.sipush 1000, 3) := by decide +kernel
theorem dX9_sumOf_34 : decode cX9_sumOf 34 = .ok (.goto 18, 3) := by decide +kernel
theorem dX9_sumOf_37 : decode cX9_sumOf 37 = .ok (.aload_n 0, 1) := by decide +kernel
theorem dX9_sumOf_38 : decode cX9_sumOf 38 = .ok (.getfield 38, 3) := by decide +kernel
theorem dX9_sumOf_41 : decode cX9_sumOf 41 = .ok (.iconst 4, 1) := by decide +kernel
theorem dX9_sumOf_42 : decode cX9_sumOf 42 = .ok (.iload_n 3, 1) := by decide +kernel
theorem dX9_sumOf_43 : decode cX9_sumOf 43 = .ok (.imul, 1) := by decide +kernel
theorem dX9_sumOf_44 : decode cX9_sumOf 44 = .ok (.aload_n 0, 1) := by decide +kernel
theorem dX9_sumOf_45 : decode cX9_sumOf 45 = .ok (.getfield 59, 3) := by decide +kernel
theorem dX9_sumOf_48 : decode cX9_sumOf 48 = .ok (.iload_n 3, 1) := by decide +kernel
theorem dX9_sumOf_49 : decode cX9_sumOf 49 = .ok (.iaload, 1) := by decide +kernel
theorem dX9_sumOf_50 : decode cX9_sumOf 50 = .ok (.iadd, 1) := by decide +kernel
theorem dX9_sumOf_51 : decode cX9_sumOf 51 = .ok (.iaload, 1) := by decide +kernel
theorem dX9_sumOf_52 : decode cX9_sumOf 52 = .ok (.i2l, 1) := by decide +kernel
theorem dX9_sumOf_53 : decode cX9_sumOf 53 = .ok (.lmul, 1) := by decide +kernel
theorem dX9_sumOf_54 : decode cX9_sumOf 54 = .ok (.ladd, 1) := by decide +kernel
theorem dX9_sumOf_55 : decode cX9_sumOf 55 = .ok (.lstore_n 1, 1) := by decide +kernel
theorem dX9_sumOf_56 : decode cX9_sumOf 56 = .ok (.iinc 3 1, 3) := by decide +kernel
theorem dX9_sumOf_59 : decode cX9_sumOf 59 = .ok (.goto (-55), 3) := by decide +kernel
theorem dX9_sumOf_62 : decode cX9_sumOf 62 = .ok (.lload_n 1, 1) := by decide +kernel
theorem dX9_sumOf_63 : decode cX9_sumOf 63 = .ok (.lreturn, 1) := by decide +kernel
theorem dX9_load_0 : decode cX9_load 0 = .ok (.aload_n 0, 1) := by decide +kernel
theorem dX9_load_1 : decode cX9_load 1 = .ok (.iload_n 1, 1) := by decide +kernel
theorem dX9_load_2 : decode cX9_load 2 = .ok (.invokevirtual 160, 3) := by decide +kernel
theorem dX9_load_5 : decode cX9_load 5 = .ok (.ifCond .ne 5, 3) := by decide +kernel
theorem dX9_load_8 : decode cX9_load 8 = .ok (.iconst (-1), 1) := by decide +kernel
theorem dX9_load_9 : decode cX9_load 9 = .ok (.ireturn, 1) := by decide +kernel
theorem dX9_load_10 : decode cX9_load 10 = .ok (.aload_n 0, 1) := by decide +kernel
theorem dX9_load_11 : decode cX9_load 11 = .ok (.invokevirtual 216, 3) := by decide +kernel
theorem dX9_load_14 : decode cX9_load 14 = .ok (.ifCond .eq 11, 3) := by decide +kernel
theorem dX9_load_17 : decode cX9_load 17 = .ok (.aload_n 0, 1) := by decide +kernel
theorem dX9_load_18 : decode cX9_load 18 = .ok (.iload_n 1, 1) := by decide +kernel
theorem dX9_load_19 : decode cX9_load 19 = .ok (.invokevirtual 225, 3) := by decide +kernel
theorem dX9_load_22 : decode cX9_load 22 = .ok (.goto 5, 3) := by decide +kernel
theorem dX9_load_25 : decode cX9_load 25 = .ok (.bipush (-3), 2) := by decide +kernel
theorem dX9_load_27 : decode cX9_load 27 = .ok (.ireturn, 1) := by decide +kernel
theorem dX9_excess_0 : decode cX9_excess 0 = .ok (.aload_n 0, 1) := by decide +kernel
theorem dX9_excess_1 : decode cX9_excess 1 = .ok (.invokevirtual 216, 3) := by decide +kernel
theorem dX9_excess_4 : decode cX9_excess 4 = .ok (.ifCond .eq 10, 3) := by decide +kernel
theorem dX9_excess_7 : decode cX9_excess 7 = .ok (.aload_n 0, 1) := by decide +kernel
theorem dX9_excess_8 : decode cX9_excess 8 = .ok (.invokevirtual 228, 3) := by decide +kernel
theorem dX9_excess_11 : decode cX9_excess 11 = .ok (.goto 5, 3) := by decide +kernel
theorem dX9_excess_14 : decode cX9_excess 14 = .ok (.bipush (-3), 2) := by decide +kernel
theorem dX9_excess_16 : decode cX9_excess 16 = .ok (.ireturn, 1) := by decide +kernel
theorem dX9_sum_0 : decode cX9_sum 0 = .ok (.aload_n 0, 1) := by decide +kernel
theorem dX9_sum_1 : decode cX9_sum 1 = .ok (.invokevirtual 216, 3) := by decide +kernel
theorem dX9_sum_4 : decode cX9_sum 4 = .ok (.ifCond .eq 10, 3) := by decide +kernel
theorem dX9_sum_7 : decode cX9_sum 7 = .ok (.aload_n 0, 1) := by decide +kernel
theorem dX9_sum_8 : decode cX9_sum 8 = .ok (.invokevirtual 232, 3) := by decide +kernel
theorem dX9_sum_11 : decode cX9_sum 11 = .ok (.goto 6, 3) := by decide +kernel
theorem dX9_sum_14 : decode cX9_sum 14 = .ok (.ldc2_w 236, 3) := by decide +kernel
theorem dX9_sum_17 : decode cX9_sum 17 = .ok (.lreturn, 1) := by decide +kernel
theorem dX9_without_0 : decode cX9_without 0 = .ok (.aload_n 0, 1) := by decide +kernel
theorem dX9_without_1 : decode cX9_without 1 = .ok (.iload_n 1, 1) := by decide +kernel
theorem dX9_without_2 : decode cX9_without 2 = .ok (.invokevirtual 160, 3) := by decide +kernel
theorem dX9_without_5 : decode cX9_without 5 = .ok (.ifCond .ne 5, 3) := by decide +kernel
theorem dX9_without_8 : decode cX9_without 8 = .ok (.iconst (-1), 1) := by decide +kernel
theorem dX9_without_9 : decode cX9_without 9 = .ok (.ireturn, 1) := by decide +kernel
theorem dX9_without_10 : decode cX9_without 10 = .ok (.aload_n 0, 1) := by decide +kernel
theorem dX9_without_11 : decode cX9_without 11 = .ok (.getfield 25, 3) := by decide +kernel
theorem dX9_without_14 : decode cX9_without 14 = .ok (.iload_n 1, 1) := by decide +kernel
theorem dX9_without_15 : decode cX9_without 15 = .ok (.baload, 1) := by decide +kernel
theorem dX9_without_16 : decode cX9_without 16 = .ok (.ifCond .ne 6, 3) := by decide +kernel
theorem dX9_without_19 : decode cX9_without 19 = .ok (.bipush (-3), 2) := by decide +kernel
theorem dX9_without_21 : decode cX9_without 21 = .ok (.ireturn, 1) := by decide +kernel
theorem dX9_without_22 : decode cX9_without 22 = .ok (.aload_n 0, 1) := by decide +kernel
theorem dX9_without_23 : decode cX9_without 23 = .ok (.invokevirtual 209, 3) := by decide +kernel
theorem dX9_without_26 : decode cX9_without 26 = .ok (.aload_n 0, 1) := by decide +kernel
theorem dX9_without_27 : decode cX9_without 27 = .ok (.getfield 53, 3) := by decide +kernel
theorem dX9_without_30 : decode cX9_without 30 = .ok (.iload_n 1, 1) := by decide +kernel
theorem dX9_without_31 : decode cX9_without 31 = .ok (.iconst 0, 1) := by decide +kernel
theorem dX9_without_32 : decode cX9_without 32 = .ok (.bastore, 1) := by decide +kernel
theorem dX9_without_33 : decode cX9_without 33 = .ok (.aload_n 0, 1) := by decide +kernel
theorem dX9_without_34 : decode cX9_without 34 = .ok (.invokevirtual 212, 3) := by decide +kernel
theorem dX9_without_37 : decode cX9_without 37 = .ok (.ifCond .eq 10, 3) := by decide +kernel
theorem dX9_without_40 : decode cX9_without 40 = .ok (.aload_n 0, 1) := by decide +kernel
theorem dX9_without_41 : decode cX9_without 41 = .ok (.invokevirtual 228, 3) := by decide +kernel
theorem dX9_without_44 : decode cX9_without 44 = .ok (.goto 5, 3) := by decide +kernel
theorem dX9_without_47 : decode cX9_without 47 = .ok (.bipush (-3), 2) := by decide +kernel
theorem dX9_without_49 : decode cX9_without 49 = .ok (.ireturn, 1) := by decide +kernel
theorem dX9_moves_0 : decode cX9_moves 0 = .ok (.aload_n 0, 1) := by decide +kernel
theorem dX9_moves_1 : decode cX9_moves 1 = .ok (.iload_n 1, 1) := by decide +kernel
theorem dX9_moves_2 : decode cX9_moves 2 = .ok (.invokevirtual 160, 3) := by decide +kernel
theorem dX9_moves_5 : decode cX9_moves 5 = .ok (.ifCond .ne 5, 3) := by decide +kernel
theorem dX9_moves_8 : decode cX9_moves 8 = .ok (.iconst (-1), 1) := by decide +kernel
theorem dX9_moves_9 : decode cX9_moves 9 = .ok (.ireturn, 1) := by decide +kernel
theorem dX9_moves_10 : decode cX9_moves 10 = .ok (.iload_n 2, 1) := by decide +kernel
theorem dX9_moves_11 : decode cX9_moves 11 = .ok (.i2l, 1) := by decide +kernel
theorem dX9_moves_12 : decode cX9_moves 12 = .ok (.lconst 0, 1) := by decide +kernel
theorem dX9_moves_13 : decode cX9_moves 13 = .ok (.ldc2_w 163, 3) := by decide +kernel
theorem dX9_moves_16 : decode cX9_moves 16 = .ok (.invokestatic 136, 3) := by decide +kernel
theorem dX9_moves_19 : decode cX9_moves 19 = .ok (.ifCond .ne 6, 3) := by decide +kernel
theorem dX9_moves_22 : decode cX9_moves 22 = .ok (.bipush (-2), 2) := by decide +kernel
theorem dX9_moves_24 : decode cX9_moves 24 = .ok (.ireturn, 1) := by decide +kernel
theorem dX9_moves_25 : decode cX9_moves 25 = .ok (.aload_n 0, 1) := by decide +kernel
theorem dX9_moves_26 : decode cX9_moves 26 = .ok (.invokevirtual 216, 3) := by decide +kernel
theorem dX9_moves_29 : decode cX9_moves 29 = .ok (.ifCond .ne 6, 3) := by decide +kernel
theorem dX9_moves_32 : decode cX9_moves 32 = .ok (.bipush (-3), 2) := by decide +kernel
theorem dX9_moves_34 : decode cX9_moves 34 = .ok (.ireturn, 1) := by decide +kernel
theorem dX9_moves_35 : decode cX9_moves 35 = .ok (.iconst 0, 1) := by decide +kernel
theorem dX9_moves_36 : decode cX9_moves 36 = .ok (.istore_n 3, 1) := by decide +kernel
theorem dX9_moves_37 : decode cX9_moves 37 = .ok (.iload_n 3, 1) := by decide +kernel
theorem dX9_moves_38 : decode cX9_moves 38 = .ok (.aload_n 0, 1) := by decide +kernel
theorem dX9_moves_39 : decode cX9_moves 39 = .ok (.getfield 132, 3) := by decide +kernel
theorem dX9_moves_42 : decode cX9_moves 42 = .ok (.if_icmp .ge 21, 3) := by decide +kernel
theorem dX9_moves_45 : decode cX9_moves 45 = .ok (.aload_n 0, 1) := by decide +kernel
theorem dX9_moves_46 : decode cX9_moves 46 = .ok (.getfield 89, 3) := by decide +kernel
theorem dX9_moves_49 : decode cX9_moves 49 = .ok (.iload_n 3, 1) := by decide +kernel
theorem dX9_moves_50 : decode cX9_moves 50 = .ok (.aload_n 0, 1) := by decide +kernel
theorem dX9_moves_51 : decode cX9_moves 51 = .ok (.getfield 59, 3) := by decide +kernel
theorem dX9_moves_54 : decode cX9_moves 54 = .ok (.iload_n 3, 1) := by decide +kernel
theorem dX9_moves_55 : decode cX9_moves 55 = .ok (.iaload, 1) := by decide +kernel
theorem dX9_moves_56 : decode cX9_moves 56 = .ok (.iastore, 1) := by decide +kernel
theorem dX9_moves_57 : decode cX9_moves 57 = .ok (.iinc 3 1, 3) := by decide +kernel
theorem dX9_moves_60 : decode cX9_moves 60 = .ok (.goto (-23), 3) := by decide +kernel
theorem dX9_moves_63 : decode cX9_moves 63 = .ok (.aload_n 0, 1) := by decide +kernel
theorem dX9_moves_64 : decode cX9_moves 64 = .ok (.getfield 44, 3) := by decide +kernel
theorem dX9_moves_67 : decode cX9_moves 67 = .ok (.iload_n 1, 1) := by decide +kernel
theorem dX9_moves_68 : decode cX9_moves 68 = .ok (.iload_n 2, 1) := by decide +kernel
theorem dX9_moves_69 : decode cX9_moves 69 = .ok (.iastore, 1) := by decide +kernel
theorem dX9_moves_70 : decode cX9_moves 70 = .ok (.aload_n 0, 1) := by decide +kernel
theorem dX9_moves_71 : decode cX9_moves 71 = .ok (.invokevirtual 212, 3) := by decide +kernel
theorem dX9_moves_74 : decode cX9_moves 74 = .ok (.ifCond .ne 6, 3) := by decide +kernel
theorem dX9_moves_77 : decode cX9_moves 77 = .ok (.bipush (-3), 2) := by decide +kernel
theorem dX9_moves_79 : decode cX9_moves 79 = .ok (.ireturn, 1) := by decide +kernel
theorem dX9_moves_80 : decode cX9_moves 80 = .ok (.iconst 0, 1) := by decide +kernel
theorem dX9_moves_81 : decode cX9_moves 81 = .ok (.istore_n 3, 1) := by decide +kernel
theorem dX9_moves_82 : decode cX9_moves 82 = .ok (.iconst 0, 1) := by decide +kernel
theorem dX9_moves_83 : decode cX9_moves 83 = .ok (.istore 4, 2) := by decide +kernel
theorem dX9_moves_85 : decode cX9_moves 85 = .ok (.iload 4, 2) := by decide +kernel
theorem dX9_moves_87 : decode cX9_moves 87 = .ok (.aload_n 0, 1) := by decide +kernel
theorem dX9_moves_88 : decode cX9_moves 88 = .ok (.getfield 132, 3) := by decide +kernel
theorem dX9_moves_91 : decode cX9_moves 91 = .ok (.if_icmp .ge 40, 3) := by decide +kernel
theorem dX9_moves_94 : decode cX9_moves 94 = .ok (.iload_n 3, 1) := by decide +kernel
theorem dX9_moves_95 : decode cX9_moves 95 = .ok (.aload_n 0, 1) := by decide +kernel
theorem dX9_moves_96 : decode cX9_moves 96 = .ok (.getfield 89, 3) := by decide +kernel
theorem dX9_moves_99 : decode cX9_moves 99 = .ok (.iload 4, 2) := by decide +kernel
theorem dX9_moves_101 : decode cX9_moves 101 = .ok (.iaload, 1) := by decide +kernel
theorem dX9_moves_102 : decode cX9_moves 102 = .ok (.aload_n 0, 1) := by decide +kernel
theorem dX9_moves_103 : decode cX9_moves 103 = .ok (.getfield 59, 3) := by decide +kernel
theorem dX9_moves_106 : decode cX9_moves 106 = .ok (.iload 4, 2) := by decide +kernel
theorem dX9_moves_108 : decode cX9_moves 108 = .ok (.iaload, 1) := by decide +kernel
theorem dX9_moves_109 : decode cX9_moves 109 = .ok (.if_icmp .ne 7, 3) := by decide +kernel
theorem dX9_moves_112 : decode cX9_moves 112 = .ok (.iconst 0, 1) := by decide +kernel
theorem dX9_moves_113 : decode cX9_moves 113 = .ok (.goto 10, 3) := by decide +kernel
theorem dX9_moves_116 : decode cX9_moves 116 = .ok (.aload_n 0, 1) := by decide +kernel
theorem dX9_moves_117 : decode cX9_moves 117 = .ok (.getfield 13, 3) := by decide +kernel
theorem dX9_moves_120 : decode cX9_moves 120 = .ok (.iload 4, 2) := by decide +kernel
theorem dX9_moves_122 : decode cX9_moves 122 = .ok (.iaload, 1) := by decide +kernel
theorem dX9_moves_123 : decode cX9_moves 123 = .ok (.iadd, 1) := by decide +kernel
theorem dX9_moves_124 : decode cX9_moves 124 = .ok (.istore_n 3, 1) := by decide +kernel
theorem dX9_moves_125 : decode cX9_moves 125 = .ok (.iinc 4 1, 3) := by decide +kernel
theorem dX9_moves_128 : decode cX9_moves 128 = .ok (.goto (-43), 3) := by decide +kernel
theorem dX9_moves_131 : decode cX9_moves 131 = .ok (.iload_n 3, 1) := by decide +kernel
theorem dX9_moves_132 : decode cX9_moves 132 = .ok (.ireturn, 1) := by decide +kernel
theorem dX9_trial_0 : decode cX9_trial 0 = .ok (.aload_n 0, 1) := by decide +kernel
theorem dX9_trial_1 : decode cX9_trial 1 = .ok (.getfield 238, 3) := by decide +kernel
theorem dX9_trial_4 : decode cX9_trial 4 = .ok (.bipush 6, 2) := by decide +kernel
theorem dX9_trial_6 : decode cX9_trial 6 = .ok (.if_icmp .ne 6, 3) := by decide +kernel
theorem dX9_trial_9 : decode cX9_trial 9 = .ok (.bipush (-4), 2) := by decide +kernel
theorem dX9_trial_11 : decode cX9_trial 11 = .ok (.ireturn, 1) := by decide +kernel
theorem dX9_trial_12 : decode cX9_trial 12 = .ok (.aload_n 0, 1) := by decide +kernel
theorem dX9_trial_13 : decode cX9_trial 13 = .ok (.getfield 92, 3) := by decide +kernel
theorem dX9_trial_16 : decode cX9_trial 16 = .ok (.aload_n 0, 1) := by decide +kernel
theorem dX9_trial_17 : decode cX9_trial 17 = .ok (.getfield 238, 3) := by decide +kernel
theorem dX9_trial_20 : decode cX9_trial 20 = .ok (.aload_n 0, 1) := by decide +kernel
theorem dX9_trial_21 : decode cX9_trial 21 = .ok (.getfield 140, 3) := by decide +kernel
theorem dX9_trial_24 : decode cX9_trial 24 = .ok (.iastore, 1) := by decide +kernel
theorem dX9_trial_25 : decode cX9_trial 25 = .ok (.iconst 0, 1) := by decide +kernel
theorem dX9_trial_26 : decode cX9_trial 26 = .ok (.istore_n 1, 1) := by decide +kernel
theorem dX9_trial_27 : decode cX9_trial 27 = .ok (.iload_n 1, 1) := by decide +kernel
theorem dX9_trial_28 : decode cX9_trial 28 = .ok (.iconst 4, 1) := by decide +kernel
theorem dX9_trial_29 : decode cX9_trial 29 = .ok (.if_icmp .ge 85, 3) := by decide +kernel
theorem dX9_trial_32 : decode cX9_trial 32 = .ok (.aload_n 0, 1) := by decide +kernel
theorem dX9_trial_33 : decode cX9_trial 33 = .ok (.getfield 95, 3) := by decide +kernel
theorem dX9_trial_36 : decode cX9_trial 36 = .ok (.iconst 4, 1) := by decide +kernel
theorem dX9_trial_37 : decode cX9_trial 37 = .ok (.aload_n 0, 1) := by decide +kernel
theorem dX9_trial_38 : decode cX9_trial 38 = .ok (.getfield 238, 3) := by decide +kernel
theorem dX9_trial_41 : decode cX9_trial 41 = .ok (.imul, 1) := by decide +kernel
theorem dX9_trial_42 : decode cX9_trial 42 = .ok (.iload_n 1, 1) := by decide +kernel
theorem dX9_trial_43 : decode cX9_trial 43 = .ok (.iadd, 1) := by decide +kernel
theorem dX9_trial_44 : decode cX9_trial 44 = .ok (.aload_n 0, 1) := by decide +kernel
theorem dX9_trial_45 : decode cX9_trial 45 = .ok (.getfield 29, 3) := by decide +kernel
theorem dX9_trial_48 : decode cX9_trial 48 = .ok (.iload_n 1, 1) := by decide +kernel
theorem dX9_trial_49 : decode cX9_trial 49 = .ok (.iaload, 1) := by decide +kernel
theorem dX9_trial_50 : decode cX9_trial 50 = .ok (.iastore, 1) := by decide +kernel
theorem dX9_trial_51 : decode cX9_trial 51 = .ok (.aload_n 0, 1) := by decide +kernel
theorem dX9_trial_52 : decode cX9_trial 52 = .ok (.getfield 98, 3) := by decide +kernel
theorem dX9_trial_55 : decode cX9_trial 55 = .ok (.iconst 4, 1) := by decide +kernel
theorem dX9_trial_56 : decode cX9_trial 56 = .ok (.aload_n 0, 1) := by decide +kernel
theorem dX9_trial_57 : decode cX9_trial 57 = .ok (.getfield 238, 3) := by decide +kernel
theorem dX9_trial_60 : decode cX9_trial 60 = .ok (.imul, 1) := by decide +kernel
theorem dX9_trial_61 : decode cX9_trial 61 = .ok (.iload_n 1, 1) := by decide +kernel
theorem dX9_trial_62 : decode cX9_trial 62 = .ok (.iadd, 1) := by decide +kernel
theorem dX9_trial_63 : decode cX9_trial 63 = .ok (.aload_n 0, 1) := by decide +kernel
theorem dX9_trial_64 : decode cX9_trial 64 = .ok (.getfield 32, 3) := by decide +kernel
theorem dX9_trial_67 : decode cX9_trial 67 = .ok (.iload_n 1, 1) := by decide +kernel
theorem dX9_trial_68 : decode cX9_trial 68 = .ok (.iaload, 1) := by decide +kernel
theorem dX9_trial_69 : decode cX9_trial 69 = .ok (.iastore, 1) := by decide +kernel
theorem dX9_trial_70 : decode cX9_trial 70 = .ok (.aload_n 0, 1) := by decide +kernel
theorem dX9_trial_71 : decode cX9_trial 71 = .ok (.getfield 101, 3) := by decide +kernel
theorem dX9_trial_74 : decode cX9_trial 74 = .ok (.iconst 4, 1) := by decide +kernel
theorem dX9_trial_75 : decode cX9_trial 75 = .ok (.aload_n 0, 1) := by decide +kernel
theorem dX9_trial_76 : decode cX9_trial 76 = .ok (.getfield 238, 3) := by decide +kernel
theorem dX9_trial_79 : decode cX9_trial 79 = .ok (.imul, 1) := by decide +kernel
theorem dX9_trial_80 : decode cX9_trial 80 = .ok (.iload_n 1, 1) := by decide +kernel
theorem dX9_trial_81 : decode cX9_trial 81 = .ok (.iadd, 1) := by decide +kernel
theorem dX9_trial_82 : decode cX9_trial 82 = .ok (.aload_n 0, 1) := by decide +kernel
theorem dX9_trial_83 : decode cX9_trial 83 = .ok (.getfield 35, 3) := by decide +kernel
theorem dX9_trial_86 : decode cX9_trial 86 = .ok (.iload_n 1, 1) := by decide +kernel
theorem dX9_trial_87 : decode cX9_trial 87 = .ok (.baload, 1) := by decide +kernel
theorem dX9_trial_88 : decode cX9_trial 88 = .ok (.bastore, 1) := by decide +kernel
theorem dX9_trial_89 : decode cX9_trial 89 = .ok (.aload_n 0, 1) := by decide +kernel
theorem dX9_trial_90 : decode cX9_trial 90 = .ok (.getfield 104, 3) := by decide +kernel
theorem dX9_trial_93 : decode cX9_trial 93 = .ok (.iconst 4, 1) := by decide +kernel
theorem dX9_trial_94 : decode cX9_trial 94 = .ok (.aload_n 0, 1) := by decide +kernel
theorem dX9_trial_95 : decode cX9_trial 95 = .ok (.getfield 238, 3) := by decide +kernel
theorem dX9_trial_98 : decode cX9_trial 98 = .ok (.imul, 1) := by decide +kernel
theorem dX9_trial_99 : decode cX9_trial 99 = .ok (.iload_n 1, 1) := by decide +kernel
theorem dX9_trial_100 : decode cX9_trial 100 = .ok (.iadd, 1) := by decide +kernel
theorem dX9_trial_101 : decode cX9_trial 101 = .ok (.aload_n 0, 1) := by decide +kernel
theorem dX9_trial_102 : decode cX9_trial 102 = .ok (.getfield 25, 3) := by decide +kernel
theorem dX9_trial_105 : decode cX9_trial 105 = .ok (.iload_n 1, 1) := by decide +kernel
theorem dX9_trial_106 : decode cX9_trial 106 = .ok (.baload, 1) := by decide +kernel
theorem dX9_trial_107 : decode cX9_trial 107 = .ok (.bastore, 1) := by decide +kernel
theorem dX9_trial_108 : decode cX9_trial 108 = .ok (.iinc 1 1, 3) := by decide +kernel
theorem dX9_trial_111 : decode cX9_trial 111 = .ok (.goto (-84), 3) := by decide +kernel
theorem dX9_trial_114 : decode cX9_trial 114 = .ok (.iconst 0, 1) := by decide +kernel
theorem dX9_trial_115 : decode cX9_trial 115 = .ok (.istore_n 1, 1) := by decide +kernel
theorem dX9_trial_116 : decode cX9_trial 116 = .ok (.iload_n 1, 1) := by decide +kernel
theorem dX9_trial_117 : decode cX9_trial 117 = .ok (.bipush 10, 2) := by decide +kernel
theorem dX9_trial_119 : decode cX9_trial 119 = .ok (.if_icmp .ge 24, 3) := by decide +kernel
theorem dX9_trial_122 : decode cX9_trial 122 = .ok (.aload_n 0, 1) := by decide +kernel
theorem dX9_trial_123 : decode cX9_trial 123 = .ok (.getfield 107, 3) := by decide +kernel
theorem dX9_trial_126 : decode cX9_trial 126 = .ok (.bipush 10, 2) := by decide +kernel
theorem dX9_trial_128 : decode cX9_trial 128 = .ok (.aload_n 0, 1) := by decide +kernel
theorem dX9_trial_129 : decode cX9_trial 129 = .ok (.getfield 238, 3) := by decide +kernel
theorem dX9_trial_132 : decode cX9_trial 132 = .ok (.imul, 1) := by decide +kernel
theorem dX9_trial_133 : decode cX9_trial 133 = .ok (.iload_n 1, 1) := by decide +kernel
theorem dX9_trial_134 : decode cX9_trial 134 = .ok (.iadd, 1) := by decide +kernel
theorem dX9_trial_135 : decode cX9_trial 135 = .ok (.iconst 4, 1) := by decide +kernel
theorem dX9_trial_136 : decode cX9_trial 136 = .ok (.iastore, 1) := by decide +kernel
theorem dX9_trial_137 : decode cX9_trial 137 = .ok (.iinc 1 1, 3) := by decide +kernel
theorem dX9_trial_140 : decode cX9_trial 140 = .ok (.goto (-24), 3) := by decide +kernel
theorem dX9_trial_143 : decode cX9_trial 143 = .ok (.aload_n 0, 1) := by decide +kernel
theorem dX9_trial_144 : decode cX9_trial 144 = .ok (.dup, 1) := by decide +kernel
theorem dX9_trial_145 : decode cX9_trial 145 = .ok (.getfield 238, 3) := by decide +kernel
theorem dX9_trial_148 : decode cX9_trial 148 = .ok (.iconst 1, 1) := by decide +kernel
theorem dX9_trial_149 : decode cX9_trial 149 = .ok (.iadd, 1) := by decide +kernel
theorem dX9_trial_150 : decode cX9_trial 150 = .ok (.putfield 238, 3) := by decide +kernel
theorem dX9_trial_153 : decode cX9_trial 153 = .ok (.aload_n 0, 1) := by decide +kernel
theorem dX9_trial_154 : decode cX9_trial 154 = .ok (.getfield 238, 3) := by decide +kernel
theorem dX9_trial_157 : decode cX9_trial 157 = .ok (.iconst 1, 1) := by decide +kernel
theorem dX9_trial_158 : decode cX9_trial 158 = .ok (.isub, 1) := by decide +kernel
theorem dX9_trial_159 : decode cX9_trial 159 = .ok (.ireturn, 1) := by decide +kernel
theorem dX9_seen_0 : decode cX9_seen 0 = .ok (.iload_n 1, 1) := by decide +kernel
theorem dX9_seen_1 : decode cX9_seen 1 = .ok (.i2l, 1) := by decide +kernel
theorem dX9_seen_2 : decode cX9_seen 2 = .ok (.lconst 0, 1) := by decide +kernel
theorem dX9_seen_3 : decode cX9_seen 3 = .ok (.aload_n 0, 1) := by decide +kernel
theorem dX9_seen_4 : decode cX9_seen 4 = .ok (.getfield 238, 3) := by decide +kernel
theorem dX9_seen_7 : decode cX9_seen 7 = .ok (.iconst 1, 1) := by decide +kernel
theorem dX9_seen_8 : decode cX9_seen 8 = .ok (.isub, 1) := by decide +kernel
theorem dX9_seen_9 : decode cX9_seen 9 = .ok (.i2l, 1) := by decide +kernel
theorem dX9_seen_10 : decode cX9_seen 10 = .ok (.invokestatic 136, 3) := by decide +kernel
theorem dX9_seen_13 : decode cX9_seen 13 = .ok (.ifCond .eq 30, 3) := by decide +kernel
theorem dX9_seen_16 : decode cX9_seen 16 = .ok (.aload_n 0, 1) := by decide +kernel
theorem dX9_seen_17 : decode cX9_seen 17 = .ok (.iload_n 2, 1) := by decide +kernel
theorem dX9_seen_18 : decode cX9_seen 18 = .ok (.invokevirtual 145, 3) := by decide +kernel
theorem dX9_seen_21 : decode cX9_seen 21 = .ok (.ifCond .eq 22, 3) := by decide +kernel
theorem dX9_seen_24 : decode cX9_seen 24 = .ok (.iload_n 3, 1) := by decide +kernel
theorem dX9_seen_25 : decode cX9_seen 25 = .ok (.bipush (-9), 2) := by decide +kernel
theorem dX9_seen_27 : decode cX9_seen 27 = .ok (.if_icmp .eq 18, 3) := by decide +kernel
theorem dX9_seen_30 : decode cX9_seen 30 = .ok (.iload_n 3, 1) := by decide +kernel
theorem dX9_seen_31 : decode cX9_seen 31 = .ok (.iconst 4, 1) := by decide +kernel
theorem dX9_seen_32 : decode cX9_seen 32 = .ok (.if_icmp .eq 13, 3) := by decide +kernel
theorem dX9_seen_35 : decode cX9_seen 35 = .ok (.aload_n 0, 1) := by decide +kernel
theorem dX9_seen_36 : decode cX9_seen 36 = .ok (.iload_n 3, 1) := by decide +kernel
theorem dX9_seen_37 : decode cX9_seen 37 = .ok (.invokevirtual 160, 3) := by decide +kernel
theorem dX9_seen_40 : decode cX9_seen 40 = .ok (.ifCond .ne 5, 3) := by decide +kernel
theorem dX9_seen_43 : decode cX9_seen 43 = .ok (.iconst (-1), 1) := by decide +kernel
theorem dX9_seen_44 : decode cX9_seen 44 = .ok (.ireturn, 1) := by decide +kernel
theorem dX9_seen_45 : decode cX9_seen 45 = .ok (.aload_n 0, 1) := by decide +kernel
theorem dX9_seen_46 : decode cX9_seen 46 = .ok (.getfield 107, 3) := by decide +kernel
theorem dX9_seen_49 : decode cX9_seen 49 = .ok (.bipush 10, 2) := by decide +kernel
theorem dX9_seen_51 : decode cX9_seen 51 = .ok (.iload_n 1, 1) := by decide +kernel
theorem dX9_seen_52 : decode cX9_seen 52 = .ok (.imul, 1) := by decide +kernel
theorem dX9_seen_53 : decode cX9_seen 53 = .ok (.iload_n 2, 1) := by decide +kernel
theorem dX9_seen_54 : decode cX9_seen 54 = .ok (.iadd, 1) := by decide +kernel
theorem dX9_seen_55 : decode cX9_seen 55 = .ok (.iaload, 1) := by decide +kernel
theorem dX9_seen_56 : decode cX9_seen 56 = .ok (.istore 4, 2) := by decide +kernel
theorem dX9_seen_58 : decode cX9_seen 58 = .ok (.aload_n 0, 1) := by decide +kernel
theorem dX9_seen_59 : decode cX9_seen 59 = .ok (.getfield 107, 3) := by decide +kernel
theorem dX9_seen_62 : decode cX9_seen 62 = .ok (.bipush 10, 2) := by decide +kernel
theorem dX9_seen_64 : decode cX9_seen 64 = .ok (.iload_n 1, 1) := by decide +kernel
theorem dX9_seen_65 : decode cX9_seen 65 = .ok (.imul, 1) := by decide +kernel
theorem dX9_seen_66 : decode cX9_seen 66 = .ok (.iload_n 2, 1) := by decide +kernel
theorem dX9_seen_67 : decode cX9_seen 67 = .ok (.iadd, 1) := by decide +kernel
theorem dX9_seen_68 : decode cX9_seen 68 = .ok (.iload_n 3, 1) := by decide +kernel
theorem dX9_seen_69 : decode cX9_seen 69 = .ok (.iastore, 1) := by decide +kernel
theorem dX9_seen_70 : decode cX9_seen 70 = .ok (.iload 4, 2) := by decide +kernel
theorem dX9_seen_72 : decode cX9_seen 72 = .ok (.ireturn, 1) := by decide +kernel
theorem dX9_askTrial_0 : decode cX9_askTrial 0 = .ok (.aload_n 0, 1) := by decide +kernel
theorem dX9_askTrial_1 : decode cX9_askTrial 1 = .ok (.aload_n 0, 1) := by decide +kernel
theorem dX9_askTrial_2 : decode cX9_askTrial 2 = .ok (.getfield 92, 3) := by decide +kernel
theorem dX9_askTrial_5 : decode cX9_askTrial 5 = .ok (.iload_n 1, 1) := by decide +kernel
theorem dX9_askTrial_6 : decode cX9_askTrial 6 = .ok (.iaload, 1) := by decide +kernel
theorem dX9_askTrial_7 : decode cX9_askTrial 7 = .ok (.putfield 167, 3) := by decide +kernel
theorem dX9_askTrial_10 : decode cX9_askTrial 10 = .ok (.iconst 0, 1) := by decide +kernel
theorem dX9_askTrial_11 : decode cX9_askTrial 11 = .ok (.istore_n 2, 1) := by decide +kernel
theorem dX9_askTrial_12 : decode cX9_askTrial 12 = .ok (.iload_n 2, 1) := by decide +kernel
theorem dX9_askTrial_13 : decode cX9_askTrial 13 = .ok (.iconst 4, 1) := by decide +kernel
theorem dX9_askTrial_14 : decode cX9_askTrial 14 = .ok (.if_icmp .ge 73, 3) := by decide +kernel
theorem dX9_askTrial_17 : decode cX9_askTrial 17 = .ok (.aload_n 0, 1) := by decide +kernel
theorem dX9_askTrial_18 : decode cX9_askTrial 18 = .ok (.getfield 44, 3) := by decide +kernel
theorem dX9_askTrial_21 : decode cX9_askTrial 21 = .ok (.iload_n 2, 1) := by decide +kernel
theorem dX9_askTrial_22 : decode cX9_askTrial 22 = .ok (.aload_n 0, 1) := by decide +kernel
theorem dX9_askTrial_23 : decode cX9_askTrial 23 = .ok (.getfield 95, 3) := by decide +kernel
theorem dX9_askTrial_26 : decode cX9_askTrial 26 = .ok (.iconst 4, 1) := by decide +kernel
theorem dX9_askTrial_27 : decode cX9_askTrial 27 = .ok (.iload_n 1, 1) := by decide +kernel
theorem dX9_askTrial_28 : decode cX9_askTrial 28 = .ok (.imul, 1) := by decide +kernel
theorem dX9_askTrial_29 : decode cX9_askTrial 29 = .ok (.iload_n 2, 1) := by decide +kernel
theorem dX9_askTrial_30 : decode cX9_askTrial 30 = .ok (.iadd, 1) := by decide +kernel
theorem dX9_askTrial_31 : decode cX9_askTrial 31 = .ok (.iaload, 1) := by decide +kernel
theorem dX9_askTrial_32 : decode cX9_askTrial 32 = .ok (.iastore, 1) := by decide +kernel
theorem dX9_askTrial_33 : decode cX9_askTrial 33 = .ok (.aload_n 0, 1) := by decide +kernel
theorem dX9_askTrial_34 : decode cX9_askTrial 34 = .ok (.getfield 47, 3) := by decide +kernel
theorem dX9_askTrial_37 : decode cX9_askTrial 37 = .ok (.iload_n 2, 1) := by decide +kernel
theorem dX9_askTrial_38 : decode cX9_askTrial 38 = .ok (.aload_n 0, 1) := by decide +kernel
theorem dX9_askTrial_39 : decode cX9_askTrial 39 = .ok (.getfield 98, 3) := by decide +kernel
theorem dX9_askTrial_42 : decode cX9_askTrial 42 = .ok (.iconst 4, 1) := by decide +kernel
theorem dX9_askTrial_43 : decode cX9_askTrial 43 = .ok (.iload_n 1, 1) := by decide +kernel
theorem dX9_askTrial_44 : decode cX9_askTrial 44 = .ok (.imul, 1) := by decide +kernel
theorem dX9_askTrial_45 : decode cX9_askTrial 45 = .ok (.iload_n 2, 1) := by decide +kernel
theorem dX9_askTrial_46 : decode cX9_askTrial 46 = .ok (.iadd, 1) := by decide +kernel
theorem dX9_askTrial_47 : decode cX9_askTrial 47 = .ok (.iaload, 1) := by decide +kernel
theorem dX9_askTrial_48 : decode cX9_askTrial 48 = .ok (.iastore, 1) := by decide +kernel
theorem dX9_askTrial_49 : decode cX9_askTrial 49 = .ok (.aload_n 0, 1) := by decide +kernel
theorem dX9_askTrial_50 : decode cX9_askTrial 50 = .ok (.getfield 50, 3) := by decide +kernel
theorem dX9_askTrial_53 : decode cX9_askTrial 53 = .ok (.iload_n 2, 1) := by decide +kernel
theorem dX9_askTrial_54 : decode cX9_askTrial 54 = .ok (.aload_n 0, 1) := by decide +kernel
theorem dX9_askTrial_55 : decode cX9_askTrial 55 = .ok (.getfield 101, 3) := by decide +kernel
theorem dX9_askTrial_58 : decode cX9_askTrial 58 = .ok (.iconst 4, 1) := by decide +kernel
theorem dX9_askTrial_59 : decode cX9_askTrial 59 = .ok (.iload_n 1, 1) := by decide +kernel
theorem dX9_askTrial_60 : decode cX9_askTrial 60 = .ok (.imul, 1) := by decide +kernel
theorem dX9_askTrial_61 : decode cX9_askTrial 61 = .ok (.iload_n 2, 1) := by decide +kernel
theorem dX9_askTrial_62 : decode cX9_askTrial 62 = .ok (.iadd, 1) := by decide +kernel
theorem dX9_askTrial_63 : decode cX9_askTrial 63 = .ok (.baload, 1) := by decide +kernel
theorem dX9_askTrial_64 : decode cX9_askTrial 64 = .ok (.bastore, 1) := by decide +kernel
theorem dX9_askTrial_65 : decode cX9_askTrial 65 = .ok (.aload_n 0, 1) := by decide +kernel
theorem dX9_askTrial_66 : decode cX9_askTrial 66 = .ok (.getfield 53, 3) := by decide +kernel
theorem dX9_askTrial_69 : decode cX9_askTrial 69 = .ok (.iload_n 2, 1) := by decide +kernel
theorem dX9_askTrial_70 : decode cX9_askTrial 70 = .ok (.aload_n 0, 1) := by decide +kernel
theorem dX9_askTrial_71 : decode cX9_askTrial 71 = .ok (.getfield 104, 3) := by decide +kernel
theorem dX9_askTrial_74 : decode cX9_askTrial 74 = .ok (.iconst 4, 1) := by decide +kernel
theorem dX9_askTrial_75 : decode cX9_askTrial 75 = .ok (.iload_n 1, 1) := by decide +kernel
theorem dX9_askTrial_76 : decode cX9_askTrial 76 = .ok (.imul, 1) := by decide +kernel
theorem dX9_askTrial_77 : decode cX9_askTrial 77 = .ok (.iload_n 2, 1) := by decide +kernel
theorem dX9_askTrial_78 : decode cX9_askTrial 78 = .ok (.iadd, 1) := by decide +kernel
theorem dX9_askTrial_79 : decode cX9_askTrial 79 = .ok (.baload, 1) := by decide +kernel
theorem dX9_askTrial_80 : decode cX9_askTrial 80 = .ok (.bastore, 1) := by decide +kernel
theorem dX9_askTrial_81 : decode cX9_askTrial 81 = .ok (.iinc 2 1, 3) := by decide +kernel
theorem dX9_askTrial_84 : decode cX9_askTrial 84 = .ok (.goto (-72), 3) := by decide +kernel
theorem dX9_askTrial_87 : decode cX9_askTrial 87 = .ok (.return_, 1) := by decide +kernel
theorem dX9_ones_0 : decode cX9_ones 0 = .ok (.iload_n 0, 1) := by decide +kernel
theorem dX9_ones_1 : decode cX9_ones 1 = .ok (.iconst 1, 1) := by decide +kernel
theorem dX9_ones_2 : decode cX9_ones 2 = .ok (.iand, 1) := by decide +kernel
theorem dX9_ones_3 : decode cX9_ones 3 = .ok (.iload_n 0, 1) := by decide +kernel
theorem dX9_ones_4 : decode cX9_ones 4 = .ok (.iconst 1, 1) := by decide +kernel
theorem dX9_ones_5 : decode cX9_ones 5 = .ok (.ishr, 1) := by decide +kernel
theorem dX9_ones_6 : decode cX9_ones 6 = .ok (.iconst 1, 1) := by decide +kernel
theorem dX9_ones_7 : decode cX9_ones 7 = .ok (.iand, 1) := by decide +kernel
theorem dX9_ones_8 : decode cX9_ones 8 = .ok (.iadd, 1) := by decide +kernel
theorem dX9_ones_9 : decode cX9_ones 9 = .ok (.iload_n 0, 1) := by decide +kernel
theorem dX9_ones_10 : decode cX9_ones 10 = .ok (.iconst 2, 1) := by decide +kernel
theorem dX9_ones_11 : decode cX9_ones 11 = .ok (.ishr, 1) := by decide +kernel
theorem dX9_ones_12 : decode cX9_ones 12 = .ok (.iconst 1, 1) := by decide +kernel
theorem dX9_ones_13 : decode cX9_ones 13 = .ok (.iand, 1) := by decide +kernel
theorem dX9_ones_14 : decode cX9_ones 14 = .ok (.iadd, 1) := by decide +kernel
theorem dX9_ones_15 : decode cX9_ones 15 = .ok (.iload_n 0, 1) := by decide +kernel
theorem dX9_ones_16 : decode cX9_ones 16 = .ok (.iconst 3, 1) := by decide +kernel
theorem dX9_ones_17 : decode cX9_ones 17 = .ok (.ishr, 1) := by decide +kernel
theorem dX9_ones_18 : decode cX9_ones 18 = .ok (.iconst 1, 1) := by decide +kernel
theorem dX9_ones_19 : decode cX9_ones 19 = .ok (.iand, 1) := by decide +kernel
theorem dX9_ones_20 : decode cX9_ones 20 = .ok (.iadd, 1) := by decide +kernel
theorem dX9_ones_21 : decode cX9_ones 21 = .ok (.ireturn, 1) := by decide +kernel
theorem dX9_caseMany_0 : decode cX9_caseMany 0 = .ok (.iconst 1, 1) := by decide +kernel
theorem dX9_caseMany_1 : decode cX9_caseMany 1 = .ok (.istore_n 1, 1) := by decide +kernel
theorem dX9_caseMany_2 : decode cX9_caseMany 2 = .ok (.iconst 0, 1) := by decide +kernel
theorem dX9_caseMany_3 : decode cX9_caseMany 3 = .ok (.istore_n 2, 1) := by decide +kernel
theorem dX9_caseMany_4 : decode cX9_caseMany 4 = .ok (.iload_n 2, 1) := by decide +kernel
theorem dX9_caseMany_5 : decode cX9_caseMany 5 = .ok (.aload_n 0, 1) := by decide +kernel
theorem dX9_caseMany_6 : decode cX9_caseMany 6 = .ok (.getfield 132, 3) := by decide +kernel
theorem dX9_caseMany_9 : decode cX9_caseMany 9 = .ok (.if_icmp .ge 28, 3) := by decide +kernel
theorem dX9_caseMany_12 : decode cX9_caseMany 12 = .ok (.iload_n 1, 1) := by decide +kernel
theorem dX9_caseMany_13 : decode cX9_caseMany 13 = .ok (.sipush 256, 3) := by decide +kernel
theorem dX9_caseMany_16 : decode cX9_caseMany 16 = .ok (.if_icmp .gt 21, 3) := by decide +kernel
theorem dX9_caseMany_19 : decode cX9_caseMany 19 = .ok (.iload_n 1, 1) := by decide +kernel
theorem dX9_caseMany_20 : decode cX9_caseMany 20 = .ok (.aload_n 0, 1) := by decide +kernel
theorem dX9_caseMany_21 : decode cX9_caseMany 21 = .ok (.getfield 16, 3) := by decide +kernel
theorem dX9_caseMany_24 : decode cX9_caseMany 24 = .ok (.iload_n 2, 1) := by decide +kernel
theorem dX9_caseMany_25 : decode cX9_caseMany 25 = .ok (.iaload, 1) := by decide +kernel
theorem dX9_caseMany_26 : decode cX9_caseMany 26 = .ok (.invokestatic 241, 3) := by decide +kernel
theorem dX9_caseMany_29 : decode cX9_caseMany 29 = .ok (.imul, 1) := by decide +kernel
theorem dX9_caseMany_30 : decode cX9_caseMany 30 = .ok (.istore_n 1, 1) := by decide +kernel
theorem dX9_caseMany_31 : decode cX9_caseMany 31 = .ok (.iinc 2 1, 3) := by decide +kernel
theorem dX9_caseMany_34 : decode cX9_caseMany 34 = .ok (.goto (-30), 3) := by decide +kernel
theorem dX9_caseMany_37 : decode cX9_caseMany 37 = .ok (.iload_n 1, 1) := by decide +kernel
theorem dX9_caseMany_38 : decode cX9_caseMany 38 = .ok (.ireturn, 1) := by decide +kernel
theorem dX9_cases_0 : decode cX9_cases 0 = .ok (.aload_n 0, 1) := by decide +kernel
theorem dX9_cases_1 : decode cX9_cases 1 = .ok (.invokevirtual 244, 3) := by decide +kernel
theorem dX9_cases_4 : decode cX9_cases 4 = .ok (.istore_n 1, 1) := by decide +kernel
theorem dX9_cases_5 : decode cX9_cases 5 = .ok (.iload_n 1, 1) := by decide +kernel
theorem dX9_cases_6 : decode cX9_cases 6 = .ok (.sipush 256, 3) := by decide +kernel
theorem dX9_cases_9 : decode cX9_cases 9 = .ok (.if_icmp .le 8, 3) := by decide +kernel
theorem dX9_cases_12 : decode cX9_cases 12 = .ok (.bipush (-5), 2) := by decide +kernel
theorem dX9_cases_14 : decode cX9_cases 14 = .ok (.goto 4, 3) := by decide +kernel
theorem dX9_cases_17 : decode cX9_cases 17 = .ok (.iload_n 1, 1) := by decide +kernel
theorem dX9_cases_18 : decode cX9_cases 18 = .ok (.ireturn, 1) := by decide +kernel
theorem dX9_askCase_0 : decode cX9_askCase 0 = .ok (.iload_n 1, 1) := by decide +kernel
theorem dX9_askCase_1 : decode cX9_askCase 1 = .ok (.istore_n 2, 1) := by decide +kernel
theorem dX9_askCase_2 : decode cX9_askCase 2 = .ok (.iconst 0, 1) := by decide +kernel
theorem dX9_askCase_3 : decode cX9_askCase 3 = .ok (.istore_n 3, 1) := by decide +kernel
theorem dX9_askCase_4 : decode cX9_askCase 4 = .ok (.iload_n 3, 1) := by decide +kernel
theorem dX9_askCase_5 : decode cX9_askCase 5 = .ok (.aload_n 0, 1) := by decide +kernel
theorem dX9_askCase_6 : decode cX9_askCase 6 = .ok (.getfield 132, 3) := by decide +kernel
theorem dX9_askCase_9 : decode cX9_askCase 9 = .ok (.if_icmp .ge 80, 3) := by decide +kernel
theorem dX9_askCase_12 : decode cX9_askCase 12 = .ok (.iload_n 2, 1) := by decide +kernel
theorem dX9_askCase_13 : decode cX9_askCase 13 = .ok (.aload_n 0, 1) := by decide +kernel
theorem dX9_askCase_14 : decode cX9_askCase 14 = .ok (.getfield 16, 3) := by decide +kernel
theorem dX9_askCase_17 : decode cX9_askCase 17 = .ok (.iload_n 3, 1) := by decide +kernel
theorem dX9_askCase_18 : decode cX9_askCase 18 = .ok (.iaload, 1) := by decide +kernel
theorem dX9_askCase_19 : decode cX9_askCase 19 = .ok (.invokestatic 241, 3) := by decide +kernel
theorem dX9_askCase_22 : decode cX9_askCase 22 = .ok (.irem, 1) := by decide +kernel
theorem dX9_askCase_23 : decode cX9_askCase 23 = .ok (.istore 4, 2) := by decide +kernel
theorem dX9_askCase_25 : decode cX9_askCase 25 = .ok (.iload_n 2, 1) := by decide +kernel
theorem dX9_askCase_26 : decode cX9_askCase 26 = .ok (.aload_n 0, 1) := by decide +kernel
theorem dX9_askCase_27 : decode cX9_askCase 27 = .ok (.getfield 16, 3) := by decide +kernel
theorem dX9_askCase_30 : decode cX9_askCase 30 = .ok (.iload_n 3, 1) := by decide +kernel
theorem dX9_askCase_31 : decode cX9_askCase 31 = .ok (.iaload, 1) := by decide +kernel
theorem dX9_askCase_32 : decode cX9_askCase 32 = .ok (.invokestatic 241, 3) := by decide +kernel
theorem dX9_askCase_35 : decode cX9_askCase 35 = .ok (.idiv, 1) := by decide +kernel
theorem dX9_askCase_36 : decode cX9_askCase 36 = .ok (.istore_n 2, 1) := by decide +kernel
theorem dX9_askCase_37 : decode cX9_askCase 37 = .ok (.aload_n 0, 1) := by decide +kernel
theorem dX9_askCase_38 : decode cX9_askCase 38 = .ok (.getfield 16, 3) := by decide +kernel
theorem dX9_askCase_41 : decode cX9_askCase 41 = .ok (.iload_n 3, 1) := by decide +kernel
theorem dX9_askCase_42 : decode cX9_askCase 42 = .ok (.iaload, 1) := by decide +kernel
theorem dX9_askCase_43 : decode cX9_askCase 43 = .ok (.invokestatic 170, 3) := by decide +kernel
theorem dX9_askCase_46 : decode cX9_askCase 46 = .ok (.istore 5, 2) := by decide +kernel
theorem dX9_askCase_48 : decode cX9_askCase 48 = .ok (.iload 4, 2) := by decide +kernel
theorem dX9_askCase_50 : decode cX9_askCase 50 = .ok (.ifCond .le 25, 3) := by decide +kernel
theorem dX9_askCase_53 : decode cX9_askCase 53 = .ok (.iinc 5 1, 3) := by decide +kernel
theorem dX9_askCase_56 : decode cX9_askCase 56 = .ok (.iload 4, 2) := by decide +kernel
theorem dX9_askCase_58 : decode cX9_askCase 58 = .ok (.aload_n 0, 1) := by decide +kernel
theorem dX9_askCase_59 : decode cX9_askCase 59 = .ok (.getfield 16, 3) := by decide +kernel
theorem dX9_askCase_62 : decode cX9_askCase 62 = .ok (.iload_n 3, 1) := by decide +kernel
theorem dX9_askCase_63 : decode cX9_askCase 63 = .ok (.iaload, 1) := by decide +kernel
theorem dX9_askCase_64 : decode cX9_askCase 64 = .ok (.iload 5, 2) := by decide +kernel
theorem dX9_askCase_66 : decode cX9_askCase 66 = .ok (.ishr, 1) := by decide +kernel
theorem dX9_askCase_67 : decode cX9_askCase 67 = .ok (.iconst 1, 1) := by decide +kernel
theorem dX9_askCase_68 : decode cX9_askCase 68 = .ok (.iand, 1) := by decide +kernel
theorem dX9_askCase_69 : decode cX9_askCase 69 = .ok (.isub, 1) := by decide +kernel
theorem dX9_askCase_70 : decode cX9_askCase 70 = .ok (.istore 4, 2) := by decide +kernel
theorem dX9_askCase_72 : decode cX9_askCase 72 = .ok (.goto (-24), 3) := by decide +kernel
theorem dX9_askCase_75 : decode cX9_askCase 75 = .ok (.aload_n 0, 1) := by decide +kernel
theorem dX9_askCase_76 : decode cX9_askCase 76 = .ok (.getfield 56, 3) := by decide +kernel
theorem dX9_askCase_79 : decode cX9_askCase 79 = .ok (.iload_n 3, 1) := by decide +kernel
theorem dX9_askCase_80 : decode cX9_askCase 80 = .ok (.iload 5, 2) := by decide +kernel
theorem dX9_askCase_82 : decode cX9_askCase 82 = .ok (.iastore, 1) := by decide +kernel
theorem dX9_askCase_83 : decode cX9_askCase 83 = .ok (.iinc 3 1, 3) := by decide +kernel
theorem dX9_askCase_86 : decode cX9_askCase 86 = .ok (.goto (-82), 3) := by decide +kernel
theorem dX9_askCase_89 : decode cX9_askCase 89 = .ok (.return_, 1) := by decide +kernel
theorem dX9_agrees_0 : decode cX9_agrees 0 = .ok (.iconst 0, 1) := by decide +kernel
theorem dX9_agrees_1 : decode cX9_agrees 1 = .ok (.istore_n 3, 1) := by decide +kernel
theorem dX9_agrees_2 : decode cX9_agrees 2 = .ok (.iload_n 3, 1) := by decide +kernel
theorem dX9_agrees_3 : decode cX9_agrees 3 = .ok (.iload_n 2, 1) := by decide +kernel
theorem dX9_agrees_4 : decode cX9_agrees 4 = .ok (.if_icmp .ge 134, 3) := by decide +kernel
theorem dX9_agrees_7 : decode cX9_agrees 7 = .ok (.iconst 0, 1) := by decide +kernel
theorem dX9_agrees_8 : decode cX9_agrees 8 = .ok (.istore 4, 2) := by decide +kernel
theorem dX9_agrees_10 : decode cX9_agrees 10 = .ok (.iconst 0, 1) := by decide +kernel
theorem dX9_agrees_11 : decode cX9_agrees 11 = .ok (.istore 5, 2) := by decide +kernel
theorem dX9_agrees_13 : decode cX9_agrees 13 = .ok (.iload 5, 2) := by decide +kernel
theorem dX9_agrees_15 : decode cX9_agrees 15 = .ok (.aload_n 0, 1) := by decide +kernel
theorem dX9_agrees_16 : decode cX9_agrees 16 = .ok (.getfield 132, 3) := by decide +kernel
theorem dX9_agrees_19 : decode cX9_agrees 19 = .ok (.if_icmp .ge 37, 3) := by decide +kernel
theorem dX9_agrees_22 : decode cX9_agrees 22 = .ok (.iload 4, 2) := by decide +kernel
theorem dX9_agrees_24 : decode cX9_agrees 24 = .ok (.ifCond .ne 19, 3) := by decide +kernel
theorem dX9_agrees_27 : decode cX9_agrees 27 = .ok (.aload_n 0, 1) := by decide +kernel
theorem dX9_agrees_28 : decode cX9_agrees 28 = .ok (.getfield 107, 3) := by decide +kernel
theorem dX9_agrees_31 : decode cX9_agrees 31 = .ok (.bipush 10, 2) := by decide +kernel
theorem dX9_agrees_33 : decode cX9_agrees 33 = .ok (.iload_n 3, 1) := by decide +kernel
theorem dX9_agrees_34 : decode cX9_agrees 34 = .ok (.imul, 1) := by decide +kernel
theorem dX9_agrees_35 : decode cX9_agrees 35 = .ok (.iload 5, 2) := by decide +kernel
theorem dX9_agrees_37 : decode cX9_agrees 37 = .ok (.iadd, 1) := by decide +kernel
theorem dX9_agrees_38 : decode cX9_agrees 38 = .ok (.iaload, 1) := by decide +kernel
theorem dX9_agrees_39 : decode cX9_agrees 39 = .ok (.iconst 4, 1) := by decide +kernel
theorem dX9_agrees_40 : decode cX9_agrees 40 = .ok (.if_icmp .eq 7, 3) := by decide +kernel
theorem dX9_agrees_43 : decode cX9_agrees 43 = .ok (.iconst 1, 1) := by decide +kernel
theorem dX9_agrees_44 : decode cX9_agrees 44 = .ok (.goto 4, 3) := by decide +kernel
theorem dX9_agrees_47 : decode cX9_agrees 47 = .ok (.iconst 0, 1) := by decide +kernel
theorem dX9_agrees_48 : decode cX9_agrees 48 = .ok (.istore 4, 2) := by decide +kernel
theorem dX9_agrees_50 : decode cX9_agrees 50 = .ok (.iinc 5 1, 3) := by decide +kernel
theorem dX9_agrees_53 : decode cX9_agrees 53 = .ok (.goto (-40), 3) := by decide +kernel
theorem dX9_agrees_56 : decode cX9_agrees 56 = .ok (.iload 4, 2) := by decide +kernel
theorem dX9_agrees_58 : decode cX9_agrees 58 = .ok (.ifCond .eq 74, 3) := by decide +kernel
theorem dX9_agrees_61 : decode cX9_agrees 61 = .ok (.aload_n 0, 1) := by decide +kernel
theorem dX9_agrees_62 : decode cX9_agrees 62 = .ok (.iload_n 3, 1) := by decide +kernel
theorem dX9_agrees_63 : decode cX9_agrees 63 = .ok (.invokevirtual 247, 3) := by decide +kernel
theorem dX9_agrees_66 : decode cX9_agrees 66 = .ok (.aload_n 0, 1) := by decide +kernel
theorem dX9_agrees_67 : decode cX9_agrees 67 = .ok (.iload_n 1, 1) := by decide +kernel
theorem dX9_agrees_68 : decode cX9_agrees 68 = .ok (.invokevirtual 250, 3) := by decide +kernel
theorem dX9_agrees_71 : decode cX9_agrees 71 = .ok (.aload_n 0, 1) := by decide +kernel
theorem dX9_agrees_72 : decode cX9_agrees 72 = .ok (.invokevirtual 212, 3) := by decide +kernel
theorem dX9_agrees_75 : decode cX9_agrees 75 = .ok (.ifCond .ne 5, 3) := by decide +kernel
theorem dX9_agrees_78 : decode cX9_agrees 78 = .ok (.iconst 0, 1) := by decide +kernel
theorem dX9_agrees_79 : decode cX9_agrees 79 = .ok (.ireturn, 1) := by decide +kernel
theorem dX9_agrees_80 : decode cX9_agrees 80 = .ok (.iconst 0, 1) := by decide +kernel
theorem dX9_agrees_81 : decode cX9_agrees 81 = .ok (.istore 5, 2) := by decide +kernel
theorem dX9_agrees_83 : decode cX9_agrees 83 = .ok (.iload 5, 2) := by decide +kernel
theorem dX9_agrees_85 : decode cX9_agrees 85 = .ok (.aload_n 0, 1) := by decide +kernel
theorem dX9_agrees_86 : decode cX9_agrees 86 = .ok (.getfield 132, 3) := by decide +kernel
theorem dX9_agrees_89 : decode cX9_agrees 89 = .ok (.if_icmp .ge 43, 3) := by decide +kernel
theorem dX9_agrees_92 : decode cX9_agrees 92 = .ok (.aload_n 0, 1) := by decide +kernel
theorem dX9_agrees_93 : decode cX9_agrees 93 = .ok (.getfield 107, 3) := by decide +kernel
theorem dX9_agrees_96 : decode cX9_agrees 96 = .ok (.bipush 10, 2) := by decide +kernel
theorem dX9_agrees_98 : decode cX9_agrees 98 = .ok (.iload_n 3, 1) := by decide +kernel
theorem dX9_agrees_99 : decode cX9_agrees 99 = .ok (.imul, 1) := by decide +kernel
theorem dX9_agrees_100 : decode cX9_agrees 100 = .ok (.iload 5, 2) := by decide +kernel
theorem dX9_agrees_102 : decode cX9_agrees 102 = .ok (.iadd, 1) := by decide +kernel
theorem dX9_agrees_103 : decode cX9_agrees 103 = .ok (.iaload, 1) := by decide +kernel
theorem dX9_agrees_104 : decode cX9_agrees 104 = .ok (.istore 6, 2) := by decide +kernel
theorem dX9_agrees_106 : decode cX9_agrees 106 = .ok (.iload 6, 2) := by decide +kernel
theorem dX9_agrees_108 : decode cX9_agrees 108 = .ok (.iconst 4, 1) := by decide +kernel
theorem dX9_agrees_109 : decode cX9_agrees 109 = .ok (.if_icmp .eq 17, 3) := by decide +kernel
theorem dX9_agrees_112 : decode cX9_agrees 112 = .ok (.iload 6, 2) := by decide +kernel
theorem dX9_agrees_114 : decode cX9_agrees 114 = .ok (.aload_n 0, 1) := by decide +kernel
theorem dX9_agrees_115 : decode cX9_agrees 115 = .ok (.getfield 59, 3) := by decide +kernel
theorem dX9_agrees_118 : decode cX9_agrees 118 = .ok (.iload 5, 2) := by decide +kernel
theorem dX9_agrees_120 : decode cX9_agrees 120 = .ok (.iaload, 1) := by decide +kernel
theorem dX9_agrees_121 : decode cX9_agrees 121 = .ok (.if_icmp .eq 5, 3) := by decide +kernel
theorem dX9_agrees_124 : decode cX9_agrees 124 = .ok (.iconst 0, 1) := by decide +kernel
theorem dX9_agrees_125 : decode cX9_agrees 125 = .ok (.ireturn, 1) := by decide +kernel
theorem dX9_agrees_126 : decode cX9_agrees 126 = .ok (.iinc 5 1, 3) := by decide +kernel
theorem dX9_agrees_129 : decode cX9_agrees 129 = .ok (.goto (-46), 3) := by decide +kernel
theorem dX9_agrees_132 : decode cX9_agrees 132 = .ok (.iinc 3 1, 3) := by decide +kernel
theorem dX9_agrees_135 : decode cX9_agrees 135 = .ok (.goto (-133), 3) := by decide +kernel
theorem dX9_agrees_138 : decode cX9_agrees 138 = .ok (.iconst 1, 1) := by decide +kernel
theorem dX9_agrees_139 : decode cX9_agrees 139 = .ok (.ireturn, 1) := by decide +kernel
theorem dX9_layAgreed_0 : decode cX9_layAgreed 0 = .ok (.aload_n 0, 1) := by decide +kernel
theorem dX9_layAgreed_1 : decode cX9_layAgreed 1 = .ok (.invokevirtual 244, 3) := by decide +kernel
theorem dX9_layAgreed_4 : decode cX9_layAgreed 4 = .ok (.istore_n 1, 1) := by decide +kernel
theorem dX9_layAgreed_5 : decode cX9_layAgreed 5 = .ok (.aload_n 0, 1) := by decide +kernel
theorem dX9_layAgreed_6 : decode cX9_layAgreed 6 = .ok (.iconst 0, 1) := by decide +kernel
theorem dX9_layAgreed_7 : decode cX9_layAgreed 7 = .ok (.putfield 253, 3) := by decide +kernel
theorem dX9_layAgreed_10 : decode cX9_layAgreed 10 = .ok (.iconst 0, 1) := by decide +kernel
theorem dX9_layAgreed_11 : decode cX9_layAgreed 11 = .ok (.istore_n 2, 1) := by decide +kernel
theorem dX9_layAgreed_12 : decode cX9_layAgreed 12 = .ok (.iload_n 2, 1) := by decide +kernel
theorem dX9_layAgreed_13 : decode cX9_layAgreed 13 = .ok (.iload_n 1, 1) := by decide +kernel
theorem dX9_layAgreed_14 : decode cX9_layAgreed 14 = .ok (.if_icmp .ge 48, 3) := by decide +kernel
theorem dX9_layAgreed_17 : decode cX9_layAgreed 17 = .ok (.iload_n 1, 1) := by decide +kernel
theorem dX9_layAgreed_18 : decode cX9_layAgreed 18 = .ok (.sipush 256, 3) := by decide +kernel
theorem dX9_layAgreed_21 : decode cX9_layAgreed 21 = .ok (.if_icmp .gt 41, 3) := by decide +kernel
theorem dX9_layAgreed_24 : decode cX9_layAgreed 24 = .ok (.aload_n 0, 1) := by decide +kernel
theorem dX9_layAgreed_25 : decode cX9_layAgreed 25 = .ok (.iload_n 2, 1) := by decide +kernel
theorem dX9_layAgreed_26 : decode cX9_layAgreed 26 = .ok (.aload_n 0, 1) := by decide +kernel
theorem dX9_layAgreed_27 : decode cX9_layAgreed 27 = .ok (.getfield 238, 3) := by decide +kernel
theorem dX9_layAgreed_30 : decode cX9_layAgreed 30 = .ok (.invokevirtual 256, 3) := by decide +kernel
theorem dX9_layAgreed_33 : decode cX9_layAgreed 33 = .ok (.ifCond .eq 23, 3) := by decide +kernel
theorem dX9_layAgreed_36 : decode cX9_layAgreed 36 = .ok (.aload_n 0, 1) := by decide +kernel
theorem dX9_layAgreed_37 : decode cX9_layAgreed 37 = .ok (.getfield 110, 3) := by decide +kernel
theorem dX9_layAgreed_40 : decode cX9_layAgreed 40 = .ok (.aload_n 0, 1) := by decide +kernel
theorem dX9_layAgreed_41 : decode cX9_layAgreed 41 = .ok (.getfield 253, 3) := by decide +kernel
theorem dX9_layAgreed_44 : decode cX9_layAgreed 44 = .ok (.iload_n 2, 1) := by decide +kernel
theorem dX9_layAgreed_45 : decode cX9_layAgreed 45 = .ok (.iastore, 1) := by decide +kernel
theorem dX9_layAgreed_46 : decode cX9_layAgreed 46 = .ok (.aload_n 0, 1) := by decide +kernel
theorem dX9_layAgreed_47 : decode cX9_layAgreed 47 = .ok (.dup, 1) := by decide +kernel
theorem dX9_layAgreed_48 : decode cX9_layAgreed 48 = .ok (.getfield 253, 3) := by decide +kernel
theorem dX9_layAgreed_51 : decode cX9_layAgreed 51 = .ok (.iconst 1, 1) := by decide +kernel
theorem dX9_layAgreed_52 : decode cX9_layAgreed 52 = .ok (.iadd, 1) := by decide +kernel
theorem dX9_layAgreed_53 : decode cX9_layAgreed 53 = .ok (.putfield 253, 3) := by decide +kernel
theorem dX9_layAgreed_56 : decode cX9_layAgreed 56 = .ok (.iinc 2 1, 3) := by decide +kernel
theorem dX9_layAgreed_59 : decode cX9_layAgreed 59 = .ok (.goto (-47), 3) := by decide +kernel
theorem dX9_layAgreed_62 : decode cX9_layAgreed 62 = .ok (.iload_n 1, 1) := by decide +kernel
theorem dX9_layAgreed_63 : decode cX9_layAgreed 63 = .ok (.sipush 256, 3) := by decide +kernel
theorem dX9_layAgreed_66 : decode cX9_layAgreed 66 = .ok (.if_icmp .gt 7, 3) := by decide +kernel
theorem dX9_layAgreed_69 : decode cX9_layAgreed 69 = .ok (.iconst 1, 1) := by decide +kernel
theorem dX9_layAgreed_70 : decode cX9_layAgreed 70 = .ok (.goto 4, 3) := by decide +kernel
theorem dX9_layAgreed_73 : decode cX9_layAgreed 73 = .ok (.iconst 0, 1) := by decide +kernel
theorem dX9_layAgreed_74 : decode cX9_layAgreed 74 = .ok (.ireturn, 1) := by decide +kernel
theorem dX9_agree_0 : decode cX9_agree 0 = .ok (.aload_n 0, 1) := by decide +kernel
theorem dX9_agree_1 : decode cX9_agree 1 = .ok (.invokevirtual 259, 3) := by decide +kernel
theorem dX9_agree_4 : decode cX9_agree 4 = .ok (.ifCond .eq 10, 3) := by decide +kernel
theorem dX9_agree_7 : decode cX9_agree 7 = .ok (.aload_n 0, 1) := by decide +kernel
theorem dX9_agree_8 : decode cX9_agree 8 = .ok (.getfield 253, 3) := by decide +kernel
theorem dX9_agree_11 : decode cX9_agree 11 = .ok (.goto 5, 3) := by decide +kernel
theorem dX9_agree_14 : decode cX9_agree 14 = .ok (.bipush (-5), 2) := by decide +kernel
theorem dX9_agree_16 : decode cX9_agree 16 = .ok (.ireturn, 1) := by decide +kernel
theorem dX9_could_0 : decode cX9_could 0 = .ok (.aload_n 0, 1) := by decide +kernel
theorem dX9_could_1 : decode cX9_could 1 = .ok (.iload_n 1, 1) := by decide +kernel
theorem dX9_could_2 : decode cX9_could 2 = .ok (.invokevirtual 145, 3) := by decide +kernel
theorem dX9_could_5 : decode cX9_could 5 = .ok (.ifCond .ne 5, 3) := by decide +kernel
theorem dX9_could_8 : decode cX9_could 8 = .ok (.iconst (-1), 1) := by decide +kernel
theorem dX9_could_9 : decode cX9_could 9 = .ok (.ireturn, 1) := by decide +kernel
theorem dX9_could_10 : decode cX9_could 10 = .ok (.aload_n 0, 1) := by decide +kernel
theorem dX9_could_11 : decode cX9_could 11 = .ok (.invokevirtual 259, 3) := by decide +kernel
theorem dX9_could_14 : decode cX9_could 14 = .ok (.ifCond .ne 6, 3) := by decide +kernel
theorem dX9_could_17 : decode cX9_could 17 = .ok (.bipush (-5), 2) := by decide +kernel
theorem dX9_could_19 : decode cX9_could 19 = .ok (.ireturn, 1) := by decide +kernel
theorem dX9_could_20 : decode cX9_could 20 = .ok (.iconst 0, 1) := by decide +kernel
theorem dX9_could_21 : decode cX9_could 21 = .ok (.istore_n 2, 1) := by decide +kernel
theorem dX9_could_22 : decode cX9_could 22 = .ok (.iconst 0, 1) := by decide +kernel
theorem dX9_could_23 : decode cX9_could 23 = .ok (.istore_n 3, 1) := by decide +kernel
theorem dX9_could_24 : decode cX9_could 24 = .ok (.iload_n 3, 1) := by decide +kernel
theorem dX9_could_25 : decode cX9_could 25 = .ok (.aload_n 0, 1) := by decide +kernel
theorem dX9_could_26 : decode cX9_could 26 = .ok (.getfield 253, 3) := by decide +kernel
theorem dX9_could_29 : decode cX9_could 29 = .ok (.if_icmp .ge 61, 3) := by decide +kernel
theorem dX9_could_32 : decode cX9_could 32 = .ok (.aload_n 0, 1) := by decide +kernel
theorem dX9_could_33 : decode cX9_could 33 = .ok (.invokevirtual 209, 3) := by decide +kernel
theorem dX9_could_36 : decode cX9_could 36 = .ok (.aload_n 0, 1) := by decide +kernel
theorem dX9_could_37 : decode cX9_could 37 = .ok (.aload_n 0, 1) := by decide +kernel
theorem dX9_could_38 : decode cX9_could 38 = .ok (.getfield 110, 3) := by decide +kernel
theorem dX9_could_41 : decode cX9_could 41 = .ok (.iload_n 3, 1) := by decide +kernel
theorem dX9_could_42 : decode cX9_could 42 = .ok (.iaload, 1) := by decide +kernel
theorem dX9_could_43 : decode cX9_could 43 = .ok (.invokevirtual 250, 3) := by decide +kernel
theorem dX9_could_46 : decode cX9_could 46 = .ok (.aload_n 0, 1) := by decide +kernel
theorem dX9_could_47 : decode cX9_could 47 = .ok (.invokevirtual 212, 3) := by decide +kernel
theorem dX9_could_50 : decode cX9_could 50 = .ok (.istore 4, 2) := by decide +kernel
theorem dX9_could_52 : decode cX9_could 52 = .ok (.iload_n 2, 1) := by decide +kernel
theorem dX9_could_53 : decode cX9_could 53 = .ok (.iload 4, 2) := by decide +kernel
theorem dX9_could_55 : decode cX9_could 55 = .ok (.ifCond .eq 25, 3) := by decide +kernel
theorem dX9_could_58 : decode cX9_could 58 = .ok (.aload_n 0, 1) := by decide +kernel
theorem dX9_could_59 : decode cX9_could 59 = .ok (.getfield 59, 3) := by decide +kernel
theorem dX9_could_62 : decode cX9_could 62 = .ok (.iload_n 1, 1) := by decide +kernel
theorem dX9_could_63 : decode cX9_could 63 = .ok (.iaload, 1) := by decide +kernel
theorem dX9_could_64 : decode cX9_could 64 = .ok (.bipush (-9), 2) := by decide +kernel
theorem dX9_could_66 : decode cX9_could 66 = .ok (.if_icmp .eq 14, 3) := by decide +kernel
theorem dX9_could_69 : decode cX9_could 69 = .ok (.iconst 1, 1) := by decide +kernel
theorem dX9_could_70 : decode cX9_could 70 = .ok (.aload_n 0, 1) := by decide +kernel
theorem dX9_could_71 : decode cX9_could 71 = .ok (.getfield 59, 3) := by decide +kernel
theorem dX9_could_74 : decode cX9_could 74 = .ok (.iload_n 1, 1) := by decide +kernel
theorem dX9_could_75 : decode cX9_could 75 = .ok (.iaload, 1) := by decide +kernel
theorem dX9_could_76 : decode cX9_could 76 = .ok (.ishl, 1) := by decide +kernel
theorem dX9_could_77 : decode cX9_could 77 = .ok (.goto 5, 3) := by decide +kernel
