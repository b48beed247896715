theorem dX0_init_0 : decode cX0_init 0 = .ok (.aload_n 0, 1) := by decide +kernel
theorem dX0_init_1 : decode cX0_init 1 = .ok (.invokespecial 3, 3) := by decide +kernel
theorem dX0_init_4 : decode cX0_init 4 = .ok (.aload_n 0, 1) := by decide +kernel
theorem dX0_init_5 : decode cX0_init 5 = .ok (.new 9, 3) := by decide +kernel
theorem dX0_init_8 : decode cX0_init 8 = .ok (.dup, 1) := by decide +kernel
theorem dX0_init_9 : decode cX0_init 9 = .ok (.invokespecial 11, 3) := by decide +kernel
theorem dX0_init_12 : decode cX0_init 12 = .ok (.putfield 12, 3) := by decide +kernel
theorem dX0_init_15 : decode cX0_init 15 = .ok (.aload_n 0, 1) := by decide +kernel
theorem dX0_init_16 : decode cX0_init 16 = .ok (.iconst 4, 1) := by decide +kernel
theorem dX0_init_17 : decode cX0_init 17 = .ok (.newarray .long, 2) := by decide +kernel
theorem dX0_init_19 : decode cX0_init 19 = .ok (.putfield 18, 3) := by decide +kernel
theorem dX0_init_22 : decode cX0_init 22 = .ok (.aload_n 0, 1) := by decide +kernel
theorem dX0_init_23 : decode cX0_init 23 = .ok (.iconst (-1), 1) := by decide +kernel
theorem dX0_init_24 : decode cX0_init 24 = .ok (.putfield 22, 3) := by decide +kernel
theorem dX0_init_27 : decode cX0_init 27 = .ok (.return_, 1) := by decide +kernel
theorem dX0_look_0 : decode cX0_look 0 = .ok (.aload_n 0, 1) := by decide +kernel
theorem dX0_look_1 : decode cX0_look 1 = .ok (.getfield 12, 3) := by decide +kernel
theorem dX0_look_4 : decode cX0_look 4 = .ok (.aload_n 1, 1) := by decide +kernel
theorem dX0_look_5 : decode cX0_look 5 = .ok (.invokevirtual 26, 3) := by decide +kernel
theorem dX0_look_8 : decode cX0_look 8 = .ok (.aload_n 0, 1) := by decide +kernel
theorem dX0_look_9 : decode cX0_look 9 = .ok (.iload_n 2, 1) := by decide +kernel
theorem dX0_look_10 : decode cX0_look 10 = .ok (.putfield 22, 3) := by decide +kernel
theorem dX0_look_13 : decode cX0_look 13 = .ok (.aload_n 0, 1) := by decide +kernel
theorem dX0_look_14 : decode cX0_look 14 = .ok (.getfield 18, 3) := by decide +kernel
theorem dX0_look_17 : decode cX0_look 17 = .ok (.iconst 0, 1) := by decide +kernel
theorem dX0_look_18 : decode cX0_look 18 = .ok (.lconst 1, 1) := by decide +kernel
theorem dX0_look_19 : decode cX0_look 19 = .ok (.lastore, 1) := by decide +kernel
theorem dX0_look_20 : decode cX0_look 20 = .ok (.iconst 1, 1) := by decide +kernel
theorem dX0_look_21 : decode cX0_look 21 = .ok (.istore_n 3, 1) := by decide +kernel
theorem dX0_look_22 : decode cX0_look 22 = .ok (.iload_n 3, 1) := by decide +kernel
theorem dX0_look_23 : decode cX0_look 23 = .ok (.iconst 3, 1) := by decide +kernel
theorem dX0_look_24 : decode cX0_look 24 = .ok (.if_icmp .gt 36, 3) := by decide +kernel
theorem dX0_look_27 : decode cX0_look 27 = .ok (.aload_n 0, 1) := by decide +kernel
theorem dX0_look_28 : decode cX0_look 28 = .ok (.getfield 18, 3) := by decide +kernel
theorem dX0_look_31 : decode cX0_look 31 = .ok (.iload_n 3, 1) := by decide +kernel
theorem dX0_look_32 : decode cX0_look 32 = .ok (.aload_n 0, 1) := by decide +kernel
theorem dX0_look_33 : decode cX0_look 33 = .ok (.getfield 18, 3) := by decide +kernel
theorem dX0_look_36 : decode cX0_look 36 = .ok (.iload_n 3, 1) := by decide +kernel
theorem dX0_look_37 : decode cX0_look 37 = .ok (.iconst 1, 1) := by decide +kernel
theorem dX0_look_38 : decode cX0_look 38 = .ok (.isub, 1) := by decide +kernel
theorem dX0_look_39 : decode cX0_look 39 = .ok (.laload, 1) := by decide +kernel
theorem dX0_look_40 : decode cX0_look 40 = .ok (.iconst 1, 1) := by decide +kernel
theorem dX0_look_41 : decode cX0_look 41 = .ok (.aload_n 0, 1) := by decide +kernel
theorem dX0_look_42 : decode cX0_look 42 = .ok (.getfield 12, 3) := by decide +kernel
theorem dX0_look_45 : decode cX0_look 45 = .ok (.invokevirtual 30, 3) := by decide +kernel
theorem dX0_look_48 : decode cX0_look 48 = .ok (.invokestatic 34, 3) := by decide +kernel
theorem dX0_look_51 : decode cX0_look 51 = .ok (.i2l, 1) := by decide +kernel
theorem dX0_look_52 : decode cX0_look 52 = .ok (.lmul, 1) := by decide +kernel
theorem dX0_look_53 : decode cX0_look 53 = .ok (.lastore, 1) := by decide +kernel
theorem dX0_look_54 : decode cX0_look 54 = .ok (.iinc 3 1, 3) := by decide +kernel
theorem dX0_look_57 : decode cX0_look 57 = .ok (.goto (-35), 3) := by decide +kernel
theorem dX0_look_60 : decode cX0_look 60 = .ok (.return_, 1) := by decide +kernel
theorem dX0_sum_0 : decode cX0_sum 0 = .ok (.aload_n 0, 1) := by decide +kernel
theorem dX0_sum_1 : decode cX0_sum 1 = .ok (.iload_n 1, 1) := by decide +kernel
theorem dX0_sum_2 : decode cX0_sum 2 = .ok (.aload_n 0, 1) := by decide +kernel
theorem dX0_sum_3 : decode cX0_sum 3 = .ok (.getfield 12, 3) := by decide +kernel
theorem dX0_sum_6 : decode cX0_sum 6 = .ok (.getfield 40, 3) := by decide +kernel
theorem dX0_sum_9 : decode cX0_sum 9 = .ok (.iconst 3, 1) := by decide +kernel
theorem dX0_sum_10 : decode cX0_sum 10 = .ok (.iaload, 1) := by decide +kernel
theorem dX0_sum_11 : decode cX0_sum 11 = .ok (.aload_n 0, 1) := by decide +kernel
theorem dX0_sum_12 : decode cX0_sum 12 = .ok (.getfield 12, 3) := by decide +kernel
theorem dX0_sum_15 : decode cX0_sum 15 = .ok (.invokevirtual 44, 3) := by decide +kernel
theorem dX0_sum_18 : decode cX0_sum 18 = .ok (.invokevirtual 47, 3) := by decide +kernel
theorem dX0_sum_21 : decode cX0_sum 21 = .ok (.lreturn, 1) := by decide +kernel
theorem dX0_sumFrom_0 : decode cX0_sumFrom 0 = .ok (.iload_n 1, 1) := by decide +kernel
theorem dX0_sumFrom_1 : decode cX0_sumFrom 1 = .ok (.ifCond .le 8, 3) := by decide +kernel
theorem dX0_sumFrom_4 : decode cX0_sumFrom 4 = .ok (.iload_n 1, 1) := by decide +kernel
theorem dX0_sumFrom_5 : decode cX0_sumFrom 5 = .ok (.iconst 3, 1) := by decide +kernel
theorem dX0_sumFrom_6 : decode cX0_sumFrom 6 = .ok (.if_icmp .le 5, 3) := by decide +kernel
theorem dX0_sumFrom_9 : decode cX0_sumFrom 9 = .ok (.lconst 0, 1) := by decide +kernel
theorem dX0_sumFrom_10 : decode cX0_sumFrom 10 = .ok (.lreturn, 1) := by decide +kernel
theorem dX0_sumFrom_11 : decode cX0_sumFrom 11 = .ok (.lconst 0, 1) := by decide +kernel
theorem dX0_sumFrom_12 : decode cX0_sumFrom 12 = .ok (.lstore 4, 2) := by decide +kernel
theorem dX0_sumFrom_14 : decode cX0_sumFrom 14 = .ok (.iconst 0, 1) := by decide +kernel
theorem dX0_sumFrom_15 : decode cX0_sumFrom 15 = .ok (.istore 6, 2) := by decide +kernel
theorem dX0_sumFrom_17 : decode cX0_sumFrom 17 = .ok (.iload 6, 2) := by decide +kernel
theorem dX0_sumFrom_19 : decode cX0_sumFrom 19 = .ok (.aload_n 0, 1) := by decide +kernel
theorem dX0_sumFrom_20 : decode cX0_sumFrom 20 = .ok (.getfield 12, 3) := by decide +kernel
theorem dX0_sumFrom_23 : decode cX0_sumFrom 23 = .ok (.getfield 51, 3) := by decide +kernel
theorem dX0_sumFrom_26 : decode cX0_sumFrom 26 = .ok (.if_icmp .ge 114, 3) := by decide +kernel
theorem dX0_sumFrom_29 : decode cX0_sumFrom 29 = .ok (.aload_n 0, 1) := by decide +kernel
theorem dX0_sumFrom_30 : decode cX0_sumFrom 30 = .ok (.getfield 12, 3) := by decide +kernel
theorem dX0_sumFrom_33 : decode cX0_sumFrom 33 = .ok (.getfield 54, 3) := by decide +kernel
theorem dX0_sumFrom_36 : decode cX0_sumFrom 36 = .ok (.iload 6, 2) := by decide +kernel
theorem dX0_sumFrom_38 : decode cX0_sumFrom 38 = .ok (.iaload, 1) := by decide +kernel
theorem dX0_sumFrom_39 : decode cX0_sumFrom 39 = .ok (.ifCond .ne 6, 3) := by decide +kernel
theorem dX0_sumFrom_42 : decode cX0_sumFrom 42 = .ok (.goto 92, 3) := by decide +kernel
theorem dX0_sumFrom_45 : decode cX0_sumFrom 45 = .ok (.aload_n 0, 1) := by decide +kernel
theorem dX0_sumFrom_46 : decode cX0_sumFrom 46 = .ok (.getfield 12, 3) := by decide +kernel
theorem dX0_sumFrom_49 : decode cX0_sumFrom 49 = .ok (.iload 6, 2) := by decide +kernel
theorem dX0_sumFrom_51 : decode cX0_sumFrom 51 = .ok (.iload_n 2, 1) := by decide +kernel
theorem dX0_sumFrom_52 : decode cX0_sumFrom 52 = .ok (.iload_n 3, 1) := by decide +kernel
theorem dX0_sumFrom_53 : decode cX0_sumFrom 53 = .ok (.invokevirtual 57, 3) := by decide +kernel
theorem dX0_sumFrom_56 : decode cX0_sumFrom 56 = .ok (.istore 7, 2) := by decide +kernel
theorem dX0_sumFrom_58 : decode cX0_sumFrom 58 = .ok (.aload_n 0, 1) := by decide +kernel
theorem dX0_sumFrom_59 : decode cX0_sumFrom 59 = .ok (.iload 6, 2) := by decide +kernel
theorem dX0_sumFrom_61 : decode cX0_sumFrom 61 = .ok (.aload_n 0, 1) := by decide +kernel
theorem dX0_sumFrom_62 : decode cX0_sumFrom 62 = .ok (.getfield 12, 3) := by decide +kernel
theorem dX0_sumFrom_65 : decode cX0_sumFrom 65 = .ok (.iload 7, 2) := by decide +kernel
theorem dX0_sumFrom_67 : decode cX0_sumFrom 67 = .ok (.invokevirtual 61, 3) := by decide +kernel
theorem dX0_sumFrom_70 : decode cX0_sumFrom 70 = .ok (.invokevirtual 65, 3) := by decide +kernel
theorem dX0_sumFrom_73 : decode cX0_sumFrom 73 = .ok (.aload_n 0, 1) := by decide +kernel
theorem dX0_sumFrom_74 : decode cX0_sumFrom 74 = .ok (.getfield 18, 3) := by decide +kernel
theorem dX0_sumFrom_77 : decode cX0_sumFrom 77 = .ok (.iload_n 1, 1) := by decide +kernel
theorem dX0_sumFrom_78 : decode cX0_sumFrom 78 = .ok (.iconst 1, 1) := by decide +kernel
theorem dX0_sumFrom_79 : decode cX0_sumFrom 79 = .ok (.isub, 1) := by decide +kernel
theorem dX0_sumFrom_80 : decode cX0_sumFrom 80 = .ok (.laload, 1) := by decide +kernel
theorem dX0_sumFrom_81 : decode cX0_sumFrom 81 = .ok (.lmul, 1) := by decide +kernel
theorem dX0_sumFrom_82 : decode cX0_sumFrom 82 = .ok (.lstore 8, 2) := by decide +kernel
theorem dX0_sumFrom_84 : decode cX0_sumFrom 84 = .ok (.iload_n 1, 1) := by decide +kernel
theorem dX0_sumFrom_85 : decode cX0_sumFrom 85 = .ok (.iconst 1, 1) := by decide +kernel
theorem dX0_sumFrom_86 : decode cX0_sumFrom 86 = .ok (.if_icmp .le 29, 3) := by decide +kernel
theorem dX0_sumFrom_89 : decode cX0_sumFrom 89 = .ok (.lload 8, 2) := by decide +kernel
theorem dX0_sumFrom_91 : decode cX0_sumFrom 91 = .ok (.aload_n 0, 1) := by decide +kernel
theorem dX0_sumFrom_92 : decode cX0_sumFrom 92 = .ok (.iload_n 1, 1) := by decide +kernel
theorem dX0_sumFrom_93 : decode cX0_sumFrom 93 = .ok (.iconst 1, 1) := by decide +kernel
theorem dX0_sumFrom_94 : decode cX0_sumFrom 94 = .ok (.isub, 1) := by decide +kernel
theorem dX0_sumFrom_95 : decode cX0_sumFrom 95 = .ok (.iload_n 2, 1) := by decide +kernel
theorem dX0_sumFrom_96 : decode cX0_sumFrom 96 = .ok (.iconst 1, 1) := by decide +kernel
theorem dX0_sumFrom_97 : decode cX0_sumFrom 97 = .ok (.iadd, 1) := by decide +kernel
theorem dX0_sumFrom_98 : decode cX0_sumFrom 98 = .ok (.aload_n 0, 1) := by decide +kernel
theorem dX0_sumFrom_99 : decode cX0_sumFrom 99 = .ok (.getfield 12, 3) := by decide +kernel
theorem dX0_sumFrom_102 : decode cX0_sumFrom 102 = .ok (.iload 7, 2) := by decide +kernel
theorem dX0_sumFrom_104 : decode cX0_sumFrom 104 = .ok (.iload_n 2, 1) := by decide +kernel
theorem dX0_sumFrom_105 : decode cX0_sumFrom 105 = .ok (.iload_n 3, 1) := by decide +kernel
theorem dX0_sumFrom_106 : decode cX0_sumFrom 106 = .ok (.invokevirtual 69, 3) := by decide +kernel
theorem dX0_sumFrom_109 : decode cX0_sumFrom 109 = .ok (.invokevirtual 47, 3) := by decide +kernel
theorem dX0_sumFrom_112 : decode cX0_sumFrom 112 = .ok (.ladd, 1) := by decide +kernel
theorem dX0_sumFrom_113 : decode cX0_sumFrom 113 = .ok (.lstore 8, 2) := by decide +kernel
theorem dX0_sumFrom_115 : decode cX0_sumFrom 115 = .ok (.lload 4, 2) := by decide +kernel
theorem dX0_sumFrom_117 : decode cX0_sumFrom 117 = .ok (.aload_n 0, 1) := by decide +kernel
theorem dX0_sumFrom_118 : decode cX0_sumFrom 118 = .ok (.getfield 12, 3) := by decide +kernel
theorem dX0_sumFrom_121 : decode cX0_sumFrom 121 = .ok (.getfield 54, 3) := by decide +kernel
theorem dX0_sumFrom_124 : decode cX0_sumFrom 124 = .ok (.iload 6, 2) := by decide +kernel
theorem dX0_sumFrom_126 : decode cX0_sumFrom 126 = .ok (.iaload, 1) := by decide +kernel
theorem dX0_sumFrom_127 : decode cX0_sumFrom 127 = .ok (.i2l, 1) := by decide +kernel
theorem dX0_sumFrom_128 : decode cX0_sumFrom 128 = .ok (.lload 8, 2) := by decide +kernel
theorem dX0_sumFrom_130 : decode cX0_sumFrom 130 = .ok (.lmul, 1) := by decide +kernel
theorem dX0_sumFrom_131 : decode cX0_sumFrom 131 = .ok (.ladd, 1) := by decide +kernel
theorem dX0_sumFrom_132 : decode cX0_sumFrom 132 = .ok (.lstore 4, 2) := by decide +kernel
theorem dX0_sumFrom_134 : decode cX0_sumFrom 134 = .ok (.iinc 6 1, 3) := by decide +kernel
theorem dX0_sumFrom_137 : decode cX0_sumFrom 137 = .ok (.goto (-120), 3) := by decide +kernel
theorem dX0_sumFrom_140 : decode cX0_sumFrom 140 = .ok (.lload 4, 2) := by decide +kernel
theorem dX0_sumFrom_142 : decode cX0_sumFrom 142 = .ok (.lreturn, 1) := by decide +kernel
theorem dX0_gain_0 : decode cX0_gain 0 = .ok (.aload_n 0, 1) := by decide +kernel
theorem dX0_gain_1 : decode cX0_gain 1 = .ok (.getfield 22, 3) := by decide +kernel
theorem dX0_gain_4 : decode cX0_gain 4 = .ok (.bipush (-2), 2) := by decide +kernel
theorem dX0_gain_6 : decode cX0_gain 6 = .ok (.if_icmp .ne 21, 3) := by decide +kernel
theorem dX0_gain_9 : decode cX0_gain 9 = .ok (.iload_n 2, 1) := by decide +kernel
theorem dX0_gain_10 : decode cX0_gain 10 = .ok (.ifCond .eq 15, 3) := by decide +kernel
theorem dX0_gain_13 : decode cX0_gain 13 = .ok (.aload_n 0, 1) := by decide +kernel
theorem dX0_gain_14 : decode cX0_gain 14 = .ok (.iload_n 1, 1) := by decide +kernel
theorem dX0_gain_15 : decode cX0_gain 15 = .ok (.invokevirtual 72, 3) := by decide +kernel
theorem dX0_gain_18 : decode cX0_gain 18 = .ok (.ifCond .eq 7, 3) := by decide +kernel
theorem dX0_gain_21 : decode cX0_gain 21 = .ok (.lconst 1, 1) := by decide +kernel
theorem dX0_gain_22 : decode cX0_gain 22 = .ok (.goto 4, 3) := by decide +kernel
theorem dX0_gain_25 : decode cX0_gain 25 = .ok (.lconst 0, 1) := by decide +kernel
theorem dX0_gain_26 : decode cX0_gain 26 = .ok (.lreturn, 1) := by decide +kernel
theorem dX0_gain_27 : decode cX0_gain 27 = .ok (.iload_n 2, 1) := by decide +kernel
theorem dX0_gain_28 : decode cX0_gain 28 = .ok (.ifCond .eq 5, 3) := by decide +kernel
theorem dX0_gain_31 : decode cX0_gain 31 = .ok (.lconst 0, 1) := by decide +kernel
theorem dX0_gain_32 : decode cX0_gain 32 = .ok (.lreturn, 1) := by decide +kernel
theorem dX0_gain_33 : decode cX0_gain 33 = .ok (.aload_n 0, 1) := by decide +kernel
theorem dX0_gain_34 : decode cX0_gain 34 = .ok (.getfield 22, 3) := by decide +kernel
theorem dX0_gain_37 : decode cX0_gain 37 = .ok (.ifCond .lt 28, 3) := by decide +kernel
theorem dX0_gain_40 : decode cX0_gain 40 = .ok (.aload_n 0, 1) := by decide +kernel
theorem dX0_gain_41 : decode cX0_gain 41 = .ok (.getfield 22, 3) := by decide +kernel
theorem dX0_gain_44 : decode cX0_gain 44 = .ok (.bipush 6, 2) := by decide +kernel
theorem dX0_gain_46 : decode cX0_gain 46 = .ok (.if_icmp .ge 19, 3) := by decide +kernel
theorem dX0_gain_49 : decode cX0_gain 49 = .ok (.aload_n 0, 1) := by decide +kernel
theorem dX0_gain_50 : decode cX0_gain 50 = .ok (.getfield 12, 3) := by decide +kernel
theorem dX0_gain_53 : decode cX0_gain 53 = .ok (.getfield 75, 3) := by decide +kernel
theorem dX0_gain_56 : decode cX0_gain 56 = .ok (.iload_n 1, 1) := by decide +kernel
theorem dX0_gain_57 : decode cX0_gain 57 = .ok (.aaload, 1) := by decide +kernel
theorem dX0_gain_58 : decode cX0_gain 58 = .ok (.aload_n 0, 1) := by decide +kernel
theorem dX0_gain_59 : decode cX0_gain 59 = .ok (.getfield 22, 3) := by decide +kernel
theorem dX0_gain_62 : decode cX0_gain 62 = .ok (.iaload, 1) := by decide +kernel
theorem dX0_gain_63 : decode cX0_gain 63 = .ok (.i2l, 1) := by decide +kernel
theorem dX0_gain_64 : decode cX0_gain 64 = .ok (.lreturn, 1) := by decide +kernel
theorem dX0_gain_65 : decode cX0_gain 65 = .ok (.lconst 0, 1) := by decide +kernel
theorem dX0_gain_66 : decode cX0_gain 66 = .ok (.lstore_n 3, 1) := by decide +kernel
theorem dX0_gain_67 : decode cX0_gain 67 = .ok (.iconst 0, 1) := by decide +kernel
theorem dX0_gain_68 : decode cX0_gain 68 = .ok (.istore 5, 2) := by decide +kernel
theorem dX0_gain_70 : decode cX0_gain 70 = .ok (.iload 5, 2) := by decide +kernel
theorem dX0_gain_72 : decode cX0_gain 72 = .ok (.aload_n 0, 1) := by decide +kernel
theorem dX0_gain_73 : decode cX0_gain 73 = .ok (.getfield 12, 3) := by decide +kernel
theorem dX0_gain_76 : decode cX0_gain 76 = .ok (.getfield 79, 3) := by decide +kernel
theorem dX0_gain_79 : decode cX0_gain 79 = .ok (.if_icmp .ge 25, 3) := by decide +kernel
theorem dX0_gain_82 : decode cX0_gain 82 = .ok (.lload_n 3, 1) := by decide +kernel
theorem dX0_gain_83 : decode cX0_gain 83 = .ok (.aload_n 0, 1) := by decide +kernel
theorem dX0_gain_84 : decode cX0_gain 84 = .ok (.getfield 12, 3) := by decide +kernel
theorem dX0_gain_87 : decode cX0_gain 87 = .ok (.getfield 75, 3) := by decide +kernel
theorem dX0_gain_90 : decode cX0_gain 90 = .ok (.iload_n 1, 1) := by decide +kernel
theorem dX0_gain_91 : decode cX0_gain 91 = .ok (.aaload, 1) := by decide +kernel
theorem dX0_gain_92 : decode cX0_gain 92 = .ok (.iload 5, 2) := by decide +kernel
theorem dX0_gain_94 : decode cX0_gain 94 = .ok (.iaload, 1) := by decide +kernel
theorem dX0_gain_95 : decode cX0_gain 95 = .ok (.i2l, 1) := by decide +kernel
theorem dX0_gain_96 : decode cX0_gain 96 = .ok (.ladd, 1) := by decide +kernel
theorem dX0_gain_97 : decode cX0_gain 97 = .ok (.lstore_n 3, 1) := by decide +kernel
theorem dX0_gain_98 : decode cX0_gain 98 = .ok (.iinc 5 1, 3) := by decide +kernel
theorem dX0_gain_101 : decode cX0_gain 101 = .ok (.goto (-31), 3) := by decide +kernel
theorem dX0_gain_104 : decode cX0_gain 104 = .ok (.lload_n 3, 1) := by decide +kernel
theorem dX0_gain_105 : decode cX0_gain 105 = .ok (.lreturn, 1) := by decide +kernel
theorem dX0_isLikedByAllButOne_0 : decode cX0_isLikedByAllButOne 0 = .ok (.iconst 0, 1) := by decide +kernel
theorem dX0_isLikedByAllButOne_1 : decode cX0_isLikedByAllButOne 1 = .ok (.istore_n 2, 1) := by decide +kernel
theorem dX0_isLikedByAllButOne_2 : decode cX0_isLikedByAllButOne 2 = .ok (.iconst 0, 1) := by decide +kernel
theorem dX0_isLikedByAllButOne_3 : decode cX0_isLikedByAllButOne 3 = .ok (.istore_n 3, 1) := by decide +kernel
theorem dX0_isLikedByAllButOne_4 : decode cX0_isLikedByAllButOne 4 = .ok (.iload_n 3, 1) := by decide +kernel
theorem dX0_isLikedByAllButOne_5 : decode cX0_isLikedByAllButOne 5 = .ok (.aload_n 0, 1) := by decide +kernel
theorem dX0_isLikedByAllButOne_6 : decode cX0_isLikedByAllButOne 6 = .ok (.getfield 12, 3) := by decide +kernel
theorem dX0_isLikedByAllButOne_9 : decode cX0_isLikedByAllButOne 9 = .ok (.getfield 79, 3) := by decide +kernel
theorem dX0_isLikedByAllButOne_12 : decode cX0_isLikedByAllButOne 12 = .ok (.if_icmp .ge 26, 3) := by decide +kernel
theorem dX0_isLikedByAllButOne_15 : decode cX0_isLikedByAllButOne 15 = .ok (.aload_n 0, 1) := by decide +kernel
theorem dX0_isLikedByAllButOne_16 : decode cX0_isLikedByAllButOne 16 = .ok (.getfield 12, 3) := by decide +kernel
theorem dX0_isLikedByAllButOne_19 : decode cX0_isLikedByAllButOne 19 = .ok (.getfield 75, 3) := by decide +kernel
theorem dX0_isLikedByAllButOne_22 : decode cX0_isLikedByAllButOne 22 = .ok (.iload_n 1, 1) := by decide +kernel
theorem dX0_isLikedByAllButOne_23 : decode cX0_isLikedByAllButOne 23 = .ok (.aaload, 1) := by decide +kernel
theorem dX0_isLikedByAllButOne_24 : decode cX0_isLikedByAllButOne 24 = .ok (.iload_n 3, 1) := by decide +kernel
theorem dX0_isLikedByAllButOne_25 : decode cX0_isLikedByAllButOne 25 = .ok (.iaload, 1) := by decide +kernel
theorem dX0_isLikedByAllButOne_26 : decode cX0_isLikedByAllButOne 26 = .ok (.ifCond .le 6, 3) := by decide +kernel
theorem dX0_isLikedByAllButOne_29 : decode cX0_isLikedByAllButOne 29 = .ok (.iinc 2 1, 3) := by decide +kernel
theorem dX0_isLikedByAllButOne_32 : decode cX0_isLikedByAllButOne 32 = .ok (.iinc 3 1, 3) := by decide +kernel
theorem dX0_isLikedByAllButOne_35 : decode cX0_isLikedByAllButOne 35 = .ok (.goto (-31), 3) := by decide +kernel
theorem dX0_isLikedByAllButOne_38 : decode cX0_isLikedByAllButOne 38 = .ok (.iload_n 2, 1) := by decide +kernel
theorem dX0_isLikedByAllButOne_39 : decode cX0_isLikedByAllButOne 39 = .ok (.aload_n 0, 1) := by decide +kernel
theorem dX0_isLikedByAllButOne_40 : decode cX0_isLikedByAllButOne 40 = .ok (.getfield 12, 3) := by decide +kernel
theorem dX0_isLikedByAllButOne_43 : decode cX0_isLikedByAllButOne 43 = .ok (.getfield 79, 3) := by decide +kernel
theorem dX0_isLikedByAllButOne_46 : decode cX0_isLikedByAllButOne 46 = .ok (.iconst 1, 1) := by decide +kernel
theorem dX0_isLikedByAllButOne_47 : decode cX0_isLikedByAllButOne 47 = .ok (.isub, 1) := by decide +kernel
theorem dX0_isLikedByAllButOne_48 : decode cX0_isLikedByAllButOne 48 = .ok (.if_icmp .ne 7, 3) := by decide +kernel
theorem dX0_isLikedByAllButOne_51 : decode cX0_isLikedByAllButOne 51 = .ok (.iconst 1, 1) := by decide +kernel
theorem dX0_isLikedByAllButOne_52 : decode cX0_isLikedByAllButOne 52 = .ok (.goto 4, 3) := by decide +kernel
theorem dX0_isLikedByAllButOne_55 : decode cX0_isLikedByAllButOne 55 = .ok (.iconst 0, 1) := by decide +kernel
theorem dX0_isLikedByAllButOne_56 : decode cX0_isLikedByAllButOne 56 = .ok (.ireturn, 1) := by decide +kernel
theorem dX0_bestSum_0 : decode cX0_bestSum 0 = .ok (.aload_n 0, 1) := by decide +kernel
theorem dX0_bestSum_1 : decode cX0_bestSum 1 = .ok (.iload_n 1, 1) := by decide +kernel
theorem dX0_bestSum_2 : decode cX0_bestSum 2 = .ok (.aload_n 0, 1) := by decide +kernel
theorem dX0_bestSum_3 : decode cX0_bestSum 3 = .ok (.getfield 12, 3) := by decide +kernel
theorem dX0_bestSum_6 : decode cX0_bestSum 6 = .ok (.getfield 40, 3) := by decide +kernel
theorem dX0_bestSum_9 : decode cX0_bestSum 9 = .ok (.iconst 3, 1) := by decide +kernel
theorem dX0_bestSum_10 : decode cX0_bestSum 10 = .ok (.iaload, 1) := by decide +kernel
theorem dX0_bestSum_11 : decode cX0_bestSum 11 = .ok (.aload_n 0, 1) := by decide +kernel
theorem dX0_bestSum_12 : decode cX0_bestSum 12 = .ok (.getfield 12, 3) := by decide +kernel
theorem dX0_bestSum_15 : decode cX0_bestSum 15 = .ok (.invokevirtual 44, 3) := by decide +kernel
theorem dX0_bestSum_18 : decode cX0_bestSum 18 = .ok (.invokevirtual 82, 3) := by decide +kernel
theorem dX0_bestSum_21 : decode cX0_bestSum 21 = .ok (.lreturn, 1) := by decide +kernel
theorem dX0_bestSumFrom_0 : decode cX0_bestSumFrom 0 = .ok (.iload_n 1, 1) := by decide +kernel
theorem dX0_bestSumFrom_1 : decode cX0_bestSumFrom 1 = .ok (.ifCond .le 8, 3) := by decide +kernel
theorem dX0_bestSumFrom_4 : decode cX0_bestSumFrom 4 = .ok (.iload_n 1, 1) := by decide +kernel
theorem dX0_bestSumFrom_5 : decode cX0_bestSumFrom 5 = .ok (.iconst 3, 1) := by decide +kernel
theorem dX0_bestSumFrom_6 : decode cX0_bestSumFrom 6 = .ok (.if_icmp .le 5, 3) := by decide +kernel
theorem dX0_bestSumFrom_9 : decode cX0_bestSumFrom 9 = .ok (.lconst 0, 1) := by decide +kernel
theorem dX0_bestSumFrom_10 : decode cX0_bestSumFrom 10 = .ok (.lreturn, 1) := by decide +kernel
theorem dX0_bestSumFrom_11 : decode cX0_bestSumFrom 11 = .ok (.lconst 0, 1) := by decide +kernel
theorem dX0_bestSumFrom_12 : decode cX0_bestSumFrom 12 = .ok (.lstore 4, 2) := by decide +kernel
theorem dX0_bestSumFrom_14 : decode cX0_bestSumFrom 14 = .ok (.iconst 0, 1) := by decide +kernel
theorem dX0_bestSumFrom_15 : decode cX0_bestSumFrom 15 = .ok (.istore 6, 2) := by decide +kernel
theorem dX0_bestSumFrom_17 : decode cX0_bestSumFrom 17 = .ok (.iload 6, 2) := by decide +kernel
theorem dX0_bestSumFrom_19 : decode cX0_bestSumFrom 19 = .ok (.aload_n 0, 1) := by decide +kernel
theorem dX0_bestSumFrom_20 : decode cX0_bestSumFrom 20 = .ok (.getfield 12, 3) := by decide +kernel
theorem dX0_bestSumFrom_23 : decode cX0_bestSumFrom 23 = .ok (.getfield 51, 3) := by decide +kernel
theorem dX0_bestSumFrom_26 : decode cX0_bestSumFrom 26 = .ok (.if_icmp .ge 48, 3) := by decide +kernel
theorem dX0_bestSumFrom_29 : decode cX0_bestSumFrom 29 = .ok (.aload_n 0, 1) := by decide +kernel
theorem dX0_bestSumFrom_30 : decode cX0_bestSumFrom 30 = .ok (.getfield 12, 3) := by decide +kernel
theorem dX0_bestSumFrom_33 : decode cX0_bestSumFrom 33 = .ok (.getfield 54, 3) := by decide +kernel
theorem dX0_bestSumFrom_36 : decode cX0_bestSumFrom 36 = .ok (.iload 6, 2) := by decide +kernel
theorem dX0_bestSumFrom_38 : decode cX0_bestSumFrom 38 = .ok (.iaload, 1) := by decide +kernel
theorem dX0_bestSumFrom_39 : decode cX0_bestSumFrom 39 = .ok (.ifCond .eq 29, 3) := by decide +kernel
theorem dX0_bestSumFrom_42 : decode cX0_bestSumFrom 42 = .ok (.lload 4, 2) := by decide +kernel
theorem dX0_bestSumFrom_44 : decode cX0_bestSumFrom 44 = .ok (.aload_n 0, 1) := by decide +kernel
theorem dX0_bestSumFrom_45 : decode cX0_bestSumFrom 45 = .ok (.getfield 12, 3) := by decide +kernel
theorem dX0_bestSumFrom_48 : decode cX0_bestSumFrom 48 = .ok (.getfield 54, 3) := by decide +kernel
theorem dX0_bestSumFrom_51 : decode cX0_bestSumFrom 51 = .ok (.iload 6, 2) := by decide +kernel
theorem dX0_bestSumFrom_53 : decode cX0_bestSumFrom 53 = .ok (.iaload, 1) := by decide +kernel
theorem dX0_bestSumFrom_54 : decode cX0_bestSumFrom 54 = .ok (.i2l, 1) := by decide +kernel
theorem dX0_bestSumFrom_55 : decode cX0_bestSumFrom 55 = .ok (.aload_n 0, 1) := by decide +kernel
theorem dX0_bestSumFrom_56 : decode cX0_bestSumFrom 56 = .ok (.iload 6, 2) := by decide +kernel
theorem dX0_bestSumFrom_58 : decode cX0_bestSumFrom 58 = .ok (.iload_n 1, 1) := by decide +kernel
theorem dX0_bestSumFrom_59 : decode cX0_bestSumFrom 59 = .ok (.iload_n 2, 1) := by decide +kernel
theorem dX0_bestSumFrom_60 : decode cX0_bestSumFrom 60 = .ok (.iload_n 3, 1) := by decide +kernel
theorem dX0_bestSumFrom_61 : decode cX0_bestSumFrom 61 = .ok (.invokevirtual 85, 3) := by decide +kernel
theorem dX0_bestSumFrom_64 : decode cX0_bestSumFrom 64 = .ok (.lmul, 1) := by decide +kernel
theorem dX0_bestSumFrom_65 : decode cX0_bestSumFrom 65 = .ok (.ladd, 1) := by decide +kernel
theorem dX0_bestSumFrom_66 : decode cX0_bestSumFrom 66 = .ok (.lstore 4, 2) := by decide +kernel
theorem dX0_bestSumFrom_68 : decode cX0_bestSumFrom 68 = .ok (.iinc 6 1, 3) := by decide +kernel
theorem dX0_bestSumFrom_71 : decode cX0_bestSumFrom 71 = .ok (.goto (-54), 3) := by decide +kernel
theorem dX0_bestSumFrom_74 : decode cX0_bestSumFrom 74 = .ok (.lload 4, 2) := by decide +kernel
theorem dX0_bestSumFrom_76 : decode cX0_bestSumFrom 76 = .ok (.lreturn, 1) := by decide +kernel
theorem dX0_bestOf_0 : decode cX0_bestOf 0 = .ok (.aload_n 0, 1) := by decide +kernel
theorem dX0_bestOf_1 : decode cX0_bestOf 1 = .ok (.getfield 12, 3) := by decide +kernel
theorem dX0_bestOf_4 : decode cX0_bestOf 4 = .ok (.iload_n 1, 1) := by decide +kernel
theorem dX0_bestOf_5 : decode cX0_bestOf 5 = .ok (.iload_n 3, 1) := by decide +kernel
theorem dX0_bestOf_6 : decode cX0_bestOf 6 = .ok (.iload 4, 2) := by decide +kernel
theorem dX0_bestOf_8 : decode cX0_bestOf 8 = .ok (.invokevirtual 89, 3) := by decide +kernel
theorem dX0_bestOf_11 : decode cX0_bestOf 11 = .ok (.istore 5, 2) := by decide +kernel
theorem dX0_bestOf_13 : decode cX0_bestOf 13 = .ok (.aload_n 0, 1) := by decide +kernel
theorem dX0_bestOf_14 : decode cX0_bestOf 14 = .ok (.getfield 12, 3) := by decide +kernel
theorem dX0_bestOf_17 : decode cX0_bestOf 17 = .ok (.iload 5, 2) := by decide +kernel
theorem dX0_bestOf_19 : decode cX0_bestOf 19 = .ok (.aload_n 0, 1) := by decide +kernel
theorem dX0_bestOf_20 : decode cX0_bestOf 20 = .ok (.invokevirtual 92, 3) := by decide +kernel
theorem dX0_bestOf_23 : decode cX0_bestOf 23 = .ok (.iconst (-1), 1) := by decide +kernel
theorem dX0_bestOf_24 : decode cX0_bestOf 24 = .ok (.ixor, 1) := by decide +kernel
theorem dX0_bestOf_25 : decode cX0_bestOf 25 = .ok (.iand, 1) := by decide +kernel
theorem dX0_bestOf_26 : decode cX0_bestOf 26 = .ok (.invokevirtual 95, 3) := by decide +kernel
theorem dX0_bestOf_29 : decode cX0_bestOf 29 = .ok (.istore 6, 2) := by decide +kernel
theorem dX0_bestOf_31 : decode cX0_bestOf 31 = .ok (.aload_n 0, 1) := by decide +kernel
theorem dX0_bestOf_32 : decode cX0_bestOf 32 = .ok (.iload 6, 2) := by decide +kernel
theorem dX0_bestOf_34 : decode cX0_bestOf 34 = .ok (.iload_n 1, 1) := by decide +kernel
theorem dX0_bestOf_35 : decode cX0_bestOf 35 = .ok (.iload_n 2, 1) := by decide +kernel
theorem dX0_bestOf_36 : decode cX0_bestOf 36 = .ok (.iload_n 3, 1) := by decide +kernel
theorem dX0_bestOf_37 : decode cX0_bestOf 37 = .ok (.iload 4, 2) := by decide +kernel
theorem dX0_bestOf_39 : decode cX0_bestOf 39 = .ok (.invokevirtual 99, 3) := by decide +kernel
theorem dX0_bestOf_42 : decode cX0_bestOf 42 = .ok (.lstore 7, 2) := by decide +kernel
theorem dX0_bestOf_44 : decode cX0_bestOf 44 = .ok (.iload 4, 2) := by decide +kernel
theorem dX0_bestOf_46 : decode cX0_bestOf 46 = .ok (.aload_n 0, 1) := by decide +kernel
theorem dX0_bestOf_47 : decode cX0_bestOf 47 = .ok (.getfield 22, 3) := by decide +kernel
theorem dX0_bestOf_50 : decode cX0_bestOf 50 = .ok (.invokestatic 103, 3) := by decide +kernel
theorem dX0_bestOf_53 : decode cX0_bestOf 53 = .ok (.ifCond .ne 6, 3) := by decide +kernel
theorem dX0_bestOf_56 : decode cX0_bestOf 56 = .ok (.lload 7, 2) := by decide +kernel
theorem dX0_bestOf_58 : decode cX0_bestOf 58 = .ok (.lreturn, 1) := by decide +kernel
theorem dX0_bestOf_59 : decode cX0_bestOf 59 = .ok (.aload_n 0, 1) := by decide +kernel
theorem dX0_bestOf_60 : decode cX0_bestOf 60 = .ok (.getfield 12, 3) := by decide +kernel
theorem dX0_bestOf_63 : decode cX0_bestOf 63 = .ok (.iload 5, 2) := by decide +kernel
theorem dX0_bestOf_65 : decode cX0_bestOf 65 = .ok (.aload_n 0, 1) := by decide +kernel
theorem dX0_bestOf_66 : decode cX0_bestOf 66 = .ok (.invokevirtual 92, 3) := by decide +kernel
theorem dX0_bestOf_69 : decode cX0_bestOf 69 = .ok (.ior, 1) := by decide +kernel
theorem dX0_bestOf_70 : decode cX0_bestOf 70 = .ok (.invokevirtual 95, 3) := by decide +kernel
theorem dX0_bestOf_73 : decode cX0_bestOf 73 = .ok (.istore 9, 2) := by decide +kernel
theorem dX0_bestOf_75 : decode cX0_bestOf 75 = .ok (.iload 9, 2) := by decide +kernel
theorem dX0_bestOf_77 : decode cX0_bestOf 77 = .ok (.iload 6, 2) := by decide +kernel
theorem dX0_bestOf_79 : decode cX0_bestOf 79 = .ok (.if_icmp .ne 6, 3) := by decide +kernel
theorem dX0_bestOf_82 : decode cX0_bestOf 82 = .ok (.lload 7, 2) := by decide +kernel
theorem dX0_bestOf_84 : decode cX0_bestOf 84 = .ok (.lreturn, 1) := by decide +kernel
theorem dX0_bestOf_85 : decode cX0_bestOf 85 = .ok (.lload 7, 2) := by decide +kernel
theorem dX0_bestOf_87 : decode cX0_bestOf 87 = .ok (.aload_n 0, 1) := by decide +kernel
theorem dX0_bestOf_88 : decode cX0_bestOf 88 = .ok (.iload 9, 2) := by decide +kernel
theorem dX0_bestOf_90 : decode cX0_bestOf 90 = .ok (.iload_n 1, 1) := by decide +kernel
theorem dX0_bestOf_91 : decode cX0_bestOf 91 = .ok (.iload_n 2, 1) := by decide +kernel
theorem dX0_bestOf_92 : decode cX0_bestOf 92 = .ok (.iload_n 3, 1) := by decide +kernel
theorem dX0_bestOf_93 : decode cX0_bestOf 93 = .ok (.iload 4, 2) := by decide +kernel
theorem dX0_bestOf_95 : decode cX0_bestOf 95 = .ok (.invokevirtual 99, 3) := by decide +kernel
theorem dX0_bestOf_98 : decode cX0_bestOf 98 = .ok (.invokestatic 106, 3) := by decide +kernel
theorem dX0_bestOf_101 : decode cX0_bestOf 101 = .ok (.lreturn, 1) := by decide +kernel
theorem dX0_withSayers_0 : decode cX0_withSayers 0 = .ok (.iload_n 3, 1) := by decide +kernel
theorem dX0_withSayers_1 : decode cX0_withSayers 1 = .ok (.ifCond .le 8, 3) := by decide +kernel
theorem dX0_withSayers_4 : decode cX0_withSayers 4 = .ok (.iload_n 3, 1) := by decide +kernel
theorem dX0_withSayers_5 : decode cX0_withSayers 5 = .ok (.iconst 3, 1) := by decide +kernel
theorem dX0_withSayers_6 : decode cX0_withSayers 6 = .ok (.if_icmp .le 5, 3) := by decide +kernel
theorem dX0_withSayers_9 : decode cX0_withSayers 9 = .ok (.lconst 0, 1) := by decide +kernel
theorem dX0_withSayers_10 : decode cX0_withSayers 10 = .ok (.lreturn, 1) := by decide +kernel
theorem dX0_withSayers_11 : decode cX0_withSayers 11 = .ok (.aload_n 0, 1) := by decide +kernel
theorem dX0_withSayers_12 : decode cX0_withSayers 12 = .ok (.iload_n 2, 1) := by decide +kernel
theorem dX0_withSayers_13 : decode cX0_withSayers 13 = .ok (.aload_n 0, 1) := by decide +kernel
theorem dX0_withSayers_14 : decode cX0_withSayers 14 = .ok (.getfield 12, 3) := by decide +kernel
theorem dX0_withSayers_17 : decode cX0_withSayers 17 = .ok (.iload_n 1, 1) := by decide +kernel
theorem dX0_withSayers_18 : decode cX0_withSayers 18 = .ok (.invokevirtual 61, 3) := by decide +kernel
theorem dX0_withSayers_21 : decode cX0_withSayers 21 = .ok (.invokevirtual 65, 3) := by decide +kernel
theorem dX0_withSayers_24 : decode cX0_withSayers 24 = .ok (.aload_n 0, 1) := by decide +kernel
theorem dX0_withSayers_25 : decode cX0_withSayers 25 = .ok (.getfield 18, 3) := by decide +kernel
theorem dX0_withSayers_28 : decode cX0_withSayers 28 = .ok (.iload_n 3, 1) := by decide +kernel
theorem dX0_withSayers_29 : decode cX0_withSayers 29 = .ok (.iconst 1, 1) := by decide +kernel
theorem dX0_withSayers_30 : decode cX0_withSayers 30 = .ok (.isub, 1) := by decide +kernel
theorem dX0_withSayers_31 : decode cX0_withSayers 31 = .ok (.laload, 1) := by decide +kernel
theorem dX0_withSayers_32 : decode cX0_withSayers 32 = .ok (.lmul, 1) := by decide +kernel
theorem dX0_withSayers_33 : decode cX0_withSayers 33 = .ok (.lstore 6, 2) := by decide +kernel
theorem dX0_withSayers_35 : decode cX0_withSayers 35 = .ok (.iload_n 3, 1) := by decide +kernel
theorem dX0_withSayers_36 : decode cX0_withSayers 36 = .ok (.iconst 1, 1) := by decide +kernel
theorem dX0_withSayers_37 : decode cX0_withSayers 37 = .ok (.if_icmp .ne 6, 3) := by decide +kernel
theorem dX0_withSayers_40 : decode cX0_withSayers 40 = .ok (.lload 6, 2) := by decide +kernel
theorem dX0_withSayers_42 : decode cX0_withSayers 42 = .ok (.lreturn, 1) := by decide +kernel
theorem dX0_withSayers_43 : decode cX0_withSayers 43 = .ok (.lload 6, 2) := by decide +kernel
theorem dX0_withSayers_45 : decode cX0_withSayers 45 = .ok (.aload_n 0, 1) := by decide +kernel
theorem dX0_withSayers_46 : decode cX0_withSayers 46 = .ok (.iload_n 3, 1) := by decide +kernel
theorem dX0_withSayers_47 : decode cX0_withSayers 47 = .ok (.iconst 1, 1) := by decide +kernel
theorem dX0_withSayers_48 : decode cX0_withSayers 48 = .ok (.isub, 1) := by decide +kernel
theorem dX0_withSayers_49 : decode cX0_withSayers 49 = .ok (.iload 4, 2) := by decide +kernel
theorem dX0_withSayers_51 : decode cX0_withSayers 51 = .ok (.iconst 1, 1) := by decide +kernel
theorem dX0_withSayers_52 : decode cX0_withSayers 52 = .ok (.iadd, 1) := by decide +kernel
theorem dX0_withSayers_53 : decode cX0_withSayers 53 = .ok (.aload_n 0, 1) := by decide +kernel
theorem dX0_withSayers_54 : decode cX0_withSayers 54 = .ok (.getfield 12, 3) := by decide +kernel
theorem dX0_withSayers_57 : decode cX0_withSayers 57 = .ok (.iload_n 1, 1) := by decide +kernel
theorem dX0_withSayers_58 : decode cX0_withSayers 58 = .ok (.iload 4, 2) := by decide +kernel
theorem dX0_withSayers_60 : decode cX0_withSayers 60 = .ok (.iload 5, 2) := by decide +kernel
theorem dX0_withSayers_62 : decode cX0_withSayers 62 = .ok (.invokevirtual 69, 3) := by decide +kernel
theorem dX0_withSayers_65 : decode cX0_withSayers 65 = .ok (.invokevirtual 82, 3) := by decide +kernel
theorem dX0_withSayers_68 : decode cX0_withSayers 68 = .ok (.ladd, 1) := by decide +kernel
theorem dX0_withSayers_69 : decode cX0_withSayers 69 = .ok (.lreturn, 1) := by decide +kernel
theorem dX0_ownBit_0 : decode cX0_ownBit 0 = .ok (.iconst 1, 1) := by decide +kernel
theorem dX0_ownBit_1 : decode cX0_ownBit 1 = .ok (.aload_n 0, 1) := by decide +kernel
theorem dX0_ownBit_2 : decode cX0_ownBit 2 = .ok (.getfield 22, 3) := by decide +kernel
theorem dX0_ownBit_5 : decode cX0_ownBit 5 = .ok (.ishl, 1) := by decide +kernel
theorem dX0_ownBit_6 : decode cX0_ownBit 6 = .ok (.ireturn, 1) := by decide +kernel
theorem dX0_isNoBetter_0 : decode cX0_isNoBetter 0 = .ok (.aload_n 0, 1) := by decide +kernel
theorem dX0_isNoBetter_1 : decode cX0_isNoBetter 1 = .ok (.getfield 12, 3) := by decide +kernel
theorem dX0_isNoBetter_4 : decode cX0_isNoBetter 4 = .ok (.getfield 40, 3) := by decide +kernel
theorem dX0_isNoBetter_7 : decode cX0_isNoBetter 7 = .ok (.iconst 3, 1) := by decide +kernel
theorem dX0_isNoBetter_8 : decode cX0_isNoBetter 8 = .ok (.iaload, 1) := by decide +kernel
theorem dX0_isNoBetter_9 : decode cX0_isNoBetter 9 = .ok (.istore_n 3, 1) := by decide +kernel
theorem dX0_isNoBetter_10 : decode cX0_isNoBetter 10 = .ok (.aload_n 0, 1) := by decide +kernel
theorem dX0_isNoBetter_11 : decode cX0_isNoBetter 11 = .ok (.getfield 12, 3) := by decide +kernel
theorem dX0_isNoBetter_14 : decode cX0_isNoBetter 14 = .ok (.invokevirtual 44, 3) := by decide +kernel
theorem dX0_isNoBetter_17 : decode cX0_isNoBetter 17 = .ok (.istore 4, 2) := by decide +kernel
theorem dX0_isNoBetter_19 : decode cX0_isNoBetter 19 = .ok (.aload_n 0, 1) := by decide +kernel
theorem dX0_isNoBetter_20 : decode cX0_isNoBetter 20 = .ok (.getfield 12, 3) := by decide +kernel
theorem dX0_isNoBetter_23 : decode cX0_isNoBetter 23 = .ok (.iload_n 1, 1) := by decide +kernel
theorem dX0_isNoBetter_24 : decode cX0_isNoBetter 24 = .ok (.iload_n 3, 1) := by decide +kernel
theorem dX0_isNoBetter_25 : decode cX0_isNoBetter 25 = .ok (.iload 4, 2) := by decide +kernel
theorem dX0_isNoBetter_27 : decode cX0_isNoBetter 27 = .ok (.invokevirtual 89, 3) := by decide +kernel
theorem dX0_isNoBetter_30 : decode cX0_isNoBetter 30 = .ok (.istore 5, 2) := by decide +kernel
theorem dX0_isNoBetter_32 : decode cX0_isNoBetter 32 = .ok (.aload_n 0, 1) := by decide +kernel
theorem dX0_isNoBetter_33 : decode cX0_isNoBetter 33 = .ok (.getfield 12, 3) := by decide +kernel
theorem dX0_isNoBetter_36 : decode cX0_isNoBetter 36 = .ok (.iload 5, 2) := by decide +kernel
theorem dX0_isNoBetter_38 : decode cX0_isNoBetter 38 = .ok (.aload_n 0, 1) := by decide +kernel
theorem dX0_isNoBetter_39 : decode cX0_isNoBetter 39 = .ok (.invokevirtual 92, 3) := by decide +kernel
theorem dX0_isNoBetter_42 : decode cX0_isNoBetter 42 = .ok (.ior, 1) := by decide +kernel
theorem dX0_isNoBetter_43 : decode cX0_isNoBetter 43 = .ok (.invokevirtual 95, 3) := by decide +kernel
theorem dX0_isNoBetter_46 : decode cX0_isNoBetter 46 = .ok (.istore 6, 2) := by decide +kernel
theorem dX0_isNoBetter_48 : decode cX0_isNoBetter 48 = .ok (.aload_n 0, 1) := by decide +kernel
theorem dX0_isNoBetter_49 : decode cX0_isNoBetter 49 = .ok (.getfield 12, 3) := by decide +kernel
theorem dX0_isNoBetter_52 : decode cX0_isNoBetter 52 = .ok (.iload 5, 2) := by decide +kernel
theorem dX0_isNoBetter_54 : decode cX0_isNoBetter 54 = .ok (.aload_n 0, 1) := by decide +kernel
theorem dX0_isNoBetter_55 : decode cX0_isNoBetter 55 = .ok (.invokevirtual 92, 3) := by decide +kernel
theorem dX0_isNoBetter_58 : decode cX0_isNoBetter 58 = .ok (.iconst (-1), 1) := by decide +kernel
theorem dX0_isNoBetter_59 : decode cX0_isNoBetter 59 = .ok (.ixor, 1) := by decide +kernel
theorem dX0_isNoBetter_60 : decode cX0_isNoBetter 60 = .ok (.iand, 1) := by decide +kernel
theorem dX0_isNoBetter_61 : decode cX0_isNoBetter 61 = .ok (.invokevirtual 95, 3) := by decide +kernel
theorem dX0_isNoBetter_64 : decode cX0_isNoBetter 64 = .ok (.istore 7, 2) := by decide +kernel
theorem dX0_isNoBetter_66 : decode cX0_isNoBetter 66 = .ok (.iload 6, 2) := by decide +kernel
theorem dX0_isNoBetter_68 : decode cX0_isNoBetter 68 = .ok (.iload 7, 2) := by decide +kernel
theorem dX0_isNoBetter_70 : decode cX0_isNoBetter 70 = .ok (.if_icmp .ne 5, 3) := by decide +kernel
theorem dX0_isNoBetter_73 : decode cX0_isNoBetter 73 = .ok (.iconst 0, 1) := by decide +kernel
theorem dX0_isNoBetter_74 : decode cX0_isNoBetter 74 = .ok (.ireturn, 1) := by decide +kernel
theorem dX0_isNoBetter_75 : decode cX0_isNoBetter 75 = .ok (.aload_n 0, 1) := by decide +kernel
theorem dX0_isNoBetter_76 : decode cX0_isNoBetter 76 = .ok (.iload 6, 2) := by decide +kernel
theorem dX0_isNoBetter_78 : decode cX0_isNoBetter 78 = .ok (.iload_n 1, 1) := by decide +kernel
theorem dX0_isNoBetter_79 : decode cX0_isNoBetter 79 = .ok (.iload_n 2, 1) := by decide +kernel
theorem dX0_isNoBetter_80 : decode cX0_isNoBetter 80 = .ok (.iload_n 3, 1) := by decide +kernel
theorem dX0_isNoBetter_81 : decode cX0_isNoBetter 81 = .ok (.iload 4, 2) := by decide +kernel
theorem dX0_isNoBetter_83 : decode cX0_isNoBetter 83 = .ok (.invokevirtual 99, 3) := by decide +kernel
theorem dX0_isNoBetter_86 : decode cX0_isNoBetter 86 = .ok (.aload_n 0, 1) := by decide +kernel
theorem dX0_isNoBetter_87 : decode cX0_isNoBetter 87 = .ok (.iload 7, 2) := by decide +kernel
theorem dX0_isNoBetter_89 : decode cX0_isNoBetter 89 = .ok (.iload_n 1, 1) := by decide +kernel
theorem dX0_isNoBetter_90 : decode cX0_isNoBetter 90 = .ok (.iload_n 2, 1) := by decide +kernel
theorem dX0_isNoBetter_91 : decode cX0_isNoBetter 91 = .ok (.iload_n 3, 1) := by decide +kernel
theorem dX0_isNoBetter_92 : decode cX0_isNoBetter 92 = .ok (.iload 4, 2) := by decide +kernel
theorem dX0_isNoBetter_94 : decode cX0_isNoBetter 94 = .ok (.invokevirtual 99, 3) := by decide +kernel
theorem dX0_isNoBetter_97 : decode cX0_isNoBetter 97 = .ok (.lcmp, 1) := by decide +kernel
theorem dX0_isNoBetter_98 : decode cX0_isNoBetter 98 = .ok (.ifCond .le 7, 3) := by decide +kernel
theorem dX0_isNoBetter_101 : decode cX0_isNoBetter 101 = .ok (.iconst 1, 1) := by decide +kernel
theorem dX0_isNoBetter_102 : decode cX0_isNoBetter 102 = .ok (.goto 4, 3) := by decide +kernel
theorem dX0_isNoBetter_105 : decode cX0_isNoBetter 105 = .ok (.iconst 0, 1) := by decide +kernel
theorem dX0_isNoBetter_106 : decode cX0_isNoBetter 106 = .ok (.ireturn, 1) := by decide +kernel
theorem dX0_bestBar_0 : decode cX0_bestBar 0 = .ok (.aload_n 0, 1) := by decide +kernel
theorem dX0_bestBar_1 : decode cX0_bestBar 1 = .ok (.getfield 12, 3) := by decide +kernel
theorem dX0_bestBar_4 : decode cX0_bestBar 4 = .ok (.getfield 109, 3) := by decide +kernel
theorem dX0_bestBar_7 : decode cX0_bestBar 7 = .ok (.iload_n 1, 1) := by decide +kernel
theorem dX0_bestBar_8 : decode cX0_bestBar 8 = .ok (.iconst 2, 1) := by decide +kernel
theorem dX0_bestBar_9 : decode cX0_bestBar 9 = .ok (.iastore, 1) := by decide +kernel
theorem dX0_bestBar_10 : decode cX0_bestBar 10 = .ok (.iconst 0, 1) := by decide +kernel
theorem dX0_bestBar_11 : decode cX0_bestBar 11 = .ok (.istore_n 3, 1) := by decide +kernel
theorem dX0_bestBar_12 : decode cX0_bestBar 12 = .ok (.lconst 0, 1) := by decide +kernel
theorem dX0_bestBar_13 : decode cX0_bestBar 13 = .ok (.lstore 4, 2) := by decide +kernel
theorem dX0_bestBar_15 : decode cX0_bestBar 15 = .ok (.iconst 0, 1) := by decide +kernel
theorem dX0_bestBar_16 : decode cX0_bestBar 16 = .ok (.istore 6, 2) := by decide +kernel
theorem dX0_bestBar_18 : decode cX0_bestBar 18 = .ok (.iload 6, 2) := by decide +kernel
theorem dX0_bestBar_20 : decode cX0_bestBar 20 = .ok (.bipush 9, 2) := by decide +kernel
theorem dX0_bestBar_22 : decode cX0_bestBar 22 = .ok (.if_icmp .gt 47, 3) := by decide +kernel
theorem dX0_bestBar_25 : decode cX0_bestBar 25 = .ok (.aload_n 0, 1) := by decide +kernel
theorem dX0_bestBar_26 : decode cX0_bestBar 26 = .ok (.getfield 12, 3) := by decide +kernel
theorem dX0_bestBar_29 : decode cX0_bestBar 29 = .ok (.getfield 112, 3) := by decide +kernel
theorem dX0_bestBar_32 : decode cX0_bestBar 32 = .ok (.iload_n 1, 1) := by decide +kernel
theorem dX0_bestBar_33 : decode cX0_bestBar 33 = .ok (.iload 6, 2) := by decide +kernel
theorem dX0_bestBar_35 : decode cX0_bestBar 35 = .ok (.iastore, 1) := by decide +kernel
theorem dX0_bestBar_36 : decode cX0_bestBar 36 = .ok (.aload_n 0, 1) := by decide +kernel
theorem dX0_bestBar_37 : decode cX0_bestBar 37 = .ok (.iload_n 2, 1) := by decide +kernel
theorem dX0_bestBar_38 : decode cX0_bestBar 38 = .ok (.invokevirtual 115, 3) := by decide +kernel
theorem dX0_bestBar_41 : decode cX0_bestBar 41 = .ok (.lstore 7, 2) := by decide +kernel
theorem dX0_bestBar_43 : decode cX0_bestBar 43 = .ok (.iload 6, 2) := by decide +kernel
theorem dX0_bestBar_45 : decode cX0_bestBar 45 = .ok (.ifCond .eq 11, 3) := by decide +kernel
theorem dX0_bestBar_48 : decode cX0_bestBar 48 = .ok (.lload 7, 2) := by decide +kernel
theorem dX0_bestBar_50 : decode cX0_bestBar 50 = .ok (.lload 4, 2) := by decide +kernel
theorem dX0_bestBar_52 : decode cX0_bestBar 52 = .ok (.lcmp, 1) := by decide +kernel
theorem dX0_bestBar_53 : decode cX0_bestBar 53 = .ok (.ifCond .le 10, 3) := by decide +kernel
theorem dX0_bestBar_56 : decode cX0_bestBar 56 = .ok (.lload 7, 2) := by decide +kernel
theorem dX0_bestBar_58 : decode cX0_bestBar 58 = .ok (.lstore 4, 2) := by decide +kernel
theorem dX0_bestBar_60 : decode cX0_bestBar 60 = .ok (.iload 6, 2) := by decide +kernel
theorem dX0_bestBar_62 : decode cX0_bestBar 62 = .ok (.istore_n 3, 1) := by decide +kernel
theorem dX0_bestBar_63 : decode cX0_bestBar 63 = .ok (.iinc 6 1, 3) := by decide +kernel
theorem dX0_bestBar_66 : decode cX0_bestBar 66 = .ok (.goto (-48), 3) := by decide +kernel
theorem dX0_bestBar_69 : decode cX0_bestBar 69 = .ok (.iload_n 3, 1) := by decide +kernel
theorem dX0_bestBar_70 : decode cX0_bestBar 70 = .ok (.ireturn, 1) := by decide +kernel
theorem dX0_leastHarm_0 : decode cX0_leastHarm 0 = .ok (.iconst 0, 1) := by decide +kernel
theorem dX0_leastHarm_1 : decode cX0_leastHarm 1 = .ok (.istore_n 2, 1) := by decide +kernel
theorem dX0_leastHarm_2 : decode cX0_leastHarm 2 = .ok (.lconst 0, 1) := by decide +kernel
theorem dX0_leastHarm_3 : decode cX0_leastHarm 3 = .ok (.lstore_n 3, 1) := by decide +kernel
theorem dX0_leastHarm_4 : decode cX0_leastHarm 4 = .ok (.iconst 0, 1) := by decide +kernel
theorem dX0_leastHarm_5 : decode cX0_leastHarm 5 = .ok (.istore 5, 2) := by decide +kernel
theorem dX0_leastHarm_7 : decode cX0_leastHarm 7 = .ok (.iload 5, 2) := by decide +kernel
theorem dX0_leastHarm_9 : decode cX0_leastHarm 9 = .ok (.iconst 1, 1) := by decide +kernel
theorem dX0_leastHarm_10 : decode cX0_leastHarm 10 = .ok (.if_icmp .gt 76, 3) := by decide +kernel
theorem dX0_leastHarm_13 : decode cX0_leastHarm 13 = .ok (.iconst 1, 1) := by decide +kernel
theorem dX0_leastHarm_14 : decode cX0_leastHarm 14 = .ok (.istore 6, 2) := by decide +kernel
theorem dX0_leastHarm_16 : decode cX0_leastHarm 16 = .ok (.iload 6, 2) := by decide +kernel
theorem dX0_leastHarm_18 : decode cX0_leastHarm 18 = .ok (.iconst 3, 1) := by decide +kernel
theorem dX0_leastHarm_19 : decode cX0_leastHarm 19 = .ok (.if_icmp .gt 61, 3) := by decide +kernel
theorem dX0_leastHarm_22 : decode cX0_leastHarm 22 = .ok (.aload_n 0, 1) := by decide +kernel
theorem dX0_leastHarm_23 : decode cX0_leastHarm 23 = .ok (.getfield 12, 3) := by decide +kernel
theorem dX0_leastHarm_26 : decode cX0_leastHarm 26 = .ok (.getfield 40, 3) := by decide +kernel
theorem dX0_leastHarm_29 : decode cX0_leastHarm 29 = .ok (.iconst 1, 1) := by decide +kernel
theorem dX0_leastHarm_30 : decode cX0_leastHarm 30 = .ok (.iload 5, 2) := by decide +kernel
theorem dX0_leastHarm_32 : decode cX0_leastHarm 32 = .ok (.iastore, 1) := by decide +kernel
theorem dX0_leastHarm_33 : decode cX0_leastHarm 33 = .ok (.aload_n 0, 1) := by decide +kernel
theorem dX0_leastHarm_34 : decode cX0_leastHarm 34 = .ok (.getfield 12, 3) := by decide +kernel
theorem dX0_leastHarm_37 : decode cX0_leastHarm 37 = .ok (.getfield 40, 3) := by decide +kernel
theorem dX0_leastHarm_40 : decode cX0_leastHarm 40 = .ok (.iconst 0, 1) := by decide +kernel
theorem dX0_leastHarm_41 : decode cX0_leastHarm 41 = .ok (.iload 6, 2) := by decide +kernel
theorem dX0_leastHarm_43 : decode cX0_leastHarm 43 = .ok (.iastore, 1) := by decide +kernel
theorem dX0_leastHarm_44 : decode cX0_leastHarm 44 = .ok (.aload_n 0, 1) := by decide +kernel
theorem dX0_leastHarm_45 : decode cX0_leastHarm 45 = .ok (.iload_n 1, 1) := by decide +kernel
theorem dX0_leastHarm_46 : decode cX0_leastHarm 46 = .ok (.invokevirtual 115, 3) := by decide +kernel
theorem dX0_leastHarm_49 : decode cX0_leastHarm 49 = .ok (.lstore 7, 2) := by decide +kernel
theorem dX0_leastHarm_51 : decode cX0_leastHarm 51 = .ok (.iload_n 2, 1) := by decide +kernel
theorem dX0_leastHarm_52 : decode cX0_leastHarm 52 = .ok (.ifCond .eq 10, 3) := by decide +kernel
theorem dX0_leastHarm_55 : decode cX0_leastHarm 55 = .ok (.lload 7, 2) := by decide +kernel
theorem dX0_leastHarm_57 : decode cX0_leastHarm 57 = .ok (.lload_n 3, 1) := by decide +kernel
theorem dX0_leastHarm_58 : decode cX0_leastHarm 58 = .ok (.lcmp, 1) := by decide +kernel
theorem dX0_leastHarm_59 : decode cX0_leastHarm 59 = .ok (.ifCond .le 15, 3) := by decide +kernel
theorem dX0_leastHarm_62 : decode cX0_leastHarm 62 = .ok (.lload 7, 2) := by decide +kernel
theorem dX0_leastHarm_64 : decode cX0_leastHarm 64 = .ok (.lstore_n 3, 1) := by decide +kernel
theorem dX0_leastHarm_65 : decode cX0_leastHarm 65 = .ok (.bipush 10, 2) := by decide +kernel
theorem dX0_leastHarm_67 : decode cX0_leastHarm 67 = .ok (.iload 5, 2) := by decide +kernel
theorem dX0_leastHarm_69 : decode cX0_leastHarm 69 = .ok (.imul, 1) := by decide +kernel
theorem dX0_leastHarm_70 : decode cX0_leastHarm 70 = .ok (.iload 6, 2) := by decide +kernel
theorem dX0_leastHarm_72 : decode cX0_leastHarm 72 = .ok (.iadd, 1) := by decide +kernel
theorem dX0_leastHarm_73 : decode cX0_leastHarm 73 = .ok (.istore_n 2, 1) := by decide +kernel
theorem dX0_leastHarm_74 : decode cX0_leastHarm 74 = .ok (.iinc 6 1, 3) := by decide +kernel
theorem dX0_leastHarm_77 : decode cX0_leastHarm 77 = .ok (.goto (-61), 3) := by decide +kernel
theorem dX0_leastHarm_80 : decode cX0_leastHarm 80 = .ok (.iinc 5 1, 3) := by decide +kernel
theorem dX0_leastHarm_83 : decode cX0_leastHarm 83 = .ok (.goto (-76), 3) := by decide +kernel
theorem dX0_leastHarm_86 : decode cX0_leastHarm 86 = .ok (.iload_n 2, 1) := by decide +kernel
theorem dX0_leastHarm_87 : decode cX0_leastHarm 87 = .ok (.ireturn, 1) := by decide +kernel
theorem dX0_rowThatLets_0 : decode cX0_rowThatLets 0 = .ok (.aload_n 0, 1) := by decide +kernel
theorem dX0_rowThatLets_1 : decode cX0_rowThatLets 1 = .ok (.iload_n 1, 1) := by decide +kernel
theorem dX0_rowThatLets_2 : decode cX0_rowThatLets 2 = .ok (.iload_n 2, 1) := by decide +kernel
theorem dX0_rowThatLets_3 : decode cX0_rowThatLets 3 = .ok (.aload_n 0, 1) := by decide +kernel
theorem dX0_rowThatLets_4 : decode cX0_rowThatLets 4 = .ok (.getfield 12, 3) := by decide +kernel
theorem dX0_rowThatLets_7 : decode cX0_rowThatLets 7 = .ok (.getfield 40, 3) := by decide +kernel
theorem dX0_rowThatLets_10 : decode cX0_rowThatLets 10 = .ok (.iconst 3, 1) := by decide +kernel
theorem dX0_rowThatLets_11 : decode cX0_rowThatLets 11 = .ok (.iaload, 1) := by decide +kernel
theorem dX0_rowThatLets_12 : decode cX0_rowThatLets 12 = .ok (.aload_n 0, 1) := by decide +kernel
theorem dX0_rowThatLets_13 : decode cX0_rowThatLets 13 = .ok (.getfield 12, 3) := by decide +kernel
theorem dX0_rowThatLets_16 : decode cX0_rowThatLets 16 = .ok (.invokevirtual 44, 3) := by decide +kernel
theorem dX0_rowThatLets_19 : decode cX0_rowThatLets 19 = .ok (.invokevirtual 119, 3) := by decide +kernel
theorem dX0_rowThatLets_22 : decode cX0_rowThatLets 22 = .ok (.ireturn, 1) := by decide +kernel
theorem dX0_rowFrom_0 : decode cX0_rowFrom 0 = .ok (.iload_n 2, 1) := by decide +kernel
theorem dX0_rowFrom_1 : decode cX0_rowFrom 1 = .ok (.iconst 3, 1) := by decide +kernel
theorem dX0_rowFrom_2 : decode cX0_rowFrom 2 = .ok (.if_icmp .le 5, 3) := by decide +kernel
theorem dX0_rowFrom_5 : decode cX0_rowFrom 5 = .ok (.iconst (-1), 1) := by decide +kernel
theorem dX0_rowFrom_6 : decode cX0_rowFrom 6 = .ok (.ireturn, 1) := by decide +kernel
theorem dX0_rowFrom_7 : decode cX0_rowFrom 7 = .ok (.iload_n 2, 1) := by decide +kernel
theorem dX0_rowFrom_8 : decode cX0_rowFrom 8 = .ok (.ifCond .gt 30, 3) := by decide +kernel
theorem dX0_rowFrom_11 : decode cX0_rowFrom 11 = .ok (.aload_n 0, 1) := by decide +kernel
theorem dX0_rowFrom_12 : decode cX0_rowFrom 12 = .ok (.getfield 12, 3) := by decide +kernel
theorem dX0_rowFrom_15 : decode cX0_rowFrom 15 = .ok (.aload_n 0, 1) := by decide +kernel
theorem dX0_rowFrom_16 : decode cX0_rowFrom 16 = .ok (.getfield 12, 3) := by decide +kernel
theorem dX0_rowFrom_19 : decode cX0_rowFrom 19 = .ok (.iload_n 1, 1) := by decide +kernel
theorem dX0_rowFrom_20 : decode cX0_rowFrom 20 = .ok (.iload_n 3, 1) := by decide +kernel
theorem dX0_rowFrom_21 : decode cX0_rowFrom 21 = .ok (.iload 4, 2) := by decide +kernel
theorem dX0_rowFrom_23 : decode cX0_rowFrom 23 = .ok (.invokevirtual 57, 3) := by decide +kernel
theorem dX0_rowFrom_26 : decode cX0_rowFrom 26 = .ok (.invokevirtual 61, 3) := by decide +kernel
theorem dX0_rowFrom_29 : decode cX0_rowFrom 29 = .ok (.ifCond .eq 7, 3) := by decide +kernel
theorem dX0_rowFrom_32 : decode cX0_rowFrom 32 = .ok (.iconst (-1), 1) := by decide +kernel
theorem dX0_rowFrom_33 : decode cX0_rowFrom 33 = .ok (.goto 4, 3) := by decide +kernel
theorem dX0_rowFrom_36 : decode cX0_rowFrom 36 = .ok (.iconst 0, 1) := by decide +kernel
theorem dX0_rowFrom_37 : decode cX0_rowFrom 37 = .ok (.ireturn, 1) := by decide +kernel
theorem dX0_rowFrom_38 : decode cX0_rowFrom 38 = .ok (.iconst 0, 1) := by decide +kernel
theorem dX0_rowFrom_39 : decode cX0_rowFrom 39 = .ok (.istore 5, 2) := by decide +kernel
theorem dX0_rowFrom_41 : decode cX0_rowFrom 41 = .ok (.iload 5, 2) := by decide +kernel
theorem dX0_rowFrom_43 : decode cX0_rowFrom 43 = .ok (.aload_n 0, 1) := by decide +kernel
theorem dX0_rowFrom_44 : decode cX0_rowFrom 44 = .ok (.getfield 12, 3) := by decide +kernel
theorem dX0_rowFrom_47 : decode cX0_rowFrom 47 = .ok (.getfield 51, 3) := by decide +kernel
theorem dX0_rowFrom_50 : decode cX0_rowFrom 50 = .ok (.if_icmp .ge 62, 3) := by decide +kernel
theorem dX0_rowFrom_53 : decode cX0_rowFrom 53 = .ok (.aload_n 0, 1) := by decide +kernel
theorem dX0_rowFrom_54 : decode cX0_rowFrom 54 = .ok (.getfield 12, 3) := by decide +kernel
theorem dX0_rowFrom_57 : decode cX0_rowFrom 57 = .ok (.aload_n 0, 1) := by decide +kernel
theorem dX0_rowFrom_58 : decode cX0_rowFrom 58 = .ok (.getfield 12, 3) := by decide +kernel
theorem dX0_rowFrom_61 : decode cX0_rowFrom 61 = .ok (.iload 5, 2) := by decide +kernel
theorem dX0_rowFrom_63 : decode cX0_rowFrom 63 = .ok (.iload_n 3, 1) := by decide +kernel
theorem dX0_rowFrom_64 : decode cX0_rowFrom 64 = .ok (.iload 4, 2) := by decide +kernel
theorem dX0_rowFrom_66 : decode cX0_rowFrom 66 = .ok (.invokevirtual 57, 3) := by decide +kernel
theorem dX0_rowFrom_69 : decode cX0_rowFrom 69 = .ok (.iload_n 3, 1) := by decide +kernel
theorem dX0_rowFrom_70 : decode cX0_rowFrom 70 = .ok (.iload 4, 2) := by decide +kernel
theorem dX0_rowFrom_72 : decode cX0_rowFrom 72 = .ok (.invokevirtual 69, 3) := by decide +kernel
theorem dX0_rowFrom_75 : decode cX0_rowFrom 75 = .ok (.istore 6, 2) := by decide +kernel
theorem dX0_rowFrom_77 : decode cX0_rowFrom 77 = .ok (.aload_n 0, 1) := by decide +kernel
theorem dX0_rowFrom_78 : decode cX0_rowFrom 78 = .ok (.iload_n 1, 1) := by decide +kernel
theorem dX0_rowFrom_79 : decode cX0_rowFrom 79 = .ok (.iload_n 2, 1) := by decide +kernel
theorem dX0_rowFrom_80 : decode cX0_rowFrom 80 = .ok (.iconst 1, 1) := by decide +kernel
theorem dX0_rowFrom_81 : decode cX0_rowFrom 81 = .ok (.isub, 1) := by decide +kernel
theorem dX0_rowFrom_82 : decode cX0_rowFrom 82 = .ok (.iload_n 3, 1) := by decide +kernel
theorem dX0_rowFrom_83 : decode cX0_rowFrom 83 = .ok (.iconst 1, 1) := by decide +kernel
theorem dX0_rowFrom_84 : decode cX0_rowFrom 84 = .ok (.iadd, 1) := by decide +kernel
theorem dX0_rowFrom_85 : decode cX0_rowFrom 85 = .ok (.iload 6, 2) := by decide +kernel
theorem dX0_rowFrom_87 : decode cX0_rowFrom 87 = .ok (.invokevirtual 119, 3) := by decide +kernel
theorem dX0_rowFrom_90 : decode cX0_rowFrom 90 = .ok (.istore 7, 2) := by decide +kernel
theorem dX0_rowFrom_92 : decode cX0_rowFrom 92 = .ok (.iload 7, 2) := by decide +kernel
theorem dX0_rowFrom_94 : decode cX0_rowFrom 94 = .ok (.ifCond .lt 12, 3) := by decide +kernel
theorem dX0_rowFrom_97 : decode cX0_rowFrom 97 = .ok (.iload 7, 2) := by decide +kernel
theorem dX0_rowFrom_99 : decode cX0_rowFrom 99 = .ok (.bipush 8, 2) := by decide +kernel
theorem dX0_rowFrom_101 : decode cX0_rowFrom 101 = .ok (.imul, 1) := by decide +kernel
theorem dX0_rowFrom_102 : decode cX0_rowFrom 102 = .ok (.iload 5, 2) := by decide +kernel
theorem dX0_rowFrom_104 : decode cX0_rowFrom 104 = .ok (.iadd, 1) := by decide +kernel
theorem dX0_rowFrom_105 : decode cX0_rowFrom 105 = .ok (.ireturn, 1) := by decide +kernel
theorem dX0_rowFrom_106 : decode cX0_rowFrom 106 = .ok (.iinc 5 1, 3) := by decide +kernel
theorem dX0_rowFrom_109 : decode cX0_rowFrom 109 = .ok (.goto (-68), 3) := by decide +kernel
theorem dX0_rowFrom_112 : decode cX0_rowFrom 112 = .ok (.iconst (-1), 1) := by decide +kernel
theorem dX0_rowFrom_113 : decode cX0_rowFrom 113 = .ok (.ireturn, 1) := by decide +kernel
theorem dX1_init_0 : decode cX1_init 0 = .ok (.aload_n 0, 1) := by decide +kernel
theorem dX1_init_1 : decode cX1_init 1 = .ok (.aload_n 1, 1) := by decide +kernel
theorem dX1_init_2 : decode cX1_init 2 = .ok (.invokespecial 1, 3) := by decide +kernel
theorem dX1_init_5 : decode cX1_init 5 = .ok (.return_, 1) := by decide +kernel
theorem dX1_bars_0 : decode cX1_bars 0 = .ok (.aload_n 0, 1) := by decide +kernel
theorem dX1_bars_1 : decode cX1_bars 1 = .ok (.getfield 7, 3) := by decide +kernel
theorem dX1_bars_4 : decode cX1_bars 4 = .ok (.bipush 30, 2) := by decide +kernel
theorem dX1_bars_6 : decode cX1_bars 6 = .ok (.invokevirtual 13, 3) := by decide +kernel
theorem dX1_bars_9 : decode cX1_bars 9 = .ok (.aload_n 0, 1) := by decide +kernel
theorem dX1_bars_10 : decode cX1_bars 10 = .ok (.iload_n 1, 1) := by decide +kernel
theorem dX1_bars_11 : decode cX1_bars 11 = .ok (.invokespecial 19, 3) := by decide +kernel
theorem dX1_bars_14 : decode cX1_bars 14 = .ok (.iconst 3, 1) := by decide +kernel
theorem dX1_bars_15 : decode cX1_bars 15 = .ok (.imul, 1) := by decide +kernel
theorem dX1_bars_16 : decode cX1_bars 16 = .ok (.ireturn, 1) := by decide +kernel
theorem dX1_tells_0 : decode cX1_tells 0 = .ok (.aload_n 0, 1) := by decide +kernel
theorem dX1_tells_1 : decode cX1_tells 1 = .ok (.getfield 7, 3) := by decide +kernel
theorem dX1_tells_4 : decode cX1_tells 4 = .ok (.bipush 31, 2) := by decide +kernel
theorem dX1_tells_6 : decode cX1_tells 6 = .ok (.invokevirtual 13, 3) := by decide +kernel
theorem dX1_tells_9 : decode cX1_tells 9 = .ok (.aload_n 0, 1) := by decide +kernel
theorem dX1_tells_10 : decode cX1_tells 10 = .ok (.iload_n 1, 1) := by decide +kernel
theorem dX1_tells_11 : decode cX1_tells 11 = .ok (.invokespecial 23, 3) := by decide +kernel
theorem dX1_tells_14 : decode cX1_tells 14 = .ok (.aload_n 0, 1) := by decide +kernel
theorem dX1_tells_15 : decode cX1_tells 15 = .ok (.aload_n 0, 1) := by decide +kernel
theorem dX1_tells_16 : decode cX1_tells 16 = .ok (.getfield 26, 3) := by decide +kernel
theorem dX1_tells_19 : decode cX1_tells 19 = .ok (.invokevirtual 30, 3) := by decide +kernel
theorem dX1_tells_22 : decode cX1_tells 22 = .ok (.iadd, 1) := by decide +kernel
theorem dX1_tells_23 : decode cX1_tells 23 = .ok (.ireturn, 1) := by decide +kernel
theorem dX2_init_0 : decode cX2_init 0 = .ok (.aload_n 0, 1) := by decide +kernel
theorem dX2_init_1 : decode cX2_init 1 = .ok (.aload_n 1, 1) := by decide +kernel
theorem dX2_init_2 : decode cX2_init 2 = .ok (.invokespecial 1, 3) := by decide +kernel
theorem dX2_init_5 : decode cX2_init 5 = .ok (.return_, 1) := by decide +kernel
theorem dX2_bars_0 : decode cX2_bars 0 = .ok (.aload_n 0, 1) := by decide +kernel
theorem dX2_bars_1 : decode cX2_bars 1 = .ok (.getfield 7, 3) := by decide +kernel
theorem dX2_bars_4 : decode cX2_bars 4 = .ok (.bipush 51, 2) := by decide +kernel
theorem dX2_bars_6 : decode cX2_bars 6 = .ok (.invokevirtual 13, 3) := by decide +kernel
theorem dX2_bars_9 : decode cX2_bars 9 = .ok (.aload_n 0, 1) := by decide +kernel
theorem dX2_bars_10 : decode cX2_bars 10 = .ok (.iload_n 1, 1) := by decide +kernel
theorem dX2_bars_11 : decode cX2_bars 11 = .ok (.invokespecial 19, 3) := by decide +kernel
theorem dX2_bars_14 : decode cX2_bars 14 = .ok (.aload_n 0, 1) := by decide +kernel
theorem dX2_bars_15 : decode cX2_bars 15 = .ok (.getfield 23, 3) := by decide +kernel
theorem dX2_bars_18 : decode cX2_bars 18 = .ok (.isub, 1) := by decide +kernel
theorem dX2_bars_19 : decode cX2_bars 19 = .ok (.ireturn, 1) := by decide +kernel
theorem dX2_shares_0 : decode cX2_shares 0 = .ok (.aload_n 0, 1) := by decide +kernel
theorem dX2_shares_1 : decode cX2_shares 1 = .ok (.getfield 7, 3) := by decide +kernel
theorem dX2_shares_4 : decode cX2_shares 4 = .ok (.bipush 50, 2) := by decide +kernel
theorem dX2_shares_6 : decode cX2_shares 6 = .ok (.invokevirtual 13, 3) := by decide +kernel
theorem dX2_shares_9 : decode cX2_shares 9 = .ok (.aload_n 0, 1) := by decide +kernel
theorem dX2_shares_10 : decode cX2_shares 10 = .ok (.iload_n 1, 1) := by decide +kernel
theorem dX2_shares_11 : decode cX2_shares 11 = .ok (.iconst 2, 1) := by decide +kernel
theorem dX2_shares_12 : decode cX2_shares 12 = .ok (.iadd, 1) := by decide +kernel
theorem dX2_shares_13 : decode cX2_shares 13 = .ok (.invokespecial 27, 3) := by decide +kernel
theorem dX2_shares_16 : decode cX2_shares 16 = .ok (.iconst 1, 1) := by decide +kernel
theorem dX2_shares_17 : decode cX2_shares 17 = .ok (.ixor, 1) := by decide +kernel
theorem dX2_shares_18 : decode cX2_shares 18 = .ok (.ireturn, 1) := by decide +kernel
theorem dX3_init_0 : decode cX3_init 0 = .ok (.aload_n 0, 1) := by decide +kernel
theorem dX3_init_1 : decode cX3_init 1 = .ok (.aload_n 1, 1) := by decide +kernel
theorem dX3_init_2 : decode cX3_init 2 = .ok (.invokespecial 1, 3) := by decide +kernel
theorem dX3_init_5 : decode cX3_init 5 = .ok (.return_, 1) := by decide +kernel
theorem dX3_waits_0 : decode cX3_waits 0 = .ok (.aload_n 0, 1) := by decide +kernel
theorem dX3_waits_1 : decode cX3_waits 1 = .ok (.getfield 7, 3) := by decide +kernel
theorem dX3_waits_4 : decode cX3_waits 4 = .ok (.bipush 20, 2) := by decide +kernel
theorem dX3_waits_6 : decode cX3_waits 6 = .ok (.invokevirtual 13, 3) := by decide +kernel
theorem dX3_waits_9 : decode cX3_waits 9 = .ok (.aload_n 0, 1) := by decide +kernel
theorem dX3_waits_10 : decode cX3_waits 10 = .ok (.iload_n 1, 1) := by decide +kernel
theorem dX3_waits_11 : decode cX3_waits 11 = .ok (.invokespecial 19, 3) := by decide +kernel
theorem dX3_waits_14 : decode cX3_waits 14 = .ok (.aload_n 0, 1) := by decide +kernel
theorem dX3_waits_15 : decode cX3_waits 15 = .ok (.getfield 23, 3) := by decide +kernel
theorem dX3_waits_18 : decode cX3_waits 18 = .ok (.isub, 1) := by decide +kernel
theorem dX3_waits_19 : decode cX3_waits 19 = .ok (.ireturn, 1) := by decide +kernel
theorem dX4_init_0 : decode cX4_init 0 = .ok (.aload_n 0, 1) := by decide +kernel
theorem dX4_init_1 : decode cX4_init 1 = .ok (.invokespecial 1, 3) := by decide +kernel
theorem dX4_init_4 : decode cX4_init 4 = .ok (.aload_n 0, 1) := by decide +kernel
theorem dX4_init_5 : decode cX4_init 5 = .ok (.iconst 0, 1) := by decide +kernel
theorem dX4_init_6 : decode cX4_init 6 = .ok (.putfield 7, 3) := by decide +kernel
theorem dX4_init_9 : decode cX4_init 9 = .ok (.aload_n 0, 1) := by decide +kernel
theorem dX4_init_10 : decode cX4_init 10 = .ok (.iconst 0, 1) := by decide +kernel
theorem dX4_init_11 : decode cX4_init 11 = .ok (.putfield 13, 3) := by decide +kernel
theorem dX4_init_14 : decode cX4_init 14 = .ok (.aload_n 0, 1) := by decide +kernel
theorem dX4_init_15 : decode cX4_init 15 = .ok (.aload_n 1, 1) := by decide +kernel
theorem dX4_init_16 : decode cX4_init 16 = .ok (.putfield 16, 3) := by decide +kernel
theorem dX4_init_19 : decode cX4_init 19 = .ok (.return_, 1) := by decide +kernel
theorem dX4_bars_0 : decode cX4_bars 0 = .ok (.aload_n 0, 1) := by decide +kernel
theorem dX4_bars_1 : decode cX4_bars 1 = .ok (.getfield 16, 3) := by decide +kernel
theorem dX4_bars_4 : decode cX4_bars 4 = .ok (.bipush 10, 2) := by decide +kernel
theorem dX4_bars_6 : decode cX4_bars 6 = .ok (.invokevirtual 20, 3) := by decide +kernel
theorem dX4_bars_9 : decode cX4_bars 9 = .ok (.iload_n 1, 1) := by decide +kernel
theorem dX4_bars_10 : decode cX4_bars 10 = .ok (.aload_n 0, 1) := by decide +kernel
theorem dX4_bars_11 : decode cX4_bars 11 = .ok (.getfield 7, 3) := by decide +kernel
theorem dX4_bars_14 : decode cX4_bars 14 = .ok (.iadd, 1) := by decide +kernel
theorem dX4_bars_15 : decode cX4_bars 15 = .ok (.ireturn, 1) := by decide +kernel
theorem dX4_waits_0 : decode cX4_waits 0 = .ok (.aload_n 0, 1) := by decide +kernel
theorem dX4_waits_1 : decode cX4_waits 1 = .ok (.getfield 16, 3) := by decide +kernel
theorem dX4_waits_4 : decode cX4_waits 4 = .ok (.bipush 11, 2) := by decide +kernel
theorem dX4_waits_6 : decode cX4_waits 6 = .ok (.invokevirtual 20, 3) := by decide +kernel
theorem dX4_waits_9 : decode cX4_waits 9 = .ok (.aload_n 0, 1) := by decide +kernel
theorem dX4_waits_10 : decode cX4_waits 10 = .ok (.iload_n 1, 1) := by decide +kernel
theorem dX4_waits_11 : decode cX4_waits 11 = .ok (.invokevirtual 26, 3) := by decide +kernel
theorem dX4_waits_14 : decode cX4_waits 14 = .ok (.iconst 2, 1) := by decide +kernel
theorem dX4_waits_15 : decode cX4_waits 15 = .ok (.imul, 1) := by decide +kernel
theorem dX4_waits_16 : decode cX4_waits 16 = .ok (.ireturn, 1) := by decide +kernel
theorem dX4_shares_0 : decode cX4_shares 0 = .ok (.aload_n 0, 1) := by decide +kernel
theorem dX4_shares_1 : decode cX4_shares 1 = .ok (.getfield 16, 3) := by decide +kernel
theorem dX4_shares_4 : decode cX4_shares 4 = .ok (.bipush 12, 2) := by decide +kernel
theorem dX4_shares_6 : decode cX4_shares 6 = .ok (.invokevirtual 20, 3) := by decide +kernel
theorem dX4_shares_9 : decode cX4_shares 9 = .ok (.aload_n 0, 1) := by decide +kernel
theorem dX4_shares_10 : decode cX4_shares 10 = .ok (.getfield 13, 3) := by decide +kernel
theorem dX4_shares_13 : decode cX4_shares 13 = .ok (.aload_n 0, 1) := by decide +kernel
theorem dX4_shares_14 : decode cX4_shares 14 = .ok (.getfield 7, 3) := by decide +kernel
theorem dX4_shares_17 : decode cX4_shares 17 = .ok (.if_icmp .ne 13, 3) := by decide +kernel
theorem dX4_shares_20 : decode cX4_shares 20 = .ok (.aload_n 0, 1) := by decide +kernel
theorem dX4_shares_21 : decode cX4_shares 21 = .ok (.getfield 16, 3) := by decide +kernel
theorem dX4_shares_24 : decode cX4_shares 24 = .ok (.iconst 1, 1) := by decide +kernel
theorem dX4_shares_25 : decode cX4_shares 25 = .ok (.putfield 30, 3) := by decide +kernel
theorem dX4_shares_28 : decode cX4_shares 28 = .ok (.iconst 0, 1) := by decide +kernel
theorem dX4_shares_29 : decode cX4_shares 29 = .ok (.ireturn, 1) := by decide +kernel
theorem dX4_shares_30 : decode cX4_shares 30 = .ok (.iload_n 1, 1) := by decide +kernel
theorem dX4_shares_31 : decode cX4_shares 31 = .ok (.aload_n 0, 1) := by decide +kernel
theorem dX4_shares_32 : decode cX4_shares 32 = .ok (.getfield 13, 3) := by decide +kernel
theorem dX4_shares_35 : decode cX4_shares 35 = .ok (.aload_n 0, 1) := by decide +kernel
theorem dX4_shares_36 : decode cX4_shares 36 = .ok (.getfield 7, 3) := by decide +kernel
theorem dX4_shares_39 : decode cX4_shares 39 = .ok (.isub, 1) := by decide +kernel
theorem dX4_shares_40 : decode cX4_shares 40 = .ok (.idiv, 1) := by decide +kernel
theorem dX4_shares_41 : decode cX4_shares 41 = .ok (.ireturn, 1) := by decide +kernel
theorem dX4_tells_0 : decode cX4_tells 0 = .ok (.aload_n 0, 1) := by decide +kernel
theorem dX4_tells_1 : decode cX4_tells 1 = .ok (.getfield 16, 3) := by decide +kernel
theorem dX4_tells_4 : decode cX4_tells 4 = .ok (.bipush 13, 2) := by decide +kernel
theorem dX4_tells_6 : decode cX4_tells 6 = .ok (.invokevirtual 20, 3) := by decide +kernel
theorem dX4_tells_9 : decode cX4_tells 9 = .ok (.aload_n 0, 1) := by decide +kernel
theorem dX4_tells_10 : decode cX4_tells 10 = .ok (.iload_n 1, 1) := by decide +kernel
theorem dX4_tells_11 : decode cX4_tells 11 = .ok (.invokevirtual 34, 3) := by decide +kernel
theorem dX4_tells_14 : decode cX4_tells 14 = .ok (.aload_n 0, 1) := by decide +kernel
theorem dX4_tells_15 : decode cX4_tells 15 = .ok (.getfield 13, 3) := by decide +kernel
theorem dX4_tells_18 : decode cX4_tells 18 = .ok (.ixor, 1) := by decide +kernel
theorem dX4_tells_19 : decode cX4_tells 19 = .ok (.ireturn, 1) := by decide +kernel
theorem dX5_init_0 : decode cX5_init 0 = .ok (.aload_n 0, 1) := by decide +kernel
theorem dX5_init_1 : decode cX5_init 1 = .ok (.invokespecial 3, 3) := by decide +kernel
theorem dX5_init_4 : decode cX5_init 4 = .ok (.aload_n 0, 1) := by decide +kernel
theorem dX5_init_5 : decode cX5_init 5 = .ok (.iconst (-1), 1) := by decide +kernel
theorem dX5_init_6 : decode cX5_init 6 = .ok (.putfield 9, 3) := by decide +kernel
theorem dX5_init_9 : decode cX5_init 9 = .ok (.aload_n 0, 1) := by decide +kernel
theorem dX5_init_10 : decode cX5_init 10 = .ok (.iconst 0, 1) := by decide +kernel
theorem dX5_init_11 : decode cX5_init 11 = .ok (.putfield 15, 3) := by decide +kernel
theorem dX5_init_14 : decode cX5_init 14 = .ok (.aload_n 0, 1) := by decide +kernel
theorem dX5_init_15 : decode cX5_init 15 = .ok (.bipush 40, 2) := by decide +kernel
theorem dX5_init_17 : decode cX5_init 17 = .ok (.newarray .int, 2) := by decide +kernel
theorem dX5_init_19 : decode cX5_init 19 = .ok (.putfield 18, 3) := by decide +kernel
theorem dX5_init_22 : decode cX5_init 22 = .ok (.return_, 1) := by decide +kernel
theorem dX5_become_0 : decode cX5_become 0 = .ok (.aload_n 0, 1) := by decide +kernel
theorem dX5_become_1 : decode cX5_become 1 = .ok (.iload_n 1, 1) := by decide +kernel
theorem dX5_become_2 : decode cX5_become 2 = .ok (.putfield 9, 3) := by decide +kernel
theorem dX5_become_5 : decode cX5_become 5 = .ok (.aload_n 0, 1) := by decide +kernel
theorem dX5_become_6 : decode cX5_become 6 = .ok (.iload_n 2, 1) := by decide +kernel
theorem dX5_become_7 : decode cX5_become 7 = .ok (.putfield 15, 3) := by decide +kernel
theorem dX5_become_10 : decode cX5_become 10 = .ok (.iconst 0, 1) := by decide +kernel
theorem dX5_become_11 : decode cX5_become 11 = .ok (.istore_n 3, 1) := by decide +kernel
theorem dX5_become_12 : decode cX5_become 12 = .ok (.iload_n 3, 1) := by decide +kernel
theorem dX5_become_13 : decode cX5_become 13 = .ok (.bipush 40, 2) := by decide +kernel
theorem dX5_become_15 : decode cX5_become 15 = .ok (.if_icmp .ge 16, 3) := by decide +kernel
theorem dX5_become_18 : decode cX5_become 18 = .ok (.aload_n 0, 1) := by decide +kernel
theorem dX5_become_19 : decode cX5_become 19 = .ok (.getfield 18, 3) := by decide +kernel
theorem dX5_become_22 : decode cX5_become 22 = .ok (.iload_n 3, 1) := by decide +kernel
theorem dX5_become_23 : decode cX5_become 23 = .ok (.iconst 0, 1) := by decide +kernel
theorem dX5_become_24 : decode cX5_become 24 = .ok (.iastore, 1) := by decide +kernel
theorem dX5_become_25 : decode cX5_become 25 = .ok (.iinc 3 1, 3) := by decide +kernel
theorem dX5_become_28 : decode cX5_become 28 = .ok (.goto (-16), 3) := by decide +kernel
theorem dX5_become_31 : decode cX5_become 31 = .ok (.return_, 1) := by decide +kernel
theorem dX6_init_0 : decode cX6_init 0 = .ok (.aload_n 0, 1) := by decide +kernel
theorem dX6_init_1 : decode cX6_init 1 = .ok (.invokespecial 3, 3) := by decide +kernel
theorem dX6_init_4 : decode cX6_init 4 = .ok (.aload_n 0, 1) := by decide +kernel
theorem dX6_init_5 : decode cX6_init 5 = .ok (.new 9, 3) := by decide +kernel
theorem dX6_init_8 : decode cX6_init 8 = .ok (.dup, 1) := by decide +kernel
theorem dX6_init_9 : decode cX6_init 9 = .ok (.invokespecial 11, 3) := by decide +kernel
theorem dX6_init_12 : decode cX6_init 12 = .ok (.putfield 12, 3) := by decide +kernel
theorem dX6_init_15 : decode cX6_init 15 = .ok (.aload_n 0, 1) := by decide +kernel
theorem dX6_init_16 : decode cX6_init 16 = .ok (.sipush 240, 3) := by decide +kernel
theorem dX6_init_19 : decode cX6_init 19 = .ok (.newarray .int, 2) := by decide +kernel
theorem dX6_init_21 : decode cX6_init 21 = .ok (.putfield 18, 3) := by decide +kernel
theorem dX6_init_24 : decode cX6_init 24 = .ok (.aload_n 0, 1) := by decide +kernel
theorem dX6_init_25 : decode cX6_init 25 = .ok (.iconst 0, 1) := by decide +kernel
theorem dX6_init_26 : decode cX6_init 26 = .ok (.putfield 22, 3) := by decide +kernel
theorem dX6_init_29 : decode cX6_init 29 = .ok (.aload_n 0, 1) := by decide +kernel
theorem dX6_init_30 : decode cX6_init 30 = .ok (.iconst 0, 1) := by decide +kernel
theorem dX6_init_31 : decode cX6_init 31 = .ok (.putfield 26, 3) := by decide +kernel
theorem dX6_init_34 : decode cX6_init 34 = .ok (.aload_n 0, 1) := by decide +kernel
theorem dX6_init_35 : decode cX6_init 35 = .ok (.iconst 0, 1) := by decide +kernel
theorem dX6_init_36 : decode cX6_init 36 = .ok (.putfield 29, 3) := by decide +kernel
theorem dX6_init_39 : decode cX6_init 39 = .ok (.aload_n 0, 1) := by decide +kernel
theorem dX6_init_40 : decode cX6_init 40 = .ok (.iconst 0, 1) := by decide +kernel
theorem dX6_init_41 : decode cX6_init 41 = .ok (.putfield 32, 3) := by decide +kernel
theorem dX6_init_44 : decode cX6_init 44 = .ok (.aload_n 0, 1) := by decide +kernel
theorem dX6_init_45 : decode cX6_init 45 = .ok (.iconst 0, 1) := by decide +kernel
theorem dX6_init_46 : decode cX6_init 46 = .ok (.putfield 35, 3) := by decide +kernel
theorem dX6_init_49 : decode cX6_init 49 = .ok (.return_, 1) := by decide +kernel
theorem dX6_readText_0 : decode cX6_readText 0 = .ok (.aload_n 0, 1) := by decide +kernel
theorem dX6_readText_1 : decode cX6_readText 1 = .ok (.iconst 0, 1) := by decide +kernel
theorem dX6_readText_2 : decode cX6_readText 2 = .ok (.iload_n 2, 1) := by decide +kernel
theorem dX6_readText_3 : decode cX6_readText 3 = .ok (.sipush 240, 3) := by decide +kernel
theorem dX6_readText_6 : decode cX6_readText 6 = .ok (.invokestatic 38, 3) := by decide +kernel
theorem dX6_readText_9 : decode cX6_readText 9 = .ok (.invokestatic 44, 3) := by decide +kernel
theorem dX6_readText_12 : decode cX6_readText 12 = .ok (.putfield 22, 3) := by decide +kernel
theorem dX6_readText_15 : decode cX6_readText 15 = .ok (.aload_n 1, 1) := by decide +kernel
theorem dX6_readText_16 : decode cX6_readText 16 = .ok (.iconst 0, 1) := by decide +kernel
theorem dX6_readText_17 : decode cX6_readText 17 = .ok (.aload_n 0, 1) := by decide +kernel
theorem dX6_readText_18 : decode cX6_readText 18 = .ok (.getfield 18, 3) := by decide +kernel
theorem dX6_readText_21 : decode cX6_readText 21 = .ok (.iconst 0, 1) := by decide +kernel
theorem dX6_readText_22 : decode cX6_readText 22 = .ok (.aload_n 0, 1) := by decide +kernel
theorem dX6_readText_23 : decode cX6_readText 23 = .ok (.getfield 22, 3) := by decide +kernel
theorem dX6_readText_26 : decode cX6_readText 26 = .ok (.aload_n 1, 1) := by decide +kernel
theorem dX6_readText_27 : decode cX6_readText 27 = .ok (.arraylength, 1) := by decide +kernel
theorem dX6_readText_28 : decode cX6_readText 28 = .ok (.invokestatic 38, 3) := by decide +kernel
theorem dX6_readText_31 : decode cX6_readText 31 = .ok (.invokestatic 47, 3) := by decide +kernel
theorem dX6_readText_34 : decode cX6_readText 34 = .ok (.aload_n 0, 1) := by decide +kernel
theorem dX6_readText_35 : decode cX6_readText 35 = .ok (.iconst 0, 1) := by decide +kernel
theorem dX6_readText_36 : decode cX6_readText 36 = .ok (.putfield 26, 3) := by decide +kernel
theorem dX6_readText_39 : decode cX6_readText 39 = .ok (.aload_n 0, 1) := by decide +kernel
theorem dX6_readText_40 : decode cX6_readText 40 = .ok (.getfield 12, 3) := by decide +kernel
theorem dX6_readText_43 : decode cX6_readText 43 = .ok (.invokevirtual 53, 3) := by decide +kernel
theorem dX6_readText_46 : decode cX6_readText 46 = .ok (.aload_n 0, 1) := by decide +kernel
theorem dX6_readText_47 : decode cX6_readText 47 = .ok (.invokevirtual 56, 3) := by decide +kernel
theorem dX6_readText_50 : decode cX6_readText 50 = .ok (.iconst 0, 1) := by decide +kernel
theorem dX6_readText_51 : decode cX6_readText 51 = .ok (.istore_n 3, 1) := by decide +kernel
theorem dX6_readText_52 : decode cX6_readText 52 = .ok (.iload_n 3, 1) := by decide +kernel
theorem dX6_readText_53 : decode cX6_readText 53 = .ok (.aload_n 0, 1) := by decide +kernel
theorem dX6_readText_54 : decode cX6_readText 54 = .ok (.getfield 22, 3) := by decide +kernel
theorem dX6_readText_57 : decode cX6_readText 57 = .ok (.if_icmp .gt 25, 3) := by decide +kernel
theorem dX6_readText_60 : decode cX6_readText 60 = .ok (.aload_n 0, 1) := by decide +kernel
theorem dX6_readText_61 : decode cX6_readText 61 = .ok (.getfield 29, 3) := by decide +kernel
theorem dX6_readText_64 : decode cX6_readText 64 = .ok (.ifCond .eq 18, 3) := by decide +kernel
theorem dX6_readText_67 : decode cX6_readText 67 = .ok (.aload_n 0, 1) := by decide +kernel
theorem dX6_readText_68 : decode cX6_readText 68 = .ok (.invokevirtual 59, 3) := by decide +kernel
theorem dX6_readText_71 : decode cX6_readText 71 = .ok (.ifCond .ne 5, 3) := by decide +kernel
theorem dX6_readText_74 : decode cX6_readText 74 = .ok (.iconst 0, 1) := by decide +kernel
theorem dX6_readText_75 : decode cX6_readText 75 = .ok (.ireturn, 1) := by decide +kernel
theorem dX6_readText_76 : decode cX6_readText 76 = .ok (.iinc 3 1, 3) := by decide +kernel
theorem dX6_readText_79 : decode cX6_readText 79 = .ok (.goto (-27), 3) := by decide +kernel
theorem dX6_readText_82 : decode cX6_readText 82 = .ok (.iconst 1, 1) := by decide +kernel
theorem dX6_readText_83 : decode cX6_readText 83 = .ok (.ireturn, 1) := by decide +kernel
theorem dX6_readStatement_0 : decode cX6_readStatement 0 = .ok (.aload_n 0, 1) := by decide +kernel
theorem dX6_readStatement_1 : decode cX6_readStatement 1 = .ok (.invokevirtual 63, 3) := by decide +kernel
theorem dX6_readStatement_4 : decode cX6_readStatement 4 = .ok (.istore_n 1, 1) := by decide +kernel
theorem dX6_readStatement_5 : decode cX6_readStatement 5 = .ok (.iload_n 1, 1) := by decide +kernel
theorem dX6_readStatement_6 : decode cX6_readStatement 6 = .ok (.ifCond .lt 9, 3) := by decide +kernel
theorem dX6_readStatement_9 : decode cX6_readStatement 9 = .ok (.aload_n 0, 1) := by decide +kernel
theorem dX6_readStatement_10 : decode cX6_readStatement 10 = .ok (.iload_n 1, 1) := by decide +kernel
theorem dX6_readStatement_11 : decode cX6_readStatement 11 = .ok (.invokevirtual 67, 3) := by decide +kernel
theorem dX6_readStatement_14 : decode cX6_readStatement 14 = .ok (.ireturn, 1) := by decide +kernel
theorem dX6_readStatement_15 : decode cX6_readStatement 15 = .ok (.aload_n 0, 1) := by decide +kernel
theorem dX6_readStatement_16 : decode cX6_readStatement 16 = .ok (.ldc 71, 2) := by decide +kernel
theorem dX6_readStatement_18 : decode cX6_readStatement 18 = .ok (.invokevirtual 73, 3) := by decide +kernel
theorem dX6_readStatement_21 : decode cX6_readStatement 21 = .ok (.ifCond .eq 8, 3) := by decide +kernel
theorem dX6_readStatement_24 : decode cX6_readStatement 24 = .ok (.aload_n 0, 1) := by decide +kernel
theorem dX6_readStatement_25 : decode cX6_readStatement 25 = .ok (.invokevirtual 77, 3) := by decide +kernel
theorem dX6_readStatement_28 : decode cX6_readStatement 28 = .ok (.ireturn, 1) := by decide +kernel
theorem dX6_readStatement_29 : decode cX6_readStatement 29 = .ok (.aload_n 0, 1) := by decide +kernel
theorem dX6_readStatement_30 : decode cX6_readStatement 30 = .ok (.ldc 80, 2) := by decide +kernel
theorem dX6_readStatement_32 : decode cX6_readStatement 32 = .ok (.invokevirtual 73, 3) := by decide +kernel
theorem dX6_readStatement_35 : decode cX6_readStatement 35 = .ok (.ifCond .eq 11, 3) := by decide +kernel
theorem dX6_readStatement_38 : decode cX6_readStatement 38 = .ok (.aload_n 0, 1) := by decide +kernel
theorem dX6_readStatement_39 : decode cX6_readStatement 39 = .ok (.iconst 0, 1) := by decide +kernel
theorem dX6_readStatement_40 : decode cX6_readStatement 40 = .ok (.iconst 1, 1) := by decide +kernel
theorem dX6_readStatement_41 : decode cX6_readStatement 41 = .ok (.iconst 3, 1) := by decide +kernel
theorem dX6_readStatement_42 : decode cX6_readStatement 42 = .ok (.invokevirtual 82, 3) := by decide +kernel
theorem dX6_readStatement_45 : decode cX6_readStatement 45 = .ok (.ireturn, 1) := by decide +kernel
theorem dX6_readStatement_46 : decode cX6_readStatement 46 = .ok (.aload_n 0, 1) := by decide +kernel
theorem dX6_readStatement_47 : decode cX6_readStatement 47 = .ok (.ldc 86, 2) := by decide +kernel
theorem dX6_readStatement_49 : decode cX6_readStatement 49 = .ok (.invokevirtual 73, 3) := by decide +kernel
theorem dX6_readStatement_52 : decode cX6_readStatement 52 = .ok (.ifCond .eq 12, 3) := by decide +kernel
theorem dX6_readStatement_55 : decode cX6_readStatement 55 = .ok (.aload_n 0, 1) := by decide +kernel
theorem dX6_readStatement_56 : decode cX6_readStatement 56 = .ok (.iconst 2, 1) := by decide +kernel
theorem dX6_readStatement_57 : decode cX6_readStatement 57 = .ok (.iconst 0, 1) := by decide +kernel
theorem dX6_readStatement_58 : decode cX6_readStatement 58 = .ok (.bipush 20, 2) := by decide +kernel
theorem dX6_readStatement_60 : decode cX6_readStatement 60 = .ok (.invokevirtual 82, 3) := by decide +kernel
theorem dX6_readStatement_63 : decode cX6_readStatement 63 = .ok (.ireturn, 1) := by decide +kernel
theorem dX6_readStatement_64 : decode cX6_readStatement 64 = .ok (.aload_n 0, 1) := by decide +kernel
theorem dX6_readStatement_65 : decode cX6_readStatement 65 = .ok (.ldc 88, 2) := by decide +kernel
theorem dX6_readStatement_67 : decode cX6_readStatement 67 = .ok (.invokevirtual 73, 3) := by decide +kernel
theorem dX6_readStatement_70 : decode cX6_readStatement 70 = .ok (.ifCond .ne 5, 3) := by decide +kernel
theorem dX6_readStatement_73 : decode cX6_readStatement 73 = .ok (.iconst 0, 1) := by decide +kernel
theorem dX6_readStatement_74 : decode cX6_readStatement 74 = .ok (.ireturn, 1) := by decide +kernel
theorem dX6_readStatement_75 : decode cX6_readStatement 75 = .ok (.aload_n 0, 1) := by decide +kernel
theorem dX6_readStatement_76 : decode cX6_readStatement 76 = .ok (.getfield 12, 3) := by decide +kernel
theorem dX6_readStatement_79 : decode cX6_readStatement 79 = .ok (.getfield 90, 3) := by decide +kernel
theorem dX6_readStatement_82 : decode cX6_readStatement 82 = .ok (.iconst 1, 1) := by decide +kernel
theorem dX6_readStatement_83 : decode cX6_readStatement 83 = .ok (.iconst 1, 1) := by decide +kernel
theorem dX6_readStatement_84 : decode cX6_readStatement 84 = .ok (.iastore, 1) := by decide +kernel
theorem dX6_readStatement_85 : decode cX6_readStatement 85 = .ok (.aload_n 0, 1) := by decide +kernel
theorem dX6_readStatement_86 : decode cX6_readStatement 86 = .ok (.invokevirtual 56, 3) := by decide +kernel
theorem dX6_readStatement_89 : decode cX6_readStatement 89 = .ok (.aload_n 0, 1) := by decide +kernel
theorem dX6_readStatement_90 : decode cX6_readStatement 90 = .ok (.invokevirtual 93, 3) := by decide +kernel
theorem dX6_readStatement_93 : decode cX6_readStatement 93 = .ok (.ireturn, 1) := by decide +kernel
theorem dX6_readPerson_0 : decode cX6_readPerson 0 = .ok (.aload_n 0, 1) := by decide +kernel
theorem dX6_readPerson_1 : decode cX6_readPerson 1 = .ok (.getfield 12, 3) := by decide +kernel
theorem dX6_readPerson_4 : decode cX6_readPerson 4 = .ok (.getfield 96, 3) := by decide +kernel
theorem dX6_readPerson_7 : decode cX6_readPerson 7 = .ok (.bipush 6, 2) := by decide +kernel
theorem dX6_readPerson_9 : decode cX6_readPerson 9 = .ok (.if_icmp .lt 5, 3) := by decide +kernel
theorem dX6_readPerson_12 : decode cX6_readPerson 12 = .ok (.iconst 0, 1) := by decide +kernel
theorem dX6_readPerson_13 : decode cX6_readPerson 13 = .ok (.ireturn, 1) := by decide +kernel
theorem dX6_readPerson_14 : decode cX6_readPerson 14 = .ok (.aload_n 0, 1) := by decide +kernel
theorem dX6_readPerson_15 : decode cX6_readPerson 15 = .ok (.invokevirtual 56, 3) := by decide +kernel
theorem dX6_readPerson_18 : decode cX6_readPerson 18 = .ok (.aload_n 0, 1) := by decide +kernel
theorem dX6_readPerson_19 : decode cX6_readPerson 19 = .ok (.ldc 99, 2) := by decide +kernel
theorem dX6_readPerson_21 : decode cX6_readPerson 21 = .ok (.invokevirtual 73, 3) := by decide +kernel
theorem dX6_readPerson_24 : decode cX6_readPerson 24 = .ok (.ifCond .ne 5, 3) := by decide +kernel
theorem dX6_readPerson_27 : decode cX6_readPerson 27 = .ok (.iconst 0, 1) := by decide +kernel
theorem dX6_readPerson_28 : decode cX6_readPerson 28 = .ok (.ireturn, 1) := by decide +kernel
theorem dX6_readPerson_29 : decode cX6_readPerson 29 = .ok (.aload_n 0, 1) := by decide +kernel
theorem dX6_readPerson_30 : decode cX6_readPerson 30 = .ok (.invokevirtual 56, 3) := by decide +kernel
theorem dX6_readPerson_33 : decode cX6_readPerson 33 = .ok (.aload_n 0, 1) := by decide +kernel
theorem dX6_readPerson_34 : decode cX6_readPerson 34 = .ok (.iconst 0, 1) := by decide +kernel
theorem dX6_readPerson_35 : decode cX6_readPerson 35 = .ok (.bipush 99, 2) := by decide +kernel
theorem dX6_readPerson_37 : decode cX6_readPerson 37 = .ok (.invokevirtual 101, 3) := by decide +kernel
theorem dX6_readPerson_40 : decode cX6_readPerson 40 = .ok (.ifCond .ne 5, 3) := by decide +kernel
theorem dX6_readPerson_43 : decode cX6_readPerson 43 = .ok (.iconst 0, 1) := by decide +kernel
theorem dX6_readPerson_44 : decode cX6_readPerson 44 = .ok (.ireturn, 1) := by decide +kernel
theorem dX6_readPerson_45 : decode cX6_readPerson 45 = .ok (.aload_n 0, 1) := by decide +kernel
theorem dX6_readPerson_46 : decode cX6_readPerson 46 = .ok (.getfield 35, 3) := by decide +kernel
theorem dX6_readPerson_49 : decode cX6_readPerson 49 = .ok (.istore_n 2, 1) := by decide +kernel
theorem dX6_readPerson_50 : decode cX6_readPerson 50 = .ok (.aload_n 0, 1) := by decide +kernel
theorem dX6_readPerson_51 : decode cX6_readPerson 51 = .ok (.invokevirtual 56, 3) := by decide +kernel
theorem dX6_readPerson_54 : decode cX6_readPerson 54 = .ok (.iconst 0, 1) := by decide +kernel
theorem dX6_readPerson_55 : decode cX6_readPerson 55 = .ok (.istore_n 3, 1) := by decide +kernel
theorem dX6_readPerson_56 : decode cX6_readPerson 56 = .ok (.aload_n 0, 1) := by decide +kernel
theorem dX6_readPerson_57 : decode cX6_readPerson 57 = .ok (.ldc 105, 2) := by decide +kernel
theorem dX6_readPerson_59 : decode cX6_readPerson 59 = .ok (.invokevirtual 73, 3) := by decide +kernel
theorem dX6_readPerson_62 : decode cX6_readPerson 62 = .ok (.ifCond .eq 29, 3) := by decide +kernel
theorem dX6_readPerson_65 : decode cX6_readPerson 65 = .ok (.aload_n 0, 1) := by decide +kernel
theorem dX6_readPerson_66 : decode cX6_readPerson 66 = .ok (.invokevirtual 56, 3) := by decide +kernel
theorem dX6_readPerson_69 : decode cX6_readPerson 69 = .ok (.aload_n 0, 1) := by decide +kernel
theorem dX6_readPerson_70 : decode cX6_readPerson 70 = .ok (.iconst 0, 1) := by decide +kernel
theorem dX6_readPerson_71 : decode cX6_readPerson 71 = .ok (.sipush 255, 3) := by decide +kernel
theorem dX6_readPerson_74 : decode cX6_readPerson 74 = .ok (.invokevirtual 101, 3) := by decide +kernel
theorem dX6_readPerson_77 : decode cX6_readPerson 77 = .ok (.ifCond .ne 5, 3) := by decide +kernel
theorem dX6_readPerson_80 : decode cX6_readPerson 80 = .ok (.iconst 0, 1) := by decide +kernel
theorem dX6_readPerson_81 : decode cX6_readPerson 81 = .ok (.ireturn, 1) := by decide +kernel
theorem dX6_readPerson_82 : decode cX6_readPerson 82 = .ok (.aload_n 0, 1) := by decide +kernel
theorem dX6_readPerson_83 : decode cX6_readPerson 83 = .ok (.getfield 35, 3) := by decide +kernel
theorem dX6_readPerson_86 : decode cX6_readPerson 86 = .ok (.istore_n 3, 1) := by decide +kernel
theorem dX6_readPerson_87 : decode cX6_readPerson 87 = .ok (.aload_n 0, 1) := by decide +kernel
theorem dX6_readPerson_88 : decode cX6_readPerson 88 = .ok (.invokevirtual 56, 3) := by decide +kernel
theorem dX6_readPerson_91 : decode cX6_readPerson 91 = .ok (.iconst 1, 1) := by decide +kernel
theorem dX6_readPerson_92 : decode cX6_readPerson 92 = .ok (.istore 4, 2) := by decide +kernel
theorem dX6_readPerson_94 : decode cX6_readPerson 94 = .ok (.aload_n 0, 1) := by decide +kernel
theorem dX6_readPerson_95 : decode cX6_readPerson 95 = .ok (.ldc 107, 2) := by decide +kernel
theorem dX6_readPerson_97 : decode cX6_readPerson 97 = .ok (.invokevirtual 73, 3) := by decide +kernel
theorem dX6_readPerson_100 : decode cX6_readPerson 100 = .ok (.ifCond .eq 29, 3) := by decide +kernel
theorem dX6_readPerson_103 : decode cX6_readPerson 103 = .ok (.aload_n 0, 1) := by decide +kernel
theorem dX6_readPerson_104 : decode cX6_readPerson 104 = .ok (.invokevirtual 56, 3) := by decide +kernel
theorem dX6_readPerson_107 : decode cX6_readPerson 107 = .ok (.aload_n 0, 1) := by decide +kernel
theorem dX6_readPerson_108 : decode cX6_readPerson 108 = .ok (.iconst 0, 1) := by decide +kernel
theorem dX6_readPerson_109 : decode cX6_readPerson 109 = .ok (.bipush 9, 2) := by decide +kernel
theorem dX6_readPerson_111 : decode cX6_readPerson 111 = .ok (.invokevirtual 101, 3) := by decide +kernel
theorem dX6_readPerson_114 : decode cX6_readPerson 114 = .ok (.ifCond .ne 5, 3) := by decide +kernel
theorem dX6_readPerson_117 : decode cX6_readPerson 117 = .ok (.iconst 0, 1) := by decide +kernel
theorem dX6_readPerson_118 : decode cX6_readPerson 118 = .ok (.ireturn, 1) := by decide +kernel
theorem dX6_readPerson_119 : decode cX6_readPerson 119 = .ok (.aload_n 0, 1) := by decide +kernel
theorem dX6_readPerson_120 : decode cX6_readPerson 120 = .ok (.getfield 35, 3) := by decide +kernel
theorem dX6_readPerson_123 : decode cX6_readPerson 123 = .ok (.istore 4, 2) := by decide +kernel
theorem dX6_readPerson_125 : decode cX6_readPerson 125 = .ok (.aload_n 0, 1) := by decide +kernel
theorem dX6_readPerson_126 : decode cX6_readPerson 126 = .ok (.invokevirtual 56, 3) := by decide +kernel
theorem dX6_readPerson_129 : decode cX6_readPerson 129 = .ok (.aload_n 0, 1) := by decide +kernel
theorem dX6_readPerson_130 : decode cX6_readPerson 130 = .ok (.getfield 12, 3) := by decide +kernel
theorem dX6_readPerson_133 : decode cX6_readPerson 133 = .ok (.iload_n 1, 1) := by decide +kernel
theorem dX6_readPerson_134 : decode cX6_readPerson 134 = .ok (.iload_n 3, 1) := by decide +kernel
theorem dX6_readPerson_135 : decode cX6_readPerson 135 = .ok (.iload_n 2, 1) := by decide +kernel
theorem dX6_readPerson_136 : decode cX6_readPerson 136 = .ok (.iload 4, 2) := by decide +kernel
theorem dX6_readPerson_138 : decode cX6_readPerson 138 = .ok (.invokevirtual 109, 3) := by decide +kernel
theorem dX6_readPerson_141 : decode cX6_readPerson 141 = .ok (.pop, 1) := by decide +kernel
theorem dX6_readPerson_142 : decode cX6_readPerson 142 = .ok (.aload_n 0, 1) := by decide +kernel
theorem dX6_readPerson_143 : decode cX6_readPerson 143 = .ok (.invokevirtual 93, 3) := by decide +kernel
theorem dX6_readPerson_146 : decode cX6_readPerson 146 = .ok (.ireturn, 1) := by decide +kernel
theorem dX6_readProposal_0 : decode cX6_readProposal 0 = .ok (.aload_n 0, 1) := by decide +kernel
theorem dX6_readProposal_1 : decode cX6_readProposal 1 = .ok (.getfield 12, 3) := by decide +kernel
theorem dX6_readProposal_4 : decode cX6_readProposal 4 = .ok (.getfield 113, 3) := by decide +kernel
theorem dX6_readProposal_7 : decode cX6_readProposal 7 = .ok (.bipush 8, 2) := by decide +kernel
theorem dX6_readProposal_9 : decode cX6_readProposal 9 = .ok (.if_icmp .lt 5, 3) := by decide +kernel
theorem dX6_readProposal_12 : decode cX6_readProposal 12 = .ok (.iconst 0, 1) := by decide +kernel
theorem dX6_readProposal_13 : decode cX6_readProposal 13 = .ok (.ireturn, 1) := by decide +kernel
theorem dX6_readProposal_14 : decode cX6_readProposal 14 = .ok (.aload_n 0, 1) := by decide +kernel
theorem dX6_readProposal_15 : decode cX6_readProposal 15 = .ok (.invokevirtual 56, 3) := by decide +kernel
theorem dX6_readProposal_18 : decode cX6_readProposal 18 = .ok (.aload_n 0, 1) := by decide +kernel
theorem dX6_readProposal_19 : decode cX6_readProposal 19 = .ok (.iconst 0, 1) := by decide +kernel
theorem dX6_readProposal_20 : decode cX6_readProposal 20 = .ok (.bipush 9, 2) := by decide +kernel
theorem dX6_readProposal_22 : decode cX6_readProposal 22 = .ok (.invokevirtual 101, 3) := by decide +kernel
theorem dX6_readProposal_25 : decode cX6_readProposal 25 = .ok (.ifCond .ne 5, 3) := by decide +kernel
theorem dX6_readProposal_28 : decode cX6_readProposal 28 = .ok (.iconst 0, 1) := by decide +kernel
theorem dX6_readProposal_29 : decode cX6_readProposal 29 = .ok (.ireturn, 1) := by decide +kernel
theorem dX6_readProposal_30 : decode cX6_readProposal 30 = .ok (.aload_n 0, 1) := by decide +kernel
theorem dX6_readProposal_31 : decode cX6_readProposal 31 = .ok (.getfield 12, 3) := by decide +kernel
theorem dX6_readProposal_34 : decode cX6_readProposal 34 = .ok (.aload_n 0, 1) := by decide +kernel
theorem dX6_readProposal_35 : decode cX6_readProposal 35 = .ok (.getfield 35, 3) := by decide +kernel
theorem dX6_readProposal_38 : decode cX6_readProposal 38 = .ok (.invokevirtual 116, 3) := by decide +kernel
theorem dX6_readProposal_41 : decode cX6_readProposal 41 = .ok (.istore_n 1, 1) := by decide +kernel
theorem dX6_readProposal_42 : decode cX6_readProposal 42 = .ok (.aload_n 0, 1) := by decide +kernel
theorem dX6_readProposal_43 : decode cX6_readProposal 43 = .ok (.invokevirtual 56, 3) := by decide +kernel
theorem dX6_readProposal_46 : decode cX6_readProposal 46 = .ok (.aload_n 0, 1) := by decide +kernel
theorem dX6_readProposal_47 : decode cX6_readProposal 47 = .ok (.ldc 120, 2) := by decide +kernel
theorem dX6_readProposal_49 : decode cX6_readProposal 49 = .ok (.invokevirtual 73, 3) := by decide +kernel
theorem dX6_readProposal_52 : decode cX6_readProposal 52 = .ok (.ifCond .eq 13, 3) := by decide +kernel
theorem dX6_readProposal_55 : decode cX6_readProposal 55 = .ok (.aload_n 0, 1) := by decide +kernel
theorem dX6_readProposal_56 : decode cX6_readProposal 56 = .ok (.iload_n 1, 1) := by decide +kernel
theorem dX6_readProposal_57 : decode cX6_readProposal 57 = .ok (.invokevirtual 122, 3) := by decide +kernel
theorem dX6_readProposal_60 : decode cX6_readProposal 60 = .ok (.ifCond .ne 5, 3) := by decide +kernel
theorem dX6_readProposal_63 : decode cX6_readProposal 63 = .ok (.iconst 0, 1) := by decide +kernel
theorem dX6_readProposal_64 : decode cX6_readProposal 64 = .ok (.ireturn, 1) := by decide +kernel
theorem dX6_readProposal_65 : decode cX6_readProposal 65 = .ok (.aload_n 0, 1) := by decide +kernel
theorem dX6_readProposal_66 : decode cX6_readProposal 66 = .ok (.invokevirtual 93, 3) := by decide +kernel
theorem dX6_readProposal_69 : decode cX6_readProposal 69 = .ok (.ireturn, 1) := by decide +kernel
theorem dX6_readWorths_0 : decode cX6_readWorths 0 = .ok (.iconst 0, 1) := by decide +kernel
theorem dX6_readWorths_1 : decode cX6_readWorths 1 = .ok (.istore_n 2, 1) := by decide +kernel
theorem dX6_readWorths_2 : decode cX6_readWorths 2 = .ok (.iload_n 2, 1) := by decide +kernel
theorem dX6_readWorths_3 : decode cX6_readWorths 3 = .ok (.aload_n 0, 1) := by decide +kernel
theorem dX6_readWorths_4 : decode cX6_readWorths 4 = .ok (.getfield 12, 3) := by decide +kernel
theorem dX6_readWorths_7 : decode cX6_readWorths 7 = .ok (.getfield 96, 3) := by decide +kernel
theorem dX6_readWorths_10 : decode cX6_readWorths 10 = .ok (.if_icmp .ge 82, 3) := by decide +kernel
theorem dX6_readWorths_13 : decode cX6_readWorths 13 = .ok (.aload_n 0, 1) := by decide +kernel
theorem dX6_readWorths_14 : decode cX6_readWorths 14 = .ok (.invokevirtual 56, 3) := by decide +kernel
theorem dX6_readWorths_17 : decode cX6_readWorths 17 = .ok (.aload_n 0, 1) := by decide +kernel
theorem dX6_readWorths_18 : decode cX6_readWorths 18 = .ok (.bipush 45, 2) := by decide +kernel
theorem dX6_readWorths_20 : decode cX6_readWorths 20 = .ok (.invokevirtual 125, 3) := by decide +kernel
theorem dX6_readWorths_23 : decode cX6_readWorths 23 = .ok (.istore_n 3, 1) := by decide +kernel
theorem dX6_readWorths_24 : decode cX6_readWorths 24 = .ok (.iload_n 3, 1) := by decide +kernel
theorem dX6_readWorths_25 : decode cX6_readWorths 25 = .ok (.ifCond .eq 7, 3) := by decide +kernel
theorem dX6_readWorths_28 : decode cX6_readWorths 28 = .ok (.aload_n 0, 1) := by decide +kernel
theorem dX6_readWorths_29 : decode cX6_readWorths 29 = .ok (.invokevirtual 56, 3) := by decide +kernel
theorem dX6_readWorths_32 : decode cX6_readWorths 32 = .ok (.aload_n 0, 1) := by decide +kernel
theorem dX6_readWorths_33 : decode cX6_readWorths 33 = .ok (.iconst 0, 1) := by decide +kernel
theorem dX6_readWorths_34 : decode cX6_readWorths 34 = .ok (.bipush 9, 2) := by decide +kernel
theorem dX6_readWorths_36 : decode cX6_readWorths 36 = .ok (.invokevirtual 101, 3) := by decide +kernel
theorem dX6_readWorths_39 : decode cX6_readWorths 39 = .ok (.ifCond .ne 5, 3) := by decide +kernel
theorem dX6_readWorths_42 : decode cX6_readWorths 42 = .ok (.iconst 0, 1) := by decide +kernel
theorem dX6_readWorths_43 : decode cX6_readWorths 43 = .ok (.ireturn, 1) := by decide +kernel
theorem dX6_readWorths_44 : decode cX6_readWorths 44 = .ok (.aload_n 0, 1) := by decide +kernel
theorem dX6_readWorths_45 : decode cX6_readWorths 45 = .ok (.getfield 12, 3) := by decide +kernel
theorem dX6_readWorths_48 : decode cX6_readWorths 48 = .ok (.getfield 128, 3) := by decide +kernel
theorem dX6_readWorths_51 : decode cX6_readWorths 51 = .ok (.iload_n 1, 1) := by decide +kernel
theorem dX6_readWorths_52 : decode cX6_readWorths 52 = .ok (.aaload, 1) := by decide +kernel
theorem dX6_readWorths_53 : decode cX6_readWorths 53 = .ok (.iload_n 2, 1) := by decide +kernel
theorem dX6_readWorths_54 : decode cX6_readWorths 54 = .ok (.iload_n 3, 1) := by decide +kernel
theorem dX6_readWorths_55 : decode cX6_readWorths 55 = .ok (.ifCond .eq 11, 3) := by decide +kernel
theorem dX6_readWorths_58 : decode cX6_readWorths 58 = .ok (.aload_n 0, 1) := by decide +kernel
theorem dX6_readWorths_59 : decode cX6_readWorths 59 = .ok (.getfield 35, 3) := by decide +kernel
theorem dX6_readWorths_62 : decode cX6_readWorths 62 = .ok (.ineg, 1) := by decide +kernel
theorem dX6_readWorths_63 : decode cX6_readWorths 63 = .ok (.goto 7, 3) := by decide +kernel
theorem dX6_readWorths_66 : decode cX6_readWorths 66 = .ok (.aload_n 0, 1) := by decide +kernel
theorem dX6_readWorths_67 : decode cX6_readWorths 67 = .ok (.getfield 35, 3) := by decide +kernel
theorem dX6_readWorths_70 : decode cX6_readWorths 70 = .ok (.iastore, 1) := by decide +kernel
theorem dX6_readWorths_71 : decode cX6_readWorths 71 = .ok (.aload_n 0, 1) := by decide +kernel
theorem dX6_readWorths_72 : decode cX6_readWorths 72 = .ok (.invokevirtual 56, 3) := by decide +kernel
theorem dX6_readWorths_75 : decode cX6_readWorths 75 = .ok (.aload_n 0, 1) := by decide +kernel
theorem dX6_readWorths_76 : decode cX6_readWorths 76 = .ok (.bipush 44, 2) := by decide +kernel
theorem dX6_readWorths_78 : decode cX6_readWorths 78 = .ok (.invokevirtual 125, 3) := by decide +kernel
theorem dX6_readWorths_81 : decode cX6_readWorths 81 = .ok (.ifCond .ne 5, 3) := by decide +kernel
theorem dX6_readWorths_84 : decode cX6_readWorths 84 = .ok (.iconst 1, 1) := by decide +kernel
theorem dX6_readWorths_85 : decode cX6_readWorths 85 = .ok (.ireturn, 1) := by decide +kernel
theorem dX6_readWorths_86 : decode cX6_readWorths 86 = .ok (.iinc 2 1, 3) := by decide +kernel
theorem dX6_readWorths_89 : decode cX6_readWorths 89 = .ok (.goto (-87), 3) := by decide +kernel
theorem dX6_readWorths_92 : decode cX6_readWorths 92 = .ok (.aload_n 0, 1) := by decide +kernel
theorem dX6_readWorths_93 : decode cX6_readWorths 93 = .ok (.invokevirtual 56, 3) := by decide +kernel
theorem dX6_readWorths_96 : decode cX6_readWorths 96 = .ok (.iconst 0, 1) := by decide +kernel
theorem dX6_readWorths_97 : decode cX6_readWorths 97 = .ok (.ireturn, 1) := by decide +kernel
theorem dX6_readLaw_0 : decode cX6_readLaw 0 = .ok (.aload_n 0, 1) := by decide +kernel
theorem dX6_readLaw_1 : decode cX6_readLaw 1 = .ok (.invokevirtual 56, 3) := by decide +kernel
theorem dX6_readLaw_4 : decode cX6_readLaw 4 = .ok (.aload_n 0, 1) := by decide +kernel
theorem dX6_readLaw_5 : decode cX6_readLaw 5 = .ok (.iload_n 2, 1) := by decide +kernel
theorem dX6_readLaw_6 : decode cX6_readLaw 6 = .ok (.iload_n 3, 1) := by decide +kernel
theorem dX6_readLaw_7 : decode cX6_readLaw 7 = .ok (.invokevirtual 101, 3) := by decide +kernel
theorem dX6_readLaw_10 : decode cX6_readLaw 10 = .ok (.ifCond .ne 5, 3) := by decide +kernel
theorem dX6_readLaw_13 : decode cX6_readLaw 13 = .ok (.iconst 0, 1) := by decide +kernel
theorem dX6_readLaw_14 : decode cX6_readLaw 14 = .ok (.ireturn, 1) := by decide +kernel
theorem dX6_readLaw_15 : decode cX6_readLaw 15 = .ok (.aload_n 0, 1) := by decide +kernel
theorem dX6_readLaw_16 : decode cX6_readLaw 16 = .ok (.getfield 12, 3) := by decide +kernel
theorem dX6_readLaw_19 : decode cX6_readLaw 19 = .ok (.getfield 90, 3) := by decide +kernel
theorem dX6_readLaw_22 : decode cX6_readLaw 22 = .ok (.iload_n 1, 1) := by decide +kernel
theorem dX6_readLaw_23 : decode cX6_readLaw 23 = .ok (.aload_n 0, 1) := by decide +kernel
theorem dX6_readLaw_24 : decode cX6_readLaw 24 = .ok (.getfield 35, 3) := by decide +kernel
theorem dX6_readLaw_27 : decode cX6_readLaw 27 = .ok (.iastore, 1) := by decide +kernel
theorem dX6_readLaw_28 : decode cX6_readLaw 28 = .ok (.aload_n 0, 1) := by decide +kernel
theorem dX6_readLaw_29 : decode cX6_readLaw 29 = .ok (.invokevirtual 56, 3) := by decide +kernel
theorem dX6_readLaw_32 : decode cX6_readLaw 32 = .ok (.aload_n 0, 1) := by decide +kernel
theorem dX6_readLaw_33 : decode cX6_readLaw 33 = .ok (.invokevirtual 93, 3) := by decide +kernel
theorem dX6_readLaw_36 : decode cX6_readLaw 36 = .ok (.ireturn, 1) := by decide +kernel
theorem dX6_readEnd_0 : decode cX6_readEnd 0 = .ok (.aload_n 0, 1) := by decide +kernel
theorem dX6_readEnd_1 : decode cX6_readEnd 1 = .ok (.bipush 59, 2) := by decide +kernel
theorem dX6_readEnd_3 : decode cX6_readEnd 3 = .ok (.invokevirtual 125, 3) := by decide +kernel
theorem dX6_readEnd_6 : decode cX6_readEnd 6 = .ok (.ifCond .ne 5, 3) := by decide +kernel
theorem dX6_readEnd_9 : decode cX6_readEnd 9 = .ok (.iconst 0, 1) := by decide +kernel
theorem dX6_readEnd_10 : decode cX6_readEnd 10 = .ok (.ireturn, 1) := by decide +kernel
theorem dX6_readEnd_11 : decode cX6_readEnd 11 = .ok (.aload_n 0, 1) := by decide +kernel
theorem dX6_readEnd_12 : decode cX6_readEnd 12 = .ok (.invokevirtual 56, 3) := by decide +kernel
theorem dX6_readEnd_15 : decode cX6_readEnd 15 = .ok (.iconst 1, 1) := by decide +kernel
theorem dX6_readEnd_16 : decode cX6_readEnd 16 = .ok (.ireturn, 1) := by decide +kernel
theorem dX6_kindNamed_0 : decode cX6_kindNamed 0 = .ok (.aload_n 0, 1) := by decide +kernel
theorem dX6_kindNamed_1 : decode cX6_kindNamed 1 = .ok (.ldc 131, 2) := by decide +kernel
theorem dX6_kindNamed_3 : decode cX6_kindNamed 3 = .ok (.invokevirtual 73, 3) := by decide +kernel
theorem dX6_kindNamed_6 : decode cX6_kindNamed 6 = .ok (.ifCond .eq 5, 3) := by decide +kernel
theorem dX6_kindNamed_9 : decode cX6_kindNamed 9 = .ok (.iconst 0, 1) := by decide +kernel
theorem dX6_kindNamed_10 : decode cX6_kindNamed 10 = .ok (.ireturn, 1) := by decide +kernel
theorem dX6_kindNamed_11 : decode cX6_kindNamed 11 = .ok (.aload_n 0, 1) := by decide +kernel
theorem dX6_kindNamed_12 : decode cX6_kindNamed 12 = .ok (.ldc 133, 2) := by decide +kernel
theorem dX6_kindNamed_14 : decode cX6_kindNamed 14 = .ok (.invokevirtual 73, 3) := by decide +kernel
theorem dX6_kindNamed_17 : decode cX6_kindNamed 17 = .ok (.ifCond .eq 5, 3) := by decide +kernel
theorem dX6_kindNamed_20 : decode cX6_kindNamed 20 = .ok (.iconst 1, 1) := by decide +kernel
theorem dX6_kindNamed_21 : decode cX6_kindNamed 21 = .ok (.ireturn, 1) := by decide +kernel
theorem dX6_kindNamed_22 : decode cX6_kindNamed 22 = .ok (.aload_n 0, 1) := by decide +kernel
theorem dX6_kindNamed_23 : decode cX6_kindNamed 23 = .ok (.ldc 105, 2) := by decide +kernel
theorem dX6_kindNamed_25 : decode cX6_kindNamed 25 = .ok (.invokevirtual 73, 3) := by decide +kernel
theorem dX6_kindNamed_28 : decode cX6_kindNamed 28 = .ok (.ifCond .eq 5, 3) := by decide +kernel
theorem dX6_kindNamed_31 : decode cX6_kindNamed 31 = .ok (.iconst 2, 1) := by decide +kernel
theorem dX6_kindNamed_32 : decode cX6_kindNamed 32 = .ok (.ireturn, 1) := by decide +kernel
theorem dX6_kindNamed_33 : decode cX6_kindNamed 33 = .ok (.aload_n 0, 1) := by decide +kernel
theorem dX6_kindNamed_34 : decode cX6_kindNamed 34 = .ok (.ldc 135, 2) := by decide +kernel
theorem dX6_kindNamed_36 : decode cX6_kindNamed 36 = .ok (.invokevirtual 73, 3) := by decide +kernel
theorem dX6_kindNamed_39 : decode cX6_kindNamed 39 = .ok (.ifCond .eq 5, 3) := by decide +kernel
theorem dX6_kindNamed_42 : decode cX6_kindNamed 42 = .ok (.iconst 3, 1) := by decide +kernel
theorem dX6_kindNamed_43 : decode cX6_kindNamed 43 = .ok (.ireturn, 1) := by decide +kernel
theorem dX6_kindNamed_44 : decode cX6_kindNamed 44 = .ok (.aload_n 0, 1) := by decide +kernel
theorem dX6_kindNamed_45 : decode cX6_kindNamed 45 = .ok (.ldc 137, 2) := by decide +kernel
theorem dX6_kindNamed_47 : decode cX6_kindNamed 47 = .ok (.invokevirtual 73, 3) := by decide +kernel
theorem dX6_kindNamed_50 : decode cX6_kindNamed 50 = .ok (.ifCond .eq 5, 3) := by decide +kernel
theorem dX6_kindNamed_53 : decode cX6_kindNamed 53 = .ok (.iconst 4, 1) := by decide +kernel
theorem dX6_kindNamed_54 : decode cX6_kindNamed 54 = .ok (.ireturn, 1) := by decide +kernel
theorem dX6_kindNamed_55 : decode cX6_kindNamed 55 = .ok (.aload_n 0, 1) := by decide +kernel
theorem dX6_kindNamed_56 : decode cX6_kindNamed 56 = .ok (.ldc 139, 2) := by decide +kernel
theorem dX6_kindNamed_58 : decode cX6_kindNamed 58 = .ok (.invokevirtual 73, 3) := by decide +kernel
theorem dX6_kindNamed_61 : decode cX6_kindNamed 61 = .ok (.ifCond .eq 5, 3) := by decide +kernel
theorem dX6_kindNamed_64 : decode cX6_kindNamed 64 = .ok (.iconst 5, 1) := by decide +kernel
theorem dX6_kindNamed_65 : decode cX6_kindNamed 65 = .ok (.ireturn, 1) := by decide +kernel
theorem dX6_kindNamed_66 : decode cX6_kindNamed 66 = .ok (.iconst (-1), 1) := by decide +kernel
theorem dX6_kindNamed_67 : decode cX6_kindNamed 67 = .ok (.ireturn, 1) := by decide +kernel
theorem dX6_isName_0 : decode cX6_isName 0 = .ok (.aload_n 0, 1) := by decide +kernel
theorem dX6_isName_1 : decode cX6_isName 1 = .ok (.getfield 29, 3) := by decide +kernel
theorem dX6_isName_4 : decode cX6_isName 4 = .ok (.iconst 1, 1) := by decide +kernel
theorem dX6_isName_5 : decode cX6_isName 5 = .ok (.if_icmp .ne 19, 3) := by decide +kernel
theorem dX6_isName_8 : decode cX6_isName 8 = .ok (.aload_n 0, 1) := by decide +kernel
theorem dX6_isName_9 : decode cX6_isName 9 = .ok (.getfield 26, 3) := by decide +kernel
theorem dX6_isName_12 : decode cX6_isName 12 = .ok (.aload_n 0, 1) := by decide +kernel
theorem dX6_isName_13 : decode cX6_isName 13 = .ok (.getfield 32, 3) := by decide +kernel
theorem dX6_isName_16 : decode cX6_isName 16 = .ok (.isub, 1) := by decide +kernel
theorem dX6_isName_17 : decode cX6_isName 17 = .ok (.aload_n 1, 1) := by decide +kernel
theorem dX6_isName_18 : decode cX6_isName 18 = .ok (.invokevirtual 141, 3) := by decide +kernel
theorem dX6_isName_21 : decode cX6_isName 21 = .ok (.if_icmp .eq 5, 3) := by decide +kernel
theorem dX6_isName_24 : decode cX6_isName 24 = .ok (.iconst 0, 1) := by decide +kernel
theorem dX6_isName_25 : decode cX6_isName 25 = .ok (.ireturn, 1) := by decide +kernel
theorem dX6_isName_26 : decode cX6_isName 26 = .ok (.iconst 0, 1) := by decide +kernel
theorem dX6_isName_27 : decode cX6_isName 27 = .ok (.istore_n 2, 1) := by decide +kernel
theorem dX6_isName_28 : decode cX6_isName 28 = .ok (.iload_n 2, 1) := by decide +kernel
theorem dX6_isName_29 : decode cX6_isName 29 = .ok (.aload_n 1, 1) := by decide +kernel
theorem dX6_isName_30 : decode cX6_isName 30 = .ok (.invokevirtual 141, 3) := by decide +kernel
theorem dX6_isName_33 : decode cX6_isName 33 = .ok (.if_icmp .ge 30, 3) := by decide +kernel
theorem dX6_isName_36 : decode cX6_isName 36 = .ok (.aload_n 0, 1) := by decide +kernel
theorem dX6_isName_37 : decode cX6_isName 37 = .ok (.getfield 18, 3) := by decide +kernel
theorem dX6_isName_40 : decode cX6_isName 40 = .ok (.aload_n 0, 1) := by decide +kernel
theorem dX6_isName_41 : decode cX6_isName 41 = .ok (.getfield 32, 3) := by decide +kernel
theorem dX6_isName_44 : decode cX6_isName 44 = .ok (.iload_n 2, 1) := by decide +kernel
theorem dX6_isName_45 : decode cX6_isName 45 = .ok (.iadd, 1) := by decide +kernel
theorem dX6_isName_46 : decode cX6_isName 46 = .ok (.iaload, 1) := by decide +kernel
theorem dX6_isName_47 : decode cX6_isName 47 = .ok (.aload_n 1, 1) := by decide +kernel
theorem dX6_isName_48 : decode cX6_isName 48 = .ok (.iload_n 2, 1) := by decide +kernel
theorem dX6_isName_49 : decode cX6_isName 49 = .ok (.invokevirtual 145, 3) := by decide +kernel
theorem dX6_isName_52 : decode cX6_isName 52 = .ok (.if_icmp .eq 5, 3) := by decide +kernel
theorem dX6_isName_55 : decode cX6_isName 55 = .ok (.iconst 0, 1) := by decide +kernel
theorem dX6_isName_56 : decode cX6_isName 56 = .ok (.ireturn, 1) := by decide +kernel
theorem dX6_isName_57 : decode cX6_isName 57 = .ok (.iinc 2 1, 3) := by decide +kernel
theorem dX6_isName_60 : decode cX6_isName 60 = .ok (.goto (-32), 3) := by decide +kernel
theorem dX6_isName_63 : decode cX6_isName 63 = .ok (.iconst 1, 1) := by decide +kernel
theorem dX6_isName_64 : decode cX6_isName 64 = .ok (.ireturn, 1) := by decide +kernel
theorem dX6_isNumber_0 : decode cX6_isNumber 0 = .ok (.aload_n 0, 1) := by decide +kernel
theorem dX6_isNumber_1 : decode cX6_isNumber 1 = .ok (.getfield 29, 3) := by decide +kernel
theorem dX6_isNumber_4 : decode cX6_isNumber 4 = .ok (.iconst 2, 1) := by decide +kernel
theorem dX6_isNumber_5 : decode cX6_isNumber 5 = .ok (.if_icmp .ne 19, 3) := by decide +kernel
theorem dX6_isNumber_8 : decode cX6_isNumber 8 = .ok (.aload_n 0, 1) := by decide +kernel
theorem dX6_isNumber_9 : decode cX6_isNumber 9 = .ok (.getfield 35, 3) := by decide +kernel
theorem dX6_isNumber_12 : decode cX6_isNumber 12 = .ok (.iload_n 1, 1) := by decide +kernel
theorem dX6_isNumber_13 : decode cX6_isNumber 13 = .ok (.iload_n 2, 1) := by decide +kernel
theorem dX6_isNumber_14 : decode cX6_isNumber 14 = .ok (.invokestatic 149, 3) := by decide +kernel
theorem dX6_isNumber_17 : decode cX6_isNumber 17 = .ok (.ifCond .eq 7, 3) := by decide +kernel
theorem dX6_isNumber_20 : decode cX6_isNumber 20 = .ok (.iconst 1, 1) := by decide +kernel
theorem dX6_isNumber_21 : decode cX6_isNumber 21 = .ok (.goto 4, 3) := by decide +kernel
theorem dX6_isNumber_24 : decode cX6_isNumber 24 = .ok (.iconst 0, 1) := by decide +kernel
theorem dX6_isNumber_25 : decode cX6_isNumber 25 = .ok (.ireturn, 1) := by decide +kernel
theorem dX6_isByte_0 : decode cX6_isByte 0 = .ok (.aload_n 0, 1) := by decide +kernel
theorem dX6_isByte_1 : decode cX6_isByte 1 = .ok (.getfield 29, 3) := by decide +kernel
theorem dX6_isByte_4 : decode cX6_isByte 4 = .ok (.iconst 3, 1) := by decide +kernel
theorem dX6_isByte_5 : decode cX6_isByte 5 = .ok (.if_icmp .ne 15, 3) := by decide +kernel
theorem dX6_isByte_8 : decode cX6_isByte 8 = .ok (.aload_n 0, 1) := by decide +kernel
theorem dX6_isByte_9 : decode cX6_isByte 9 = .ok (.getfield 35, 3) := by decide +kernel
theorem dX6_isByte_12 : decode cX6_isByte 12 = .ok (.iload_n 1, 1) := by decide +kernel
theorem dX6_isByte_13 : decode cX6_isByte 13 = .ok (.if_icmp .ne 7, 3) := by decide +kernel
theorem dX6_isByte_16 : decode cX6_isByte 16 = .ok (.iconst 1, 1) := by decide +kernel
theorem dX6_isByte_17 : decode cX6_isByte 17 = .ok (.goto 4, 3) := by decide +kernel
theorem dX6_isByte_20 : decode cX6_isByte 20 = .ok (.iconst 0, 1) := by decide +kernel
theorem dX6_isByte_21 : decode cX6_isByte 21 = .ok (.ireturn, 1) := by decide +kernel
theorem dX6_advance_0 : decode cX6_advance 0 = .ok (.aload_n 0, 1) := by decide +kernel
theorem dX6_advance_1 : decode cX6_advance 1 = .ok (.getfield 26, 3) := by decide +kernel
theorem dX6_advance_4 : decode cX6_advance 4 = .ok (.aload_n 0, 1) := by decide +kernel
theorem dX6_advance_5 : decode cX6_advance 5 = .ok (.getfield 22, 3) := by decide +kernel
theorem dX6_advance_8 : decode cX6_advance 8 = .ok (.if_icmp .ge 30, 3) := by decide +kernel
theorem dX6_advance_11 : decode cX6_advance 11 = .ok (.aload_n 0, 1) := by decide +kernel
theorem dX6_advance_12 : decode cX6_advance 12 = .ok (.getfield 18, 3) := by decide +kernel
theorem dX6_advance_15 : decode cX6_advance 15 = .ok (.aload_n 0, 1) := by decide +kernel
theorem dX6_advance_16 : decode cX6_advance 16 = .ok (.getfield 26, 3) := by decide +kernel
theorem dX6_advance_19 : decode cX6_advance 19 = .ok (.iaload, 1) := by decide +kernel
theorem dX6_advance_20 : decode cX6_advance 20 = .ok (.bipush 32, 2) := by decide +kernel
theorem dX6_advance_22 : decode cX6_advance 22 = .ok (.if_icmp .ne 16, 3) := by decide +kernel
theorem dX6_advance_25 : decode cX6_advance 25 = .ok (.aload_n 0, 1) := by decide +kernel
theorem dX6_advance_26 : decode cX6_advance 26 = .ok (.dup, 1) := by decide +kernel
theorem dX6_advance_27 : decode cX6_advance 27 = .ok (.getfield 26, 3) := by decide +kernel
theorem dX6_advance_30 : decode cX6_advance 30 = .ok (.iconst 1, 1) := by decide +kernel
theorem dX6_advance_31 : decode cX6_advance 31 = .ok (.iadd, 1) := by decide +kernel
theorem dX6_advance_32 : decode cX6_advance 32 = .ok (.putfield 26, 3) := by decide +kernel
theorem dX6_advance_35 : decode cX6_advance 35 = .ok (.goto (-35), 3) := by decide +kernel
theorem dX6_advance_38 : decode cX6_advance 38 = .ok (.aload_n 0, 1) := by decide +kernel
theorem dX6_advance_39 : decode cX6_advance 39 = .ok (.aload_n 0, 1) := by decide +kernel
theorem dX6_advance_40 : decode cX6_advance 40 = .ok (.getfield 26, 3) := by decide +kernel
theorem dX6_advance_43 : decode cX6_advance 43 = .ok (.putfield 32, 3) := by decide +kernel
theorem dX6_advance_46 : decode cX6_advance 46 = .ok (.aload_n 0, 1) := by decide +kernel
theorem dX6_advance_47 : decode cX6_advance 47 = .ok (.getfield 26, 3) := by decide +kernel
theorem dX6_advance_50 : decode cX6_advance 50 = .ok (.aload_n 0, 1) := by decide +kernel
theorem dX6_advance_51 : decode cX6_advance 51 = .ok (.getfield 22, 3) := by decide +kernel
theorem dX6_advance_54 : decode cX6_advance 54 = .ok (.if_icmp .lt 11, 3) := by decide +kernel
theorem dX6_advance_57 : decode cX6_advance 57 = .ok (.aload_n 0, 1) := by decide +kernel
theorem dX6_advance_58 : decode cX6_advance 58 = .ok (.iconst 0, 1) := by decide +kernel
theorem dX6_advance_59 : decode cX6_advance 59 = .ok (.putfield 29, 3) := by decide +kernel
theorem dX6_advance_62 : decode cX6_advance 62 = .ok (.goto 129, 3) := by decide +kernel
theorem dX6_advance_65 : decode cX6_advance 65 = .ok (.aload_n 0, 1) := by decide +kernel
theorem dX6_advance_66 : decode cX6_advance 66 = .ok (.getfield 18, 3) := by decide +kernel
theorem dX6_advance_69 : decode cX6_advance 69 = .ok (.aload_n 0, 1) := by decide +kernel
theorem dX6_advance_70 : decode cX6_advance 70 = .ok (.getfield 26, 3) := by decide +kernel
theorem dX6_advance_73 : decode cX6_advance 73 = .ok (.iaload, 1) := by decide +kernel
theorem dX6_advance_74 : decode cX6_advance 74 = .ok (.bipush 97, 2) := by decide +kernel
theorem dX6_advance_76 : decode cX6_advance 76 = .ok (.bipush 122, 2) := by decide +kernel
theorem dX6_advance_78 : decode cX6_advance 78 = .ok (.invokestatic 149, 3) := by decide +kernel
theorem dX6_advance_81 : decode cX6_advance 81 = .ok (.ifCond .eq 51, 3) := by decide +kernel
theorem dX6_advance_84 : decode cX6_advance 84 = .ok (.aload_n 0, 1) := by decide +kernel
theorem dX6_advance_85 : decode cX6_advance 85 = .ok (.iconst 1, 1) := by decide +kernel
theorem dX6_advance_86 : decode cX6_advance 86 = .ok (.putfield 29, 3) := by decide +kernel
theorem dX6_advance_89 : decode cX6_advance 89 = .ok (.aload_n 0, 1) := by decide +kernel
theorem dX6_advance_90 : decode cX6_advance 90 = .ok (.getfield 26, 3) := by decide +kernel
theorem dX6_advance_93 : decode cX6_advance 93 = .ok (.aload_n 0, 1) := by decide +kernel
theorem dX6_advance_94 : decode cX6_advance 94 = .ok (.getfield 22, 3) := by decide +kernel
theorem dX6_advance_97 : decode cX6_advance 97 = .ok (.if_icmp .ge 94, 3) := by decide +kernel
theorem dX6_advance_100 : decode cX6_advance 100 = .ok (.aload_n 0, 1) := by decide +kernel
theorem dX6_advance_101 : decode cX6_advance 101 = .ok (.getfield 18, 3) := by decide +kernel
theorem dX6_advance_104 : decode cX6_advance 104 = .ok (.aload_n 0, 1) := by decide +kernel
theorem dX6_advance_105 : decode cX6_advance 105 = .ok (.getfield 26, 3) := by decide +kernel
theorem dX6_advance_108 : decode cX6_advance 108 = .ok (.iaload, 1) := by decide +kernel
theorem dX6_advance_109 : decode cX6_advance 109 = .ok (.bipush 97, 2) := by decide +kernel
theorem dX6_advance_111 : decode cX6_advance 111 = .ok (.bipush 122, 2) := by decide +kernel
theorem dX6_advance_113 : decode cX6_advance 113 = .ok (.invokestatic 149, 3) := by decide +kernel
theorem dX6_advance_116 : decode cX6_advance 116 = .ok (.ifCond .eq 75, 3) := by decide +kernel
theorem dX6_advance_119 : decode cX6_advance 119 = .ok (.aload_n 0, 1) := by decide +kernel
theorem dX6_advance_120 : decode cX6_advance 120 = .ok (.dup, 1) := by decide +kernel
theorem dX6_advance_121 : decode cX6_advance 121 = .ok (.getfield 26, 3) := by decide +kernel
theorem dX6_advance_124 : decode cX6_advance 124 = .ok (.iconst 1, 1) := by decide +kernel
theorem dX6_advance_125 : decode cX6_advance 125 = .ok (.iadd, 1) := by decide +kernel
theorem dX6_advance_126 : decode cX6_advance 126 = .ok (.putfield 26, 3) := by decide +kernel
theorem dX6_advance_129 : decode cX6_advance 129 = .ok (.goto (-40), 3) := by decide +kernel
theorem dX6_advance_132 : decode cX6_advance 132 = .ok (.aload_n 0, 1) := by decide +kernel
theorem dX6_advance_133 : decode cX6_advance 133 = .ok (.getfield 18, 3) := by decide +kernel
theorem dX6_advance_136 : decode cX6_advance 136 = .ok (.aload_n 0, 1) := by decide +kernel
theorem dX6_advance_137 : decode cX6_advance 137 = .ok (.getfield 26, 3) := by decide +kernel
theorem dX6_advance_140 : decode cX6_advance 140 = .ok (.iaload, 1) := by decide +kernel
theorem dX6_advance_141 : decode cX6_advance 141 = .ok (.bipush 48, 2) := by decide +kernel
theorem dX6_advance_143 : decode cX6_advance 143 = .ok (.bipush 57, 2) := by decide +kernel
theorem dX6_advance_145 : decode cX6_advance 145 = .ok (.invokestatic 149, 3) := by decide +kernel
theorem dX6_advance_148 : decode cX6_advance 148 = .ok (.ifCond .eq 15, 3) := by decide +kernel
theorem dX6_advance_151 : decode cX6_advance 151 = .ok (.aload_n 0, 1) := by decide +kernel
theorem dX6_advance_152 : decode cX6_advance 152 = .ok (.iconst 2, 1) := by decide +kernel
theorem dX6_advance_153 : decode cX6_advance 153 = .ok (.putfield 29, 3) := by decide +kernel
theorem dX6_advance_156 : decode cX6_advance 156 = .ok (.aload_n 0, 1) := by decide +kernel
theorem dX6_advance_157 : decode cX6_advance 157 = .ok (.invokevirtual 152, 3) := by decide +kernel
theorem dX6_advance_160 : decode cX6_advance 160 = .ok (.goto 31, 3) := by decide +kernel
theorem dX6_advance_163 : decode cX6_advance 163 = .ok (.aload_n 0, 1) := by decide +kernel
theorem dX6_advance_164 : decode cX6_advance 164 = .ok (.iconst 3, 1) := by decide +kernel
theorem dX6_advance_165 : decode cX6_advance 165 = .ok (.putfield 29, 3) := by decide +kernel
theorem dX6_advance_168 : decode cX6_advance 168 = .ok (.aload_n 0, 1) := by decide +kernel
theorem dX6_advance_169 : decode cX6_advance 169 = .ok (.aload_n 0, 1) := by decide +kernel
theorem dX6_advance_170 : decode cX6_advance 170 = .ok (.getfield 18, 3) := by decide +kernel
theorem dX6_advance_173 : decode cX6_advance 173 = .ok (.aload_n 0, 1) := by decide +kernel
theorem dX6_advance_174 : decode cX6_advance 174 = .ok (.getfield 26, 3) := by decide +kernel
theorem dX6_advance_177 : decode cX6_advance 177 = .ok (.iaload, 1) := by decide +kernel
theorem dX6_advance_178 : decode cX6_advance 178 = .ok (.putfield 35, 3) := by decide +kernel
theorem dX6_advance_181 : decode cX6_advance 181 = .ok (.aload_n 0, 1) := by decide +kernel
theorem dX6_advance_182 : decode cX6_advance 182 = .ok (.dup, 1) := by decide +kernel
theorem dX6_advance_183 : decode cX6_advance 183 = .ok (.getfield 26, 3) := by decide +kernel
theorem dX6_advance_186 : decode cX6_advance 186 = .ok (.iconst 1, 1) := by decide +kernel
theorem dX6_advance_187 : decode cX6_advance 187 = .ok (.iadd, 1) := by decide +kernel
theorem dX6_advance_188 : decode cX6_advance 188 = .ok (.putfield 26, 3) := by decide +kernel
theorem dX6_advance_191 : decode cX6_advance 191 = .ok (.return_, 1) := by decide +kernel
theorem dX6_takeNumber_0 : decode cX6_takeNumber 0 = .ok (.aload_n 0, 1) := by decide +kernel
theorem dX6_takeNumber_1 : decode cX6_takeNumber 1 = .ok (.iconst 0, 1) := by decide +kernel
theorem dX6_takeNumber_2 : decode cX6_takeNumber 2 = .ok (.putfield 35, 3) := by decide +kernel
theorem dX6_takeNumber_5 : decode cX6_takeNumber 5 = .ok (.aload_n 0, 1) := by decide +kernel
theorem dX6_takeNumber_6 : decode cX6_takeNumber 6 = .ok (.getfield 26, 3) := by decide +kernel
theorem dX6_takeNumber_9 : decode cX6_takeNumber 9 = .ok (.aload_n 0, 1) := by decide +kernel
theorem dX6_takeNumber_10 : decode cX6_takeNumber 10 = .ok (.getfield 22, 3) := by decide +kernel
theorem dX6_takeNumber_13 : decode cX6_takeNumber 13 = .ok (.if_icmp .ge 81, 3) := by decide +kernel
theorem dX6_takeNumber_16 : decode cX6_takeNumber 16 = .ok (.aload_n 0, 1) := by decide +kernel
theorem dX6_takeNumber_17 : decode cX6_takeNumber 17 = .ok (.getfield 18, 3) := by decide +kernel
theorem dX6_takeNumber_20 : decode cX6_takeNumber 20 = .ok (.aload_n 0, 1) := by decide +kernel
theorem dX6_takeNumber_21 : decode cX6_takeNumber 21 = .ok (.getfield 26, 3) := by decide +kernel
theorem dX6_takeNumber_24 : decode cX6_takeNumber 24 = .ok (.iaload, 1) := by decide +kernel
theorem dX6_takeNumber_25 : decode cX6_takeNumber 25 = .ok (.bipush 48, 2) := by decide +kernel
theorem dX6_takeNumber_27 : decode cX6_takeNumber 27 = .ok (.if_icmp .lt 67, 3) := by decide +kernel
theorem dX6_takeNumber_30 : decode cX6_takeNumber 30 = .ok (.aload_n 0, 1) := by decide +kernel
theorem dX6_takeNumber_31 : decode cX6_takeNumber 31 = .ok (.getfield 18, 3) := by decide +kernel
theorem dX6_takeNumber_34 : decode cX6_takeNumber 34 = .ok (.aload_n 0, 1) := by decide +kernel
theorem dX6_takeNumber_35 : decode cX6_takeNumber 35 = .ok (.getfield 26, 3) := by decide +kernel
theorem dX6_takeNumber_38 : decode cX6_takeNumber 38 = .ok (.iaload, 1) := by decide +kernel
theorem dX6_takeNumber_39 : decode cX6_takeNumber 39 = .ok (.bipush 57, 2) := by decide +kernel
theorem dX6_takeNumber_41 : decode cX6_takeNumber 41 = .ok (.if_icmp .gt 53, 3) := by decide +kernel
theorem dX6_takeNumber_44 : decode cX6_takeNumber 44 = .ok (.aload_n 0, 1) := by decide +kernel
theorem dX6_takeNumber_45 : decode cX6_takeNumber 45 = .ok (.getfield 26, 3) := by decide +kernel
theorem dX6_takeNumber_48 : decode cX6_takeNumber 48 = .ok (.aload_n 0, 1) := by decide +kernel
theorem dX6_takeNumber_49 : decode cX6_takeNumber 49 = .ok (.getfield 32, 3) := by decide +kernel
theorem dX6_takeNumber_52 : decode cX6_takeNumber 52 = .ok (.isub, 1) := by decide +kernel
theorem dX6_takeNumber_53 : decode cX6_takeNumber 53 = .ok (.iconst 3, 1) := by decide +kernel
theorem dX6_takeNumber_54 : decode cX6_takeNumber 54 = .ok (.if_icmp .ge 27, 3) := by decide +kernel
theorem dX6_takeNumber_57 : decode cX6_takeNumber 57 = .ok (.aload_n 0, 1) := by decide +kernel
theorem dX6_takeNumber_58 : decode cX6_takeNumber 58 = .ok (.aload_n 0, 1) := by decide +kernel
theorem dX6_takeNumber_59 : decode cX6_takeNumber 59 = .ok (.getfield 35, 3) := by decide +kernel
theorem dX6_takeNumber_62 : decode cX6_takeNumber 62 = .ok (.bipush 10, 2) := by decide +kernel
theorem dX6_takeNumber_64 : decode cX6_takeNumber 64 = .ok (.imul, 1) := by decide +kernel
theorem dX6_takeNumber_65 : decode cX6_takeNumber 65 = .ok (.aload_n 0, 1) := by decide +kernel
theorem dX6_takeNumber_66 : decode cX6_takeNumber 66 = .ok (.getfield 18, 3) := by decide +kernel
theorem dX6_takeNumber_69 : decode cX6_takeNumber 69 = .ok (.aload_n 0, 1) := by decide +kernel
theorem dX6_takeNumber_70 : decode cX6_takeNumber 70 = .ok (.getfield 26, 3) := by decide +kernel
theorem dX6_takeNumber_73 : decode cX6_takeNumber 73 = .ok (.iaload, 1) := by decide +kernel
theorem dX6_takeNumber_74 : decode cX6_takeNumber 74 = .ok (.iadd, 1) := by decide +kernel
theorem dX6_takeNumber_75 : decode cX6_takeNumber 75 = .ok (.bipush 48, 2) := by decide +kernel
theorem dX6_takeNumber_77 : decode cX6_takeNumber 77 = .ok (.isub, 1) := by decide +kernel
theorem dX6_takeNumber_78 : decode cX6_takeNumber 78 = .ok (.putfield 35, 3) := by decide +kernel
theorem dX6_takeNumber_81 : decode cX6_takeNumber 81 = .ok (.aload_n 0, 1) := by decide +kernel
theorem dX6_takeNumber_82 : decode cX6_takeNumber 82 = .ok (.dup, 1) := by decide +kernel
theorem dX6_takeNumber_83 : decode cX6_takeNumber 83 = .ok (.getfield 26, 3) := by decide +kernel
theorem dX6_takeNumber_86 : decode cX6_takeNumber 86 = .ok (.iconst 1, 1) := by decide +kernel
theorem dX6_takeNumber_87 : decode cX6_takeNumber 87 = .ok (.iadd, 1) := by decide +kernel
theorem dX6_takeNumber_88 : decode cX6_takeNumber 88 = .ok (.putfield 26, 3) := by decide +kernel
theorem dX6_takeNumber_91 : decode cX6_takeNumber 91 = .ok (.goto (-86), 3) := by decide +kernel
theorem dX6_takeNumber_94 : decode cX6_takeNumber 94 = .ok (.aload_n 0, 1) := by decide +kernel
theorem dX6_takeNumber_95 : decode cX6_takeNumber 95 = .ok (.getfield 26, 3) := by decide +kernel
theorem dX6_takeNumber_98 : decode cX6_takeNumber 98 = .ok (.aload_n 0, 1) := by decide +kernel
theorem dX6_takeNumber_99 : decode cX6_takeNumber 99 = .ok (.getfield 32, 3) := by decide +kernel
theorem dX6_takeNumber_102 : decode cX6_takeNumber 102 = .ok (.isub, 1) := by decide +kernel
theorem dX6_takeNumber_103 : decode cX6_takeNumber 103 = .ok (.iconst 3, 1) := by decide +kernel
theorem dX6_takeNumber_104 : decode cX6_takeNumber 104 = .ok (.if_icmp .le 8, 3) := by decide +kernel
theorem dX6_takeNumber_107 : decode cX6_takeNumber 107 = .ok (.aload_n 0, 1) := by decide +kernel
theorem dX6_takeNumber_108 : decode cX6_takeNumber 108 = .ok (.iconst (-1), 1) := by decide +kernel
theorem dX6_takeNumber_109 : decode cX6_takeNumber 109 = .ok (.putfield 35, 3) := by decide +kernel
theorem dX6_takeNumber_112 : decode cX6_takeNumber 112 = .ok (.return_, 1) := by decide +kernel
theorem dX7_init_0 : decode cX7_init 0 = .ok (.aload_n 0, 1) := by decide +kernel
theorem dX7_init_1 : decode cX7_init 1 = .ok (.aload_n 1, 1) := by decide +kernel
theorem dX7_init_2 : decode cX7_init 2 = .ok (.invokespecial 1, 3) := by decide +kernel
theorem dX7_init_5 : decode cX7_init 5 = .ok (.return_, 1) := by decide +kernel
theorem dX7_tells_0 : decode cX7_tells 0 = .ok (.aload_n 0, 1) := by decide +kernel
theorem dX7_tells_1 : decode cX7_tells 1 = .ok (.getfield 7, 3) := by decide +kernel
theorem dX7_tells_4 : decode cX7_tells 4 = .ok (.bipush 60, 2) := by decide +kernel
theorem dX7_tells_6 : decode cX7_tells 6 = .ok (.invokevirtual 13, 3) := by decide +kernel
theorem dX7_tells_9 : decode cX7_tells 9 = .ok (.aload_n 0, 1) := by decide +kernel
theorem dX7_tells_10 : decode cX7_tells 10 = .ok (.iload_n 1, 1) := by decide +kernel
theorem dX7_tells_11 : decode cX7_tells 11 = .ok (.invokespecial 19, 3) := by decide +kernel
theorem dX7_tells_14 : decode cX7_tells 14 = .ok (.iconst 2, 1) := by decide +kernel
theorem dX7_tells_15 : decode cX7_tells 15 = .ok (.imul, 1) := by decide +kernel
theorem dX7_tells_16 : decode cX7_tells 16 = .ok (.ireturn, 1) := by decide +kernel
theorem dX7_shares_0 : decode cX7_shares 0 = .ok (.aload_n 0, 1) := by decide +kernel
theorem dX7_shares_1 : decode cX7_shares 1 = .ok (.getfield 7, 3) := by decide +kernel
theorem dX7_shares_4 : decode cX7_shares 4 = .ok (.bipush 61, 2) := by decide +kernel
theorem dX7_shares_6 : decode cX7_shares 6 = .ok (.invokevirtual 13, 3) := by decide +kernel
theorem dX7_shares_9 : decode cX7_shares 9 = .ok (.aload_n 0, 1) := by decide +kernel
theorem dX7_shares_10 : decode cX7_shares 10 = .ok (.iload_n 1, 1) := by decide +kernel
theorem dX7_shares_11 : decode cX7_shares 11 = .ok (.invokespecial 23, 3) := by decide +kernel
theorem dX7_shares_14 : decode cX7_shares 14 = .ok (.istore_n 2, 1) := by decide +kernel
theorem dX7_shares_15 : decode cX7_shares 15 = .ok (.aload_n 0, 1) := by decide +kernel
theorem dX7_shares_16 : decode cX7_shares 16 = .ok (.getfield 7, 3) := by decide +kernel
theorem dX7_shares_19 : decode cX7_shares 19 = .ok (.getfield 26, 3) := by decide +kernel
theorem dX7_shares_22 : decode cX7_shares 22 = .ok (.ifCond .eq 5, 3) := by decide +kernel
theorem dX7_shares_25 : decode cX7_shares 25 = .ok (.iconst 0, 1) := by decide +kernel
theorem dX7_shares_26 : decode cX7_shares 26 = .ok (.ireturn, 1) := by decide +kernel
theorem dX7_shares_27 : decode cX7_shares 27 = .ok (.iload_n 2, 1) := by decide +kernel
theorem dX7_shares_28 : decode cX7_shares 28 = .ok (.aload_n 0, 1) := by decide +kernel
theorem dX7_shares_29 : decode cX7_shares 29 = .ok (.aload_n 0, 1) := by decide +kernel
theorem dX7_shares_30 : decode cX7_shares 30 = .ok (.getfield 30, 3) := by decide +kernel
theorem dX7_shares_33 : decode cX7_shares 33 = .ok (.invokevirtual 34, 3) := by decide +kernel
theorem dX7_shares_36 : decode cX7_shares 36 = .ok (.iadd, 1) := by decide +kernel
theorem dX7_shares_37 : decode cX7_shares 37 = .ok (.ireturn, 1) := by decide +kernel
theorem dX8_init_0 : decode cX8_init 0 = .ok (.aload_n 0, 1) := by decide +kernel
theorem dX8_init_1 : decode cX8_init 1 = .ok (.invokespecial 3, 3) := by decide +kernel
theorem dX8_init_4 : decode cX8_init 4 = .ok (.aload_n 0, 1) := by decide +kernel
theorem dX8_init_5 : decode cX8_init 5 = .ok (.bipush 30, 2) := by decide +kernel
theorem dX8_init_7 : decode cX8_init 7 = .ok (.newarray .int, 2) := by decide +kernel
theorem dX8_init_9 : decode cX8_init 9 = .ok (.putfield 9, 3) := by decide +kernel
theorem dX8_init_12 : decode cX8_init 12 = .ok (.aload_n 0, 1) := by decide +kernel
theorem dX8_init_13 : decode cX8_init 13 = .ok (.iconst 0, 1) := by decide +kernel
theorem dX8_init_14 : decode cX8_init 14 = .ok (.putfield 15, 3) := by decide +kernel
theorem dX8_init_17 : decode cX8_init 17 = .ok (.aload_n 0, 1) := by decide +kernel
theorem dX8_init_18 : decode cX8_init 18 = .ok (.iconst 0, 1) := by decide +kernel
theorem dX8_init_19 : decode cX8_init 19 = .ok (.putfield 19, 3) := by decide +kernel
theorem dX8_init_22 : decode cX8_init 22 = .ok (.return_, 1) := by decide +kernel
theorem dX8_clear_0 : decode cX8_clear 0 = .ok (.aload_n 0, 1) := by decide +kernel
theorem dX8_clear_1 : decode cX8_clear 1 = .ok (.iconst 0, 1) := by decide +kernel
theorem dX8_clear_2 : decode cX8_clear 2 = .ok (.putfield 15, 3) := by decide +kernel
theorem dX8_clear_5 : decode cX8_clear 5 = .ok (.aload_n 0, 1) := by decide +kernel
theorem dX8_clear_6 : decode cX8_clear 6 = .ok (.iconst 0, 1) := by decide +kernel
theorem dX8_clear_7 : decode cX8_clear 7 = .ok (.putfield 19, 3) := by decide +kernel
theorem dX8_clear_10 : decode cX8_clear 10 = .ok (.return_, 1) := by decide +kernel
theorem dX8_begin_0 : decode cX8_begin 0 = .ok (.aload_n 0, 1) := by decide +kernel
theorem dX8_begin_1 : decode cX8_begin 1 = .ok (.getfield 15, 3) := by decide +kernel
theorem dX8_begin_4 : decode cX8_begin 4 = .ok (.bipush 30, 2) := by decide +kernel
theorem dX8_begin_6 : decode cX8_begin 6 = .ok (.if_icmp .ge 23, 3) := by decide +kernel
theorem dX8_begin_9 : decode cX8_begin 9 = .ok (.aload_n 0, 1) := by decide +kernel
theorem dX8_begin_10 : decode cX8_begin 10 = .ok (.getfield 9, 3) := by decide +kernel
theorem dX8_begin_13 : decode cX8_begin 13 = .ok (.aload_n 0, 1) := by decide +kernel
theorem dX8_begin_14 : decode cX8_begin 14 = .ok (.getfield 15, 3) := by decide +kernel
theorem dX8_begin_17 : decode cX8_begin 17 = .ok (.iload_n 1, 1) := by decide +kernel
theorem dX8_begin_18 : decode cX8_begin 18 = .ok (.iastore, 1) := by decide +kernel
theorem dX8_begin_19 : decode cX8_begin 19 = .ok (.aload_n 0, 1) := by decide +kernel
theorem dX8_begin_20 : decode cX8_begin 20 = .ok (.dup, 1) := by decide +kernel
theorem dX8_begin_21 : decode cX8_begin 21 = .ok (.getfield 15, 3) := by decide +kernel
theorem dX8_begin_24 : decode cX8_begin 24 = .ok (.iconst 1, 1) := by decide +kernel
theorem dX8_begin_25 : decode cX8_begin 25 = .ok (.iadd, 1) := by decide +kernel
theorem dX8_begin_26 : decode cX8_begin 26 = .ok (.putfield 15, 3) := by decide +kernel
theorem dX8_begin_29 : decode cX8_begin 29 = .ok (.return_, 1) := by decide +kernel
theorem dX9_init_0 : decode cX9_init 0 = .ok (.aload_n 0, 1) := by decide +kernel
theorem dX9_init_1 : decode cX9_init 1 = .ok (.invokespecial 3, 3) := by decide +kernel
theorem dX9_init_4 : decode cX9_init 4 = .ok (.aload_n 0, 1) := by decide +kernel
theorem dX9_init_5 : decode cX9_init 5 = .ok (.iconst 0, 1) := by decide +kernel
theorem dX9_init_6 : decode cX9_init 6 = .ok (.putfield 9, 3) := by decide +kernel
theorem dX9_init_9 : decode cX9_init 9 = .ok (.aload_n 0, 1) := by decide +kernel
theorem dX9_init_10 : decode cX9_init 10 = .ok (.bipush 6, 2) := by decide +kernel
theorem dX9_init_12 : decode cX9_init 12 = .ok (.newarray .int, 2) := by decide +kernel
theorem dX9_init_14 : decode cX9_init 14 = .ok (.putfield 15, 3) := by decide +kernel
theorem dX9_init_17 : decode cX9_init 17 = .ok (.aload_n 0, 1) := by decide +kernel
theorem dX9_init_18 : decode cX9_init 18 = .ok (.bipush 6, 2) := by decide +kernel
theorem dX9_init_20 : decode cX9_init 20 = .ok (.newarray .int, 2) := by decide +kernel
theorem dX9_init_22 : decode cX9_init 22 = .ok (.putfield 19, 3) := by decide +kernel
theorem dX9_init_25 : decode cX9_init 25 = .ok (.aload_n 0, 1) := by decide +kernel
theorem dX9_init_26 : decode cX9_init 26 = .ok (.bipush 6, 2) := by decide +kernel
theorem dX9_init_28 : decode cX9_init 28 = .ok (.newarray .int, 2) := by decide +kernel
theorem dX9_init_30 : decode cX9_init 30 = .ok (.putfield 22, 3) := by decide +kernel
theorem dX9_init_33 : decode cX9_init 33 = .ok (.aload_n 0, 1) := by decide +kernel
theorem dX9_init_34 : decode cX9_init 34 = .ok (.bipush 6, 2) := by decide +kernel
theorem dX9_init_36 : decode cX9_init 36 = .ok (.newarray .int, 2) := by decide +kernel
theorem dX9_init_38 : decode cX9_init 38 = .ok (.putfield 25, 3) := by decide +kernel
theorem dX9_init_41 : decode cX9_init 41 = .ok (.aload_n 0, 1) := by decide +kernel
theorem dX9_init_42 : decode cX9_init 42 = .ok (.bipush 6, 2) := by decide +kernel
theorem dX9_init_44 : decode cX9_init 44 = .ok (.newarray .int, 2) := by decide +kernel
theorem dX9_init_46 : decode cX9_init 46 = .ok (.putfield 28, 3) := by decide +kernel
theorem dX9_init_49 : decode cX9_init 49 = .ok (.aload_n 0, 1) := by decide +kernel
theorem dX9_init_50 : decode cX9_init 50 = .ok (.iconst 0, 1) := by decide +kernel
theorem dX9_init_51 : decode cX9_init 51 = .ok (.putfield 31, 3) := by decide +kernel
theorem dX9_init_54 : decode cX9_init 54 = .ok (.aload_n 0, 1) := by decide +kernel
theorem dX9_init_55 : decode cX9_init 55 = .ok (.bipush 8, 2) := by decide +kernel
theorem dX9_init_57 : decode cX9_init 57 = .ok (.newarray .int, 2) := by decide +kernel
theorem dX9_init_59 : decode cX9_init 59 = .ok (.putfield 34, 3) := by decide +kernel
theorem dX9_init_62 : decode cX9_init 62 = .ok (.aload_n 0, 1) := by decide +kernel
theorem dX9_init_63 : decode cX9_init 63 = .ok (.bipush 8, 2) := by decide +kernel
theorem dX9_init_65 : decode cX9_init 65 = .ok (.bipush 6, 2) := by decide +kernel
theorem dX9_init_67 : decode cX9_init 67 = .ok (.multianewarray 37 2, 4) := by decide +kernel
theorem dX9_init_71 : decode cX9_init 71 = .ok (.putfield 39, 3) := by decide +kernel
theorem dX9_init_74 : decode cX9_init 74 = .ok (.aload_n 0, 1) := by decide +kernel
theorem dX9_init_75 : decode cX9_init 75 = .ok (.iconst 4, 1) := by decide +kernel
theorem dX9_init_76 : decode cX9_init 76 = .ok (.newarray .int, 2) := by decide +kernel
theorem dX9_init_78 : decode cX9_init 78 = .ok (.putfield 42, 3) := by decide +kernel
theorem dX9_init_81 : decode cX9_init 81 = .ok (.aload_n 0, 1) := by decide +kernel
theorem dX9_init_82 : decode cX9_init 82 = .ok (.iconst 1, 1) := by decide +kernel
theorem dX9_init_83 : decode cX9_init 83 = .ok (.putfield 45, 3) := by decide +kernel
theorem dX9_init_86 : decode cX9_init 86 = .ok (.aload_n 0, 1) := by decide +kernel
theorem dX9_init_87 : decode cX9_init 87 = .ok (.iconst 0, 1) := by decide +kernel
theorem dX9_init_88 : decode cX9_init 88 = .ok (.putfield 48, 3) := by decide +kernel
theorem dX9_init_91 : decode cX9_init 91 = .ok (.aload_n 0, 1) := by decide +kernel
theorem dX9_init_92 : decode cX9_init 92 = .ok (.iconst 0, 1) := by decide +kernel
theorem dX9_init_93 : decode cX9_init 93 = .ok (.putfield 51, 3) := by decide +kernel
theorem dX9_init_96 : decode cX9_init 96 = .ok (.aload_n 0, 1) := by decide +kernel
theorem dX9_init_97 : decode cX9_init 97 = .ok (.getfield 42, 3) := by decide +kernel
theorem dX9_init_100 : decode cX9_init 100 = .ok (.iconst 0, 1) := by decide +kernel
theorem dX9_init_101 : decode cX9_init 101 = .ok (.iconst 1, 1) := by decide +kernel
theorem dX9_init_102 : decode cX9_init 102 = .ok (.iastore, 1) := by decide +kernel
theorem dX9_init_103 : decode cX9_init 103 = .ok (.aload_n 0, 1) := by decide +kernel
theorem dX9_init_104 : decode cX9_init 104 = .ok (.getfield 42, 3) := by decide +kernel
theorem dX9_init_107 : decode cX9_init 107 = .ok (.iconst 3, 1) := by decide +kernel
theorem dX9_init_108 : decode cX9_init 108 = .ok (.iconst 1, 1) := by decide +kernel
theorem dX9_init_109 : decode cX9_init 109 = .ok (.iastore, 1) := by decide +kernel
theorem dX9_init_110 : decode cX9_init 110 = .ok (.return_, 1) := by decide +kernel
theorem dX9_empty_0 : decode cX9_empty 0 = .ok (.aload_n 0, 1) := by decide +kernel
theorem dX9_empty_1 : decode cX9_empty 1 = .ok (.iconst 0, 1) := by decide +kernel
theorem dX9_empty_2 : decode cX9_empty 2 = .ok (.putfield 9, 3) := by decide +kernel
theorem dX9_empty_5 : decode cX9_empty 5 = .ok (.aload_n 0, 1) := by decide +kernel
theorem dX9_empty_6 : decode cX9_empty 6 = .ok (.iconst 0, 1) := by decide +kernel
theorem dX9_empty_7 : decode cX9_empty 7 = .ok (.putfield 31, 3) := by decide +kernel
theorem dX9_empty_10 : decode cX9_empty 10 = .ok (.aload_n 0, 1) := by decide +kernel
theorem dX9_empty_11 : decode cX9_empty 11 = .ok (.getfield 42, 3) := by decide +kernel
theorem dX9_empty_14 : decode cX9_empty 14 = .ok (.iconst 0, 1) := by decide +kernel
theorem dX9_empty_15 : decode cX9_empty 15 = .ok (.iconst 1, 1) := by decide +kernel
theorem dX9_empty_16 : decode cX9_empty 16 = .ok (.iastore, 1) := by decide +kernel
theorem dX9_empty_17 : decode cX9_empty 17 = .ok (.aload_n 0, 1) := by decide +kernel
theorem dX9_empty_18 : decode cX9_empty 18 = .ok (.getfield 42, 3) := by decide +kernel
theorem dX9_empty_21 : decode cX9_empty 21 = .ok (.iconst 1, 1) := by decide +kernel
theorem dX9_empty_22 : decode cX9_empty 22 = .ok (.iconst 0, 1) := by decide +kernel
theorem dX9_empty_23 : decode cX9_empty 23 = .ok (.iastore, 1) := by decide +kernel
theorem dX9_empty_24 : decode cX9_empty 24 = .ok (.aload_n 0, 1) := by decide +kernel
theorem dX9_empty_25 : decode cX9_empty 25 = .ok (.getfield 42, 3) := by decide +kernel
theorem dX9_empty_28 : decode cX9_empty 28 = .ok (.iconst 2, 1) := by decide +kernel
theorem dX9_empty_29 : decode cX9_empty 29 = .ok (.iconst 0, 1) := by decide +kernel
theorem dX9_empty_30 : decode cX9_empty 30 = .ok (.iastore, 1) := by decide +kernel
theorem dX9_empty_31 : decode cX9_empty 31 = .ok (.aload_n 0, 1) := by decide +kernel
theorem dX9_empty_32 : decode cX9_empty 32 = .ok (.getfield 42, 3) := by decide +kernel
theorem dX9_empty_35 : decode cX9_empty 35 = .ok (.iconst 3, 1) := by decide +kernel
theorem dX9_empty_36 : decode cX9_empty 36 = .ok (.iconst 1, 1) := by decide +kernel
theorem dX9_empty_37 : decode cX9_empty 37 = .ok (.iastore, 1) := by decide +kernel
theorem dX9_empty_38 : decode cX9_empty 38 = .ok (.aload_n 0, 1) := by decide +kernel
theorem dX9_empty_39 : decode cX9_empty 39 = .ok (.iconst 0, 1) := by decide +kernel
theorem dX9_empty_40 : decode cX9_empty 40 = .ok (.putfield 48, 3) := by decide +kernel
theorem dX9_empty_43 : decode cX9_empty 43 = .ok (.aload_n 0, 1) := by decide +kernel
theorem dX9_empty_44 : decode cX9_empty 44 = .ok (.iconst 0, 1) := by decide +kernel
theorem dX9_empty_45 : decode cX9_empty 45 = .ok (.putfield 51, 3) := by decide +kernel
theorem dX9_empty_48 : decode cX9_empty 48 = .ok (.return_, 1) := by decide +kernel
theorem dX9_copyFrom_0 : decode cX9_copyFrom 0 = .ok (.aload_n 0, 1) := by decide +kernel
theorem dX9_copyFrom_1 : decode cX9_copyFrom 1 = .ok (.aload_n 1, 1) := by decide +kernel
theorem dX9_copyFrom_2 : decode cX9_copyFrom 2 = .ok (.getfield 9, 3) := by decide +kernel
theorem dX9_copyFrom_5 : decode cX9_copyFrom 5 = .ok (.putfield 9, 3) := by decide +kernel
theorem dX9_copyFrom_8 : decode cX9_copyFrom 8 = .ok (.aload_n 1, 1) := by decide +kernel
theorem dX9_copyFrom_9 : decode cX9_copyFrom 9 = .ok (.getfield 15, 3) := by decide +kernel
theorem dX9_copyFrom_12 : decode cX9_copyFrom 12 = .ok (.iconst 0, 1) := by decide +kernel
theorem dX9_copyFrom_13 : decode cX9_copyFrom 13 = .ok (.aload_n 0, 1) := by decide +kernel
theorem dX9_copyFrom_14 : decode cX9_copyFrom 14 = .ok (.getfield 15, 3) := by decide +kernel
theorem dX9_copyFrom_17 : decode cX9_copyFrom 17 = .ok (.iconst 0, 1) := by decide +kernel
theorem dX9_copyFrom_18 : decode cX9_copyFrom 18 = .ok (.bipush 6, 2) := by decide +kernel
theorem dX9_copyFrom_20 : decode cX9_copyFrom 20 = .ok (.invokestatic 54, 3) := by decide +kernel
theorem dX9_copyFrom_23 : decode cX9_copyFrom 23 = .ok (.aload_n 1, 1) := by decide +kernel
theorem dX9_copyFrom_24 : decode cX9_copyFrom 24 = .ok (.getfield 19, 3) := by decide +kernel
theorem dX9_copyFrom_27 : decode cX9_copyFrom 27 = .ok (.iconst 0, 1) := by decide +kernel
theorem dX9_copyFrom_28 : decode cX9_copyFrom 28 = .ok (.aload_n 0, 1) := by decide +kernel
theorem dX9_copyFrom_29 : decode cX9_copyFrom 29 = .ok (.getfield 19, 3) := by decide +kernel
theorem dX9_copyFrom_32 : decode cX9_copyFrom 32 = .ok (.iconst 0, 1) := by decide +kernel
theorem dX9_copyFrom_33 : decode cX9_copyFrom 33 = .ok (.bipush 6, 2) := by decide +kernel
theorem dX9_copyFrom_35 : decode cX9_copyFrom 35 = .ok (.invokestatic 54, 3) := by decide +kernel
theorem dX9_copyFrom_38 : decode cX9_copyFrom 38 = .ok (.aload_n 1, 1) := by decide +kernel
theorem dX9_copyFrom_39 : decode cX9_copyFrom 39 = .ok (.getfield 22, 3) := by decide +kernel
theorem dX9_copyFrom_42 : decode cX9_copyFrom 42 = .ok (.iconst 0, 1) := by decide +kernel
theorem dX9_copyFrom_43 : decode cX9_copyFrom 43 = .ok (.aload_n 0, 1) := by decide +kernel
theorem dX9_copyFrom_44 : decode cX9_copyFrom 44 = .ok (.getfield 22, 3) := by decide +kernel
theorem dX9_copyFrom_47 : decode cX9_copyFrom 47 = .ok (.iconst 0, 1) := by decide +kernel
theorem dX9_copyFrom_48 : decode cX9_copyFrom 48 = .ok (.bipush 6, 2) := by decide +kernel
theorem dX9_copyFrom_50 : decode cX9_copyFrom 50 = .ok (.invokestatic 54, 3) := by decide +kernel
theorem dX9_copyFrom_53 : decode cX9_copyFrom 53 = .ok (.aload_n 1, 1) := by decide +kernel
theorem dX9_copyFrom_54 : decode cX9_copyFrom 54 = .ok (.getfield 25, 3) := by decide +kernel
theorem dX9_copyFrom_57 : decode cX9_copyFrom 57 = .ok (.iconst 0, 1) := by decide +kernel
theorem dX9_copyFrom_58 : decode cX9_copyFrom 58 = .ok (.aload_n 0, 1) := by decide +kernel
theorem dX9_copyFrom_59 : decode cX9_copyFrom 59 = .ok (.getfield 25, 3) := by decide +kernel
theorem dX9_copyFrom_62 : decode cX9_copyFrom 62 = .ok (.iconst 0, 1) := by decide +kernel
theorem dX9_copyFrom_63 : decode cX9_copyFrom 63 = .ok (.bipush 6, 2) := by decide +kernel
theorem dX9_copyFrom_65 : decode cX9_copyFrom 65 = .ok (.invokestatic 54, 3) := by decide +kernel
theorem dX9_copyFrom_68 : decode cX9_copyFrom 68 = .ok (.aload_n 1, 1) := by decide +kernel
theorem dX9_copyFrom_69 : decode cX9_copyFrom 69 = .ok (.getfield 28, 3) := by decide +kernel
theorem dX9_copyFrom_72 : decode cX9_copyFrom 72 = .ok (.iconst 0, 1) := by decide +kernel
theorem dX9_copyFrom_73 : decode cX9_copyFrom 73 = .ok (.aload_n 0, 1) := by decide +kernel
theorem dX9_copyFrom_74 : decode cX9_copyFrom 74 = .ok (.getfield 28, 3) := by decide +kernel
theorem dX9_copyFrom_77 : decode cX9_copyFrom 77 = .ok (.iconst 0, 1) := by decide +kernel
theorem dX9_copyFrom_78 : decode cX9_copyFrom 78 = .ok (.bipush 6, 2) := by decide +kernel
theorem dX9_copyFrom_80 : decode cX9_copyFrom 80 = .ok (.invokestatic 54, 3) := by decide +kernel
theorem dX9_copyFrom_83 : decode cX9_copyFrom 83 = .ok (.aload_n 0, 1) := by decide +kernel
theorem dX9_copyFrom_84 : decode cX9_copyFrom 84 = .ok (.aload_n 1, 1) := by decide +kernel
theorem dX9_copyFrom_85 : decode cX9_copyFrom 85 = .ok (.getfield 31, 3) := by decide +kernel
theorem dX9_copyFrom_88 : decode cX9_copyFrom 88 = .ok (.putfield 31, 3) := by decide +kernel
theorem dX9_copyFrom_91 : decode cX9_copyFrom 91 = .ok (.aload_n 1, 1) := by decide +kernel
theorem dX9_copyFrom_92 : decode cX9_copyFrom 92 = .ok (.getfield 34, 3) := by decide +kernel
theorem dX9_copyFrom_95 : decode cX9_copyFrom 95 = .ok (.iconst 0, 1) := by decide +kernel
theorem dX9_copyFrom_96 : decode cX9_copyFrom 96 = .ok (.aload_n 0, 1) := by decide +kernel
theorem dX9_copyFrom_97 : decode cX9_copyFrom 97 = .ok (.getfield 34, 3) := by decide +kernel
theorem dX9_copyFrom_100 : decode cX9_copyFrom 100 = .ok (.iconst 0, 1) := by decide +kernel
theorem dX9_copyFrom_101 : decode cX9_copyFrom 101 = .ok (.bipush 8, 2) := by decide +kernel
theorem dX9_copyFrom_103 : decode cX9_copyFrom 103 = .ok (.invokestatic 54, 3) := by decide +kernel
theorem dX9_copyFrom_106 : decode cX9_copyFrom 106 = .ok (.iconst 0, 1) := by decide +kernel
theorem dX9_copyFrom_107 : decode cX9_copyFrom 107 = .ok (.istore_n 2, 1) := by decide +kernel
theorem dX9_copyFrom_108 : decode cX9_copyFrom 108 = .ok (.iload_n 2, 1) := by decide +kernel
theorem dX9_copyFrom_109 : decode cX9_copyFrom 109 = .ok (.bipush 8, 2) := by decide +kernel
theorem dX9_copyFrom_111 : decode cX9_copyFrom 111 = .ok (.if_icmp .ge 28, 3) := by decide +kernel
theorem dX9_copyFrom_114 : decode cX9_copyFrom 114 = .ok (.aload_n 1, 1) := by decide +kernel
theorem dX9_copyFrom_115 : decode cX9_copyFrom 115 = .ok (.getfield 39, 3) := by decide +kernel
theorem dX9_copyFrom_118 : decode cX9_copyFrom 118 = .ok (.iload_n 2, 1) := by decide +kernel
theorem dX9_copyFrom_119 : decode cX9_copyFrom 119 = .ok (.aaload, 1) := by decide +kernel
theorem dX9_copyFrom_120 : decode cX9_copyFrom 120 = .ok (.iconst 0, 1) := by decide +kernel
theorem dX9_copyFrom_121 : decode cX9_copyFrom 121 = .ok (.aload_n 0, 1) := by decide +kernel
theorem dX9_copyFrom_122 : decode cX9_copyFrom 122 = .ok (.getfield 39, 3) := by decide +kernel
theorem dX9_copyFrom_125 : decode cX9_copyFrom 125 = .ok (.iload_n 2, 1) := by decide +kernel
theorem dX9_copyFrom_126 : decode cX9_copyFrom 126 = .ok (.aaload, 1) := by decide +kernel
theorem dX9_copyFrom_127 : decode cX9_copyFrom 127 = .ok (.iconst 0, 1) := by decide +kernel
theorem dX9_copyFrom_128 : decode cX9_copyFrom 128 = .ok (.bipush 6, 2) := by decide +kernel
theorem dX9_copyFrom_130 : decode cX9_copyFrom 130 = .ok (.invokestatic 54, 3) := by decide +kernel
theorem dX9_copyFrom_133 : decode cX9_copyFrom 133 = .ok (.iinc 2 1, 3) := by decide +kernel
theorem dX9_copyFrom_136 : decode cX9_copyFrom 136 = .ok (.goto (-28), 3) := by decide +kernel
theorem dX9_copyFrom_139 : decode cX9_copyFrom 139 = .ok (.aload_n 1, 1) := by decide +kernel
theorem dX9_copyFrom_140 : decode cX9_copyFrom 140 = .ok (.getfield 42, 3) := by decide +kernel
theorem dX9_copyFrom_143 : decode cX9_copyFrom 143 = .ok (.iconst 0, 1) := by decide +kernel
theorem dX9_copyFrom_144 : decode cX9_copyFrom 144 = .ok (.aload_n 0, 1) := by decide +kernel
theorem dX9_copyFrom_145 : decode cX9_copyFrom 145 = .ok (.getfield 42, 3) := by decide +kernel
theorem dX9_copyFrom_148 : decode cX9_copyFrom 148 = .ok (.iconst 0, 1) := by decide +kernel
theorem dX9_copyFrom_149 : decode cX9_copyFrom 149 = .ok (.iconst 4, 1) := by decide +kernel
theorem dX9_copyFrom_150 : decode cX9_copyFrom 150 = .ok (.invokestatic 54, 3) := by decide +kernel
theorem dX9_copyFrom_153 : decode cX9_copyFrom 153 = .ok (.aload_n 0, 1) := by decide +kernel
theorem dX9_copyFrom_154 : decode cX9_copyFrom 154 = .ok (.aload_n 1, 1) := by decide +kernel
theorem dX9_copyFrom_155 : decode cX9_copyFrom 155 = .ok (.getfield 45, 3) := by decide +kernel
theorem dX9_copyFrom_158 : decode cX9_copyFrom 158 = .ok (.putfield 45, 3) := by decide +kernel
theorem dX9_copyFrom_161 : decode cX9_copyFrom 161 = .ok (.aload_n 0, 1) := by decide +kernel
theorem dX9_copyFrom_162 : decode cX9_copyFrom 162 = .ok (.aload_n 1, 1) := by decide +kernel
theorem dX9_copyFrom_163 : decode cX9_copyFrom 163 = .ok (.getfield 48, 3) := by decide +kernel
theorem dX9_copyFrom_166 : decode cX9_copyFrom 166 = .ok (.putfield 48, 3) := by decide +kernel
theorem dX9_copyFrom_169 : decode cX9_copyFrom 169 = .ok (.aload_n 0, 1) := by decide +kernel
theorem dX9_copyFrom_170 : decode cX9_copyFrom 170 = .ok (.aload_n 1, 1) := by decide +kernel
theorem dX9_copyFrom_171 : decode cX9_copyFrom 171 = .ok (.getfield 51, 3) := by decide +kernel
theorem dX9_copyFrom_174 : decode cX9_copyFrom 174 = .ok (.putfield 51, 3) := by decide +kernel
theorem dX9_copyFrom_177 : decode cX9_copyFrom 177 = .ok (.return_, 1) := by decide +kernel
theorem dX9_addPerson_0 : decode cX9_addPerson 0 = .ok (.aload_n 0, 1) := by decide +kernel
theorem dX9_addPerson_1 : decode cX9_addPerson 1 = .ok (.getfield 9, 3) := by decide +kernel
theorem dX9_addPerson_4 : decode cX9_addPerson 4 = .ok (.istore 5, 2) := by decide +kernel
theorem dX9_addPerson_6 : decode cX9_addPerson 6 = .ok (.aload_n 0, 1) := by decide +kernel
theorem dX9_addPerson_7 : decode cX9_addPerson 7 = .ok (.getfield 15, 3) := by decide +kernel
theorem dX9_addPerson_10 : decode cX9_addPerson 10 = .ok (.iload 5, 2) := by decide +kernel
theorem dX9_addPerson_12 : decode cX9_addPerson 12 = .ok (.iload_n 1, 1) := by decide +kernel
theorem dX9_addPerson_13 : decode cX9_addPerson 13 = .ok (.iastore, 1) := by decide +kernel
theorem dX9_addPerson_14 : decode cX9_addPerson 14 = .ok (.aload_n 0, 1) := by decide +kernel
theorem dX9_addPerson_15 : decode cX9_addPerson 15 = .ok (.getfield 19, 3) := by decide +kernel
theorem dX9_addPerson_18 : decode cX9_addPerson 18 = .ok (.iload 5, 2) := by decide +kernel
theorem dX9_addPerson_20 : decode cX9_addPerson 20 = .ok (.iload_n 2, 1) := by decide +kernel
theorem dX9_addPerson_21 : decode cX9_addPerson 21 = .ok (.iastore, 1) := by decide +kernel
theorem dX9_addPerson_22 : decode cX9_addPerson 22 = .ok (.aload_n 0, 1) := by decide +kernel
theorem dX9_addPerson_23 : decode cX9_addPerson 23 = .ok (.getfield 22, 3) := by decide +kernel
theorem dX9_addPerson_26 : decode cX9_addPerson 26 = .ok (.iload 5, 2) := by decide +kernel
theorem dX9_addPerson_28 : decode cX9_addPerson 28 = .ok (.iload_n 3, 1) := by decide +kernel
theorem dX9_addPerson_29 : decode cX9_addPerson 29 = .ok (.iastore, 1) := by decide +kernel
theorem dX9_addPerson_30 : decode cX9_addPerson 30 = .ok (.aload_n 0, 1) := by decide +kernel
theorem dX9_addPerson_31 : decode cX9_addPerson 31 = .ok (.getfield 25, 3) := by decide +kernel
theorem dX9_addPerson_34 : decode cX9_addPerson 34 = .ok (.iload 5, 2) := by decide +kernel
theorem dX9_addPerson_36 : decode cX9_addPerson 36 = .ok (.iload 4, 2) := by decide +kernel
theorem dX9_addPerson_38 : decode cX9_addPerson 38 = .ok (.iastore, 1) := by decide +kernel
theorem dX9_addPerson_39 : decode cX9_addPerson 39 = .ok (.aload_n 0, 1) := by decide +kernel
theorem dX9_addPerson_40 : decode cX9_addPerson 40 = .ok (.getfield 28, 3) := by decide +kernel
theorem dX9_addPerson_43 : decode cX9_addPerson 43 = .ok (.iload 5, 2) := by decide +kernel
theorem dX9_addPerson_45 : decode cX9_addPerson 45 = .ok (.iconst 0, 1) := by decide +kernel
theorem dX9_addPerson_46 : decode cX9_addPerson 46 = .ok (.iastore, 1) := by decide +kernel
theorem dX9_addPerson_47 : decode cX9_addPerson 47 = .ok (.iconst 0, 1) := by decide +kernel
theorem dX9_addPerson_48 : decode cX9_addPerson 48 = .ok (.istore 6, 2) := by decide +kernel
theorem dX9_addPerson_50 : decode cX9_addPerson 50 = .ok (.iload 6, 2) := by decide +kernel
theorem dX9_addPerson_52 : decode cX9_addPerson 52 = .ok (.bipush 8, 2) := by decide +kernel
theorem dX9_addPerson_54 : decode cX9_addPerson 54 = .ok (.if_icmp .ge 20, 3) := by decide +kernel
theorem dX9_addPerson_57 : decode cX9_addPerson 57 = .ok (.aload_n 0, 1) := by decide +kernel
theorem dX9_addPerson_58 : decode cX9_addPerson 58 = .ok (.getfield 39, 3) := by decide +kernel
theorem dX9_addPerson_61 : decode cX9_addPerson 61 = .ok (.iload 6, 2) := by decide +kernel
theorem dX9_addPerson_63 : decode cX9_addPerson 63 = .ok (.aaload, 1) := by decide +kernel
theorem dX9_addPerson_64 : decode cX9_addPerson 64 = .ok (.iload 5, 2) := by decide +kernel
theorem dX9_addPerson_66 : decode cX9_addPerson 66 = .ok (.iconst 0, 1) := by decide +kernel
theorem dX9_addPerson_67 : decode cX9_addPerson 67 = .ok (.iastore, 1) := by decide +kernel
theorem dX9_addPerson_68 : decode cX9_addPerson 68 = .ok (.iinc 6 1, 3) := by decide +kernel
theorem dX9_addPerson_71 : decode cX9_addPerson 71 = .ok (.goto (-21), 3) := by decide +kernel
theorem dX9_addPerson_74 : decode cX9_addPerson 74 = .ok (.aload_n 0, 1) := by decide +kernel
theorem dX9_addPerson_75 : decode cX9_addPerson 75 = .ok (.dup, 1) := by decide +kernel
theorem dX9_addPerson_76 : decode cX9_addPerson 76 = .ok (.getfield 9, 3) := by decide +kernel
theorem dX9_addPerson_79 : decode cX9_addPerson 79 = .ok (.iconst 1, 1) := by decide +kernel
theorem dX9_addPerson_80 : decode cX9_addPerson 80 = .ok (.iadd, 1) := by decide +kernel
theorem dX9_addPerson_81 : decode cX9_addPerson 81 = .ok (.putfield 9, 3) := by decide +kernel
theorem dX9_addPerson_84 : decode cX9_addPerson 84 = .ok (.iload 5, 2) := by decide +kernel
theorem dX9_addPerson_86 : decode cX9_addPerson 86 = .ok (.ireturn, 1) := by decide +kernel
theorem dX9_removePerson_0 : decode cX9_removePerson 0 = .ok (.aload_n 0, 1) := by decide +kernel
theorem dX9_removePerson_1 : decode cX9_removePerson 1 = .ok (.getfield 9, 3) := by decide +kernel
theorem dX9_removePerson_4 : decode cX9_removePerson 4 = .ok (.iconst 1, 1) := by decide +kernel
theorem dX9_removePerson_5 : decode cX9_removePerson 5 = .ok (.isub, 1) := by decide +kernel
theorem dX9_removePerson_6 : decode cX9_removePerson 6 = .ok (.iload_n 1, 1) := by decide +kernel
theorem dX9_removePerson_7 : decode cX9_removePerson 7 = .ok (.isub, 1) := by decide +kernel
theorem dX9_removePerson_8 : decode cX9_removePerson 8 = .ok (.istore_n 2, 1) := by decide +kernel
theorem dX9_removePerson_9 : decode cX9_removePerson 9 = .ok (.aload_n 0, 1) := by decide +kernel
theorem dX9_removePerson_10 : decode cX9_removePerson 10 = .ok (.getfield 15, 3) := by decide +kernel
theorem dX9_removePerson_13 : decode cX9_removePerson 13 = .ok (.iload_n 1, 1) := by decide +kernel
theorem dX9_removePerson_14 : decode cX9_removePerson 14 = .ok (.iconst 1, 1) := by decide +kernel
theorem dX9_removePerson_15 : decode cX9_removePerson 15 = .ok (.iadd, 1) := by decide +kernel
theorem dX9_removePerson_16 : decode cX9_removePerson 16 = .ok (.aload_n 0, 1) := by decide +kernel
theorem dX9_removePerson_17 : decode cX9_removePerson 17 = .ok (.getfield 15, 3) := by decide +kernel
theorem dX9_removePerson_20 : decode cX9_removePerson 20 = .ok (.iload_n 1, 1) := by decide +kernel
theorem dX9_removePerson_21 : decode cX9_removePerson 21 = .ok (.iload_n 2, 1) := by decide +kernel
theorem dX9_removePerson_22 : decode cX9_removePerson 22 = .ok (.invokestatic 54, 3) := by decide +kernel
theorem dX9_removePerson_25 : decode cX9_removePerson 25 = .ok (.aload_n 0, 1) := by decide +kernel
theorem dX9_removePerson_26 : decode cX9_removePerson 26 = .ok (.getfield 19, 3) := by decide +kernel
theorem dX9_removePerson_29 : decode cX9_removePerson 29 = .ok (.iload_n 1, 1) := by decide +kernel
theorem dX9_removePerson_30 : decode cX9_removePerson 30 = .ok (.iconst 1, 1) := by decide +kernel
theorem dX9_removePerson_31 : decode cX9_removePerson 31 = .ok (.iadd, 1) := by decide +kernel
theorem dX9_removePerson_32 : decode cX9_removePerson 32 = .ok (.aload_n 0, 1) := by decide +kernel
theorem dX9_removePerson_33 : decode cX9_removePerson 33 = .ok (.getfield 19, 3) := by decide +kernel
theorem dX9_removePerson_36 : decode cX9_removePerson 36 = .ok (.iload_n 1, 1) := by decide +kernel
theorem dX9_removePerson_37 : decode cX9_removePerson 37 = .ok (.iload_n 2, 1) := by decide +kernel
theorem dX9_removePerson_38 : decode cX9_removePerson 38 = .ok (.invokestatic 54, 3) := by decide +kernel
theorem dX9_removePerson_41 : decode cX9_removePerson 41 = .ok (.aload_n 0, 1) := by decide +kernel
theorem dX9_removePerson_42 : decode cX9_removePerson 42 = .ok (.getfield 22, 3) := by decide +kernel
theorem dX9_removePerson_45 : decode cX9_removePerson 45 = .ok (.iload_n 1, 1) := by decide +kernel
theorem dX9_removePerson_46 : decode cX9_removePerson 46 = .ok (.iconst 1, 1) := by decide +kernel
theorem dX9_removePerson_47 : decode cX9_removePerson 47 = .ok (.iadd, 1) := by decide +kernel
theorem dX9_removePerson_48 : decode cX9_removePerson 48 = .ok (.aload_n 0, 1) := by decide +kernel
theorem dX9_removePerson_49 : decode cX9_removePerson 49 = .ok (.getfield 22, 3) := by decide +kernel
theorem dX9_removePerson_52 : decode cX9_removePerson 52 = .ok (.iload_n 1, 1) := by decide +kernel
theorem dX9_removePerson_53 : decode cX9_removePerson 53 = .ok (.iload_n 2, 1) := by decide +kernel
theorem dX9_removePerson_54 : decode cX9_removePerson 54 = .ok (.invokestatic 54, 3) := by decide +kernel
theorem dX9_removePerson_57 : decode cX9_removePerson 57 = .ok (.aload_n 0, 1) := by decide +kernel
theorem dX9_removePerson_58 : decode cX9_removePerson 58 = .ok (.getfield 25, 3) := by decide +kernel
theorem dX9_removePerson_61 : decode cX9_removePerson 61 = .ok (.iload_n 1, 1) := by decide +kernel
theorem dX9_removePerson_62 : decode cX9_removePerson 62 = .ok (.iconst 1, 1) := by decide +kernel
theorem dX9_removePerson_63 : decode cX9_removePerson 63 = .ok (.iadd, 1) := by decide +kernel
theorem dX9_removePerson_64 : decode cX9_removePerson 64 = .ok (.aload_n 0, 1) := by decide +kernel
theorem dX9_removePerson_65 : decode cX9_removePerson 65 = .ok (.getfield 25, 3) := by decide +kernel
theorem dX9_removePerson_68 : decode cX9_removePerson 68 = .ok (.iload_n 1, 1) := by decide +kernel
theorem dX9_removePerson_69 : decode cX9_removePerson 69 = .ok (.iload_n 2, 1) := by decide +kernel
theorem dX9_removePerson_70 : decode cX9_removePerson 70 = .ok (.invokestatic 54, 3) := by decide +kernel
theorem dX9_removePerson_73 : decode cX9_removePerson 73 = .ok (.aload_n 0, 1) := by decide +kernel
theorem dX9_removePerson_74 : decode cX9_removePerson 74 = .ok (.getfield 28, 3) := by decide +kernel
theorem dX9_removePerson_77 : decode cX9_removePerson 77 = .ok (.iload_n 1, 1) := by decide +kernel
theorem dX9_removePerson_78 : decode cX9_removePerson 78 = .ok (.iconst 1, 1) := by decide +kernel
theorem dX9_removePerson_79 : decode cX9_removePerson 79 = .ok (.iadd, 1) := by decide +kernel
theorem dX9_removePerson_80 : decode cX9_removePerson 80 = .ok (.aload_n 0, 1) := by decide +kernel
theorem dX9_removePerson_81 : decode cX9_removePerson 81 = .ok (.getfield 28, 3) := by decide +kernel
theorem dX9_removePerson_84 : decode cX9_removePerson 84 = .ok (.iload_n 1, 1) := by decide +kernel
theorem dX9_removePerson_85 : decode cX9_removePerson 85 = .ok (.iload_n 2, 1) := by decide +kernel
theorem dX9_removePerson_86 : decode cX9_removePerson 86 = .ok (.invokestatic 54, 3) := by decide +kernel
theorem dX9_removePerson_89 : decode cX9_removePerson 89 = .ok (.iconst 0, 1) := by decide +kernel
theorem dX9_removePerson_90 : decode cX9_removePerson 90 = .ok (.istore_n 3, 1) := by decide +kernel
theorem dX9_removePerson_91 : decode cX9_removePerson 91 = .ok (.iload_n 3, 1) := by decide +kernel
theorem dX9_removePerson_92 : decode cX9_removePerson 92 = .ok (.bipush 8, 2) := by decide +kernel
theorem dX9_removePerson_94 : decode cX9_removePerson 94 = .ok (.if_icmp .ge 29, 3) := by decide +kernel
theorem dX9_removePerson_97 : decode cX9_removePerson 97 = .ok (.aload_n 0, 1) := by decide +kernel
theorem dX9_removePerson_98 : decode cX9_removePerson 98 = .ok (.getfield 39, 3) := by decide +kernel
theorem dX9_removePerson_101 : decode cX9_removePerson 101 = .ok (.iload_n 3, 1) := by decide +kernel
theorem dX9_removePerson_102 : decode cX9_removePerson 102 = .ok (.aaload, 1) := by decide +kernel
theorem dX9_removePerson_103 : decode cX9_removePerson 103 = .ok (.iload_n 1, 1) := by decide +kernel
theorem dX9_removePerson_104 : decode cX9_removePerson 104 = .ok (.iconst 1, 1) := by decide +kernel
theorem dX9_removePerson_105 : decode cX9_removePerson 105 = .ok (.iadd, 1) := by decide +kernel
theorem dX9_removePerson_106 : decode cX9_removePerson 106 = .ok (.aload_n 0, 1) := by decide +kernel
theorem dX9_removePerson_107 : decode cX9_removePerson 107 = .ok (.getfield 39, 3) := by decide +kernel
theorem dX9_removePerson_110 : decode cX9_removePerson 110 = .ok (.iload_n 3, 1) := by decide +kernel
theorem dX9_removePerson_111 : decode cX9_removePerson 111 = .ok (.aaload, 1) := by decide +kernel
theorem dX9_removePerson_112 : decode cX9_removePerson 112 = .ok (.iload_n 1, 1) := by decide +kernel
theorem dX9_removePerson_113 : decode cX9_removePerson 113 = .ok (.iload_n 2, 1) := by decide +kernel
theorem dX9_removePerson_114 : decode cX9_removePerson 114 = .ok (.invokestatic 54, 3) := by decide +kernel
theorem dX9_removePerson_117 : decode cX9_removePerson 117 = .ok (.iinc 3 1, 3) := by decide +kernel
theorem dX9_removePerson_120 : decode cX9_removePerson 120 = .ok (.goto (-29), 3) := by decide +kernel
theorem dX9_removePerson_123 : decode cX9_removePerson 123 = .ok (.aload_n 0, 1) := by decide +kernel
theorem dX9_removePerson_124 : decode cX9_removePerson 124 = .ok (.dup, 1) := by decide +kernel
theorem dX9_removePerson_125 : decode cX9_removePerson 125 = .ok (.getfield 9, 3) := by decide +kernel
theorem dX9_removePerson_128 : decode cX9_removePerson 128 = .ok (.iconst 1, 1) := by decide +kernel
theorem dX9_removePerson_129 : decode cX9_removePerson 129 = .ok (.isub, 1) := by decide +kernel
theorem dX9_removePerson_130 : decode cX9_removePerson 130 = .ok (.putfield 9, 3) := by decide +kernel
theorem dX9_removePerson_133 : decode cX9_removePerson 133 = .ok (.return_, 1) := by decide +kernel
theorem dX9_addProposal_0 : decode cX9_addProposal 0 = .ok (.aload_n 0, 1) := by decide +kernel
theorem dX9_addProposal_1 : decode cX9_addProposal 1 = .ok (.getfield 31, 3) := by decide +kernel
theorem dX9_addProposal_4 : decode cX9_addProposal 4 = .ok (.istore_n 2, 1) := by decide +kernel
theorem dX9_addProposal_5 : decode cX9_addProposal 5 = .ok (.aload_n 0, 1) := by decide +kernel
theorem dX9_addProposal_6 : decode cX9_addProposal 6 = .ok (.getfield 34, 3) := by decide +kernel
theorem dX9_addProposal_9 : decode cX9_addProposal 9 = .ok (.iload_n 2, 1) := by decide +kernel
theorem dX9_addProposal_10 : decode cX9_addProposal 10 = .ok (.iload_n 1, 1) := by decide +kernel
theorem dX9_addProposal_11 : decode cX9_addProposal 11 = .ok (.iastore, 1) := by decide +kernel
theorem dX9_addProposal_12 : decode cX9_addProposal 12 = .ok (.iconst 0, 1) := by decide +kernel
theorem dX9_addProposal_13 : decode cX9_addProposal 13 = .ok (.istore_n 3, 1) := by decide +kernel
theorem dX9_addProposal_14 : decode cX9_addProposal 14 = .ok (.iload_n 3, 1) := by decide +kernel
theorem dX9_addProposal_15 : decode cX9_addProposal 15 = .ok (.bipush 6, 2) := by decide +kernel
theorem dX9_addProposal_17 : decode cX9_addProposal 17 = .ok (.if_icmp .ge 18, 3) := by decide +kernel
theorem dX9_addProposal_20 : decode cX9_addProposal 20 = .ok (.aload_n 0, 1) := by decide +kernel
theorem dX9_addProposal_21 : decode cX9_addProposal 21 = .ok (.getfield 39, 3) := by decide +kernel
theorem dX9_addProposal_24 : decode cX9_addProposal 24 = .ok (.iload_n 2, 1) := by decide +kernel
theorem dX9_addProposal_25 : decode cX9_addProposal 25 = .ok (.aaload, 1) := by decide +kernel
theorem dX9_addProposal_26 : decode cX9_addProposal 26 = .ok (.iload_n 3, 1) := by decide +kernel
theorem dX9_addProposal_27 : decode cX9_addProposal 27 = .ok (.iconst 0, 1) := by decide +kernel
theorem dX9_addProposal_28 : decode cX9_addProposal 28 = .ok (.iastore, 1) := by decide +kernel
theorem dX9_addProposal_29 : decode cX9_addProposal 29 = .ok (.iinc 3 1, 3) := by decide +kernel
theorem dX9_addProposal_32 : decode cX9_addProposal 32 = .ok (.goto (-18), 3) := by decide +kernel
theorem dX9_addProposal_35 : decode cX9_addProposal 35 = .ok (.aload_n 0, 1) := by decide +kernel
theorem dX9_addProposal_36 : decode cX9_addProposal 36 = .ok (.dup, 1) := by decide +kernel
theorem dX9_addProposal_37 : decode cX9_addProposal 37 = .ok (.getfield 31, 3) := by decide +kernel
theorem dX9_addProposal_40 : decode cX9_addProposal 40 = .ok (.iconst 1, 1) := by decide +kernel
theorem dX9_addProposal_41 : decode cX9_addProposal 41 = .ok (.iadd, 1) := by decide +kernel
theorem dX9_addProposal_42 : decode cX9_addProposal 42 = .ok (.putfield 31, 3) := by decide +kernel
theorem dX9_addProposal_45 : decode cX9_addProposal 45 = .ok (.iload_n 2, 1) := by decide +kernel
theorem dX9_addProposal_46 : decode cX9_addProposal 46 = .ok (.ireturn, 1) := by decide +kernel
theorem dX9_allWeights_0 : decode cX9_allWeights 0 = .ok (.iconst 0, 1) := by decide +kernel
theorem dX9_allWeights_1 : decode cX9_allWeights 1 = .ok (.istore_n 1, 1) := by decide +kernel
theorem dX9_allWeights_2 : decode cX9_allWeights 2 = .ok (.iconst 0, 1) := by decide +kernel
theorem dX9_allWeights_3 : decode cX9_allWeights 3 = .ok (.istore_n 2, 1) := by decide +kernel
theorem dX9_allWeights_4 : decode cX9_allWeights 4 = .ok (.iload_n 2, 1) := by decide +kernel
theorem dX9_allWeights_5 : decode cX9_allWeights 5 = .ok (.aload_n 0, 1) := by decide +kernel
theorem dX9_allWeights_6 : decode cX9_allWeights 6 = .ok (.getfield 31, 3) := by decide +kernel
theorem dX9_allWeights_9 : decode cX9_allWeights 9 = .ok (.if_icmp .ge 18, 3) := by decide +kernel
theorem dX9_allWeights_12 : decode cX9_allWeights 12 = .ok (.iload_n 1, 1) := by decide +kernel
theorem dX9_allWeights_13 : decode cX9_allWeights 13 = .ok (.aload_n 0, 1) := by decide +kernel
theorem dX9_allWeights_14 : decode cX9_allWeights 14 = .ok (.getfield 34, 3) := by decide +kernel
theorem dX9_allWeights_17 : decode cX9_allWeights 17 = .ok (.iload_n 2, 1) := by decide +kernel
theorem dX9_allWeights_18 : decode cX9_allWeights 18 = .ok (.iaload, 1) := by decide +kernel
theorem dX9_allWeights_19 : decode cX9_allWeights 19 = .ok (.iadd, 1) := by decide +kernel
theorem dX9_allWeights_20 : decode cX9_allWeights 20 = .ok (.istore_n 1, 1) := by decide +kernel
theorem dX9_allWeights_21 : decode cX9_allWeights 21 = .ok (.iinc 2 1, 3) := by decide +kernel
theorem dX9_allWeights_24 : decode cX9_allWeights 24 = .ok (.goto (-20), 3) := by decide +kernel
theorem dX9_allWeights_27 : decode cX9_allWeights 27 = .ok (.iload_n 1, 1) := by decide +kernel
theorem dX9_allWeights_28 : decode cX9_allWeights 28 = .ok (.ireturn, 1) := by decide +kernel
theorem dX9_allNoes_0 : decode cX9_allNoes 0 = .ok (.iconst 0, 1) := by decide +kernel
theorem dX9_allNoes_1 : decode cX9_allNoes 1 = .ok (.istore_n 1, 1) := by decide +kernel
theorem dX9_allNoes_2 : decode cX9_allNoes 2 = .ok (.iconst 0, 1) := by decide +kernel
theorem dX9_allNoes_3 : decode cX9_allNoes 3 = .ok (.istore_n 2, 1) := by decide +kernel
theorem dX9_allNoes_4 : decode cX9_allNoes 4 = .ok (.iload_n 2, 1) := by decide +kernel
theorem dX9_allNoes_5 : decode cX9_allNoes 5 = .ok (.aload_n 0, 1) := by decide +kernel
theorem dX9_allNoes_6 : decode cX9_allNoes 6 = .ok (.getfield 9, 3) := by decide +kernel
theorem dX9_allNoes_9 : decode cX9_allNoes 9 = .ok (.if_icmp .ge 18, 3) := by decide +kernel
theorem dX9_allNoes_12 : decode cX9_allNoes 12 = .ok (.iload_n 1, 1) := by decide +kernel
theorem dX9_allNoes_13 : decode cX9_allNoes 13 = .ok (.aload_n 0, 1) := by decide +kernel
theorem dX9_allNoes_14 : decode cX9_allNoes 14 = .ok (.getfield 25, 3) := by decide +kernel
theorem dX9_allNoes_17 : decode cX9_allNoes 17 = .ok (.iload_n 2, 1) := by decide +kernel
theorem dX9_allNoes_18 : decode cX9_allNoes 18 = .ok (.iaload, 1) := by decide +kernel
theorem dX9_allNoes_19 : decode cX9_allNoes 19 = .ok (.iadd, 1) := by decide +kernel
theorem dX9_allNoes_20 : decode cX9_allNoes 20 = .ok (.istore_n 1, 1) := by decide +kernel
theorem dX9_allNoes_21 : decode cX9_allNoes 21 = .ok (.iinc 2 1, 3) := by decide +kernel
theorem dX9_allNoes_24 : decode cX9_allNoes 24 = .ok (.goto (-20), 3) := by decide +kernel
theorem dX9_allNoes_27 : decode cX9_allNoes 27 = .ok (.iload_n 1, 1) := by decide +kernel
theorem dX9_allNoes_28 : decode cX9_allNoes 28 = .ok (.ireturn, 1) := by decide +kernel
theorem dX9_packedNoes_0 : decode cX9_packedNoes 0 = .ok (.iconst 0, 1) := by decide +kernel
theorem dX9_packedNoes_1 : decode cX9_packedNoes 1 = .ok (.istore_n 1, 1) := by decide +kernel
theorem dX9_packedNoes_2 : decode cX9_packedNoes 2 = .ok (.iconst 0, 1) := by decide +kernel
theorem dX9_packedNoes_3 : decode cX9_packedNoes 3 = .ok (.istore_n 2, 1) := by decide +kernel
theorem dX9_packedNoes_4 : decode cX9_packedNoes 4 = .ok (.iload_n 2, 1) := by decide +kernel
theorem dX9_packedNoes_5 : decode cX9_packedNoes 5 = .ok (.aload_n 0, 1) := by decide +kernel
theorem dX9_packedNoes_6 : decode cX9_packedNoes 6 = .ok (.getfield 9, 3) := by decide +kernel
theorem dX9_packedNoes_9 : decode cX9_packedNoes 9 = .ok (.if_icmp .ge 22, 3) := by decide +kernel
theorem dX9_packedNoes_12 : decode cX9_packedNoes 12 = .ok (.iload_n 1, 1) := by decide +kernel
theorem dX9_packedNoes_13 : decode cX9_packedNoes 13 = .ok (.aload_n 0, 1) := by decide +kernel
theorem dX9_packedNoes_14 : decode cX9_packedNoes 14 = .ok (.getfield 25, 3) := by decide +kernel
theorem dX9_packedNoes_17 : decode cX9_packedNoes 17 = .ok (.iload_n 2, 1) := by decide +kernel
theorem dX9_packedNoes_18 : decode cX9_packedNoes 18 = .ok (.iaload, 1) := by decide +kernel
theorem dX9_packedNoes_19 : decode cX9_packedNoes 19 = .ok (.iconst 4, 1) := by decide +kernel
theorem dX9_packedNoes_20 : decode cX9_packedNoes 20 = .ok (.iload_n 2, 1) := by decide +kernel
theorem dX9_packedNoes_21 : decode cX9_packedNoes 21 = .ok (.imul, 1) := by decide +kernel
theorem dX9_packedNoes_22 : decode cX9_packedNoes 22 = .ok (.ishl, 1) := by decide +kernel
theorem dX9_packedNoes_23 : decode cX9_packedNoes 23 = .ok (.ior, 1) := by decide +kernel
theorem dX9_packedNoes_24 : decode cX9_packedNoes 24 = .ok (.istore_n 1, 1) := by decide +kernel
theorem dX9_packedNoes_25 : decode cX9_packedNoes 25 = .ok (.iinc 2 1, 3) := by decide +kernel
theorem dX9_packedNoes_28 : decode cX9_packedNoes 28 = .ok (.goto (-24), 3) := by decide +kernel
theorem dX9_packedNoes_31 : decode cX9_packedNoes 31 = .ok (.iload_n 1, 1) := by decide +kernel
theorem dX9_packedNoes_32 : decode cX9_packedNoes 32 = .ok (.ireturn, 1) := by decide +kernel
theorem dX9_noesIn_0 : decode cX9_noesIn 0 = .ok (.iload_n 0, 1) := by decide +kernel
theorem dX9_noesIn_1 : decode cX9_noesIn 1 = .ok (.iconst 4, 1) := by decide +kernel
theorem dX9_noesIn_2 : decode cX9_noesIn 2 = .ok (.iload_n 1, 1) := by decide +kernel
theorem dX9_noesIn_3 : decode cX9_noesIn 3 = .ok (.imul, 1) := by decide +kernel
theorem dX9_noesIn_4 : decode cX9_noesIn 4 = .ok (.iushr, 1) := by decide +kernel
theorem dX9_noesIn_5 : decode cX9_noesIn 5 = .ok (.bipush 15, 2) := by decide +kernel
theorem dX9_noesIn_7 : decode cX9_noesIn 7 = .ok (.iand, 1) := by decide +kernel
theorem dX9_noesIn_8 : decode cX9_noesIn 8 = .ok (.ireturn, 1) := by decide +kernel
theorem dX9_drawn_0 : decode cX9_drawn 0 = .ok (.aload_n 0, 1) := by decide +kernel
theorem dX9_drawn_1 : decode cX9_drawn 1 = .ok (.invokevirtual 60, 3) := by decide +kernel
theorem dX9_drawn_4 : decode cX9_drawn 4 = .ok (.istore_n 2, 1) := by decide +kernel
theorem dX9_drawn_5 : decode cX9_drawn 5 = .ok (.iload_n 2, 1) := by decide +kernel
theorem dX9_drawn_6 : decode cX9_drawn 6 = .ok (.ifCond .gt 5, 3) := by decide +kernel
theorem dX9_drawn_9 : decode cX9_drawn 9 = .ok (.iconst 0, 1) := by decide +kernel
theorem dX9_drawn_10 : decode cX9_drawn 10 = .ok (.ireturn, 1) := by decide +kernel
theorem dX9_drawn_11 : decode cX9_drawn 11 = .ok (.iload_n 1, 1) := by decide +kernel
theorem dX9_drawn_12 : decode cX9_drawn 12 = .ok (.bipush 16, 2) := by decide +kernel
theorem dX9_drawn_14 : decode cX9_drawn 14 = .ok (.iushr, 1) := by decide +kernel
theorem dX9_drawn_15 : decode cX9_drawn 15 = .ok (.iload_n 2, 1) := by decide +kernel
theorem dX9_drawn_16 : decode cX9_drawn 16 = .ok (.irem, 1) := by decide +kernel
theorem dX9_drawn_17 : decode cX9_drawn 17 = .ok (.istore_n 3, 1) := by decide +kernel
theorem dX9_drawn_18 : decode cX9_drawn 18 = .ok (.iconst 0, 1) := by decide +kernel
theorem dX9_drawn_19 : decode cX9_drawn 19 = .ok (.istore 4, 2) := by decide +kernel
theorem dX9_drawn_21 : decode cX9_drawn 21 = .ok (.iconst 0, 1) := by decide +kernel
theorem dX9_drawn_22 : decode cX9_drawn 22 = .ok (.istore 5, 2) := by decide +kernel
theorem dX9_drawn_24 : decode cX9_drawn 24 = .ok (.iload 5, 2) := by decide +kernel
theorem dX9_drawn_26 : decode cX9_drawn 26 = .ok (.aload_n 0, 1) := by decide +kernel
theorem dX9_drawn_27 : decode cX9_drawn 27 = .ok (.getfield 31, 3) := by decide +kernel
theorem dX9_drawn_30 : decode cX9_drawn 30 = .ok (.if_icmp .ge 30, 3) := by decide +kernel
theorem dX9_drawn_33 : decode cX9_drawn 33 = .ok (.iload 4, 2) := by decide +kernel
theorem dX9_drawn_35 : decode cX9_drawn 35 = .ok (.aload_n 0, 1) := by decide +kernel
theorem dX9_drawn_36 : decode cX9_drawn 36 = .ok (.getfield 34, 3) := by decide +kernel
theorem dX9_drawn_39 : decode cX9_drawn 39 = .ok (.iload 5, 2) := by decide +kernel
theorem dX9_drawn_41 : decode cX9_drawn 41 = .ok (.iaload, 1) := by decide +kernel
theorem dX9_drawn_42 : decode cX9_drawn 42 = .ok (.iadd, 1) := by decide +kernel
theorem dX9_drawn_43 : decode cX9_drawn 43 = .ok (.istore 4, 2) := by decide +kernel
theorem dX9_drawn_45 : decode cX9_drawn 45 = .ok (.iload_n 3, 1) := by decide +kernel
theorem dX9_drawn_46 : decode cX9_drawn 46 = .ok (.iload 4, 2) := by decide +kernel
theorem dX9_drawn_48 : decode cX9_drawn 48 = .ok (.if_icmp .ge 6, 3) := by decide +kernel
theorem dX9_drawn_51 : decode cX9_drawn 51 = .ok (.iload 5, 2) := by decide +kernel
theorem dX9_drawn_53 : decode cX9_drawn 53 = .ok (.ireturn, 1) := by decide +kernel
theorem dX9_drawn_54 : decode cX9_drawn 54 = .ok (.iinc 5 1, 3) := by decide +kernel
theorem dX9_drawn_57 : decode cX9_drawn 57 = .ok (.goto (-33), 3) := by decide +kernel
theorem dX9_drawn_60 : decode cX9_drawn 60 = .ok (.iconst 0, 1) := by decide +kernel
theorem dX9_drawn_61 : decode cX9_drawn 61 = .ok (.ireturn, 1) := by decide +kernel
theorem dX9_whoWould_0 : decode cX9_whoWould 0 = .ok (.aload_n 0, 1) := by decide +kernel
theorem dX9_whoWould_1 : decode cX9_whoWould 1 = .ok (.iload_n 3, 1) := by decide +kernel
theorem dX9_whoWould_2 : decode cX9_whoWould 2 = .ok (.invokevirtual 64, 3) := by decide +kernel
theorem dX9_whoWould_5 : decode cX9_whoWould 5 = .ok (.istore 4, 2) := by decide +kernel
theorem dX9_whoWould_7 : decode cX9_whoWould 7 = .ok (.aload_n 0, 1) := by decide +kernel
theorem dX9_whoWould_8 : decode cX9_whoWould 8 = .ok (.iload_n 2, 1) := by decide +kernel
theorem dX9_whoWould_9 : decode cX9_whoWould 9 = .ok (.iload 4, 2) := by decide +kernel
theorem dX9_whoWould_11 : decode cX9_whoWould 11 = .ok (.invokevirtual 68, 3) := by decide +kernel
theorem dX9_whoWould_14 : decode cX9_whoWould 14 = .ok (.istore 5, 2) := by decide +kernel
theorem dX9_whoWould_16 : decode cX9_whoWould 16 = .ok (.iconst 0, 1) := by decide +kernel
theorem dX9_whoWould_17 : decode cX9_whoWould 17 = .ok (.istore 6, 2) := by decide +kernel
theorem dX9_whoWould_19 : decode cX9_whoWould 19 = .ok (.iconst 0, 1) := by decide +kernel
theorem dX9_whoWould_20 : decode cX9_whoWould 20 = .ok (.istore 7, 2) := by decide +kernel
theorem dX9_whoWould_22 : decode cX9_whoWould 22 = .ok (.iload 7, 2) := by decide +kernel
theorem dX9_whoWould_24 : decode cX9_whoWould 24 = .ok (.aload_n 0, 1) := by decide +kernel
theorem dX9_whoWould_25 : decode cX9_whoWould 25 = .ok (.getfield 9, 3) := by decide +kernel
theorem dX9_whoWould_28 : decode cX9_whoWould 28 = .ok (.if_icmp .ge 43, 3) := by decide +kernel
theorem dX9_whoWould_31 : decode cX9_whoWould 31 = .ok (.iload 4, 2) := by decide +kernel
theorem dX9_whoWould_33 : decode cX9_whoWould 33 = .ok (.iload 7, 2) := by decide +kernel
theorem dX9_whoWould_35 : decode cX9_whoWould 35 = .ok (.iushr, 1) := by decide +kernel
theorem dX9_whoWould_36 : decode cX9_whoWould 36 = .ok (.iconst 1, 1) := by decide +kernel
theorem dX9_whoWould_37 : decode cX9_whoWould 37 = .ok (.iand, 1) := by decide +kernel
theorem dX9_whoWould_38 : decode cX9_whoWould 38 = .ok (.iconst 1, 1) := by decide +kernel
theorem dX9_whoWould_39 : decode cX9_whoWould 39 = .ok (.if_icmp .ne 26, 3) := by decide +kernel
theorem dX9_whoWould_42 : decode cX9_whoWould 42 = .ok (.aload_n 0, 1) := by decide +kernel
theorem dX9_whoWould_43 : decode cX9_whoWould 43 = .ok (.iload_n 1, 1) := by decide +kernel
theorem dX9_whoWould_44 : decode cX9_whoWould 44 = .ok (.iload 7, 2) := by decide +kernel
theorem dX9_whoWould_46 : decode cX9_whoWould 46 = .ok (.iload 4, 2) := by decide +kernel
theorem dX9_whoWould_48 : decode cX9_whoWould 48 = .ok (.iload 5, 2) := by decide +kernel
theorem dX9_whoWould_50 : decode cX9_whoWould 50 = .ok (.invokevirtual 72, 3) := by decide +kernel
theorem dX9_whoWould_53 : decode cX9_whoWould 53 = .ok (.ifCond .eq 12, 3) := by decide +kernel
theorem dX9_whoWould_56 : decode cX9_whoWould 56 = .ok (.iload 6, 2) := by decide +kernel
theorem dX9_whoWould_58 : decode cX9_whoWould 58 = .ok (.iconst 1, 1) := by decide +kernel
theorem dX9_whoWould_59 : decode cX9_whoWould 59 = .ok (.iload 7, 2) := by decide +kernel
theorem dX9_whoWould_61 : decode cX9_whoWould 61 = .ok (.ishl, 1) := by decide +kernel
theorem dX9_whoWould_62 : decode cX9_whoWould 62 = .ok (.ior, 1) := by decide +kernel
theorem dX9_whoWould_63 : decode cX9_whoWould 63 = .ok (.istore 6, 2) := by decide +kernel
theorem dX9_whoWould_65 : decode cX9_whoWould 65 = .ok (.iinc 7 1, 3) := by decide +kernel
theorem dX9_whoWould_68 : decode cX9_whoWould 68 = .ok (.goto (-46), 3) := by decide +kernel
theorem dX9_whoWould_71 : decode cX9_whoWould 71 = .ok (.iload 6, 2) := by decide +kernel
theorem dX9_whoWould_73 : decode cX9_whoWould 73 = .ok (.ireturn, 1) := by decide +kernel
theorem dX9_whoHasNoes_0 : decode cX9_whoHasNoes 0 = .ok (.iconst 0, 1) := by decide +kernel
theorem dX9_whoHasNoes_1 : decode cX9_whoHasNoes 1 = .ok (.istore_n 2, 1) := by decide +kernel
theorem dX9_whoHasNoes_2 : decode cX9_whoHasNoes 2 = .ok (.iconst 0, 1) := by decide +kernel
theorem dX9_whoHasNoes_3 : decode cX9_whoHasNoes 3 = .ok (.istore_n 3, 1) := by decide +kernel
theorem dX9_whoHasNoes_4 : decode cX9_whoHasNoes 4 = .ok (.iload_n 3, 1) := by decide +kernel
theorem dX9_whoHasNoes_5 : decode cX9_whoHasNoes 5 = .ok (.aload_n 0, 1) := by decide +kernel
theorem dX9_whoHasNoes_6 : decode cX9_whoHasNoes 6 = .ok (.getfield 9, 3) := by decide +kernel
theorem dX9_whoHasNoes_9 : decode cX9_whoHasNoes 9 = .ok (.if_icmp .ge 23, 3) := by decide +kernel
theorem dX9_whoHasNoes_12 : decode cX9_whoHasNoes 12 = .ok (.iload_n 1, 1) := by decide +kernel
theorem dX9_whoHasNoes_13 : decode cX9_whoHasNoes 13 = .ok (.iload_n 3, 1) := by decide +kernel
theorem dX9_whoHasNoes_14 : decode cX9_whoHasNoes 14 = .ok (.invokestatic 76, 3) := by decide +kernel
theorem dX9_whoHasNoes_17 : decode cX9_whoHasNoes 17 = .ok (.ifCond .le 9, 3) := by decide +kernel
theorem dX9_whoHasNoes_20 : decode cX9_whoHasNoes 20 = .ok (.iload_n 2, 1) := by decide +kernel
theorem dX9_whoHasNoes_21 : decode cX9_whoHasNoes 21 = .ok (.iconst 1, 1) := by decide +kernel
theorem dX9_whoHasNoes_22 : decode cX9_whoHasNoes 22 = .ok (.iload_n 3, 1) := by decide +kernel
theorem dX9_whoHasNoes_23 : decode cX9_whoHasNoes 23 = .ok (.ishl, 1) := by decide +kernel
theorem dX9_whoHasNoes_24 : decode cX9_whoHasNoes 24 = .ok (.ior, 1) := by decide +kernel
theorem dX9_whoHasNoes_25 : decode cX9_whoHasNoes 25 = .ok (.istore_n 2, 1) := by decide +kernel
theorem dX9_whoHasNoes_26 : decode cX9_whoHasNoes 26 = .ok (.iinc 3 1, 3) := by decide +kernel
theorem dX9_whoHasNoes_29 : decode cX9_whoHasNoes 29 = .ok (.goto (-25), 3) := by decide +kernel
theorem dX9_whoHasNoes_32 : decode cX9_whoHasNoes 32 = .ok (.iload_n 2, 1) := by decide +kernel
theorem dX9_whoHasNoes_33 : decode cX9_whoHasNoes 33 = .ok (.ireturn, 1) := by decide +kernel
theorem dX9_dislikes_0 : decode cX9_dislikes 0 = .ok (.aload_n 0, 1) := by decide +kernel
theorem dX9_dislikes_1 : decode cX9_dislikes 1 = .ok (.getfield 39, 3) := by decide +kernel
theorem dX9_dislikes_4 : decode cX9_dislikes 4 = .ok (.iload_n 1, 1) := by decide +kernel
theorem dX9_dislikes_5 : decode cX9_dislikes 5 = .ok (.aaload, 1) := by decide +kernel
theorem dX9_dislikes_6 : decode cX9_dislikes 6 = .ok (.iload_n 2, 1) := by decide +kernel
theorem dX9_dislikes_7 : decode cX9_dislikes 7 = .ok (.iaload, 1) := by decide +kernel
theorem dX9_dislikes_8 : decode cX9_dislikes 8 = .ok (.istore 5, 2) := by decide +kernel
theorem dX9_dislikes_10 : decode cX9_dislikes 10 = .ok (.aload_n 0, 1) := by decide +kernel
theorem dX9_dislikes_11 : decode cX9_dislikes 11 = .ok (.getfield 15, 3) := by decide +kernel
theorem dX9_dislikes_14 : decode cX9_dislikes 14 = .ok (.iload_n 2, 1) := by decide +kernel
theorem dX9_dislikes_15 : decode cX9_dislikes 15 = .ok (.iaload, 1) := by decide +kernel
theorem dX9_dislikes_16 : decode cX9_dislikes 16 = .ok (.tableswitch 130 1 5 #[36, 47, 65, 93, 110], 36) := by decide +kernel
theorem dX9_dislikes_52 : decode cX9_dislikes 52 = .ok (.iload 5, 2) := by decide +kernel
theorem dX9_dislikes_54 : decode cX9_dislikes 54 = .ok (.ifCond .ge 7, 3) := by decide +kernel
theorem dX9_dislikes_57 : decode cX9_dislikes 57 = .ok (.iconst 1, 1) := by decide +kernel
theorem dX9_dislikes_58 : decode cX9_dislikes 58 = .ok (.goto 4, 3) := by decide +kernel
theorem dX9_dislikes_61 : decode cX9_dislikes 61 = .ok (.iconst 0, 1) := by decide +kernel
theorem dX9_dislikes_62 : decode cX9_dislikes 62 = .ok (.ireturn, 1) := by decide +kernel
theorem dX9_dislikes_63 : decode cX9_dislikes 63 = .ok (.iload 5, 2) := by decide +kernel
theorem dX9_dislikes_65 : decode cX9_dislikes 65 = .ok (.aload_n 0, 1) := by decide +kernel
theorem dX9_dislikes_66 : decode cX9_dislikes 66 = .ok (.getfield 19, 3) := by decide +kernel
theorem dX9_dislikes_69 : decode cX9_dislikes 69 = .ok (.iload_n 2, 1) := by decide +kernel
theorem dX9_dislikes_70 : decode cX9_dislikes 70 = .ok (.iaload, 1) := by decide +kernel
theorem dX9_dislikes_71 : decode cX9_dislikes 71 = .ok (.ineg, 1) := by decide +kernel
theorem dX9_dislikes_72 : decode cX9_dislikes 72 = .ok (.if_icmp .ge 7, 3) := by decide +kernel
theorem dX9_dislikes_75 : decode cX9_dislikes 75 = .ok (.iconst 1, 1) := by decide +kernel
theorem dX9_dislikes_76 : decode cX9_dislikes 76 = .ok (.goto 4, 3) := by decide +kernel
theorem dX9_dislikes_79 : decode cX9_dislikes 79 = .ok (.iconst 0, 1) := by decide +kernel
theorem dX9_dislikes_80 : decode cX9_dislikes 80 = .ok (.ireturn, 1) := by decide +kernel
theorem dX9_dislikes_81 : decode cX9_dislikes 81 = .ok (.iload 5, 2) := by decide +kernel
theorem dX9_dislikes_83 : decode cX9_dislikes 83 = .ok (.aload_n 0, 1) := by decide +kernel
theorem dX9_dislikes_84 : decode cX9_dislikes 84 = .ok (.getfield 19, 3) := by decide +kernel
theorem dX9_dislikes_87 : decode cX9_dislikes 87 = .ok (.iload_n 2, 1) := by decide +kernel
theorem dX9_dislikes_88 : decode cX9_dislikes 88 = .ok (.iaload, 1) := by decide +kernel
theorem dX9_dislikes_89 : decode cX9_dislikes 89 = .ok (.ineg, 1) := by decide +kernel
theorem dX9_dislikes_90 : decode cX9_dislikes 90 = .ok (.if_icmp .ge 17, 3) := by decide +kernel
theorem dX9_dislikes_93 : decode cX9_dislikes 93 = .ok (.aload_n 0, 1) := by decide +kernel
theorem dX9_dislikes_94 : decode cX9_dislikes 94 = .ok (.iload_n 1, 1) := by decide +kernel
theorem dX9_dislikes_95 : decode cX9_dislikes 95 = .ok (.iload_n 2, 1) := by decide +kernel
theorem dX9_dislikes_96 : decode cX9_dislikes 96 = .ok (.iload_n 3, 1) := by decide +kernel
theorem dX9_dislikes_97 : decode cX9_dislikes 97 = .ok (.invokevirtual 79, 3) := by decide +kernel
theorem dX9_dislikes_100 : decode cX9_dislikes 100 = .ok (.ifCond .ne 7, 3) := by decide +kernel
theorem dX9_dislikes_103 : decode cX9_dislikes 103 = .ok (.iconst 1, 1) := by decide +kernel
theorem dX9_dislikes_104 : decode cX9_dislikes 104 = .ok (.goto 4, 3) := by decide +kernel
theorem dX9_dislikes_107 : decode cX9_dislikes 107 = .ok (.iconst 0, 1) := by decide +kernel
theorem dX9_dislikes_108 : decode cX9_dislikes 108 = .ok (.ireturn, 1) := by decide +kernel
theorem dX9_dislikes_109 : decode cX9_dislikes 109 = .ok (.iload 5, 2) := by decide +kernel
theorem dX9_dislikes_111 : decode cX9_dislikes 111 = .ok (.ifCond .ge 13, 3) := by decide +kernel
theorem dX9_dislikes_114 : decode cX9_dislikes 114 = .ok (.iload_n 2, 1) := by decide +kernel
theorem dX9_dislikes_115 : decode cX9_dislikes 115 = .ok (.iload 4, 2) := by decide +kernel
theorem dX9_dislikes_117 : decode cX9_dislikes 117 = .ok (.if_icmp .ne 7, 3) := by decide +kernel
theorem dX9_dislikes_120 : decode cX9_dislikes 120 = .ok (.iconst 1, 1) := by decide +kernel
theorem dX9_dislikes_121 : decode cX9_dislikes 121 = .ok (.goto 4, 3) := by decide +kernel
theorem dX9_dislikes_124 : decode cX9_dislikes 124 = .ok (.iconst 0, 1) := by decide +kernel
theorem dX9_dislikes_125 : decode cX9_dislikes 125 = .ok (.ireturn, 1) := by decide +kernel
theorem dX9_dislikes_126 : decode cX9_dislikes 126 = .ok (.aload_n 0, 1) := by decide +kernel
theorem dX9_dislikes_127 : decode cX9_dislikes 127 = .ok (.getfield 19, 3) := by decide +kernel
theorem dX9_dislikes_130 : decode cX9_dislikes 130 = .ok (.iload_n 2, 1) := by decide +kernel
theorem dX9_dislikes_131 : decode cX9_dislikes 131 = .ok (.iaload, 1) := by decide +kernel
theorem dX9_dislikes_132 : decode cX9_dislikes 132 = .ok (.iload_n 1, 1) := by decide +kernel
theorem dX9_dislikes_133 : decode cX9_dislikes 133 = .ok (.iushr, 1) := by decide +kernel
theorem dX9_dislikes_134 : decode cX9_dislikes 134 = .ok (.iconst 1, 1) := by decide +kernel
theorem dX9_dislikes_135 : decode cX9_dislikes 135 = .ok (.iand, 1) := by decide +kernel
theorem dX9_dislikes_136 : decode cX9_dislikes 136 = .ok (.iconst 1, 1) := by decide +kernel
theorem dX9_dislikes_137 : decode cX9_dislikes 137 = .ok (.if_icmp .ne 7, 3) := by decide +kernel
theorem dX9_dislikes_140 : decode cX9_dislikes 140 = .ok (.iconst 1, 1) := by decide +kernel
theorem dX9_dislikes_141 : decode cX9_dislikes 141 = .ok (.goto 4, 3) := by decide +kernel
theorem dX9_dislikes_144 : decode cX9_dislikes 144 = .ok (.iconst 0, 1) := by decide +kernel
theorem dX9_dislikes_145 : decode cX9_dislikes 145 = .ok (.ireturn, 1) := by decide +kernel
theorem dX9_dislikes_146 : decode cX9_dislikes 146 = .ok (.iconst 0, 1) := by decide +kernel
theorem dX9_dislikes_147 : decode cX9_dislikes 147 = .ok (.ireturn, 1) := by decide +kernel
theorem dX9_hasWorseOff_0 : decode cX9_hasWorseOff 0 = .ok (.iconst 0, 1) := by decide +kernel
theorem dX9_hasWorseOff_1 : decode cX9_hasWorseOff 1 = .ok (.istore 4, 2) := by decide +kernel
theorem dX9_hasWorseOff_3 : decode cX9_hasWorseOff 3 = .ok (.iload 4, 2) := by decide +kernel
theorem dX9_hasWorseOff_5 : decode cX9_hasWorseOff 5 = .ok (.aload_n 0, 1) := by decide +kernel
theorem dX9_hasWorseOff_6 : decode cX9_hasWorseOff 6 = .ok (.getfield 9, 3) := by decide +kernel
theorem dX9_hasWorseOff_9 : decode cX9_hasWorseOff 9 = .ok (.if_icmp .ge 41, 3) := by decide +kernel
theorem dX9_hasWorseOff_12 : decode cX9_hasWorseOff 12 = .ok (.iload_n 3, 1) := by decide +kernel
theorem dX9_hasWorseOff_13 : decode cX9_hasWorseOff 13 = .ok (.iload 4, 2) := by decide +kernel
theorem dX9_hasWorseOff_15 : decode cX9_hasWorseOff 15 = .ok (.iushr, 1) := by decide +kernel
theorem dX9_hasWorseOff_16 : decode cX9_hasWorseOff 16 = .ok (.iconst 1, 1) := by decide +kernel
theorem dX9_hasWorseOff_17 : decode cX9_hasWorseOff 17 = .ok (.iand, 1) := by decide +kernel
theorem dX9_hasWorseOff_18 : decode cX9_hasWorseOff 18 = .ok (.iconst 1, 1) := by decide +kernel
theorem dX9_hasWorseOff_19 : decode cX9_hasWorseOff 19 = .ok (.if_icmp .ne 25, 3) := by decide +kernel
theorem dX9_hasWorseOff_22 : decode cX9_hasWorseOff 22 = .ok (.aload_n 0, 1) := by decide +kernel
theorem dX9_hasWorseOff_23 : decode cX9_hasWorseOff 23 = .ok (.getfield 39, 3) := by decide +kernel
theorem dX9_hasWorseOff_26 : decode cX9_hasWorseOff 26 = .ok (.iload_n 1, 1) := by decide +kernel
theorem dX9_hasWorseOff_27 : decode cX9_hasWorseOff 27 = .ok (.aaload, 1) := by decide +kernel
theorem dX9_hasWorseOff_28 : decode cX9_hasWorseOff 28 = .ok (.iload 4, 2) := by decide +kernel
theorem dX9_hasWorseOff_30 : decode cX9_hasWorseOff 30 = .ok (.iaload, 1) := by decide +kernel
theorem dX9_hasWorseOff_31 : decode cX9_hasWorseOff 31 = .ok (.aload_n 0, 1) := by decide +kernel
theorem dX9_hasWorseOff_32 : decode cX9_hasWorseOff 32 = .ok (.getfield 39, 3) := by decide +kernel
theorem dX9_hasWorseOff_35 : decode cX9_hasWorseOff 35 = .ok (.iload_n 1, 1) := by decide +kernel
theorem dX9_hasWorseOff_36 : decode cX9_hasWorseOff 36 = .ok (.aaload, 1) := by decide +kernel
theorem dX9_hasWorseOff_37 : decode cX9_hasWorseOff 37 = .ok (.iload_n 2, 1) := by decide +kernel
theorem dX9_hasWorseOff_38 : decode cX9_hasWorseOff 38 = .ok (.iaload, 1) := by decide +kernel
theorem dX9_hasWorseOff_39 : decode cX9_hasWorseOff 39 = .ok (.if_icmp .ge 5, 3) := by decide +kernel
theorem dX9_hasWorseOff_42 : decode cX9_hasWorseOff 42 = .ok (.iconst 1, 1) := by decide +kernel
theorem dX9_hasWorseOff_43 : decode cX9_hasWorseOff 43 = .ok (.ireturn, 1) := by decide +kernel
theorem dX9_hasWorseOff_44 : decode cX9_hasWorseOff 44 = .ok (.iinc 4 1, 3) := by decide +kernel
theorem dX9_hasWorseOff_47 : decode cX9_hasWorseOff 47 = .ok (.goto (-44), 3) := by decide +kernel
theorem dX9_hasWorseOff_50 : decode cX9_hasWorseOff 50 = .ok (.iconst 0, 1) := by decide +kernel
theorem dX9_hasWorseOff_51 : decode cX9_hasWorseOff 51 = .ok (.ireturn, 1) := by decide +kernel
theorem dX9_calledOfLeague_0 : decode cX9_calledOfLeague 0 = .ok (.iconst 0, 1) := by decide +kernel
theorem dX9_calledOfLeague_1 : decode cX9_calledOfLeague 1 = .ok (.istore_n 3, 1) := by decide +kernel
theorem dX9_calledOfLeague_2 : decode cX9_calledOfLeague 2 = .ok (.iconst 0, 1) := by decide +kernel
theorem dX9_calledOfLeague_3 : decode cX9_calledOfLeague 3 = .ok (.istore 4, 2) := by decide +kernel
theorem dX9_calledOfLeague_5 : decode cX9_calledOfLeague 5 = .ok (.iload 4, 2) := by decide +kernel
theorem dX9_calledOfLeague_7 : decode cX9_calledOfLeague 7 = .ok (.aload_n 0, 1) := by decide +kernel
theorem dX9_calledOfLeague_8 : decode cX9_calledOfLeague 8 = .ok (.getfield 9, 3) := by decide +kernel
theorem dX9_calledOfLeague_11 : decode cX9_calledOfLeague 11 = .ok (.if_icmp .ge 22, 3) := by decide +kernel
theorem dX9_calledOfLeague_14 : decode cX9_calledOfLeague 14 = .ok (.aload_n 0, 1) := by decide +kernel
theorem dX9_calledOfLeague_15 : decode cX9_calledOfLeague 15 = .ok (.iload 4, 2) := by decide +kernel
theorem dX9_calledOfLeague_17 : decode cX9_calledOfLeague 17 = .ok (.iload_n 2, 1) := by decide +kernel
theorem dX9_calledOfLeague_18 : decode cX9_calledOfLeague 18 = .ok (.invokevirtual 83, 3) := by decide +kernel
theorem dX9_calledOfLeague_21 : decode cX9_calledOfLeague 21 = .ok (.ifCond .eq 6, 3) := by decide +kernel
theorem dX9_calledOfLeague_24 : decode cX9_calledOfLeague 24 = .ok (.iinc 3 1, 3) := by decide +kernel
theorem dX9_calledOfLeague_27 : decode cX9_calledOfLeague 27 = .ok (.iinc 4 1, 3) := by decide +kernel
theorem dX9_calledOfLeague_30 : decode cX9_calledOfLeague 30 = .ok (.goto (-25), 3) := by decide +kernel
theorem dX9_calledOfLeague_33 : decode cX9_calledOfLeague 33 = .ok (.iload_n 3, 1) := by decide +kernel
theorem dX9_calledOfLeague_34 : decode cX9_calledOfLeague 34 = .ok (.ifCond .ne 5, 3) := by decide +kernel
theorem dX9_calledOfLeague_37 : decode cX9_calledOfLeague 37 = .ok (.iconst (-1), 1) := by decide +kernel
theorem dX9_calledOfLeague_38 : decode cX9_calledOfLeague 38 = .ok (.ireturn, 1) := by decide +kernel
theorem dX9_calledOfLeague_39 : decode cX9_calledOfLeague 39 = .ok (.iload_n 1, 1) := by decide +kernel
theorem dX9_calledOfLeague_40 : decode cX9_calledOfLeague 40 = .ok (.iload_n 3, 1) := by decide +kernel
theorem dX9_calledOfLeague_41 : decode cX9_calledOfLeague 41 = .ok (.irem, 1) := by decide +kernel
theorem dX9_calledOfLeague_42 : decode cX9_calledOfLeague 42 = .ok (.istore 4, 2) := by decide +kernel
theorem dX9_calledOfLeague_44 : decode cX9_calledOfLeague 44 = .ok (.iconst 0, 1) := by decide +kernel
theorem dX9_calledOfLeague_45 : decode cX9_calledOfLeague 45 = .ok (.istore 5, 2) := by decide +kernel
theorem dX9_calledOfLeague_47 : decode cX9_calledOfLeague 47 = .ok (.iload 5, 2) := by decide +kernel
theorem dX9_calledOfLeague_49 : decode cX9_calledOfLeague 49 = .ok (.aload_n 0, 1) := by decide +kernel
theorem dX9_calledOfLeague_50 : decode cX9_calledOfLeague 50 = .ok (.getfield 9, 3) := by decide +kernel
theorem dX9_calledOfLeague_53 : decode cX9_calledOfLeague 53 = .ok (.if_icmp .ge 30, 3) := by decide +kernel
theorem dX9_calledOfLeague_56 : decode cX9_calledOfLeague 56 = .ok (.aload_n 0, 1) := by decide +kernel
theorem dX9_calledOfLeague_57 : decode cX9_calledOfLeague 57 = .ok (.iload 5, 2) := by decide +kernel
theorem dX9_calledOfLeague_59 : decode cX9_calledOfLeague 59 = .ok (.iload_n 2, 1) := by decide +kernel
theorem dX9_calledOfLeague_60 : decode cX9_calledOfLeague 60 = .ok (.invokevirtual 83, 3) := by decide +kernel
theorem dX9_calledOfLeague_63 : decode cX9_calledOfLeague 63 = .ok (.ifCond .eq 14, 3) := by decide +kernel
theorem dX9_calledOfLeague_66 : decode cX9_calledOfLeague 66 = .ok (.iload 4, 2) := by decide +kernel
theorem dX9_calledOfLeague_68 : decode cX9_calledOfLeague 68 = .ok (.ifCond .ne 6, 3) := by decide +kernel
theorem dX9_calledOfLeague_71 : decode cX9_calledOfLeague 71 = .ok (.iload 5, 2) := by decide +kernel
theorem dX9_calledOfLeague_73 : decode cX9_calledOfLeague 73 = .ok (.ireturn, 1) := by decide +kernel
theorem dX9_calledOfLeague_74 : decode cX9_calledOfLeague 74 = .ok (.iinc 4 (-1), 3) := by decide +kernel
theorem dX9_calledOfLeague_77 : decode cX9_calledOfLeague 77 = .ok (.iinc 5 1, 3) := by decide +kernel
theorem dX9_calledOfLeague_80 : decode cX9_calledOfLeague 80 = .ok (.goto (-33), 3) := by decide +kernel
theorem dX9_calledOfLeague_83 : decode cX9_calledOfLeague 83 = .ok (.iconst (-1), 1) := by decide +kernel
theorem dX9_calledOfLeague_84 : decode cX9_calledOfLeague 84 = .ok (.ireturn, 1) := by decide +kernel
theorem dX9_isInLeague_0 : decode cX9_isInLeague 0 = .ok (.aload_n 0, 1) := by decide +kernel
theorem dX9_isInLeague_1 : decode cX9_isInLeague 1 = .ok (.getfield 15, 3) := by decide +kernel
theorem dX9_isInLeague_4 : decode cX9_isInLeague 4 = .ok (.iload_n 1, 1) := by decide +kernel
theorem dX9_isInLeague_5 : decode cX9_isInLeague 5 = .ok (.iaload, 1) := by decide +kernel
theorem dX9_isInLeague_6 : decode cX9_isInLeague 6 = .ok (.iconst 4, 1) := by decide +kernel
theorem dX9_isInLeague_7 : decode cX9_isInLeague 7 = .ok (.if_icmp .ne 16, 3) := by decide +kernel
theorem dX9_isInLeague_10 : decode cX9_isInLeague 10 = .ok (.iload_n 2, 1) := by decide +kernel
theorem dX9_isInLeague_11 : decode cX9_isInLeague 11 = .ok (.iload_n 1, 1) := by decide +kernel
theorem dX9_isInLeague_12 : decode cX9_isInLeague 12 = .ok (.iushr, 1) := by decide +kernel
theorem dX9_isInLeague_13 : decode cX9_isInLeague 13 = .ok (.iconst 1, 1) := by decide +kernel
theorem dX9_isInLeague_14 : decode cX9_isInLeague 14 = .ok (.iand, 1) := by decide +kernel
theorem dX9_isInLeague_15 : decode cX9_isInLeague 15 = .ok (.iconst 1, 1) := by decide +kernel
theorem dX9_isInLeague_16 : decode cX9_isInLeague 16 = .ok (.if_icmp .ne 7, 3) := by decide +kernel
theorem dX9_isInLeague_19 : decode cX9_isInLeague 19 = .ok (.iconst 1, 1) := by decide +kernel
theorem dX9_isInLeague_20 : decode cX9_isInLeague 20 = .ok (.goto 4, 3) := by decide +kernel
theorem dX9_isInLeague_23 : decode cX9_isInLeague 23 = .ok (.iconst 0, 1) := by decide +kernel
theorem dX9_isInLeague_24 : decode cX9_isInLeague 24 = .ok (.ireturn, 1) := by decide +kernel
theorem dX9_whoSays_0 : decode cX9_whoSays 0 = .ok (.aload_n 0, 1) := by decide +kernel
theorem dX9_whoSays_1 : decode cX9_whoSays 1 = .ok (.aload_n 0, 1) := by decide +kernel
theorem dX9_whoSays_2 : decode cX9_whoSays 2 = .ok (.iload_n 1, 1) := by decide +kernel
theorem dX9_whoSays_3 : decode cX9_whoSays 3 = .ok (.iload_n 2, 1) := by decide +kernel
theorem dX9_whoSays_4 : decode cX9_whoSays 4 = .ok (.iload_n 3, 1) := by decide +kernel
theorem dX9_whoSays_5 : decode cX9_whoSays 5 = .ok (.invokevirtual 87, 3) := by decide +kernel
theorem dX9_whoSays_8 : decode cX9_whoSays 8 = .ok (.invokevirtual 91, 3) := by decide +kernel
theorem dX9_whoSays_11 : decode cX9_whoSays 11 = .ok (.ireturn, 1) := by decide +kernel
theorem dX9_sayersOf_0 : decode cX9_sayersOf 0 = .ok (.aload_n 0, 1) := by decide +kernel
theorem dX9_sayersOf_1 : decode cX9_sayersOf 1 = .ok (.getfield 42, 3) := by decide +kernel
theorem dX9_sayersOf_4 : decode cX9_sayersOf 4 = .ok (.iconst 1, 1) := by decide +kernel
theorem dX9_sayersOf_5 : decode cX9_sayersOf 5 = .ok (.iaload, 1) := by decide +kernel
theorem dX9_sayersOf_6 : decode cX9_sayersOf 6 = .ok (.ifCond .ne 5, 3) := by decide +kernel
theorem dX9_sayersOf_9 : decode cX9_sayersOf 9 = .ok (.iload_n 1, 1) := by decide +kernel
theorem dX9_sayersOf_10 : decode cX9_sayersOf 10 = .ok (.ireturn, 1) := by decide +kernel
theorem dX9_sayersOf_11 : decode cX9_sayersOf 11 = .ok (.iload_n 1, 1) := by decide +kernel
theorem dX9_sayersOf_12 : decode cX9_sayersOf 12 = .ok (.istore_n 2, 1) := by decide +kernel
theorem dX9_sayersOf_13 : decode cX9_sayersOf 13 = .ok (.iconst 0, 1) := by decide +kernel
theorem dX9_sayersOf_14 : decode cX9_sayersOf 14 = .ok (.istore_n 3, 1) := by decide +kernel
theorem dX9_sayersOf_15 : decode cX9_sayersOf 15 = .ok (.iconst 0, 1) := by decide +kernel
theorem dX9_sayersOf_16 : decode cX9_sayersOf 16 = .ok (.istore 4, 2) := by decide +kernel
theorem dX9_sayersOf_18 : decode cX9_sayersOf 18 = .ok (.iload 4, 2) := by decide +kernel
theorem dX9_sayersOf_20 : decode cX9_sayersOf 20 = .ok (.aload_n 0, 1) := by decide +kernel
theorem dX9_sayersOf_21 : decode cX9_sayersOf 21 = .ok (.getfield 42, 3) := by decide +kernel
theorem dX9_sayersOf_24 : decode cX9_sayersOf 24 = .ok (.iconst 0, 1) := by decide +kernel
theorem dX9_sayersOf_25 : decode cX9_sayersOf 25 = .ok (.iaload, 1) := by decide +kernel
theorem dX9_sayersOf_26 : decode cX9_sayersOf 26 = .ok (.if_icmp .ge 34, 3) := by decide +kernel
theorem dX9_sayersOf_29 : decode cX9_sayersOf 29 = .ok (.iload_n 2, 1) := by decide +kernel
theorem dX9_sayersOf_30 : decode cX9_sayersOf 30 = .ok (.ifCond .eq 30, 3) := by decide +kernel
theorem dX9_sayersOf_33 : decode cX9_sayersOf 33 = .ok (.iconst 1, 1) := by decide +kernel
theorem dX9_sayersOf_34 : decode cX9_sayersOf 34 = .ok (.aload_n 0, 1) := by decide +kernel
theorem dX9_sayersOf_35 : decode cX9_sayersOf 35 = .ok (.iload_n 2, 1) := by decide +kernel
theorem dX9_sayersOf_36 : decode cX9_sayersOf 36 = .ok (.invokevirtual 94, 3) := by decide +kernel
theorem dX9_sayersOf_39 : decode cX9_sayersOf 39 = .ok (.ishl, 1) := by decide +kernel
theorem dX9_sayersOf_40 : decode cX9_sayersOf 40 = .ok (.istore 5, 2) := by decide +kernel
theorem dX9_sayersOf_42 : decode cX9_sayersOf 42 = .ok (.iload_n 3, 1) := by decide +kernel
theorem dX9_sayersOf_43 : decode cX9_sayersOf 43 = .ok (.iload 5, 2) := by decide +kernel
theorem dX9_sayersOf_45 : decode cX9_sayersOf 45 = .ok (.ior, 1) := by decide +kernel
theorem dX9_sayersOf_46 : decode cX9_sayersOf 46 = .ok (.istore_n 3, 1) := by decide +kernel
theorem dX9_sayersOf_47 : decode cX9_sayersOf 47 = .ok (.iload_n 2, 1) := by decide +kernel
theorem dX9_sayersOf_48 : decode cX9_sayersOf 48 = .ok (.iload 5, 2) := by decide +kernel
theorem dX9_sayersOf_50 : decode cX9_sayersOf 50 = .ok (.iconst (-1), 1) := by decide +kernel
theorem dX9_sayersOf_51 : decode cX9_sayersOf 51 = .ok (.ixor, 1) := by decide +kernel
theorem dX9_sayersOf_52 : decode cX9_sayersOf 52 = .ok (.iand, 1) := by decide +kernel
theorem dX9_sayersOf_53 : decode cX9_sayersOf 53 = .ok (.istore_n 2, 1) := by decide +kernel
theorem dX9_sayersOf_54 : decode cX9_sayersOf 54 = .ok (.iinc 4 1, 3) := by decide +kernel
theorem dX9_sayersOf_57 : decode cX9_sayersOf 57 = .ok (.goto (-39), 3) := by decide +kernel
theorem dX9_sayersOf_60 : decode cX9_sayersOf 60 = .ok (.iload_n 3, 1) := by decide +kernel
theorem dX9_sayersOf_61 : decode cX9_sayersOf 61 = .ok (.ireturn, 1) := by decide +kernel
theorem dX9_oldestOf_0 : decode cX9_oldestOf 0 = .ok (.iconst (-1), 1) := by decide +kernel
theorem dX9_oldestOf_1 : decode cX9_oldestOf 1 = .ok (.istore_n 2, 1) := by decide +kernel
theorem dX9_oldestOf_2 : decode cX9_oldestOf 2 = .ok (.iconst 0, 1) := by decide +kernel
theorem dX9_oldestOf_3 : decode cX9_oldestOf 3 = .ok (.istore_n 3, 1) := by decide +kernel
theorem dX9_oldestOf_4 : decode cX9_oldestOf 4 = .ok (.iload_n 3, 1) := by decide +kernel
theorem dX9_oldestOf_5 : decode cX9_oldestOf 5 = .ok (.aload_n 0, 1) := by decide +kernel
theorem dX9_oldestOf_6 : decode cX9_oldestOf 6 = .ok (.getfield 9, 3) := by decide +kernel
theorem dX9_oldestOf_9 : decode cX9_oldestOf 9 = .ok (.if_icmp .ge 39, 3) := by decide +kernel
theorem dX9_oldestOf_12 : decode cX9_oldestOf 12 = .ok (.iload_n 1, 1) := by decide +kernel
theorem dX9_oldestOf_13 : decode cX9_oldestOf 13 = .ok (.iload_n 3, 1) := by decide +kernel
theorem dX9_oldestOf_14 : decode cX9_oldestOf 14 = .ok (.iushr, 1) := by decide +kernel
theorem dX9_oldestOf_15 : decode cX9_oldestOf 15 = .ok (.iconst 1, 1) := by decide +kernel
theorem dX9_oldestOf_16 : decode cX9_oldestOf 16 = .ok (.iand, 1) := by decide +kernel
theorem dX9_oldestOf_17 : decode cX9_oldestOf 17 = .ok (.iconst 1, 1) := by decide +kernel
theorem dX9_oldestOf_18 : decode cX9_oldestOf 18 = .ok (.if_icmp .ne 24, 3) := by decide +kernel
theorem dX9_oldestOf_21 : decode cX9_oldestOf 21 = .ok (.iload_n 2, 1) := by decide +kernel
theorem dX9_oldestOf_22 : decode cX9_oldestOf 22 = .ok (.ifCond .lt 18, 3) := by decide +kernel
theorem dX9_oldestOf_25 : decode cX9_oldestOf 25 = .ok (.aload_n 0, 1) := by decide +kernel
theorem dX9_oldestOf_26 : decode cX9_oldestOf 26 = .ok (.getfield 22, 3) := by decide +kernel
theorem dX9_oldestOf_29 : decode cX9_oldestOf 29 = .ok (.iload_n 3, 1) := by decide +kernel
theorem dX9_oldestOf_30 : decode cX9_oldestOf 30 = .ok (.iaload, 1) := by decide +kernel
theorem dX9_oldestOf_31 : decode cX9_oldestOf 31 = .ok (.aload_n 0, 1) := by decide +kernel
theorem dX9_oldestOf_32 : decode cX9_oldestOf 32 = .ok (.getfield 22, 3) := by decide +kernel
theorem dX9_oldestOf_35 : decode cX9_oldestOf 35 = .ok (.iload_n 2, 1) := by decide +kernel
theorem dX9_oldestOf_36 : decode cX9_oldestOf 36 = .ok (.iaload, 1) := by decide +kernel
theorem dX9_oldestOf_37 : decode cX9_oldestOf 37 = .ok (.if_icmp .le 5, 3) := by decide +kernel
theorem dX9_oldestOf_40 : decode cX9_oldestOf 40 = .ok (.iload_n 3, 1) := by decide +kernel
theorem dX9_oldestOf_41 : decode cX9_oldestOf 41 = .ok (.istore_n 2, 1) := by decide +kernel
theorem dX9_oldestOf_42 : decode cX9_oldestOf 42 = .ok (.iinc 3 1, 3) := by decide +kernel
theorem dX9_oldestOf_45 : decode cX9_oldestOf 45 = .ok (.goto (-41), 3) := by decide +kernel
theorem dX9_oldestOf_48 : decode cX9_oldestOf 48 = .ok (.iload_n 2, 1) := by decide +kernel
theorem dX9_oldestOf_49 : decode cX9_oldestOf 49 = .ok (.iconst 0, 1) := by decide +kernel
theorem dX9_oldestOf_50 : decode cX9_oldestOf 50 = .ok (.invokestatic 97, 3) := by decide +kernel
theorem dX9_oldestOf_53 : decode cX9_oldestOf 53 = .ok (.ireturn, 1) := by decide +kernel
theorem dX9_isFall_0 : decode cX9_isFall 0 = .ok (.iload_n 1, 1) := by decide +kernel
theorem dX9_isFall_1 : decode cX9_isFall 1 = .ok (.invokestatic 102, 3) := by decide +kernel
theorem dX9_isFall_4 : decode cX9_isFall 4 = .ok (.aload_n 0, 1) := by decide +kernel
theorem dX9_isFall_5 : decode cX9_isFall 5 = .ok (.getfield 42, 3) := by decide +kernel
theorem dX9_isFall_8 : decode cX9_isFall 8 = .ok (.iconst 0, 1) := by decide +kernel
theorem dX9_isFall_9 : decode cX9_isFall 9 = .ok (.iaload, 1) := by decide +kernel
theorem dX9_isFall_10 : decode cX9_isFall 10 = .ok (.if_icmp .lt 7, 3) := by decide +kernel
theorem dX9_isFall_13 : decode cX9_isFall 13 = .ok (.iconst 1, 1) := by decide +kernel
theorem dX9_isFall_14 : decode cX9_isFall 14 = .ok (.goto 4, 3) := by decide +kernel
theorem dX9_isFall_17 : decode cX9_isFall 17 = .ok (.iconst 0, 1) := by decide +kernel
theorem dX9_isFall_18 : decode cX9_isFall 18 = .ok (.ireturn, 1) := by decide +kernel
theorem dX9_noesAfter_0 : decode cX9_noesAfter 0 = .ok (.aload_n 0, 1) := by decide +kernel
theorem dX9_noesAfter_1 : decode cX9_noesAfter 1 = .ok (.getfield 42, 3) := by decide +kernel
theorem dX9_noesAfter_4 : decode cX9_noesAfter 4 = .ok (.iconst 2, 1) := by decide +kernel
theorem dX9_noesAfter_5 : decode cX9_noesAfter 5 = .ok (.iaload, 1) := by decide +kernel
theorem dX9_noesAfter_6 : decode cX9_noesAfter 6 = .ok (.ifCond .le 18, 3) := by decide +kernel
theorem dX9_noesAfter_9 : decode cX9_noesAfter 9 = .ok (.iload_n 2, 1) := by decide +kernel
theorem dX9_noesAfter_10 : decode cX9_noesAfter 10 = .ok (.aload_n 0, 1) := by decide +kernel
theorem dX9_noesAfter_11 : decode cX9_noesAfter 11 = .ok (.getfield 42, 3) := by decide +kernel
theorem dX9_noesAfter_14 : decode cX9_noesAfter 14 = .ok (.iconst 2, 1) := by decide +kernel
theorem dX9_noesAfter_15 : decode cX9_noesAfter 15 = .ok (.iaload, 1) := by decide +kernel
theorem dX9_noesAfter_16 : decode cX9_noesAfter 16 = .ok (.irem, 1) := by decide +kernel
theorem dX9_noesAfter_17 : decode cX9_noesAfter 17 = .ok (.ifCond .ne 7, 3) := by decide +kernel
theorem dX9_noesAfter_20 : decode cX9_noesAfter 20 = .ok (.iconst 1, 1) := by decide +kernel
theorem dX9_noesAfter_21 : decode cX9_noesAfter 21 = .ok (.goto 4, 3) := by decide +kernel
theorem dX9_noesAfter_24 : decode cX9_noesAfter 24 = .ok (.iconst 0, 1) := by decide +kernel
theorem dX9_noesAfter_25 : decode cX9_noesAfter 25 = .ok (.istore 4, 2) := by decide +kernel
theorem dX9_noesAfter_27 : decode cX9_noesAfter 27 = .ok (.iload_n 3, 1) := by decide +kernel
theorem dX9_noesAfter_28 : decode cX9_noesAfter 28 = .ok (.istore 5, 2) := by decide +kernel
theorem dX9_noesAfter_30 : decode cX9_noesAfter 30 = .ok (.iconst 0, 1) := by decide +kernel
theorem dX9_noesAfter_31 : decode cX9_noesAfter 31 = .ok (.istore 6, 2) := by decide +kernel
theorem dX9_noesAfter_33 : decode cX9_noesAfter 33 = .ok (.iload 6, 2) := by decide +kernel
theorem dX9_noesAfter_35 : decode cX9_noesAfter 35 = .ok (.aload_n 0, 1) := by decide +kernel
theorem dX9_noesAfter_36 : decode cX9_noesAfter 36 = .ok (.getfield 9, 3) := by decide +kernel
theorem dX9_noesAfter_39 : decode cX9_noesAfter 39 = .ok (.if_icmp .ge 56, 3) := by decide +kernel
theorem dX9_noesAfter_42 : decode cX9_noesAfter 42 = .ok (.iconst 1, 1) := by decide +kernel
theorem dX9_noesAfter_43 : decode cX9_noesAfter 43 = .ok (.iconst 4, 1) := by decide +kernel
theorem dX9_noesAfter_44 : decode cX9_noesAfter 44 = .ok (.iload 6, 2) := by decide +kernel
theorem dX9_noesAfter_46 : decode cX9_noesAfter 46 = .ok (.imul, 1) := by decide +kernel
theorem dX9_noesAfter_47 : decode cX9_noesAfter 47 = .ok (.ishl, 1) := by decide +kernel
theorem dX9_noesAfter_48 : decode cX9_noesAfter 48 = .ok (.istore 7, 2) := by decide +kernel
theorem dX9_noesAfter_50 : decode cX9_noesAfter 50 = .ok (.iload_n 1, 1) := by decide +kernel
theorem dX9_noesAfter_51 : decode cX9_noesAfter 51 = .ok (.iload 6, 2) := by decide +kernel
theorem dX9_noesAfter_53 : decode cX9_noesAfter 53 = .ok (.iushr, 1) := by decide +kernel
theorem dX9_noesAfter_54 : decode cX9_noesAfter 54 = .ok (.iconst 1, 1) := by decide +kernel
theorem dX9_noesAfter_55 : decode cX9_noesAfter 55 = .ok (.iand, 1) := by decide +kernel
theorem dX9_noesAfter_56 : decode cX9_noesAfter 56 = .ok (.iconst 1, 1) := by decide +kernel
theorem dX9_noesAfter_57 : decode cX9_noesAfter 57 = .ok (.if_icmp .ne 10, 3) := by decide +kernel
theorem dX9_noesAfter_60 : decode cX9_noesAfter 60 = .ok (.iload 5, 2) := by decide +kernel
theorem dX9_noesAfter_62 : decode cX9_noesAfter 62 = .ok (.iload 7, 2) := by decide +kernel
theorem dX9_noesAfter_64 : decode cX9_noesAfter 64 = .ok (.isub, 1) := by decide +kernel
theorem dX9_noesAfter_65 : decode cX9_noesAfter 65 = .ok (.istore 5, 2) := by decide +kernel
theorem dX9_noesAfter_67 : decode cX9_noesAfter 67 = .ok (.iload 4, 2) := by decide +kernel
theorem dX9_noesAfter_69 : decode cX9_noesAfter 69 = .ok (.ifCond .eq 20, 3) := by decide +kernel
theorem dX9_noesAfter_72 : decode cX9_noesAfter 72 = .ok (.iload 5, 2) := by decide +kernel
theorem dX9_noesAfter_74 : decode cX9_noesAfter 74 = .ok (.iload 6, 2) := by decide +kernel
theorem dX9_noesAfter_76 : decode cX9_noesAfter 76 = .ok (.invokestatic 76, 3) := by decide +kernel
theorem dX9_noesAfter_79 : decode cX9_noesAfter 79 = .ok (.ifCond .ne 10, 3) := by decide +kernel
theorem dX9_noesAfter_82 : decode cX9_noesAfter 82 = .ok (.iload 5, 2) := by decide +kernel
theorem dX9_noesAfter_84 : decode cX9_noesAfter 84 = .ok (.iload 7, 2) := by decide +kernel
theorem dX9_noesAfter_86 : decode cX9_noesAfter 86 = .ok (.iadd, 1) := by decide +kernel
theorem dX9_noesAfter_87 : decode cX9_noesAfter 87 = .ok (.istore 5, 2) := by decide +kernel
theorem dX9_noesAfter_89 : decode cX9_noesAfter 89 = .ok (.iinc 6 1, 3) := by decide +kernel
theorem dX9_noesAfter_92 : decode cX9_noesAfter 92 = .ok (.goto (-59), 3) := by decide +kernel
theorem dX9_noesAfter_95 : decode cX9_noesAfter 95 = .ok (.iload 5, 2) := by decide +kernel
theorem dX9_noesAfter_97 : decode cX9_noesAfter 97 = .ok (.ireturn, 1) := by decide +kernel
theorem dX9_passYear_0 : decode cX9_passYear 0 = .ok (.aload_n 0, 1) := by decide +kernel
theorem dX9_passYear_1 : decode cX9_passYear 1 = .ok (.invokevirtual 107, 3) := by decide +kernel
theorem dX9_passYear_4 : decode cX9_passYear 4 = .ok (.istore_n 2, 1) := by decide +kernel
theorem dX9_passYear_5 : decode cX9_passYear 5 = .ok (.aload_n 0, 1) := by decide +kernel
theorem dX9_passYear_6 : decode cX9_passYear 6 = .ok (.iload_n 1, 1) := by decide +kernel
theorem dX9_passYear_7 : decode cX9_passYear 7 = .ok (.aload_n 0, 1) := by decide +kernel
theorem dX9_passYear_8 : decode cX9_passYear 8 = .ok (.getfield 42, 3) := by decide +kernel
theorem dX9_passYear_11 : decode cX9_passYear 11 = .ok (.iconst 3, 1) := by decide +kernel
theorem dX9_passYear_12 : decode cX9_passYear 12 = .ok (.iaload, 1) := by decide +kernel
theorem dX9_passYear_13 : decode cX9_passYear 13 = .ok (.iload_n 2, 1) := by decide +kernel
theorem dX9_passYear_14 : decode cX9_passYear 14 = .ok (.invokevirtual 110, 3) := by decide +kernel
theorem dX9_passYear_17 : decode cX9_passYear 17 = .ok (.istore_n 3, 1) := by decide +kernel
theorem dX9_passYear_18 : decode cX9_passYear 18 = .ok (.aload_n 0, 1) := by decide +kernel
theorem dX9_passYear_19 : decode cX9_passYear 19 = .ok (.iload_n 3, 1) := by decide +kernel
theorem dX9_passYear_20 : decode cX9_passYear 20 = .ok (.invokevirtual 113, 3) := by decide +kernel
theorem dX9_passYear_23 : decode cX9_passYear 23 = .ok (.istore 4, 2) := by decide +kernel
theorem dX9_passYear_25 : decode cX9_passYear 25 = .ok (.aload_n 0, 1) := by decide +kernel
theorem dX9_passYear_26 : decode cX9_passYear 26 = .ok (.iload_n 3, 1) := by decide +kernel
theorem dX9_passYear_27 : decode cX9_passYear 27 = .ok (.aload_n 0, 1) := by decide +kernel
theorem dX9_passYear_28 : decode cX9_passYear 28 = .ok (.getfield 42, 3) := by decide +kernel
theorem dX9_passYear_31 : decode cX9_passYear 31 = .ok (.iconst 3, 1) := by decide +kernel
theorem dX9_passYear_32 : decode cX9_passYear 32 = .ok (.iaload, 1) := by decide +kernel
theorem dX9_passYear_33 : decode cX9_passYear 33 = .ok (.iload_n 2, 1) := by decide +kernel
theorem dX9_passYear_34 : decode cX9_passYear 34 = .ok (.invokevirtual 117, 3) := by decide +kernel
theorem dX9_passYear_37 : decode cX9_passYear 37 = .ok (.istore 5, 2) := by decide +kernel
theorem dX9_passYear_39 : decode cX9_passYear 39 = .ok (.iconst 0, 1) := by decide +kernel
theorem dX9_passYear_40 : decode cX9_passYear 40 = .ok (.istore 6, 2) := by decide +kernel
theorem dX9_passYear_42 : decode cX9_passYear 42 = .ok (.iload 6, 2) := by decide +kernel
theorem dX9_passYear_44 : decode cX9_passYear 44 = .ok (.aload_n 0, 1) := by decide +kernel
theorem dX9_passYear_45 : decode cX9_passYear 45 = .ok (.getfield 9, 3) := by decide +kernel
theorem dX9_passYear_48 : decode cX9_passYear 48 = .ok (.if_icmp .ge 47, 3) := by decide +kernel
theorem dX9_passYear_51 : decode cX9_passYear 51 = .ok (.aload_n 0, 1) := by decide +kernel
theorem dX9_passYear_52 : decode cX9_passYear 52 = .ok (.getfield 25, 3) := by decide +kernel
theorem dX9_passYear_55 : decode cX9_passYear 55 = .ok (.iload 6, 2) := by decide +kernel
theorem dX9_passYear_57 : decode cX9_passYear 57 = .ok (.iload 5, 2) := by decide +kernel
theorem dX9_passYear_59 : decode cX9_passYear 59 = .ok (.iload 6, 2) := by decide +kernel
theorem dX9_passYear_61 : decode cX9_passYear 61 = .ok (.invokestatic 76, 3) := by decide +kernel
theorem dX9_passYear_64 : decode cX9_passYear 64 = .ok (.iastore, 1) := by decide +kernel
theorem dX9_passYear_65 : decode cX9_passYear 65 = .ok (.iload 4, 2) := by decide +kernel
theorem dX9_passYear_67 : decode cX9_passYear 67 = .ok (.ifCond .ne 22, 3) := by decide +kernel
theorem dX9_passYear_70 : decode cX9_passYear 70 = .ok (.aload_n 0, 1) := by decide +kernel
theorem dX9_passYear_71 : decode cX9_passYear 71 = .ok (.getfield 28, 3) := by decide +kernel
theorem dX9_passYear_74 : decode cX9_passYear 74 = .ok (.iload 6, 2) := by decide +kernel
theorem dX9_passYear_76 : decode cX9_passYear 76 = .ok (.dup2, 1) := by decide +kernel
theorem dX9_passYear_77 : decode cX9_passYear 77 = .ok (.iaload, 1) := by decide +kernel
theorem dX9_passYear_78 : decode cX9_passYear 78 = .ok (.aload_n 0, 1) := by decide +kernel
theorem dX9_passYear_79 : decode cX9_passYear 79 = .ok (.getfield 39, 3) := by decide +kernel
theorem dX9_passYear_82 : decode cX9_passYear 82 = .ok (.iload_n 1, 1) := by decide +kernel
theorem dX9_passYear_83 : decode cX9_passYear 83 = .ok (.aaload, 1) := by decide +kernel
theorem dX9_passYear_84 : decode cX9_passYear 84 = .ok (.iload 6, 2) := by decide +kernel
theorem dX9_passYear_86 : decode cX9_passYear 86 = .ok (.iaload, 1) := by decide +kernel
theorem dX9_passYear_87 : decode cX9_passYear 87 = .ok (.iadd, 1) := by decide +kernel
theorem dX9_passYear_88 : decode cX9_passYear 88 = .ok (.iastore, 1) := by decide +kernel
theorem dX9_passYear_89 : decode cX9_passYear 89 = .ok (.iinc 6 1, 3) := by decide +kernel
theorem dX9_passYear_92 : decode cX9_passYear 92 = .ok (.goto (-50), 3) := by decide +kernel
theorem dX9_passYear_95 : decode cX9_passYear 95 = .ok (.iload 4, 2) := by decide +kernel
theorem dX9_passYear_97 : decode cX9_passYear 97 = .ok (.ifCond .eq 16, 3) := by decide +kernel
theorem dX9_passYear_100 : decode cX9_passYear 100 = .ok (.aload_n 0, 1) := by decide +kernel
theorem dX9_passYear_101 : decode cX9_passYear 101 = .ok (.dup, 1) := by decide +kernel
theorem dX9_passYear_102 : decode cX9_passYear 102 = .ok (.getfield 48, 3) := by decide +kernel
theorem dX9_passYear_105 : decode cX9_passYear 105 = .ok (.iconst 1, 1) := by decide +kernel
theorem dX9_passYear_106 : decode cX9_passYear 106 = .ok (.iadd, 1) := by decide +kernel
theorem dX9_passYear_107 : decode cX9_passYear 107 = .ok (.putfield 48, 3) := by decide +kernel
theorem dX9_passYear_110 : decode cX9_passYear 110 = .ok (.goto 13, 3) := by decide +kernel
theorem dX9_passYear_113 : decode cX9_passYear 113 = .ok (.aload_n 0, 1) := by decide +kernel
theorem dX9_passYear_114 : decode cX9_passYear 114 = .ok (.dup, 1) := by decide +kernel
theorem dX9_passYear_115 : decode cX9_passYear 115 = .ok (.getfield 51, 3) := by decide +kernel
theorem dX9_passYear_118 : decode cX9_passYear 118 = .ok (.iconst 1, 1) := by decide +kernel
theorem dX9_passYear_119 : decode cX9_passYear 119 = .ok (.iadd, 1) := by decide +kernel
theorem dX9_passYear_120 : decode cX9_passYear 120 = .ok (.putfield 51, 3) := by decide +kernel
theorem dX9_passYear_123 : decode cX9_passYear 123 = .ok (.aload_n 0, 1) := by decide +kernel
theorem dX9_passYear_124 : decode cX9_passYear 124 = .ok (.getfield 42, 3) := by decide +kernel
theorem dX9_passYear_127 : decode cX9_passYear 127 = .ok (.iconst 3, 1) := by decide +kernel
theorem dX9_passYear_128 : decode cX9_passYear 128 = .ok (.dup2, 1) := by decide +kernel
theorem dX9_passYear_129 : decode cX9_passYear 129 = .ok (.iaload, 1) := by decide +kernel
theorem dX9_passYear_130 : decode cX9_passYear 130 = .ok (.iconst 1, 1) := by decide +kernel
theorem dX9_passYear_131 : decode cX9_passYear 131 = .ok (.iadd, 1) := by decide +kernel
theorem dX9_passYear_132 : decode cX9_passYear 132 = .ok (.iastore, 1) := by decide +kernel
theorem dX9_passYear_133 : decode cX9_passYear 133 = .ok (.iload 4, 2) := by decide +kernel
theorem dX9_passYear_135 : decode cX9_passYear 135 = .ok (.ireturn, 1) := by decide +kernel
theorem dX10_init_0 : decode cX10_init 0 = .ok (.aload_n 0, 1) := by decide +kernel
theorem dX10_init_1 : decode cX10_init 1 = .ok (.aload_n 1, 1) := by decide +kernel
theorem dX10_init_2 : decode cX10_init 2 = .ok (.invokespecial 1, 3) := by decide +kernel
theorem dX10_init_5 : decode cX10_init 5 = .ok (.return_, 1) := by decide +kernel
theorem dX10_bars_0 : decode cX10_bars 0 = .ok (.aload_n 0, 1) := by decide +kernel
theorem dX10_bars_1 : decode cX10_bars 1 = .ok (.getfield 7, 3) := by decide +kernel
theorem dX10_bars_4 : decode cX10_bars 4 = .ok (.bipush 40, 2) := by decide +kernel
theorem dX10_bars_6 : decode cX10_bars 6 = .ok (.invokevirtual 13, 3) := by decide +kernel
theorem dX10_bars_9 : decode cX10_bars 9 = .ok (.iconst 0, 1) := by decide +kernel
theorem dX10_bars_10 : decode cX10_bars 10 = .ok (.aload_n 0, 1) := by decide +kernel
theorem dX10_bars_11 : decode cX10_bars 11 = .ok (.iload_n 1, 1) := by decide +kernel
theorem dX10_bars_12 : decode cX10_bars 12 = .ok (.invokespecial 19, 3) := by decide +kernel
theorem dX10_bars_15 : decode cX10_bars 15 = .ok (.isub, 1) := by decide +kernel
theorem dX10_bars_16 : decode cX10_bars 16 = .ok (.ireturn, 1) := by decide +kernel
theorem dX10_waits_0 : decode cX10_waits 0 = .ok (.aload_n 0, 1) := by decide +kernel
theorem dX10_waits_1 : decode cX10_waits 1 = .ok (.getfield 7, 3) := by decide +kernel
theorem dX10_waits_4 : decode cX10_waits 4 = .ok (.bipush 41, 2) := by decide +kernel
theorem dX10_waits_6 : decode cX10_waits 6 = .ok (.invokevirtual 13, 3) := by decide +kernel
theorem dX10_waits_9 : decode cX10_waits 9 = .ok (.aload_n 0, 1) := by decide +kernel
theorem dX10_waits_10 : decode cX10_waits 10 = .ok (.iload_n 1, 1) := by decide +kernel
theorem dX10_waits_11 : decode cX10_waits 11 = .ok (.invokespecial 23, 3) := by decide +kernel
theorem dX10_waits_14 : decode cX10_waits 14 = .ok (.aload_n 0, 1) := by decide +kernel
theorem dX10_waits_15 : decode cX10_waits 15 = .ok (.aload_n 0, 1) := by decide +kernel
theorem dX10_waits_16 : decode cX10_waits 16 = .ok (.getfield 26, 3) := by decide +kernel
theorem dX10_waits_19 : decode cX10_waits 19 = .ok (.invokevirtual 30, 3) := by decide +kernel
theorem dX10_waits_22 : decode cX10_waits 22 = .ok (.iadd, 1) := by decide +kernel
theorem dX10_waits_23 : decode cX10_waits 23 = .ok (.ireturn, 1) := by decide +kernel
theorem dX11_init_0 : decode cX11_init 0 = .ok (.aload_n 0, 1) := by decide +kernel
theorem dX11_init_1 : decode cX11_init 1 = .ok (.invokespecial 1, 3) := by decide +kernel
theorem dX11_init_4 : decode cX11_init 4 = .ok (.aload_n 0, 1) := by decide +kernel
theorem dX11_init_5 : decode cX11_init 5 = .ok (.new 7, 3) := by decide +kernel
theorem dX11_init_8 : decode cX11_init 8 = .ok (.dup, 1) := by decide +kernel
theorem dX11_init_9 : decode cX11_init 9 = .ok (.invokespecial 9, 3) := by decide +kernel
theorem dX11_init_12 : decode cX11_init 12 = .ok (.putfield 10, 3) := by decide +kernel
theorem dX11_init_15 : decode cX11_init 15 = .ok (.aload_n 0, 1) := by decide +kernel
theorem dX11_init_16 : decode cX11_init 16 = .ok (.new 7, 3) := by decide +kernel
theorem dX11_init_19 : decode cX11_init 19 = .ok (.dup, 1) := by decide +kernel
theorem dX11_init_20 : decode cX11_init 20 = .ok (.invokespecial 9, 3) := by decide +kernel
theorem dX11_init_23 : decode cX11_init 23 = .ok (.putfield 16, 3) := by decide +kernel
theorem dX11_init_26 : decode cX11_init 26 = .ok (.aload_n 0, 1) := by decide +kernel
theorem dX11_init_27 : decode cX11_init 27 = .ok (.iconst 0, 1) := by decide +kernel
theorem dX11_init_28 : decode cX11_init 28 = .ok (.putfield 19, 3) := by decide +kernel
theorem dX11_init_31 : decode cX11_init 31 = .ok (.aload_n 0, 1) := by decide +kernel
theorem dX11_init_32 : decode cX11_init 32 = .ok (.new 23, 3) := by decide +kernel
theorem dX11_init_35 : decode cX11_init 35 = .ok (.dup, 1) := by decide +kernel
theorem dX11_init_36 : decode cX11_init 36 = .ok (.invokespecial 25, 3) := by decide +kernel
theorem dX11_init_39 : decode cX11_init 39 = .ok (.putfield 26, 3) := by decide +kernel
theorem dX11_init_42 : decode cX11_init 42 = .ok (.aload_n 0, 1) := by decide +kernel
theorem dX11_init_43 : decode cX11_init 43 = .ok (.new 30, 3) := by decide +kernel
theorem dX11_init_46 : decode cX11_init 46 = .ok (.dup, 1) := by decide +kernel
theorem dX11_init_47 : decode cX11_init 47 = .ok (.invokespecial 32, 3) := by decide +kernel
theorem dX11_init_50 : decode cX11_init 50 = .ok (.putfield 33, 3) := by decide +kernel
theorem dX11_init_53 : decode cX11_init 53 = .ok (.aload_n 0, 1) := by decide +kernel
theorem dX11_init_54 : decode cX11_init 54 = .ok (.sipush 240, 3) := by decide +kernel
theorem dX11_init_57 : decode cX11_init 57 = .ok (.newarray .int, 2) := by decide +kernel
theorem dX11_init_59 : decode cX11_init 59 = .ok (.putfield 37, 3) := by decide +kernel
theorem dX11_init_62 : decode cX11_init 62 = .ok (.aload_n 0, 1) := by decide +kernel
theorem dX11_init_63 : decode cX11_init 63 = .ok (.iconst 0, 1) := by decide +kernel
theorem dX11_init_64 : decode cX11_init 64 = .ok (.putfield 41, 3) := by decide +kernel
theorem dX11_init_67 : decode cX11_init 67 = .ok (.aload_n 0, 1) := by decide +kernel
theorem dX11_init_68 : decode cX11_init 68 = .ok (.bipush 12, 2) := by decide +kernel
theorem dX11_init_70 : decode cX11_init 70 = .ok (.iconst 3, 1) := by decide +kernel
theorem dX11_init_71 : decode cX11_init 71 = .ok (.multianewarray 45 2, 4) := by decide +kernel
theorem dX11_init_75 : decode cX11_init 75 = .ok (.putfield 47, 3) := by decide +kernel
theorem dX11_init_78 : decode cX11_init 78 = .ok (.aload_n 0, 1) := by decide +kernel
theorem dX11_init_79 : decode cX11_init 79 = .ok (.bipush 12, 2) := by decide +kernel
theorem dX11_init_81 : decode cX11_init 81 = .ok (.iconst 3, 1) := by decide +kernel
theorem dX11_init_82 : decode cX11_init 82 = .ok (.multianewarray 45 2, 4) := by decide +kernel
theorem dX11_init_86 : decode cX11_init 86 = .ok (.putfield 50, 3) := by decide +kernel
theorem dX11_init_89 : decode cX11_init 89 = .ok (.aload_n 0, 1) := by decide +kernel
theorem dX11_init_90 : decode cX11_init 90 = .ok (.iconst 0, 1) := by decide +kernel
theorem dX11_init_91 : decode cX11_init 91 = .ok (.putfield 53, 3) := by decide +kernel
theorem dX11_init_94 : decode cX11_init 94 = .ok (.aload_n 0, 1) := by decide +kernel
theorem dX11_init_95 : decode cX11_init 95 = .ok (.iconst 4, 1) := by decide +kernel
theorem dX11_init_96 : decode cX11_init 96 = .ok (.anewarray 56, 3) := by decide +kernel
theorem dX11_init_99 : decode cX11_init 99 = .ok (.putfield 58, 3) := by decide +kernel
theorem dX11_init_102 : decode cX11_init 102 = .ok (.aload_n 0, 1) := by decide +kernel
theorem dX11_init_103 : decode cX11_init 103 = .ok (.iconst 4, 1) := by decide +kernel
theorem dX11_init_104 : decode cX11_init 104 = .ok (.newarray .int, 2) := by decide +kernel
theorem dX11_init_106 : decode cX11_init 106 = .ok (.putfield 62, 3) := by decide +kernel
theorem dX11_init_109 : decode cX11_init 109 = .ok (.aload_n 0, 1) := by decide +kernel
theorem dX11_init_110 : decode cX11_init 110 = .ok (.iconst 4, 1) := by decide +kernel
theorem dX11_init_111 : decode cX11_init 111 = .ok (.newarray .int, 2) := by decide +kernel
theorem dX11_init_113 : decode cX11_init 113 = .ok (.putfield 65, 3) := by decide +kernel
theorem dX11_init_116 : decode cX11_init 116 = .ok (.aload_n 0, 1) := by decide +kernel
theorem dX11_init_117 : decode cX11_init 117 = .ok (.iconst 4, 1) := by decide +kernel
theorem dX11_init_118 : decode cX11_init 118 = .ok (.newarray .int, 2) := by decide +kernel
theorem dX11_init_120 : decode cX11_init 120 = .ok (.putfield 68, 3) := by decide +kernel
theorem dX11_init_123 : decode cX11_init 123 = .ok (.aload_n 0, 1) := by decide +kernel
theorem dX11_init_124 : decode cX11_init 124 = .ok (.bipush 6, 2) := by decide +kernel
theorem dX11_init_126 : decode cX11_init 126 = .ok (.anewarray 71, 3) := by decide +kernel
theorem dX11_init_129 : decode cX11_init 129 = .ok (.putfield 73, 3) := by decide +kernel
theorem dX11_init_132 : decode cX11_init 132 = .ok (.iconst 0, 1) := by decide +kernel
theorem dX11_init_133 : decode cX11_init 133 = .ok (.istore_n 1, 1) := by decide +kernel
theorem dX11_init_134 : decode cX11_init 134 = .ok (.iload_n 1, 1) := by decide +kernel
theorem dX11_init_135 : decode cX11_init 135 = .ok (.iconst 4, 1) := by decide +kernel
theorem dX11_init_136 : decode cX11_init 136 = .ok (.if_icmp .ge 29, 3) := by decide +kernel
theorem dX11_init_139 : decode cX11_init 139 = .ok (.aload_n 0, 1) := by decide +kernel
theorem dX11_init_140 : decode cX11_init 140 = .ok (.getfield 58, 3) := by decide +kernel
theorem dX11_init_143 : decode cX11_init 143 = .ok (.iload_n 1, 1) := by decide +kernel
theorem dX11_init_144 : decode cX11_init 144 = .ok (.new 56, 3) := by decide +kernel
theorem dX11_init_147 : decode cX11_init 147 = .ok (.dup, 1) := by decide +kernel
theorem dX11_init_148 : decode cX11_init 148 = .ok (.invokespecial 77, 3) := by decide +kernel
theorem dX11_init_151 : decode cX11_init 151 = .ok (.aastore, 1) := by decide +kernel
theorem dX11_init_152 : decode cX11_init 152 = .ok (.aload_n 0, 1) := by decide +kernel
theorem dX11_init_153 : decode cX11_init 153 = .ok (.getfield 62, 3) := by decide +kernel
theorem dX11_init_156 : decode cX11_init 156 = .ok (.iload_n 1, 1) := by decide +kernel
theorem dX11_init_157 : decode cX11_init 157 = .ok (.iconst 2, 1) := by decide +kernel
theorem dX11_init_158 : decode cX11_init 158 = .ok (.iastore, 1) := by decide +kernel
theorem dX11_init_159 : decode cX11_init 159 = .ok (.iinc 1 1, 3) := by decide +kernel
theorem dX11_init_162 : decode cX11_init 162 = .ok (.goto (-28), 3) := by decide +kernel
theorem dX11_init_165 : decode cX11_init 165 = .ok (.new 78, 3) := by decide +kernel
theorem dX11_init_168 : decode cX11_init 168 = .ok (.dup, 1) := by decide +kernel
theorem dX11_init_169 : decode cX11_init 169 = .ok (.invokespecial 80, 3) := by decide +kernel
theorem dX11_init_172 : decode cX11_init 172 = .ok (.astore_n 1, 1) := by decide +kernel
theorem dX11_init_173 : decode cX11_init 173 = .ok (.aload_n 0, 1) := by decide +kernel
theorem dX11_init_174 : decode cX11_init 174 = .ok (.getfield 73, 3) := by decide +kernel
theorem dX11_init_177 : decode cX11_init 177 = .ok (.iconst 0, 1) := by decide +kernel
theorem dX11_init_178 : decode cX11_init 178 = .ok (.new 71, 3) := by decide +kernel
theorem dX11_init_181 : decode cX11_init 181 = .ok (.dup, 1) := by decide +kernel
theorem dX11_init_182 : decode cX11_init 182 = .ok (.aload_n 1, 1) := by decide +kernel
theorem dX11_init_183 : decode cX11_init 183 = .ok (.invokespecial 81, 3) := by decide +kernel
theorem dX11_init_186 : decode cX11_init 186 = .ok (.aastore, 1) := by decide +kernel
theorem dX11_init_187 : decode cX11_init 187 = .ok (.aload_n 0, 1) := by decide +kernel
theorem dX11_init_188 : decode cX11_init 188 = .ok (.getfield 73, 3) := by decide +kernel
theorem dX11_init_191 : decode cX11_init 191 = .ok (.iconst 1, 1) := by decide +kernel
theorem dX11_init_192 : decode cX11_init 192 = .ok (.new 84, 3) := by decide +kernel
theorem dX11_init_195 : decode cX11_init 195 = .ok (.dup, 1) := by decide +kernel
theorem dX11_init_196 : decode cX11_init 196 = .ok (.aload_n 1, 1) := by decide +kernel
theorem dX11_init_197 : decode cX11_init 197 = .ok (.invokespecial 86, 3) := by decide +kernel
theorem dX11_init_200 : decode cX11_init 200 = .ok (.aastore, 1) := by decide +kernel
theorem dX11_init_201 : decode cX11_init 201 = .ok (.aload_n 0, 1) := by decide +kernel
theorem dX11_init_202 : decode cX11_init 202 = .ok (.getfield 73, 3) := by decide +kernel
theorem dX11_init_205 : decode cX11_init 205 = .ok (.iconst 2, 1) := by decide +kernel
theorem dX11_init_206 : decode cX11_init 206 = .ok (.new 87, 3) := by decide +kernel
theorem dX11_init_209 : decode cX11_init 209 = .ok (.dup, 1) := by decide +kernel
theorem dX11_init_210 : decode cX11_init 210 = .ok (.aload_n 1, 1) := by decide +kernel
theorem dX11_init_211 : decode cX11_init 211 = .ok (.invokespecial 89, 3) := by decide +kernel
theorem dX11_init_214 : decode cX11_init 214 = .ok (.aastore, 1) := by decide +kernel
theorem dX11_init_215 : decode cX11_init 215 = .ok (.aload_n 0, 1) := by decide +kernel
theorem dX11_init_216 : decode cX11_init 216 = .ok (.getfield 73, 3) := by decide +kernel
theorem dX11_init_219 : decode cX11_init 219 = .ok (.iconst 3, 1) := by decide +kernel
theorem dX11_init_220 : decode cX11_init 220 = .ok (.new 90, 3) := by decide +kernel
theorem dX11_init_223 : decode cX11_init 223 = .ok (.dup, 1) := by decide +kernel
theorem dX11_init_224 : decode cX11_init 224 = .ok (.aload_n 1, 1) := by decide +kernel
theorem dX11_init_225 : decode cX11_init 225 = .ok (.invokespecial 92, 3) := by decide +kernel
theorem dX11_init_228 : decode cX11_init 228 = .ok (.aastore, 1) := by decide +kernel
theorem dX11_init_229 : decode cX11_init 229 = .ok (.aload_n 0, 1) := by decide +kernel
theorem dX11_init_230 : decode cX11_init 230 = .ok (.getfield 73, 3) := by decide +kernel
theorem dX11_init_233 : decode cX11_init 233 = .ok (.iconst 4, 1) := by decide +kernel
theorem dX11_init_234 : decode cX11_init 234 = .ok (.new 93, 3) := by decide +kernel
theorem dX11_init_237 : decode cX11_init 237 = .ok (.dup, 1) := by decide +kernel
theorem dX11_init_238 : decode cX11_init 238 = .ok (.aload_n 1, 1) := by decide +kernel
theorem dX11_init_239 : decode cX11_init 239 = .ok (.invokespecial 95, 3) := by decide +kernel
theorem dX11_init_242 : decode cX11_init 242 = .ok (.aastore, 1) := by decide +kernel
theorem dX11_init_243 : decode cX11_init 243 = .ok (.aload_n 0, 1) := by decide +kernel
theorem dX11_init_244 : decode cX11_init 244 = .ok (.getfield 73, 3) := by decide +kernel
theorem dX11_init_247 : decode cX11_init 247 = .ok (.iconst 5, 1) := by decide +kernel
theorem dX11_init_248 : decode cX11_init 248 = .ok (.new 96, 3) := by decide +kernel
theorem dX11_init_251 : decode cX11_init 251 = .ok (.dup, 1) := by decide +kernel
theorem dX11_init_252 : decode cX11_init 252 = .ok (.aload_n 1, 1) := by decide +kernel
theorem dX11_init_253 : decode cX11_init 253 = .ok (.invokespecial 98, 3) := by decide +kernel
theorem dX11_init_256 : decode cX11_init 256 = .ok (.aastore, 1) := by decide +kernel
theorem dX11_init_257 : decode cX11_init 257 = .ok (.aload_n 0, 1) := by decide +kernel
theorem dX11_init_258 : decode cX11_init 258 = .ok (.aload_n 1, 1) := by decide +kernel
theorem dX11_init_259 : decode cX11_init 259 = .ok (.putfield 99, 3) := by decide +kernel
theorem dX11_init_262 : decode cX11_init 262 = .ok (.return_, 1) := by decide +kernel
theorem dX11_feed_0 : decode cX11_feed 0 = .ok (.iload_n 3, 1) := by decide +kernel
theorem dX11_feed_1 : decode cX11_feed 1 = .ok (.iconst 1, 1) := by decide +kernel
theorem dX11_feed_2 : decode cX11_feed 2 = .ok (.bipush 8, 2) := by decide +kernel
theorem dX11_feed_4 : decode cX11_feed 4 = .ok (.invokestatic 103, 3) := by decide +kernel
theorem dX11_feed_7 : decode cX11_feed 7 = .ok (.ifCond .ne 5, 3) := by decide +kernel
theorem dX11_feed_10 : decode cX11_feed 10 = .ok (.iconst (-1), 1) := by decide +kernel
theorem dX11_feed_11 : decode cX11_feed 11 = .ok (.ireturn, 1) := by decide +kernel
theorem dX11_feed_12 : decode cX11_feed 12 = .ok (.aload_n 0, 1) := by decide +kernel
theorem dX11_feed_13 : decode cX11_feed 13 = .ok (.getfield 41, 3) := by decide +kernel
theorem dX11_feed_16 : decode cX11_feed 16 = .ok (.iload_n 3, 1) := by decide +kernel
theorem dX11_feed_17 : decode cX11_feed 17 = .ok (.iadd, 1) := by decide +kernel
theorem dX11_feed_18 : decode cX11_feed 18 = .ok (.sipush 240, 3) := by decide +kernel
theorem dX11_feed_21 : decode cX11_feed 21 = .ok (.if_icmp .le 6, 3) := by decide +kernel
theorem dX11_feed_24 : decode cX11_feed 24 = .ok (.bipush (-2), 2) := by decide +kernel
theorem dX11_feed_26 : decode cX11_feed 26 = .ok (.ireturn, 1) := by decide +kernel
theorem dX11_feed_27 : decode cX11_feed 27 = .ok (.iconst 0, 1) := by decide +kernel
theorem dX11_feed_28 : decode cX11_feed 28 = .ok (.istore 4, 2) := by decide +kernel
theorem dX11_feed_30 : decode cX11_feed 30 = .ok (.iload 4, 2) := by decide +kernel
theorem dX11_feed_32 : decode cX11_feed 32 = .ok (.iload_n 3, 1) := by decide +kernel
theorem dX11_feed_33 : decode cX11_feed 33 = .ok (.if_icmp .ge 33, 3) := by decide +kernel
theorem dX11_feed_36 : decode cX11_feed 36 = .ok (.aload_n 0, 1) := by decide +kernel
theorem dX11_feed_37 : decode cX11_feed 37 = .ok (.getfield 37, 3) := by decide +kernel
theorem dX11_feed_40 : decode cX11_feed 40 = .ok (.aload_n 0, 1) := by decide +kernel
theorem dX11_feed_41 : decode cX11_feed 41 = .ok (.getfield 41, 3) := by decide +kernel
theorem dX11_feed_44 : decode cX11_feed 44 = .ok (.iload 4, 2) := by decide +kernel
theorem dX11_feed_46 : decode cX11_feed 46 = .ok (.iadd, 1) := by decide +kernel
theorem dX11_feed_47 : decode cX11_feed 47 = .ok (.lload_n 1, 1) := by decide +kernel
theorem dX11_feed_48 : decode cX11_feed 48 = .ok (.bipush 8, 2) := by decide +kernel
theorem dX11_feed_50 : decode cX11_feed 50 = .ok (.iload 4, 2) := by decide +kernel
theorem dX11_feed_52 : decode cX11_feed 52 = .ok (.imul, 1) := by decide +kernel
theorem dX11_feed_53 : decode cX11_feed 53 = .ok (.lushr, 1) := by decide +kernel
theorem dX11_feed_54 : decode cX11_feed 54 = .ok (.l2i, 1) := by decide +kernel
theorem dX11_feed_55 : decode cX11_feed 55 = .ok (.sipush 255, 3) := by decide +kernel
theorem dX11_feed_58 : decode cX11_feed 58 = .ok (.iand, 1) := by decide +kernel
theorem dX11_feed_59 : decode cX11_feed 59 = .ok (.iastore, 1) := by decide +kernel
theorem dX11_feed_60 : decode cX11_feed 60 = .ok (.iinc 4 1, 3) := by decide +kernel
theorem dX11_feed_63 : decode cX11_feed 63 = .ok (.goto (-33), 3) := by decide +kernel
theorem dX11_feed_66 : decode cX11_feed 66 = .ok (.aload_n 0, 1) := by decide +kernel
theorem dX11_feed_67 : decode cX11_feed 67 = .ok (.dup, 1) := by decide +kernel
theorem dX11_feed_68 : decode cX11_feed 68 = .ok (.getfield 41, 3) := by decide +kernel
theorem dX11_feed_71 : decode cX11_feed 71 = .ok (.iload_n 3, 1) := by decide +kernel
theorem dX11_feed_72 : decode cX11_feed 72 = .ok (.iadd, 1) := by decide +kernel
theorem dX11_feed_73 : decode cX11_feed 73 = .ok (.putfield 41, 3) := by decide +kernel
theorem dX11_feed_76 : decode cX11_feed 76 = .ok (.aload_n 0, 1) := by decide +kernel
theorem dX11_feed_77 : decode cX11_feed 77 = .ok (.getfield 41, 3) := by decide +kernel
theorem dX11_feed_80 : decode cX11_feed 80 = .ok (.ireturn, 1) := by decide +kernel
theorem dX11_village_0 : decode cX11_village 0 = .ok (.aload_n 0, 1) := by decide +kernel
theorem dX11_village_1 : decode cX11_village 1 = .ok (.getfield 33, 3) := by decide +kernel
theorem dX11_village_4 : decode cX11_village 4 = .ok (.aload_n 0, 1) := by decide +kernel
theorem dX11_village_5 : decode cX11_village 5 = .ok (.getfield 37, 3) := by decide +kernel
theorem dX11_village_8 : decode cX11_village 8 = .ok (.aload_n 0, 1) := by decide +kernel
theorem dX11_village_9 : decode cX11_village 9 = .ok (.getfield 41, 3) := by decide +kernel
theorem dX11_village_12 : decode cX11_village 12 = .ok (.invokevirtual 107, 3) := by decide +kernel
theorem dX11_village_15 : decode cX11_village 15 = .ok (.istore_n 1, 1) := by decide +kernel
theorem dX11_village_16 : decode cX11_village 16 = .ok (.aload_n 0, 1) := by decide +kernel
theorem dX11_village_17 : decode cX11_village 17 = .ok (.iconst 0, 1) := by decide +kernel
theorem dX11_village_18 : decode cX11_village 18 = .ok (.putfield 41, 3) := by decide +kernel
theorem dX11_village_21 : decode cX11_village 21 = .ok (.iload_n 1, 1) := by decide +kernel
theorem dX11_village_22 : decode cX11_village 22 = .ok (.ifCond .ne 14, 3) := by decide +kernel
theorem dX11_village_25 : decode cX11_village 25 = .ok (.bipush (-100), 2) := by decide +kernel
theorem dX11_village_27 : decode cX11_village 27 = .ok (.aload_n 0, 1) := by decide +kernel
theorem dX11_village_28 : decode cX11_village 28 = .ok (.getfield 33, 3) := by decide +kernel
theorem dX11_village_31 : decode cX11_village 31 = .ok (.getfield 111, 3) := by decide +kernel
theorem dX11_village_34 : decode cX11_village 34 = .ok (.isub, 1) := by decide +kernel
theorem dX11_village_35 : decode cX11_village 35 = .ok (.ireturn, 1) := by decide +kernel
theorem dX11_village_36 : decode cX11_village 36 = .ok (.aload_n 0, 1) := by decide +kernel
theorem dX11_village_37 : decode cX11_village 37 = .ok (.getfield 10, 3) := by decide +kernel
theorem dX11_village_40 : decode cX11_village 40 = .ok (.getfield 114, 3) := by decide +kernel
theorem dX11_village_43 : decode cX11_village 43 = .ok (.istore_n 2, 1) := by decide +kernel
theorem dX11_village_44 : decode cX11_village 44 = .ok (.aload_n 0, 1) := by decide +kernel
theorem dX11_village_45 : decode cX11_village 45 = .ok (.getfield 10, 3) := by decide +kernel
theorem dX11_village_48 : decode cX11_village 48 = .ok (.aload_n 0, 1) := by decide +kernel
theorem dX11_village_49 : decode cX11_village 49 = .ok (.getfield 33, 3) := by decide +kernel
theorem dX11_village_52 : decode cX11_village 52 = .ok (.getfield 117, 3) := by decide +kernel
theorem dX11_village_55 : decode cX11_village 55 = .ok (.invokevirtual 120, 3) := by decide +kernel
theorem dX11_village_58 : decode cX11_village 58 = .ok (.aload_n 0, 1) := by decide +kernel
theorem dX11_village_59 : decode cX11_village 59 = .ok (.getfield 10, 3) := by decide +kernel
theorem dX11_village_62 : decode cX11_village 62 = .ok (.iload_n 2, 1) := by decide +kernel
theorem dX11_village_63 : decode cX11_village 63 = .ok (.putfield 114, 3) := by decide +kernel
theorem dX11_village_66 : decode cX11_village 66 = .ok (.aload_n 0, 1) := by decide +kernel
theorem dX11_village_67 : decode cX11_village 67 = .ok (.iconst 0, 1) := by decide +kernel
theorem dX11_village_68 : decode cX11_village 68 = .ok (.putfield 53, 3) := by decide +kernel
theorem dX11_village_71 : decode cX11_village 71 = .ok (.aload_n 0, 1) := by decide +kernel
theorem dX11_village_72 : decode cX11_village 72 = .ok (.getfield 10, 3) := by decide +kernel
theorem dX11_village_75 : decode cX11_village 75 = .ok (.getfield 124, 3) := by decide +kernel
theorem dX11_village_78 : decode cX11_village 78 = .ok (.ireturn, 1) := by decide +kernel
theorem dX11_person_0 : decode cX11_person 0 = .ok (.iload_n 1, 1) := by decide +kernel
theorem dX11_person_1 : decode cX11_person 1 = .ok (.iconst 0, 1) := by decide +kernel
theorem dX11_person_2 : decode cX11_person 2 = .ok (.iconst 5, 1) := by decide +kernel
theorem dX11_person_3 : decode cX11_person 3 = .ok (.invokestatic 103, 3) := by decide +kernel
theorem dX11_person_6 : decode cX11_person 6 = .ok (.ifCond .eq 14, 3) := by decide +kernel
theorem dX11_person_9 : decode cX11_person 9 = .ok (.iload_n 2, 1) := by decide +kernel
theorem dX11_person_10 : decode cX11_person 10 = .ok (.iconst 0, 1) := by decide +kernel
theorem dX11_person_11 : decode cX11_person 11 = .ok (.sipush 255, 3) := by decide +kernel
theorem dX11_person_14 : decode cX11_person 14 = .ok (.invokestatic 103, 3) := by decide +kernel
theorem dX11_person_17 : decode cX11_person 17 = .ok (.ifCond .ne 5, 3) := by decide +kernel
theorem dX11_person_20 : decode cX11_person 20 = .ok (.iconst (-1), 1) := by decide +kernel
theorem dX11_person_21 : decode cX11_person 21 = .ok (.ireturn, 1) := by decide +kernel
theorem dX11_person_22 : decode cX11_person 22 = .ok (.iload_n 3, 1) := by decide +kernel
theorem dX11_person_23 : decode cX11_person 23 = .ok (.iconst 0, 1) := by decide +kernel
theorem dX11_person_24 : decode cX11_person 24 = .ok (.bipush 99, 2) := by decide +kernel
theorem dX11_person_26 : decode cX11_person 26 = .ok (.invokestatic 103, 3) := by decide +kernel
theorem dX11_person_29 : decode cX11_person 29 = .ok (.ifCond .eq 14, 3) := by decide +kernel
theorem dX11_person_32 : decode cX11_person 32 = .ok (.iload 4, 2) := by decide +kernel
theorem dX11_person_34 : decode cX11_person 34 = .ok (.iconst 0, 1) := by decide +kernel
theorem dX11_person_35 : decode cX11_person 35 = .ok (.bipush 9, 2) := by decide +kernel
theorem dX11_person_37 : decode cX11_person 37 = .ok (.invokestatic 103, 3) := by decide +kernel
theorem dX11_person_40 : decode cX11_person 40 = .ok (.ifCond .ne 5, 3) := by decide +kernel
theorem dX11_person_43 : decode cX11_person 43 = .ok (.iconst (-1), 1) := by decide +kernel
theorem dX11_person_44 : decode cX11_person 44 = .ok (.ireturn, 1) := by decide +kernel
theorem dX11_person_45 : decode cX11_person 45 = .ok (.aload_n 0, 1) := by decide +kernel
theorem dX11_person_46 : decode cX11_person 46 = .ok (.getfield 10, 3) := by decide +kernel
theorem dX11_person_49 : decode cX11_person 49 = .ok (.getfield 124, 3) := by decide +kernel
theorem dX11_person_52 : decode cX11_person 52 = .ok (.bipush 6, 2) := by decide +kernel
theorem dX11_person_54 : decode cX11_person 54 = .ok (.if_icmp .lt 6, 3) := by decide +kernel
theorem dX11_person_57 : decode cX11_person 57 = .ok (.bipush (-2), 2) := by decide +kernel
theorem dX11_person_59 : decode cX11_person 59 = .ok (.ireturn, 1) := by decide +kernel
theorem dX11_person_60 : decode cX11_person 60 = .ok (.aload_n 0, 1) := by decide +kernel
theorem dX11_person_61 : decode cX11_person 61 = .ok (.getfield 10, 3) := by decide +kernel
theorem dX11_person_64 : decode cX11_person 64 = .ok (.iload_n 1, 1) := by decide +kernel
theorem dX11_person_65 : decode cX11_person 65 = .ok (.iload_n 2, 1) := by decide +kernel
theorem dX11_person_66 : decode cX11_person 66 = .ok (.iload_n 3, 1) := by decide +kernel
theorem dX11_person_67 : decode cX11_person 67 = .ok (.iload 4, 2) := by decide +kernel
theorem dX11_person_69 : decode cX11_person 69 = .ok (.invokevirtual 127, 3) := by decide +kernel
theorem dX11_person_72 : decode cX11_person 72 = .ok (.ireturn, 1) := by decide +kernel
theorem dX11_personOf_0 : decode cX11_personOf 0 = .ok (.aload_n 0, 1) := by decide +kernel
theorem dX11_personOf_1 : decode cX11_personOf 1 = .ok (.iload_n 1, 1) := by decide +kernel
theorem dX11_personOf_2 : decode cX11_personOf 2 = .ok (.invokevirtual 131, 3) := by decide +kernel
theorem dX11_personOf_5 : decode cX11_personOf 5 = .ok (.ifCond .ne 5, 3) := by decide +kernel
theorem dX11_personOf_8 : decode cX11_personOf 8 = .ok (.iconst (-1), 1) := by decide +kernel
theorem dX11_personOf_9 : decode cX11_personOf 9 = .ok (.ireturn, 1) := by decide +kernel
theorem dX11_personOf_10 : decode cX11_personOf 10 = .ok (.iload_n 2, 1) := by decide +kernel
theorem dX11_personOf_11 : decode cX11_personOf 11 = .ok (.tableswitch 69 0 3 #[29, 39, 49, 59], 29) := by decide +kernel
theorem dX11_personOf_40 : decode cX11_personOf 40 = .ok (.aload_n 0, 1) := by decide +kernel
theorem dX11_personOf_41 : decode cX11_personOf 41 = .ok (.getfield 10, 3) := by decide +kernel
theorem dX11_personOf_44 : decode cX11_personOf 44 = .ok (.getfield 135, 3) := by decide +kernel
theorem dX11_personOf_47 : decode cX11_personOf 47 = .ok (.iload_n 1, 1) := by decide +kernel
theorem dX11_personOf_48 : decode cX11_personOf 48 = .ok (.iaload, 1) := by decide +kernel
theorem dX11_personOf_49 : decode cX11_personOf 49 = .ok (.ireturn, 1) := by decide +kernel
theorem dX11_personOf_50 : decode cX11_personOf 50 = .ok (.aload_n 0, 1) := by decide +kernel
theorem dX11_personOf_51 : decode cX11_personOf 51 = .ok (.getfield 10, 3) := by decide +kernel
theorem dX11_personOf_54 : decode cX11_personOf 54 = .ok (.getfield 138, 3) := by decide +kernel
theorem dX11_personOf_57 : decode cX11_personOf 57 = .ok (.iload_n 1, 1) := by decide +kernel
theorem dX11_personOf_58 : decode cX11_personOf 58 = .ok (.iaload, 1) := by decide +kernel
theorem dX11_personOf_59 : decode cX11_personOf 59 = .ok (.ireturn, 1) := by decide +kernel
theorem dX11_personOf_60 : decode cX11_personOf 60 = .ok (.aload_n 0, 1) := by decide +kernel
theorem dX11_personOf_61 : decode cX11_personOf 61 = .ok (.getfield 10, 3) := by decide +kernel
theorem dX11_personOf_64 : decode cX11_personOf 64 = .ok (.getfield 141, 3) := by decide +kernel
theorem dX11_personOf_67 : decode cX11_personOf 67 = .ok (.iload_n 1, 1) := by decide +kernel
theorem dX11_personOf_68 : decode cX11_personOf 68 = .ok (.iaload, 1) := by decide +kernel
theorem dX11_personOf_69 : decode cX11_personOf 69 = .ok (.ireturn, 1) := by decide +kernel
theorem dX11_personOf_70 : decode cX11_personOf 70 = .ok (.aload_n 0, 1) := by decide +kernel
theorem dX11_personOf_71 : decode cX11_personOf 71 = .ok (.getfield 10, 3) := by decide +kernel
theorem dX11_personOf_74 : decode cX11_personOf 74 = .ok (.getfield 144, 3) := by decide +kernel
theorem dX11_personOf_77 : decode cX11_personOf 77 = .ok (.iload_n 1, 1) := by decide +kernel
theorem dX11_personOf_78 : decode cX11_personOf 78 = .ok (.iaload, 1) := by decide +kernel
theorem dX11_personOf_79 : decode cX11_personOf 79 = .ok (.ireturn, 1) := by decide +kernel
theorem dX11_personOf_80 : decode cX11_personOf 80 = .ok (.iconst (-1), 1) := by decide +kernel
theorem dX11_personOf_81 : decode cX11_personOf 81 = .ok (.ireturn, 1) := by decide +kernel
theorem dX11_leave_0 : decode cX11_leave 0 = .ok (.aload_n 0, 1) := by decide +kernel
theorem dX11_leave_1 : decode cX11_leave 1 = .ok (.iload_n 1, 1) := by decide +kernel
theorem dX11_leave_2 : decode cX11_leave 2 = .ok (.invokevirtual 131, 3) := by decide +kernel
theorem dX11_leave_5 : decode cX11_leave 5 = .ok (.ifCond .ne 5, 3) := by decide +kernel
theorem dX11_leave_8 : decode cX11_leave 8 = .ok (.iconst (-1), 1) := by decide +kernel
theorem dX11_leave_9 : decode cX11_leave 9 = .ok (.ireturn, 1) := by decide +kernel
theorem dX11_leave_10 : decode cX11_leave 10 = .ok (.aload_n 0, 1) := by decide +kernel
theorem dX11_leave_11 : decode cX11_leave 11 = .ok (.getfield 10, 3) := by decide +kernel
theorem dX11_leave_14 : decode cX11_leave 14 = .ok (.iload_n 1, 1) := by decide +kernel
theorem dX11_leave_15 : decode cX11_leave 15 = .ok (.invokevirtual 147, 3) := by decide +kernel
theorem dX11_leave_18 : decode cX11_leave 18 = .ok (.aload_n 0, 1) := by decide +kernel
theorem dX11_leave_19 : decode cX11_leave 19 = .ok (.getfield 10, 3) := by decide +kernel
theorem dX11_leave_22 : decode cX11_leave 22 = .ok (.getfield 124, 3) := by decide +kernel
theorem dX11_leave_25 : decode cX11_leave 25 = .ok (.ireturn, 1) := by decide +kernel
theorem dX11_mind_0 : decode cX11_mind 0 = .ok (.aload_n 0, 1) := by decide +kernel
theorem dX11_mind_1 : decode cX11_mind 1 = .ok (.iload_n 1, 1) := by decide +kernel
theorem dX11_mind_2 : decode cX11_mind 2 = .ok (.invokevirtual 131, 3) := by decide +kernel
theorem dX11_mind_5 : decode cX11_mind 5 = .ok (.ifCond .eq 23, 3) := by decide +kernel
theorem dX11_mind_8 : decode cX11_mind 8 = .ok (.iload_n 2, 1) := by decide +kernel
theorem dX11_mind_9 : decode cX11_mind 9 = .ok (.iconst 0, 1) := by decide +kernel
theorem dX11_mind_10 : decode cX11_mind 10 = .ok (.iconst 5, 1) := by decide +kernel
theorem dX11_mind_11 : decode cX11_mind 11 = .ok (.invokestatic 103, 3) := by decide +kernel
theorem dX11_mind_14 : decode cX11_mind 14 = .ok (.ifCond .eq 14, 3) := by decide +kernel
theorem dX11_mind_17 : decode cX11_mind 17 = .ok (.iload_n 3, 1) := by decide +kernel
theorem dX11_mind_18 : decode cX11_mind 18 = .ok (.iconst 0, 1) := by decide +kernel
theorem dX11_mind_19 : decode cX11_mind 19 = .ok (.sipush 255, 3) := by decide +kernel
theorem dX11_mind_22 : decode cX11_mind 22 = .ok (.invokestatic 103, 3) := by decide +kernel
theorem dX11_mind_25 : decode cX11_mind 25 = .ok (.ifCond .ne 5, 3) := by decide +kernel
theorem dX11_mind_28 : decode cX11_mind 28 = .ok (.iconst (-1), 1) := by decide +kernel
theorem dX11_mind_29 : decode cX11_mind 29 = .ok (.ireturn, 1) := by decide +kernel
theorem dX11_mind_30 : decode cX11_mind 30 = .ok (.aload_n 0, 1) := by decide +kernel
theorem dX11_mind_31 : decode cX11_mind 31 = .ok (.getfield 10, 3) := by decide +kernel
theorem dX11_mind_34 : decode cX11_mind 34 = .ok (.getfield 135, 3) := by decide +kernel
theorem dX11_mind_37 : decode cX11_mind 37 = .ok (.iload_n 1, 1) := by decide +kernel
theorem dX11_mind_38 : decode cX11_mind 38 = .ok (.iaload, 1) := by decide +kernel
theorem dX11_mind_39 : decode cX11_mind 39 = .ok (.istore 4, 2) := by decide +kernel
theorem dX11_mind_41 : decode cX11_mind 41 = .ok (.aload_n 0, 1) := by decide +kernel
theorem dX11_mind_42 : decode cX11_mind 42 = .ok (.getfield 10, 3) := by decide +kernel
theorem dX11_mind_45 : decode cX11_mind 45 = .ok (.getfield 135, 3) := by decide +kernel
theorem dX11_mind_48 : decode cX11_mind 48 = .ok (.iload_n 1, 1) := by decide +kernel
theorem dX11_mind_49 : decode cX11_mind 49 = .ok (.iload_n 2, 1) := by decide +kernel
theorem dX11_mind_50 : decode cX11_mind 50 = .ok (.iastore, 1) := by decide +kernel
theorem dX11_mind_51 : decode cX11_mind 51 = .ok (.aload_n 0, 1) := by decide +kernel
theorem dX11_mind_52 : decode cX11_mind 52 = .ok (.getfield 10, 3) := by decide +kernel
theorem dX11_mind_55 : decode cX11_mind 55 = .ok (.getfield 138, 3) := by decide +kernel
theorem dX11_mind_58 : decode cX11_mind 58 = .ok (.iload_n 1, 1) := by decide +kernel
theorem dX11_mind_59 : decode cX11_mind 59 = .ok (.iload_n 3, 1) := by decide +kernel
theorem dX11_mind_60 : decode cX11_mind 60 = .ok (.iastore, 1) := by decide +kernel
theorem dX11_mind_61 : decode cX11_mind 61 = .ok (.iload 4, 2) := by decide +kernel
theorem dX11_mind_63 : decode cX11_mind 63 = .ok (.ireturn, 1) := by decide +kernel
theorem dX11_give_0 : decode cX11_give 0 = .ok (.aload_n 0, 1) := by decide +kernel
theorem dX11_give_1 : decode cX11_give 1 = .ok (.iload_n 1, 1) := by decide +kernel
theorem dX11_give_2 : decode cX11_give 2 = .ok (.invokevirtual 131, 3) := by decide +kernel
theorem dX11_give_5 : decode cX11_give 5 = .ok (.ifCond .eq 16, 3) := by decide +kernel
theorem dX11_give_8 : decode cX11_give 8 = .ok (.aload_n 0, 1) := by decide +kernel
theorem dX11_give_9 : decode cX11_give 9 = .ok (.iload_n 2, 1) := by decide +kernel
theorem dX11_give_10 : decode cX11_give 10 = .ok (.invokevirtual 131, 3) := by decide +kernel
theorem dX11_give_13 : decode cX11_give 13 = .ok (.ifCond .eq 8, 3) := by decide +kernel
theorem dX11_give_16 : decode cX11_give 16 = .ok (.iload_n 1, 1) := by decide +kernel
theorem dX11_give_17 : decode cX11_give 17 = .ok (.iload_n 2, 1) := by decide +kernel
theorem dX11_give_18 : decode cX11_give 18 = .ok (.if_icmp .ne 5, 3) := by decide +kernel
theorem dX11_give_21 : decode cX11_give 21 = .ok (.iconst (-1), 1) := by decide +kernel
theorem dX11_give_22 : decode cX11_give 22 = .ok (.ireturn, 1) := by decide +kernel
theorem dX11_give_23 : decode cX11_give 23 = .ok (.aload_n 0, 1) := by decide +kernel
theorem dX11_give_24 : decode cX11_give 24 = .ok (.getfield 10, 3) := by decide +kernel
theorem dX11_give_27 : decode cX11_give 27 = .ok (.getfield 144, 3) := by decide +kernel
theorem dX11_give_30 : decode cX11_give 30 = .ok (.iload_n 1, 1) := by decide +kernel
theorem dX11_give_31 : decode cX11_give 31 = .ok (.iaload, 1) := by decide +kernel
theorem dX11_give_32 : decode cX11_give 32 = .ok (.ifCond .ne 6, 3) := by decide +kernel
theorem dX11_give_35 : decode cX11_give 35 = .ok (.bipush (-3), 2) := by decide +kernel
theorem dX11_give_37 : decode cX11_give 37 = .ok (.ireturn, 1) := by decide +kernel
theorem dX11_give_38 : decode cX11_give 38 = .ok (.aload_n 0, 1) := by decide +kernel
theorem dX11_give_39 : decode cX11_give 39 = .ok (.getfield 10, 3) := by decide +kernel
theorem dX11_give_42 : decode cX11_give 42 = .ok (.getfield 144, 3) := by decide +kernel
theorem dX11_give_45 : decode cX11_give 45 = .ok (.iload_n 2, 1) := by decide +kernel
theorem dX11_give_46 : decode cX11_give 46 = .ok (.iaload, 1) := by decide +kernel
theorem dX11_give_47 : decode cX11_give 47 = .ok (.bipush 9, 2) := by decide +kernel
theorem dX11_give_49 : decode cX11_give 49 = .ok (.if_icmp .lt 6, 3) := by decide +kernel
theorem dX11_give_52 : decode cX11_give 52 = .ok (.bipush (-2), 2) := by decide +kernel
theorem dX11_give_54 : decode cX11_give 54 = .ok (.ireturn, 1) := by decide +kernel
theorem dX11_give_55 : decode cX11_give 55 = .ok (.aload_n 0, 1) := by decide +kernel
theorem dX11_give_56 : decode cX11_give 56 = .ok (.getfield 10, 3) := by decide +kernel
theorem dX11_give_59 : decode cX11_give 59 = .ok (.getfield 144, 3) := by decide +kernel
theorem dX11_give_62 : decode cX11_give 62 = .ok (.iload_n 1, 1) := by decide +kernel
theorem dX11_give_63 : decode cX11_give 63 = .ok (.dup2, 1) := by decide +kernel
theorem dX11_give_64 : decode cX11_give 64 = .ok (.iaload, 1) := by decide +kernel
theorem dX11_give_65 : decode cX11_give 65 = .ok (.iconst 1, 1) := by decide +kernel
theorem dX11_give_66 : decode cX11_give 66 = .ok (.isub, 1) := by decide +kernel
theorem dX11_give_67 : decode cX11_give 67 = .ok (.iastore, 1) := by decide +kernel
theorem dX11_give_68 : decode cX11_give 68 = .ok (.aload_n 0, 1) := by decide +kernel
theorem dX11_give_69 : decode cX11_give 69 = .ok (.getfield 10, 3) := by decide +kernel
theorem dX11_give_72 : decode cX11_give 72 = .ok (.getfield 144, 3) := by decide +kernel
theorem dX11_give_75 : decode cX11_give 75 = .ok (.iload_n 2, 1) := by decide +kernel
theorem dX11_give_76 : decode cX11_give 76 = .ok (.dup2, 1) := by decide +kernel
theorem dX11_give_77 : decode cX11_give 77 = .ok (.iaload, 1) := by decide +kernel
theorem dX11_give_78 : decode cX11_give 78 = .ok (.iconst 1, 1) := by decide +kernel
theorem dX11_give_79 : decode cX11_give 79 = .ok (.iadd, 1) := by decide +kernel
theorem dX11_give_80 : decode cX11_give 80 = .ok (.iastore, 1) := by decide +kernel
theorem dX11_give_81 : decode cX11_give 81 = .ok (.aload_n 0, 1) := by decide +kernel
theorem dX11_give_82 : decode cX11_give 82 = .ok (.getfield 10, 3) := by decide +kernel
theorem dX11_give_85 : decode cX11_give 85 = .ok (.getfield 144, 3) := by decide +kernel
theorem dX11_give_88 : decode cX11_give 88 = .ok (.iload_n 2, 1) := by decide +kernel
theorem dX11_give_89 : decode cX11_give 89 = .ok (.iaload, 1) := by decide +kernel
theorem dX11_give_90 : decode cX11_give 90 = .ok (.ireturn, 1) := by decide +kernel
theorem dX11_noes_0 : decode cX11_noes 0 = .ok (.aload_n 0, 1) := by decide +kernel
theorem dX11_noes_1 : decode cX11_noes 1 = .ok (.iload_n 1, 1) := by decide +kernel
theorem dX11_noes_2 : decode cX11_noes 2 = .ok (.invokevirtual 131, 3) := by decide +kernel
theorem dX11_noes_5 : decode cX11_noes 5 = .ok (.ifCond .eq 13, 3) := by decide +kernel
theorem dX11_noes_8 : decode cX11_noes 8 = .ok (.iload_n 2, 1) := by decide +kernel
theorem dX11_noes_9 : decode cX11_noes 9 = .ok (.iconst 0, 1) := by decide +kernel
theorem dX11_noes_10 : decode cX11_noes 10 = .ok (.bipush 9, 2) := by decide +kernel
theorem dX11_noes_12 : decode cX11_noes 12 = .ok (.invokestatic 103, 3) := by decide +kernel
theorem dX11_noes_15 : decode cX11_noes 15 = .ok (.ifCond .ne 5, 3) := by decide +kernel
theorem dX11_noes_18 : decode cX11_noes 18 = .ok (.iconst (-1), 1) := by decide +kernel
theorem dX11_noes_19 : decode cX11_noes 19 = .ok (.ireturn, 1) := by decide +kernel
theorem dX11_noes_20 : decode cX11_noes 20 = .ok (.aload_n 0, 1) := by decide +kernel
theorem dX11_noes_21 : decode cX11_noes 21 = .ok (.getfield 10, 3) := by decide +kernel
theorem dX11_noes_24 : decode cX11_noes 24 = .ok (.getfield 144, 3) := by decide +kernel
theorem dX11_noes_27 : decode cX11_noes 27 = .ok (.iload_n 1, 1) := by decide +kernel
theorem dX11_noes_28 : decode cX11_noes 28 = .ok (.iaload, 1) := by decide +kernel
theorem dX11_noes_29 : decode cX11_noes 29 = .ok (.istore_n 3, 1) := by decide +kernel
theorem dX11_noes_30 : decode cX11_noes 30 = .ok (.aload_n 0, 1) := by decide +kernel
theorem dX11_noes_31 : decode cX11_noes 31 = .ok (.getfield 10, 3) := by decide +kernel
theorem dX11_noes_34 : decode cX11_noes 34 = .ok (.getfield 144, 3) := by decide +kernel
theorem dX11_noes_37 : decode cX11_noes 37 = .ok (.iload_n 1, 1) := by decide +kernel
theorem dX11_noes_38 : decode cX11_noes 38 = .ok (.iload_n 2, 1) := by decide +kernel
theorem dX11_noes_39 : decode cX11_noes 39 = .ok (.iastore, 1) := by decide +kernel
theorem dX11_noes_40 : decode cX11_noes 40 = .ok (.iload_n 3, 1) := by decide +kernel
theorem dX11_noes_41 : decode cX11_noes 41 = .ok (.ireturn, 1) := by decide +kernel
theorem dX11_proposal_0 : decode cX11_proposal 0 = .ok (.iload_n 1, 1) := by decide +kernel
theorem dX11_proposal_1 : decode cX11_proposal 1 = .ok (.iconst 0, 1) := by decide +kernel
theorem dX11_proposal_2 : decode cX11_proposal 2 = .ok (.bipush 9, 2) := by decide +kernel
theorem dX11_proposal_4 : decode cX11_proposal 4 = .ok (.invokestatic 103, 3) := by decide +kernel
theorem dX11_proposal_7 : decode cX11_proposal 7 = .ok (.ifCond .ne 5, 3) := by decide +kernel
theorem dX11_proposal_10 : decode cX11_proposal 10 = .ok (.iconst (-1), 1) := by decide +kernel
theorem dX11_proposal_11 : decode cX11_proposal 11 = .ok (.ireturn, 1) := by decide +kernel
theorem dX11_proposal_12 : decode cX11_proposal 12 = .ok (.aload_n 0, 1) := by decide +kernel
theorem dX11_proposal_13 : decode cX11_proposal 13 = .ok (.getfield 10, 3) := by decide +kernel
theorem dX11_proposal_16 : decode cX11_proposal 16 = .ok (.getfield 151, 3) := by decide +kernel
theorem dX11_proposal_19 : decode cX11_proposal 19 = .ok (.bipush 8, 2) := by decide +kernel
theorem dX11_proposal_21 : decode cX11_proposal 21 = .ok (.if_icmp .lt 6, 3) := by decide +kernel
theorem dX11_proposal_24 : decode cX11_proposal 24 = .ok (.bipush (-2), 2) := by decide +kernel
theorem dX11_proposal_26 : decode cX11_proposal 26 = .ok (.ireturn, 1) := by decide +kernel
theorem dX11_proposal_27 : decode cX11_proposal 27 = .ok (.aload_n 0, 1) := by decide +kernel
theorem dX11_proposal_28 : decode cX11_proposal 28 = .ok (.getfield 10, 3) := by decide +kernel
theorem dX11_proposal_31 : decode cX11_proposal 31 = .ok (.iload_n 1, 1) := by decide +kernel
theorem dX11_proposal_32 : decode cX11_proposal 32 = .ok (.invokevirtual 154, 3) := by decide +kernel
theorem dX11_proposal_35 : decode cX11_proposal 35 = .ok (.ireturn, 1) := by decide +kernel
theorem dX11_weigh_0 : decode cX11_weigh 0 = .ok (.aload_n 0, 1) := by decide +kernel
theorem dX11_weigh_1 : decode cX11_weigh 1 = .ok (.iload_n 1, 1) := by decide +kernel
theorem dX11_weigh_2 : decode cX11_weigh 2 = .ok (.invokevirtual 158, 3) := by decide +kernel
theorem dX11_weigh_5 : decode cX11_weigh 5 = .ok (.ifCond .eq 13, 3) := by decide +kernel
theorem dX11_weigh_8 : decode cX11_weigh 8 = .ok (.iload_n 2, 1) := by decide +kernel
theorem dX11_weigh_9 : decode cX11_weigh 9 = .ok (.iconst 0, 1) := by decide +kernel
theorem dX11_weigh_10 : decode cX11_weigh 10 = .ok (.bipush 9, 2) := by decide +kernel
theorem dX11_weigh_12 : decode cX11_weigh 12 = .ok (.invokestatic 103, 3) := by decide +kernel
theorem dX11_weigh_15 : decode cX11_weigh 15 = .ok (.ifCond .ne 5, 3) := by decide +kernel
theorem dX11_weigh_18 : decode cX11_weigh 18 = .ok (.iconst (-1), 1) := by decide +kernel
theorem dX11_weigh_19 : decode cX11_weigh 19 = .ok (.ireturn, 1) := by decide +kernel
theorem dX11_weigh_20 : decode cX11_weigh 20 = .ok (.aload_n 0, 1) := by decide +kernel
theorem dX11_weigh_21 : decode cX11_weigh 21 = .ok (.getfield 10, 3) := by decide +kernel
theorem dX11_weigh_24 : decode cX11_weigh 24 = .ok (.getfield 161, 3) := by decide +kernel
theorem dX11_weigh_27 : decode cX11_weigh 27 = .ok (.iload_n 1, 1) := by decide +kernel
theorem dX11_weigh_28 : decode cX11_weigh 28 = .ok (.iaload, 1) := by decide +kernel
theorem dX11_weigh_29 : decode cX11_weigh 29 = .ok (.istore_n 3, 1) := by decide +kernel
theorem dX11_weigh_30 : decode cX11_weigh 30 = .ok (.aload_n 0, 1) := by decide +kernel
theorem dX11_weigh_31 : decode cX11_weigh 31 = .ok (.getfield 10, 3) := by decide +kernel
theorem dX11_weigh_34 : decode cX11_weigh 34 = .ok (.getfield 161, 3) := by decide +kernel
theorem dX11_weigh_37 : decode cX11_weigh 37 = .ok (.iload_n 1, 1) := by decide +kernel
theorem dX11_weigh_38 : decode cX11_weigh 38 = .ok (.iload_n 2, 1) := by decide +kernel
theorem dX11_weigh_39 : decode cX11_weigh 39 = .ok (.iastore, 1) := by decide +kernel
theorem dX11_weigh_40 : decode cX11_weigh 40 = .ok (.iload_n 3, 1) := by decide +kernel
theorem dX11_weigh_41 : decode cX11_weigh 41 = .ok (.ireturn, 1) := by decide +kernel
theorem dX11_worth_0 : decode cX11_worth 0 = .ok (.aload_n 0, 1) := by decide +kernel
theorem dX11_worth_1 : decode cX11_worth 1 = .ok (.iload_n 1, 1) := by decide +kernel
theorem dX11_worth_2 : decode cX11_worth 2 = .ok (.invokevirtual 158, 3) := by decide +kernel
theorem dX11_worth_5 : decode cX11_worth 5 = .ok (.ifCond .eq 22, 3) := by decide +kernel
theorem dX11_worth_8 : decode cX11_worth 8 = .ok (.aload_n 0, 1) := by decide +kernel
theorem dX11_worth_9 : decode cX11_worth 9 = .ok (.iload_n 2, 1) := by decide +kernel
theorem dX11_worth_10 : decode cX11_worth 10 = .ok (.invokevirtual 131, 3) := by decide +kernel
theorem dX11_worth_13 : decode cX11_worth 13 = .ok (.ifCond .eq 14, 3) := by decide +kernel
theorem dX11_worth_16 : decode cX11_worth 16 = .ok (.iload_n 3, 1) := by decide +kernel
theorem dX11_worth_17 : decode cX11_worth 17 = .ok (.bipush (-9), 2) := by decide +kernel
theorem dX11_worth_19 : decode cX11_worth 19 = .ok (.bipush 9, 2) := by decide +kernel
theorem dX11_worth_21 : decode cX11_worth 21 = .ok (.invokestatic 103, 3) := by decide +kernel
theorem dX11_worth_24 : decode cX11_worth 24 = .ok (.ifCond .ne 5, 3) := by decide +kernel
theorem dX11_worth_27 : decode cX11_worth 27 = .ok (.iconst (-1), 1) := by decide +kernel
theorem dX11_worth_28 : decode cX11_worth 28 = .ok (.ireturn, 1) := by decide +kernel
theorem dX11_worth_29 : decode cX11_worth 29 = .ok (.aload_n 0, 1) := by decide +kernel
theorem dX11_worth_30 : decode cX11_worth 30 = .ok (.getfield 10, 3) := by decide +kernel
theorem dX11_worth_33 : decode cX11_worth 33 = .ok (.getfield 164, 3) := by decide +kernel
theorem dX11_worth_36 : decode cX11_worth 36 = .ok (.iload_n 1, 1) := by decide +kernel
theorem dX11_worth_37 : decode cX11_worth 37 = .ok (.aaload, 1) := by decide +kernel
theorem dX11_worth_38 : decode cX11_worth 38 = .ok (.iload_n 2, 1) := by decide +kernel
theorem dX11_worth_39 : decode cX11_worth 39 = .ok (.iaload, 1) := by decide +kernel
theorem dX11_worth_40 : decode cX11_worth 40 = .ok (.istore 4, 2) := by decide +kernel
theorem dX11_worth_42 : decode cX11_worth 42 = .ok (.aload_n 0, 1) := by decide +kernel
theorem dX11_worth_43 : decode cX11_worth 43 = .ok (.getfield 10, 3) := by decide +kernel
theorem dX11_worth_46 : decode cX11_worth 46 = .ok (.getfield 164, 3) := by decide +kernel
theorem dX11_worth_49 : decode cX11_worth 49 = .ok (.iload_n 1, 1) := by decide +kernel
theorem dX11_worth_50 : decode cX11_worth 50 = .ok (.aaload, 1) := by decide +kernel
theorem dX11_worth_51 : decode cX11_worth 51 = .ok (.iload_n 2, 1) := by decide +kernel
theorem dX11_worth_52 : decode cX11_worth 52 = .ok (.iload_n 3, 1) := by decide +kernel
theorem dX11_worth_53 : decode cX11_worth 53 = .ok (.iastore, 1) := by decide +kernel
theorem dX11_worth_54 : decode cX11_worth 54 = .ok (.iload 4, 2) := by decide +kernel
theorem dX11_worth_56 : decode cX11_worth 56 = .ok (.bipush 10, 2) := by decide +kernel
theorem dX11_worth_58 : decode cX11_worth 58 = .ok (.iadd, 1) := by decide +kernel
theorem dX11_worth_59 : decode cX11_worth 59 = .ok (.ireturn, 1) := by decide +kernel
theorem dX11_proposalOf_0 : decode cX11_proposalOf 0 = .ok (.aload_n 0, 1) := by decide +kernel
theorem dX11_proposalOf_1 : decode cX11_proposalOf 1 = .ok (.iload_n 1, 1) := by decide +kernel
theorem dX11_proposalOf_2 : decode cX11_proposalOf 2 = .ok (.invokevirtual 158, 3) := by decide +kernel
theorem dX11_proposalOf_5 : decode cX11_proposalOf 5 = .ok (.ifCond .ne 5, 3) := by decide +kernel
theorem dX11_proposalOf_8 : decode cX11_proposalOf 8 = .ok (.iconst (-1), 1) := by decide +kernel
theorem dX11_proposalOf_9 : decode cX11_proposalOf 9 = .ok (.ireturn, 1) := by decide +kernel
theorem dX11_proposalOf_10 : decode cX11_proposalOf 10 = .ok (.iload_n 2, 1) := by decide +kernel
theorem dX11_proposalOf_11 : decode cX11_proposalOf 11 = .ok (.iconst (-1), 1) := by decide +kernel
theorem dX11_proposalOf_12 : decode cX11_proposalOf 12 = .ok (.if_icmp .ne 13, 3) := by decide +kernel
theorem dX11_proposalOf_15 : decode cX11_proposalOf 15 = .ok (.aload_n 0, 1) := by decide +kernel
theorem dX11_proposalOf_16 : decode cX11_proposalOf 16 = .ok (.getfield 10, 3) := by decide +kernel
theorem dX11_proposalOf_19 : decode cX11_proposalOf 19 = .ok (.getfield 161, 3) := by decide +kernel
theorem dX11_proposalOf_22 : decode cX11_proposalOf 22 = .ok (.iload_n 1, 1) := by decide +kernel
theorem dX11_proposalOf_23 : decode cX11_proposalOf 23 = .ok (.iaload, 1) := by decide +kernel
theorem dX11_proposalOf_24 : decode cX11_proposalOf 24 = .ok (.ireturn, 1) := by decide +kernel
theorem dX11_proposalOf_25 : decode cX11_proposalOf 25 = .ok (.aload_n 0, 1) := by decide +kernel
theorem dX11_proposalOf_26 : decode cX11_proposalOf 26 = .ok (.iload_n 2, 1) := by decide +kernel
theorem dX11_proposalOf_27 : decode cX11_proposalOf 27 = .ok (.invokevirtual 131, 3) := by decide +kernel
theorem dX11_proposalOf_30 : decode cX11_proposalOf 30 = .ok (.ifCond .ne 5, 3) := by decide +kernel
theorem dX11_proposalOf_33 : decode cX11_proposalOf 33 = .ok (.iconst (-1), 1) := by decide +kernel
theorem dX11_proposalOf_34 : decode cX11_proposalOf 34 = .ok (.ireturn, 1) := by decide +kernel
theorem dX11_proposalOf_35 : decode cX11_proposalOf 35 = .ok (.aload_n 0, 1) := by decide +kernel
theorem dX11_proposalOf_36 : decode cX11_proposalOf 36 = .ok (.getfield 10, 3) := by decide +kernel
theorem dX11_proposalOf_39 : decode cX11_proposalOf 39 = .ok (.getfield 164, 3) := by decide +kernel
theorem dX11_proposalOf_42 : decode cX11_proposalOf 42 = .ok (.iload_n 1, 1) := by decide +kernel
theorem dX11_proposalOf_43 : decode cX11_proposalOf 43 = .ok (.aaload, 1) := by decide +kernel
theorem dX11_proposalOf_44 : decode cX11_proposalOf 44 = .ok (.iload_n 2, 1) := by decide +kernel
theorem dX11_proposalOf_45 : decode cX11_proposalOf 45 = .ok (.iaload, 1) := by decide +kernel
theorem dX11_proposalOf_46 : decode cX11_proposalOf 46 = .ok (.bipush 10, 2) := by decide +kernel
theorem dX11_proposalOf_48 : decode cX11_proposalOf 48 = .ok (.iadd, 1) := by decide +kernel
theorem dX11_proposalOf_49 : decode cX11_proposalOf 49 = .ok (.ireturn, 1) := by decide +kernel
theorem dX11_set_0 : decode cX11_set 0 = .ok (.iload_n 1, 1) := by decide +kernel
theorem dX11_set_1 : decode cX11_set 1 = .ok (.iload_n 2, 1) := by decide +kernel
theorem dX11_set_2 : decode cX11_set 2 = .ok (.invokestatic 167, 3) := by decide +kernel
theorem dX11_set_5 : decode cX11_set 5 = .ok (.ifCond .ne 5, 3) := by decide +kernel
theorem dX11_set_8 : decode cX11_set 8 = .ok (.iconst (-1), 1) := by decide +kernel
theorem dX11_set_9 : decode cX11_set 9 = .ok (.ireturn, 1) := by decide +kernel
theorem dX11_set_10 : decode cX11_set 10 = .ok (.aload_n 0, 1) := by decide +kernel
theorem dX11_set_11 : decode cX11_set 11 = .ok (.getfield 10, 3) := by decide +kernel
theorem dX11_set_14 : decode cX11_set 14 = .ok (.getfield 171, 3) := by decide +kernel
theorem dX11_set_17 : decode cX11_set 17 = .ok (.iload_n 1, 1) := by decide +kernel
theorem dX11_set_18 : decode cX11_set 18 = .ok (.iaload, 1) := by decide +kernel
theorem dX11_set_19 : decode cX11_set 19 = .ok (.istore_n 3, 1) := by decide +kernel
theorem dX11_set_20 : decode cX11_set 20 = .ok (.aload_n 0, 1) := by decide +kernel
theorem dX11_set_21 : decode cX11_set 21 = .ok (.getfield 10, 3) := by decide +kernel
theorem dX11_set_24 : decode cX11_set 24 = .ok (.getfield 171, 3) := by decide +kernel
theorem dX11_set_27 : decode cX11_set 27 = .ok (.iload_n 1, 1) := by decide +kernel
theorem dX11_set_28 : decode cX11_set 28 = .ok (.iload_n 2, 1) := by decide +kernel
theorem dX11_set_29 : decode cX11_set 29 = .ok (.iastore, 1) := by decide +kernel
theorem dX11_set_30 : decode cX11_set 30 = .ok (.iload_n 3, 1) := by decide +kernel
theorem dX11_set_31 : decode cX11_set 31 = .ok (.ireturn, 1) := by decide +kernel
theorem dX11_law_0 : decode cX11_law 0 = .ok (.iload_n 1, 1) := by decide +kernel
theorem dX11_law_1 : decode cX11_law 1 = .ok (.iconst 0, 1) := by decide +kernel
theorem dX11_law_2 : decode cX11_law 2 = .ok (.iconst 3, 1) := by decide +kernel
theorem dX11_law_3 : decode cX11_law 3 = .ok (.invokestatic 103, 3) := by decide +kernel
theorem dX11_law_6 : decode cX11_law 6 = .ok (.ifCond .eq 15, 3) := by decide +kernel
theorem dX11_law_9 : decode cX11_law 9 = .ok (.aload_n 0, 1) := by decide +kernel
theorem dX11_law_10 : decode cX11_law 10 = .ok (.getfield 10, 3) := by decide +kernel
theorem dX11_law_13 : decode cX11_law 13 = .ok (.getfield 171, 3) := by decide +kernel
theorem dX11_law_16 : decode cX11_law 16 = .ok (.iload_n 1, 1) := by decide +kernel
theorem dX11_law_17 : decode cX11_law 17 = .ok (.iaload, 1) := by decide +kernel
theorem dX11_law_18 : decode cX11_law 18 = .ok (.goto 4, 3) := by decide +kernel
theorem dX11_law_21 : decode cX11_law 21 = .ok (.iconst (-1), 1) := by decide +kernel
theorem dX11_law_22 : decode cX11_law 22 = .ok (.ireturn, 1) := by decide +kernel
theorem dX11_would_0 : decode cX11_would 0 = .ok (.aload_n 0, 1) := by decide +kernel
theorem dX11_would_1 : decode cX11_would 1 = .ok (.iload_n 1, 1) := by decide +kernel
theorem dX11_would_2 : decode cX11_would 2 = .ok (.invokevirtual 158, 3) := by decide +kernel
theorem dX11_would_5 : decode cX11_would 5 = .ok (.ifCond .ne 5, 3) := by decide +kernel
theorem dX11_would_8 : decode cX11_would 8 = .ok (.iconst (-1), 1) := by decide +kernel
theorem dX11_would_9 : decode cX11_would 9 = .ok (.ireturn, 1) := by decide +kernel
theorem dX11_would_10 : decode cX11_would 10 = .ok (.aload_n 0, 1) := by decide +kernel
theorem dX11_would_11 : decode cX11_would 11 = .ok (.getfield 10, 3) := by decide +kernel
theorem dX11_would_14 : decode cX11_would 14 = .ok (.iload_n 1, 1) := by decide +kernel
theorem dX11_would_15 : decode cX11_would 15 = .ok (.aload_n 0, 1) := by decide +kernel
theorem dX11_would_16 : decode cX11_would 16 = .ok (.getfield 10, 3) := by decide +kernel
theorem dX11_would_19 : decode cX11_would 19 = .ok (.getfield 171, 3) := by decide +kernel
theorem dX11_would_22 : decode cX11_would 22 = .ok (.iconst 3, 1) := by decide +kernel
theorem dX11_would_23 : decode cX11_would 23 = .ok (.iaload, 1) := by decide +kernel
theorem dX11_would_24 : decode cX11_would 24 = .ok (.aload_n 0, 1) := by decide +kernel
theorem dX11_would_25 : decode cX11_would 25 = .ok (.getfield 10, 3) := by decide +kernel
theorem dX11_would_28 : decode cX11_would 28 = .ok (.invokevirtual 174, 3) := by decide +kernel
theorem dX11_would_31 : decode cX11_would 31 = .ok (.invokevirtual 178, 3) := by decide +kernel
theorem dX11_would_34 : decode cX11_would 34 = .ok (.ireturn, 1) := by decide +kernel
theorem dX11_says_0 : decode cX11_says 0 = .ok (.aload_n 0, 1) := by decide +kernel
theorem dX11_says_1 : decode cX11_says 1 = .ok (.iload_n 1, 1) := by decide +kernel
theorem dX11_says_2 : decode cX11_says 2 = .ok (.invokevirtual 158, 3) := by decide +kernel
theorem dX11_says_5 : decode cX11_says 5 = .ok (.ifCond .ne 5, 3) := by decide +kernel
theorem dX11_says_8 : decode cX11_says 8 = .ok (.iconst (-1), 1) := by decide +kernel
theorem dX11_says_9 : decode cX11_says 9 = .ok (.ireturn, 1) := by decide +kernel
theorem dX11_says_10 : decode cX11_says 10 = .ok (.aload_n 0, 1) := by decide +kernel
theorem dX11_says_11 : decode cX11_says 11 = .ok (.getfield 10, 3) := by decide +kernel
theorem dX11_says_14 : decode cX11_says 14 = .ok (.iload_n 1, 1) := by decide +kernel
theorem dX11_says_15 : decode cX11_says 15 = .ok (.aload_n 0, 1) := by decide +kernel
theorem dX11_says_16 : decode cX11_says 16 = .ok (.getfield 10, 3) := by decide +kernel
theorem dX11_says_19 : decode cX11_says 19 = .ok (.getfield 171, 3) := by decide +kernel
theorem dX11_says_22 : decode cX11_says 22 = .ok (.iconst 3, 1) := by decide +kernel
theorem dX11_says_23 : decode cX11_says 23 = .ok (.iaload, 1) := by decide +kernel
theorem dX11_says_24 : decode cX11_says 24 = .ok (.aload_n 0, 1) := by decide +kernel
theorem dX11_says_25 : decode cX11_says 25 = .ok (.getfield 10, 3) := by decide +kernel
theorem dX11_says_28 : decode cX11_says 28 = .ok (.invokevirtual 174, 3) := by decide +kernel
theorem dX11_says_31 : decode cX11_says 31 = .ok (.invokevirtual 182, 3) := by decide +kernel
theorem dX11_says_34 : decode cX11_says 34 = .ok (.ireturn, 1) := by decide +kernel
theorem dX11_comes_0 : decode cX11_comes 0 = .ok (.aload_n 0, 1) := by decide +kernel
theorem dX11_comes_1 : decode cX11_comes 1 = .ok (.iload_n 1, 1) := by decide +kernel
theorem dX11_comes_2 : decode cX11_comes 2 = .ok (.invokevirtual 158, 3) := by decide +kernel
theorem dX11_comes_5 : decode cX11_comes 5 = .ok (.ifCond .ne 5, 3) := by decide +kernel
theorem dX11_comes_8 : decode cX11_comes 8 = .ok (.iconst (-1), 1) := by decide +kernel
theorem dX11_comes_9 : decode cX11_comes 9 = .ok (.ireturn, 1) := by decide +kernel
theorem dX11_comes_10 : decode cX11_comes 10 = .ok (.aload_n 0, 1) := by decide +kernel
theorem dX11_comes_11 : decode cX11_comes 11 = .ok (.getfield 10, 3) := by decide +kernel
theorem dX11_comes_14 : decode cX11_comes 14 = .ok (.getfield 171, 3) := by decide +kernel
theorem dX11_comes_17 : decode cX11_comes 17 = .ok (.iconst 3, 1) := by decide +kernel
theorem dX11_comes_18 : decode cX11_comes 18 = .ok (.iaload, 1) := by decide +kernel
theorem dX11_comes_19 : decode cX11_comes 19 = .ok (.sipush 999, 3) := by decide +kernel
theorem dX11_comes_22 : decode cX11_comes 22 = .ok (.if_icmp .lt 6, 3) := by decide +kernel
theorem dX11_comes_25 : decode cX11_comes 25 = .ok (.bipush (-4), 2) := by decide +kernel
theorem dX11_comes_27 : decode cX11_comes 27 = .ok (.ireturn, 1) := by decide +kernel
theorem dX11_comes_28 : decode cX11_comes 28 = .ok (.aload_n 0, 1) := by decide +kernel
theorem dX11_comes_29 : decode cX11_comes 29 = .ok (.getfield 10, 3) := by decide +kernel
theorem dX11_comes_32 : decode cX11_comes 32 = .ok (.iload_n 1, 1) := by decide +kernel
theorem dX11_comes_33 : decode cX11_comes 33 = .ok (.invokevirtual 185, 3) := by decide +kernel
theorem dX11_comes_36 : decode cX11_comes 36 = .ok (.ifCond .eq 7, 3) := by decide +kernel
theorem dX11_comes_39 : decode cX11_comes 39 = .ok (.iconst 1, 1) := by decide +kernel
theorem dX11_comes_40 : decode cX11_comes 40 = .ok (.goto 4, 3) := by decide +kernel
theorem dX11_comes_43 : decode cX11_comes 43 = .ok (.iconst 0, 1) := by decide +kernel
theorem dX11_comes_44 : decode cX11_comes 44 = .ok (.ireturn, 1) := by decide +kernel
theorem dX11_lot_0 : decode cX11_lot 0 = .ok (.aload_n 0, 1) := by decide +kernel
theorem dX11_lot_1 : decode cX11_lot 1 = .ok (.getfield 10, 3) := by decide +kernel
theorem dX11_lot_4 : decode cX11_lot 4 = .ok (.invokevirtual 188, 3) := by decide +kernel
theorem dX11_lot_7 : decode cX11_lot 7 = .ok (.ifCond .ne 6, 3) := by decide +kernel
theorem dX11_lot_10 : decode cX11_lot 10 = .ok (.bipush (-3), 2) := by decide +kernel
theorem dX11_lot_12 : decode cX11_lot 12 = .ok (.ireturn, 1) := by decide +kernel
theorem dX11_lot_13 : decode cX11_lot 13 = .ok (.aload_n 0, 1) := by decide +kernel
theorem dX11_lot_14 : decode cX11_lot 14 = .ok (.getfield 10, 3) := by decide +kernel
theorem dX11_lot_17 : decode cX11_lot 17 = .ok (.getfield 171, 3) := by decide +kernel
theorem dX11_lot_20 : decode cX11_lot 20 = .ok (.iconst 3, 1) := by decide +kernel
theorem dX11_lot_21 : decode cX11_lot 21 = .ok (.iaload, 1) := by decide +kernel
theorem dX11_lot_22 : decode cX11_lot 22 = .ok (.sipush 999, 3) := by decide +kernel
theorem dX11_lot_25 : decode cX11_lot 25 = .ok (.if_icmp .lt 6, 3) := by decide +kernel
theorem dX11_lot_28 : decode cX11_lot 28 = .ok (.bipush (-4), 2) := by decide +kernel
theorem dX11_lot_30 : decode cX11_lot 30 = .ok (.ireturn, 1) := by decide +kernel
theorem dX11_lot_31 : decode cX11_lot 31 = .ok (.aload_n 0, 1) := by decide +kernel
theorem dX11_lot_32 : decode cX11_lot 32 = .ok (.getfield 10, 3) := by decide +kernel
theorem dX11_lot_35 : decode cX11_lot 35 = .ok (.aload_n 0, 1) := by decide +kernel
theorem dX11_lot_36 : decode cX11_lot 36 = .ok (.getfield 10, 3) := by decide +kernel
theorem dX11_lot_39 : decode cX11_lot 39 = .ok (.getfield 114, 3) := by decide +kernel
theorem dX11_lot_42 : decode cX11_lot 42 = .ok (.invokestatic 191, 3) := by decide +kernel
theorem dX11_lot_45 : decode cX11_lot 45 = .ok (.putfield 114, 3) := by decide +kernel
theorem dX11_lot_48 : decode cX11_lot 48 = .ok (.aload_n 0, 1) := by decide +kernel
theorem dX11_lot_49 : decode cX11_lot 49 = .ok (.getfield 10, 3) := by decide +kernel
theorem dX11_lot_52 : decode cX11_lot 52 = .ok (.aload_n 0, 1) := by decide +kernel
theorem dX11_lot_53 : decode cX11_lot 53 = .ok (.getfield 10, 3) := by decide +kernel
theorem dX11_lot_56 : decode cX11_lot 56 = .ok (.getfield 114, 3) := by decide +kernel
theorem dX11_lot_59 : decode cX11_lot 59 = .ok (.invokevirtual 194, 3) := by decide +kernel
theorem dX11_lot_62 : decode cX11_lot 62 = .ok (.istore_n 1, 1) := by decide +kernel
theorem dX11_lot_63 : decode cX11_lot 63 = .ok (.aload_n 0, 1) := by decide +kernel
theorem dX11_lot_64 : decode cX11_lot 64 = .ok (.getfield 10, 3) := by decide +kernel
theorem dX11_lot_67 : decode cX11_lot 67 = .ok (.iload_n 1, 1) := by decide +kernel
theorem dX11_lot_68 : decode cX11_lot 68 = .ok (.invokevirtual 185, 3) := by decide +kernel
theorem dX11_lot_71 : decode cX11_lot 71 = .ok (.pop, 1) := by decide +kernel
theorem dX11_lot_72 : decode cX11_lot 72 = .ok (.iload_n 1, 1) := by decide +kernel
theorem dX11_lot_73 : decode cX11_lot 73 = .ok (.ireturn, 1) := by decide +kernel
theorem dX11_had_0 : decode cX11_had 0 = .ok (.aload_n 0, 1) := by decide +kernel
theorem dX11_had_1 : decode cX11_had 1 = .ok (.iload_n 1, 1) := by decide +kernel
theorem dX11_had_2 : decode cX11_had 2 = .ok (.invokevirtual 131, 3) := by decide +kernel
theorem dX11_had_5 : decode cX11_had 5 = .ok (.ifCond .eq 18, 3) := by decide +kernel
theorem dX11_had_8 : decode cX11_had 8 = .ok (.aload_n 0, 1) := by decide +kernel
theorem dX11_had_9 : decode cX11_had 9 = .ok (.getfield 10, 3) := by decide +kernel
theorem dX11_had_12 : decode cX11_had 12 = .ok (.getfield 197, 3) := by decide +kernel
theorem dX11_had_15 : decode cX11_had 15 = .ok (.iload_n 1, 1) := by decide +kernel
theorem dX11_had_16 : decode cX11_had 16 = .ok (.iaload, 1) := by decide +kernel
theorem dX11_had_17 : decode cX11_had 17 = .ok (.ldc 200, 2) := by decide +kernel
theorem dX11_had_19 : decode cX11_had 19 = .ok (.iadd, 1) := by decide +kernel
theorem dX11_had_20 : decode cX11_had 20 = .ok (.goto 4, 3) := by decide +kernel
theorem dX11_had_23 : decode cX11_had 23 = .ok (.iconst (-1), 1) := by decide +kernel
theorem dX11_had_24 : decode cX11_had 24 = .ok (.ireturn, 1) := by decide +kernel
theorem dX11_seed_0 : decode cX11_seed 0 = .ok (.aload_n 0, 1) := by decide +kernel
theorem dX11_seed_1 : decode cX11_seed 1 = .ok (.getfield 10, 3) := by decide +kernel
theorem dX11_seed_4 : decode cX11_seed 4 = .ok (.getfield 114, 3) := by decide +kernel
theorem dX11_seed_7 : decode cX11_seed 7 = .ok (.istore_n 2, 1) := by decide +kernel
theorem dX11_seed_8 : decode cX11_seed 8 = .ok (.aload_n 0, 1) := by decide +kernel
theorem dX11_seed_9 : decode cX11_seed 9 = .ok (.getfield 10, 3) := by decide +kernel
theorem dX11_seed_12 : decode cX11_seed 12 = .ok (.iload_n 1, 1) := by decide +kernel
theorem dX11_seed_13 : decode cX11_seed 13 = .ok (.putfield 114, 3) := by decide +kernel
theorem dX11_seed_16 : decode cX11_seed 16 = .ok (.iload_n 2, 1) := by decide +kernel
theorem dX11_seed_17 : decode cX11_seed 17 = .ok (.ireturn, 1) := by decide +kernel
theorem dX11_value_0 : decode cX11_value 0 = .ok (.aload_n 0, 1) := by decide +kernel
theorem dX11_value_1 : decode cX11_value 1 = .ok (.iload_n 1, 1) := by decide +kernel
theorem dX11_value_2 : decode cX11_value 2 = .ok (.invokevirtual 131, 3) := by decide +kernel
theorem dX11_value_5 : decode cX11_value 5 = .ok (.ifCond .eq 21, 3) := by decide +kernel
theorem dX11_value_8 : decode cX11_value 8 = .ok (.iload_n 2, 1) := by decide +kernel
theorem dX11_value_9 : decode cX11_value 9 = .ok (.iconst 0, 1) := by decide +kernel
theorem dX11_value_10 : decode cX11_value 10 = .ok (.iconst 3, 1) := by decide +kernel
theorem dX11_value_11 : decode cX11_value 11 = .ok (.invokestatic 103, 3) := by decide +kernel
theorem dX11_value_14 : decode cX11_value 14 = .ok (.ifCond .eq 12, 3) := by decide +kernel
theorem dX11_value_17 : decode cX11_value 17 = .ok (.iload_n 3, 1) := by decide +kernel
theorem dX11_value_18 : decode cX11_value 18 = .ok (.iconst 0, 1) := by decide +kernel
theorem dX11_value_19 : decode cX11_value 19 = .ok (.iconst 1, 1) := by decide +kernel
theorem dX11_value_20 : decode cX11_value 20 = .ok (.invokestatic 103, 3) := by decide +kernel
theorem dX11_value_23 : decode cX11_value 23 = .ok (.ifCond .ne 7, 3) := by decide +kernel
theorem dX11_value_26 : decode cX11_value 26 = .ok (.ldc2_w 201, 3) := by decide +kernel
theorem dX11_value_29 : decode cX11_value 29 = .ok (.lreturn, 1) := by decide +kernel
theorem dX11_value_30 : decode cX11_value 30 = .ok (.aload_n 0, 1) := by decide +kernel
theorem dX11_value_31 : decode cX11_value 31 = .ok (.getfield 26, 3) := by decide +kernel
theorem dX11_value_34 : decode cX11_value 34 = .ok (.aload_n 0, 1) := by decide +kernel
theorem dX11_value_35 : decode cX11_value 35 = .ok (.getfield 10, 3) := by decide +kernel
theorem dX11_value_38 : decode cX11_value 38 = .ok (.iload_n 1, 1) := by decide +kernel
theorem dX11_value_39 : decode cX11_value 39 = .ok (.invokevirtual 203, 3) := by decide +kernel
theorem dX11_value_42 : decode cX11_value 42 = .ok (.aload_n 0, 1) := by decide +kernel
theorem dX11_value_43 : decode cX11_value 43 = .ok (.getfield 26, 3) := by decide +kernel
theorem dX11_value_46 : decode cX11_value 46 = .ok (.iload_n 2, 1) := by decide +kernel
theorem dX11_value_47 : decode cX11_value 47 = .ok (.invokevirtual 207, 3) := by decide +kernel
theorem dX11_value_50 : decode cX11_value 50 = .ok (.aload_n 0, 1) := by decide +kernel
theorem dX11_value_51 : decode cX11_value 51 = .ok (.getfield 26, 3) := by decide +kernel
theorem dX11_value_54 : decode cX11_value 54 = .ok (.getfield 211, 3) := by decide +kernel
theorem dX11_value_57 : decode cX11_value 57 = .ok (.iload_n 2, 1) := by decide +kernel
theorem dX11_value_58 : decode cX11_value 58 = .ok (.laload, 1) := by decide +kernel
theorem dX11_value_59 : decode cX11_value 59 = .ok (.iload_n 3, 1) := by decide +kernel
theorem dX11_value_60 : decode cX11_value 60 = .ok (.invokestatic 215, 3) := by decide +kernel
theorem dX11_value_63 : decode cX11_value 63 = .ok (.lreturn, 1) := by decide +kernel
theorem dX11_best_0 : decode cX11_best 0 = .ok (.aload_n 0, 1) := by decide +kernel
theorem dX11_best_1 : decode cX11_best 1 = .ok (.iload_n 1, 1) := by decide +kernel
theorem dX11_best_2 : decode cX11_best 2 = .ok (.invokevirtual 131, 3) := by decide +kernel
theorem dX11_best_5 : decode cX11_best 5 = .ok (.ifCond .eq 21, 3) := by decide +kernel
theorem dX11_best_8 : decode cX11_best 8 = .ok (.iload_n 2, 1) := by decide +kernel
theorem dX11_best_9 : decode cX11_best 9 = .ok (.iconst 0, 1) := by decide +kernel
theorem dX11_best_10 : decode cX11_best 10 = .ok (.iconst 3, 1) := by decide +kernel
theorem dX11_best_11 : decode cX11_best 11 = .ok (.invokestatic 103, 3) := by decide +kernel
theorem dX11_best_14 : decode cX11_best 14 = .ok (.ifCond .eq 12, 3) := by decide +kernel
theorem dX11_best_17 : decode cX11_best 17 = .ok (.iload_n 3, 1) := by decide +kernel
theorem dX11_best_18 : decode cX11_best 18 = .ok (.iconst 0, 1) := by decide +kernel
theorem dX11_best_19 : decode cX11_best 19 = .ok (.iconst 1, 1) := by decide +kernel
theorem dX11_best_20 : decode cX11_best 20 = .ok (.invokestatic 103, 3) := by decide +kernel
theorem dX11_best_23 : decode cX11_best 23 = .ok (.ifCond .ne 7, 3) := by decide +kernel
theorem dX11_best_26 : decode cX11_best 26 = .ok (.ldc2_w 201, 3) := by decide +kernel
theorem dX11_best_29 : decode cX11_best 29 = .ok (.lreturn, 1) := by decide +kernel
theorem dX11_best_30 : decode cX11_best 30 = .ok (.aload_n 0, 1) := by decide +kernel
theorem dX11_best_31 : decode cX11_best 31 = .ok (.getfield 26, 3) := by decide +kernel
theorem dX11_best_34 : decode cX11_best 34 = .ok (.aload_n 0, 1) := by decide +kernel
theorem dX11_best_35 : decode cX11_best 35 = .ok (.getfield 10, 3) := by decide +kernel
theorem dX11_best_38 : decode cX11_best 38 = .ok (.iload_n 1, 1) := by decide +kernel
theorem dX11_best_39 : decode cX11_best 39 = .ok (.invokevirtual 203, 3) := by decide +kernel
theorem dX11_best_42 : decode cX11_best 42 = .ok (.aload_n 0, 1) := by decide +kernel
theorem dX11_best_43 : decode cX11_best 43 = .ok (.getfield 26, 3) := by decide +kernel
theorem dX11_best_46 : decode cX11_best 46 = .ok (.iload_n 2, 1) := by decide +kernel
theorem dX11_best_47 : decode cX11_best 47 = .ok (.invokevirtual 219, 3) := by decide +kernel
theorem dX11_best_50 : decode cX11_best 50 = .ok (.aload_n 0, 1) := by decide +kernel
theorem dX11_best_51 : decode cX11_best 51 = .ok (.getfield 26, 3) := by decide +kernel
theorem dX11_best_54 : decode cX11_best 54 = .ok (.getfield 211, 3) := by decide +kernel
theorem dX11_best_57 : decode cX11_best 57 = .ok (.iload_n 2, 1) := by decide +kernel
theorem dX11_best_58 : decode cX11_best 58 = .ok (.laload, 1) := by decide +kernel
theorem dX11_best_59 : decode cX11_best 59 = .ok (.iload_n 3, 1) := by decide +kernel
theorem dX11_best_60 : decode cX11_best 60 = .ok (.invokestatic 215, 3) := by decide +kernel
theorem dX11_best_63 : decode cX11_best 63 = .ok (.lreturn, 1) := by decide +kernel
theorem dX11_should_0 : decode cX11_should 0 = .ok (.aload_n 0, 1) := by decide +kernel
theorem dX11_should_1 : decode cX11_should 1 = .ok (.iload_n 1, 1) := by decide +kernel
theorem dX11_should_2 : decode cX11_should 2 = .ok (.invokevirtual 131, 3) := by decide +kernel
theorem dX11_should_5 : decode cX11_should 5 = .ok (.ifCond .eq 20, 3) := by decide +kernel
theorem dX11_should_8 : decode cX11_should 8 = .ok (.aload_n 0, 1) := by decide +kernel
theorem dX11_should_9 : decode cX11_should 9 = .ok (.iload_n 2, 1) := by decide +kernel
theorem dX11_should_10 : decode cX11_should 10 = .ok (.invokevirtual 158, 3) := by decide +kernel
theorem dX11_should_13 : decode cX11_should 13 = .ok (.ifCond .eq 12, 3) := by decide +kernel
theorem dX11_should_16 : decode cX11_should 16 = .ok (.iload_n 3, 1) := by decide +kernel
theorem dX11_should_17 : decode cX11_should 17 = .ok (.iconst 0, 1) := by decide +kernel
theorem dX11_should_18 : decode cX11_should 18 = .ok (.iconst 2, 1) := by decide +kernel
theorem dX11_should_19 : decode cX11_should 19 = .ok (.invokestatic 103, 3) := by decide +kernel
theorem dX11_should_22 : decode cX11_should 22 = .ok (.ifCond .ne 5, 3) := by decide +kernel
theorem dX11_should_25 : decode cX11_should 25 = .ok (.iconst (-1), 1) := by decide +kernel
theorem dX11_should_26 : decode cX11_should 26 = .ok (.ireturn, 1) := by decide +kernel
theorem dX11_should_27 : decode cX11_should 27 = .ok (.aload_n 0, 1) := by decide +kernel
theorem dX11_should_28 : decode cX11_should 28 = .ok (.getfield 10, 3) := by decide +kernel
theorem dX11_should_31 : decode cX11_should 31 = .ok (.getfield 144, 3) := by decide +kernel
theorem dX11_should_34 : decode cX11_should 34 = .ok (.iload_n 1, 1) := by decide +kernel
theorem dX11_should_35 : decode cX11_should 35 = .ok (.iaload, 1) := by decide +kernel
theorem dX11_should_36 : decode cX11_should 36 = .ok (.ifCond .ne 6, 3) := by decide +kernel
theorem dX11_should_39 : decode cX11_should 39 = .ok (.bipush (-3), 2) := by decide +kernel
theorem dX11_should_41 : decode cX11_should 41 = .ok (.ireturn, 1) := by decide +kernel
theorem dX11_should_42 : decode cX11_should 42 = .ok (.aload_n 0, 1) := by decide +kernel
theorem dX11_should_43 : decode cX11_should 43 = .ok (.getfield 26, 3) := by decide +kernel
theorem dX11_should_46 : decode cX11_should 46 = .ok (.aload_n 0, 1) := by decide +kernel
theorem dX11_should_47 : decode cX11_should 47 = .ok (.getfield 10, 3) := by decide +kernel
theorem dX11_should_50 : decode cX11_should 50 = .ok (.iload_n 1, 1) := by decide +kernel
theorem dX11_should_51 : decode cX11_should 51 = .ok (.invokevirtual 203, 3) := by decide +kernel
theorem dX11_should_54 : decode cX11_should 54 = .ok (.aload_n 0, 1) := by decide +kernel
theorem dX11_should_55 : decode cX11_should 55 = .ok (.getfield 26, 3) := by decide +kernel
theorem dX11_should_58 : decode cX11_should 58 = .ok (.iload_n 2, 1) := by decide +kernel
theorem dX11_should_59 : decode cX11_should 59 = .ok (.iload_n 3, 1) := by decide +kernel
theorem dX11_should_60 : decode cX11_should 60 = .ok (.iconst 1, 1) := by decide +kernel
theorem dX11_should_61 : decode cX11_should 61 = .ok (.iadd, 1) := by decide +kernel
theorem dX11_should_62 : decode cX11_should 62 = .ok (.invokevirtual 222, 3) := by decide +kernel
theorem dX11_should_65 : decode cX11_should 65 = .ok (.ifCond .eq 7, 3) := by decide +kernel
theorem dX11_should_68 : decode cX11_should 68 = .ok (.iconst 1, 1) := by decide +kernel
theorem dX11_should_69 : decode cX11_should 69 = .ok (.goto 4, 3) := by decide +kernel
theorem dX11_should_72 : decode cX11_should 72 = .ok (.iconst 0, 1) := by decide +kernel
theorem dX11_should_73 : decode cX11_should 73 = .ok (.ireturn, 1) := by decide +kernel
theorem dX11_barOf_0 : decode cX11_barOf 0 = .ok (.aload_n 0, 1) := by decide +kernel
theorem dX11_barOf_1 : decode cX11_barOf 1 = .ok (.iload_n 1, 1) := by decide +kernel
theorem dX11_barOf_2 : decode cX11_barOf 2 = .ok (.invokevirtual 131, 3) := by decide +kernel
theorem dX11_barOf_5 : decode cX11_barOf 5 = .ok (.ifCond .eq 12, 3) := by decide +kernel
theorem dX11_barOf_8 : decode cX11_barOf 8 = .ok (.iload_n 2, 1) := by decide +kernel
theorem dX11_barOf_9 : decode cX11_barOf 9 = .ok (.iconst 1, 1) := by decide +kernel
theorem dX11_barOf_10 : decode cX11_barOf 10 = .ok (.iconst 2, 1) := by decide +kernel
theorem dX11_barOf_11 : decode cX11_barOf 11 = .ok (.invokestatic 103, 3) := by decide +kernel
theorem dX11_barOf_14 : decode cX11_barOf 14 = .ok (.ifCond .ne 5, 3) := by decide +kernel
theorem dX11_barOf_17 : decode cX11_barOf 17 = .ok (.iconst (-1), 1) := by decide +kernel
theorem dX11_barOf_18 : decode cX11_barOf 18 = .ok (.ireturn, 1) := by decide +kernel
theorem dX11_barOf_19 : decode cX11_barOf 19 = .ok (.aload_n 0, 1) := by decide +kernel
theorem dX11_barOf_20 : decode cX11_barOf 20 = .ok (.getfield 26, 3) := by decide +kernel
theorem dX11_barOf_23 : decode cX11_barOf 23 = .ok (.aload_n 0, 1) := by decide +kernel
theorem dX11_barOf_24 : decode cX11_barOf 24 = .ok (.getfield 10, 3) := by decide +kernel
theorem dX11_barOf_27 : decode cX11_barOf 27 = .ok (.iload_n 1, 1) := by decide +kernel
theorem dX11_barOf_28 : decode cX11_barOf 28 = .ok (.invokevirtual 203, 3) := by decide +kernel
theorem dX11_barOf_31 : decode cX11_barOf 31 = .ok (.aload_n 0, 1) := by decide +kernel
theorem dX11_barOf_32 : decode cX11_barOf 32 = .ok (.getfield 26, 3) := by decide +kernel
theorem dX11_barOf_35 : decode cX11_barOf 35 = .ok (.iload_n 1, 1) := by decide +kernel
theorem dX11_barOf_36 : decode cX11_barOf 36 = .ok (.iload_n 2, 1) := by decide +kernel
theorem dX11_barOf_37 : decode cX11_barOf 37 = .ok (.invokevirtual 225, 3) := by decide +kernel
theorem dX11_barOf_40 : decode cX11_barOf 40 = .ok (.ireturn, 1) := by decide +kernel
theorem dX11_lets_0 : decode cX11_lets 0 = .ok (.aload_n 0, 1) := by decide +kernel
theorem dX11_lets_1 : decode cX11_lets 1 = .ok (.iload_n 1, 1) := by decide +kernel
theorem dX11_lets_2 : decode cX11_lets 2 = .ok (.invokevirtual 158, 3) := by decide +kernel
theorem dX11_lets_5 : decode cX11_lets 5 = .ok (.ifCond .eq 12, 3) := by decide +kernel
theorem dX11_lets_8 : decode cX11_lets 8 = .ok (.iload_n 2, 1) := by decide +kernel
theorem dX11_lets_9 : decode cX11_lets 9 = .ok (.iconst 0, 1) := by decide +kernel
theorem dX11_lets_10 : decode cX11_lets 10 = .ok (.iconst 1, 1) := by decide +kernel
theorem dX11_lets_11 : decode cX11_lets 11 = .ok (.invokestatic 103, 3) := by decide +kernel
theorem dX11_lets_14 : decode cX11_lets 14 = .ok (.ifCond .ne 5, 3) := by decide +kernel
theorem dX11_lets_17 : decode cX11_lets 17 = .ok (.iconst (-1), 1) := by decide +kernel
theorem dX11_lets_18 : decode cX11_lets 18 = .ok (.ireturn, 1) := by decide +kernel
theorem dX11_lets_19 : decode cX11_lets 19 = .ok (.aload_n 0, 1) := by decide +kernel
theorem dX11_lets_20 : decode cX11_lets 20 = .ok (.getfield 26, 3) := by decide +kernel
theorem dX11_lets_23 : decode cX11_lets 23 = .ok (.aload_n 0, 1) := by decide +kernel
theorem dX11_lets_24 : decode cX11_lets 24 = .ok (.getfield 10, 3) := by decide +kernel
theorem dX11_lets_27 : decode cX11_lets 27 = .ok (.iconst (-1), 1) := by decide +kernel
theorem dX11_lets_28 : decode cX11_lets 28 = .ok (.invokevirtual 203, 3) := by decide +kernel
theorem dX11_lets_31 : decode cX11_lets 31 = .ok (.iconst 0, 1) := by decide +kernel
theorem dX11_lets_32 : decode cX11_lets 32 = .ok (.istore_n 3, 1) := by decide +kernel
theorem dX11_lets_33 : decode cX11_lets 33 = .ok (.iload_n 3, 1) := by decide +kernel
theorem dX11_lets_34 : decode cX11_lets 34 = .ok (.iconst 3, 1) := by decide +kernel
theorem dX11_lets_35 : decode cX11_lets 35 = .ok (.if_icmp .gt 36, 3) := by decide +kernel
theorem dX11_lets_38 : decode cX11_lets 38 = .ok (.aload_n 0, 1) := by decide +kernel
theorem dX11_lets_39 : decode cX11_lets 39 = .ok (.getfield 26, 3) := by decide +kernel
theorem dX11_lets_42 : decode cX11_lets 42 = .ok (.iload_n 1, 1) := by decide +kernel
theorem dX11_lets_43 : decode cX11_lets 43 = .ok (.iload_n 3, 1) := by decide +kernel
theorem dX11_lets_44 : decode cX11_lets 44 = .ok (.invokevirtual 229, 3) := by decide +kernel
theorem dX11_lets_47 : decode cX11_lets 47 = .ok (.istore 4, 2) := by decide +kernel
theorem dX11_lets_49 : decode cX11_lets 49 = .ok (.iload 4, 2) := by decide +kernel
theorem dX11_lets_51 : decode cX11_lets 51 = .ok (.ifCond .lt 14, 3) := by decide +kernel
theorem dX11_lets_54 : decode cX11_lets 54 = .ok (.iload_n 2, 1) := by decide +kernel
theorem dX11_lets_55 : decode cX11_lets 55 = .ok (.ifCond .ne 7, 3) := by decide +kernel
theorem dX11_lets_58 : decode cX11_lets 58 = .ok (.iload_n 3, 1) := by decide +kernel
theorem dX11_lets_59 : decode cX11_lets 59 = .ok (.goto 5, 3) := by decide +kernel
theorem dX11_lets_62 : decode cX11_lets 62 = .ok (.iload 4, 2) := by decide +kernel
theorem dX11_lets_64 : decode cX11_lets 64 = .ok (.ireturn, 1) := by decide +kernel
theorem dX11_lets_65 : decode cX11_lets 65 = .ok (.iinc 3 1, 3) := by decide +kernel
theorem dX11_lets_68 : decode cX11_lets 68 = .ok (.goto (-35), 3) := by decide +kernel
theorem dX11_lets_71 : decode cX11_lets 71 = .ok (.bipush (-3), 2) := by decide +kernel
theorem dX11_lets_73 : decode cX11_lets 73 = .ok (.ireturn, 1) := by decide +kernel
theorem dX11_harm_0 : decode cX11_harm 0 = .ok (.iload_n 1, 1) := by decide +kernel
theorem dX11_harm_1 : decode cX11_harm 1 = .ok (.iconst 1, 1) := by decide +kernel
theorem dX11_harm_2 : decode cX11_harm 2 = .ok (.iconst 2, 1) := by decide +kernel
theorem dX11_harm_3 : decode cX11_harm 3 = .ok (.invokestatic 103, 3) := by decide +kernel
theorem dX11_harm_6 : decode cX11_harm 6 = .ok (.ifCond .ne 5, 3) := by decide +kernel
theorem dX11_harm_9 : decode cX11_harm 9 = .ok (.iconst (-1), 1) := by decide +kernel
theorem dX11_harm_10 : decode cX11_harm 10 = .ok (.ireturn, 1) := by decide +kernel
theorem dX11_harm_11 : decode cX11_harm 11 = .ok (.aload_n 0, 1) := by decide +kernel
theorem dX11_harm_12 : decode cX11_harm 12 = .ok (.getfield 26, 3) := by decide +kernel
theorem dX11_harm_15 : decode cX11_harm 15 = .ok (.aload_n 0, 1) := by decide +kernel
theorem dX11_harm_16 : decode cX11_harm 16 = .ok (.getfield 10, 3) := by decide +kernel
theorem dX11_harm_19 : decode cX11_harm 19 = .ok (.iconst (-1), 1) := by decide +kernel
theorem dX11_harm_20 : decode cX11_harm 20 = .ok (.invokevirtual 203, 3) := by decide +kernel
theorem dX11_harm_23 : decode cX11_harm 23 = .ok (.aload_n 0, 1) := by decide +kernel
theorem dX11_harm_24 : decode cX11_harm 24 = .ok (.getfield 26, 3) := by decide +kernel
theorem dX11_harm_27 : decode cX11_harm 27 = .ok (.iload_n 1, 1) := by decide +kernel
theorem dX11_harm_28 : decode cX11_harm 28 = .ok (.invokevirtual 232, 3) := by decide +kernel
theorem dX11_harm_31 : decode cX11_harm 31 = .ok (.ireturn, 1) := by decide +kernel
theorem dX11_spoilt_0 : decode cX11_spoilt 0 = .ok (.iload_n 1, 1) := by decide +kernel
theorem dX11_spoilt_1 : decode cX11_spoilt 1 = .ok (.iconst 0, 1) := by decide +kernel
theorem dX11_spoilt_2 : decode cX11_spoilt 2 = .ok (.iconst 3, 1) := by decide +kernel
theorem dX11_spoilt_3 : decode cX11_spoilt 3 = .ok (.invokestatic 103, 3) := by decide +kernel
theorem dX11_spoilt_6 : decode cX11_spoilt 6 = .ok (.ifCond .eq 12, 3) := by decide +kernel
theorem dX11_spoilt_9 : decode cX11_spoilt 9 = .ok (.iload_n 2, 1) := by decide +kernel
theorem dX11_spoilt_10 : decode cX11_spoilt 10 = .ok (.iconst 0, 1) := by decide +kernel
theorem dX11_spoilt_11 : decode cX11_spoilt 11 = .ok (.iconst 1, 1) := by decide +kernel
theorem dX11_spoilt_12 : decode cX11_spoilt 12 = .ok (.invokestatic 103, 3) := by decide +kernel
theorem dX11_spoilt_15 : decode cX11_spoilt 15 = .ok (.ifCond .ne 7, 3) := by decide +kernel
theorem dX11_spoilt_18 : decode cX11_spoilt 18 = .ok (.ldc2_w 235, 3) := by decide +kernel
theorem dX11_spoilt_21 : decode cX11_spoilt 21 = .ok (.lreturn, 1) := by decide +kernel
theorem dX11_spoilt_22 : decode cX11_spoilt 22 = .ok (.aload_n 0, 1) := by decide +kernel
theorem dX11_spoilt_23 : decode cX11_spoilt 23 = .ok (.getfield 26, 3) := by decide +kernel
theorem dX11_spoilt_26 : decode cX11_spoilt 26 = .ok (.aload_n 0, 1) := by decide +kernel
theorem dX11_spoilt_27 : decode cX11_spoilt 27 = .ok (.getfield 10, 3) := by decide +kernel
theorem dX11_spoilt_30 : decode cX11_spoilt 30 = .ok (.bipush (-2), 2) := by decide +kernel
theorem dX11_spoilt_32 : decode cX11_spoilt 32 = .ok (.invokevirtual 203, 3) := by decide +kernel
theorem dX11_spoilt_35 : decode cX11_spoilt 35 = .ok (.aload_n 0, 1) := by decide +kernel
theorem dX11_spoilt_36 : decode cX11_spoilt 36 = .ok (.getfield 26, 3) := by decide +kernel
theorem dX11_spoilt_39 : decode cX11_spoilt 39 = .ok (.iload_n 1, 1) := by decide +kernel
theorem dX11_spoilt_40 : decode cX11_spoilt 40 = .ok (.invokevirtual 207, 3) := by decide +kernel
theorem dX11_spoilt_43 : decode cX11_spoilt 43 = .ok (.aload_n 0, 1) := by decide +kernel
theorem dX11_spoilt_44 : decode cX11_spoilt 44 = .ok (.getfield 26, 3) := by decide +kernel
theorem dX11_spoilt_47 : decode cX11_spoilt 47 = .ok (.getfield 211, 3) := by decide +kernel
theorem dX11_spoilt_50 : decode cX11_spoilt 50 = .ok (.iload_n 1, 1) := by decide +kernel
theorem dX11_spoilt_51 : decode cX11_spoilt 51 = .ok (.laload, 1) := by decide +kernel
theorem dX11_spoilt_52 : decode cX11_spoilt 52 = .ok (.iload_n 2, 1) := by decide +kernel
theorem dX11_spoilt_53 : decode cX11_spoilt 53 = .ok (.invokestatic 215, 3) := by decide +kernel
theorem dX11_spoilt_56 : decode cX11_spoilt 56 = .ok (.lreturn, 1) := by decide +kernel
theorem dX11_prove_0 : decode cX11_prove 0 = .ok (.iload_n 1, 1) := by decide +kernel
theorem dX11_prove_1 : decode cX11_prove 1 = .ok (.iconst 1, 1) := by decide +kernel
theorem dX11_prove_2 : decode cX11_prove 2 = .ok (.bipush 12, 2) := by decide +kernel
theorem dX11_prove_4 : decode cX11_prove 4 = .ok (.invokestatic 103, 3) := by decide +kernel
theorem dX11_prove_7 : decode cX11_prove 7 = .ok (.ifCond .ne 5, 3) := by decide +kernel
theorem dX11_prove_10 : decode cX11_prove 10 = .ok (.iconst (-1), 1) := by decide +kernel
theorem dX11_prove_11 : decode cX11_prove 11 = .ok (.ireturn, 1) := by decide +kernel
theorem dX11_prove_12 : decode cX11_prove 12 = .ok (.aload_n 0, 1) := by decide +kernel
theorem dX11_prove_13 : decode cX11_prove 13 = .ok (.getfield 10, 3) := by decide +kernel
theorem dX11_prove_16 : decode cX11_prove 16 = .ok (.invokevirtual 188, 3) := by decide +kernel
theorem dX11_prove_19 : decode cX11_prove 19 = .ok (.ifCond .ne 6, 3) := by decide +kernel
theorem dX11_prove_22 : decode cX11_prove 22 = .ok (.bipush (-3), 2) := by decide +kernel
theorem dX11_prove_24 : decode cX11_prove 24 = .ok (.ireturn, 1) := by decide +kernel
theorem dX11_prove_25 : decode cX11_prove 25 = .ok (.aload_n 0, 1) := by decide +kernel
theorem dX11_prove_26 : decode cX11_prove 26 = .ok (.aload_n 0, 1) := by decide +kernel
theorem dX11_prove_27 : decode cX11_prove 27 = .ok (.getfield 47, 3) := by decide +kernel
theorem dX11_prove_30 : decode cX11_prove 30 = .ok (.iload_n 1, 1) := by decide +kernel
theorem dX11_prove_31 : decode cX11_prove 31 = .ok (.invokevirtual 237, 3) := by decide +kernel
theorem dX11_prove_34 : decode cX11_prove 34 = .ok (.aload_n 0, 1) := by decide +kernel
theorem dX11_prove_35 : decode cX11_prove 35 = .ok (.iload_n 1, 1) := by decide +kernel
theorem dX11_prove_36 : decode cX11_prove 36 = .ok (.putfield 53, 3) := by decide +kernel
theorem dX11_prove_39 : decode cX11_prove 39 = .ok (.iload_n 1, 1) := by decide +kernel
theorem dX11_prove_40 : decode cX11_prove 40 = .ok (.ireturn, 1) := by decide +kernel
theorem dX11_row_0 : decode cX11_row 0 = .ok (.aload_n 0, 1) := by decide +kernel
theorem dX11_row_1 : decode cX11_row 1 = .ok (.iload_n 1, 1) := by decide +kernel
theorem dX11_row_2 : decode cX11_row 2 = .ok (.iload_n 2, 1) := by decide +kernel
theorem dX11_row_3 : decode cX11_row 3 = .ok (.invokevirtual 241, 3) := by decide +kernel
theorem dX11_row_6 : decode cX11_row 6 = .ok (.ifCond .eq 14, 3) := by decide +kernel
theorem dX11_row_9 : decode cX11_row 9 = .ok (.aload_n 0, 1) := by decide +kernel
theorem dX11_row_10 : decode cX11_row 10 = .ok (.getfield 47, 3) := by decide +kernel
theorem dX11_row_13 : decode cX11_row 13 = .ok (.iload_n 1, 1) := by decide +kernel
theorem dX11_row_14 : decode cX11_row 14 = .ok (.aaload, 1) := by decide +kernel
theorem dX11_row_15 : decode cX11_row 15 = .ok (.iload_n 2, 1) := by decide +kernel
theorem dX11_row_16 : decode cX11_row 16 = .ok (.iaload, 1) := by decide +kernel
theorem dX11_row_17 : decode cX11_row 17 = .ok (.goto 5, 3) := by decide +kernel
theorem dX11_row_20 : decode cX11_row 20 = .ok (.bipush (-9), 2) := by decide +kernel
theorem dX11_row_22 : decode cX11_row 22 = .ok (.ireturn, 1) := by decide +kernel
theorem dX11_alterRow_0 : decode cX11_alterRow 0 = .ok (.aload_n 0, 1) := by decide +kernel
theorem dX11_alterRow_1 : decode cX11_alterRow 1 = .ok (.iload_n 1, 1) := by decide +kernel
theorem dX11_alterRow_2 : decode cX11_alterRow 2 = .ok (.iload_n 2, 1) := by decide +kernel
theorem dX11_alterRow_3 : decode cX11_alterRow 3 = .ok (.invokevirtual 241, 3) := by decide +kernel
theorem dX11_alterRow_6 : decode cX11_alterRow 6 = .ok (.ifCond .ne 6, 3) := by decide +kernel
theorem dX11_alterRow_9 : decode cX11_alterRow 9 = .ok (.bipush (-9), 2) := by decide +kernel
theorem dX11_alterRow_11 : decode cX11_alterRow 11 = .ok (.ireturn, 1) := by decide +kernel
theorem dX11_alterRow_12 : decode cX11_alterRow 12 = .ok (.aload_n 0, 1) := by decide +kernel
theorem dX11_alterRow_13 : decode cX11_alterRow 13 = .ok (.getfield 47, 3) := by decide +kernel
theorem dX11_alterRow_16 : decode cX11_alterRow 16 = .ok (.iload_n 1, 1) := by decide +kernel
theorem dX11_alterRow_17 : decode cX11_alterRow 17 = .ok (.aaload, 1) := by decide +kernel
theorem dX11_alterRow_18 : decode cX11_alterRow 18 = .ok (.iload_n 2, 1) := by decide +kernel
theorem dX11_alterRow_19 : decode cX11_alterRow 19 = .ok (.iaload, 1) := by decide +kernel
theorem dX11_alterRow_20 : decode cX11_alterRow 20 = .ok (.istore 4, 2) := by decide +kernel
theorem dX11_alterRow_22 : decode cX11_alterRow 22 = .ok (.aload_n 0, 1) := by decide +kernel
theorem dX11_alterRow_23 : decode cX11_alterRow 23 = .ok (.getfield 47, 3) := by decide +kernel
theorem dX11_alterRow_26 : decode cX11_alterRow 26 = .ok (.iload_n 1, 1) := by decide +kernel
theorem dX11_alterRow_27 : decode cX11_alterRow 27 = .ok (.aaload, 1) := by decide +kernel
theorem dX11_alterRow_28 : decode cX11_alterRow 28 = .ok (.iload_n 2, 1) := by decide +kernel
theorem dX11_alterRow_29 : decode cX11_alterRow 29 = .ok (.iload_n 3, 1) := by decide +kernel
theorem dX11_alterRow_30 : decode cX11_alterRow 30 = .ok (.iastore, 1) := by decide +kernel
theorem dX11_alterRow_31 : decode cX11_alterRow 31 = .ok (.iload 4, 2) := by decide +kernel
theorem dX11_alterRow_33 : decode cX11_alterRow 33 = .ok (.ireturn, 1) := by decide +kernel
theorem dX11_judge_0 : decode cX11_judge 0 = .ok (.aload_n 0, 1) := by decide +kernel
theorem dX11_judge_1 : decode cX11_judge 1 = .ok (.getfield 10, 3) := by decide +kernel
theorem dX11_judge_4 : decode cX11_judge 4 = .ok (.invokevirtual 188, 3) := by decide +kernel
theorem dX11_judge_7 : decode cX11_judge 7 = .ok (.ifCond .ne 6, 3) := by decide +kernel
theorem dX11_judge_10 : decode cX11_judge 10 = .ok (.bipush (-3), 2) := by decide +kernel
theorem dX11_judge_12 : decode cX11_judge 12 = .ok (.ireturn, 1) := by decide +kernel
theorem dX11_judge_13 : decode cX11_judge 13 = .ok (.aload_n 0, 1) := by decide +kernel
theorem dX11_judge_14 : decode cX11_judge 14 = .ok (.aload_n 0, 1) := by decide +kernel
theorem dX11_judge_15 : decode cX11_judge 15 = .ok (.getfield 50, 3) := by decide +kernel
theorem dX11_judge_18 : decode cX11_judge 18 = .ok (.aload_n 0, 1) := by decide +kernel
theorem dX11_judge_19 : decode cX11_judge 19 = .ok (.getfield 53, 3) := by decide +kernel
theorem dX11_judge_22 : decode cX11_judge 22 = .ok (.invokevirtual 237, 3) := by decide +kernel
theorem dX11_judge_25 : decode cX11_judge 25 = .ok (.iconst 0, 1) := by decide +kernel
theorem dX11_judge_26 : decode cX11_judge 26 = .ok (.istore_n 1, 1) := by decide +kernel
theorem dX11_judge_27 : decode cX11_judge 27 = .ok (.iload_n 1, 1) := by decide +kernel
theorem dX11_judge_28 : decode cX11_judge 28 = .ok (.aload_n 0, 1) := by decide +kernel
theorem dX11_judge_29 : decode cX11_judge 29 = .ok (.getfield 53, 3) := by decide +kernel
theorem dX11_judge_32 : decode cX11_judge 32 = .ok (.if_icmp .ge 45, 3) := by decide +kernel
theorem dX11_judge_35 : decode cX11_judge 35 = .ok (.iconst 0, 1) := by decide +kernel
theorem dX11_judge_36 : decode cX11_judge 36 = .ok (.istore_n 2, 1) := by decide +kernel
theorem dX11_judge_37 : decode cX11_judge 37 = .ok (.iload_n 2, 1) := by decide +kernel
theorem dX11_judge_38 : decode cX11_judge 38 = .ok (.iconst 3, 1) := by decide +kernel
theorem dX11_judge_39 : decode cX11_judge 39 = .ok (.if_icmp .ge 32, 3) := by decide +kernel
theorem dX11_judge_42 : decode cX11_judge 42 = .ok (.aload_n 0, 1) := by decide +kernel
theorem dX11_judge_43 : decode cX11_judge 43 = .ok (.getfield 47, 3) := by decide +kernel
theorem dX11_judge_46 : decode cX11_judge 46 = .ok (.iload_n 1, 1) := by decide +kernel
theorem dX11_judge_47 : decode cX11_judge 47 = .ok (.aaload, 1) := by decide +kernel
theorem dX11_judge_48 : decode cX11_judge 48 = .ok (.iload_n 2, 1) := by decide +kernel
theorem dX11_judge_49 : decode cX11_judge 49 = .ok (.iaload, 1) := by decide +kernel
theorem dX11_judge_50 : decode cX11_judge 50 = .ok (.aload_n 0, 1) := by decide +kernel
theorem dX11_judge_51 : decode cX11_judge 51 = .ok (.getfield 50, 3) := by decide +kernel
theorem dX11_judge_54 : decode cX11_judge 54 = .ok (.iload_n 1, 1) := by decide +kernel
theorem dX11_judge_55 : decode cX11_judge 55 = .ok (.aaload, 1) := by decide +kernel
theorem dX11_judge_56 : decode cX11_judge 56 = .ok (.iload_n 2, 1) := by decide +kernel
theorem dX11_judge_57 : decode cX11_judge 57 = .ok (.iaload, 1) := by decide +kernel
theorem dX11_judge_58 : decode cX11_judge 58 = .ok (.if_icmp .eq 7, 3) := by decide +kernel
theorem dX11_judge_61 : decode cX11_judge 61 = .ok (.iload_n 1, 1) := by decide +kernel
theorem dX11_judge_62 : decode cX11_judge 62 = .ok (.iconst 1, 1) := by decide +kernel
theorem dX11_judge_63 : decode cX11_judge 63 = .ok (.iadd, 1) := by decide +kernel
theorem dX11_judge_64 : decode cX11_judge 64 = .ok (.ireturn, 1) := by decide +kernel
theorem dX11_judge_65 : decode cX11_judge 65 = .ok (.iinc 2 1, 3) := by decide +kernel
theorem dX11_judge_68 : decode cX11_judge 68 = .ok (.goto (-31), 3) := by decide +kernel
theorem dX11_judge_71 : decode cX11_judge 71 = .ok (.iinc 1 1, 3) := by decide +kernel
theorem dX11_judge_74 : decode cX11_judge 74 = .ok (.goto (-47), 3) := by decide +kernel
theorem dX11_judge_77 : decode cX11_judge 77 = .ok (.iconst 0, 1) := by decide +kernel
theorem dX11_judge_78 : decode cX11_judge 78 = .ok (.ireturn, 1) := by decide +kernel
theorem dX11_worths_0 : decode cX11_worths 0 = .ok (.aload_n 0, 1) := by decide +kernel
theorem dX11_worths_1 : decode cX11_worths 1 = .ok (.iload_n 1, 1) := by decide +kernel
theorem dX11_worths_2 : decode cX11_worths 2 = .ok (.invokevirtual 158, 3) := by decide +kernel
theorem dX11_worths_5 : decode cX11_worths 5 = .ok (.ifCond .eq 12, 3) := by decide +kernel
theorem dX11_worths_8 : decode cX11_worths 8 = .ok (.iload_n 2, 1) := by decide +kernel
theorem dX11_worths_9 : decode cX11_worths 9 = .ok (.iconst 0, 1) := by decide +kernel
theorem dX11_worths_10 : decode cX11_worths 10 = .ok (.iconst 3, 1) := by decide +kernel
theorem dX11_worths_11 : decode cX11_worths 11 = .ok (.invokestatic 103, 3) := by decide +kernel
theorem dX11_worths_14 : decode cX11_worths 14 = .ok (.ifCond .ne 5, 3) := by decide +kernel
theorem dX11_worths_17 : decode cX11_worths 17 = .ok (.iconst (-1), 1) := by decide +kernel
theorem dX11_worths_18 : decode cX11_worths 18 = .ok (.ireturn, 1) := by decide +kernel
theorem dX11_worths_19 : decode cX11_worths 19 = .ok (.aload_n 0, 1) := by decide +kernel
theorem dX11_worths_20 : decode cX11_worths 20 = .ok (.getfield 58, 3) := by decide +kernel
theorem dX11_worths_23 : decode cX11_worths 23 = .ok (.iload_n 2, 1) := by decide +kernel
theorem dX11_worths_24 : decode cX11_worths 24 = .ok (.aaload, 1) := by decide +kernel
theorem dX11_worths_25 : decode cX11_worths 25 = .ok (.astore_n 3, 1) := by decide +kernel
theorem dX11_worths_26 : decode cX11_worths 26 = .ok (.aload_n 3, 1) := by decide +kernel
theorem dX11_worths_27 : decode cX11_worths 27 = .ok (.getfield 244, 3) := by decide +kernel
theorem dX11_worths_30 : decode cX11_worths 30 = .ok (.iconst (-1), 1) := by decide +kernel
theorem dX11_worths_31 : decode cX11_worths 31 = .ok (.if_icmp .ne 6, 3) := by decide +kernel
theorem dX11_worths_34 : decode cX11_worths 34 = .ok (.bipush (-11), 2) := by decide +kernel
theorem dX11_worths_36 : decode cX11_worths 36 = .ok (.ireturn, 1) := by decide +kernel
theorem dX11_worths_37 : decode cX11_worths 37 = .ok (.aload_n 3, 1) := by decide +kernel
theorem dX11_worths_38 : decode cX11_worths 38 = .ok (.getfield 244, 3) := by decide +kernel
theorem dX11_worths_41 : decode cX11_worths 41 = .ok (.iconst 2, 1) := by decide +kernel
theorem dX11_worths_42 : decode cX11_worths 42 = .ok (.if_icmp .eq 6, 3) := by decide +kernel
theorem dX11_worths_45 : decode cX11_worths 45 = .ok (.bipush (-13), 2) := by decide +kernel
theorem dX11_worths_47 : decode cX11_worths 47 = .ok (.ireturn, 1) := by decide +kernel
theorem dX11_worths_48 : decode cX11_worths 48 = .ok (.aload_n 3, 1) := by decide +kernel
theorem dX11_worths_49 : decode cX11_worths 49 = .ok (.getfield 247, 3) := by decide +kernel
theorem dX11_worths_52 : decode cX11_worths 52 = .ok (.aload_n 0, 1) := by decide +kernel
theorem dX11_worths_53 : decode cX11_worths 53 = .ok (.getfield 10, 3) := by decide +kernel
theorem dX11_worths_56 : decode cX11_worths 56 = .ok (.getfield 124, 3) := by decide +kernel
theorem dX11_worths_59 : decode cX11_worths 59 = .ok (.invokestatic 250, 3) := by decide +kernel
theorem dX11_worths_62 : decode cX11_worths 62 = .ok (.istore 4, 2) := by decide +kernel
theorem dX11_worths_64 : decode cX11_worths 64 = .ok (.iconst 0, 1) := by decide +kernel
theorem dX11_worths_65 : decode cX11_worths 65 = .ok (.istore 5, 2) := by decide +kernel
theorem dX11_worths_67 : decode cX11_worths 67 = .ok (.iload 5, 2) := by decide +kernel
theorem dX11_worths_69 : decode cX11_worths 69 = .ok (.iload 4, 2) := by decide +kernel
theorem dX11_worths_71 : decode cX11_worths 71 = .ok (.if_icmp .ge 38, 3) := by decide +kernel
theorem dX11_worths_74 : decode cX11_worths 74 = .ok (.aload_n 0, 1) := by decide +kernel
theorem dX11_worths_75 : decode cX11_worths 75 = .ok (.getfield 10, 3) := by decide +kernel
theorem dX11_worths_78 : decode cX11_worths 78 = .ok (.getfield 164, 3) := by decide +kernel
theorem dX11_worths_81 : decode cX11_worths 81 = .ok (.iload_n 1, 1) := by decide +kernel
theorem dX11_worths_82 : decode cX11_worths 82 = .ok (.aaload, 1) := by decide +kernel
theorem dX11_worths_83 : decode cX11_worths 83 = .ok (.iload 5, 2) := by decide +kernel
theorem dX11_worths_85 : decode cX11_worths 85 = .ok (.bipush (-9), 2) := by decide +kernel
theorem dX11_worths_87 : decode cX11_worths 87 = .ok (.bipush 9, 2) := by decide +kernel
theorem dX11_worths_89 : decode cX11_worths 89 = .ok (.aload_n 3, 1) := by decide +kernel
theorem dX11_worths_90 : decode cX11_worths 90 = .ok (.getfield 255, 3) := by decide +kernel
theorem dX11_worths_93 : decode cX11_worths 93 = .ok (.iload 5, 2) := by decide +kernel
theorem dX11_worths_95 : decode cX11_worths 95 = .ok (.iaload, 1) := by decide +kernel
theorem dX11_worths_96 : decode cX11_worths 96 = .ok (.invokestatic 250, 3) := by decide +kernel
theorem dX11_worths_99 : decode cX11_worths 99 = .ok (.invokestatic 258, 3) := by decide +kernel
theorem dX11_worths_102 : decode cX11_worths 102 = .ok (.iastore, 1) := by decide +kernel
theorem dX11_worths_103 : decode cX11_worths 103 = .ok (.iinc 5 1, 3) := by decide +kernel
theorem dX11_worths_106 : decode cX11_worths 106 = .ok (.goto (-39), 3) := by decide +kernel
theorem dX11_worths_109 : decode cX11_worths 109 = .ok (.iload 4, 2) := by decide +kernel
theorem dX11_worths_111 : decode cX11_worths 111 = .ok (.ireturn, 1) := by decide +kernel
theorem dX11_sheet_0 : decode cX11_sheet 0 = .ok (.iload_n 1, 1) := by decide +kernel
theorem dX11_sheet_1 : decode cX11_sheet 1 = .ok (.iconst 0, 1) := by decide +kernel
theorem dX11_sheet_2 : decode cX11_sheet 2 = .ok (.iconst 3, 1) := by decide +kernel
theorem dX11_sheet_3 : decode cX11_sheet 3 = .ok (.invokestatic 103, 3) := by decide +kernel
theorem dX11_sheet_6 : decode cX11_sheet 6 = .ok (.ifCond .eq 12, 3) := by decide +kernel
theorem dX11_sheet_9 : decode cX11_sheet 9 = .ok (.iload_n 2, 1) := by decide +kernel
theorem dX11_sheet_10 : decode cX11_sheet 10 = .ok (.iconst (-1), 1) := by decide +kernel
theorem dX11_sheet_11 : decode cX11_sheet 11 = .ok (.iconst 3, 1) := by decide +kernel
theorem dX11_sheet_12 : decode cX11_sheet 12 = .ok (.invokestatic 103, 3) := by decide +kernel
theorem dX11_sheet_15 : decode cX11_sheet 15 = .ok (.ifCond .ne 5, 3) := by decide +kernel
theorem dX11_sheet_18 : decode cX11_sheet 18 = .ok (.iconst (-1), 1) := by decide +kernel
theorem dX11_sheet_19 : decode cX11_sheet 19 = .ok (.ireturn, 1) := by decide +kernel
theorem dX11_sheet_20 : decode cX11_sheet 20 = .ok (.iload_n 2, 1) := by decide +kernel
theorem dX11_sheet_21 : decode cX11_sheet 21 = .ok (.iconst (-1), 1) := by decide +kernel
theorem dX11_sheet_22 : decode cX11_sheet 22 = .ok (.if_icmp .ne 16, 3) := by decide +kernel
theorem dX11_sheet_25 : decode cX11_sheet 25 = .ok (.aload_n 0, 1) := by decide +kernel
theorem dX11_sheet_26 : decode cX11_sheet 26 = .ok (.getfield 58, 3) := by decide +kernel
theorem dX11_sheet_29 : decode cX11_sheet 29 = .ok (.iload_n 1, 1) := by decide +kernel
theorem dX11_sheet_30 : decode cX11_sheet 30 = .ok (.aaload, 1) := by decide +kernel
theorem dX11_sheet_31 : decode cX11_sheet 31 = .ok (.iconst (-1), 1) := by decide +kernel
theorem dX11_sheet_32 : decode cX11_sheet 32 = .ok (.iconst 0, 1) := by decide +kernel
theorem dX11_sheet_33 : decode cX11_sheet 33 = .ok (.invokevirtual 261, 3) := by decide +kernel
theorem dX11_sheet_36 : decode cX11_sheet 36 = .ok (.iconst 1, 1) := by decide +kernel
theorem dX11_sheet_37 : decode cX11_sheet 37 = .ok (.ireturn, 1) := by decide +kernel
theorem dX11_sheet_38 : decode cX11_sheet 38 = .ok (.iload_n 3, 1) := by decide +kernel
theorem dX11_sheet_39 : decode cX11_sheet 39 = .ok (.bipush 40, 2) := by decide +kernel
theorem dX11_sheet_41 : decode cX11_sheet 41 = .ok (.if_icmp .le 5, 3) := by decide +kernel
theorem dX11_sheet_44 : decode cX11_sheet 44 = .ok (.iconst (-1), 1) := by decide +kernel
theorem dX11_sheet_45 : decode cX11_sheet 45 = .ok (.ireturn, 1) := by decide +kernel
theorem dX11_sheet_46 : decode cX11_sheet 46 = .ok (.iload_n 3, 1) := by decide +kernel
theorem dX11_sheet_47 : decode cX11_sheet 47 = .ok (.ifCond .ge 6, 3) := by decide +kernel
theorem dX11_sheet_50 : decode cX11_sheet 50 = .ok (.bipush (-14), 2) := by decide +kernel
theorem dX11_sheet_52 : decode cX11_sheet 52 = .ok (.ireturn, 1) := by decide +kernel
theorem dX11_sheet_53 : decode cX11_sheet 53 = .ok (.aload_n 0, 1) := by decide +kernel
theorem dX11_sheet_54 : decode cX11_sheet 54 = .ok (.getfield 58, 3) := by decide +kernel
theorem dX11_sheet_57 : decode cX11_sheet 57 = .ok (.iload_n 1, 1) := by decide +kernel
theorem dX11_sheet_58 : decode cX11_sheet 58 = .ok (.aaload, 1) := by decide +kernel
theorem dX11_sheet_59 : decode cX11_sheet 59 = .ok (.iload_n 2, 1) := by decide +kernel
theorem dX11_sheet_60 : decode cX11_sheet 60 = .ok (.iload_n 3, 1) := by decide +kernel
theorem dX11_sheet_61 : decode cX11_sheet 61 = .ok (.invokevirtual 261, 3) := by decide +kernel
theorem dX11_sheet_64 : decode cX11_sheet 64 = .ok (.iconst 1, 1) := by decide +kernel
theorem dX11_sheet_65 : decode cX11_sheet 65 = .ok (.ireturn, 1) := by decide +kernel
theorem dX11_put_0 : decode cX11_put 0 = .ok (.iload_n 1, 1) := by decide +kernel
theorem dX11_put_1 : decode cX11_put 1 = .ok (.iconst 0, 1) := by decide +kernel
theorem dX11_put_2 : decode cX11_put 2 = .ok (.iconst 3, 1) := by decide +kernel
theorem dX11_put_3 : decode cX11_put 3 = .ok (.invokestatic 103, 3) := by decide +kernel
theorem dX11_put_6 : decode cX11_put 6 = .ok (.ifCond .ne 5, 3) := by decide +kernel
theorem dX11_put_9 : decode cX11_put 9 = .ok (.iconst (-1), 1) := by decide +kernel
theorem dX11_put_10 : decode cX11_put 10 = .ok (.ireturn, 1) := by decide +kernel
theorem dX11_put_11 : decode cX11_put 11 = .ok (.aload_n 0, 1) := by decide +kernel
theorem dX11_put_12 : decode cX11_put 12 = .ok (.getfield 58, 3) := by decide +kernel
theorem dX11_put_15 : decode cX11_put 15 = .ok (.iload_n 1, 1) := by decide +kernel
theorem dX11_put_16 : decode cX11_put 16 = .ok (.aaload, 1) := by decide +kernel
theorem dX11_put_17 : decode cX11_put 17 = .ok (.astore 4, 2) := by decide +kernel
theorem dX11_put_19 : decode cX11_put 19 = .ok (.aload 4, 2) := by decide +kernel
theorem dX11_put_21 : decode cX11_put 21 = .ok (.getfield 244, 3) := by decide +kernel
theorem dX11_put_24 : decode cX11_put 24 = .ok (.iconst (-1), 1) := by decide +kernel
theorem dX11_put_25 : decode cX11_put 25 = .ok (.if_icmp .ne 6, 3) := by decide +kernel
theorem dX11_put_28 : decode cX11_put 28 = .ok (.bipush (-11), 2) := by decide +kernel
theorem dX11_put_30 : decode cX11_put 30 = .ok (.ireturn, 1) := by decide +kernel
theorem dX11_put_31 : decode cX11_put 31 = .ok (.iload_n 2, 1) := by decide +kernel
theorem dX11_put_32 : decode cX11_put 32 = .ok (.iconst 0, 1) := by decide +kernel
theorem dX11_put_33 : decode cX11_put 33 = .ok (.aload 4, 2) := by decide +kernel
theorem dX11_put_35 : decode cX11_put 35 = .ok (.getfield 247, 3) := by decide +kernel
theorem dX11_put_38 : decode cX11_put 38 = .ok (.iconst 1, 1) := by decide +kernel
theorem dX11_put_39 : decode cX11_put 39 = .ok (.isub, 1) := by decide +kernel
theorem dX11_put_40 : decode cX11_put 40 = .ok (.invokestatic 103, 3) := by decide +kernel
theorem dX11_put_43 : decode cX11_put 43 = .ok (.ifCond .ne 6, 3) := by decide +kernel
theorem dX11_put_46 : decode cX11_put 46 = .ok (.bipush (-12), 2) := by decide +kernel
theorem dX11_put_48 : decode cX11_put 48 = .ok (.ireturn, 1) := by decide +kernel
theorem dX11_put_49 : decode cX11_put 49 = .ok (.aload 4, 2) := by decide +kernel
theorem dX11_put_51 : decode cX11_put 51 = .ok (.getfield 255, 3) := by decide +kernel
theorem dX11_put_54 : decode cX11_put 54 = .ok (.iload_n 2, 1) := by decide +kernel
theorem dX11_put_55 : decode cX11_put 55 = .ok (.iload_n 3, 1) := by decide +kernel
theorem dX11_put_56 : decode cX11_put 56 = .ok (.aload 4, 2) := by decide +kernel
theorem dX11_put_58 : decode cX11_put 58 = .ok (.getfield 244, 3) := by decide +kernel
theorem dX11_put_61 : decode cX11_put 61 = .ok (.invokestatic 265, 3) := by decide +kernel
theorem dX11_put_64 : decode cX11_put 64 = .ok (.iastore, 1) := by decide +kernel
theorem dX11_put_65 : decode cX11_put 65 = .ok (.iconst 1, 1) := by decide +kernel
theorem dX11_put_66 : decode cX11_put 66 = .ok (.ireturn, 1) := by decide +kernel
theorem dX11_item_0 : decode cX11_item 0 = .ok (.iload_n 1, 1) := by decide +kernel
theorem dX11_item_1 : decode cX11_item 1 = .ok (.iconst 0, 1) := by decide +kernel
theorem dX11_item_2 : decode cX11_item 2 = .ok (.iconst 3, 1) := by decide +kernel
theorem dX11_item_3 : decode cX11_item 3 = .ok (.invokestatic 103, 3) := by decide +kernel
theorem dX11_item_6 : decode cX11_item 6 = .ok (.ifCond .eq 12, 3) := by decide +kernel
theorem dX11_item_9 : decode cX11_item 9 = .ok (.iload_n 2, 1) := by decide +kernel
theorem dX11_item_10 : decode cX11_item 10 = .ok (.iconst 0, 1) := by decide +kernel
theorem dX11_item_11 : decode cX11_item 11 = .ok (.iconst 3, 1) := by decide +kernel
theorem dX11_item_12 : decode cX11_item 12 = .ok (.invokestatic 103, 3) := by decide +kernel
theorem dX11_item_15 : decode cX11_item 15 = .ok (.ifCond .ne 5, 3) := by decide +kernel
theorem dX11_item_18 : decode cX11_item 18 = .ok (.iconst (-1), 1) := by decide +kernel
theorem dX11_item_19 : decode cX11_item 19 = .ok (.ireturn, 1) := by decide +kernel
theorem dX11_item_20 : decode cX11_item 20 = .ok (.aload_n 0, 1) := by decide +kernel
theorem dX11_item_21 : decode cX11_item 21 = .ok (.getfield 58, 3) := by decide +kernel
theorem dX11_item_24 : decode cX11_item 24 = .ok (.iload_n 1, 1) := by decide +kernel
theorem dX11_item_25 : decode cX11_item 25 = .ok (.aaload, 1) := by decide +kernel
theorem dX11_item_26 : decode cX11_item 26 = .ok (.astore 4, 2) := by decide +kernel
theorem dX11_item_28 : decode cX11_item 28 = .ok (.aload 4, 2) := by decide +kernel
theorem dX11_item_30 : decode cX11_item 30 = .ok (.getfield 244, 3) := by decide +kernel
theorem dX11_item_33 : decode cX11_item 33 = .ok (.iconst (-1), 1) := by decide +kernel
theorem dX11_item_34 : decode cX11_item 34 = .ok (.if_icmp .ne 6, 3) := by decide +kernel
theorem dX11_item_37 : decode cX11_item 37 = .ok (.bipush (-11), 2) := by decide +kernel
theorem dX11_item_39 : decode cX11_item 39 = .ok (.ireturn, 1) := by decide +kernel
theorem dX11_item_40 : decode cX11_item 40 = .ok (.aload 4, 2) := by decide +kernel
theorem dX11_item_42 : decode cX11_item 42 = .ok (.getfield 244, 3) := by decide +kernel
theorem dX11_item_45 : decode cX11_item 45 = .ok (.iload_n 2, 1) := by decide +kernel
theorem dX11_item_46 : decode cX11_item 46 = .ok (.if_icmp .eq 6, 3) := by decide +kernel
theorem dX11_item_49 : decode cX11_item 49 = .ok (.bipush (-13), 2) := by decide +kernel
theorem dX11_item_51 : decode cX11_item 51 = .ok (.ireturn, 1) := by decide +kernel
theorem dX11_item_52 : decode cX11_item 52 = .ok (.iload_n 3, 1) := by decide +kernel
theorem dX11_item_53 : decode cX11_item 53 = .ok (.iconst 0, 1) := by decide +kernel
theorem dX11_item_54 : decode cX11_item 54 = .ok (.aload 4, 2) := by decide +kernel
theorem dX11_item_56 : decode cX11_item 56 = .ok (.getfield 247, 3) := by decide +kernel
theorem dX11_item_59 : decode cX11_item 59 = .ok (.iconst 1, 1) := by decide +kernel
theorem dX11_item_60 : decode cX11_item 60 = .ok (.isub, 1) := by decide +kernel
theorem dX11_item_61 : decode cX11_item 61 = .ok (.invokestatic 103, 3) := by decide +kernel
theorem dX11_item_64 : decode cX11_item 64 = .ok (.ifCond .ne 6, 3) := by decide +kernel
theorem dX11_item_67 : decode cX11_item 67 = .ok (.bipush (-12), 2) := by decide +kernel
theorem dX11_item_69 : decode cX11_item 69 = .ok (.ireturn, 1) := by decide +kernel
theorem dX11_item_70 : decode cX11_item 70 = .ok (.aload 4, 2) := by decide +kernel
theorem dX11_item_72 : decode cX11_item 72 = .ok (.getfield 255, 3) := by decide +kernel
theorem dX11_item_75 : decode cX11_item 75 = .ok (.iload_n 3, 1) := by decide +kernel
theorem dX11_item_76 : decode cX11_item 76 = .ok (.iaload, 1) := by decide +kernel
theorem dX11_item_77 : decode cX11_item 77 = .ok (.ireturn, 1) := by decide +kernel
theorem dX11_shelf_0 : decode cX11_shelf 0 = .ok (.iload_n 1, 1) := by decide +kernel
theorem dX11_shelf_1 : decode cX11_shelf 1 = .ok (.iconst 0, 1) := by decide +kernel
theorem dX11_shelf_2 : decode cX11_shelf 2 = .ok (.iconst 3, 1) := by decide +kernel
theorem dX11_shelf_3 : decode cX11_shelf 3 = .ok (.invokestatic 103, 3) := by decide +kernel
theorem dX11_shelf_6 : decode cX11_shelf 6 = .ok (.ifCond .ne 5, 3) := by decide +kernel
theorem dX11_shelf_9 : decode cX11_shelf 9 = .ok (.iconst (-1), 1) := by decide +kernel
theorem dX11_shelf_10 : decode cX11_shelf 10 = .ok (.ireturn, 1) := by decide +kernel
theorem dX11_shelf_11 : decode cX11_shelf 11 = .ok (.iload_n 2, 1) := by decide +kernel
theorem dX11_shelf_12 : decode cX11_shelf 12 = .ok (.tableswitch 108 0 2 #[28, 48, 98], 28) := by decide +kernel
theorem dX11_shelf_40 : decode cX11_shelf 40 = .ok (.aload_n 0, 1) := by decide +kernel
theorem dX11_shelf_41 : decode cX11_shelf 41 = .ok (.iload_n 3, 1) := by decide +kernel
theorem dX11_shelf_42 : decode cX11_shelf 42 = .ok (.invokevirtual 131, 3) := by decide +kernel
theorem dX11_shelf_45 : decode cX11_shelf 45 = .ok (.ifCond .ne 5, 3) := by decide +kernel
theorem dX11_shelf_48 : decode cX11_shelf 48 = .ok (.iconst (-1), 1) := by decide +kernel
theorem dX11_shelf_49 : decode cX11_shelf 49 = .ok (.ireturn, 1) := by decide +kernel
theorem dX11_shelf_50 : decode cX11_shelf 50 = .ok (.aload_n 0, 1) := by decide +kernel
theorem dX11_shelf_51 : decode cX11_shelf 51 = .ok (.iload_n 1, 1) := by decide +kernel
theorem dX11_shelf_52 : decode cX11_shelf 52 = .ok (.iconst 0, 1) := by decide +kernel
theorem dX11_shelf_53 : decode cX11_shelf 53 = .ok (.iload_n 3, 1) := by decide +kernel
theorem dX11_shelf_54 : decode cX11_shelf 54 = .ok (.iconst 0, 1) := by decide +kernel
theorem dX11_shelf_55 : decode cX11_shelf 55 = .ok (.invokevirtual 268, 3) := by decide +kernel
theorem dX11_shelf_58 : decode cX11_shelf 58 = .ok (.iconst 1, 1) := by decide +kernel
theorem dX11_shelf_59 : decode cX11_shelf 59 = .ok (.ireturn, 1) := by decide +kernel
theorem dX11_shelf_60 : decode cX11_shelf 60 = .ok (.iload_n 3, 1) := by decide +kernel
theorem dX11_shelf_61 : decode cX11_shelf 61 = .ok (.iconst 0, 1) := by decide +kernel
theorem dX11_shelf_62 : decode cX11_shelf 62 = .ok (.iconst 3, 1) := by decide +kernel
theorem dX11_shelf_63 : decode cX11_shelf 63 = .ok (.invokestatic 103, 3) := by decide +kernel
theorem dX11_shelf_66 : decode cX11_shelf 66 = .ok (.ifCond .ne 5, 3) := by decide +kernel
theorem dX11_shelf_69 : decode cX11_shelf 69 = .ok (.iconst (-1), 1) := by decide +kernel
theorem dX11_shelf_70 : decode cX11_shelf 70 = .ok (.ireturn, 1) := by decide +kernel
theorem dX11_shelf_71 : decode cX11_shelf 71 = .ok (.aload_n 0, 1) := by decide +kernel
theorem dX11_shelf_72 : decode cX11_shelf 72 = .ok (.getfield 58, 3) := by decide +kernel
theorem dX11_shelf_75 : decode cX11_shelf 75 = .ok (.iload_n 3, 1) := by decide +kernel
theorem dX11_shelf_76 : decode cX11_shelf 76 = .ok (.aaload, 1) := by decide +kernel
theorem dX11_shelf_77 : decode cX11_shelf 77 = .ok (.astore 4, 2) := by decide +kernel
theorem dX11_shelf_79 : decode cX11_shelf 79 = .ok (.aload_n 0, 1) := by decide +kernel
theorem dX11_shelf_80 : decode cX11_shelf 80 = .ok (.iload_n 1, 1) := by decide +kernel
theorem dX11_shelf_81 : decode cX11_shelf 81 = .ok (.aload 4, 2) := by decide +kernel
theorem dX11_shelf_83 : decode cX11_shelf 83 = .ok (.getfield 244, 3) := by decide +kernel
theorem dX11_shelf_86 : decode cX11_shelf 86 = .ok (.iconst (-1), 1) := by decide +kernel
theorem dX11_shelf_87 : decode cX11_shelf 87 = .ok (.if_icmp .ne 7, 3) := by decide +kernel
theorem dX11_shelf_90 : decode cX11_shelf 90 = .ok (.iconst 2, 1) := by decide +kernel
theorem dX11_shelf_91 : decode cX11_shelf 91 = .ok (.goto 4, 3) := by decide +kernel
theorem dX11_shelf_94 : decode cX11_shelf 94 = .ok (.iconst 1, 1) := by decide +kernel
theorem dX11_shelf_95 : decode cX11_shelf 95 = .ok (.aload 4, 2) := by decide +kernel
theorem dX11_shelf_97 : decode cX11_shelf 97 = .ok (.getfield 244, 3) := by decide +kernel
theorem dX11_shelf_100 : decode cX11_shelf 100 = .ok (.aload 4, 2) := by decide +kernel
theorem dX11_shelf_102 : decode cX11_shelf 102 = .ok (.getfield 247, 3) := by decide +kernel
theorem dX11_shelf_105 : decode cX11_shelf 105 = .ok (.invokevirtual 268, 3) := by decide +kernel
theorem dX11_shelf_108 : decode cX11_shelf 108 = .ok (.iconst 1, 1) := by decide +kernel
theorem dX11_shelf_109 : decode cX11_shelf 109 = .ok (.ireturn, 1) := by decide +kernel
theorem dX11_shelf_110 : decode cX11_shelf 110 = .ok (.aload_n 0, 1) := by decide +kernel
theorem dX11_shelf_111 : decode cX11_shelf 111 = .ok (.iload_n 1, 1) := by decide +kernel
theorem dX11_shelf_112 : decode cX11_shelf 112 = .ok (.iconst 2, 1) := by decide +kernel
theorem dX11_shelf_113 : decode cX11_shelf 113 = .ok (.iconst 0, 1) := by decide +kernel
theorem dX11_shelf_114 : decode cX11_shelf 114 = .ok (.iconst 0, 1) := by decide +kernel
theorem dX11_shelf_115 : decode cX11_shelf 115 = .ok (.invokevirtual 268, 3) := by decide +kernel
theorem dX11_shelf_118 : decode cX11_shelf 118 = .ok (.iconst 1, 1) := by decide +kernel
theorem dX11_shelf_119 : decode cX11_shelf 119 = .ok (.ireturn, 1) := by decide +kernel
theorem dX11_shelf_120 : decode cX11_shelf 120 = .ok (.iconst (-1), 1) := by decide +kernel
theorem dX11_shelf_121 : decode cX11_shelf 121 = .ok (.ireturn, 1) := by decide +kernel
theorem dX11_taken_0 : decode cX11_taken 0 = .ok (.iload_n 1, 1) := by decide +kernel
theorem dX11_taken_1 : decode cX11_taken 1 = .ok (.iconst 0, 1) := by decide +kernel
theorem dX11_taken_2 : decode cX11_taken 2 = .ok (.iconst 3, 1) := by decide +kernel
theorem dX11_taken_3 : decode cX11_taken 3 = .ok (.invokestatic 103, 3) := by decide +kernel
theorem dX11_taken_6 : decode cX11_taken 6 = .ok (.ifCond .ne 5, 3) := by decide +kernel
theorem dX11_taken_9 : decode cX11_taken 9 = .ok (.iconst (-1), 1) := by decide +kernel
theorem dX11_taken_10 : decode cX11_taken 10 = .ok (.ireturn, 1) := by decide +kernel
theorem dX11_taken_11 : decode cX11_taken 11 = .ok (.iload_n 2, 1) := by decide +kernel
theorem dX11_taken_12 : decode cX11_taken 12 = .ok (.iconst 0, 1) := by decide +kernel
theorem dX11_taken_13 : decode cX11_taken 13 = .ok (.iconst 5, 1) := by decide +kernel
theorem dX11_taken_14 : decode cX11_taken 14 = .ok (.invokestatic 103, 3) := by decide +kernel
theorem dX11_taken_17 : decode cX11_taken 17 = .ok (.ifCond .ne 16, 3) := by decide +kernel
theorem dX11_taken_20 : decode cX11_taken 20 = .ok (.iload_n 2, 1) := by decide +kernel
theorem dX11_taken_21 : decode cX11_taken 21 = .ok (.bipush 10, 2) := by decide +kernel
theorem dX11_taken_23 : decode cX11_taken 23 = .ok (.bipush 13, 2) := by decide +kernel
theorem dX11_taken_25 : decode cX11_taken 25 = .ok (.invokestatic 103, 3) := by decide +kernel
theorem dX11_taken_28 : decode cX11_taken 28 = .ok (.ifCond .ne 5, 3) := by decide +kernel
theorem dX11_taken_31 : decode cX11_taken 31 = .ok (.iconst (-1), 1) := by decide +kernel
theorem dX11_taken_32 : decode cX11_taken 32 = .ok (.ireturn, 1) := by decide +kernel
theorem dX11_taken_33 : decode cX11_taken 33 = .ok (.aload_n 0, 1) := by decide +kernel
theorem dX11_taken_34 : decode cX11_taken 34 = .ok (.getfield 62, 3) := by decide +kernel
theorem dX11_taken_37 : decode cX11_taken 37 = .ok (.iload_n 1, 1) := by decide +kernel
theorem dX11_taken_38 : decode cX11_taken 38 = .ok (.iaload, 1) := by decide +kernel
theorem dX11_taken_39 : decode cX11_taken 39 = .ok (.iconst 1, 1) := by decide +kernel
theorem dX11_taken_40 : decode cX11_taken 40 = .ok (.if_icmp .ne 28, 3) := by decide +kernel
theorem dX11_taken_43 : decode cX11_taken 43 = .ok (.aload_n 0, 1) := by decide +kernel
theorem dX11_taken_44 : decode cX11_taken 44 = .ok (.getfield 65, 3) := by decide +kernel
theorem dX11_taken_47 : decode cX11_taken 47 = .ok (.iload_n 1, 1) := by decide +kernel
theorem dX11_taken_48 : decode cX11_taken 48 = .ok (.iaload, 1) := by decide +kernel
theorem dX11_taken_49 : decode cX11_taken 49 = .ok (.iload_n 2, 1) := by decide +kernel
theorem dX11_taken_50 : decode cX11_taken 50 = .ok (.bipush 10, 2) := by decide +kernel
theorem dX11_taken_52 : decode cX11_taken 52 = .ok (.isub, 1) := by decide +kernel
theorem dX11_taken_53 : decode cX11_taken 53 = .ok (.if_icmp .ne 12, 3) := by decide +kernel
theorem dX11_taken_56 : decode cX11_taken 56 = .ok (.aload_n 0, 1) := by decide +kernel
theorem dX11_taken_57 : decode cX11_taken 57 = .ok (.getfield 68, 3) := by decide +kernel
theorem dX11_taken_60 : decode cX11_taken 60 = .ok (.iload_n 1, 1) := by decide +kernel
theorem dX11_taken_61 : decode cX11_taken 61 = .ok (.iaload, 1) := by decide +kernel
theorem dX11_taken_62 : decode cX11_taken 62 = .ok (.goto 5, 3) := by decide +kernel
theorem dX11_taken_65 : decode cX11_taken 65 = .ok (.bipush (-13), 2) := by decide +kernel
theorem dX11_taken_67 : decode cX11_taken 67 = .ok (.ireturn, 1) := by decide +kernel
theorem dX11_taken_68 : decode cX11_taken 68 = .ok (.aload_n 0, 1) := by decide +kernel
theorem dX11_taken_69 : decode cX11_taken 69 = .ok (.iload_n 1, 1) := by decide +kernel
theorem dX11_taken_70 : decode cX11_taken 70 = .ok (.invokevirtual 272, 3) := by decide +kernel
theorem dX11_taken_73 : decode cX11_taken 73 = .ok (.astore_n 3, 1) := by decide +kernel
theorem dX11_taken_74 : decode cX11_taken 74 = .ok (.aload_n 3, 1) := by decide +kernel
theorem dX11_taken_75 : decode cX11_taken 75 = .ok (.ifnonnull 6, 3) := by decide +kernel
theorem dX11_taken_78 : decode cX11_taken 78 = .ok (.bipush (-11), 2) := by decide +kernel
theorem dX11_taken_80 : decode cX11_taken 80 = .ok (.ireturn, 1) := by decide +kernel
theorem dX11_taken_81 : decode cX11_taken 81 = .ok (.aload_n 3, 1) := by decide +kernel
theorem dX11_taken_82 : decode cX11_taken 82 = .ok (.iload_n 2, 1) := by decide +kernel
theorem dX11_taken_83 : decode cX11_taken 83 = .ok (.invokestatic 276, 3) := by decide +kernel
theorem dX11_taken_86 : decode cX11_taken 86 = .ok (.ifCond .eq 10, 3) := by decide +kernel
theorem dX11_taken_89 : decode cX11_taken 89 = .ok (.aload_n 3, 1) := by decide +kernel
theorem dX11_taken_90 : decode cX11_taken 90 = .ok (.getfield 280, 3) := by decide +kernel
theorem dX11_taken_93 : decode cX11_taken 93 = .ok (.goto 5, 3) := by decide +kernel
theorem dX11_taken_96 : decode cX11_taken 96 = .ok (.bipush (-13), 2) := by decide +kernel
theorem dX11_taken_98 : decode cX11_taken 98 = .ok (.ireturn, 1) := by decide +kernel
theorem dX11_act_0 : decode cX11_act 0 = .ok (.aload_n 0, 1) := by decide +kernel
theorem dX11_act_1 : decode cX11_act 1 = .ok (.getfield 99, 3) := by decide +kernel
theorem dX11_act_4 : decode cX11_act 4 = .ok (.invokevirtual 283, 3) := by decide +kernel
theorem dX11_act_7 : decode cX11_act 7 = .ok (.iload_n 1, 1) := by decide +kernel
theorem dX11_act_8 : decode cX11_act 8 = .ok (.iconst 0, 1) := by decide +kernel
theorem dX11_act_9 : decode cX11_act 9 = .ok (.iconst 3, 1) := by decide +kernel
theorem dX11_act_10 : decode cX11_act 10 = .ok (.invokestatic 103, 3) := by decide +kernel
theorem dX11_act_13 : decode cX11_act 13 = .ok (.ifCond .ne 5, 3) := by decide +kernel
theorem dX11_act_16 : decode cX11_act 16 = .ok (.iconst 0, 1) := by decide +kernel
theorem dX11_act_17 : decode cX11_act 17 = .ok (.ireturn, 1) := by decide +kernel
theorem dX11_act_18 : decode cX11_act 18 = .ok (.aload_n 0, 1) := by decide +kernel
theorem dX11_act_19 : decode cX11_act 19 = .ok (.iload_n 1, 1) := by decide +kernel
theorem dX11_act_20 : decode cX11_act 20 = .ok (.invokevirtual 272, 3) := by decide +kernel
theorem dX11_act_23 : decode cX11_act 23 = .ok (.astore 4, 2) := by decide +kernel
theorem dX11_act_25 : decode cX11_act 25 = .ok (.aload 4, 2) := by decide +kernel
theorem dX11_act_27 : decode cX11_act 27 = .ok (.ifnonnull 5, 3) := by decide +kernel
theorem dX11_act_30 : decode cX11_act 30 = .ok (.iconst 0, 1) := by decide +kernel
theorem dX11_act_31 : decode cX11_act 31 = .ok (.ireturn, 1) := by decide +kernel
theorem dX11_act_32 : decode cX11_act 32 = .ok (.iconst 0, 1) := by decide +kernel
theorem dX11_act_33 : decode cX11_act 33 = .ok (.istore 5, 2) := by decide +kernel
theorem dX11_act_35 : decode cX11_act 35 = .ok (.iload_n 2, 1) := by decide +kernel
theorem dX11_act_36 : decode cX11_act 36 = .ok (.tableswitch 76 0 3 #[32, 43, 54, 65], 32) := by decide +kernel
theorem dX11_act_68 : decode cX11_act 68 = .ok (.aload 4, 2) := by decide +kernel
theorem dX11_act_70 : decode cX11_act 70 = .ok (.iload_n 3, 1) := by decide +kernel
theorem dX11_act_71 : decode cX11_act 71 = .ok (.invokevirtual 286, 3) := by decide +kernel
theorem dX11_act_74 : decode cX11_act 74 = .ok (.istore 5, 2) := by decide +kernel
theorem dX11_act_76 : decode cX11_act 76 = .ok (.goto 38, 3) := by decide +kernel
theorem dX11_act_79 : decode cX11_act 79 = .ok (.aload 4, 2) := by decide +kernel
theorem dX11_act_81 : decode cX11_act 81 = .ok (.iload_n 3, 1) := by decide +kernel
theorem dX11_act_82 : decode cX11_act 82 = .ok (.invokevirtual 289, 3) := by decide +kernel
theorem dX11_act_85 : decode cX11_act 85 = .ok (.istore 5, 2) := by decide +kernel
theorem dX11_act_87 : decode cX11_act 87 = .ok (.goto 27, 3) := by decide +kernel
theorem dX11_act_90 : decode cX11_act 90 = .ok (.aload 4, 2) := by decide +kernel
theorem dX11_act_92 : decode cX11_act 92 = .ok (.iload_n 3, 1) := by decide +kernel
theorem dX11_act_93 : decode cX11_act 93 = .ok (.invokevirtual 292, 3) := by decide +kernel
theorem dX11_act_96 : decode cX11_act 96 = .ok (.istore 5, 2) := by decide +kernel
theorem dX11_act_98 : decode cX11_act 98 = .ok (.goto 16, 3) := by decide +kernel
theorem dX11_act_101 : decode cX11_act 101 = .ok (.aload 4, 2) := by decide +kernel
theorem dX11_act_103 : decode cX11_act 103 = .ok (.iload_n 3, 1) := by decide +kernel
theorem dX11_act_104 : decode cX11_act 104 = .ok (.invokevirtual 295, 3) := by decide +kernel
theorem dX11_act_107 : decode cX11_act 107 = .ok (.istore 5, 2) := by decide +kernel
theorem dX11_act_109 : decode cX11_act 109 = .ok (.goto 5, 3) := by decide +kernel
theorem dX11_act_112 : decode cX11_act 112 = .ok (.iconst 0, 1) := by decide +kernel
theorem dX11_act_113 : decode cX11_act 113 = .ok (.ireturn, 1) := by decide +kernel
theorem dX11_act_114 : decode cX11_act 114 = .ok (.aload_n 0, 1) := by decide +kernel
theorem dX11_act_115 : decode cX11_act 115 = .ok (.getfield 99, 3) := by decide +kernel
theorem dX11_act_118 : decode cX11_act 118 = .ok (.getfield 298, 3) := by decide +kernel
theorem dX11_act_121 : decode cX11_act 121 = .ok (.ifCond .eq 8, 3) := by decide +kernel
theorem dX11_act_124 : decode cX11_act 124 = .ok (.bipush (-15), 2) := by decide +kernel
theorem dX11_act_126 : decode cX11_act 126 = .ok (.goto 5, 3) := by decide +kernel
theorem dX11_act_129 : decode cX11_act 129 = .ok (.iload 5, 2) := by decide +kernel
theorem dX11_act_131 : decode cX11_act 131 = .ok (.ireturn, 1) := by decide +kernel
theorem dX11_trace_0 : decode cX11_trace 0 = .ok (.iload_n 1, 1) := by decide +kernel
theorem dX11_trace_1 : decode cX11_trace 1 = .ok (.iconst 0, 1) := by decide +kernel
theorem dX11_trace_2 : decode cX11_trace 2 = .ok (.aload_n 0, 1) := by decide +kernel
theorem dX11_trace_3 : decode cX11_trace 3 = .ok (.getfield 99, 3) := by decide +kernel
theorem dX11_trace_6 : decode cX11_trace 6 = .ok (.getfield 301, 3) := by decide +kernel
theorem dX11_trace_9 : decode cX11_trace 9 = .ok (.iconst 1, 1) := by decide +kernel
theorem dX11_trace_10 : decode cX11_trace 10 = .ok (.isub, 1) := by decide +kernel
theorem dX11_trace_11 : decode cX11_trace 11 = .ok (.invokestatic 103, 3) := by decide +kernel
theorem dX11_trace_14 : decode cX11_trace 14 = .ok (.ifCond .eq 15, 3) := by decide +kernel
theorem dX11_trace_17 : decode cX11_trace 17 = .ok (.aload_n 0, 1) := by decide +kernel
theorem dX11_trace_18 : decode cX11_trace 18 = .ok (.getfield 99, 3) := by decide +kernel
theorem dX11_trace_21 : decode cX11_trace 21 = .ok (.getfield 304, 3) := by decide +kernel
theorem dX11_trace_24 : decode cX11_trace 24 = .ok (.iload_n 1, 1) := by decide +kernel
theorem dX11_trace_25 : decode cX11_trace 25 = .ok (.iaload, 1) := by decide +kernel
theorem dX11_trace_26 : decode cX11_trace 26 = .ok (.goto 5, 3) := by decide +kernel
theorem dX11_trace_29 : decode cX11_trace 29 = .ok (.bipush (-3), 2) := by decide +kernel
theorem dX11_trace_31 : decode cX11_trace 31 = .ok (.ireturn, 1) := by decide +kernel
theorem dX11_many_0 : decode cX11_many 0 = .ok (.iload_n 1, 1) := by decide +kernel
theorem dX11_many_1 : decode cX11_many 1 = .ok (.tableswitch 105 0 7 #[47, 55, 63, 71, 79, 87, 92, 97], 47) := by decide +kernel
theorem dX11_many_48 : decode cX11_many 48 = .ok (.aload_n 0, 1) := by decide +kernel
theorem dX11_many_49 : decode cX11_many 49 = .ok (.getfield 10, 3) := by decide +kernel
theorem dX11_many_52 : decode cX11_many 52 = .ok (.getfield 124, 3) := by decide +kernel
theorem dX11_many_55 : decode cX11_many 55 = .ok (.ireturn, 1) := by decide +kernel
theorem dX11_many_56 : decode cX11_many 56 = .ok (.aload_n 0, 1) := by decide +kernel
theorem dX11_many_57 : decode cX11_many 57 = .ok (.getfield 10, 3) := by decide +kernel
theorem dX11_many_60 : decode cX11_many 60 = .ok (.getfield 151, 3) := by decide +kernel
theorem dX11_many_63 : decode cX11_many 63 = .ok (.ireturn, 1) := by decide +kernel
theorem dX11_many_64 : decode cX11_many 64 = .ok (.aload_n 0, 1) := by decide +kernel
theorem dX11_many_65 : decode cX11_many 65 = .ok (.getfield 10, 3) := by decide +kernel
theorem dX11_many_68 : decode cX11_many 68 = .ok (.invokevirtual 307, 3) := by decide +kernel
theorem dX11_many_71 : decode cX11_many 71 = .ok (.ireturn, 1) := by decide +kernel
theorem dX11_many_72 : decode cX11_many 72 = .ok (.aload_n 0, 1) := by decide +kernel
theorem dX11_many_73 : decode cX11_many 73 = .ok (.getfield 10, 3) := by decide +kernel
theorem dX11_many_76 : decode cX11_many 76 = .ok (.getfield 310, 3) := by decide +kernel
theorem dX11_many_79 : decode cX11_many 79 = .ok (.ireturn, 1) := by decide +kernel
theorem dX11_many_80 : decode cX11_many 80 = .ok (.aload_n 0, 1) := by decide +kernel
theorem dX11_many_81 : decode cX11_many 81 = .ok (.getfield 10, 3) := by decide +kernel
theorem dX11_many_84 : decode cX11_many 84 = .ok (.getfield 313, 3) := by decide +kernel
theorem dX11_many_87 : decode cX11_many 87 = .ok (.ireturn, 1) := by decide +kernel
theorem dX11_many_88 : decode cX11_many 88 = .ok (.aload_n 0, 1) := by decide +kernel
theorem dX11_many_89 : decode cX11_many 89 = .ok (.getfield 53, 3) := by decide +kernel
theorem dX11_many_92 : decode cX11_many 92 = .ok (.ireturn, 1) := by decide +kernel
theorem dX11_many_93 : decode cX11_many 93 = .ok (.aload_n 0, 1) := by decide +kernel
theorem dX11_many_94 : decode cX11_many 94 = .ok (.getfield 41, 3) := by decide +kernel
theorem dX11_many_97 : decode cX11_many 97 = .ok (.ireturn, 1) := by decide +kernel
theorem dX11_many_98 : decode cX11_many 98 = .ok (.aload_n 0, 1) := by decide +kernel
theorem dX11_many_99 : decode cX11_many 99 = .ok (.getfield 99, 3) := by decide +kernel
theorem dX11_many_102 : decode cX11_many 102 = .ok (.getfield 301, 3) := by decide +kernel
theorem dX11_many_105 : decode cX11_many 105 = .ok (.ireturn, 1) := by decide +kernel
theorem dX11_many_106 : decode cX11_many 106 = .ok (.iconst (-1), 1) := by decide +kernel
theorem dX11_many_107 : decode cX11_many 107 = .ok (.ireturn, 1) := by decide +kernel
theorem dX11_keep_0 : decode cX11_keep 0 = .ok (.aload_n 0, 1) := by decide +kernel
theorem dX11_keep_1 : decode cX11_keep 1 = .ok (.getfield 16, 3) := by decide +kernel
theorem dX11_keep_4 : decode cX11_keep 4 = .ok (.aload_n 0, 1) := by decide +kernel
theorem dX11_keep_5 : decode cX11_keep 5 = .ok (.getfield 10, 3) := by decide +kernel
theorem dX11_keep_8 : decode cX11_keep 8 = .ok (.invokevirtual 120, 3) := by decide +kernel
theorem dX11_keep_11 : decode cX11_keep 11 = .ok (.aload_n 0, 1) := by decide +kernel
theorem dX11_keep_12 : decode cX11_keep 12 = .ok (.iconst 1, 1) := by decide +kernel
theorem dX11_keep_13 : decode cX11_keep 13 = .ok (.putfield 19, 3) := by decide +kernel
theorem dX11_keep_16 : decode cX11_keep 16 = .ok (.iconst 1, 1) := by decide +kernel
theorem dX11_keep_17 : decode cX11_keep 17 = .ok (.ireturn, 1) := by decide +kernel
theorem dX11_again_0 : decode cX11_again 0 = .ok (.aload_n 0, 1) := by decide +kernel
theorem dX11_again_1 : decode cX11_again 1 = .ok (.getfield 19, 3) := by decide +kernel
theorem dX11_again_4 : decode cX11_again 4 = .ok (.ifCond .ne 6, 3) := by decide +kernel
theorem dX11_again_7 : decode cX11_again 7 = .ok (.bipush (-3), 2) := by decide +kernel
theorem dX11_again_9 : decode cX11_again 9 = .ok (.ireturn, 1) := by decide +kernel
theorem dX11_again_10 : decode cX11_again 10 = .ok (.aload_n 0, 1) := by decide +kernel
theorem dX11_again_11 : decode cX11_again 11 = .ok (.getfield 10, 3) := by decide +kernel
theorem dX11_again_14 : decode cX11_again 14 = .ok (.aload_n 0, 1) := by decide +kernel
theorem dX11_again_15 : decode cX11_again 15 = .ok (.getfield 16, 3) := by decide +kernel
theorem dX11_again_18 : decode cX11_again 18 = .ok (.invokevirtual 120, 3) := by decide +kernel
theorem dX11_again_21 : decode cX11_again 21 = .ok (.aload_n 0, 1) := by decide +kernel
theorem dX11_again_22 : decode cX11_again 22 = .ok (.getfield 10, 3) := by decide +kernel
theorem dX11_again_25 : decode cX11_again 25 = .ok (.getfield 124, 3) := by decide +kernel
theorem dX11_again_28 : decode cX11_again 28 = .ok (.ireturn, 1) := by decide +kernel
theorem dX11_within_0 : decode cX11_within 0 = .ok (.iload_n 0, 1) := by decide +kernel
theorem dX11_within_1 : decode cX11_within 1 = .ok (.iload_n 1, 1) := by decide +kernel
theorem dX11_within_2 : decode cX11_within 2 = .ok (.if_icmp .lt 12, 3) := by decide +kernel
theorem dX11_within_5 : decode cX11_within 5 = .ok (.iload_n 0, 1) := by decide +kernel
theorem dX11_within_6 : decode cX11_within 6 = .ok (.iload_n 2, 1) := by decide +kernel
theorem dX11_within_7 : decode cX11_within 7 = .ok (.if_icmp .gt 7, 3) := by decide +kernel
theorem dX11_within_10 : decode cX11_within 10 = .ok (.iconst 1, 1) := by decide +kernel
theorem dX11_within_11 : decode cX11_within 11 = .ok (.goto 4, 3) := by decide +kernel
theorem dX11_within_14 : decode cX11_within 14 = .ok (.iconst 0, 1) := by decide +kernel
theorem dX11_within_15 : decode cX11_within 15 = .ok (.ireturn, 1) := by decide +kernel
theorem dX11_isPerson_0 : decode cX11_isPerson 0 = .ok (.iload_n 1, 1) := by decide +kernel
theorem dX11_isPerson_1 : decode cX11_isPerson 1 = .ok (.ifCond .lt 18, 3) := by decide +kernel
theorem dX11_isPerson_4 : decode cX11_isPerson 4 = .ok (.iload_n 1, 1) := by decide +kernel
theorem dX11_isPerson_5 : decode cX11_isPerson 5 = .ok (.aload_n 0, 1) := by decide +kernel
theorem dX11_isPerson_6 : decode cX11_isPerson 6 = .ok (.getfield 10, 3) := by decide +kernel
theorem dX11_isPerson_9 : decode cX11_isPerson 9 = .ok (.getfield 124, 3) := by decide +kernel
theorem dX11_isPerson_12 : decode cX11_isPerson 12 = .ok (.if_icmp .ge 7, 3) := by decide +kernel
theorem dX11_isPerson_15 : decode cX11_isPerson 15 = .ok (.iconst 1, 1) := by decide +kernel
theorem dX11_isPerson_16 : decode cX11_isPerson 16 = .ok (.goto 4, 3) := by decide +kernel
theorem dX11_isPerson_19 : decode cX11_isPerson 19 = .ok (.iconst 0, 1) := by decide +kernel
theorem dX11_isPerson_20 : decode cX11_isPerson 20 = .ok (.ireturn, 1) := by decide +kernel
theorem dX11_isProposal_0 : decode cX11_isProposal 0 = .ok (.iload_n 1, 1) := by decide +kernel
theorem dX11_isProposal_1 : decode cX11_isProposal 1 = .ok (.ifCond .lt 18, 3) := by decide +kernel
theorem dX11_isProposal_4 : decode cX11_isProposal 4 = .ok (.iload_n 1, 1) := by decide +kernel
theorem dX11_isProposal_5 : decode cX11_isProposal 5 = .ok (.aload_n 0, 1) := by decide +kernel
theorem dX11_isProposal_6 : decode cX11_isProposal 6 = .ok (.getfield 10, 3) := by decide +kernel
theorem dX11_isProposal_9 : decode cX11_isProposal 9 = .ok (.getfield 151, 3) := by decide +kernel
theorem dX11_isProposal_12 : decode cX11_isProposal 12 = .ok (.if_icmp .ge 7, 3) := by decide +kernel
theorem dX11_isProposal_15 : decode cX11_isProposal 15 = .ok (.iconst 1, 1) := by decide +kernel
theorem dX11_isProposal_16 : decode cX11_isProposal 16 = .ok (.goto 4, 3) := by decide +kernel
theorem dX11_isProposal_19 : decode cX11_isProposal 19 = .ok (.iconst 0, 1) := by decide +kernel
theorem dX11_isProposal_20 : decode cX11_isProposal 20 = .ok (.ireturn, 1) := by decide +kernel
theorem dX11_isInRows_0 : decode cX11_isInRows 0 = .ok (.iload_n 1, 1) := by decide +kernel
theorem dX11_isInRows_1 : decode cX11_isInRows 1 = .ok (.iconst 0, 1) := by decide +kernel
theorem dX11_isInRows_2 : decode cX11_isInRows 2 = .ok (.aload_n 0, 1) := by decide +kernel
theorem dX11_isInRows_3 : decode cX11_isInRows 3 = .ok (.getfield 53, 3) := by decide +kernel
theorem dX11_isInRows_6 : decode cX11_isInRows 6 = .ok (.iconst 1, 1) := by decide +kernel
theorem dX11_isInRows_7 : decode cX11_isInRows 7 = .ok (.isub, 1) := by decide +kernel
theorem dX11_isInRows_8 : decode cX11_isInRows 8 = .ok (.invokestatic 103, 3) := by decide +kernel
theorem dX11_isInRows_11 : decode cX11_isInRows 11 = .ok (.ifCond .eq 16, 3) := by decide +kernel
theorem dX11_isInRows_14 : decode cX11_isInRows 14 = .ok (.iload_n 2, 1) := by decide +kernel
theorem dX11_isInRows_15 : decode cX11_isInRows 15 = .ok (.iconst 0, 1) := by decide +kernel
theorem dX11_isInRows_16 : decode cX11_isInRows 16 = .ok (.iconst 2, 1) := by decide +kernel
theorem dX11_isInRows_17 : decode cX11_isInRows 17 = .ok (.invokestatic 103, 3) := by decide +kernel
theorem dX11_isInRows_20 : decode cX11_isInRows 20 = .ok (.ifCond .eq 7, 3) := by decide +kernel
theorem dX11_isInRows_23 : decode cX11_isInRows 23 = .ok (.iconst 1, 1) := by decide +kernel
theorem dX11_isInRows_24 : decode cX11_isInRows 24 = .ok (.goto 4, 3) := by decide +kernel
theorem dX11_isInRows_27 : decode cX11_isInRows 27 = .ok (.iconst 0, 1) := by decide +kernel
theorem dX11_isInRows_28 : decode cX11_isInRows 28 = .ok (.ireturn, 1) := by decide +kernel
theorem dX11_mayBeLaw_0 : decode cX11_mayBeLaw 0 = .ok (.iload_n 0, 1) := by decide +kernel
theorem dX11_mayBeLaw_1 : decode cX11_mayBeLaw 1 = .ok (.tableswitch 49 0 2 #[27, 34, 41], 27) := by decide +kernel
theorem dX11_mayBeLaw_28 : decode cX11_mayBeLaw 28 = .ok (.iload_n 1, 1) := by decide +kernel
theorem dX11_mayBeLaw_29 : decode cX11_mayBeLaw 29 = .ok (.iconst 1, 1) := by decide +kernel
theorem dX11_mayBeLaw_30 : decode cX11_mayBeLaw 30 = .ok (.iconst 3, 1) := by decide +kernel
theorem dX11_mayBeLaw_31 : decode cX11_mayBeLaw 31 = .ok (.invokestatic 103, 3) := by decide +kernel
theorem dX11_mayBeLaw_34 : decode cX11_mayBeLaw 34 = .ok (.ireturn, 1) := by decide +kernel
theorem dX11_mayBeLaw_35 : decode cX11_mayBeLaw 35 = .ok (.iload_n 1, 1) := by decide +kernel
theorem dX11_mayBeLaw_36 : decode cX11_mayBeLaw 36 = .ok (.iconst 0, 1) := by decide +kernel
theorem dX11_mayBeLaw_37 : decode cX11_mayBeLaw 37 = .ok (.iconst 1, 1) := by decide +kernel
theorem dX11_mayBeLaw_38 : decode cX11_mayBeLaw 38 = .ok (.invokestatic 103, 3) := by decide +kernel
theorem dX11_mayBeLaw_41 : decode cX11_mayBeLaw 41 = .ok (.ireturn, 1) := by decide +kernel
theorem dX11_mayBeLaw_42 : decode cX11_mayBeLaw 42 = .ok (.iload_n 1, 1) := by decide +kernel
theorem dX11_mayBeLaw_43 : decode cX11_mayBeLaw 43 = .ok (.iconst 0, 1) := by decide +kernel
theorem dX11_mayBeLaw_44 : decode cX11_mayBeLaw 44 = .ok (.bipush 20, 2) := by decide +kernel
theorem dX11_mayBeLaw_46 : decode cX11_mayBeLaw 46 = .ok (.invokestatic 103, 3) := by decide +kernel
theorem dX11_mayBeLaw_49 : decode cX11_mayBeLaw 49 = .ok (.ireturn, 1) := by decide +kernel
theorem dX11_mayBeLaw_50 : decode cX11_mayBeLaw 50 = .ok (.iconst 0, 1) := by decide +kernel
theorem dX11_mayBeLaw_51 : decode cX11_mayBeLaw 51 = .ok (.ireturn, 1) := by decide +kernel
theorem dX11_nextLot_0 : decode cX11_nextLot 0 = .ok (.iload_n 0, 1) := by decide +kernel
theorem dX11_nextLot_1 : decode cX11_nextLot 1 = .ok (.ldc_w 316, 3) := by decide +kernel
theorem dX11_nextLot_4 : decode cX11_nextLot 4 = .ok (.imul, 1) := by decide +kernel
theorem dX11_nextLot_5 : decode cX11_nextLot 5 = .ok (.sipush 12345, 3) := by decide +kernel
theorem dX11_nextLot_8 : decode cX11_nextLot 8 = .ok (.iadd, 1) := by decide +kernel
theorem dX11_nextLot_9 : decode cX11_nextLot 9 = .ok (.ireturn, 1) := by decide +kernel
theorem dX11_fillRows_0 : decode cX11_fillRows 0 = .ok (.aload_n 0, 1) := by decide +kernel
theorem dX11_fillRows_1 : decode cX11_fillRows 1 = .ok (.getfield 10, 3) := by decide +kernel
theorem dX11_fillRows_4 : decode cX11_fillRows 4 = .ok (.getfield 114, 3) := by decide +kernel
theorem dX11_fillRows_7 : decode cX11_fillRows 7 = .ok (.istore_n 3, 1) := by decide +kernel
theorem dX11_fillRows_8 : decode cX11_fillRows 8 = .ok (.aload_n 0, 1) := by decide +kernel
theorem dX11_fillRows_9 : decode cX11_fillRows 9 = .ok (.getfield 10, 3) := by decide +kernel
theorem dX11_fillRows_12 : decode cX11_fillRows 12 = .ok (.getfield 171, 3) := by decide +kernel
theorem dX11_fillRows_15 : decode cX11_fillRows 15 = .ok (.iconst 3, 1) := by decide +kernel
theorem dX11_fillRows_16 : decode cX11_fillRows 16 = .ok (.iaload, 1) := by decide +kernel
theorem dX11_fillRows_17 : decode cX11_fillRows 17 = .ok (.istore 4, 2) := by decide +kernel
theorem dX11_fillRows_19 : decode cX11_fillRows 19 = .ok (.aload_n 0, 1) := by decide +kernel
theorem dX11_fillRows_20 : decode cX11_fillRows 20 = .ok (.getfield 10, 3) := by decide +kernel
theorem dX11_fillRows_23 : decode cX11_fillRows 23 = .ok (.invokevirtual 174, 3) := by decide +kernel
theorem dX11_fillRows_26 : decode cX11_fillRows 26 = .ok (.istore 5, 2) := by decide +kernel
theorem dX11_fillRows_28 : decode cX11_fillRows 28 = .ok (.iconst 0, 1) := by decide +kernel
theorem dX11_fillRows_29 : decode cX11_fillRows 29 = .ok (.istore 6, 2) := by decide +kernel
theorem dX11_fillRows_31 : decode cX11_fillRows 31 = .ok (.iload 6, 2) := by decide +kernel
theorem dX11_fillRows_33 : decode cX11_fillRows 33 = .ok (.iload_n 2, 1) := by decide +kernel
theorem dX11_fillRows_34 : decode cX11_fillRows 34 = .ok (.if_icmp .ge 103, 3) := by decide +kernel
theorem dX11_fillRows_37 : decode cX11_fillRows 37 = .ok (.iload 6, 2) := by decide +kernel
theorem dX11_fillRows_39 : decode cX11_fillRows 39 = .ok (.bipush 12, 2) := by decide +kernel
theorem dX11_fillRows_41 : decode cX11_fillRows 41 = .ok (.if_icmp .ge 96, 3) := by decide +kernel
theorem dX11_fillRows_44 : decode cX11_fillRows 44 = .ok (.iload_n 3, 1) := by decide +kernel
theorem dX11_fillRows_45 : decode cX11_fillRows 45 = .ok (.invokestatic 191, 3) := by decide +kernel
theorem dX11_fillRows_48 : decode cX11_fillRows 48 = .ok (.istore_n 3, 1) := by decide +kernel
theorem dX11_fillRows_49 : decode cX11_fillRows 49 = .ok (.aload_n 0, 1) := by decide +kernel
theorem dX11_fillRows_50 : decode cX11_fillRows 50 = .ok (.getfield 10, 3) := by decide +kernel
theorem dX11_fillRows_53 : decode cX11_fillRows 53 = .ok (.iload_n 3, 1) := by decide +kernel
theorem dX11_fillRows_54 : decode cX11_fillRows 54 = .ok (.invokevirtual 194, 3) := by decide +kernel
theorem dX11_fillRows_57 : decode cX11_fillRows 57 = .ok (.istore 7, 2) := by decide +kernel
theorem dX11_fillRows_59 : decode cX11_fillRows 59 = .ok (.aload_n 0, 1) := by decide +kernel
theorem dX11_fillRows_60 : decode cX11_fillRows 60 = .ok (.getfield 10, 3) := by decide +kernel
theorem dX11_fillRows_63 : decode cX11_fillRows 63 = .ok (.iload 7, 2) := by decide +kernel
theorem dX11_fillRows_65 : decode cX11_fillRows 65 = .ok (.iload 4, 2) := by decide +kernel
theorem dX11_fillRows_67 : decode cX11_fillRows 67 = .ok (.iload 5, 2) := by decide +kernel
theorem dX11_fillRows_69 : decode cX11_fillRows 69 = .ok (.invokevirtual 182, 3) := by decide +kernel
theorem dX11_fillRows_72 : decode cX11_fillRows 72 = .ok (.istore 8, 2) := by decide +kernel
theorem dX11_fillRows_74 : decode cX11_fillRows 74 = .ok (.aload_n 1, 1) := by decide +kernel
theorem dX11_fillRows_75 : decode cX11_fillRows 75 = .ok (.iload 6, 2) := by decide +kernel
theorem dX11_fillRows_77 : decode cX11_fillRows 77 = .ok (.aaload, 1) := by decide +kernel
theorem dX11_fillRows_78 : decode cX11_fillRows 78 = .ok (.iconst 0, 1) := by decide +kernel
theorem dX11_fillRows_79 : decode cX11_fillRows 79 = .ok (.iload 7, 2) := by decide +kernel
theorem dX11_fillRows_81 : decode cX11_fillRows 81 = .ok (.iastore, 1) := by decide +kernel
theorem dX11_fillRows_82 : decode cX11_fillRows 82 = .ok (.aload_n 1, 1) := by decide +kernel
theorem dX11_fillRows_83 : decode cX11_fillRows 83 = .ok (.iload 6, 2) := by decide +kernel
theorem dX11_fillRows_85 : decode cX11_fillRows 85 = .ok (.aaload, 1) := by decide +kernel
theorem dX11_fillRows_86 : decode cX11_fillRows 86 = .ok (.iconst 1, 1) := by decide +kernel
theorem dX11_fillRows_87 : decode cX11_fillRows 87 = .ok (.iload 8, 2) := by decide +kernel
theorem dX11_fillRows_89 : decode cX11_fillRows 89 = .ok (.iastore, 1) := by decide +kernel
theorem dX11_fillRows_90 : decode cX11_fillRows 90 = .ok (.aload_n 1, 1) := by decide +kernel
theorem dX11_fillRows_91 : decode cX11_fillRows 91 = .ok (.iload 6, 2) := by decide +kernel
theorem dX11_fillRows_93 : decode cX11_fillRows 93 = .ok (.aaload, 1) := by decide +kernel
theorem dX11_fillRows_94 : decode cX11_fillRows 94 = .ok (.iconst 2, 1) := by decide +kernel
theorem dX11_fillRows_95 : decode cX11_fillRows 95 = .ok (.aload_n 0, 1) := by decide +kernel
theorem dX11_fillRows_96 : decode cX11_fillRows 96 = .ok (.getfield 10, 3) := by decide +kernel
theorem dX11_fillRows_99 : decode cX11_fillRows 99 = .ok (.iload 8, 2) := by decide +kernel
theorem dX11_fillRows_101 : decode cX11_fillRows 101 = .ok (.invokevirtual 317, 3) := by decide +kernel
theorem dX11_fillRows_104 : decode cX11_fillRows 104 = .ok (.ifCond .eq 7, 3) := by decide +kernel
theorem dX11_fillRows_107 : decode cX11_fillRows 107 = .ok (.iconst 1, 1) := by decide +kernel
theorem dX11_fillRows_108 : decode cX11_fillRows 108 = .ok (.goto 4, 3) := by decide +kernel
theorem dX11_fillRows_111 : decode cX11_fillRows 111 = .ok (.iconst 0, 1) := by decide +kernel
theorem dX11_fillRows_112 : decode cX11_fillRows 112 = .ok (.iastore, 1) := by decide +kernel
theorem dX11_fillRows_113 : decode cX11_fillRows 113 = .ok (.aload_n 0, 1) := by decide +kernel
theorem dX11_fillRows_114 : decode cX11_fillRows 114 = .ok (.getfield 10, 3) := by decide +kernel
theorem dX11_fillRows_117 : decode cX11_fillRows 117 = .ok (.iload 8, 2) := by decide +kernel
theorem dX11_fillRows_119 : decode cX11_fillRows 119 = .ok (.iload 4, 2) := by decide +kernel
theorem dX11_fillRows_121 : decode cX11_fillRows 121 = .ok (.iload 5, 2) := by decide +kernel
theorem dX11_fillRows_123 : decode cX11_fillRows 123 = .ok (.invokevirtual 320, 3) := by decide +kernel
theorem dX11_fillRows_126 : decode cX11_fillRows 126 = .ok (.istore 5, 2) := by decide +kernel
theorem dX11_fillRows_128 : decode cX11_fillRows 128 = .ok (.iinc 4 1, 3) := by decide +kernel
theorem dX11_fillRows_131 : decode cX11_fillRows 131 = .ok (.iinc 6 1, 3) := by decide +kernel
theorem dX11_fillRows_134 : decode cX11_fillRows 134 = .ok (.goto (-103), 3) := by decide +kernel
theorem dX11_fillRows_137 : decode cX11_fillRows 137 = .ok (.return_, 1) := by decide +kernel
theorem dX11_partOf_0 : decode cX11_partOf 0 = .ok (.lload_n 0, 1) := by decide +kernel
theorem dX11_partOf_1 : decode cX11_partOf 1 = .ok (.invokestatic 323, 3) := by decide +kernel
theorem dX11_partOf_4 : decode cX11_partOf 4 = .ok (.lload_n 2, 1) := by decide +kernel
theorem dX11_partOf_5 : decode cX11_partOf 5 = .ok (.invokestatic 327, 3) := by decide +kernel
theorem dX11_partOf_8 : decode cX11_partOf 8 = .ok (.lstore 5, 2) := by decide +kernel
theorem dX11_partOf_10 : decode cX11_partOf 10 = .ok (.lload 5, 2) := by decide +kernel
theorem dX11_partOf_12 : decode cX11_partOf 12 = .ok (.lconst 0, 1) := by decide +kernel
theorem dX11_partOf_13 : decode cX11_partOf 13 = .ok (.lcmp, 1) := by decide +kernel
theorem dX11_partOf_14 : decode cX11_partOf 14 = .ok (.ifCond .ne 5, 3) := by decide +kernel
theorem dX11_partOf_17 : decode cX11_partOf 17 = .ok (.lconst 0, 1) := by decide +kernel
theorem dX11_partOf_18 : decode cX11_partOf 18 = .ok (.lreturn, 1) := by decide +kernel
theorem dX11_partOf_19 : decode cX11_partOf 19 = .ok (.iload 4, 2) := by decide +kernel
theorem dX11_partOf_21 : decode cX11_partOf 21 = .ok (.ifCond .ne 7, 3) := by decide +kernel
theorem dX11_partOf_24 : decode cX11_partOf 24 = .ok (.lload_n 0, 1) := by decide +kernel
theorem dX11_partOf_25 : decode cX11_partOf 25 = .ok (.goto 4, 3) := by decide +kernel
theorem dX11_partOf_28 : decode cX11_partOf 28 = .ok (.lload_n 2, 1) := by decide +kernel
theorem dX11_partOf_29 : decode cX11_partOf 29 = .ok (.lload 5, 2) := by decide +kernel
theorem dX11_partOf_31 : decode cX11_partOf 31 = .ok (.ldiv, 1) := by decide +kernel
theorem dX11_partOf_32 : decode cX11_partOf 32 = .ok (.lreturn, 1) := by decide +kernel
theorem dX11_commonDivisor_0 : decode cX11_commonDivisor 0 = .ok (.lload_n 0, 1) := by decide +kernel
theorem dX11_commonDivisor_1 : decode cX11_commonDivisor 1 = .ok (.lstore 4, 2) := by decide +kernel
theorem dX11_commonDivisor_3 : decode cX11_commonDivisor 3 = .ok (.lload_n 2, 1) := by decide +kernel
theorem dX11_commonDivisor_4 : decode cX11_commonDivisor 4 = .ok (.lstore 6, 2) := by decide +kernel
theorem dX11_commonDivisor_6 : decode cX11_commonDivisor 6 = .ok (.iconst 0, 1) := by decide +kernel
theorem dX11_commonDivisor_7 : decode cX11_commonDivisor 7 = .ok (.istore 8, 2) := by decide +kernel
theorem dX11_commonDivisor_9 : decode cX11_commonDivisor 9 = .ok (.iload 8, 2) := by decide +kernel
theorem dX11_commonDivisor_11 : decode cX11_commonDivisor 11 = .ok (.bipush 100, 2) := by decide +kernel
theorem dX11_commonDivisor_13 : decode cX11_commonDivisor 13 = .ok (.if_icmp .ge 31, 3) := by decide +kernel
theorem dX11_commonDivisor_16 : decode cX11_commonDivisor 16 = .ok (.lload 6, 2) := by decide +kernel
theorem dX11_commonDivisor_18 : decode cX11_commonDivisor 18 = .ok (.lconst 0, 1) := by decide +kernel
theorem dX11_commonDivisor_19 : decode cX11_commonDivisor 19 = .ok (.lcmp, 1) := by decide +kernel
theorem dX11_commonDivisor_20 : decode cX11_commonDivisor 20 = .ok (.ifCond .eq 24, 3) := by decide +kernel
theorem dX11_commonDivisor_23 : decode cX11_commonDivisor 23 = .ok (.lload 4, 2) := by decide +kernel
theorem dX11_commonDivisor_25 : decode cX11_commonDivisor 25 = .ok (.lload 6, 2) := by decide +kernel
theorem dX11_commonDivisor_27 : decode cX11_commonDivisor 27 = .ok (.lrem, 1) := by decide +kernel
theorem dX11_commonDivisor_28 : decode cX11_commonDivisor 28 = .ok (.lstore 9, 2) := by decide +kernel
theorem dX11_commonDivisor_30 : decode cX11_commonDivisor 30 = .ok (.lload 6, 2) := by decide +kernel
theorem dX11_commonDivisor_32 : decode cX11_commonDivisor 32 = .ok (.lstore 4, 2) := by decide +kernel
theorem dX11_commonDivisor_34 : decode cX11_commonDivisor 34 = .ok (.lload 9, 2) := by decide +kernel
theorem dX11_commonDivisor_36 : decode cX11_commonDivisor 36 = .ok (.lstore 6, 2) := by decide +kernel
theorem dX11_commonDivisor_38 : decode cX11_commonDivisor 38 = .ok (.iinc 8 1, 3) := by decide +kernel
theorem dX11_commonDivisor_41 : decode cX11_commonDivisor 41 = .ok (.goto (-32), 3) := by decide +kernel
theorem dX11_commonDivisor_44 : decode cX11_commonDivisor 44 = .ok (.lload 4, 2) := by decide +kernel
theorem dX11_commonDivisor_46 : decode cX11_commonDivisor 46 = .ok (.lreturn, 1) := by decide +kernel
theorem dX11_narrowed_0 : decode cX11_narrowed 0 = .ok (.iload_n 1, 1) := by decide +kernel
theorem dX11_narrowed_1 : decode cX11_narrowed 1 = .ok (.ifCond .ne 6, 3) := by decide +kernel
theorem dX11_narrowed_4 : decode cX11_narrowed 4 = .ok (.iload_n 0, 1) := by decide +kernel
theorem dX11_narrowed_5 : decode cX11_narrowed 5 = .ok (.i2b, 1) := by decide +kernel
theorem dX11_narrowed_6 : decode cX11_narrowed 6 = .ok (.ireturn, 1) := by decide +kernel
theorem dX11_narrowed_7 : decode cX11_narrowed 7 = .ok (.iload_n 1, 1) := by decide +kernel
theorem dX11_narrowed_8 : decode cX11_narrowed 8 = .ok (.iconst 1, 1) := by decide +kernel
theorem dX11_narrowed_9 : decode cX11_narrowed 9 = .ok (.if_icmp .ne 6, 3) := by decide +kernel
theorem dX11_narrowed_12 : decode cX11_narrowed 12 = .ok (.iload_n 0, 1) := by decide +kernel
theorem dX11_narrowed_13 : decode cX11_narrowed 13 = .ok (.i2s, 1) := by decide +kernel
theorem dX11_narrowed_14 : decode cX11_narrowed 14 = .ok (.ireturn, 1) := by decide +kernel
theorem dX11_narrowed_15 : decode cX11_narrowed 15 = .ok (.iload_n 0, 1) := by decide +kernel
theorem dX11_narrowed_16 : decode cX11_narrowed 16 = .ok (.ireturn, 1) := by decide +kernel
theorem dX11_fillShelf_0 : decode cX11_fillShelf 0 = .ok (.aload_n 0, 1) := by decide +kernel
theorem dX11_fillShelf_1 : decode cX11_fillShelf 1 = .ok (.getfield 62, 3) := by decide +kernel
theorem dX11_fillShelf_4 : decode cX11_fillShelf 4 = .ok (.iload_n 1, 1) := by decide +kernel
theorem dX11_fillShelf_5 : decode cX11_fillShelf 5 = .ok (.iload_n 2, 1) := by decide +kernel
theorem dX11_fillShelf_6 : decode cX11_fillShelf 6 = .ok (.iastore, 1) := by decide +kernel
theorem dX11_fillShelf_7 : decode cX11_fillShelf 7 = .ok (.aload_n 0, 1) := by decide +kernel
theorem dX11_fillShelf_8 : decode cX11_fillShelf 8 = .ok (.getfield 65, 3) := by decide +kernel
theorem dX11_fillShelf_11 : decode cX11_fillShelf 11 = .ok (.iload_n 1, 1) := by decide +kernel
theorem dX11_fillShelf_12 : decode cX11_fillShelf 12 = .ok (.iload_n 3, 1) := by decide +kernel
theorem dX11_fillShelf_13 : decode cX11_fillShelf 13 = .ok (.iastore, 1) := by decide +kernel
theorem dX11_fillShelf_14 : decode cX11_fillShelf 14 = .ok (.aload_n 0, 1) := by decide +kernel
theorem dX11_fillShelf_15 : decode cX11_fillShelf 15 = .ok (.getfield 68, 3) := by decide +kernel
theorem dX11_fillShelf_18 : decode cX11_fillShelf 18 = .ok (.iload_n 1, 1) := by decide +kernel
theorem dX11_fillShelf_19 : decode cX11_fillShelf 19 = .ok (.iload 4, 2) := by decide +kernel
theorem dX11_fillShelf_21 : decode cX11_fillShelf 21 = .ok (.iastore, 1) := by decide +kernel
theorem dX11_fillShelf_22 : decode cX11_fillShelf 22 = .ok (.return_, 1) := by decide +kernel
theorem dX11_thingOn_0 : decode cX11_thingOn 0 = .ok (.aload_n 0, 1) := by decide +kernel
theorem dX11_thingOn_1 : decode cX11_thingOn 1 = .ok (.getfield 62, 3) := by decide +kernel
theorem dX11_thingOn_4 : decode cX11_thingOn 4 = .ok (.iload_n 1, 1) := by decide +kernel
theorem dX11_thingOn_5 : decode cX11_thingOn 5 = .ok (.iaload, 1) := by decide +kernel
theorem dX11_thingOn_6 : decode cX11_thingOn 6 = .ok (.ifCond .eq 5, 3) := by decide +kernel
theorem dX11_thingOn_9 : decode cX11_thingOn 9 = .ok (.aconst_null, 1) := by decide +kernel
theorem dX11_thingOn_10 : decode cX11_thingOn 10 = .ok (.areturn, 1) := by decide +kernel
theorem dX11_thingOn_11 : decode cX11_thingOn 11 = .ok (.aload_n 0, 1) := by decide +kernel
theorem dX11_thingOn_12 : decode cX11_thingOn 12 = .ok (.getfield 65, 3) := by decide +kernel
theorem dX11_thingOn_15 : decode cX11_thingOn 15 = .ok (.iload_n 1, 1) := by decide +kernel
theorem dX11_thingOn_16 : decode cX11_thingOn 16 = .ok (.iaload, 1) := by decide +kernel
theorem dX11_thingOn_17 : decode cX11_thingOn 17 = .ok (.istore_n 2, 1) := by decide +kernel
theorem dX11_thingOn_18 : decode cX11_thingOn 18 = .ok (.aload_n 0, 1) := by decide +kernel
theorem dX11_thingOn_19 : decode cX11_thingOn 19 = .ok (.iload_n 2, 1) := by decide +kernel
theorem dX11_thingOn_20 : decode cX11_thingOn 20 = .ok (.invokevirtual 131, 3) := by decide +kernel
theorem dX11_thingOn_23 : decode cX11_thingOn 23 = .ok (.ifCond .eq 20, 3) := by decide +kernel
theorem dX11_thingOn_26 : decode cX11_thingOn 26 = .ok (.aload_n 0, 1) := by decide +kernel
theorem dX11_thingOn_27 : decode cX11_thingOn 27 = .ok (.getfield 10, 3) := by decide +kernel
theorem dX11_thingOn_30 : decode cX11_thingOn 30 = .ok (.getfield 135, 3) := by decide +kernel
theorem dX11_thingOn_33 : decode cX11_thingOn 33 = .ok (.iload_n 2, 1) := by decide +kernel
theorem dX11_thingOn_34 : decode cX11_thingOn 34 = .ok (.iaload, 1) := by decide +kernel
theorem dX11_thingOn_35 : decode cX11_thingOn 35 = .ok (.iconst 0, 1) := by decide +kernel
theorem dX11_thingOn_36 : decode cX11_thingOn 36 = .ok (.iconst 5, 1) := by decide +kernel
theorem dX11_thingOn_37 : decode cX11_thingOn 37 = .ok (.invokestatic 103, 3) := by decide +kernel
theorem dX11_thingOn_40 : decode cX11_thingOn 40 = .ok (.ifCond .ne 5, 3) := by decide +kernel
theorem dX11_thingOn_43 : decode cX11_thingOn 43 = .ok (.aconst_null, 1) := by decide +kernel
theorem dX11_thingOn_44 : decode cX11_thingOn 44 = .ok (.areturn, 1) := by decide +kernel
theorem dX11_thingOn_45 : decode cX11_thingOn 45 = .ok (.aload_n 0, 1) := by decide +kernel
theorem dX11_thingOn_46 : decode cX11_thingOn 46 = .ok (.getfield 73, 3) := by decide +kernel
theorem dX11_thingOn_49 : decode cX11_thingOn 49 = .ok (.aload_n 0, 1) := by decide +kernel
theorem dX11_thingOn_50 : decode cX11_thingOn 50 = .ok (.getfield 10, 3) := by decide +kernel
theorem dX11_thingOn_53 : decode cX11_thingOn 53 = .ok (.getfield 135, 3) := by decide +kernel
theorem dX11_thingOn_56 : decode cX11_thingOn 56 = .ok (.iload_n 2, 1) := by decide +kernel
theorem dX11_thingOn_57 : decode cX11_thingOn 57 = .ok (.iaload, 1) := by decide +kernel
theorem dX11_thingOn_58 : decode cX11_thingOn 58 = .ok (.aaload, 1) := by decide +kernel
theorem dX11_thingOn_59 : decode cX11_thingOn 59 = .ok (.astore_n 3, 1) := by decide +kernel
theorem dX11_thingOn_60 : decode cX11_thingOn 60 = .ok (.aload_n 3, 1) := by decide +kernel
theorem dX11_thingOn_61 : decode cX11_thingOn 61 = .ok (.iload_n 2, 1) := by decide +kernel
theorem dX11_thingOn_62 : decode cX11_thingOn 62 = .ok (.putfield 280, 3) := by decide +kernel
theorem dX11_thingOn_65 : decode cX11_thingOn 65 = .ok (.aload_n 3, 1) := by decide +kernel
theorem dX11_thingOn_66 : decode cX11_thingOn 66 = .ok (.aload_n 0, 1) := by decide +kernel
theorem dX11_thingOn_67 : decode cX11_thingOn 67 = .ok (.getfield 10, 3) := by decide +kernel
theorem dX11_thingOn_70 : decode cX11_thingOn 70 = .ok (.getfield 138, 3) := by decide +kernel
theorem dX11_thingOn_73 : decode cX11_thingOn 73 = .ok (.iload_n 2, 1) := by decide +kernel
theorem dX11_thingOn_74 : decode cX11_thingOn 74 = .ok (.iaload, 1) := by decide +kernel
theorem dX11_thingOn_75 : decode cX11_thingOn 75 = .ok (.putfield 331, 3) := by decide +kernel
theorem dX11_thingOn_78 : decode cX11_thingOn 78 = .ok (.aload_n 3, 1) := by decide +kernel
theorem dX11_thingOn_79 : decode cX11_thingOn 79 = .ok (.areturn, 1) := by decide +kernel
theorem dX11_isUnder_0 : decode cX11_isUnder 0 = .ok (.iload_n 1, 1) := by decide +kernel
theorem dX11_isUnder_1 : decode cX11_isUnder 1 = .ok (.tableswitch 66 0 5 #[39, 41, 46, 51, 56, 61], 39) := by decide +kernel
theorem dX11_isUnder_40 : decode cX11_isUnder 40 = .ok (.iconst 1, 1) := by decide +kernel
theorem dX11_isUnder_41 : decode cX11_isUnder 41 = .ok (.ireturn, 1) := by decide +kernel
theorem dX11_isUnder_42 : decode cX11_isUnder 42 = .ok (.aload_n 0, 1) := by decide +kernel
theorem dX11_isUnder_43 : decode cX11_isUnder 43 = .ok (.instanceof 84, 3) := by decide +kernel
theorem dX11_isUnder_46 : decode cX11_isUnder 46 = .ok (.ireturn, 1) := by decide +kernel
theorem dX11_isUnder_47 : decode cX11_isUnder 47 = .ok (.aload_n 0, 1) := by decide +kernel
theorem dX11_isUnder_48 : decode cX11_isUnder 48 = .ok (.instanceof 87, 3) := by decide +kernel
theorem dX11_isUnder_51 : decode cX11_isUnder 51 = .ok (.ireturn, 1) := by decide +kernel
theorem dX11_isUnder_52 : decode cX11_isUnder 52 = .ok (.aload_n 0, 1) := by decide +kernel
theorem dX11_isUnder_53 : decode cX11_isUnder 53 = .ok (.instanceof 90, 3) := by decide +kernel
theorem dX11_isUnder_56 : decode cX11_isUnder 56 = .ok (.ireturn, 1) := by decide +kernel
theorem dX11_isUnder_57 : decode cX11_isUnder 57 = .ok (.aload_n 0, 1) := by decide +kernel
theorem dX11_isUnder_58 : decode cX11_isUnder 58 = .ok (.instanceof 93, 3) := by decide +kernel
theorem dX11_isUnder_61 : decode cX11_isUnder 61 = .ok (.ireturn, 1) := by decide +kernel
theorem dX11_isUnder_62 : decode cX11_isUnder 62 = .ok (.aload_n 0, 1) := by decide +kernel
theorem dX11_isUnder_63 : decode cX11_isUnder 63 = .ok (.instanceof 96, 3) := by decide +kernel
theorem dX11_isUnder_66 : decode cX11_isUnder 66 = .ok (.ireturn, 1) := by decide +kernel
theorem dX11_isUnder_67 : decode cX11_isUnder 67 = .ok (.iconst 0, 1) := by decide +kernel
theorem dX11_isUnder_68 : decode cX11_isUnder 68 = .ok (.ireturn, 1) := by decide +kernel
theorem dX12_init_0 : decode cX12_init 0 = .ok (.aload_n 0, 1) := by decide +kernel
theorem dX12_init_1 : decode cX12_init 1 = .ok (.invokespecial 1, 3) := by decide +kernel
theorem dX12_init_4 : decode cX12_init 4 = .ok (.aload_n 0, 1) := by decide +kernel
theorem dX12_init_5 : decode cX12_init 5 = .ok (.bipush 6, 2) := by decide +kernel
theorem dX12_init_7 : decode cX12_init 7 = .ok (.newarray .int, 2) := by decide +kernel
theorem dX12_init_9 : decode cX12_init 9 = .ok (.putfield 7, 3) := by decide +kernel
theorem dX12_init_12 : decode cX12_init 12 = .ok (.aload_n 0, 1) := by decide +kernel
theorem dX12_init_13 : decode cX12_init 13 = .ok (.bipush 6, 2) := by decide +kernel
theorem dX12_init_15 : decode cX12_init 15 = .ok (.newarray .int, 2) := by decide +kernel
theorem dX12_init_17 : decode cX12_init 17 = .ok (.putfield 13, 3) := by decide +kernel
theorem dX12_init_20 : decode cX12_init 20 = .ok (.aload_n 0, 1) := by decide +kernel
theorem dX12_init_21 : decode cX12_init 21 = .ok (.bipush 6, 2) := by decide +kernel
theorem dX12_init_23 : decode cX12_init 23 = .ok (.newarray .int, 2) := by decide +kernel
theorem dX12_init_25 : decode cX12_init 25 = .ok (.putfield 16, 3) := by decide +kernel
theorem dX12_init_28 : decode cX12_init 28 = .ok (.aload_n 0, 1) := by decide +kernel
theorem dX12_init_29 : decode cX12_init 29 = .ok (.bipush 6, 2) := by decide +kernel
theorem dX12_init_31 : decode cX12_init 31 = .ok (.newarray .int, 2) := by decide +kernel
theorem dX12_init_33 : decode cX12_init 33 = .ok (.putfield 19, 3) := by decide +kernel
theorem dX12_init_36 : decode cX12_init 36 = .ok (.aload_n 0, 1) := by decide +kernel
theorem dX12_init_37 : decode cX12_init 37 = .ok (.bipush 8, 2) := by decide +kernel
theorem dX12_init_39 : decode cX12_init 39 = .ok (.newarray .int, 2) := by decide +kernel
theorem dX12_init_41 : decode cX12_init 41 = .ok (.putfield 22, 3) := by decide +kernel
theorem dX12_init_44 : decode cX12_init 44 = .ok (.aload_n 0, 1) := by decide +kernel
theorem dX12_init_45 : decode cX12_init 45 = .ok (.bipush 48, 2) := by decide +kernel
theorem dX12_init_47 : decode cX12_init 47 = .ok (.newarray .int, 2) := by decide +kernel
theorem dX12_init_49 : decode cX12_init 49 = .ok (.putfield 25, 3) := by decide +kernel
theorem dX12_init_52 : decode cX12_init 52 = .ok (.aload_n 0, 1) := by decide +kernel
theorem dX12_init_53 : decode cX12_init 53 = .ok (.iconst 3, 1) := by decide +kernel
theorem dX12_init_54 : decode cX12_init 54 = .ok (.newarray .int, 2) := by decide +kernel
theorem dX12_init_56 : decode cX12_init 56 = .ok (.dup, 1) := by decide +kernel
theorem dX12_init_57 : decode cX12_init 57 = .ok (.iconst 0, 1) := by decide +kernel
theorem dX12_init_58 : decode cX12_init 58 = .ok (.iconst 1, 1) := by decide +kernel
theorem dX12_init_59 : decode cX12_init 59 = .ok (.iastore, 1) := by decide +kernel
theorem dX12_init_60 : decode cX12_init 60 = .ok (.dup, 1) := by decide +kernel
theorem dX12_init_61 : decode cX12_init 61 = .ok (.iconst 1, 1) := by decide +kernel
theorem dX12_init_62 : decode cX12_init 62 = .ok (.iconst 0, 1) := by decide +kernel
theorem dX12_init_63 : decode cX12_init 63 = .ok (.iastore, 1) := by decide +kernel
theorem dX12_init_64 : decode cX12_init 64 = .ok (.dup, 1) := by decide +kernel
theorem dX12_init_65 : decode cX12_init 65 = .ok (.iconst 2, 1) := by decide +kernel
theorem dX12_init_66 : decode cX12_init 66 = .ok (.iconst 0, 1) := by decide +kernel
theorem dX12_init_67 : decode cX12_init 67 = .ok (.iastore, 1) := by decide +kernel
theorem dX12_init_68 : decode cX12_init 68 = .ok (.putfield 28, 3) := by decide +kernel
theorem dX12_init_71 : decode cX12_init 71 = .ok (.aload_n 0, 1) := by decide +kernel
theorem dX12_init_72 : decode cX12_init 72 = .ok (.iconst 3, 1) := by decide +kernel
theorem dX12_init_73 : decode cX12_init 73 = .ok (.newarray .int, 2) := by decide +kernel
theorem dX12_init_75 : decode cX12_init 75 = .ok (.dup, 1) := by decide +kernel
theorem dX12_init_76 : decode cX12_init 76 = .ok (.iconst 0, 1) := by decide +kernel
theorem dX12_init_77 : decode cX12_init 77 = .ok (.iconst 1, 1) := by decide +kernel
theorem dX12_init_78 : decode cX12_init 78 = .ok (.iastore, 1) := by decide +kernel
theorem dX12_init_79 : decode cX12_init 79 = .ok (.dup, 1) := by decide +kernel
theorem dX12_init_80 : decode cX12_init 80 = .ok (.iconst 1, 1) := by decide +kernel
theorem dX12_init_81 : decode cX12_init 81 = .ok (.iconst 0, 1) := by decide +kernel
theorem dX12_init_82 : decode cX12_init 82 = .ok (.iastore, 1) := by decide +kernel
theorem dX12_init_83 : decode cX12_init 83 = .ok (.dup, 1) := by decide +kernel
theorem dX12_init_84 : decode cX12_init 84 = .ok (.iconst 2, 1) := by decide +kernel
theorem dX12_init_85 : decode cX12_init 85 = .ok (.iconst 0, 1) := by decide +kernel
theorem dX12_init_86 : decode cX12_init 86 = .ok (.iastore, 1) := by decide +kernel
theorem dX12_init_87 : decode cX12_init 87 = .ok (.putfield 31, 3) := by decide +kernel
theorem dX12_init_90 : decode cX12_init 90 = .ok (.aload_n 0, 1) := by decide +kernel
theorem dX12_init_91 : decode cX12_init 91 = .ok (.iconst 3, 1) := by decide +kernel
theorem dX12_init_92 : decode cX12_init 92 = .ok (.newarray .int, 2) := by decide +kernel
theorem dX12_init_94 : decode cX12_init 94 = .ok (.dup, 1) := by decide +kernel
theorem dX12_init_95 : decode cX12_init 95 = .ok (.iconst 0, 1) := by decide +kernel
theorem dX12_init_96 : decode cX12_init 96 = .ok (.iconst 3, 1) := by decide +kernel
theorem dX12_init_97 : decode cX12_init 97 = .ok (.iastore, 1) := by decide +kernel
theorem dX12_init_98 : decode cX12_init 98 = .ok (.dup, 1) := by decide +kernel
theorem dX12_init_99 : decode cX12_init 99 = .ok (.iconst 1, 1) := by decide +kernel
theorem dX12_init_100 : decode cX12_init 100 = .ok (.iconst 1, 1) := by decide +kernel
theorem dX12_init_101 : decode cX12_init 101 = .ok (.iastore, 1) := by decide +kernel
theorem dX12_init_102 : decode cX12_init 102 = .ok (.dup, 1) := by decide +kernel
theorem dX12_init_103 : decode cX12_init 103 = .ok (.iconst 2, 1) := by decide +kernel
theorem dX12_init_104 : decode cX12_init 104 = .ok (.bipush 20, 2) := by decide +kernel
theorem dX12_init_106 : decode cX12_init 106 = .ok (.iastore, 1) := by decide +kernel
theorem dX12_init_107 : decode cX12_init 107 = .ok (.putfield 34, 3) := by decide +kernel
theorem dX12_init_110 : decode cX12_init 110 = .ok (.aload_n 0, 1) := by decide +kernel
theorem dX12_init_111 : decode cX12_init 111 = .ok (.bipush 35, 2) := by decide +kernel
theorem dX12_init_113 : decode cX12_init 113 = .ok (.newarray .int, 2) := by decide +kernel
theorem dX12_init_115 : decode cX12_init 115 = .ok (.dup, 1) := by decide +kernel
theorem dX12_init_116 : decode cX12_init 116 = .ok (.iconst 0, 1) := by decide +kernel
theorem dX12_init_117 : decode cX12_init 117 = .ok (.iconst 0, 1) := by decide +kernel
theorem dX12_init_118 : decode cX12_init 118 = .ok (.iastore, 1) := by decide +kernel
theorem dX12_init_119 : decode cX12_init 119 = .ok (.dup, 1) := by decide +kernel
theorem dX12_init_120 : decode cX12_init 120 = .ok (.iconst 1, 1) := by decide +kernel
theorem dX12_init_121 : decode cX12_init 121 = .ok (.iconst 0, 1) := by decide +kernel
theorem dX12_init_122 : decode cX12_init 122 = .ok (.iastore, 1) := by decide +kernel
theorem dX12_init_123 : decode cX12_init 123 = .ok (.dup, 1) := by decide +kernel
theorem dX12_init_124 : decode cX12_init 124 = .ok (.iconst 2, 1) := by decide +kernel
theorem dX12_init_125 : decode cX12_init 125 = .ok (.iconst 0, 1) := by decide +kernel
theorem dX12_init_126 : decode cX12_init 126 = .ok (.iastore, 1) := by decide +kernel
theorem dX12_init_127 : decode cX12_init 127 = .ok (.dup, 1) := by decide +kernel
theorem dX12_init_128 : decode cX12_init 128 = .ok (.iconst 3, 1) := by decide +kernel
theorem dX12_init_129 : decode cX12_init 129 = .ok (.iconst 0, 1) := by decide +kernel
theorem dX12_init_130 : decode cX12_init 130 = .ok (.iastore, 1) := by decide +kernel
theorem dX12_init_131 : decode cX12_init 131 = .ok (.dup, 1) := by decide +kernel
theorem dX12_init_132 : decode cX12_init 132 = .ok (.iconst 4, 1) := by decide +kernel
theorem dX12_init_133 : decode cX12_init 133 = .ok (.iconst 0, 1) := by decide +kernel
theorem dX12_init_134 : decode cX12_init 134 = .ok (.iastore, 1) := by decide +kernel
theorem dX12_init_135 : decode cX12_init 135 = .ok (.dup, 1) := by decide +kernel
theorem dX12_init_136 : decode cX12_init 136 = .ok (.iconst 5, 1) := by decide +kernel
theorem dX12_init_137 : decode cX12_init 137 = .ok (.iconst 0, 1) := by decide +kernel
theorem dX12_init_138 : decode cX12_init 138 = .ok (.iastore, 1) := by decide +kernel
theorem dX12_init_139 : decode cX12_init 139 = .ok (.dup, 1) := by decide +kernel
theorem dX12_init_140 : decode cX12_init 140 = .ok (.bipush 6, 2) := by decide +kernel
theorem dX12_init_142 : decode cX12_init 142 = .ok (.iconst 1, 1) := by decide +kernel
theorem dX12_init_143 : decode cX12_init 143 = .ok (.iastore, 1) := by decide +kernel
theorem dX12_init_144 : decode cX12_init 144 = .ok (.dup, 1) := by decide +kernel
theorem dX12_init_145 : decode cX12_init 145 = .ok (.bipush 7, 2) := by decide +kernel
theorem dX12_init_147 : decode cX12_init 147 = .ok (.iconst 0, 1) := by decide +kernel
theorem dX12_init_148 : decode cX12_init 148 = .ok (.iastore, 1) := by decide +kernel
theorem dX12_init_149 : decode cX12_init 149 = .ok (.dup, 1) := by decide +kernel
theorem dX12_init_150 : decode cX12_init 150 = .ok (.bipush 8, 2) := by decide +kernel
theorem dX12_init_152 : decode cX12_init 152 = .ok (.iconst 0, 1) := by decide +kernel
theorem dX12_init_153 : decode cX12_init 153 = .ok (.iastore, 1) := by decide +kernel
theorem dX12_init_154 : decode cX12_init 154 = .ok (.dup, 1) := by decide +kernel
theorem dX12_init_155 : decode cX12_init 155 = .ok (.bipush 9, 2) := by decide +kernel
theorem dX12_init_157 : decode cX12_init 157 = .ok (.iconst 0, 1) := by decide +kernel
theorem dX12_init_158 : decode cX12_init 158 = .ok (.iastore, 1) := by decide +kernel
theorem dX12_init_159 : decode cX12_init 159 = .ok (.dup, 1) := by decide +kernel
theorem dX12_init_160 : decode cX12_init 160 = .ok (.bipush 10, 2) := by decide +kernel
theorem dX12_init_162 : decode cX12_init 162 = .ok (.iconst 0, 1) := by decide +kernel
theorem dX12_init_163 : decode cX12_init 163 = .ok (.iastore, 1) := by decide +kernel
theorem dX12_init_164 : decode cX12_init 164 = .ok (.dup, 1) := by decide +kernel
theorem dX12_init_165 : decode cX12_init 165 = .ok (.bipush 11, 2) := by decide +kernel
theorem dX12_init_167 : decode cX12_init 167 = .ok (.iconst 0, 1) := by decide +kernel
theorem dX12_init_168 : decode cX12_init 168 = .ok (.iastore, 1) := by decide +kernel
theorem dX12_init_169 : decode cX12_init 169 = .ok (.dup, 1) := by decide +kernel
theorem dX12_init_170 : decode cX12_init 170 = .ok (.bipush 12, 2) := by decide +kernel
theorem dX12_init_172 : decode cX12_init 172 = .ok (.iconst 0, 1) := by decide +kernel
theorem dX12_init_173 : decode cX12_init 173 = .ok (.iastore, 1) := by decide +kernel
theorem dX12_init_174 : decode cX12_init 174 = .ok (.dup, 1) := by decide +kernel
theorem dX12_init_175 : decode cX12_init 175 = .ok (.bipush 13, 2) := by decide +kernel
theorem dX12_init_177 : decode cX12_init 177 = .ok (.iconst 0, 1) := by decide +kernel
theorem dX12_init_178 : decode cX12_init 178 = .ok (.iastore, 1) := by decide +kernel
theorem dX12_init_179 : decode cX12_init 179 = .ok (.dup, 1) := by decide +kernel
theorem dX12_init_180 : decode cX12_init 180 = .ok (.bipush 14, 2) := by decide +kernel
theorem dX12_init_182 : decode cX12_init 182 = .ok (.iconst 0, 1) := by decide +kernel
theorem dX12_init_183 : decode cX12_init 183 = .ok (.iastore, 1) := by decide +kernel
theorem dX12_init_184 : decode cX12_init 184 = .ok (.dup, 1) := by decide +kernel
theorem dX12_init_185 : decode cX12_init 185 = .ok (.bipush 15, 2) := by decide +kernel
theorem dX12_init_187 : decode cX12_init 187 = .ok (.iconst 0, 1) := by decide +kernel
theorem dX12_init_188 : decode cX12_init 188 = .ok (.iastore, 1) := by decide +kernel
theorem dX12_init_189 : decode cX12_init 189 = .ok (.dup, 1) := by decide +kernel
theorem dX12_init_190 : decode cX12_init 190 = .ok (.bipush 16, 2) := by decide +kernel
theorem dX12_init_192 : decode cX12_init 192 = .ok (.iconst 0, 1) := by decide +kernel
theorem dX12_init_193 : decode cX12_init 193 = .ok (.iastore, 1) := by decide +kernel
theorem dX12_init_194 : decode cX12_init 194 = .ok (.dup, 1) := by decide +kernel
theorem dX12_init_195 : decode cX12_init 195 = .ok (.bipush 17, 2) := by decide +kernel
theorem dX12_init_197 : decode cX12_init 197 = .ok (.iconst 0, 1) := by decide +kernel
theorem dX12_init_198 : decode cX12_init 198 = .ok (.iastore, 1) := by decide +kernel
theorem dX12_init_199 : decode cX12_init 199 = .ok (.dup, 1) := by decide +kernel
theorem dX12_init_200 : decode cX12_init 200 = .ok (.bipush 18, 2) := by decide +kernel
theorem dX12_init_202 : decode cX12_init 202 = .ok (.iconst 0, 1) := by decide +kernel
theorem dX12_init_203 : decode cX12_init 203 = .ok (.iastore, 1) := by decide +kernel
theorem dX12_init_204 : decode cX12_init 204 = .ok (.dup, 1) := by decide +kernel
theorem dX12_init_205 : decode cX12_init 205 = .ok (.bipush 19, 2) := by decide +kernel
theorem dX12_init_207 : decode cX12_init 207 = .ok (.iconst 0, 1) := by decide +kernel
theorem dX12_init_208 : decode cX12_init 208 = .ok (.iastore, 1) := by decide +kernel
theorem dX12_init_209 : decode cX12_init 209 = .ok (.dup, 1) := by decide +kernel
theorem dX12_init_210 : decode cX12_init 210 = .ok (.bipush 20, 2) := by decide +kernel
theorem dX12_init_212 : decode cX12_init 212 = .ok (.iconst 0, 1) := by decide +kernel
theorem dX12_init_213 : decode cX12_init 213 = .ok (.iastore, 1) := by decide +kernel
theorem dX12_init_214 : decode cX12_init 214 = .ok (.dup, 1) := by decide +kernel
theorem dX12_init_215 : decode cX12_init 215 = .ok (.bipush 21, 2) := by decide +kernel
theorem dX12_init_217 : decode cX12_init 217 = .ok (.iconst 0, 1) := by decide +kernel
theorem dX12_init_218 : decode cX12_init 218 = .ok (.iastore, 1) := by decide +kernel
theorem dX12_init_219 : decode cX12_init 219 = .ok (.dup, 1) := by decide +kernel
theorem dX12_init_220 : decode cX12_init 220 = .ok (.bipush 22, 2) := by decide +kernel
theorem dX12_init_222 : decode cX12_init 222 = .ok (.iconst 0, 1) := by decide +kernel
theorem dX12_init_223 : decode cX12_init 223 = .ok (.iastore, 1) := by decide +kernel
theorem dX12_init_224 : decode cX12_init 224 = .ok (.dup, 1) := by decide +kernel
theorem dX12_init_225 : decode cX12_init 225 = .ok (.bipush 23, 2) := by decide +kernel
theorem dX12_init_227 : decode cX12_init 227 = .ok (.iconst 0, 1) := by decide +kernel
theorem dX12_init_228 : decode cX12_init 228 = .ok (.iastore, 1) := by decide +kernel
theorem dX12_init_229 : decode cX12_init 229 = .ok (.dup, 1) := by decide +kernel
theorem dX12_init_230 : decode cX12_init 230 = .ok (.bipush 24, 2) := by decide +kernel
theorem dX12_init_232 : decode cX12_init 232 = .ok (.iconst 0, 1) := by decide +kernel
theorem dX12_init_233 : decode cX12_init 233 = .ok (.iastore, 1) := by decide +kernel
theorem dX12_init_234 : decode cX12_init 234 = .ok (.dup, 1) := by decide +kernel
theorem dX12_init_235 : decode cX12_init 235 = .ok (.bipush 25, 2) := by decide +kernel
theorem dX12_init_237 : decode cX12_init 237 = .ok (.iconst 0, 1) := by decide +kernel
theorem dX12_init_238 : decode cX12_init 238 = .ok (.iastore, 1) := by decide +kernel
theorem dX12_init_239 : decode cX12_init 239 = .ok (.dup, 1) := by decide +kernel
theorem dX12_init_240 : decode cX12_init 240 = .ok (.bipush 26, 2) := by decide +kernel
theorem dX12_init_242 : decode cX12_init 242 = .ok (.iconst 0, 1) := by decide +kernel
theorem dX12_init_243 : decode cX12_init 243 = .ok (.iastore, 1) := by decide +kernel
theorem dX12_init_244 : decode cX12_init 244 = .ok (.dup, 1) := by decide +kernel
theorem dX12_init_245 : decode cX12_init 245 = .ok (.bipush 27, 2) := by decide +kernel
theorem dX12_init_247 : decode cX12_init 247 = .ok (.iconst 0, 1) := by decide +kernel
theorem dX12_init_248 : decode cX12_init 248 = .ok (.iastore, 1) := by decide +kernel
theorem dX12_init_249 : decode cX12_init 249 = .ok (.dup, 1) := by decide +kernel
theorem dX12_init_250 : decode cX12_init 250 = .ok (.bipush 28, 2) := by decide +kernel
theorem dX12_init_252 : decode cX12_init 252 = .ok (.iconst 0, 1) := by decide +kernel
theorem dX12_init_253 : decode cX12_init 253 = .ok (.iastore, 1) := by decide +kernel
theorem dX12_init_254 : decode cX12_init 254 = .ok (.dup, 1) := by decide +kernel
theorem dX12_init_255 : decode cX12_init 255 = .ok (.bipush 29, 2) := by decide +kernel
theorem dX12_init_257 : decode cX12_init 257 = .ok (.iconst 0, 1) := by decide +kernel
theorem dX12_init_258 : decode cX12_init 258 = .ok (.iastore, 1) := by decide +kernel
theorem dX12_init_259 : decode cX12_init 259 = .ok (.dup, 1) := by decide +kernel
theorem dX12_init_260 : decode cX12_init 260 = .ok (.bipush 30, 2) := by decide +kernel
theorem dX12_init_262 : decode cX12_init 262 = .ok (.iconst 0, 1) := by decide +kernel
theorem dX12_init_263 : decode cX12_init 263 = .ok (.iastore, 1) := by decide +kernel
theorem dX12_init_264 : decode cX12_init 264 = .ok (.dup, 1) := by decide +kernel
theorem dX12_init_265 : decode cX12_init 265 = .ok (.bipush 31, 2) := by decide +kernel
theorem dX12_init_267 : decode cX12_init 267 = .ok (.iconst 0, 1) := by decide +kernel
theorem dX12_init_268 : decode cX12_init 268 = .ok (.iastore, 1) := by decide +kernel
theorem dX12_init_269 : decode cX12_init 269 = .ok (.dup, 1) := by decide +kernel
theorem dX12_init_270 : decode cX12_init 270 = .ok (.bipush 32, 2) := by decide +kernel
theorem dX12_init_272 : decode cX12_init 272 = .ok (.iconst 0, 1) := by decide +kernel
theorem dX12_init_273 : decode cX12_init 273 = .ok (.iastore, 1) := by decide +kernel
theorem dX12_init_274 : decode cX12_init 274 = .ok (.dup, 1) := by decide +kernel
theorem dX12_init_275 : decode cX12_init 275 = .ok (.bipush 33, 2) := by decide +kernel
theorem dX12_init_277 : decode cX12_init 277 = .ok (.iconst 0, 1) := by decide +kernel
theorem dX12_init_278 : decode cX12_init 278 = .ok (.iastore, 1) := by decide +kernel
theorem dX12_init_279 : decode cX12_init 279 = .ok (.dup, 1) := by decide +kernel
theorem dX12_init_280 : decode cX12_init 280 = .ok (.bipush 34, 2) := by decide +kernel
theorem dX12_init_282 : decode cX12_init 282 = .ok (.iconst 0, 1) := by decide +kernel
theorem dX12_init_283 : decode cX12_init 283 = .ok (.iastore, 1) := by decide +kernel
theorem dX12_init_284 : decode cX12_init 284 = .ok (.putfield 37, 3) := by decide +kernel
theorem dX12_init_287 : decode cX12_init 287 = .ok (.aload_n 0, 1) := by decide +kernel
theorem dX12_init_288 : decode cX12_init 288 = .ok (.iconst 1, 1) := by decide +kernel
theorem dX12_init_289 : decode cX12_init 289 = .ok (.putfield 40, 3) := by decide +kernel
theorem dX12_init_292 : decode cX12_init 292 = .ok (.aload_n 0, 1) := by decide +kernel
theorem dX12_init_293 : decode cX12_init 293 = .ok (.sipush 240, 3) := by decide +kernel
theorem dX12_init_296 : decode cX12_init 296 = .ok (.newarray .int, 2) := by decide +kernel
theorem dX12_init_298 : decode cX12_init 298 = .ok (.putfield 44, 3) := by decide +kernel
theorem dX12_init_301 : decode cX12_init 301 = .ok (.aload_n 0, 1) := by decide +kernel
theorem dX12_init_302 : decode cX12_init 302 = .ok (.bipush 24, 2) := by decide +kernel
theorem dX12_init_304 : decode cX12_init 304 = .ok (.newarray .int, 2) := by decide +kernel
theorem dX12_init_306 : decode cX12_init 306 = .ok (.putfield 47, 3) := by decide +kernel
theorem dX12_init_309 : decode cX12_init 309 = .ok (.aload_n 0, 1) := by decide +kernel
theorem dX12_init_310 : decode cX12_init 310 = .ok (.bipush 8, 2) := by decide +kernel
theorem dX12_init_312 : decode cX12_init 312 = .ok (.newarray .int, 2) := by decide +kernel
theorem dX12_init_314 : decode cX12_init 314 = .ok (.putfield 50, 3) := by decide +kernel
theorem dX12_init_317 : decode cX12_init 317 = .ok (.aload_n 0, 1) := by decide +kernel
theorem dX12_init_318 : decode cX12_init 318 = .ok (.bipush 48, 2) := by decide +kernel
theorem dX12_init_320 : decode cX12_init 320 = .ok (.newarray .int, 2) := by decide +kernel
theorem dX12_init_322 : decode cX12_init 322 = .ok (.putfield 53, 3) := by decide +kernel
theorem dX12_init_325 : decode cX12_init 325 = .ok (.aload_n 0, 1) := by decide +kernel
theorem dX12_init_326 : decode cX12_init 326 = .ok (.iconst 3, 1) := by decide +kernel
theorem dX12_init_327 : decode cX12_init 327 = .ok (.newarray .int, 2) := by decide +kernel
theorem dX12_init_329 : decode cX12_init 329 = .ok (.putfield 56, 3) := by decide +kernel
theorem dX12_init_332 : decode cX12_init 332 = .ok (.aload_n 0, 1) := by decide +kernel
theorem dX12_init_333 : decode cX12_init 333 = .ok (.iconst (-1), 1) := by decide +kernel
theorem dX12_init_334 : decode cX12_init 334 = .ok (.putfield 59, 3) := by decide +kernel
theorem dX12_init_337 : decode cX12_init 337 = .ok (.aload_n 0, 1) := by decide +kernel
theorem dX12_init_338 : decode cX12_init 338 = .ok (.bipush 36, 2) := by decide +kernel
theorem dX12_init_340 : decode cX12_init 340 = .ok (.newarray .int, 2) := by decide +kernel
theorem dX12_init_342 : decode cX12_init 342 = .ok (.putfield 62, 3) := by decide +kernel
theorem dX12_init_345 : decode cX12_init 345 = .ok (.aload_n 0, 1) := by decide +kernel
theorem dX12_init_346 : decode cX12_init 346 = .ok (.bipush 36, 2) := by decide +kernel
theorem dX12_init_348 : decode cX12_init 348 = .ok (.newarray .int, 2) := by decide +kernel
theorem dX12_init_350 : decode cX12_init 350 = .ok (.putfield 65, 3) := by decide +kernel
theorem dX12_init_353 : decode cX12_init 353 = .ok (.aload_n 0, 1) := by decide +kernel
theorem dX12_init_354 : decode cX12_init 354 = .ok (.iconst 4, 1) := by decide +kernel
theorem dX12_init_355 : decode cX12_init 355 = .ok (.newarray .int, 2) := by decide +kernel
theorem dX12_init_357 : decode cX12_init 357 = .ok (.dup, 1) := by decide +kernel
theorem dX12_init_358 : decode cX12_init 358 = .ok (.iconst 0, 1) := by decide +kernel
theorem dX12_init_359 : decode cX12_init 359 = .ok (.iconst (-1), 1) := by decide +kernel
theorem dX12_init_360 : decode cX12_init 360 = .ok (.iastore, 1) := by decide +kernel
theorem dX12_init_361 : decode cX12_init 361 = .ok (.dup, 1) := by decide +kernel
theorem dX12_init_362 : decode cX12_init 362 = .ok (.iconst 1, 1) := by decide +kernel
theorem dX12_init_363 : decode cX12_init 363 = .ok (.iconst (-1), 1) := by decide +kernel
theorem dX12_init_364 : decode cX12_init 364 = .ok (.iastore, 1) := by decide +kernel
theorem dX12_init_365 : decode cX12_init 365 = .ok (.dup, 1) := by decide +kernel
theorem dX12_init_366 : decode cX12_init 366 = .ok (.iconst 2, 1) := by decide +kernel
theorem dX12_init_367 : decode cX12_init 367 = .ok (.iconst (-1), 1) := by decide +kernel
theorem dX12_init_368 : decode cX12_init 368 = .ok (.iastore, 1) := by decide +kernel
theorem dX12_init_369 : decode cX12_init 369 = .ok (.dup, 1) := by decide +kernel
theorem dX12_init_370 : decode cX12_init 370 = .ok (.iconst 3, 1) := by decide +kernel
theorem dX12_init_371 : decode cX12_init 371 = .ok (.iconst (-1), 1) := by decide +kernel
theorem dX12_init_372 : decode cX12_init 372 = .ok (.iastore, 1) := by decide +kernel
theorem dX12_init_373 : decode cX12_init 373 = .ok (.putfield 68, 3) := by decide +kernel
theorem dX12_init_376 : decode cX12_init 376 = .ok (.aload_n 0, 1) := by decide +kernel
theorem dX12_init_377 : decode cX12_init 377 = .ok (.iconst 4, 1) := by decide +kernel
theorem dX12_init_378 : decode cX12_init 378 = .ok (.newarray .int, 2) := by decide +kernel
theorem dX12_init_380 : decode cX12_init 380 = .ok (.putfield 71, 3) := by decide +kernel
theorem dX12_init_383 : decode cX12_init 383 = .ok (.aload_n 0, 1) := by decide +kernel
theorem dX12_init_384 : decode cX12_init 384 = .ok (.sipush 160, 3) := by decide +kernel
theorem dX12_init_387 : decode cX12_init 387 = .ok (.newarray .long, 2) := by decide +kernel
theorem dX12_init_389 : decode cX12_init 389 = .ok (.putfield 74, 3) := by decide +kernel
theorem dX12_init_392 : decode cX12_init 392 = .ok (.aload_n 0, 1) := by decide +kernel
theorem dX12_init_393 : decode cX12_init 393 = .ok (.iconst 4, 1) := by decide +kernel
theorem dX12_init_394 : decode cX12_init 394 = .ok (.newarray .int, 2) := by decide +kernel
theorem dX12_init_396 : decode cX12_init 396 = .ok (.dup, 1) := by decide +kernel
theorem dX12_init_397 : decode cX12_init 397 = .ok (.iconst 0, 1) := by decide +kernel
theorem dX12_init_398 : decode cX12_init 398 = .ok (.iconst (-1), 1) := by decide +kernel
theorem dX12_init_399 : decode cX12_init 399 = .ok (.iastore, 1) := by decide +kernel
theorem dX12_init_400 : decode cX12_init 400 = .ok (.dup, 1) := by decide +kernel
theorem dX12_init_401 : decode cX12_init 401 = .ok (.iconst 1, 1) := by decide +kernel
theorem dX12_init_402 : decode cX12_init 402 = .ok (.iconst (-1), 1) := by decide +kernel
theorem dX12_init_403 : decode cX12_init 403 = .ok (.iastore, 1) := by decide +kernel
theorem dX12_init_404 : decode cX12_init 404 = .ok (.dup, 1) := by decide +kernel
theorem dX12_init_405 : decode cX12_init 405 = .ok (.iconst 2, 1) := by decide +kernel
theorem dX12_init_406 : decode cX12_init 406 = .ok (.iconst (-1), 1) := by decide +kernel
theorem dX12_init_407 : decode cX12_init 407 = .ok (.iastore, 1) := by decide +kernel
theorem dX12_init_408 : decode cX12_init 408 = .ok (.dup, 1) := by decide +kernel
theorem dX12_init_409 : decode cX12_init 409 = .ok (.iconst 3, 1) := by decide +kernel
theorem dX12_init_410 : decode cX12_init 410 = .ok (.iconst (-1), 1) := by decide +kernel
theorem dX12_init_411 : decode cX12_init 411 = .ok (.iastore, 1) := by decide +kernel
theorem dX12_init_412 : decode cX12_init 412 = .ok (.putfield 78, 3) := by decide +kernel
theorem dX12_init_415 : decode cX12_init 415 = .ok (.aload_n 0, 1) := by decide +kernel
theorem dX12_init_416 : decode cX12_init 416 = .ok (.iconst 4, 1) := by decide +kernel
theorem dX12_init_417 : decode cX12_init 417 = .ok (.newarray .int, 2) := by decide +kernel
theorem dX12_init_419 : decode cX12_init 419 = .ok (.putfield 81, 3) := by decide +kernel
theorem dX12_init_422 : decode cX12_init 422 = .ok (.aload_n 0, 1) := by decide +kernel
theorem dX12_init_423 : decode cX12_init 423 = .ok (.iconst 4, 1) := by decide +kernel
theorem dX12_init_424 : decode cX12_init 424 = .ok (.newarray .int, 2) := by decide +kernel
theorem dX12_init_426 : decode cX12_init 426 = .ok (.putfield 84, 3) := by decide +kernel
theorem dX12_init_429 : decode cX12_init 429 = .ok (.aload_n 0, 1) := by decide +kernel
theorem dX12_init_430 : decode cX12_init 430 = .ok (.bipush 30, 2) := by decide +kernel
theorem dX12_init_432 : decode cX12_init 432 = .ok (.newarray .int, 2) := by decide +kernel
theorem dX12_init_434 : decode cX12_init 434 = .ok (.putfield 87, 3) := by decide +kernel
theorem dX12_init_437 : decode cX12_init 437 = .ok (.aload_n 0, 1) := by decide +kernel
theorem dX12_init_438 : decode cX12_init 438 = .ok (.bipush 120, 2) := by decide +kernel
theorem dX12_init_440 : decode cX12_init 440 = .ok (.newarray .int, 2) := by decide +kernel
theorem dX12_init_442 : decode cX12_init 442 = .ok (.putfield 90, 3) := by decide +kernel
theorem dX12_init_445 : decode cX12_init 445 = .ok (.aload_n 0, 1) := by decide +kernel
theorem dX12_init_446 : decode cX12_init 446 = .ok (.iconst 5, 1) := by decide +kernel
theorem dX12_init_447 : decode cX12_init 447 = .ok (.newarray .int, 2) := by decide +kernel
theorem dX12_init_449 : decode cX12_init 449 = .ok (.putfield 93, 3) := by decide +kernel
theorem dX12_init_452 : decode cX12_init 452 = .ok (.return_, 1) := by decide +kernel
theorem dX12_in_0 : decode cX12_in 0 = .ok (.iload_n 0, 1) := by decide +kernel
theorem dX12_in_1 : decode cX12_in 1 = .ok (.iload_n 1, 1) := by decide +kernel
theorem dX12_in_2 : decode cX12_in 2 = .ok (.if_icmp .lt 12, 3) := by decide +kernel
theorem dX12_in_5 : decode cX12_in 5 = .ok (.iload_n 0, 1) := by decide +kernel
theorem dX12_in_6 : decode cX12_in 6 = .ok (.iload_n 2, 1) := by decide +kernel
theorem dX12_in_7 : decode cX12_in 7 = .ok (.if_icmp .gt 7, 3) := by decide +kernel
theorem dX12_in_10 : decode cX12_in 10 = .ok (.iconst 1, 1) := by decide +kernel
theorem dX12_in_11 : decode cX12_in 11 = .ok (.goto 4, 3) := by decide +kernel
theorem dX12_in_14 : decode cX12_in 14 = .ok (.iconst 0, 1) := by decide +kernel
theorem dX12_in_15 : decode cX12_in 15 = .ok (.ireturn, 1) := by decide +kernel
theorem dX12_isPerson_0 : decode cX12_isPerson 0 = .ok (.iload_n 1, 1) := by decide +kernel
theorem dX12_isPerson_1 : decode cX12_isPerson 1 = .ok (.iconst 0, 1) := by decide +kernel
theorem dX12_isPerson_2 : decode cX12_isPerson 2 = .ok (.aload_n 0, 1) := by decide +kernel
theorem dX12_isPerson_3 : decode cX12_isPerson 3 = .ok (.getfield 96, 3) := by decide +kernel
theorem dX12_isPerson_6 : decode cX12_isPerson 6 = .ok (.iconst 1, 1) := by decide +kernel
theorem dX12_isPerson_7 : decode cX12_isPerson 7 = .ok (.isub, 1) := by decide +kernel
theorem dX12_isPerson_8 : decode cX12_isPerson 8 = .ok (.invokestatic 99, 3) := by decide +kernel
theorem dX12_isPerson_11 : decode cX12_isPerson 11 = .ok (.ireturn, 1) := by decide +kernel
theorem dX12_isProposal_0 : decode cX12_isProposal 0 = .ok (.iload_n 1, 1) := by decide +kernel
theorem dX12_isProposal_1 : decode cX12_isProposal 1 = .ok (.iconst 0, 1) := by decide +kernel
theorem dX12_isProposal_2 : decode cX12_isProposal 2 = .ok (.aload_n 0, 1) := by decide +kernel
theorem dX12_isProposal_3 : decode cX12_isProposal 3 = .ok (.getfield 103, 3) := by decide +kernel
theorem dX12_isProposal_6 : decode cX12_isProposal 6 = .ok (.iconst 1, 1) := by decide +kernel
theorem dX12_isProposal_7 : decode cX12_isProposal 7 = .ok (.isub, 1) := by decide +kernel
theorem dX12_isProposal_8 : decode cX12_isProposal 8 = .ok (.invokestatic 99, 3) := by decide +kernel
theorem dX12_isProposal_11 : decode cX12_isProposal 11 = .ok (.ireturn, 1) := by decide +kernel
theorem dX12_isSide_0 : decode cX12_isSide 0 = .ok (.iload_n 0, 1) := by decide +kernel
theorem dX12_isSide_1 : decode cX12_isSide 1 = .ok (.iconst 0, 1) := by decide +kernel
theorem dX12_isSide_2 : decode cX12_isSide 2 = .ok (.iconst 1, 1) := by decide +kernel
theorem dX12_isSide_3 : decode cX12_isSide 3 = .ok (.invokestatic 99, 3) := by decide +kernel
theorem dX12_isSide_6 : decode cX12_isSide 6 = .ok (.ireturn, 1) := by decide +kernel
theorem dX12_worthTo_0 : decode cX12_worthTo 0 = .ok (.aload_n 0, 1) := by decide +kernel
theorem dX12_worthTo_1 : decode cX12_worthTo 1 = .ok (.getfield 25, 3) := by decide +kernel
theorem dX12_worthTo_4 : decode cX12_worthTo 4 = .ok (.bipush 6, 2) := by decide +kernel
theorem dX12_worthTo_6 : decode cX12_worthTo 6 = .ok (.iload_n 1, 1) := by decide +kernel
theorem dX12_worthTo_7 : decode cX12_worthTo 7 = .ok (.imul, 1) := by decide +kernel
theorem dX12_worthTo_8 : decode cX12_worthTo 8 = .ok (.iload_n 2, 1) := by decide +kernel
theorem dX12_worthTo_9 : decode cX12_worthTo 9 = .ok (.iadd, 1) := by decide +kernel
theorem dX12_worthTo_10 : decode cX12_worthTo 10 = .ok (.iaload, 1) := by decide +kernel
theorem dX12_worthTo_11 : decode cX12_worthTo 11 = .ok (.ireturn, 1) := by decide +kernel
theorem dX12_feed_0 : decode cX12_feed 0 = .ok (.iload_n 3, 1) := by decide +kernel
theorem dX12_feed_1 : decode cX12_feed 1 = .ok (.iconst 1, 1) := by decide +kernel
theorem dX12_feed_2 : decode cX12_feed 2 = .ok (.bipush 8, 2) := by decide +kernel
theorem dX12_feed_4 : decode cX12_feed 4 = .ok (.invokestatic 99, 3) := by decide +kernel
theorem dX12_feed_7 : decode cX12_feed 7 = .ok (.ifCond .ne 5, 3) := by decide +kernel
theorem dX12_feed_10 : decode cX12_feed 10 = .ok (.iconst (-1), 1) := by decide +kernel
theorem dX12_feed_11 : decode cX12_feed 11 = .ok (.ireturn, 1) := by decide +kernel
theorem dX12_feed_12 : decode cX12_feed 12 = .ok (.aload_n 0, 1) := by decide +kernel
theorem dX12_feed_13 : decode cX12_feed 13 = .ok (.getfield 106, 3) := by decide +kernel
theorem dX12_feed_16 : decode cX12_feed 16 = .ok (.iload_n 3, 1) := by decide +kernel
theorem dX12_feed_17 : decode cX12_feed 17 = .ok (.iadd, 1) := by decide +kernel
theorem dX12_feed_18 : decode cX12_feed 18 = .ok (.sipush 240, 3) := by decide +kernel
theorem dX12_feed_21 : decode cX12_feed 21 = .ok (.if_icmp .le 6, 3) := by decide +kernel
theorem dX12_feed_24 : decode cX12_feed 24 = .ok (.bipush (-2), 2) := by decide +kernel
theorem dX12_feed_26 : decode cX12_feed 26 = .ok (.ireturn, 1) := by decide +kernel
theorem dX12_feed_27 : decode cX12_feed 27 = .ok (.iconst 0, 1) := by decide +kernel
theorem dX12_feed_28 : decode cX12_feed 28 = .ok (.istore 4, 2) := by decide +kernel
theorem dX12_feed_30 : decode cX12_feed 30 = .ok (.iload 4, 2) := by decide +kernel
theorem dX12_feed_32 : decode cX12_feed 32 = .ok (.iload_n 3, 1) := by decide +kernel
theorem dX12_feed_33 : decode cX12_feed 33 = .ok (.if_icmp .ge 40, 3) := by decide +kernel
theorem dX12_feed_36 : decode cX12_feed 36 = .ok (.aload_n 0, 1) := by decide +kernel
theorem dX12_feed_37 : decode cX12_feed 37 = .ok (.getfield 44, 3) := by decide +kernel
theorem dX12_feed_40 : decode cX12_feed 40 = .ok (.aload_n 0, 1) := by decide +kernel
theorem dX12_feed_41 : decode cX12_feed 41 = .ok (.getfield 106, 3) := by decide +kernel
theorem dX12_feed_44 : decode cX12_feed 44 = .ok (.lload_n 1, 1) := by decide +kernel
theorem dX12_feed_45 : decode cX12_feed 45 = .ok (.bipush 8, 2) := by decide +kernel
theorem dX12_feed_47 : decode cX12_feed 47 = .ok (.iload 4, 2) := by decide +kernel
theorem dX12_feed_49 : decode cX12_feed 49 = .ok (.imul, 1) := by decide +kernel
theorem dX12_feed_50 : decode cX12_feed 50 = .ok (.lshr, 1) := by decide +kernel
theorem dX12_feed_51 : decode cX12_feed 51 = .ok (.ldc2_w 109, 3) := by decide +kernel
theorem dX12_feed_54 : decode cX12_feed 54 = .ok (.land, 1) := by decide +kernel
theorem dX12_feed_55 : decode cX12_feed 55 = .ok (.l2i, 1) := by decide +kernel
theorem dX12_feed_56 : decode cX12_feed 56 = .ok (.iastore, 1) := by decide +kernel
theorem dX12_feed_57 : decode cX12_feed 57 = .ok (.aload_n 0, 1) := by decide +kernel
theorem dX12_feed_58 : decode cX12_feed 58 = .ok (.dup, 1) := by decide +kernel
theorem dX12_feed_59 : decode cX12_feed 59 = .ok (.getfield 106, 3) := by decide +kernel
theorem dX12_feed_62 : decode cX12_feed 62 = .ok (.iconst 1, 1) := by decide +kernel
theorem dX12_feed_63 : decode cX12_feed 63 = .ok (.iadd, 1) := by decide +kernel
theorem dX12_feed_64 : decode cX12_feed 64 = .ok (.putfield 106, 3) := by decide +kernel
theorem dX12_feed_67 : decode cX12_feed 67 = .ok (.iinc 4 1, 3) := by decide +kernel
theorem dX12_feed_70 : decode cX12_feed 70 = .ok (.goto (-40), 3) := by decide +kernel
theorem dX12_feed_73 : decode cX12_feed 73 = .ok (.aload_n 0, 1) := by decide +kernel
theorem dX12_feed_74 : decode cX12_feed 74 = .ok (.getfield 106, 3) := by decide +kernel
theorem dX12_feed_77 : decode cX12_feed 77 = .ok (.ireturn, 1) := by decide +kernel
theorem dX12_byteAt_0 : decode cX12_byteAt 0 = .ok (.iload_n 1, 1) := by decide +kernel
theorem dX12_byteAt_1 : decode cX12_byteAt 1 = .ok (.aload_n 0, 1) := by decide +kernel
theorem dX12_byteAt_2 : decode cX12_byteAt 2 = .ok (.getfield 106, 3) := by decide +kernel
theorem dX12_byteAt_5 : decode cX12_byteAt 5 = .ok (.if_icmp .ge 12, 3) := by decide +kernel
theorem dX12_byteAt_8 : decode cX12_byteAt 8 = .ok (.aload_n 0, 1) := by decide +kernel
theorem dX12_byteAt_9 : decode cX12_byteAt 9 = .ok (.getfield 44, 3) := by decide +kernel
theorem dX12_byteAt_12 : decode cX12_byteAt 12 = .ok (.iload_n 1, 1) := by decide +kernel
theorem dX12_byteAt_13 : decode cX12_byteAt 13 = .ok (.iaload, 1) := by decide +kernel
theorem dX12_byteAt_14 : decode cX12_byteAt 14 = .ok (.goto 4, 3) := by decide +kernel
theorem dX12_byteAt_17 : decode cX12_byteAt 17 = .ok (.iconst (-1), 1) := by decide +kernel
theorem dX12_byteAt_18 : decode cX12_byteAt 18 = .ok (.ireturn, 1) := by decide +kernel
theorem dX12_isLetter_0 : decode cX12_isLetter 0 = .ok (.iload_n 0, 1) := by decide +kernel
theorem dX12_isLetter_1 : decode cX12_isLetter 1 = .ok (.bipush 97, 2) := by decide +kernel
theorem dX12_isLetter_3 : decode cX12_isLetter 3 = .ok (.bipush 122, 2) := by decide +kernel
theorem dX12_isLetter_5 : decode cX12_isLetter 5 = .ok (.invokestatic 99, 3) := by decide +kernel
theorem dX12_isLetter_8 : decode cX12_isLetter 8 = .ok (.ireturn, 1) := by decide +kernel
theorem dX12_isDigit_0 : decode cX12_isDigit 0 = .ok (.iload_n 0, 1) := by decide +kernel
theorem dX12_isDigit_1 : decode cX12_isDigit 1 = .ok (.bipush 48, 2) := by decide +kernel
theorem dX12_isDigit_3 : decode cX12_isDigit 3 = .ok (.bipush 57, 2) := by decide +kernel
theorem dX12_isDigit_5 : decode cX12_isDigit 5 = .ok (.invokestatic 99, 3) := by decide +kernel
theorem dX12_isDigit_8 : decode cX12_isDigit 8 = .ok (.ireturn, 1) := by decide +kernel
theorem dX12_advance_0 : decode cX12_advance 0 = .ok (.aload_n 0, 1) := by decide +kernel
theorem dX12_advance_1 : decode cX12_advance 1 = .ok (.aload_n 0, 1) := by decide +kernel
theorem dX12_advance_2 : decode cX12_advance 2 = .ok (.getfield 111, 3) := by decide +kernel
theorem dX12_advance_5 : decode cX12_advance 5 = .ok (.putfield 114, 3) := by decide +kernel
theorem dX12_advance_8 : decode cX12_advance 8 = .ok (.aload_n 0, 1) := by decide +kernel
theorem dX12_advance_9 : decode cX12_advance 9 = .ok (.aload_n 0, 1) := by decide +kernel
theorem dX12_advance_10 : decode cX12_advance 10 = .ok (.getfield 114, 3) := by decide +kernel
theorem dX12_advance_13 : decode cX12_advance 13 = .ok (.invokevirtual 117, 3) := by decide +kernel
theorem dX12_advance_16 : decode cX12_advance 16 = .ok (.bipush 32, 2) := by decide +kernel
theorem dX12_advance_18 : decode cX12_advance 18 = .ok (.if_icmp .ne 16, 3) := by decide +kernel
theorem dX12_advance_21 : decode cX12_advance 21 = .ok (.aload_n 0, 1) := by decide +kernel
theorem dX12_advance_22 : decode cX12_advance 22 = .ok (.dup, 1) := by decide +kernel
theorem dX12_advance_23 : decode cX12_advance 23 = .ok (.getfield 114, 3) := by decide +kernel
theorem dX12_advance_26 : decode cX12_advance 26 = .ok (.iconst 1, 1) := by decide +kernel
theorem dX12_advance_27 : decode cX12_advance 27 = .ok (.iadd, 1) := by decide +kernel
theorem dX12_advance_28 : decode cX12_advance 28 = .ok (.putfield 114, 3) := by decide +kernel
theorem dX12_advance_31 : decode cX12_advance 31 = .ok (.goto (-23), 3) := by decide +kernel
theorem dX12_advance_34 : decode cX12_advance 34 = .ok (.aload_n 0, 1) := by decide +kernel
theorem dX12_advance_35 : decode cX12_advance 35 = .ok (.aload_n 0, 1) := by decide +kernel
theorem dX12_advance_36 : decode cX12_advance 36 = .ok (.getfield 114, 3) := by decide +kernel
theorem dX12_advance_39 : decode cX12_advance 39 = .ok (.putfield 111, 3) := by decide +kernel
theorem dX12_advance_42 : decode cX12_advance 42 = .ok (.aload_n 0, 1) := by decide +kernel
theorem dX12_advance_43 : decode cX12_advance 43 = .ok (.aload_n 0, 1) := by decide +kernel
theorem dX12_advance_44 : decode cX12_advance 44 = .ok (.getfield 114, 3) := by decide +kernel
theorem dX12_advance_47 : decode cX12_advance 47 = .ok (.invokevirtual 117, 3) := by decide +kernel
theorem dX12_advance_50 : decode cX12_advance 50 = .ok (.istore_n 1, 1) := by decide +kernel
theorem dX12_advance_51 : decode cX12_advance 51 = .ok (.aload_n 0, 1) := by decide +kernel
theorem dX12_advance_52 : decode cX12_advance 52 = .ok (.iload_n 1, 1) := by decide +kernel
theorem dX12_advance_53 : decode cX12_advance 53 = .ok (.ifCond .ge 7, 3) := by decide +kernel
theorem dX12_advance_56 : decode cX12_advance 56 = .ok (.iconst 0, 1) := by decide +kernel
theorem dX12_advance_57 : decode cX12_advance 57 = .ok (.goto 26, 3) := by decide +kernel
theorem dX12_advance_60 : decode cX12_advance 60 = .ok (.iload_n 1, 1) := by decide +kernel
theorem dX12_advance_61 : decode cX12_advance 61 = .ok (.invokestatic 121, 3) := by decide +kernel
theorem dX12_advance_64 : decode cX12_advance 64 = .ok (.ifCond .eq 7, 3) := by decide +kernel
theorem dX12_advance_67 : decode cX12_advance 67 = .ok (.iconst 1, 1) := by decide +kernel
theorem dX12_advance_68 : decode cX12_advance 68 = .ok (.goto 15, 3) := by decide +kernel
theorem dX12_advance_71 : decode cX12_advance 71 = .ok (.iload_n 1, 1) := by decide +kernel
theorem dX12_advance_72 : decode cX12_advance 72 = .ok (.invokestatic 125, 3) := by decide +kernel
theorem dX12_advance_75 : decode cX12_advance 75 = .ok (.ifCond .eq 7, 3) := by decide +kernel
theorem dX12_advance_78 : decode cX12_advance 78 = .ok (.iconst 2, 1) := by decide +kernel
theorem dX12_advance_79 : decode cX12_advance 79 = .ok (.goto 4, 3) := by decide +kernel
theorem dX12_advance_82 : decode cX12_advance 82 = .ok (.iconst 3, 1) := by decide +kernel
theorem dX12_advance_83 : decode cX12_advance 83 = .ok (.putfield 128, 3) := by decide +kernel
theorem dX12_advance_86 : decode cX12_advance 86 = .ok (.aload_n 0, 1) := by decide +kernel
theorem dX12_advance_87 : decode cX12_advance 87 = .ok (.lconst 0, 1) := by decide +kernel
theorem dX12_advance_88 : decode cX12_advance 88 = .ok (.putfield 131, 3) := by decide +kernel
theorem dX12_advance_91 : decode cX12_advance 91 = .ok (.aload_n 0, 1) := by decide +kernel
theorem dX12_advance_92 : decode cX12_advance 92 = .ok (.aload_n 0, 1) := by decide +kernel
theorem dX12_advance_93 : decode cX12_advance 93 = .ok (.getfield 128, 3) := by decide +kernel
theorem dX12_advance_96 : decode cX12_advance 96 = .ok (.iconst 2, 1) := by decide +kernel
theorem dX12_advance_97 : decode cX12_advance 97 = .ok (.if_icmp .ne 7, 3) := by decide +kernel
theorem dX12_advance_100 : decode cX12_advance 100 = .ok (.iconst 0, 1) := by decide +kernel
theorem dX12_advance_101 : decode cX12_advance 101 = .ok (.goto 4, 3) := by decide +kernel
theorem dX12_advance_104 : decode cX12_advance 104 = .ok (.iload_n 1, 1) := by decide +kernel
theorem dX12_advance_105 : decode cX12_advance 105 = .ok (.putfield 135, 3) := by decide +kernel
theorem dX12_advance_108 : decode cX12_advance 108 = .ok (.aload_n 0, 1) := by decide +kernel
theorem dX12_advance_109 : decode cX12_advance 109 = .ok (.getfield 128, 3) := by decide +kernel
theorem dX12_advance_112 : decode cX12_advance 112 = .ok (.iconst 3, 1) := by decide +kernel
theorem dX12_advance_113 : decode cX12_advance 113 = .ok (.if_icmp .ne 13, 3) := by decide +kernel
theorem dX12_advance_116 : decode cX12_advance 116 = .ok (.aload_n 0, 1) := by decide +kernel
theorem dX12_advance_117 : decode cX12_advance 117 = .ok (.dup, 1) := by decide +kernel
theorem dX12_advance_118 : decode cX12_advance 118 = .ok (.getfield 111, 3) := by decide +kernel
theorem dX12_advance_121 : decode cX12_advance 121 = .ok (.iconst 1, 1) := by decide +kernel
theorem dX12_advance_122 : decode cX12_advance 122 = .ok (.iadd, 1) := by decide +kernel
theorem dX12_advance_123 : decode cX12_advance 123 = .ok (.putfield 111, 3) := by decide +kernel
theorem dX12_advance_126 : decode cX12_advance 126 = .ok (.aload_n 0, 1) := by decide +kernel
theorem dX12_advance_127 : decode cX12_advance 127 = .ok (.getfield 128, 3) := by decide +kernel
theorem dX12_advance_130 : decode cX12_advance 130 = .ok (.iconst 1, 1) := by decide +kernel
theorem dX12_advance_131 : decode cX12_advance 131 = .ok (.if_icmp .ne 76, 3) := by decide +kernel
theorem dX12_advance_134 : decode cX12_advance 134 = .ok (.aload_n 0, 1) := by decide +kernel
theorem dX12_advance_135 : decode cX12_advance 135 = .ok (.aload_n 0, 1) := by decide +kernel
theorem dX12_advance_136 : decode cX12_advance 136 = .ok (.getfield 111, 3) := by decide +kernel
theorem dX12_advance_139 : decode cX12_advance 139 = .ok (.invokevirtual 117, 3) := by decide +kernel
theorem dX12_advance_142 : decode cX12_advance 142 = .ok (.invokestatic 121, 3) := by decide +kernel
theorem dX12_advance_145 : decode cX12_advance 145 = .ok (.ifCond .eq 62, 3) := by decide +kernel
theorem dX12_advance_148 : decode cX12_advance 148 = .ok (.aload_n 0, 1) := by decide +kernel
theorem dX12_advance_149 : decode cX12_advance 149 = .ok (.aload_n 0, 1) := by decide +kernel
theorem dX12_advance_150 : decode cX12_advance 150 = .ok (.getfield 111, 3) := by decide +kernel
theorem dX12_advance_153 : decode cX12_advance 153 = .ok (.aload_n 0, 1) := by decide +kernel
theorem dX12_advance_154 : decode cX12_advance 154 = .ok (.getfield 114, 3) := by decide +kernel
theorem dX12_advance_157 : decode cX12_advance 157 = .ok (.isub, 1) := by decide +kernel
theorem dX12_advance_158 : decode cX12_advance 158 = .ok (.bipush 8, 2) := by decide +kernel
theorem dX12_advance_160 : decode cX12_advance 160 = .ok (.if_icmp .ge 28, 3) := by decide +kernel
theorem dX12_advance_163 : decode cX12_advance 163 = .ok (.ldc2_w 138, 3) := by decide +kernel
theorem dX12_advance_166 : decode cX12_advance 166 = .ok (.aload_n 0, 1) := by decide +kernel
theorem dX12_advance_167 : decode cX12_advance 167 = .ok (.getfield 131, 3) := by decide +kernel
theorem dX12_advance_170 : decode cX12_advance 170 = .ok (.lmul, 1) := by decide +kernel
theorem dX12_advance_171 : decode cX12_advance 171 = .ok (.aload_n 0, 1) := by decide +kernel
theorem dX12_advance_172 : decode cX12_advance 172 = .ok (.aload_n 0, 1) := by decide +kernel
theorem dX12_advance_173 : decode cX12_advance 173 = .ok (.getfield 111, 3) := by decide +kernel
theorem dX12_advance_176 : decode cX12_advance 176 = .ok (.invokevirtual 117, 3) := by decide +kernel
theorem dX12_advance_179 : decode cX12_advance 179 = .ok (.i2l, 1) := by decide +kernel
theorem dX12_advance_180 : decode cX12_advance 180 = .ok (.ladd, 1) := by decide +kernel
theorem dX12_advance_181 : decode cX12_advance 181 = .ok (.ldc2_w 140, 3) := by decide +kernel
theorem dX12_advance_184 : decode cX12_advance 184 = .ok (.lsub, 1) := by decide +kernel
theorem dX12_advance_185 : decode cX12_advance 185 = .ok (.goto 6, 3) := by decide +kernel
theorem dX12_advance_188 : decode cX12_advance 188 = .ok (.ldc2_w 142, 3) := by decide +kernel
theorem dX12_advance_191 : decode cX12_advance 191 = .ok (.putfield 131, 3) := by decide +kernel
theorem dX12_advance_194 : decode cX12_advance 194 = .ok (.aload_n 0, 1) := by decide +kernel
theorem dX12_advance_195 : decode cX12_advance 195 = .ok (.dup, 1) := by decide +kernel
theorem dX12_advance_196 : decode cX12_advance 196 = .ok (.getfield 111, 3) := by decide +kernel
theorem dX12_advance_199 : decode cX12_advance 199 = .ok (.iconst 1, 1) := by decide +kernel
theorem dX12_advance_200 : decode cX12_advance 200 = .ok (.iadd, 1) := by decide +kernel
theorem dX12_advance_201 : decode cX12_advance 201 = .ok (.putfield 111, 3) := by decide +kernel
theorem dX12_advance_204 : decode cX12_advance 204 = .ok (.goto (-78), 3) := by decide +kernel
theorem dX12_advance_207 : decode cX12_advance 207 = .ok (.aload_n 0, 1) := by decide +kernel
theorem dX12_advance_208 : decode cX12_advance 208 = .ok (.getfield 128, 3) := by decide +kernel
theorem dX12_advance_211 : decode cX12_advance 211 = .ok (.iconst 2, 1) := by decide +kernel
theorem dX12_advance_212 : decode cX12_advance 212 = .ok (.if_icmp .ne 70, 3) := by decide +kernel
theorem dX12_advance_215 : decode cX12_advance 215 = .ok (.aload_n 0, 1) := by decide +kernel
theorem dX12_advance_216 : decode cX12_advance 216 = .ok (.aload_n 0, 1) := by decide +kernel
theorem dX12_advance_217 : decode cX12_advance 217 = .ok (.getfield 111, 3) := by decide +kernel
theorem dX12_advance_220 : decode cX12_advance 220 = .ok (.invokevirtual 117, 3) := by decide +kernel
theorem dX12_advance_223 : decode cX12_advance 223 = .ok (.invokestatic 125, 3) := by decide +kernel
theorem dX12_advance_226 : decode cX12_advance 226 = .ok (.ifCond .eq 56, 3) := by decide +kernel
theorem dX12_advance_229 : decode cX12_advance 229 = .ok (.aload_n 0, 1) := by decide +kernel
theorem dX12_advance_230 : decode cX12_advance 230 = .ok (.aload_n 0, 1) := by decide +kernel
theorem dX12_advance_231 : decode cX12_advance 231 = .ok (.getfield 111, 3) := by decide +kernel
theorem dX12_advance_234 : decode cX12_advance 234 = .ok (.aload_n 0, 1) := by decide +kernel
theorem dX12_advance_235 : decode cX12_advance 235 = .ok (.getfield 114, 3) := by decide +kernel
theorem dX12_advance_238 : decode cX12_advance 238 = .ok (.isub, 1) := by decide +kernel
theorem dX12_advance_239 : decode cX12_advance 239 = .ok (.iconst 3, 1) := by decide +kernel
theorem dX12_advance_240 : decode cX12_advance 240 = .ok (.if_icmp .ge 25, 3) := by decide +kernel
theorem dX12_advance_243 : decode cX12_advance 243 = .ok (.bipush 10, 2) := by decide +kernel
theorem dX12_advance_245 : decode cX12_advance 245 = .ok (.aload_n 0, 1) := by decide +kernel
theorem dX12_advance_246 : decode cX12_advance 246 = .ok (.getfield 135, 3) := by decide +kernel
theorem dX12_advance_249 : decode cX12_advance 249 = .ok (.imul, 1) := by decide +kernel
theorem dX12_advance_250 : decode cX12_advance 250 = .ok (.aload_n 0, 1) := by decide +kernel
theorem dX12_advance_251 : decode cX12_advance 251 = .ok (.aload_n 0, 1) := by decide +kernel
theorem dX12_advance_252 : decode cX12_advance 252 = .ok (.getfield 111, 3) := by decide +kernel
theorem dX12_advance_255 : decode cX12_advance 255 = .ok (.invokevirtual 117, 3) := by decide +kernel
theorem dX12_advance_258 : decode cX12_advance 258 = .ok (.iadd, 1) := by decide +kernel
theorem dX12_advance_259 : decode cX12_advance 259 = .ok (.bipush 48, 2) := by decide +kernel
theorem dX12_advance_261 : decode cX12_advance 261 = .ok (.isub, 1) := by decide +kernel
theorem dX12_advance_262 : decode cX12_advance 262 = .ok (.goto 4, 3) := by decide +kernel
theorem dX12_advance_265 : decode cX12_advance 265 = .ok (.iconst (-1), 1) := by decide +kernel
theorem dX12_advance_266 : decode cX12_advance 266 = .ok (.putfield 135, 3) := by decide +kernel
theorem dX12_advance_269 : decode cX12_advance 269 = .ok (.aload_n 0, 1) := by decide +kernel
theorem dX12_advance_270 : decode cX12_advance 270 = .ok (.dup, 1) := by decide +kernel
theorem dX12_advance_271 : decode cX12_advance 271 = .ok (.getfield 111, 3) := by decide +kernel
theorem dX12_advance_274 : decode cX12_advance 274 = .ok (.iconst 1, 1) := by decide +kernel
theorem dX12_advance_275 : decode cX12_advance 275 = .ok (.iadd, 1) := by decide +kernel
theorem dX12_advance_276 : decode cX12_advance 276 = .ok (.putfield 111, 3) := by decide +kernel
theorem dX12_advance_279 : decode cX12_advance 279 = .ok (.goto (-72), 3) := by decide +kernel
theorem dX12_advance_282 : decode cX12_advance 282 = .ok (.return_, 1) := by decide +kernel
theorem dX12_isWord_0 : decode cX12_isWord 0 = .ok (.aload_n 0, 1) := by decide +kernel
theorem dX12_isWord_1 : decode cX12_isWord 1 = .ok (.getfield 128, 3) := by decide +kernel
theorem dX12_isWord_4 : decode cX12_isWord 4 = .ok (.iconst 1, 1) := by decide +kernel
theorem dX12_isWord_5 : decode cX12_isWord 5 = .ok (.if_icmp .ne 16, 3) := by decide +kernel
theorem dX12_isWord_8 : decode cX12_isWord 8 = .ok (.aload_n 0, 1) := by decide +kernel
theorem dX12_isWord_9 : decode cX12_isWord 9 = .ok (.getfield 131, 3) := by decide +kernel
theorem dX12_isWord_12 : decode cX12_isWord 12 = .ok (.lload_n 1, 1) := by decide +kernel
theorem dX12_isWord_13 : decode cX12_isWord 13 = .ok (.lcmp, 1) := by decide +kernel
theorem dX12_isWord_14 : decode cX12_isWord 14 = .ok (.ifCond .ne 7, 3) := by decide +kernel
theorem dX12_isWord_17 : decode cX12_isWord 17 = .ok (.iconst 1, 1) := by decide +kernel
theorem dX12_isWord_18 : decode cX12_isWord 18 = .ok (.goto 4, 3) := by decide +kernel
theorem dX12_isWord_21 : decode cX12_isWord 21 = .ok (.iconst 0, 1) := by decide +kernel
theorem dX12_isWord_22 : decode cX12_isWord 22 = .ok (.ireturn, 1) := by decide +kernel
theorem dX12_isMark_0 : decode cX12_isMark 0 = .ok (.aload_n 0, 1) := by decide +kernel
theorem dX12_isMark_1 : decode cX12_isMark 1 = .ok (.getfield 128, 3) := by decide +kernel
theorem dX12_isMark_4 : decode cX12_isMark 4 = .ok (.iconst 3, 1) := by decide +kernel
theorem dX12_isMark_5 : decode cX12_isMark 5 = .ok (.if_icmp .ne 15, 3) := by decide +kernel
theorem dX12_isMark_8 : decode cX12_isMark 8 = .ok (.aload_n 0, 1) := by decide +kernel
theorem dX12_isMark_9 : decode cX12_isMark 9 = .ok (.getfield 135, 3) := by decide +kernel
theorem dX12_isMark_12 : decode cX12_isMark 12 = .ok (.iload_n 1, 1) := by decide +kernel
theorem dX12_isMark_13 : decode cX12_isMark 13 = .ok (.if_icmp .ne 7, 3) := by decide +kernel
theorem dX12_isMark_16 : decode cX12_isMark 16 = .ok (.iconst 1, 1) := by decide +kernel
theorem dX12_isMark_17 : decode cX12_isMark 17 = .ok (.goto 4, 3) := by decide +kernel
theorem dX12_isMark_20 : decode cX12_isMark 20 = .ok (.iconst 0, 1) := by decide +kernel
theorem dX12_isMark_21 : decode cX12_isMark 21 = .ok (.ireturn, 1) := by decide +kernel
theorem dX12_kindHere_0 : decode cX12_kindHere 0 = .ok (.aload_n 0, 1) := by decide +kernel
theorem dX12_kindHere_1 : decode cX12_kindHere 1 = .ok (.ldc2_w 144, 3) := by decide +kernel
theorem dX12_kindHere_4 : decode cX12_kindHere 4 = .ok (.invokevirtual 146, 3) := by decide +kernel
theorem dX12_kindHere_7 : decode cX12_kindHere 7 = .ok (.ifCond .eq 7, 3) := by decide +kernel
theorem dX12_kindHere_10 : decode cX12_kindHere 10 = .ok (.iconst 0, 1) := by decide +kernel
theorem dX12_kindHere_11 : decode cX12_kindHere 11 = .ok (.goto 74, 3) := by decide +kernel
theorem dX12_kindHere_14 : decode cX12_kindHere 14 = .ok (.aload_n 0, 1) := by decide +kernel
theorem dX12_kindHere_15 : decode cX12_kindHere 15 = .ok (.ldc2_w 150, 3) := by decide +kernel
theorem dX12_kindHere_18 : decode cX12_kindHere 18 = .ok (.invokevirtual 146, 3) := by decide +kernel
theorem dX12_kindHere_21 : decode cX12_kindHere 21 = .ok (.ifCond .eq 7, 3) := by decide +kernel
theorem dX12_kindHere_24 : decode cX12_kindHere 24 = .ok (.iconst 1, 1) := by decide +kernel
theorem dX12_kindHere_25 : decode cX12_kindHere 25 = .ok (.goto 60, 3) := by decide +kernel
theorem dX12_kindHere_28 : decode cX12_kindHere 28 = .ok (.aload_n 0, 1) := by decide +kernel
theorem dX12_kindHere_29 : decode cX12_kindHere 29 = .ok (.ldc2_w 152, 3) := by decide +kernel
theorem dX12_kindHere_32 : decode cX12_kindHere 32 = .ok (.invokevirtual 146, 3) := by decide +kernel
theorem dX12_kindHere_35 : decode cX12_kindHere 35 = .ok (.ifCond .eq 7, 3) := by decide +kernel
theorem dX12_kindHere_38 : decode cX12_kindHere 38 = .ok (.iconst 2, 1) := by decide +kernel
theorem dX12_kindHere_39 : decode cX12_kindHere 39 = .ok (.goto 46, 3) := by decide +kernel
theorem dX12_kindHere_42 : decode cX12_kindHere 42 = .ok (.aload_n 0, 1) := by decide +kernel
theorem dX12_kindHere_43 : decode cX12_kindHere 43 = .ok (.ldc2_w 154, 3) := by decide +kernel
theorem dX12_kindHere_46 : decode cX12_kindHere 46 = .ok (.invokevirtual 146, 3) := by decide +kernel
theorem dX12_kindHere_49 : decode cX12_kindHere 49 = .ok (.ifCond .eq 7, 3) := by decide +kernel
theorem dX12_kindHere_52 : decode cX12_kindHere 52 = .ok (.iconst 3, 1) := by decide +kernel
theorem dX12_kindHere_53 : decode cX12_kindHere 53 = .ok (.goto 32, 3) := by decide +kernel
theorem dX12_kindHere_56 : decode cX12_kindHere 56 = .ok (.aload_n 0, 1) := by decide +kernel
theorem dX12_kindHere_57 : decode cX12_kindHere 57 = .ok (.ldc2_w 156, 3) := by decide +kernel
theorem dX12_kindHere_60 : decode cX12_kindHere 60 = .ok (.invokevirtual 146, 3) := by decide +kernel
theorem dX12_kindHere_63 : decode cX12_kindHere 63 = .ok (.ifCond .eq 7, 3) := by decide +kernel
theorem dX12_kindHere_66 : decode cX12_kindHere 66 = .ok (.iconst 4, 1) := by decide +kernel
theorem dX12_kindHere_67 : decode cX12_kindHere 67 = .ok (.goto 18, 3) := by decide +kernel
theorem dX12_kindHere_70 : decode cX12_kindHere 70 = .ok (.aload_n 0, 1) := by decide +kernel
theorem dX12_kindHere_71 : decode cX12_kindHere 71 = .ok (.ldc2_w 158, 3) := by decide +kernel
theorem dX12_kindHere_74 : decode cX12_kindHere 74 = .ok (.invokevirtual 146, 3) := by decide +kernel
theorem dX12_kindHere_77 : decode cX12_kindHere 77 = .ok (.ifCond .eq 7, 3) := by decide +kernel
theorem dX12_kindHere_80 : decode cX12_kindHere 80 = .ok (.iconst 5, 1) := by decide +kernel
theorem dX12_kindHere_81 : decode cX12_kindHere 81 = .ok (.goto 4, 3) := by decide +kernel
theorem dX12_kindHere_84 : decode cX12_kindHere 84 = .ok (.iconst (-1), 1) := by decide +kernel
theorem dX12_kindHere_85 : decode cX12_kindHere 85 = .ok (.ireturn, 1) := by decide +kernel
theorem dX12_wantNumber_0 : decode cX12_wantNumber 0 = .ok (.aload_n 0, 1) := by decide +kernel
theorem dX12_wantNumber_1 : decode cX12_wantNumber 1 = .ok (.getfield 135, 3) := by decide +kernel
theorem dX12_wantNumber_4 : decode cX12_wantNumber 4 = .ok (.istore_n 3, 1) := by decide +kernel
theorem dX12_wantNumber_5 : decode cX12_wantNumber 5 = .ok (.aload_n 0, 1) := by decide +kernel
theorem dX12_wantNumber_6 : decode cX12_wantNumber 6 = .ok (.aload_n 0, 1) := by decide +kernel
theorem dX12_wantNumber_7 : decode cX12_wantNumber 7 = .ok (.getfield 160, 3) := by decide +kernel
theorem dX12_wantNumber_10 : decode cX12_wantNumber 10 = .ok (.ifCond .eq 24, 3) := by decide +kernel
theorem dX12_wantNumber_13 : decode cX12_wantNumber 13 = .ok (.aload_n 0, 1) := by decide +kernel
theorem dX12_wantNumber_14 : decode cX12_wantNumber 14 = .ok (.getfield 128, 3) := by decide +kernel
theorem dX12_wantNumber_17 : decode cX12_wantNumber 17 = .ok (.iconst 2, 1) := by decide +kernel
theorem dX12_wantNumber_18 : decode cX12_wantNumber 18 = .ok (.if_icmp .ne 16, 3) := by decide +kernel
theorem dX12_wantNumber_21 : decode cX12_wantNumber 21 = .ok (.iload_n 3, 1) := by decide +kernel
theorem dX12_wantNumber_22 : decode cX12_wantNumber 22 = .ok (.iload_n 1, 1) := by decide +kernel
theorem dX12_wantNumber_23 : decode cX12_wantNumber 23 = .ok (.iload_n 2, 1) := by decide +kernel
theorem dX12_wantNumber_24 : decode cX12_wantNumber 24 = .ok (.invokestatic 99, 3) := by decide +kernel
theorem dX12_wantNumber_27 : decode cX12_wantNumber 27 = .ok (.ifCond .eq 7, 3) := by decide +kernel
theorem dX12_wantNumber_30 : decode cX12_wantNumber 30 = .ok (.iconst 1, 1) := by decide +kernel
theorem dX12_wantNumber_31 : decode cX12_wantNumber 31 = .ok (.goto 4, 3) := by decide +kernel
theorem dX12_wantNumber_34 : decode cX12_wantNumber 34 = .ok (.iconst 0, 1) := by decide +kernel
theorem dX12_wantNumber_35 : decode cX12_wantNumber 35 = .ok (.putfield 160, 3) := by decide +kernel
theorem dX12_wantNumber_38 : decode cX12_wantNumber 38 = .ok (.aload_n 0, 1) := by decide +kernel
theorem dX12_wantNumber_39 : decode cX12_wantNumber 39 = .ok (.getfield 160, 3) := by decide +kernel
theorem dX12_wantNumber_42 : decode cX12_wantNumber 42 = .ok (.ifCond .eq 7, 3) := by decide +kernel
theorem dX12_wantNumber_45 : decode cX12_wantNumber 45 = .ok (.aload_n 0, 1) := by decide +kernel
theorem dX12_wantNumber_46 : decode cX12_wantNumber 46 = .ok (.invokevirtual 164, 3) := by decide +kernel
theorem dX12_wantNumber_49 : decode cX12_wantNumber 49 = .ok (.iload_n 3, 1) := by decide +kernel
theorem dX12_wantNumber_50 : decode cX12_wantNumber 50 = .ok (.ireturn, 1) := by decide +kernel
theorem dX12_wantWord_0 : decode cX12_wantWord 0 = .ok (.aload_n 0, 1) := by decide +kernel
theorem dX12_wantWord_1 : decode cX12_wantWord 1 = .ok (.aload_n 0, 1) := by decide +kernel
theorem dX12_wantWord_2 : decode cX12_wantWord 2 = .ok (.getfield 160, 3) := by decide +kernel
theorem dX12_wantWord_5 : decode cX12_wantWord 5 = .ok (.ifCond .eq 15, 3) := by decide +kernel
theorem dX12_wantWord_8 : decode cX12_wantWord 8 = .ok (.aload_n 0, 1) := by decide +kernel
theorem dX12_wantWord_9 : decode cX12_wantWord 9 = .ok (.lload_n 1, 1) := by decide +kernel
theorem dX12_wantWord_10 : decode cX12_wantWord 10 = .ok (.invokevirtual 146, 3) := by decide +kernel
theorem dX12_wantWord_13 : decode cX12_wantWord 13 = .ok (.ifCond .eq 7, 3) := by decide +kernel
theorem dX12_wantWord_16 : decode cX12_wantWord 16 = .ok (.iconst 1, 1) := by decide +kernel
theorem dX12_wantWord_17 : decode cX12_wantWord 17 = .ok (.goto 4, 3) := by decide +kernel
theorem dX12_wantWord_20 : decode cX12_wantWord 20 = .ok (.iconst 0, 1) := by decide +kernel
theorem dX12_wantWord_21 : decode cX12_wantWord 21 = .ok (.putfield 160, 3) := by decide +kernel
theorem dX12_wantWord_24 : decode cX12_wantWord 24 = .ok (.aload_n 0, 1) := by decide +kernel
theorem dX12_wantWord_25 : decode cX12_wantWord 25 = .ok (.getfield 160, 3) := by decide +kernel
theorem dX12_wantWord_28 : decode cX12_wantWord 28 = .ok (.ifCond .eq 7, 3) := by decide +kernel
theorem dX12_wantWord_31 : decode cX12_wantWord 31 = .ok (.aload_n 0, 1) := by decide +kernel
theorem dX12_wantWord_32 : decode cX12_wantWord 32 = .ok (.invokevirtual 164, 3) := by decide +kernel
theorem dX12_wantWord_35 : decode cX12_wantWord 35 = .ok (.return_, 1) := by decide +kernel
theorem dX12_mayNumber_0 : decode cX12_mayNumber 0 = .ok (.aload_n 0, 1) := by decide +kernel
theorem dX12_mayNumber_1 : decode cX12_mayNumber 1 = .ok (.getfield 160, 3) := by decide +kernel
theorem dX12_mayNumber_4 : decode cX12_mayNumber 4 = .ok (.ifCond .eq 11, 3) := by decide +kernel
theorem dX12_mayNumber_7 : decode cX12_mayNumber 7 = .ok (.aload_n 0, 1) := by decide +kernel
theorem dX12_mayNumber_8 : decode cX12_mayNumber 8 = .ok (.lload_n 1, 1) := by decide +kernel
theorem dX12_mayNumber_9 : decode cX12_mayNumber 9 = .ok (.invokevirtual 146, 3) := by decide +kernel
theorem dX12_mayNumber_12 : decode cX12_mayNumber 12 = .ok (.ifCond .ne 6, 3) := by decide +kernel
theorem dX12_mayNumber_15 : decode cX12_mayNumber 15 = .ok (.iload 4, 2) := by decide +kernel
theorem dX12_mayNumber_17 : decode cX12_mayNumber 17 = .ok (.ireturn, 1) := by decide +kernel
theorem dX12_mayNumber_18 : decode cX12_mayNumber 18 = .ok (.aload_n 0, 1) := by decide +kernel
theorem dX12_mayNumber_19 : decode cX12_mayNumber 19 = .ok (.invokevirtual 164, 3) := by decide +kernel
theorem dX12_mayNumber_22 : decode cX12_mayNumber 22 = .ok (.aload_n 0, 1) := by decide +kernel
theorem dX12_mayNumber_23 : decode cX12_mayNumber 23 = .ok (.iconst 0, 1) := by decide +kernel
theorem dX12_mayNumber_24 : decode cX12_mayNumber 24 = .ok (.iload_n 3, 1) := by decide +kernel
theorem dX12_mayNumber_25 : decode cX12_mayNumber 25 = .ok (.invokevirtual 167, 3) := by decide +kernel
theorem dX12_mayNumber_28 : decode cX12_mayNumber 28 = .ok (.ireturn, 1) := by decide +kernel
theorem dX12_wantEnd_0 : decode cX12_wantEnd 0 = .ok (.aload_n 0, 1) := by decide +kernel
theorem dX12_wantEnd_1 : decode cX12_wantEnd 1 = .ok (.aload_n 0, 1) := by decide +kernel
theorem dX12_wantEnd_2 : decode cX12_wantEnd 2 = .ok (.getfield 160, 3) := by decide +kernel
theorem dX12_wantEnd_5 : decode cX12_wantEnd 5 = .ok (.ifCond .eq 16, 3) := by decide +kernel
theorem dX12_wantEnd_8 : decode cX12_wantEnd 8 = .ok (.aload_n 0, 1) := by decide +kernel
theorem dX12_wantEnd_9 : decode cX12_wantEnd 9 = .ok (.bipush 59, 2) := by decide +kernel
theorem dX12_wantEnd_11 : decode cX12_wantEnd 11 = .ok (.invokevirtual 171, 3) := by decide +kernel
theorem dX12_wantEnd_14 : decode cX12_wantEnd 14 = .ok (.ifCond .eq 7, 3) := by decide +kernel
theorem dX12_wantEnd_17 : decode cX12_wantEnd 17 = .ok (.iconst 1, 1) := by decide +kernel
theorem dX12_wantEnd_18 : decode cX12_wantEnd 18 = .ok (.goto 4, 3) := by decide +kernel
theorem dX12_wantEnd_21 : decode cX12_wantEnd 21 = .ok (.iconst 0, 1) := by decide +kernel
theorem dX12_wantEnd_22 : decode cX12_wantEnd 22 = .ok (.putfield 160, 3) := by decide +kernel
theorem dX12_wantEnd_25 : decode cX12_wantEnd 25 = .ok (.aload_n 0, 1) := by decide +kernel
theorem dX12_wantEnd_26 : decode cX12_wantEnd 26 = .ok (.getfield 160, 3) := by decide +kernel
theorem dX12_wantEnd_29 : decode cX12_wantEnd 29 = .ok (.ifCond .eq 7, 3) := by decide +kernel
theorem dX12_wantEnd_32 : decode cX12_wantEnd 32 = .ok (.aload_n 0, 1) := by decide +kernel
theorem dX12_wantEnd_33 : decode cX12_wantEnd 33 = .ok (.invokevirtual 164, 3) := by decide +kernel
theorem dX12_wantEnd_36 : decode cX12_wantEnd 36 = .ok (.return_, 1) := by decide +kernel
theorem dX12_wantPerson_0 : decode cX12_wantPerson 0 = .ok (.aload_n 0, 1) := by decide +kernel
theorem dX12_wantPerson_1 : decode cX12_wantPerson 1 = .ok (.aload_n 0, 1) := by decide +kernel
theorem dX12_wantPerson_2 : decode cX12_wantPerson 2 = .ok (.getfield 174, 3) := by decide +kernel
theorem dX12_wantPerson_5 : decode cX12_wantPerson 5 = .ok (.bipush 6, 2) := by decide +kernel
theorem dX12_wantPerson_7 : decode cX12_wantPerson 7 = .ok (.if_icmp .ge 7, 3) := by decide +kernel
theorem dX12_wantPerson_10 : decode cX12_wantPerson 10 = .ok (.iconst 1, 1) := by decide +kernel
theorem dX12_wantPerson_11 : decode cX12_wantPerson 11 = .ok (.goto 4, 3) := by decide +kernel
theorem dX12_wantPerson_14 : decode cX12_wantPerson 14 = .ok (.iconst 0, 1) := by decide +kernel
theorem dX12_wantPerson_15 : decode cX12_wantPerson 15 = .ok (.putfield 160, 3) := by decide +kernel
theorem dX12_wantPerson_18 : decode cX12_wantPerson 18 = .ok (.aload_n 0, 1) := by decide +kernel
theorem dX12_wantPerson_19 : decode cX12_wantPerson 19 = .ok (.getfield 160, 3) := by decide +kernel
theorem dX12_wantPerson_22 : decode cX12_wantPerson 22 = .ok (.ifCond .eq 7, 3) := by decide +kernel
theorem dX12_wantPerson_25 : decode cX12_wantPerson 25 = .ok (.aload_n 0, 1) := by decide +kernel
theorem dX12_wantPerson_26 : decode cX12_wantPerson 26 = .ok (.invokevirtual 164, 3) := by decide +kernel
theorem dX12_wantPerson_29 : decode cX12_wantPerson 29 = .ok (.aload_n 0, 1) := by decide +kernel
theorem dX12_wantPerson_30 : decode cX12_wantPerson 30 = .ok (.ldc2_w 177, 3) := by decide +kernel
theorem dX12_wantPerson_33 : decode cX12_wantPerson 33 = .ok (.invokevirtual 179, 3) := by decide +kernel
theorem dX12_wantPerson_36 : decode cX12_wantPerson 36 = .ok (.aload_n 0, 1) := by decide +kernel
theorem dX12_wantPerson_37 : decode cX12_wantPerson 37 = .ok (.iconst 0, 1) := by decide +kernel
theorem dX12_wantPerson_38 : decode cX12_wantPerson 38 = .ok (.bipush 99, 2) := by decide +kernel
theorem dX12_wantPerson_40 : decode cX12_wantPerson 40 = .ok (.invokevirtual 167, 3) := by decide +kernel
theorem dX12_wantPerson_43 : decode cX12_wantPerson 43 = .ok (.istore_n 2, 1) := by decide +kernel
theorem dX12_wantPerson_44 : decode cX12_wantPerson 44 = .ok (.aload_n 0, 1) := by decide +kernel
theorem dX12_wantPerson_45 : decode cX12_wantPerson 45 = .ok (.ldc2_w 152, 3) := by decide +kernel
theorem dX12_wantPerson_48 : decode cX12_wantPerson 48 = .ok (.sipush 255, 3) := by decide +kernel
theorem dX12_wantPerson_51 : decode cX12_wantPerson 51 = .ok (.iconst 0, 1) := by decide +kernel
theorem dX12_wantPerson_52 : decode cX12_wantPerson 52 = .ok (.invokevirtual 183, 3) := by decide +kernel
theorem dX12_wantPerson_55 : decode cX12_wantPerson 55 = .ok (.istore_n 3, 1) := by decide +kernel
theorem dX12_wantPerson_56 : decode cX12_wantPerson 56 = .ok (.aload_n 0, 1) := by decide +kernel
theorem dX12_wantPerson_57 : decode cX12_wantPerson 57 = .ok (.ldc2_w 187, 3) := by decide +kernel
theorem dX12_wantPerson_60 : decode cX12_wantPerson 60 = .ok (.bipush 9, 2) := by decide +kernel
theorem dX12_wantPerson_62 : decode cX12_wantPerson 62 = .ok (.iconst 1, 1) := by decide +kernel
theorem dX12_wantPerson_63 : decode cX12_wantPerson 63 = .ok (.invokevirtual 183, 3) := by decide +kernel
theorem dX12_wantPerson_66 : decode cX12_wantPerson 66 = .ok (.istore 4, 2) := by decide +kernel
theorem dX12_wantPerson_68 : decode cX12_wantPerson 68 = .ok (.aload_n 0, 1) := by decide +kernel
theorem dX12_wantPerson_69 : decode cX12_wantPerson 69 = .ok (.invokevirtual 189, 3) := by decide +kernel
theorem dX12_wantPerson_72 : decode cX12_wantPerson 72 = .ok (.aload_n 0, 1) := by decide +kernel
theorem dX12_wantPerson_73 : decode cX12_wantPerson 73 = .ok (.getfield 160, 3) := by decide +kernel
theorem dX12_wantPerson_76 : decode cX12_wantPerson 76 = .ok (.ifCond .eq 68, 3) := by decide +kernel
theorem dX12_wantPerson_79 : decode cX12_wantPerson 79 = .ok (.aload_n 0, 1) := by decide +kernel
theorem dX12_wantPerson_80 : decode cX12_wantPerson 80 = .ok (.getfield 47, 3) := by decide +kernel
theorem dX12_wantPerson_83 : decode cX12_wantPerson 83 = .ok (.iconst 4, 1) := by decide +kernel
theorem dX12_wantPerson_84 : decode cX12_wantPerson 84 = .ok (.aload_n 0, 1) := by decide +kernel
theorem dX12_wantPerson_85 : decode cX12_wantPerson 85 = .ok (.getfield 174, 3) := by decide +kernel
theorem dX12_wantPerson_88 : decode cX12_wantPerson 88 = .ok (.imul, 1) := by decide +kernel
theorem dX12_wantPerson_89 : decode cX12_wantPerson 89 = .ok (.iload_n 1, 1) := by decide +kernel
theorem dX12_wantPerson_90 : decode cX12_wantPerson 90 = .ok (.iastore, 1) := by decide +kernel
theorem dX12_wantPerson_91 : decode cX12_wantPerson 91 = .ok (.aload_n 0, 1) := by decide +kernel
theorem dX12_wantPerson_92 : decode cX12_wantPerson 92 = .ok (.getfield 47, 3) := by decide +kernel
theorem dX12_wantPerson_95 : decode cX12_wantPerson 95 = .ok (.iconst 4, 1) := by decide +kernel
theorem dX12_wantPerson_96 : decode cX12_wantPerson 96 = .ok (.aload_n 0, 1) := by decide +kernel
theorem dX12_wantPerson_97 : decode cX12_wantPerson 97 = .ok (.getfield 174, 3) := by decide +kernel
theorem dX12_wantPerson_100 : decode cX12_wantPerson 100 = .ok (.imul, 1) := by decide +kernel
theorem dX12_wantPerson_101 : decode cX12_wantPerson 101 = .ok (.iconst 1, 1) := by decide +kernel
theorem dX12_wantPerson_102 : decode cX12_wantPerson 102 = .ok (.iadd, 1) := by decide +kernel
theorem dX12_wantPerson_103 : decode cX12_wantPerson 103 = .ok (.iload_n 3, 1) := by decide +kernel
theorem dX12_wantPerson_104 : decode cX12_wantPerson 104 = .ok (.iastore, 1) := by decide +kernel
theorem dX12_wantPerson_105 : decode cX12_wantPerson 105 = .ok (.aload_n 0, 1) := by decide +kernel
theorem dX12_wantPerson_106 : decode cX12_wantPerson 106 = .ok (.getfield 47, 3) := by decide +kernel
theorem dX12_wantPerson_109 : decode cX12_wantPerson 109 = .ok (.iconst 4, 1) := by decide +kernel
theorem dX12_wantPerson_110 : decode cX12_wantPerson 110 = .ok (.aload_n 0, 1) := by decide +kernel
theorem dX12_wantPerson_111 : decode cX12_wantPerson 111 = .ok (.getfield 174, 3) := by decide +kernel
theorem dX12_wantPerson_114 : decode cX12_wantPerson 114 = .ok (.imul, 1) := by decide +kernel
theorem dX12_wantPerson_115 : decode cX12_wantPerson 115 = .ok (.iconst 2, 1) := by decide +kernel
theorem dX12_wantPerson_116 : decode cX12_wantPerson 116 = .ok (.iadd, 1) := by decide +kernel
theorem dX12_wantPerson_117 : decode cX12_wantPerson 117 = .ok (.iload_n 2, 1) := by decide +kernel
theorem dX12_wantPerson_118 : decode cX12_wantPerson 118 = .ok (.iastore, 1) := by decide +kernel
theorem dX12_wantPerson_119 : decode cX12_wantPerson 119 = .ok (.aload_n 0, 1) := by decide +kernel
theorem dX12_wantPerson_120 : decode cX12_wantPerson 120 = .ok (.getfield 47, 3) := by decide +kernel
theorem dX12_wantPerson_123 : decode cX12_wantPerson 123 = .ok (.iconst 4, 1) := by decide +kernel
theorem dX12_wantPerson_124 : decode cX12_wantPerson 124 = .ok (.aload_n 0, 1) := by decide +kernel
theorem dX12_wantPerson_125 : decode cX12_wantPerson 125 = .ok (.getfield 174, 3) := by decide +kernel
theorem dX12_wantPerson_128 : decode cX12_wantPerson 128 = .ok (.imul, 1) := by decide +kernel
theorem dX12_wantPerson_129 : decode cX12_wantPerson 129 = .ok (.iconst 3, 1) := by decide +kernel
theorem dX12_wantPerson_130 : decode cX12_wantPerson 130 = .ok (.iadd, 1) := by decide +kernel
theorem dX12_wantPerson_131 : decode cX12_wantPerson 131 = .ok (.iload 4, 2) := by decide +kernel
theorem dX12_wantPerson_133 : decode cX12_wantPerson 133 = .ok (.iastore, 1) := by decide +kernel
theorem dX12_wantPerson_134 : decode cX12_wantPerson 134 = .ok (.aload_n 0, 1) := by decide +kernel
theorem dX12_wantPerson_135 : decode cX12_wantPerson 135 = .ok (.dup, 1) := by decide +kernel
theorem dX12_wantPerson_136 : decode cX12_wantPerson 136 = .ok (.getfield 174, 3) := by decide +kernel
theorem dX12_wantPerson_139 : decode cX12_wantPerson 139 = .ok (.iconst 1, 1) := by decide +kernel
theorem dX12_wantPerson_140 : decode cX12_wantPerson 140 = .ok (.iadd, 1) := by decide +kernel
theorem dX12_wantPerson_141 : decode cX12_wantPerson 141 = .ok (.putfield 174, 3) := by decide +kernel
theorem dX12_wantPerson_144 : decode cX12_wantPerson 144 = .ok (.return_, 1) := by decide +kernel
theorem dX12_wantWorths_0 : decode cX12_wantWorths 0 = .ok (.iconst 0, 1) := by decide +kernel
theorem dX12_wantWorths_1 : decode cX12_wantWorths 1 = .ok (.istore_n 1, 1) := by decide +kernel
theorem dX12_wantWorths_2 : decode cX12_wantWorths 2 = .ok (.aload_n 0, 1) := by decide +kernel
theorem dX12_wantWorths_3 : decode cX12_wantWorths 3 = .ok (.getfield 160, 3) := by decide +kernel
theorem dX12_wantWorths_6 : decode cX12_wantWorths 6 = .ok (.istore_n 2, 1) := by decide +kernel
theorem dX12_wantWorths_7 : decode cX12_wantWorths 7 = .ok (.aload_n 0, 1) := by decide +kernel
theorem dX12_wantWorths_8 : decode cX12_wantWorths 8 = .ok (.getfield 160, 3) := by decide +kernel
theorem dX12_wantWorths_11 : decode cX12_wantWorths 11 = .ok (.ifCond .eq 132, 3) := by decide +kernel
theorem dX12_wantWorths_14 : decode cX12_wantWorths 14 = .ok (.iload_n 2, 1) := by decide +kernel
theorem dX12_wantWorths_15 : decode cX12_wantWorths 15 = .ok (.ifCond .eq 128, 3) := by decide +kernel
theorem dX12_wantWorths_18 : decode cX12_wantWorths 18 = .ok (.aload_n 0, 1) := by decide +kernel
theorem dX12_wantWorths_19 : decode cX12_wantWorths 19 = .ok (.iload_n 1, 1) := by decide +kernel
theorem dX12_wantWorths_20 : decode cX12_wantWorths 20 = .ok (.aload_n 0, 1) := by decide +kernel
theorem dX12_wantWorths_21 : decode cX12_wantWorths 21 = .ok (.getfield 174, 3) := by decide +kernel
theorem dX12_wantWorths_24 : decode cX12_wantWorths 24 = .ok (.if_icmp .ge 7, 3) := by decide +kernel
theorem dX12_wantWorths_27 : decode cX12_wantWorths 27 = .ok (.iconst 1, 1) := by decide +kernel
theorem dX12_wantWorths_28 : decode cX12_wantWorths 28 = .ok (.goto 4, 3) := by decide +kernel
theorem dX12_wantWorths_31 : decode cX12_wantWorths 31 = .ok (.iconst 0, 1) := by decide +kernel
theorem dX12_wantWorths_32 : decode cX12_wantWorths 32 = .ok (.putfield 160, 3) := by decide +kernel
theorem dX12_wantWorths_35 : decode cX12_wantWorths 35 = .ok (.aload_n 0, 1) := by decide +kernel
theorem dX12_wantWorths_36 : decode cX12_wantWorths 36 = .ok (.getfield 160, 3) := by decide +kernel
theorem dX12_wantWorths_39 : decode cX12_wantWorths 39 = .ok (.ifCond .eq 16, 3) := by decide +kernel
theorem dX12_wantWorths_42 : decode cX12_wantWorths 42 = .ok (.aload_n 0, 1) := by decide +kernel
theorem dX12_wantWorths_43 : decode cX12_wantWorths 43 = .ok (.bipush 45, 2) := by decide +kernel
theorem dX12_wantWorths_45 : decode cX12_wantWorths 45 = .ok (.invokevirtual 171, 3) := by decide +kernel
theorem dX12_wantWorths_48 : decode cX12_wantWorths 48 = .ok (.ifCond .eq 7, 3) := by decide +kernel
theorem dX12_wantWorths_51 : decode cX12_wantWorths 51 = .ok (.iconst 1, 1) := by decide +kernel
theorem dX12_wantWorths_52 : decode cX12_wantWorths 52 = .ok (.goto 4, 3) := by decide +kernel
theorem dX12_wantWorths_55 : decode cX12_wantWorths 55 = .ok (.iconst 0, 1) := by decide +kernel
theorem dX12_wantWorths_56 : decode cX12_wantWorths 56 = .ok (.istore_n 3, 1) := by decide +kernel
theorem dX12_wantWorths_57 : decode cX12_wantWorths 57 = .ok (.iload_n 3, 1) := by decide +kernel
theorem dX12_wantWorths_58 : decode cX12_wantWorths 58 = .ok (.ifCond .eq 7, 3) := by decide +kernel
theorem dX12_wantWorths_61 : decode cX12_wantWorths 61 = .ok (.aload_n 0, 1) := by decide +kernel
theorem dX12_wantWorths_62 : decode cX12_wantWorths 62 = .ok (.invokevirtual 164, 3) := by decide +kernel
theorem dX12_wantWorths_65 : decode cX12_wantWorths 65 = .ok (.aload_n 0, 1) := by decide +kernel
theorem dX12_wantWorths_66 : decode cX12_wantWorths 66 = .ok (.iconst 0, 1) := by decide +kernel
theorem dX12_wantWorths_67 : decode cX12_wantWorths 67 = .ok (.bipush 9, 2) := by decide +kernel
theorem dX12_wantWorths_69 : decode cX12_wantWorths 69 = .ok (.invokevirtual 167, 3) := by decide +kernel
theorem dX12_wantWorths_72 : decode cX12_wantWorths 72 = .ok (.istore 4, 2) := by decide +kernel
theorem dX12_wantWorths_74 : decode cX12_wantWorths 74 = .ok (.aload_n 0, 1) := by decide +kernel
theorem dX12_wantWorths_75 : decode cX12_wantWorths 75 = .ok (.getfield 160, 3) := by decide +kernel
theorem dX12_wantWorths_78 : decode cX12_wantWorths 78 = .ok (.ifCond .eq 29, 3) := by decide +kernel
theorem dX12_wantWorths_81 : decode cX12_wantWorths 81 = .ok (.aload_n 0, 1) := by decide +kernel
theorem dX12_wantWorths_82 : decode cX12_wantWorths 82 = .ok (.getfield 53, 3) := by decide +kernel
theorem dX12_wantWorths_85 : decode cX12_wantWorths 85 = .ok (.bipush 6, 2) := by decide +kernel
theorem dX12_wantWorths_87 : decode cX12_wantWorths 87 = .ok (.aload_n 0, 1) := by decide +kernel
theorem dX12_wantWorths_88 : decode cX12_wantWorths 88 = .ok (.getfield 192, 3) := by decide +kernel
theorem dX12_wantWorths_91 : decode cX12_wantWorths 91 = .ok (.imul, 1) := by decide +kernel
theorem dX12_wantWorths_92 : decode cX12_wantWorths 92 = .ok (.iload_n 1, 1) := by decide +kernel
theorem dX12_wantWorths_93 : decode cX12_wantWorths 93 = .ok (.iadd, 1) := by decide +kernel
theorem dX12_wantWorths_94 : decode cX12_wantWorths 94 = .ok (.iload_n 3, 1) := by decide +kernel
theorem dX12_wantWorths_95 : decode cX12_wantWorths 95 = .ok (.ifCond .eq 9, 3) := by decide +kernel
theorem dX12_wantWorths_98 : decode cX12_wantWorths 98 = .ok (.iload 4, 2) := by decide +kernel
theorem dX12_wantWorths_100 : decode cX12_wantWorths 100 = .ok (.ineg, 1) := by decide +kernel
theorem dX12_wantWorths_101 : decode cX12_wantWorths 101 = .ok (.goto 5, 3) := by decide +kernel
theorem dX12_wantWorths_104 : decode cX12_wantWorths 104 = .ok (.iload 4, 2) := by decide +kernel
theorem dX12_wantWorths_106 : decode cX12_wantWorths 106 = .ok (.iastore, 1) := by decide +kernel
theorem dX12_wantWorths_107 : decode cX12_wantWorths 107 = .ok (.iinc 1 1, 3) := by decide +kernel
theorem dX12_wantWorths_110 : decode cX12_wantWorths 110 = .ok (.aload_n 0, 1) := by decide +kernel
theorem dX12_wantWorths_111 : decode cX12_wantWorths 111 = .ok (.getfield 160, 3) := by decide +kernel
theorem dX12_wantWorths_114 : decode cX12_wantWorths 114 = .ok (.ifCond .eq 16, 3) := by decide +kernel
theorem dX12_wantWorths_117 : decode cX12_wantWorths 117 = .ok (.aload_n 0, 1) := by decide +kernel
theorem dX12_wantWorths_118 : decode cX12_wantWorths 118 = .ok (.bipush 44, 2) := by decide +kernel
theorem dX12_wantWorths_120 : decode cX12_wantWorths 120 = .ok (.invokevirtual 171, 3) := by decide +kernel
theorem dX12_wantWorths_123 : decode cX12_wantWorths 123 = .ok (.ifCond .eq 7, 3) := by decide +kernel
theorem dX12_wantWorths_126 : decode cX12_wantWorths 126 = .ok (.iconst 1, 1) := by decide +kernel
theorem dX12_wantWorths_127 : decode cX12_wantWorths 127 = .ok (.goto 4, 3) := by decide +kernel
theorem dX12_wantWorths_130 : decode cX12_wantWorths 130 = .ok (.iconst 0, 1) := by decide +kernel
theorem dX12_wantWorths_131 : decode cX12_wantWorths 131 = .ok (.istore_n 2, 1) := by decide +kernel
theorem dX12_wantWorths_132 : decode cX12_wantWorths 132 = .ok (.iload_n 2, 1) := by decide +kernel
theorem dX12_wantWorths_133 : decode cX12_wantWorths 133 = .ok (.ifCond .eq 7, 3) := by decide +kernel
theorem dX12_wantWorths_136 : decode cX12_wantWorths 136 = .ok (.aload_n 0, 1) := by decide +kernel
theorem dX12_wantWorths_137 : decode cX12_wantWorths 137 = .ok (.invokevirtual 164, 3) := by decide +kernel
theorem dX12_wantWorths_140 : decode cX12_wantWorths 140 = .ok (.goto (-133), 3) := by decide +kernel
theorem dX12_wantWorths_143 : decode cX12_wantWorths 143 = .ok (.return_, 1) := by decide +kernel
theorem dX12_wantProposal_0 : decode cX12_wantProposal 0 = .ok (.aload_n 0, 1) := by decide +kernel
theorem dX12_wantProposal_1 : decode cX12_wantProposal 1 = .ok (.aload_n 0, 1) := by decide +kernel
theorem dX12_wantProposal_2 : decode cX12_wantProposal 2 = .ok (.getfield 192, 3) := by decide +kernel
theorem dX12_wantProposal_5 : decode cX12_wantProposal 5 = .ok (.bipush 8, 2) := by decide +kernel
theorem dX12_wantProposal_7 : decode cX12_wantProposal 7 = .ok (.if_icmp .ge 7, 3) := by decide +kernel
theorem dX12_wantProposal_10 : decode cX12_wantProposal 10 = .ok (.iconst 1, 1) := by decide +kernel
theorem dX12_wantProposal_11 : decode cX12_wantProposal 11 = .ok (.goto 4, 3) := by decide +kernel
theorem dX12_wantProposal_14 : decode cX12_wantProposal 14 = .ok (.iconst 0, 1) := by decide +kernel
theorem dX12_wantProposal_15 : decode cX12_wantProposal 15 = .ok (.putfield 160, 3) := by decide +kernel
theorem dX12_wantProposal_18 : decode cX12_wantProposal 18 = .ok (.aload_n 0, 1) := by decide +kernel
theorem dX12_wantProposal_19 : decode cX12_wantProposal 19 = .ok (.getfield 160, 3) := by decide +kernel
theorem dX12_wantProposal_22 : decode cX12_wantProposal 22 = .ok (.ifCond .eq 7, 3) := by decide +kernel
theorem dX12_wantProposal_25 : decode cX12_wantProposal 25 = .ok (.aload_n 0, 1) := by decide +kernel
theorem dX12_wantProposal_26 : decode cX12_wantProposal 26 = .ok (.invokevirtual 164, 3) := by decide +kernel
theorem dX12_wantProposal_29 : decode cX12_wantProposal 29 = .ok (.aload_n 0, 1) := by decide +kernel
theorem dX12_wantProposal_30 : decode cX12_wantProposal 30 = .ok (.iconst 0, 1) := by decide +kernel
theorem dX12_wantProposal_31 : decode cX12_wantProposal 31 = .ok (.bipush 9, 2) := by decide +kernel
theorem dX12_wantProposal_33 : decode cX12_wantProposal 33 = .ok (.invokevirtual 167, 3) := by decide +kernel
theorem dX12_wantProposal_36 : decode cX12_wantProposal 36 = .ok (.istore_n 1, 1) := by decide +kernel
theorem dX12_wantProposal_37 : decode cX12_wantProposal 37 = .ok (.iconst 0, 1) := by decide +kernel
theorem dX12_wantProposal_38 : decode cX12_wantProposal 38 = .ok (.istore_n 2, 1) := by decide +kernel
theorem dX12_wantProposal_39 : decode cX12_wantProposal 39 = .ok (.iload_n 2, 1) := by decide +kernel
theorem dX12_wantProposal_40 : decode cX12_wantProposal 40 = .ok (.bipush 6, 2) := by decide +kernel
theorem dX12_wantProposal_42 : decode cX12_wantProposal 42 = .ok (.if_icmp .ge 31, 3) := by decide +kernel
theorem dX12_wantProposal_45 : decode cX12_wantProposal 45 = .ok (.aload_n 0, 1) := by decide +kernel
theorem dX12_wantProposal_46 : decode cX12_wantProposal 46 = .ok (.getfield 160, 3) := by decide +kernel
theorem dX12_wantProposal_49 : decode cX12_wantProposal 49 = .ok (.ifCond .eq 24, 3) := by decide +kernel
theorem dX12_wantProposal_52 : decode cX12_wantProposal 52 = .ok (.aload_n 0, 1) := by decide +kernel
theorem dX12_wantProposal_53 : decode cX12_wantProposal 53 = .ok (.getfield 53, 3) := by decide +kernel
theorem dX12_wantProposal_56 : decode cX12_wantProposal 56 = .ok (.bipush 6, 2) := by decide +kernel
theorem dX12_wantProposal_58 : decode cX12_wantProposal 58 = .ok (.aload_n 0, 1) := by decide +kernel
theorem dX12_wantProposal_59 : decode cX12_wantProposal 59 = .ok (.getfield 192, 3) := by decide +kernel
theorem dX12_wantProposal_62 : decode cX12_wantProposal 62 = .ok (.imul, 1) := by decide +kernel
theorem dX12_wantProposal_63 : decode cX12_wantProposal 63 = .ok (.iload_n 2, 1) := by decide +kernel
theorem dX12_wantProposal_64 : decode cX12_wantProposal 64 = .ok (.iadd, 1) := by decide +kernel
theorem dX12_wantProposal_65 : decode cX12_wantProposal 65 = .ok (.iconst 0, 1) := by decide +kernel
theorem dX12_wantProposal_66 : decode cX12_wantProposal 66 = .ok (.iastore, 1) := by decide +kernel
theorem dX12_wantProposal_67 : decode cX12_wantProposal 67 = .ok (.iinc 2 1, 3) := by decide +kernel
theorem dX12_wantProposal_70 : decode cX12_wantProposal 70 = .ok (.goto (-31), 3) := by decide +kernel
theorem dX12_wantProposal_73 : decode cX12_wantProposal 73 = .ok (.aload_n 0, 1) := by decide +kernel
theorem dX12_wantProposal_74 : decode cX12_wantProposal 74 = .ok (.getfield 160, 3) := by decide +kernel
theorem dX12_wantProposal_77 : decode cX12_wantProposal 77 = .ok (.ifCond .eq 21, 3) := by decide +kernel
theorem dX12_wantProposal_80 : decode cX12_wantProposal 80 = .ok (.aload_n 0, 1) := by decide +kernel
theorem dX12_wantProposal_81 : decode cX12_wantProposal 81 = .ok (.ldc2_w 195, 3) := by decide +kernel
theorem dX12_wantProposal_84 : decode cX12_wantProposal 84 = .ok (.invokevirtual 146, 3) := by decide +kernel
theorem dX12_wantProposal_87 : decode cX12_wantProposal 87 = .ok (.ifCond .eq 11, 3) := by decide +kernel
theorem dX12_wantProposal_90 : decode cX12_wantProposal 90 = .ok (.aload_n 0, 1) := by decide +kernel
theorem dX12_wantProposal_91 : decode cX12_wantProposal 91 = .ok (.invokevirtual 164, 3) := by decide +kernel
theorem dX12_wantProposal_94 : decode cX12_wantProposal 94 = .ok (.aload_n 0, 1) := by decide +kernel
theorem dX12_wantProposal_95 : decode cX12_wantProposal 95 = .ok (.invokevirtual 197, 3) := by decide +kernel
theorem dX12_wantProposal_98 : decode cX12_wantProposal 98 = .ok (.aload_n 0, 1) := by decide +kernel
theorem dX12_wantProposal_99 : decode cX12_wantProposal 99 = .ok (.invokevirtual 189, 3) := by decide +kernel
theorem dX12_wantProposal_102 : decode cX12_wantProposal 102 = .ok (.aload_n 0, 1) := by decide +kernel
theorem dX12_wantProposal_103 : decode cX12_wantProposal 103 = .ok (.getfield 160, 3) := by decide +kernel
theorem dX12_wantProposal_106 : decode cX12_wantProposal 106 = .ok (.ifCond .eq 23, 3) := by decide +kernel
theorem dX12_wantProposal_109 : decode cX12_wantProposal 109 = .ok (.aload_n 0, 1) := by decide +kernel
theorem dX12_wantProposal_110 : decode cX12_wantProposal 110 = .ok (.getfield 50, 3) := by decide +kernel
theorem dX12_wantProposal_113 : decode cX12_wantProposal 113 = .ok (.aload_n 0, 1) := by decide +kernel
theorem dX12_wantProposal_114 : decode cX12_wantProposal 114 = .ok (.getfield 192, 3) := by decide +kernel
theorem dX12_wantProposal_117 : decode cX12_wantProposal 117 = .ok (.iload_n 1, 1) := by decide +kernel
theorem dX12_wantProposal_118 : decode cX12_wantProposal 118 = .ok (.iastore, 1) := by decide +kernel
theorem dX12_wantProposal_119 : decode cX12_wantProposal 119 = .ok (.aload_n 0, 1) := by decide +kernel
theorem dX12_wantProposal_120 : decode cX12_wantProposal 120 = .ok (.dup, 1) := by decide +kernel
theorem dX12_wantProposal_121 : decode cX12_wantProposal 121 = .ok (.getfield 192, 3) := by decide +kernel
theorem dX12_wantProposal_124 : decode cX12_wantProposal 124 = .ok (.iconst 1, 1) := by decide +kernel
theorem dX12_wantProposal_125 : decode cX12_wantProposal 125 = .ok (.iadd, 1) := by decide +kernel
theorem dX12_wantProposal_126 : decode cX12_wantProposal 126 = .ok (.putfield 192, 3) := by decide +kernel
theorem dX12_wantProposal_129 : decode cX12_wantProposal 129 = .ok (.return_, 1) := by decide +kernel
theorem dX12_wantLaw_0 : decode cX12_wantLaw 0 = .ok (.aload_n 0, 1) := by decide +kernel
theorem dX12_wantLaw_1 : decode cX12_wantLaw 1 = .ok (.invokevirtual 164, 3) := by decide +kernel
theorem dX12_wantLaw_4 : decode cX12_wantLaw 4 = .ok (.iload_n 1, 1) := by decide +kernel
theorem dX12_wantLaw_5 : decode cX12_wantLaw 5 = .ok (.iconst 1, 1) := by decide +kernel
theorem dX12_wantLaw_6 : decode cX12_wantLaw 6 = .ok (.if_icmp .ne 7, 3) := by decide +kernel
theorem dX12_wantLaw_9 : decode cX12_wantLaw 9 = .ok (.iconst 1, 1) := by decide +kernel
theorem dX12_wantLaw_10 : decode cX12_wantLaw 10 = .ok (.goto 19, 3) := by decide +kernel
theorem dX12_wantLaw_13 : decode cX12_wantLaw 13 = .ok (.aload_n 0, 1) := by decide +kernel
theorem dX12_wantLaw_14 : decode cX12_wantLaw 14 = .ok (.aload_n 0, 1) := by decide +kernel
theorem dX12_wantLaw_15 : decode cX12_wantLaw 15 = .ok (.getfield 31, 3) := by decide +kernel
theorem dX12_wantLaw_18 : decode cX12_wantLaw 18 = .ok (.iload_n 1, 1) := by decide +kernel
theorem dX12_wantLaw_19 : decode cX12_wantLaw 19 = .ok (.iaload, 1) := by decide +kernel
theorem dX12_wantLaw_20 : decode cX12_wantLaw 20 = .ok (.aload_n 0, 1) := by decide +kernel
theorem dX12_wantLaw_21 : decode cX12_wantLaw 21 = .ok (.getfield 34, 3) := by decide +kernel
theorem dX12_wantLaw_24 : decode cX12_wantLaw 24 = .ok (.iload_n 1, 1) := by decide +kernel
theorem dX12_wantLaw_25 : decode cX12_wantLaw 25 = .ok (.iaload, 1) := by decide +kernel
theorem dX12_wantLaw_26 : decode cX12_wantLaw 26 = .ok (.invokevirtual 167, 3) := by decide +kernel
theorem dX12_wantLaw_29 : decode cX12_wantLaw 29 = .ok (.istore_n 2, 1) := by decide +kernel
theorem dX12_wantLaw_30 : decode cX12_wantLaw 30 = .ok (.aload_n 0, 1) := by decide +kernel
theorem dX12_wantLaw_31 : decode cX12_wantLaw 31 = .ok (.invokevirtual 189, 3) := by decide +kernel
theorem dX12_wantLaw_34 : decode cX12_wantLaw 34 = .ok (.aload_n 0, 1) := by decide +kernel
theorem dX12_wantLaw_35 : decode cX12_wantLaw 35 = .ok (.getfield 56, 3) := by decide +kernel
theorem dX12_wantLaw_38 : decode cX12_wantLaw 38 = .ok (.iload_n 1, 1) := by decide +kernel
theorem dX12_wantLaw_39 : decode cX12_wantLaw 39 = .ok (.iload_n 2, 1) := by decide +kernel
theorem dX12_wantLaw_40 : decode cX12_wantLaw 40 = .ok (.iastore, 1) := by decide +kernel
theorem dX12_wantLaw_41 : decode cX12_wantLaw 41 = .ok (.return_, 1) := by decide +kernel
theorem dX12_wantClause_0 : decode cX12_wantClause 0 = .ok (.aload_n 0, 1) := by decide +kernel
theorem dX12_wantClause_1 : decode cX12_wantClause 1 = .ok (.invokevirtual 200, 3) := by decide +kernel
theorem dX12_wantClause_4 : decode cX12_wantClause 4 = .ok (.ifCond .lt 14, 3) := by decide +kernel
theorem dX12_wantClause_7 : decode cX12_wantClause 7 = .ok (.aload_n 0, 1) := by decide +kernel
theorem dX12_wantClause_8 : decode cX12_wantClause 8 = .ok (.aload_n 0, 1) := by decide +kernel
theorem dX12_wantClause_9 : decode cX12_wantClause 9 = .ok (.invokevirtual 200, 3) := by decide +kernel
theorem dX12_wantClause_12 : decode cX12_wantClause 12 = .ok (.invokevirtual 204, 3) := by decide +kernel
theorem dX12_wantClause_15 : decode cX12_wantClause 15 = .ok (.goto 79, 3) := by decide +kernel
theorem dX12_wantClause_18 : decode cX12_wantClause 18 = .ok (.aload_n 0, 1) := by decide +kernel
theorem dX12_wantClause_19 : decode cX12_wantClause 19 = .ok (.ldc2_w 208, 3) := by decide +kernel
theorem dX12_wantClause_22 : decode cX12_wantClause 22 = .ok (.invokevirtual 146, 3) := by decide +kernel
theorem dX12_wantClause_25 : decode cX12_wantClause 25 = .ok (.ifCond .eq 10, 3) := by decide +kernel
theorem dX12_wantClause_28 : decode cX12_wantClause 28 = .ok (.aload_n 0, 1) := by decide +kernel
theorem dX12_wantClause_29 : decode cX12_wantClause 29 = .ok (.invokevirtual 210, 3) := by decide +kernel
theorem dX12_wantClause_32 : decode cX12_wantClause 32 = .ok (.goto 62, 3) := by decide +kernel
theorem dX12_wantClause_35 : decode cX12_wantClause 35 = .ok (.aload_n 0, 1) := by decide +kernel
theorem dX12_wantClause_36 : decode cX12_wantClause 36 = .ok (.ldc2_w 213, 3) := by decide +kernel
theorem dX12_wantClause_39 : decode cX12_wantClause 39 = .ok (.invokevirtual 146, 3) := by decide +kernel
theorem dX12_wantClause_42 : decode cX12_wantClause 42 = .ok (.ifCond .eq 11, 3) := by decide +kernel
theorem dX12_wantClause_45 : decode cX12_wantClause 45 = .ok (.aload_n 0, 1) := by decide +kernel
theorem dX12_wantClause_46 : decode cX12_wantClause 46 = .ok (.iconst 0, 1) := by decide +kernel
theorem dX12_wantClause_47 : decode cX12_wantClause 47 = .ok (.invokevirtual 215, 3) := by decide +kernel
theorem dX12_wantClause_50 : decode cX12_wantClause 50 = .ok (.goto 44, 3) := by decide +kernel
theorem dX12_wantClause_53 : decode cX12_wantClause 53 = .ok (.aload_n 0, 1) := by decide +kernel
theorem dX12_wantClause_54 : decode cX12_wantClause 54 = .ok (.ldc2_w 218, 3) := by decide +kernel
theorem dX12_wantClause_57 : decode cX12_wantClause 57 = .ok (.invokevirtual 146, 3) := by decide +kernel
theorem dX12_wantClause_60 : decode cX12_wantClause 60 = .ok (.ifCond .eq 11, 3) := by decide +kernel
theorem dX12_wantClause_63 : decode cX12_wantClause 63 = .ok (.aload_n 0, 1) := by decide +kernel
theorem dX12_wantClause_64 : decode cX12_wantClause 64 = .ok (.iconst 1, 1) := by decide +kernel
theorem dX12_wantClause_65 : decode cX12_wantClause 65 = .ok (.invokevirtual 215, 3) := by decide +kernel
theorem dX12_wantClause_68 : decode cX12_wantClause 68 = .ok (.goto 26, 3) := by decide +kernel
theorem dX12_wantClause_71 : decode cX12_wantClause 71 = .ok (.aload_n 0, 1) := by decide +kernel
theorem dX12_wantClause_72 : decode cX12_wantClause 72 = .ok (.ldc2_w 220, 3) := by decide +kernel
theorem dX12_wantClause_75 : decode cX12_wantClause 75 = .ok (.invokevirtual 146, 3) := by decide +kernel
theorem dX12_wantClause_78 : decode cX12_wantClause 78 = .ok (.ifCond .eq 11, 3) := by decide +kernel
theorem dX12_wantClause_81 : decode cX12_wantClause 81 = .ok (.aload_n 0, 1) := by decide +kernel
theorem dX12_wantClause_82 : decode cX12_wantClause 82 = .ok (.iconst 2, 1) := by decide +kernel
theorem dX12_wantClause_83 : decode cX12_wantClause 83 = .ok (.invokevirtual 215, 3) := by decide +kernel
theorem dX12_wantClause_86 : decode cX12_wantClause 86 = .ok (.goto 8, 3) := by decide +kernel
theorem dX12_wantClause_89 : decode cX12_wantClause 89 = .ok (.aload_n 0, 1) := by decide +kernel
theorem dX12_wantClause_90 : decode cX12_wantClause 90 = .ok (.iconst 0, 1) := by decide +kernel
theorem dX12_wantClause_91 : decode cX12_wantClause 91 = .ok (.putfield 160, 3) := by decide +kernel
theorem dX12_wantClause_94 : decode cX12_wantClause 94 = .ok (.return_, 1) := by decide +kernel
theorem dX12_village_0 : decode cX12_village 0 = .ok (.aload_n 0, 1) := by decide +kernel
theorem dX12_village_1 : decode cX12_village 1 = .ok (.iconst 0, 1) := by decide +kernel
theorem dX12_village_2 : decode cX12_village 2 = .ok (.putfield 111, 3) := by decide +kernel
theorem dX12_village_5 : decode cX12_village 5 = .ok (.aload_n 0, 1) := by decide +kernel
theorem dX12_village_6 : decode cX12_village 6 = .ok (.iconst 1, 1) := by decide +kernel
theorem dX12_village_7 : decode cX12_village 7 = .ok (.putfield 160, 3) := by decide +kernel
theorem dX12_village_10 : decode cX12_village 10 = .ok (.aload_n 0, 1) := by decide +kernel
theorem dX12_village_11 : decode cX12_village 11 = .ok (.iconst 0, 1) := by decide +kernel
theorem dX12_village_12 : decode cX12_village 12 = .ok (.putfield 174, 3) := by decide +kernel
theorem dX12_village_15 : decode cX12_village 15 = .ok (.aload_n 0, 1) := by decide +kernel
theorem dX12_village_16 : decode cX12_village 16 = .ok (.iconst 0, 1) := by decide +kernel
theorem dX12_village_17 : decode cX12_village 17 = .ok (.putfield 192, 3) := by decide +kernel
theorem dX12_village_20 : decode cX12_village 20 = .ok (.iconst 0, 1) := by decide +kernel
theorem dX12_village_21 : decode cX12_village 21 = .ok (.istore_n 1, 1) := by decide +kernel
theorem dX12_village_22 : decode cX12_village 22 = .ok (.iload_n 1, 1) := by decide +kernel
theorem dX12_village_23 : decode cX12_village 23 = .ok (.iconst 3, 1) := by decide +kernel
theorem dX12_village_24 : decode cX12_village 24 = .ok (.if_icmp .ge 21, 3) := by decide +kernel
theorem dX12_village_27 : decode cX12_village 27 = .ok (.aload_n 0, 1) := by decide +kernel
theorem dX12_village_28 : decode cX12_village 28 = .ok (.getfield 56, 3) := by decide +kernel
theorem dX12_village_31 : decode cX12_village 31 = .ok (.iload_n 1, 1) := by decide +kernel
theorem dX12_village_32 : decode cX12_village 32 = .ok (.aload_n 0, 1) := by decide +kernel
theorem dX12_village_33 : decode cX12_village 33 = .ok (.getfield 31, 3) := by decide +kernel
theorem dX12_village_36 : decode cX12_village 36 = .ok (.iload_n 1, 1) := by decide +kernel
theorem dX12_village_37 : decode cX12_village 37 = .ok (.iaload, 1) := by decide +kernel
theorem dX12_village_38 : decode cX12_village 38 = .ok (.iastore, 1) := by decide +kernel
theorem dX12_village_39 : decode cX12_village 39 = .ok (.iinc 1 1, 3) := by decide +kernel
theorem dX12_village_42 : decode cX12_village 42 = .ok (.goto (-20), 3) := by decide +kernel
theorem dX12_village_45 : decode cX12_village 45 = .ok (.aload_n 0, 1) := by decide +kernel
theorem dX12_village_46 : decode cX12_village 46 = .ok (.invokevirtual 164, 3) := by decide +kernel
theorem dX12_village_49 : decode cX12_village 49 = .ok (.aload_n 0, 1) := by decide +kernel
theorem dX12_village_50 : decode cX12_village 50 = .ok (.getfield 160, 3) := by decide +kernel
theorem dX12_village_53 : decode cX12_village 53 = .ok (.ifCond .eq 17, 3) := by decide +kernel
theorem dX12_village_56 : decode cX12_village 56 = .ok (.aload_n 0, 1) := by decide +kernel
theorem dX12_village_57 : decode cX12_village 57 = .ok (.getfield 128, 3) := by decide +kernel
theorem dX12_village_60 : decode cX12_village 60 = .ok (.ifCond .eq 10, 3) := by decide +kernel
theorem dX12_village_63 : decode cX12_village 63 = .ok (.aload_n 0, 1) := by decide +kernel
theorem dX12_village_64 : decode cX12_village 64 = .ok (.invokevirtual 222, 3) := by decide +kernel
theorem dX12_village_67 : decode cX12_village 67 = .ok (.goto (-18), 3) := by decide +kernel
theorem dX12_village_70 : decode cX12_village 70 = .ok (.aload_n 0, 1) := by decide +kernel
theorem dX12_village_71 : decode cX12_village 71 = .ok (.iconst 0, 1) := by decide +kernel
theorem dX12_village_72 : decode cX12_village 72 = .ok (.putfield 106, 3) := by decide +kernel
theorem dX12_village_75 : decode cX12_village 75 = .ok (.aload_n 0, 1) := by decide +kernel
theorem dX12_village_76 : decode cX12_village 76 = .ok (.getfield 160, 3) := by decide +kernel
theorem dX12_village_79 : decode cX12_village 79 = .ok (.ifCond .ne 11, 3) := by decide +kernel
theorem dX12_village_82 : decode cX12_village 82 = .ok (.bipush (-100), 2) := by decide +kernel
theorem dX12_village_84 : decode cX12_village 84 = .ok (.aload_n 0, 1) := by decide +kernel
theorem dX12_village_85 : decode cX12_village 85 = .ok (.getfield 114, 3) := by decide +kernel
theorem dX12_village_88 : decode cX12_village 88 = .ok (.isub, 1) := by decide +kernel
theorem dX12_village_89 : decode cX12_village 89 = .ok (.ireturn, 1) := by decide +kernel
theorem dX12_village_90 : decode cX12_village 90 = .ok (.aload_n 0, 1) := by decide +kernel
theorem dX12_village_91 : decode cX12_village 91 = .ok (.aload_n 0, 1) := by decide +kernel
theorem dX12_village_92 : decode cX12_village 92 = .ok (.getfield 174, 3) := by decide +kernel
theorem dX12_village_95 : decode cX12_village 95 = .ok (.putfield 96, 3) := by decide +kernel
theorem dX12_village_98 : decode cX12_village 98 = .ok (.iconst 0, 1) := by decide +kernel
theorem dX12_village_99 : decode cX12_village 99 = .ok (.istore_n 1, 1) := by decide +kernel
theorem dX12_village_100 : decode cX12_village 100 = .ok (.iload_n 1, 1) := by decide +kernel
theorem dX12_village_101 : decode cX12_village 101 = .ok (.aload_n 0, 1) := by decide +kernel
theorem dX12_village_102 : decode cX12_village 102 = .ok (.getfield 96, 3) := by decide +kernel
theorem dX12_village_105 : decode cX12_village 105 = .ok (.if_icmp .ge 78, 3) := by decide +kernel
theorem dX12_village_108 : decode cX12_village 108 = .ok (.aload_n 0, 1) := by decide +kernel
theorem dX12_village_109 : decode cX12_village 109 = .ok (.getfield 7, 3) := by decide +kernel
theorem dX12_village_112 : decode cX12_village 112 = .ok (.iload_n 1, 1) := by decide +kernel
theorem dX12_village_113 : decode cX12_village 113 = .ok (.aload_n 0, 1) := by decide +kernel
theorem dX12_village_114 : decode cX12_village 114 = .ok (.getfield 47, 3) := by decide +kernel
theorem dX12_village_117 : decode cX12_village 117 = .ok (.iconst 4, 1) := by decide +kernel
theorem dX12_village_118 : decode cX12_village 118 = .ok (.iload_n 1, 1) := by decide +kernel
theorem dX12_village_119 : decode cX12_village 119 = .ok (.imul, 1) := by decide +kernel
theorem dX12_village_120 : decode cX12_village 120 = .ok (.iaload, 1) := by decide +kernel
theorem dX12_village_121 : decode cX12_village 121 = .ok (.iastore, 1) := by decide +kernel
theorem dX12_village_122 : decode cX12_village 122 = .ok (.aload_n 0, 1) := by decide +kernel
theorem dX12_village_123 : decode cX12_village 123 = .ok (.getfield 13, 3) := by decide +kernel
theorem dX12_village_126 : decode cX12_village 126 = .ok (.iload_n 1, 1) := by decide +kernel
theorem dX12_village_127 : decode cX12_village 127 = .ok (.aload_n 0, 1) := by decide +kernel
theorem dX12_village_128 : decode cX12_village 128 = .ok (.getfield 47, 3) := by decide +kernel
theorem dX12_village_131 : decode cX12_village 131 = .ok (.iconst 4, 1) := by decide +kernel
theorem dX12_village_132 : decode cX12_village 132 = .ok (.iload_n 1, 1) := by decide +kernel
theorem dX12_village_133 : decode cX12_village 133 = .ok (.imul, 1) := by decide +kernel
theorem dX12_village_134 : decode cX12_village 134 = .ok (.iconst 1, 1) := by decide +kernel
theorem dX12_village_135 : decode cX12_village 135 = .ok (.iadd, 1) := by decide +kernel
theorem dX12_village_136 : decode cX12_village 136 = .ok (.iaload, 1) := by decide +kernel
theorem dX12_village_137 : decode cX12_village 137 = .ok (.iastore, 1) := by decide +kernel
theorem dX12_village_138 : decode cX12_village 138 = .ok (.aload_n 0, 1) := by decide +kernel
theorem dX12_village_139 : decode cX12_village 139 = .ok (.getfield 16, 3) := by decide +kernel
theorem dX12_village_142 : decode cX12_village 142 = .ok (.iload_n 1, 1) := by decide +kernel
theorem dX12_village_143 : decode cX12_village 143 = .ok (.aload_n 0, 1) := by decide +kernel
theorem dX12_village_144 : decode cX12_village 144 = .ok (.getfield 47, 3) := by decide +kernel
theorem dX12_village_147 : decode cX12_village 147 = .ok (.iconst 4, 1) := by decide +kernel
theorem dX12_village_148 : decode cX12_village 148 = .ok (.iload_n 1, 1) := by decide +kernel
theorem dX12_village_149 : decode cX12_village 149 = .ok (.imul, 1) := by decide +kernel
theorem dX12_village_150 : decode cX12_village 150 = .ok (.iconst 2, 1) := by decide +kernel
theorem dX12_village_151 : decode cX12_village 151 = .ok (.iadd, 1) := by decide +kernel
theorem dX12_village_152 : decode cX12_village 152 = .ok (.iaload, 1) := by decide +kernel
theorem dX12_village_153 : decode cX12_village 153 = .ok (.iastore, 1) := by decide +kernel
theorem dX12_village_154 : decode cX12_village 154 = .ok (.aload_n 0, 1) := by decide +kernel
theorem dX12_village_155 : decode cX12_village 155 = .ok (.getfield 37, 3) := by decide +kernel
theorem dX12_village_158 : decode cX12_village 158 = .ok (.iload_n 1, 1) := by decide +kernel
theorem dX12_village_159 : decode cX12_village 159 = .ok (.aload_n 0, 1) := by decide +kernel
theorem dX12_village_160 : decode cX12_village 160 = .ok (.getfield 47, 3) := by decide +kernel
theorem dX12_village_163 : decode cX12_village 163 = .ok (.iconst 4, 1) := by decide +kernel
theorem dX12_village_164 : decode cX12_village 164 = .ok (.iload_n 1, 1) := by decide +kernel
theorem dX12_village_165 : decode cX12_village 165 = .ok (.imul, 1) := by decide +kernel
theorem dX12_village_166 : decode cX12_village 166 = .ok (.iconst 3, 1) := by decide +kernel
theorem dX12_village_167 : decode cX12_village 167 = .ok (.iadd, 1) := by decide +kernel
theorem dX12_village_168 : decode cX12_village 168 = .ok (.iaload, 1) := by decide +kernel
theorem dX12_village_169 : decode cX12_village 169 = .ok (.iastore, 1) := by decide +kernel
theorem dX12_village_170 : decode cX12_village 170 = .ok (.aload_n 0, 1) := by decide +kernel
theorem dX12_village_171 : decode cX12_village 171 = .ok (.getfield 19, 3) := by decide +kernel
theorem dX12_village_174 : decode cX12_village 174 = .ok (.iload_n 1, 1) := by decide +kernel
theorem dX12_village_175 : decode cX12_village 175 = .ok (.iconst 0, 1) := by decide +kernel
theorem dX12_village_176 : decode cX12_village 176 = .ok (.iastore, 1) := by decide +kernel
theorem dX12_village_177 : decode cX12_village 177 = .ok (.iinc 1 1, 3) := by decide +kernel
theorem dX12_village_180 : decode cX12_village 180 = .ok (.goto (-80), 3) := by decide +kernel
theorem dX12_village_183 : decode cX12_village 183 = .ok (.aload_n 0, 1) := by decide +kernel
theorem dX12_village_184 : decode cX12_village 184 = .ok (.aload_n 0, 1) := by decide +kernel
theorem dX12_village_185 : decode cX12_village 185 = .ok (.getfield 192, 3) := by decide +kernel
theorem dX12_village_188 : decode cX12_village 188 = .ok (.putfield 103, 3) := by decide +kernel
theorem dX12_village_191 : decode cX12_village 191 = .ok (.iconst 0, 1) := by decide +kernel
theorem dX12_village_192 : decode cX12_village 192 = .ok (.istore_n 1, 1) := by decide +kernel
theorem dX12_village_193 : decode cX12_village 193 = .ok (.iload_n 1, 1) := by decide +kernel
theorem dX12_village_194 : decode cX12_village 194 = .ok (.aload_n 0, 1) := by decide +kernel
theorem dX12_village_195 : decode cX12_village 195 = .ok (.getfield 103, 3) := by decide +kernel
theorem dX12_village_198 : decode cX12_village 198 = .ok (.if_icmp .ge 57, 3) := by decide +kernel
theorem dX12_village_201 : decode cX12_village 201 = .ok (.aload_n 0, 1) := by decide +kernel
theorem dX12_village_202 : decode cX12_village 202 = .ok (.getfield 22, 3) := by decide +kernel
theorem dX12_village_205 : decode cX12_village 205 = .ok (.iload_n 1, 1) := by decide +kernel
theorem dX12_village_206 : decode cX12_village 206 = .ok (.aload_n 0, 1) := by decide +kernel
theorem dX12_village_207 : decode cX12_village 207 = .ok (.getfield 50, 3) := by decide +kernel
theorem dX12_village_210 : decode cX12_village 210 = .ok (.iload_n 1, 1) := by decide +kernel
theorem dX12_village_211 : decode cX12_village 211 = .ok (.iaload, 1) := by decide +kernel
theorem dX12_village_212 : decode cX12_village 212 = .ok (.iastore, 1) := by decide +kernel
theorem dX12_village_213 : decode cX12_village 213 = .ok (.iconst 0, 1) := by decide +kernel
theorem dX12_village_214 : decode cX12_village 214 = .ok (.istore_n 2, 1) := by decide +kernel
theorem dX12_village_215 : decode cX12_village 215 = .ok (.iload_n 2, 1) := by decide +kernel
theorem dX12_village_216 : decode cX12_village 216 = .ok (.bipush 6, 2) := by decide +kernel
theorem dX12_village_218 : decode cX12_village 218 = .ok (.if_icmp .ge 31, 3) := by decide +kernel
theorem dX12_village_221 : decode cX12_village 221 = .ok (.aload_n 0, 1) := by decide +kernel
theorem dX12_village_222 : decode cX12_village 222 = .ok (.getfield 25, 3) := by decide +kernel
theorem dX12_village_225 : decode cX12_village 225 = .ok (.bipush 6, 2) := by decide +kernel
theorem dX12_village_227 : decode cX12_village 227 = .ok (.iload_n 1, 1) := by decide +kernel
theorem dX12_village_228 : decode cX12_village 228 = .ok (.imul, 1) := by decide +kernel
theorem dX12_village_229 : decode cX12_village 229 = .ok (.iload_n 2, 1) := by decide +kernel
theorem dX12_village_230 : decode cX12_village 230 = .ok (.iadd, 1) := by decide +kernel
theorem dX12_village_231 : decode cX12_village 231 = .ok (.aload_n 0, 1) := by decide +kernel
theorem dX12_village_232 : decode cX12_village 232 = .ok (.getfield 53, 3) := by decide +kernel
theorem dX12_village_235 : decode cX12_village 235 = .ok (.bipush 6, 2) := by decide +kernel
theorem dX12_village_237 : decode cX12_village 237 = .ok (.iload_n 1, 1) := by decide +kernel
theorem dX12_village_238 : decode cX12_village 238 = .ok (.imul, 1) := by decide +kernel
theorem dX12_village_239 : decode cX12_village 239 = .ok (.iload_n 2, 1) := by decide +kernel
theorem dX12_village_240 : decode cX12_village 240 = .ok (.iadd, 1) := by decide +kernel
theorem dX12_village_241 : decode cX12_village 241 = .ok (.iaload, 1) := by decide +kernel
theorem dX12_village_242 : decode cX12_village 242 = .ok (.iastore, 1) := by decide +kernel
theorem dX12_village_243 : decode cX12_village 243 = .ok (.iinc 2 1, 3) := by decide +kernel
theorem dX12_village_246 : decode cX12_village 246 = .ok (.goto (-31), 3) := by decide +kernel
theorem dX12_village_249 : decode cX12_village 249 = .ok (.iinc 1 1, 3) := by decide +kernel
theorem dX12_village_252 : decode cX12_village 252 = .ok (.goto (-59), 3) := by decide +kernel
theorem dX12_village_255 : decode cX12_village 255 = .ok (.iconst 0, 1) := by decide +kernel
theorem dX12_village_256 : decode cX12_village 256 = .ok (.istore_n 1, 1) := by decide +kernel
theorem dX12_village_257 : decode cX12_village 257 = .ok (.iload_n 1, 1) := by decide +kernel
theorem dX12_village_258 : decode cX12_village 258 = .ok (.iconst 3, 1) := by decide +kernel
theorem dX12_village_259 : decode cX12_village 259 = .ok (.if_icmp .ge 21, 3) := by decide +kernel
theorem dX12_village_262 : decode cX12_village 262 = .ok (.aload_n 0, 1) := by decide +kernel
theorem dX12_village_263 : decode cX12_village 263 = .ok (.getfield 28, 3) := by decide +kernel
theorem dX12_village_266 : decode cX12_village 266 = .ok (.iload_n 1, 1) := by decide +kernel
theorem dX12_village_267 : decode cX12_village 267 = .ok (.aload_n 0, 1) := by decide +kernel
theorem dX12_village_268 : decode cX12_village 268 = .ok (.getfield 56, 3) := by decide +kernel
theorem dX12_village_271 : decode cX12_village 271 = .ok (.iload_n 1, 1) := by decide +kernel
theorem dX12_village_272 : decode cX12_village 272 = .ok (.iaload, 1) := by decide +kernel
theorem dX12_village_273 : decode cX12_village 273 = .ok (.iastore, 1) := by decide +kernel
theorem dX12_village_274 : decode cX12_village 274 = .ok (.iinc 1 1, 3) := by decide +kernel
theorem dX12_village_277 : decode cX12_village 277 = .ok (.goto (-20), 3) := by decide +kernel
theorem dX12_village_280 : decode cX12_village 280 = .ok (.aload_n 0, 1) := by decide +kernel
theorem dX12_village_281 : decode cX12_village 281 = .ok (.getfield 37, 3) := by decide +kernel
theorem dX12_village_284 : decode cX12_village 284 = .ok (.bipush 6, 2) := by decide +kernel
theorem dX12_village_286 : decode cX12_village 286 = .ok (.iconst 1, 1) := by decide +kernel
theorem dX12_village_287 : decode cX12_village 287 = .ok (.iastore, 1) := by decide +kernel
theorem dX12_village_288 : decode cX12_village 288 = .ok (.aload_n 0, 1) := by decide +kernel
theorem dX12_village_289 : decode cX12_village 289 = .ok (.iconst 0, 1) := by decide +kernel
theorem dX12_village_290 : decode cX12_village 290 = .ok (.putfield 225, 3) := by decide +kernel
theorem dX12_village_293 : decode cX12_village 293 = .ok (.aload_n 0, 1) := by decide +kernel
theorem dX12_village_294 : decode cX12_village 294 = .ok (.iconst 0, 1) := by decide +kernel
theorem dX12_village_295 : decode cX12_village 295 = .ok (.putfield 228, 3) := by decide +kernel
theorem dX12_village_298 : decode cX12_village 298 = .ok (.aload_n 0, 1) := by decide +kernel
theorem dX12_village_299 : decode cX12_village 299 = .ok (.iconst 0, 1) := by decide +kernel
theorem dX12_village_300 : decode cX12_village 300 = .ok (.putfield 231, 3) := by decide +kernel
theorem dX12_village_303 : decode cX12_village 303 = .ok (.aload_n 0, 1) := by decide +kernel
theorem dX12_village_304 : decode cX12_village 304 = .ok (.getfield 96, 3) := by decide +kernel
theorem dX12_village_307 : decode cX12_village 307 = .ok (.ireturn, 1) := by decide +kernel
theorem dX12_isMind_0 : decode cX12_isMind 0 = .ok (.iload_n 0, 1) := by decide +kernel
theorem dX12_isMind_1 : decode cX12_isMind 1 = .ok (.iconst 0, 1) := by decide +kernel
theorem dX12_isMind_2 : decode cX12_isMind 2 = .ok (.iconst 5, 1) := by decide +kernel
theorem dX12_isMind_3 : decode cX12_isMind 3 = .ok (.invokestatic 99, 3) := by decide +kernel
theorem dX12_isMind_6 : decode cX12_isMind 6 = .ok (.ifCond .eq 18, 3) := by decide +kernel
theorem dX12_isMind_9 : decode cX12_isMind 9 = .ok (.iload_n 1, 1) := by decide +kernel
theorem dX12_isMind_10 : decode cX12_isMind 10 = .ok (.iconst 0, 1) := by decide +kernel
theorem dX12_isMind_11 : decode cX12_isMind 11 = .ok (.sipush 255, 3) := by decide +kernel
theorem dX12_isMind_14 : decode cX12_isMind 14 = .ok (.invokestatic 99, 3) := by decide +kernel
theorem dX12_isMind_17 : decode cX12_isMind 17 = .ok (.ifCond .eq 7, 3) := by decide +kernel
theorem dX12_isMind_20 : decode cX12_isMind 20 = .ok (.iconst 1, 1) := by decide +kernel
theorem dX12_isMind_21 : decode cX12_isMind 21 = .ok (.goto 4, 3) := by decide +kernel
theorem dX12_isMind_24 : decode cX12_isMind 24 = .ok (.iconst 0, 1) := by decide +kernel
theorem dX12_isMind_25 : decode cX12_isMind 25 = .ok (.ireturn, 1) := by decide +kernel
theorem dX12_person_0 : decode cX12_person 0 = .ok (.iload_n 1, 1) := by decide +kernel
theorem dX12_person_1 : decode cX12_person 1 = .ok (.iload_n 2, 1) := by decide +kernel
theorem dX12_person_2 : decode cX12_person 2 = .ok (.invokestatic 234, 3) := by decide +kernel
theorem dX12_person_5 : decode cX12_person 5 = .ok (.ifCond .eq 24, 3) := by decide +kernel
theorem dX12_person_8 : decode cX12_person 8 = .ok (.iload_n 3, 1) := by decide +kernel
theorem dX12_person_9 : decode cX12_person 9 = .ok (.iconst 0, 1) := by decide +kernel
theorem dX12_person_10 : decode cX12_person 10 = .ok (.bipush 99, 2) := by decide +kernel
theorem dX12_person_12 : decode cX12_person 12 = .ok (.invokestatic 99, 3) := by decide +kernel
theorem dX12_person_15 : decode cX12_person 15 = .ok (.ifCond .eq 14, 3) := by decide +kernel
theorem dX12_person_18 : decode cX12_person 18 = .ok (.iload 4, 2) := by decide +kernel
theorem dX12_person_20 : decode cX12_person 20 = .ok (.iconst 0, 1) := by decide +kernel
theorem dX12_person_21 : decode cX12_person 21 = .ok (.bipush 9, 2) := by decide +kernel
theorem dX12_person_23 : decode cX12_person 23 = .ok (.invokestatic 99, 3) := by decide +kernel
theorem dX12_person_26 : decode cX12_person 26 = .ok (.ifCond .ne 5, 3) := by decide +kernel
theorem dX12_person_29 : decode cX12_person 29 = .ok (.iconst (-1), 1) := by decide +kernel
theorem dX12_person_30 : decode cX12_person 30 = .ok (.ireturn, 1) := by decide +kernel
theorem dX12_person_31 : decode cX12_person 31 = .ok (.aload_n 0, 1) := by decide +kernel
theorem dX12_person_32 : decode cX12_person 32 = .ok (.getfield 96, 3) := by decide +kernel
theorem dX12_person_35 : decode cX12_person 35 = .ok (.bipush 6, 2) := by decide +kernel
theorem dX12_person_37 : decode cX12_person 37 = .ok (.if_icmp .ne 6, 3) := by decide +kernel
theorem dX12_person_40 : decode cX12_person 40 = .ok (.bipush (-2), 2) := by decide +kernel
theorem dX12_person_42 : decode cX12_person 42 = .ok (.ireturn, 1) := by decide +kernel
theorem dX12_person_43 : decode cX12_person 43 = .ok (.aload_n 0, 1) := by decide +kernel
theorem dX12_person_44 : decode cX12_person 44 = .ok (.getfield 7, 3) := by decide +kernel
theorem dX12_person_47 : decode cX12_person 47 = .ok (.aload_n 0, 1) := by decide +kernel
theorem dX12_person_48 : decode cX12_person 48 = .ok (.getfield 96, 3) := by decide +kernel
theorem dX12_person_51 : decode cX12_person 51 = .ok (.iload_n 1, 1) := by decide +kernel
theorem dX12_person_52 : decode cX12_person 52 = .ok (.iastore, 1) := by decide +kernel
theorem dX12_person_53 : decode cX12_person 53 = .ok (.aload_n 0, 1) := by decide +kernel
theorem dX12_person_54 : decode cX12_person 54 = .ok (.getfield 13, 3) := by decide +kernel
theorem dX12_person_57 : decode cX12_person 57 = .ok (.aload_n 0, 1) := by decide +kernel
theorem dX12_person_58 : decode cX12_person 58 = .ok (.getfield 96, 3) := by decide +kernel
theorem dX12_person_61 : decode cX12_person 61 = .ok (.iload_n 2, 1) := by decide +kernel
theorem dX12_person_62 : decode cX12_person 62 = .ok (.iastore, 1) := by decide +kernel
theorem dX12_person_63 : decode cX12_person 63 = .ok (.aload_n 0, 1) := by decide +kernel
theorem dX12_person_64 : decode cX12_person 64 = .ok (.getfield 16, 3) := by decide +kernel
theorem dX12_person_67 : decode cX12_person 67 = .ok (.aload_n 0, 1) := by decide +kernel
theorem dX12_person_68 : decode cX12_person 68 = .ok (.getfield 96, 3) := by decide +kernel
theorem dX12_person_71 : decode cX12_person 71 = .ok (.iload_n 3, 1) := by decide +kernel
theorem dX12_person_72 : decode cX12_person 72 = .ok (.iastore, 1) := by decide +kernel
theorem dX12_person_73 : decode cX12_person 73 = .ok (.aload_n 0, 1) := by decide +kernel
theorem dX12_person_74 : decode cX12_person 74 = .ok (.getfield 37, 3) := by decide +kernel
theorem dX12_person_77 : decode cX12_person 77 = .ok (.aload_n 0, 1) := by decide +kernel
theorem dX12_person_78 : decode cX12_person 78 = .ok (.getfield 96, 3) := by decide +kernel
theorem dX12_person_81 : decode cX12_person 81 = .ok (.iload 4, 2) := by decide +kernel
theorem dX12_person_83 : decode cX12_person 83 = .ok (.iastore, 1) := by decide +kernel
theorem dX12_person_84 : decode cX12_person 84 = .ok (.aload_n 0, 1) := by decide +kernel
theorem dX12_person_85 : decode cX12_person 85 = .ok (.getfield 19, 3) := by decide +kernel
theorem dX12_person_88 : decode cX12_person 88 = .ok (.aload_n 0, 1) := by decide +kernel
theorem dX12_person_89 : decode cX12_person 89 = .ok (.getfield 96, 3) := by decide +kernel
theorem dX12_person_92 : decode cX12_person 92 = .ok (.iconst 0, 1) := by decide +kernel
theorem dX12_person_93 : decode cX12_person 93 = .ok (.iastore, 1) := by decide +kernel
theorem dX12_person_94 : decode cX12_person 94 = .ok (.iconst 0, 1) := by decide +kernel
theorem dX12_person_95 : decode cX12_person 95 = .ok (.istore 5, 2) := by decide +kernel
theorem dX12_person_97 : decode cX12_person 97 = .ok (.iload 5, 2) := by decide +kernel
theorem dX12_person_99 : decode cX12_person 99 = .ok (.bipush 8, 2) := by decide +kernel
theorem dX12_person_101 : decode cX12_person 101 = .ok (.if_icmp .ge 25, 3) := by decide +kernel
theorem dX12_person_104 : decode cX12_person 104 = .ok (.aload_n 0, 1) := by decide +kernel
theorem dX12_person_105 : decode cX12_person 105 = .ok (.getfield 25, 3) := by decide +kernel
theorem dX12_person_108 : decode cX12_person 108 = .ok (.bipush 6, 2) := by decide +kernel
theorem dX12_person_110 : decode cX12_person 110 = .ok (.iload 5, 2) := by decide +kernel
theorem dX12_person_112 : decode cX12_person 112 = .ok (.imul, 1) := by decide +kernel
theorem dX12_person_113 : decode cX12_person 113 = .ok (.aload_n 0, 1) := by decide +kernel
theorem dX12_person_114 : decode cX12_person 114 = .ok (.getfield 96, 3) := by decide +kernel
theorem dX12_person_117 : decode cX12_person 117 = .ok (.iadd, 1) := by decide +kernel
theorem dX12_person_118 : decode cX12_person 118 = .ok (.iconst 0, 1) := by decide +kernel
theorem dX12_person_119 : decode cX12_person 119 = .ok (.iastore, 1) := by decide +kernel
theorem dX12_person_120 : decode cX12_person 120 = .ok (.iinc 5 1, 3) := by decide +kernel
theorem dX12_person_123 : decode cX12_person 123 = .ok (.goto (-26), 3) := by decide +kernel
theorem dX12_person_126 : decode cX12_person 126 = .ok (.aload_n 0, 1) := by decide +kernel
theorem dX12_person_127 : decode cX12_person 127 = .ok (.dup, 1) := by decide +kernel
theorem dX12_person_128 : decode cX12_person 128 = .ok (.getfield 96, 3) := by decide +kernel
theorem dX12_person_131 : decode cX12_person 131 = .ok (.iconst 1, 1) := by decide +kernel
theorem dX12_person_132 : decode cX12_person 132 = .ok (.iadd, 1) := by decide +kernel
theorem dX12_person_133 : decode cX12_person 133 = .ok (.putfield 96, 3) := by decide +kernel
theorem dX12_person_136 : decode cX12_person 136 = .ok (.aload_n 0, 1) := by decide +kernel
theorem dX12_person_137 : decode cX12_person 137 = .ok (.getfield 96, 3) := by decide +kernel
theorem dX12_person_140 : decode cX12_person 140 = .ok (.iconst 1, 1) := by decide +kernel
theorem dX12_person_141 : decode cX12_person 141 = .ok (.isub, 1) := by decide +kernel
theorem dX12_person_142 : decode cX12_person 142 = .ok (.ireturn, 1) := by decide +kernel
theorem dX12_personOf_0 : decode cX12_personOf 0 = .ok (.aload_n 0, 1) := by decide +kernel
theorem dX12_personOf_1 : decode cX12_personOf 1 = .ok (.iload_n 1, 1) := by decide +kernel
theorem dX12_personOf_2 : decode cX12_personOf 2 = .ok (.invokevirtual 238, 3) := by decide +kernel
theorem dX12_personOf_5 : decode cX12_personOf 5 = .ok (.ifCond .ne 5, 3) := by decide +kernel
theorem dX12_personOf_8 : decode cX12_personOf 8 = .ok (.iconst (-1), 1) := by decide +kernel
theorem dX12_personOf_9 : decode cX12_personOf 9 = .ok (.ireturn, 1) := by decide +kernel
theorem dX12_personOf_10 : decode cX12_personOf 10 = .ok (.iload_n 2, 1) := by decide +kernel
theorem dX12_personOf_11 : decode cX12_personOf 11 = .ok (.ifCond .ne 12, 3) := by decide +kernel
theorem dX12_personOf_14 : decode cX12_personOf 14 = .ok (.aload_n 0, 1) := by decide +kernel
theorem dX12_personOf_15 : decode cX12_personOf 15 = .ok (.getfield 7, 3) := by decide +kernel
theorem dX12_personOf_18 : decode cX12_personOf 18 = .ok (.iload_n 1, 1) := by decide +kernel
theorem dX12_personOf_19 : decode cX12_personOf 19 = .ok (.iaload, 1) := by decide +kernel
theorem dX12_personOf_20 : decode cX12_personOf 20 = .ok (.goto 46, 3) := by decide +kernel
theorem dX12_personOf_23 : decode cX12_personOf 23 = .ok (.iload_n 2, 1) := by decide +kernel
theorem dX12_personOf_24 : decode cX12_personOf 24 = .ok (.iconst 1, 1) := by decide +kernel
theorem dX12_personOf_25 : decode cX12_personOf 25 = .ok (.if_icmp .ne 12, 3) := by decide +kernel
theorem dX12_personOf_28 : decode cX12_personOf 28 = .ok (.aload_n 0, 1) := by decide +kernel
theorem dX12_personOf_29 : decode cX12_personOf 29 = .ok (.getfield 13, 3) := by decide +kernel
theorem dX12_personOf_32 : decode cX12_personOf 32 = .ok (.iload_n 1, 1) := by decide +kernel
theorem dX12_personOf_33 : decode cX12_personOf 33 = .ok (.iaload, 1) := by decide +kernel
theorem dX12_personOf_34 : decode cX12_personOf 34 = .ok (.goto 32, 3) := by decide +kernel
theorem dX12_personOf_37 : decode cX12_personOf 37 = .ok (.iload_n 2, 1) := by decide +kernel
theorem dX12_personOf_38 : decode cX12_personOf 38 = .ok (.iconst 2, 1) := by decide +kernel
theorem dX12_personOf_39 : decode cX12_personOf 39 = .ok (.if_icmp .ne 12, 3) := by decide +kernel
theorem dX12_personOf_42 : decode cX12_personOf 42 = .ok (.aload_n 0, 1) := by decide +kernel
theorem dX12_personOf_43 : decode cX12_personOf 43 = .ok (.getfield 16, 3) := by decide +kernel
theorem dX12_personOf_46 : decode cX12_personOf 46 = .ok (.iload_n 1, 1) := by decide +kernel
theorem dX12_personOf_47 : decode cX12_personOf 47 = .ok (.iaload, 1) := by decide +kernel
theorem dX12_personOf_48 : decode cX12_personOf 48 = .ok (.goto 18, 3) := by decide +kernel
theorem dX12_personOf_51 : decode cX12_personOf 51 = .ok (.iload_n 2, 1) := by decide +kernel
theorem dX12_personOf_52 : decode cX12_personOf 52 = .ok (.iconst 3, 1) := by decide +kernel
theorem dX12_personOf_53 : decode cX12_personOf 53 = .ok (.if_icmp .ne 12, 3) := by decide +kernel
theorem dX12_personOf_56 : decode cX12_personOf 56 = .ok (.aload_n 0, 1) := by decide +kernel
theorem dX12_personOf_57 : decode cX12_personOf 57 = .ok (.getfield 37, 3) := by decide +kernel
theorem dX12_personOf_60 : decode cX12_personOf 60 = .ok (.iload_n 1, 1) := by decide +kernel
theorem dX12_personOf_61 : decode cX12_personOf 61 = .ok (.iaload, 1) := by decide +kernel
theorem dX12_personOf_62 : decode cX12_personOf 62 = .ok (.goto 4, 3) := by decide +kernel
theorem dX12_personOf_65 : decode cX12_personOf 65 = .ok (.iconst (-1), 1) := by decide +kernel
theorem dX12_personOf_66 : decode cX12_personOf 66 = .ok (.ireturn, 1) := by decide +kernel
theorem dX12_leave_0 : decode cX12_leave 0 = .ok (.aload_n 0, 1) := by decide +kernel
theorem dX12_leave_1 : decode cX12_leave 1 = .ok (.iload_n 1, 1) := by decide +kernel
theorem dX12_leave_2 : decode cX12_leave 2 = .ok (.invokevirtual 238, 3) := by decide +kernel
theorem dX12_leave_5 : decode cX12_leave 5 = .ok (.ifCond .ne 5, 3) := by decide +kernel
theorem dX12_leave_8 : decode cX12_leave 8 = .ok (.iconst (-1), 1) := by decide +kernel
theorem dX12_leave_9 : decode cX12_leave 9 = .ok (.ireturn, 1) := by decide +kernel
theorem dX12_leave_10 : decode cX12_leave 10 = .ok (.aload_n 0, 1) := by decide +kernel
theorem dX12_leave_11 : decode cX12_leave 11 = .ok (.dup, 1) := by decide +kernel
theorem dX12_leave_12 : decode cX12_leave 12 = .ok (.getfield 96, 3) := by decide +kernel
theorem dX12_leave_15 : decode cX12_leave 15 = .ok (.iconst 1, 1) := by decide +kernel
theorem dX12_leave_16 : decode cX12_leave 16 = .ok (.isub, 1) := by decide +kernel
theorem dX12_leave_17 : decode cX12_leave 17 = .ok (.putfield 96, 3) := by decide +kernel
theorem dX12_leave_20 : decode cX12_leave 20 = .ok (.iload_n 1, 1) := by decide +kernel
theorem dX12_leave_21 : decode cX12_leave 21 = .ok (.istore_n 2, 1) := by decide +kernel
theorem dX12_leave_22 : decode cX12_leave 22 = .ok (.iload_n 2, 1) := by decide +kernel
theorem dX12_leave_23 : decode cX12_leave 23 = .ok (.aload_n 0, 1) := by decide +kernel
theorem dX12_leave_24 : decode cX12_leave 24 = .ok (.getfield 96, 3) := by decide +kernel
theorem dX12_leave_27 : decode cX12_leave 27 = .ok (.if_icmp .ge 117, 3) := by decide +kernel
theorem dX12_leave_30 : decode cX12_leave 30 = .ok (.aload_n 0, 1) := by decide +kernel
theorem dX12_leave_31 : decode cX12_leave 31 = .ok (.getfield 7, 3) := by decide +kernel
theorem dX12_leave_34 : decode cX12_leave 34 = .ok (.iload_n 2, 1) := by decide +kernel
theorem dX12_leave_35 : decode cX12_leave 35 = .ok (.aload_n 0, 1) := by decide +kernel
theorem dX12_leave_36 : decode cX12_leave 36 = .ok (.getfield 7, 3) := by decide +kernel
theorem dX12_leave_39 : decode cX12_leave 39 = .ok (.iload_n 2, 1) := by decide +kernel
theorem dX12_leave_40 : decode cX12_leave 40 = .ok (.iconst 1, 1) := by decide +kernel
theorem dX12_leave_41 : decode cX12_leave 41 = .ok (.iadd, 1) := by decide +kernel
theorem dX12_leave_42 : decode cX12_leave 42 = .ok (.iaload, 1) := by decide +kernel
theorem dX12_leave_43 : decode cX12_leave 43 = .ok (.iastore, 1) := by decide +kernel
theorem dX12_leave_44 : decode cX12_leave 44 = .ok (.aload_n 0, 1) := by decide +kernel
theorem dX12_leave_45 : decode cX12_leave 45 = .ok (.getfield 13, 3) := by decide +kernel
theorem dX12_leave_48 : decode cX12_leave 48 = .ok (.iload_n 2, 1) := by decide +kernel
theorem dX12_leave_49 : decode cX12_leave 49 = .ok (.aload_n 0, 1) := by decide +kernel
theorem dX12_leave_50 : decode cX12_leave 50 = .ok (.getfield 13, 3) := by decide +kernel
theorem dX12_leave_53 : decode cX12_leave 53 = .ok (.iload_n 2, 1) := by decide +kernel
theorem dX12_leave_54 : decode cX12_leave 54 = .ok (.iconst 1, 1) := by decide +kernel
theorem dX12_leave_55 : decode cX12_leave 55 = .ok (.iadd, 1) := by decide +kernel
theorem dX12_leave_56 : decode cX12_leave 56 = .ok (.iaload, 1) := by decide +kernel
theorem dX12_leave_57 : decode cX12_leave 57 = .ok (.iastore, 1) := by decide +kernel
theorem dX12_leave_58 : decode cX12_leave 58 = .ok (.aload_n 0, 1) := by decide +kernel
theorem dX12_leave_59 : decode cX12_leave 59 = .ok (.getfield 16, 3) := by decide +kernel
theorem dX12_leave_62 : decode cX12_leave 62 = .ok (.iload_n 2, 1) := by decide +kernel
theorem dX12_leave_63 : decode cX12_leave 63 = .ok (.aload_n 0, 1) := by decide +kernel
theorem dX12_leave_64 : decode cX12_leave 64 = .ok (.getfield 16, 3) := by decide +kernel
theorem dX12_leave_67 : decode cX12_leave 67 = .ok (.iload_n 2, 1) := by decide +kernel
theorem dX12_leave_68 : decode cX12_leave 68 = .ok (.iconst 1, 1) := by decide +kernel
theorem dX12_leave_69 : decode cX12_leave 69 = .ok (.iadd, 1) := by decide +kernel
theorem dX12_leave_70 : decode cX12_leave 70 = .ok (.iaload, 1) := by decide +kernel
theorem dX12_leave_71 : decode cX12_leave 71 = .ok (.iastore, 1) := by decide +kernel
theorem dX12_leave_72 : decode cX12_leave 72 = .ok (.aload_n 0, 1) := by decide +kernel
theorem dX12_leave_73 : decode cX12_leave 73 = .ok (.getfield 37, 3) := by decide +kernel
theorem dX12_leave_76 : decode cX12_leave 76 = .ok (.iload_n 2, 1) := by decide +kernel
theorem dX12_leave_77 : decode cX12_leave 77 = .ok (.aload_n 0, 1) := by decide +kernel
theorem dX12_leave_78 : decode cX12_leave 78 = .ok (.getfield 37, 3) := by decide +kernel
theorem dX12_leave_81 : decode cX12_leave 81 = .ok (.iload_n 2, 1) := by decide +kernel
theorem dX12_leave_82 : decode cX12_leave 82 = .ok (.iconst 1, 1) := by decide +kernel
theorem dX12_leave_83 : decode cX12_leave 83 = .ok (.iadd, 1) := by decide +kernel
theorem dX12_leave_84 : decode cX12_leave 84 = .ok (.iaload, 1) := by decide +kernel
theorem dX12_leave_85 : decode cX12_leave 85 = .ok (.iastore, 1) := by decide +kernel
theorem dX12_leave_86 : decode cX12_leave 86 = .ok (.aload_n 0, 1) := by decide +kernel
theorem dX12_leave_87 : decode cX12_leave 87 = .ok (.getfield 19, 3) := by decide +kernel
theorem dX12_leave_90 : decode cX12_leave 90 = .ok (.iload_n 2, 1) := by decide +kernel
theorem dX12_leave_91 : decode cX12_leave 91 = .ok (.aload_n 0, 1) := by decide +kernel
theorem dX12_leave_92 : decode cX12_leave 92 = .ok (.getfield 19, 3) := by decide +kernel
theorem dX12_leave_95 : decode cX12_leave 95 = .ok (.iload_n 2, 1) := by decide +kernel
theorem dX12_leave_96 : decode cX12_leave 96 = .ok (.iconst 1, 1) := by decide +kernel
theorem dX12_leave_97 : decode cX12_leave 97 = .ok (.iadd, 1) := by decide +kernel
theorem dX12_leave_98 : decode cX12_leave 98 = .ok (.iaload, 1) := by decide +kernel
theorem dX12_leave_99 : decode cX12_leave 99 = .ok (.iastore, 1) := by decide +kernel
theorem dX12_leave_100 : decode cX12_leave 100 = .ok (.iconst 0, 1) := by decide +kernel
theorem dX12_leave_101 : decode cX12_leave 101 = .ok (.istore_n 3, 1) := by decide +kernel
theorem dX12_leave_102 : decode cX12_leave 102 = .ok (.iload_n 3, 1) := by decide +kernel
theorem dX12_leave_103 : decode cX12_leave 103 = .ok (.bipush 8, 2) := by decide +kernel
theorem dX12_leave_105 : decode cX12_leave 105 = .ok (.if_icmp .ge 33, 3) := by decide +kernel
theorem dX12_leave_108 : decode cX12_leave 108 = .ok (.aload_n 0, 1) := by decide +kernel
theorem dX12_leave_109 : decode cX12_leave 109 = .ok (.getfield 25, 3) := by decide +kernel
theorem dX12_leave_112 : decode cX12_leave 112 = .ok (.bipush 6, 2) := by decide +kernel
theorem dX12_leave_114 : decode cX12_leave 114 = .ok (.iload_n 3, 1) := by decide +kernel
theorem dX12_leave_115 : decode cX12_leave 115 = .ok (.imul, 1) := by decide +kernel
theorem dX12_leave_116 : decode cX12_leave 116 = .ok (.iload_n 2, 1) := by decide +kernel
theorem dX12_leave_117 : decode cX12_leave 117 = .ok (.iadd, 1) := by decide +kernel
theorem dX12_leave_118 : decode cX12_leave 118 = .ok (.aload_n 0, 1) := by decide +kernel
theorem dX12_leave_119 : decode cX12_leave 119 = .ok (.getfield 25, 3) := by decide +kernel
theorem dX12_leave_122 : decode cX12_leave 122 = .ok (.bipush 6, 2) := by decide +kernel
theorem dX12_leave_124 : decode cX12_leave 124 = .ok (.iload_n 3, 1) := by decide +kernel
theorem dX12_leave_125 : decode cX12_leave 125 = .ok (.imul, 1) := by decide +kernel
theorem dX12_leave_126 : decode cX12_leave 126 = .ok (.iload_n 2, 1) := by decide +kernel
theorem dX12_leave_127 : decode cX12_leave 127 = .ok (.iadd, 1) := by decide +kernel
theorem dX12_leave_128 : decode cX12_leave 128 = .ok (.iconst 1, 1) := by decide +kernel
theorem dX12_leave_129 : decode cX12_leave 129 = .ok (.iadd, 1) := by decide +kernel
theorem dX12_leave_130 : decode cX12_leave 130 = .ok (.iaload, 1) := by decide +kernel
theorem dX12_leave_131 : decode cX12_leave 131 = .ok (.iastore, 1) := by decide +kernel
theorem dX12_leave_132 : decode cX12_leave 132 = .ok (.iinc 3 1, 3) := by decide +kernel
theorem dX12_leave_135 : decode cX12_leave 135 = .ok (.goto (-33), 3) := by decide +kernel
theorem dX12_leave_138 : decode cX12_leave 138 = .ok (.iinc 2 1, 3) := by decide +kernel
theorem dX12_leave_141 : decode cX12_leave 141 = .ok (.goto (-119), 3) := by decide +kernel
theorem dX12_leave_144 : decode cX12_leave 144 = .ok (.aload_n 0, 1) := by decide +kernel
theorem dX12_leave_145 : decode cX12_leave 145 = .ok (.getfield 96, 3) := by decide +kernel
theorem dX12_leave_148 : decode cX12_leave 148 = .ok (.ireturn, 1) := by decide +kernel
theorem dX12_mind_0 : decode cX12_mind 0 = .ok (.aload_n 0, 1) := by decide +kernel
theorem dX12_mind_1 : decode cX12_mind 1 = .ok (.iload_n 1, 1) := by decide +kernel
theorem dX12_mind_2 : decode cX12_mind 2 = .ok (.invokevirtual 238, 3) := by decide +kernel
theorem dX12_mind_5 : decode cX12_mind 5 = .ok (.ifCond .eq 11, 3) := by decide +kernel
theorem dX12_mind_8 : decode cX12_mind 8 = .ok (.iload_n 2, 1) := by decide +kernel
theorem dX12_mind_9 : decode cX12_mind 9 = .ok (.iload_n 3, 1) := by decide +kernel
theorem dX12_mind_10 : decode cX12_mind 10 = .ok (.invokestatic 234, 3) := by decide +kernel
theorem dX12_mind_13 : decode cX12_mind 13 = .ok (.ifCond .ne 5, 3) := by decide +kernel
theorem dX12_mind_16 : decode cX12_mind 16 = .ok (.iconst (-1), 1) := by decide +kernel
theorem dX12_mind_17 : decode cX12_mind 17 = .ok (.ireturn, 1) := by decide +kernel
theorem dX12_mind_18 : decode cX12_mind 18 = .ok (.aload_n 0, 1) := by decide +kernel
theorem dX12_mind_19 : decode cX12_mind 19 = .ok (.getfield 7, 3) := by decide +kernel
theorem dX12_mind_22 : decode cX12_mind 22 = .ok (.iload_n 1, 1) := by decide +kernel
theorem dX12_mind_23 : decode cX12_mind 23 = .ok (.iaload, 1) := by decide +kernel
theorem dX12_mind_24 : decode cX12_mind 24 = .ok (.istore 4, 2) := by decide +kernel
theorem dX12_mind_26 : decode cX12_mind 26 = .ok (.aload_n 0, 1) := by decide +kernel
theorem dX12_mind_27 : decode cX12_mind 27 = .ok (.getfield 7, 3) := by decide +kernel
theorem dX12_mind_30 : decode cX12_mind 30 = .ok (.iload_n 1, 1) := by decide +kernel
theorem dX12_mind_31 : decode cX12_mind 31 = .ok (.iload_n 2, 1) := by decide +kernel
theorem dX12_mind_32 : decode cX12_mind 32 = .ok (.iastore, 1) := by decide +kernel
theorem dX12_mind_33 : decode cX12_mind 33 = .ok (.aload_n 0, 1) := by decide +kernel
theorem dX12_mind_34 : decode cX12_mind 34 = .ok (.getfield 13, 3) := by decide +kernel
theorem dX12_mind_37 : decode cX12_mind 37 = .ok (.iload_n 1, 1) := by decide +kernel
theorem dX12_mind_38 : decode cX12_mind 38 = .ok (.iload_n 3, 1) := by decide +kernel
theorem dX12_mind_39 : decode cX12_mind 39 = .ok (.iastore, 1) := by decide +kernel
theorem dX12_mind_40 : decode cX12_mind 40 = .ok (.iload 4, 2) := by decide +kernel
theorem dX12_mind_42 : decode cX12_mind 42 = .ok (.ireturn, 1) := by decide +kernel
theorem dX12_give_0 : decode cX12_give 0 = .ok (.aload_n 0, 1) := by decide +kernel
theorem dX12_give_1 : decode cX12_give 1 = .ok (.iload_n 1, 1) := by decide +kernel
theorem dX12_give_2 : decode cX12_give 2 = .ok (.invokevirtual 238, 3) := by decide +kernel
theorem dX12_give_5 : decode cX12_give 5 = .ok (.ifCond .eq 16, 3) := by decide +kernel
theorem dX12_give_8 : decode cX12_give 8 = .ok (.aload_n 0, 1) := by decide +kernel
theorem dX12_give_9 : decode cX12_give 9 = .ok (.iload_n 2, 1) := by decide +kernel
theorem dX12_give_10 : decode cX12_give 10 = .ok (.invokevirtual 238, 3) := by decide +kernel
theorem dX12_give_13 : decode cX12_give 13 = .ok (.ifCond .eq 8, 3) := by decide +kernel
theorem dX12_give_16 : decode cX12_give 16 = .ok (.iload_n 1, 1) := by decide +kernel
theorem dX12_give_17 : decode cX12_give 17 = .ok (.iload_n 2, 1) := by decide +kernel
theorem dX12_give_18 : decode cX12_give 18 = .ok (.if_icmp .ne 5, 3) := by decide +kernel
theorem dX12_give_21 : decode cX12_give 21 = .ok (.iconst (-1), 1) := by decide +kernel
theorem dX12_give_22 : decode cX12_give 22 = .ok (.ireturn, 1) := by decide +kernel
theorem dX12_give_23 : decode cX12_give 23 = .ok (.aload_n 0, 1) := by decide +kernel
theorem dX12_give_24 : decode cX12_give 24 = .ok (.getfield 37, 3) := by decide +kernel
theorem dX12_give_27 : decode cX12_give 27 = .ok (.iload_n 1, 1) := by decide +kernel
theorem dX12_give_28 : decode cX12_give 28 = .ok (.iaload, 1) := by decide +kernel
theorem dX12_give_29 : decode cX12_give 29 = .ok (.ifCond .ne 6, 3) := by decide +kernel
theorem dX12_give_32 : decode cX12_give 32 = .ok (.bipush (-3), 2) := by decide +kernel
theorem dX12_give_34 : decode cX12_give 34 = .ok (.ireturn, 1) := by decide +kernel
theorem dX12_give_35 : decode cX12_give 35 = .ok (.aload_n 0, 1) := by decide +kernel
theorem dX12_give_36 : decode cX12_give 36 = .ok (.getfield 37, 3) := by decide +kernel
theorem dX12_give_39 : decode cX12_give 39 = .ok (.iload_n 2, 1) := by decide +kernel
theorem dX12_give_40 : decode cX12_give 40 = .ok (.iaload, 1) := by decide +kernel
theorem dX12_give_41 : decode cX12_give 41 = .ok (.bipush 9, 2) := by decide +kernel
theorem dX12_give_43 : decode cX12_give 43 = .ok (.if_icmp .ne 6, 3) := by decide +kernel
theorem dX12_give_46 : decode cX12_give 46 = .ok (.bipush (-2), 2) := by decide +kernel
theorem dX12_give_48 : decode cX12_give 48 = .ok (.ireturn, 1) := by decide +kernel
theorem dX12_give_49 : decode cX12_give 49 = .ok (.aload_n 0, 1) := by decide +kernel
theorem dX12_give_50 : decode cX12_give 50 = .ok (.getfield 37, 3) := by decide +kernel
theorem dX12_give_53 : decode cX12_give 53 = .ok (.iload_n 1, 1) := by decide +kernel
theorem dX12_give_54 : decode cX12_give 54 = .ok (.dup2, 1) := by decide +kernel
theorem dX12_give_55 : decode cX12_give 55 = .ok (.iaload, 1) := by decide +kernel
theorem dX12_give_56 : decode cX12_give 56 = .ok (.iconst 1, 1) := by decide +kernel
theorem dX12_give_57 : decode cX12_give 57 = .ok (.isub, 1) := by decide +kernel
theorem dX12_give_58 : decode cX12_give 58 = .ok (.iastore, 1) := by decide +kernel
theorem dX12_give_59 : decode cX12_give 59 = .ok (.aload_n 0, 1) := by decide +kernel
theorem dX12_give_60 : decode cX12_give 60 = .ok (.getfield 37, 3) := by decide +kernel
theorem dX12_give_63 : decode cX12_give 63 = .ok (.iload_n 2, 1) := by decide +kernel
theorem dX12_give_64 : decode cX12_give 64 = .ok (.dup2, 1) := by decide +kernel
theorem dX12_give_65 : decode cX12_give 65 = .ok (.iaload, 1) := by decide +kernel
theorem dX12_give_66 : decode cX12_give 66 = .ok (.iconst 1, 1) := by decide +kernel
theorem dX12_give_67 : decode cX12_give 67 = .ok (.iadd, 1) := by decide +kernel
theorem dX12_give_68 : decode cX12_give 68 = .ok (.iastore, 1) := by decide +kernel
theorem dX12_give_69 : decode cX12_give 69 = .ok (.aload_n 0, 1) := by decide +kernel
theorem dX12_give_70 : decode cX12_give 70 = .ok (.getfield 37, 3) := by decide +kernel
theorem dX12_give_73 : decode cX12_give 73 = .ok (.iload_n 2, 1) := by decide +kernel
theorem dX12_give_74 : decode cX12_give 74 = .ok (.iaload, 1) := by decide +kernel
theorem dX12_give_75 : decode cX12_give 75 = .ok (.ireturn, 1) := by decide +kernel
theorem dX12_noes_0 : decode cX12_noes 0 = .ok (.aload_n 0, 1) := by decide +kernel
theorem dX12_noes_1 : decode cX12_noes 1 = .ok (.iload_n 1, 1) := by decide +kernel
theorem dX12_noes_2 : decode cX12_noes 2 = .ok (.invokevirtual 238, 3) := by decide +kernel
theorem dX12_noes_5 : decode cX12_noes 5 = .ok (.ifCond .eq 13, 3) := by decide +kernel
theorem dX12_noes_8 : decode cX12_noes 8 = .ok (.iload_n 2, 1) := by decide +kernel
theorem dX12_noes_9 : decode cX12_noes 9 = .ok (.iconst 0, 1) := by decide +kernel
theorem dX12_noes_10 : decode cX12_noes 10 = .ok (.bipush 9, 2) := by decide +kernel
theorem dX12_noes_12 : decode cX12_noes 12 = .ok (.invokestatic 99, 3) := by decide +kernel
theorem dX12_noes_15 : decode cX12_noes 15 = .ok (.ifCond .ne 5, 3) := by decide +kernel
theorem dX12_noes_18 : decode cX12_noes 18 = .ok (.iconst (-1), 1) := by decide +kernel
theorem dX12_noes_19 : decode cX12_noes 19 = .ok (.ireturn, 1) := by decide +kernel
theorem dX12_noes_20 : decode cX12_noes 20 = .ok (.aload_n 0, 1) := by decide +kernel
theorem dX12_noes_21 : decode cX12_noes 21 = .ok (.getfield 37, 3) := by decide +kernel
theorem dX12_noes_24 : decode cX12_noes 24 = .ok (.iload_n 1, 1) := by decide +kernel
theorem dX12_noes_25 : decode cX12_noes 25 = .ok (.iaload, 1) := by decide +kernel
theorem dX12_noes_26 : decode cX12_noes 26 = .ok (.istore_n 3, 1) := by decide +kernel
theorem dX12_noes_27 : decode cX12_noes 27 = .ok (.aload_n 0, 1) := by decide +kernel
theorem dX12_noes_28 : decode cX12_noes 28 = .ok (.getfield 37, 3) := by decide +kernel
theorem dX12_noes_31 : decode cX12_noes 31 = .ok (.iload_n 1, 1) := by decide +kernel
theorem dX12_noes_32 : decode cX12_noes 32 = .ok (.iload_n 2, 1) := by decide +kernel
theorem dX12_noes_33 : decode cX12_noes 33 = .ok (.iastore, 1) := by decide +kernel
theorem dX12_noes_34 : decode cX12_noes 34 = .ok (.iload_n 3, 1) := by decide +kernel
theorem dX12_noes_35 : decode cX12_noes 35 = .ok (.ireturn, 1) := by decide +kernel
theorem dX12_proposal_0 : decode cX12_proposal 0 = .ok (.iload_n 1, 1) := by decide +kernel
theorem dX12_proposal_1 : decode cX12_proposal 1 = .ok (.iconst 0, 1) := by decide +kernel
theorem dX12_proposal_2 : decode cX12_proposal 2 = .ok (.bipush 9, 2) := by decide +kernel
theorem dX12_proposal_4 : decode cX12_proposal 4 = .ok (.invokestatic 99, 3) := by decide +kernel
theorem dX12_proposal_7 : decode cX12_proposal 7 = .ok (.ifCond .ne 5, 3) := by decide +kernel
theorem dX12_proposal_10 : decode cX12_proposal 10 = .ok (.iconst (-1), 1) := by decide +kernel
theorem dX12_proposal_11 : decode cX12_proposal 11 = .ok (.ireturn, 1) := by decide +kernel
theorem dX12_proposal_12 : decode cX12_proposal 12 = .ok (.aload_n 0, 1) := by decide +kernel
theorem dX12_proposal_13 : decode cX12_proposal 13 = .ok (.getfield 103, 3) := by decide +kernel
theorem dX12_proposal_16 : decode cX12_proposal 16 = .ok (.bipush 8, 2) := by decide +kernel
theorem dX12_proposal_18 : decode cX12_proposal 18 = .ok (.if_icmp .ne 6, 3) := by decide +kernel
theorem dX12_proposal_21 : decode cX12_proposal 21 = .ok (.bipush (-2), 2) := by decide +kernel
theorem dX12_proposal_23 : decode cX12_proposal 23 = .ok (.ireturn, 1) := by decide +kernel
theorem dX12_proposal_24 : decode cX12_proposal 24 = .ok (.aload_n 0, 1) := by decide +kernel
theorem dX12_proposal_25 : decode cX12_proposal 25 = .ok (.getfield 22, 3) := by decide +kernel
theorem dX12_proposal_28 : decode cX12_proposal 28 = .ok (.aload_n 0, 1) := by decide +kernel
theorem dX12_proposal_29 : decode cX12_proposal 29 = .ok (.getfield 103, 3) := by decide +kernel
theorem dX12_proposal_32 : decode cX12_proposal 32 = .ok (.iload_n 1, 1) := by decide +kernel
theorem dX12_proposal_33 : decode cX12_proposal 33 = .ok (.iastore, 1) := by decide +kernel
theorem dX12_proposal_34 : decode cX12_proposal 34 = .ok (.iconst 0, 1) := by decide +kernel
theorem dX12_proposal_35 : decode cX12_proposal 35 = .ok (.istore_n 2, 1) := by decide +kernel
theorem dX12_proposal_36 : decode cX12_proposal 36 = .ok (.iload_n 2, 1) := by decide +kernel
theorem dX12_proposal_37 : decode cX12_proposal 37 = .ok (.bipush 6, 2) := by decide +kernel
theorem dX12_proposal_39 : decode cX12_proposal 39 = .ok (.if_icmp .ge 24, 3) := by decide +kernel
theorem dX12_proposal_42 : decode cX12_proposal 42 = .ok (.aload_n 0, 1) := by decide +kernel
theorem dX12_proposal_43 : decode cX12_proposal 43 = .ok (.getfield 25, 3) := by decide +kernel
theorem dX12_proposal_46 : decode cX12_proposal 46 = .ok (.bipush 6, 2) := by decide +kernel
theorem dX12_proposal_48 : decode cX12_proposal 48 = .ok (.aload_n 0, 1) := by decide +kernel
theorem dX12_proposal_49 : decode cX12_proposal 49 = .ok (.getfield 103, 3) := by decide +kernel
theorem dX12_proposal_52 : decode cX12_proposal 52 = .ok (.imul, 1) := by decide +kernel
theorem dX12_proposal_53 : decode cX12_proposal 53 = .ok (.iload_n 2, 1) := by decide +kernel
theorem dX12_proposal_54 : decode cX12_proposal 54 = .ok (.iadd, 1) := by decide +kernel
theorem dX12_proposal_55 : decode cX12_proposal 55 = .ok (.iconst 0, 1) := by decide +kernel
theorem dX12_proposal_56 : decode cX12_proposal 56 = .ok (.iastore, 1) := by decide +kernel
theorem dX12_proposal_57 : decode cX12_proposal 57 = .ok (.iinc 2 1, 3) := by decide +kernel
theorem dX12_proposal_60 : decode cX12_proposal 60 = .ok (.goto (-24), 3) := by decide +kernel
theorem dX12_proposal_63 : decode cX12_proposal 63 = .ok (.aload_n 0, 1) := by decide +kernel
theorem dX12_proposal_64 : decode cX12_proposal 64 = .ok (.dup, 1) := by decide +kernel
theorem dX12_proposal_65 : decode cX12_proposal 65 = .ok (.getfield 103, 3) := by decide +kernel
theorem dX12_proposal_68 : decode cX12_proposal 68 = .ok (.iconst 1, 1) := by decide +kernel
theorem dX12_proposal_69 : decode cX12_proposal 69 = .ok (.iadd, 1) := by decide +kernel
theorem dX12_proposal_70 : decode cX12_proposal 70 = .ok (.putfield 103, 3) := by decide +kernel
theorem dX12_proposal_73 : decode cX12_proposal 73 = .ok (.aload_n 0, 1) := by decide +kernel
theorem dX12_proposal_74 : decode cX12_proposal 74 = .ok (.getfield 103, 3) := by decide +kernel
theorem dX12_proposal_77 : decode cX12_proposal 77 = .ok (.iconst 1, 1) := by decide +kernel
theorem dX12_proposal_78 : decode cX12_proposal 78 = .ok (.isub, 1) := by decide +kernel
theorem dX12_proposal_79 : decode cX12_proposal 79 = .ok (.ireturn, 1) := by decide +kernel
theorem dX12_weigh_0 : decode cX12_weigh 0 = .ok (.aload_n 0, 1) := by decide +kernel
theorem dX12_weigh_1 : decode cX12_weigh 1 = .ok (.iload_n 1, 1) := by decide +kernel
theorem dX12_weigh_2 : decode cX12_weigh 2 = .ok (.invokevirtual 241, 3) := by decide +kernel
theorem dX12_weigh_5 : decode cX12_weigh 5 = .ok (.ifCond .eq 13, 3) := by decide +kernel
theorem dX12_weigh_8 : decode cX12_weigh 8 = .ok (.iload_n 2, 1) := by decide +kernel
theorem dX12_weigh_9 : decode cX12_weigh 9 = .ok (.iconst 0, 1) := by decide +kernel
theorem dX12_weigh_10 : decode cX12_weigh 10 = .ok (.bipush 9, 2) := by decide +kernel
theorem dX12_weigh_12 : decode cX12_weigh 12 = .ok (.invokestatic 99, 3) := by decide +kernel
theorem dX12_weigh_15 : decode cX12_weigh 15 = .ok (.ifCond .ne 5, 3) := by decide +kernel
theorem dX12_weigh_18 : decode cX12_weigh 18 = .ok (.iconst (-1), 1) := by decide +kernel
theorem dX12_weigh_19 : decode cX12_weigh 19 = .ok (.ireturn, 1) := by decide +kernel
theorem dX12_weigh_20 : decode cX12_weigh 20 = .ok (.aload_n 0, 1) := by decide +kernel
theorem dX12_weigh_21 : decode cX12_weigh 21 = .ok (.getfield 22, 3) := by decide +kernel
theorem dX12_weigh_24 : decode cX12_weigh 24 = .ok (.iload_n 1, 1) := by decide +kernel
theorem dX12_weigh_25 : decode cX12_weigh 25 = .ok (.iaload, 1) := by decide +kernel
theorem dX12_weigh_26 : decode cX12_weigh 26 = .ok (.istore_n 3, 1) := by decide +kernel
theorem dX12_weigh_27 : decode cX12_weigh 27 = .ok (.aload_n 0, 1) := by decide +kernel
theorem dX12_weigh_28 : decode cX12_weigh 28 = .ok (.getfield 22, 3) := by decide +kernel
theorem dX12_weigh_31 : decode cX12_weigh 31 = .ok (.iload_n 1, 1) := by decide +kernel
theorem dX12_weigh_32 : decode cX12_weigh 32 = .ok (.iload_n 2, 1) := by decide +kernel
theorem dX12_weigh_33 : decode cX12_weigh 33 = .ok (.iastore, 1) := by decide +kernel
theorem dX12_weigh_34 : decode cX12_weigh 34 = .ok (.iload_n 3, 1) := by decide +kernel
theorem dX12_weigh_35 : decode cX12_weigh 35 = .ok (.ireturn, 1) := by decide +kernel
theorem dX12_worth_0 : decode cX12_worth 0 = .ok (.aload_n 0, 1) := by decide +kernel
theorem dX12_worth_1 : decode cX12_worth 1 = .ok (.iload_n 1, 1) := by decide +kernel
theorem dX12_worth_2 : decode cX12_worth 2 = .ok (.invokevirtual 241, 3) := by decide +kernel
theorem dX12_worth_5 : decode cX12_worth 5 = .ok (.ifCond .eq 22, 3) := by decide +kernel
theorem dX12_worth_8 : decode cX12_worth 8 = .ok (.aload_n 0, 1) := by decide +kernel
theorem dX12_worth_9 : decode cX12_worth 9 = .ok (.iload_n 2, 1) := by decide +kernel
theorem dX12_worth_10 : decode cX12_worth 10 = .ok (.invokevirtual 238, 3) := by decide +kernel
theorem dX12_worth_13 : decode cX12_worth 13 = .ok (.ifCond .eq 14, 3) := by decide +kernel
theorem dX12_worth_16 : decode cX12_worth 16 = .ok (.iload_n 3, 1) := by decide +kernel
theorem dX12_worth_17 : decode cX12_worth 17 = .ok (.bipush (-9), 2) := by decide +kernel
theorem dX12_worth_19 : decode cX12_worth 19 = .ok (.bipush 9, 2) := by decide +kernel
theorem dX12_worth_21 : decode cX12_worth 21 = .ok (.invokestatic 99, 3) := by decide +kernel
theorem dX12_worth_24 : decode cX12_worth 24 = .ok (.ifCond .ne 5, 3) := by decide +kernel
theorem dX12_worth_27 : decode cX12_worth 27 = .ok (.iconst (-1), 1) := by decide +kernel
theorem dX12_worth_28 : decode cX12_worth 28 = .ok (.ireturn, 1) := by decide +kernel
theorem dX12_worth_29 : decode cX12_worth 29 = .ok (.aload_n 0, 1) := by decide +kernel
theorem dX12_worth_30 : decode cX12_worth 30 = .ok (.iload_n 1, 1) := by decide +kernel
theorem dX12_worth_31 : decode cX12_worth 31 = .ok (.iload_n 2, 1) := by decide +kernel
theorem dX12_worth_32 : decode cX12_worth 32 = .ok (.invokevirtual 244, 3) := by decide +kernel
theorem dX12_worth_35 : decode cX12_worth 35 = .ok (.istore 4, 2) := by decide +kernel
theorem dX12_worth_37 : decode cX12_worth 37 = .ok (.aload_n 0, 1) := by decide +kernel
theorem dX12_worth_38 : decode cX12_worth 38 = .ok (.getfield 25, 3) := by decide +kernel
theorem dX12_worth_41 : decode cX12_worth 41 = .ok (.bipush 6, 2) := by decide +kernel
theorem dX12_worth_43 : decode cX12_worth 43 = .ok (.iload_n 1, 1) := by decide +kernel
theorem dX12_worth_44 : decode cX12_worth 44 = .ok (.imul, 1) := by decide +kernel
theorem dX12_worth_45 : decode cX12_worth 45 = .ok (.iload_n 2, 1) := by decide +kernel
theorem dX12_worth_46 : decode cX12_worth 46 = .ok (.iadd, 1) := by decide +kernel
theorem dX12_worth_47 : decode cX12_worth 47 = .ok (.iload_n 3, 1) := by decide +kernel
theorem dX12_worth_48 : decode cX12_worth 48 = .ok (.iastore, 1) := by decide +kernel
theorem dX12_worth_49 : decode cX12_worth 49 = .ok (.iload 4, 2) := by decide +kernel
theorem dX12_worth_51 : decode cX12_worth 51 = .ok (.bipush 10, 2) := by decide +kernel
theorem dX12_worth_53 : decode cX12_worth 53 = .ok (.iadd, 1) := by decide +kernel
theorem dX12_worth_54 : decode cX12_worth 54 = .ok (.ireturn, 1) := by decide +kernel
theorem dX12_proposalOf_0 : decode cX12_proposalOf 0 = .ok (.aload_n 0, 1) := by decide +kernel
theorem dX12_proposalOf_1 : decode cX12_proposalOf 1 = .ok (.iload_n 1, 1) := by decide +kernel
theorem dX12_proposalOf_2 : decode cX12_proposalOf 2 = .ok (.invokevirtual 241, 3) := by decide +kernel
theorem dX12_proposalOf_5 : decode cX12_proposalOf 5 = .ok (.ifCond .eq 16, 3) := by decide +kernel
theorem dX12_proposalOf_8 : decode cX12_proposalOf 8 = .ok (.iload_n 2, 1) := by decide +kernel
theorem dX12_proposalOf_9 : decode cX12_proposalOf 9 = .ok (.iconst (-1), 1) := by decide +kernel
theorem dX12_proposalOf_10 : decode cX12_proposalOf 10 = .ok (.if_icmp .eq 13, 3) := by decide +kernel
theorem dX12_proposalOf_13 : decode cX12_proposalOf 13 = .ok (.aload_n 0, 1) := by decide +kernel
theorem dX12_proposalOf_14 : decode cX12_proposalOf 14 = .ok (.iload_n 2, 1) := by decide +kernel
theorem dX12_proposalOf_15 : decode cX12_proposalOf 15 = .ok (.invokevirtual 238, 3) := by decide +kernel
theorem dX12_proposalOf_18 : decode cX12_proposalOf 18 = .ok (.ifCond .ne 5, 3) := by decide +kernel
theorem dX12_proposalOf_21 : decode cX12_proposalOf 21 = .ok (.iconst (-1), 1) := by decide +kernel
theorem dX12_proposalOf_22 : decode cX12_proposalOf 22 = .ok (.ireturn, 1) := by decide +kernel
theorem dX12_proposalOf_23 : decode cX12_proposalOf 23 = .ok (.iload_n 2, 1) := by decide +kernel
theorem dX12_proposalOf_24 : decode cX12_proposalOf 24 = .ok (.iconst (-1), 1) := by decide +kernel
theorem dX12_proposalOf_25 : decode cX12_proposalOf 25 = .ok (.if_icmp .ne 12, 3) := by decide +kernel
theorem dX12_proposalOf_28 : decode cX12_proposalOf 28 = .ok (.aload_n 0, 1) := by decide +kernel
theorem dX12_proposalOf_29 : decode cX12_proposalOf 29 = .ok (.getfield 22, 3) := by decide +kernel
theorem dX12_proposalOf_32 : decode cX12_proposalOf 32 = .ok (.iload_n 1, 1) := by decide +kernel
theorem dX12_proposalOf_33 : decode cX12_proposalOf 33 = .ok (.iaload, 1) := by decide +kernel
theorem dX12_proposalOf_34 : decode cX12_proposalOf 34 = .ok (.goto 12, 3) := by decide +kernel
theorem dX12_proposalOf_37 : decode cX12_proposalOf 37 = .ok (.aload_n 0, 1) := by decide +kernel
theorem dX12_proposalOf_38 : decode cX12_proposalOf 38 = .ok (.iload_n 1, 1) := by decide +kernel
theorem dX12_proposalOf_39 : decode cX12_proposalOf 39 = .ok (.iload_n 2, 1) := by decide +kernel
theorem dX12_proposalOf_40 : decode cX12_proposalOf 40 = .ok (.invokevirtual 244, 3) := by decide +kernel
theorem dX12_proposalOf_43 : decode cX12_proposalOf 43 = .ok (.bipush 10, 2) := by decide +kernel
theorem dX12_proposalOf_45 : decode cX12_proposalOf 45 = .ok (.iadd, 1) := by decide +kernel
theorem dX12_proposalOf_46 : decode cX12_proposalOf 46 = .ok (.ireturn, 1) := by decide +kernel
theorem dX12_isLaw_0 : decode cX12_isLaw 0 = .ok (.iload_n 0, 1) := by decide +kernel
theorem dX12_isLaw_1 : decode cX12_isLaw 1 = .ok (.iconst 0, 1) := by decide +kernel
theorem dX12_isLaw_2 : decode cX12_isLaw 2 = .ok (.iconst 2, 1) := by decide +kernel
theorem dX12_isLaw_3 : decode cX12_isLaw 3 = .ok (.invokestatic 99, 3) := by decide +kernel
theorem dX12_isLaw_6 : decode cX12_isLaw 6 = .ok (.ireturn, 1) := by decide +kernel
theorem dX12_set_0 : decode cX12_set 0 = .ok (.iload_n 1, 1) := by decide +kernel
theorem dX12_set_1 : decode cX12_set 1 = .ok (.invokestatic 247, 3) := by decide +kernel
theorem dX12_set_4 : decode cX12_set 4 = .ok (.ifCond .eq 7, 3) := by decide +kernel
theorem dX12_set_7 : decode cX12_set 7 = .ok (.iload_n 1, 1) := by decide +kernel
theorem dX12_set_8 : decode cX12_set 8 = .ok (.goto 4, 3) := by decide +kernel
theorem dX12_set_11 : decode cX12_set 11 = .ok (.iconst 0, 1) := by decide +kernel
theorem dX12_set_12 : decode cX12_set 12 = .ok (.istore_n 3, 1) := by decide +kernel
theorem dX12_set_13 : decode cX12_set 13 = .ok (.iload_n 1, 1) := by decide +kernel
theorem dX12_set_14 : decode cX12_set 14 = .ok (.invokestatic 247, 3) := by decide +kernel
theorem dX12_set_17 : decode cX12_set 17 = .ok (.ifCond .eq 22, 3) := by decide +kernel
theorem dX12_set_20 : decode cX12_set 20 = .ok (.iload_n 2, 1) := by decide +kernel
theorem dX12_set_21 : decode cX12_set 21 = .ok (.aload_n 0, 1) := by decide +kernel
theorem dX12_set_22 : decode cX12_set 22 = .ok (.getfield 31, 3) := by decide +kernel
theorem dX12_set_25 : decode cX12_set 25 = .ok (.iload_n 3, 1) := by decide +kernel
theorem dX12_set_26 : decode cX12_set 26 = .ok (.iaload, 1) := by decide +kernel
theorem dX12_set_27 : decode cX12_set 27 = .ok (.aload_n 0, 1) := by decide +kernel
theorem dX12_set_28 : decode cX12_set 28 = .ok (.getfield 34, 3) := by decide +kernel
theorem dX12_set_31 : decode cX12_set 31 = .ok (.iload_n 3, 1) := by decide +kernel
theorem dX12_set_32 : decode cX12_set 32 = .ok (.iaload, 1) := by decide +kernel
theorem dX12_set_33 : decode cX12_set 33 = .ok (.invokestatic 99, 3) := by decide +kernel
theorem dX12_set_36 : decode cX12_set 36 = .ok (.ifCond .ne 5, 3) := by decide +kernel
theorem dX12_set_39 : decode cX12_set 39 = .ok (.iconst (-1), 1) := by decide +kernel
theorem dX12_set_40 : decode cX12_set 40 = .ok (.ireturn, 1) := by decide +kernel
theorem dX12_set_41 : decode cX12_set 41 = .ok (.aload_n 0, 1) := by decide +kernel
theorem dX12_set_42 : decode cX12_set 42 = .ok (.getfield 28, 3) := by decide +kernel
theorem dX12_set_45 : decode cX12_set 45 = .ok (.iload_n 1, 1) := by decide +kernel
theorem dX12_set_46 : decode cX12_set 46 = .ok (.iaload, 1) := by decide +kernel
theorem dX12_set_47 : decode cX12_set 47 = .ok (.istore 4, 2) := by decide +kernel
theorem dX12_set_49 : decode cX12_set 49 = .ok (.aload_n 0, 1) := by decide +kernel
theorem dX12_set_50 : decode cX12_set 50 = .ok (.getfield 28, 3) := by decide +kernel
theorem dX12_set_53 : decode cX12_set 53 = .ok (.iload_n 1, 1) := by decide +kernel
theorem dX12_set_54 : decode cX12_set 54 = .ok (.iload_n 2, 1) := by decide +kernel
theorem dX12_set_55 : decode cX12_set 55 = .ok (.iastore, 1) := by decide +kernel
theorem dX12_set_56 : decode cX12_set 56 = .ok (.iload 4, 2) := by decide +kernel
theorem dX12_set_58 : decode cX12_set 58 = .ok (.ireturn, 1) := by decide +kernel
theorem dX12_law_0 : decode cX12_law 0 = .ok (.iload_n 1, 1) := by decide +kernel
theorem dX12_law_1 : decode cX12_law 1 = .ok (.invokestatic 247, 3) := by decide +kernel
theorem dX12_law_4 : decode cX12_law 4 = .ok (.ifCond .eq 12, 3) := by decide +kernel
theorem dX12_law_7 : decode cX12_law 7 = .ok (.aload_n 0, 1) := by decide +kernel
theorem dX12_law_8 : decode cX12_law 8 = .ok (.getfield 28, 3) := by decide +kernel
theorem dX12_law_11 : decode cX12_law 11 = .ok (.iload_n 1, 1) := by decide +kernel
theorem dX12_law_12 : decode cX12_law 12 = .ok (.iaload, 1) := by decide +kernel
theorem dX12_law_13 : decode cX12_law 13 = .ok (.goto 19, 3) := by decide +kernel
theorem dX12_law_16 : decode cX12_law 16 = .ok (.iload_n 1, 1) := by decide +kernel
theorem dX12_law_17 : decode cX12_law 17 = .ok (.iconst 3, 1) := by decide +kernel
theorem dX12_law_18 : decode cX12_law 18 = .ok (.if_icmp .ne 13, 3) := by decide +kernel
theorem dX12_law_21 : decode cX12_law 21 = .ok (.aload_n 0, 1) := by decide +kernel
theorem dX12_law_22 : decode cX12_law 22 = .ok (.getfield 37, 3) := by decide +kernel
theorem dX12_law_25 : decode cX12_law 25 = .ok (.bipush 6, 2) := by decide +kernel
theorem dX12_law_27 : decode cX12_law 27 = .ok (.iaload, 1) := by decide +kernel
theorem dX12_law_28 : decode cX12_law 28 = .ok (.goto 4, 3) := by decide +kernel
theorem dX12_law_31 : decode cX12_law 31 = .ok (.iconst (-1), 1) := by decide +kernel
theorem dX12_law_32 : decode cX12_law 32 = .ok (.ireturn, 1) := by decide +kernel
theorem dX12_isLow_0 : decode cX12_isLow 0 = .ok (.aload_n 0, 1) := by decide +kernel
theorem dX12_isLow_1 : decode cX12_isLow 1 = .ok (.iload_n 2, 1) := by decide +kernel
theorem dX12_isLow_2 : decode cX12_isLow 2 = .ok (.iload_n 3, 1) := by decide +kernel
theorem dX12_isLow_3 : decode cX12_isLow 3 = .ok (.invokevirtual 244, 3) := by decide +kernel
theorem dX12_isLow_6 : decode cX12_isLow 6 = .ok (.istore 4, 2) := by decide +kernel
theorem dX12_isLow_8 : decode cX12_isLow 8 = .ok (.iconst 0, 1) := by decide +kernel
theorem dX12_isLow_9 : decode cX12_isLow 9 = .ok (.istore 5, 2) := by decide +kernel
theorem dX12_isLow_11 : decode cX12_isLow 11 = .ok (.iload 5, 2) := by decide +kernel
theorem dX12_isLow_13 : decode cX12_isLow 13 = .ok (.aload_n 0, 1) := by decide +kernel
theorem dX12_isLow_14 : decode cX12_isLow 14 = .ok (.getfield 96, 3) := by decide +kernel
theorem dX12_isLow_17 : decode cX12_isLow 17 = .ok (.if_icmp .ge 41, 3) := by decide +kernel
theorem dX12_isLow_20 : decode cX12_isLow 20 = .ok (.iload 5, 2) := by decide +kernel
theorem dX12_isLow_22 : decode cX12_isLow 22 = .ok (.iload_n 3, 1) := by decide +kernel
theorem dX12_isLow_23 : decode cX12_isLow 23 = .ok (.if_icmp .eq 29, 3) := by decide +kernel
theorem dX12_isLow_26 : decode cX12_isLow 26 = .ok (.aload_n 0, 1) := by decide +kernel
theorem dX12_isLow_27 : decode cX12_isLow 27 = .ok (.getfield 37, 3) := by decide +kernel
theorem dX12_isLow_30 : decode cX12_isLow 30 = .ok (.iload_n 1, 1) := by decide +kernel
theorem dX12_isLow_31 : decode cX12_isLow 31 = .ok (.iload 5, 2) := by decide +kernel
theorem dX12_isLow_33 : decode cX12_isLow 33 = .ok (.iadd, 1) := by decide +kernel
theorem dX12_isLow_34 : decode cX12_isLow 34 = .ok (.iaload, 1) := by decide +kernel
theorem dX12_isLow_35 : decode cX12_isLow 35 = .ok (.ifCond .le 17, 3) := by decide +kernel
theorem dX12_isLow_38 : decode cX12_isLow 38 = .ok (.aload_n 0, 1) := by decide +kernel
theorem dX12_isLow_39 : decode cX12_isLow 39 = .ok (.iload_n 2, 1) := by decide +kernel
theorem dX12_isLow_40 : decode cX12_isLow 40 = .ok (.iload 5, 2) := by decide +kernel
theorem dX12_isLow_42 : decode cX12_isLow 42 = .ok (.invokevirtual 244, 3) := by decide +kernel
theorem dX12_isLow_45 : decode cX12_isLow 45 = .ok (.iload 4, 2) := by decide +kernel
theorem dX12_isLow_47 : decode cX12_isLow 47 = .ok (.if_icmp .ge 5, 3) := by decide +kernel
theorem dX12_isLow_50 : decode cX12_isLow 50 = .ok (.iconst 0, 1) := by decide +kernel
theorem dX12_isLow_51 : decode cX12_isLow 51 = .ok (.ireturn, 1) := by decide +kernel
theorem dX12_isLow_52 : decode cX12_isLow 52 = .ok (.iinc 5 1, 3) := by decide +kernel
theorem dX12_isLow_55 : decode cX12_isLow 55 = .ok (.goto (-44), 3) := by decide +kernel
theorem dX12_isLow_58 : decode cX12_isLow 58 = .ok (.iconst 1, 1) := by decide +kernel
theorem dX12_isLow_59 : decode cX12_isLow 59 = .ok (.ireturn, 1) := by decide +kernel
theorem dX12_isCalled_0 : decode cX12_isCalled 0 = .ok (.iconst 0, 1) := by decide +kernel
theorem dX12_isCalled_1 : decode cX12_isCalled 1 = .ok (.istore_n 3, 1) := by decide +kernel
theorem dX12_isCalled_2 : decode cX12_isCalled 2 = .ok (.iconst 0, 1) := by decide +kernel
theorem dX12_isCalled_3 : decode cX12_isCalled 3 = .ok (.istore 4, 2) := by decide +kernel
theorem dX12_isCalled_5 : decode cX12_isCalled 5 = .ok (.iconst 0, 1) := by decide +kernel
theorem dX12_isCalled_6 : decode cX12_isCalled 6 = .ok (.istore 5, 2) := by decide +kernel
theorem dX12_isCalled_8 : decode cX12_isCalled 8 = .ok (.iload 5, 2) := by decide +kernel
theorem dX12_isCalled_10 : decode cX12_isCalled 10 = .ok (.aload_n 0, 1) := by decide +kernel
theorem dX12_isCalled_11 : decode cX12_isCalled 11 = .ok (.getfield 96, 3) := by decide +kernel
theorem dX12_isCalled_14 : decode cX12_isCalled 14 = .ok (.if_icmp .ge 73, 3) := by decide +kernel
theorem dX12_isCalled_17 : decode cX12_isCalled 17 = .ok (.aload_n 0, 1) := by decide +kernel
theorem dX12_isCalled_18 : decode cX12_isCalled 18 = .ok (.getfield 7, 3) := by decide +kernel
theorem dX12_isCalled_21 : decode cX12_isCalled 21 = .ok (.iload 5, 2) := by decide +kernel
theorem dX12_isCalled_23 : decode cX12_isCalled 23 = .ok (.iaload, 1) := by decide +kernel
theorem dX12_isCalled_24 : decode cX12_isCalled 24 = .ok (.iconst 4, 1) := by decide +kernel
theorem dX12_isCalled_25 : decode cX12_isCalled 25 = .ok (.if_icmp .ne 19, 3) := by decide +kernel
theorem dX12_isCalled_28 : decode cX12_isCalled 28 = .ok (.aload_n 0, 1) := by decide +kernel
theorem dX12_isCalled_29 : decode cX12_isCalled 29 = .ok (.getfield 37, 3) := by decide +kernel
theorem dX12_isCalled_32 : decode cX12_isCalled 32 = .ok (.iload_n 1, 1) := by decide +kernel
theorem dX12_isCalled_33 : decode cX12_isCalled 33 = .ok (.iload 5, 2) := by decide +kernel
theorem dX12_isCalled_35 : decode cX12_isCalled 35 = .ok (.iadd, 1) := by decide +kernel
theorem dX12_isCalled_36 : decode cX12_isCalled 36 = .ok (.iaload, 1) := by decide +kernel
theorem dX12_isCalled_37 : decode cX12_isCalled 37 = .ok (.ifCond .le 7, 3) := by decide +kernel
theorem dX12_isCalled_40 : decode cX12_isCalled 40 = .ok (.iconst 1, 1) := by decide +kernel
theorem dX12_isCalled_41 : decode cX12_isCalled 41 = .ok (.goto 4, 3) := by decide +kernel
theorem dX12_isCalled_44 : decode cX12_isCalled 44 = .ok (.iconst 0, 1) := by decide +kernel
theorem dX12_isCalled_45 : decode cX12_isCalled 45 = .ok (.istore 6, 2) := by decide +kernel
theorem dX12_isCalled_47 : decode cX12_isCalled 47 = .ok (.iload 4, 2) := by decide +kernel
theorem dX12_isCalled_49 : decode cX12_isCalled 49 = .ok (.iload 6, 2) := by decide +kernel
theorem dX12_isCalled_51 : decode cX12_isCalled 51 = .ok (.ifCond .eq 13, 3) := by decide +kernel
theorem dX12_isCalled_54 : decode cX12_isCalled 54 = .ok (.iload 5, 2) := by decide +kernel
theorem dX12_isCalled_56 : decode cX12_isCalled 56 = .ok (.iload_n 2, 1) := by decide +kernel
theorem dX12_isCalled_57 : decode cX12_isCalled 57 = .ok (.if_icmp .ge 7, 3) := by decide +kernel
theorem dX12_isCalled_60 : decode cX12_isCalled 60 = .ok (.iconst 1, 1) := by decide +kernel
theorem dX12_isCalled_61 : decode cX12_isCalled 61 = .ok (.goto 4, 3) := by decide +kernel
theorem dX12_isCalled_64 : decode cX12_isCalled 64 = .ok (.iconst 0, 1) := by decide +kernel
theorem dX12_isCalled_65 : decode cX12_isCalled 65 = .ok (.iadd, 1) := by decide +kernel
theorem dX12_isCalled_66 : decode cX12_isCalled 66 = .ok (.istore 4, 2) := by decide +kernel
theorem dX12_isCalled_68 : decode cX12_isCalled 68 = .ok (.iload_n 3, 1) := by decide +kernel
theorem dX12_isCalled_69 : decode cX12_isCalled 69 = .ok (.iload 6, 2) := by decide +kernel
theorem dX12_isCalled_71 : decode cX12_isCalled 71 = .ok (.ifCond .eq 7, 3) := by decide +kernel
theorem dX12_isCalled_74 : decode cX12_isCalled 74 = .ok (.iconst 1, 1) := by decide +kernel
theorem dX12_isCalled_75 : decode cX12_isCalled 75 = .ok (.goto 4, 3) := by decide +kernel
theorem dX12_isCalled_78 : decode cX12_isCalled 78 = .ok (.iconst 0, 1) := by decide +kernel
theorem dX12_isCalled_79 : decode cX12_isCalled 79 = .ok (.iadd, 1) := by decide +kernel
theorem dX12_isCalled_80 : decode cX12_isCalled 80 = .ok (.istore_n 3, 1) := by decide +kernel
theorem dX12_isCalled_81 : decode cX12_isCalled 81 = .ok (.iinc 5 1, 3) := by decide +kernel
theorem dX12_isCalled_84 : decode cX12_isCalled 84 = .ok (.goto (-76), 3) := by decide +kernel
theorem dX12_isCalled_87 : decode cX12_isCalled 87 = .ok (.aload_n 0, 1) := by decide +kernel
theorem dX12_isCalled_88 : decode cX12_isCalled 88 = .ok (.getfield 37, 3) := by decide +kernel
theorem dX12_isCalled_91 : decode cX12_isCalled 91 = .ok (.iload_n 1, 1) := by decide +kernel
theorem dX12_isCalled_92 : decode cX12_isCalled 92 = .ok (.bipush 6, 2) := by decide +kernel
theorem dX12_isCalled_94 : decode cX12_isCalled 94 = .ok (.iadd, 1) := by decide +kernel
theorem dX12_isCalled_95 : decode cX12_isCalled 95 = .ok (.iaload, 1) := by decide +kernel
theorem dX12_isCalled_96 : decode cX12_isCalled 96 = .ok (.iload_n 3, 1) := by decide +kernel
theorem dX12_isCalled_97 : decode cX12_isCalled 97 = .ok (.irem, 1) := by decide +kernel
theorem dX12_isCalled_98 : decode cX12_isCalled 98 = .ok (.iload 4, 2) := by decide +kernel
theorem dX12_isCalled_100 : decode cX12_isCalled 100 = .ok (.if_icmp .ne 7, 3) := by decide +kernel
theorem dX12_isCalled_103 : decode cX12_isCalled 103 = .ok (.iconst 1, 1) := by decide +kernel
theorem dX12_isCalled_104 : decode cX12_isCalled 104 = .ok (.goto 4, 3) := by decide +kernel
theorem dX12_isCalled_107 : decode cX12_isCalled 107 = .ok (.iconst 0, 1) := by decide +kernel
theorem dX12_isCalled_108 : decode cX12_isCalled 108 = .ok (.ireturn, 1) := by decide +kernel
theorem dX12_wouldBy_0 : decode cX12_wouldBy 0 = .ok (.aload_n 0, 1) := by decide +kernel
theorem dX12_wouldBy_1 : decode cX12_wouldBy 1 = .ok (.getfield 37, 3) := by decide +kernel
theorem dX12_wouldBy_4 : decode cX12_wouldBy 4 = .ok (.iload_n 1, 1) := by decide +kernel
theorem dX12_wouldBy_5 : decode cX12_wouldBy 5 = .ok (.iload_n 3, 1) := by decide +kernel
theorem dX12_wouldBy_6 : decode cX12_wouldBy 6 = .ok (.iadd, 1) := by decide +kernel
theorem dX12_wouldBy_7 : decode cX12_wouldBy 7 = .ok (.iaload, 1) := by decide +kernel
theorem dX12_wouldBy_8 : decode cX12_wouldBy 8 = .ok (.ifCond .ne 5, 3) := by decide +kernel
theorem dX12_wouldBy_11 : decode cX12_wouldBy 11 = .ok (.iconst 0, 1) := by decide +kernel
theorem dX12_wouldBy_12 : decode cX12_wouldBy 12 = .ok (.ireturn, 1) := by decide +kernel
theorem dX12_wouldBy_13 : decode cX12_wouldBy 13 = .ok (.aload_n 0, 1) := by decide +kernel
theorem dX12_wouldBy_14 : decode cX12_wouldBy 14 = .ok (.iload_n 2, 1) := by decide +kernel
theorem dX12_wouldBy_15 : decode cX12_wouldBy 15 = .ok (.iload_n 3, 1) := by decide +kernel
theorem dX12_wouldBy_16 : decode cX12_wouldBy 16 = .ok (.invokevirtual 244, 3) := by decide +kernel
theorem dX12_wouldBy_19 : decode cX12_wouldBy 19 = .ok (.istore 4, 2) := by decide +kernel
theorem dX12_wouldBy_21 : decode cX12_wouldBy 21 = .ok (.aload_n 0, 1) := by decide +kernel
theorem dX12_wouldBy_22 : decode cX12_wouldBy 22 = .ok (.getfield 7, 3) := by decide +kernel
theorem dX12_wouldBy_25 : decode cX12_wouldBy 25 = .ok (.iload_n 3, 1) := by decide +kernel
theorem dX12_wouldBy_26 : decode cX12_wouldBy 26 = .ok (.iaload, 1) := by decide +kernel
theorem dX12_wouldBy_27 : decode cX12_wouldBy 27 = .ok (.tableswitch 130 1 5 #[33, 44, 62, 90, 110], 33) := by decide +kernel
theorem dX12_wouldBy_60 : decode cX12_wouldBy 60 = .ok (.iload 4, 2) := by decide +kernel
theorem dX12_wouldBy_62 : decode cX12_wouldBy 62 = .ok (.ifCond .ge 7, 3) := by decide +kernel
theorem dX12_wouldBy_65 : decode cX12_wouldBy 65 = .ok (.iconst 1, 1) := by decide +kernel
theorem dX12_wouldBy_66 : decode cX12_wouldBy 66 = .ok (.goto 4, 3) := by decide +kernel
theorem dX12_wouldBy_69 : decode cX12_wouldBy 69 = .ok (.iconst 0, 1) := by decide +kernel
theorem dX12_wouldBy_70 : decode cX12_wouldBy 70 = .ok (.ireturn, 1) := by decide +kernel
theorem dX12_wouldBy_71 : decode cX12_wouldBy 71 = .ok (.iload 4, 2) := by decide +kernel
theorem dX12_wouldBy_73 : decode cX12_wouldBy 73 = .ok (.aload_n 0, 1) := by decide +kernel
theorem dX12_wouldBy_74 : decode cX12_wouldBy 74 = .ok (.getfield 13, 3) := by decide +kernel
theorem dX12_wouldBy_77 : decode cX12_wouldBy 77 = .ok (.iload_n 3, 1) := by decide +kernel
theorem dX12_wouldBy_78 : decode cX12_wouldBy 78 = .ok (.iaload, 1) := by decide +kernel
theorem dX12_wouldBy_79 : decode cX12_wouldBy 79 = .ok (.ineg, 1) := by decide +kernel
theorem dX12_wouldBy_80 : decode cX12_wouldBy 80 = .ok (.if_icmp .ge 7, 3) := by decide +kernel
theorem dX12_wouldBy_83 : decode cX12_wouldBy 83 = .ok (.iconst 1, 1) := by decide +kernel
theorem dX12_wouldBy_84 : decode cX12_wouldBy 84 = .ok (.goto 4, 3) := by decide +kernel
theorem dX12_wouldBy_87 : decode cX12_wouldBy 87 = .ok (.iconst 0, 1) := by decide +kernel
theorem dX12_wouldBy_88 : decode cX12_wouldBy 88 = .ok (.ireturn, 1) := by decide +kernel
theorem dX12_wouldBy_89 : decode cX12_wouldBy 89 = .ok (.iload 4, 2) := by decide +kernel
theorem dX12_wouldBy_91 : decode cX12_wouldBy 91 = .ok (.aload_n 0, 1) := by decide +kernel
theorem dX12_wouldBy_92 : decode cX12_wouldBy 92 = .ok (.getfield 13, 3) := by decide +kernel
theorem dX12_wouldBy_95 : decode cX12_wouldBy 95 = .ok (.iload_n 3, 1) := by decide +kernel
theorem dX12_wouldBy_96 : decode cX12_wouldBy 96 = .ok (.iaload, 1) := by decide +kernel
theorem dX12_wouldBy_97 : decode cX12_wouldBy 97 = .ok (.ineg, 1) := by decide +kernel
theorem dX12_wouldBy_98 : decode cX12_wouldBy 98 = .ok (.if_icmp .ge 17, 3) := by decide +kernel
theorem dX12_wouldBy_101 : decode cX12_wouldBy 101 = .ok (.aload_n 0, 1) := by decide +kernel
theorem dX12_wouldBy_102 : decode cX12_wouldBy 102 = .ok (.iload_n 1, 1) := by decide +kernel
theorem dX12_wouldBy_103 : decode cX12_wouldBy 103 = .ok (.iload_n 2, 1) := by decide +kernel
theorem dX12_wouldBy_104 : decode cX12_wouldBy 104 = .ok (.iload_n 3, 1) := by decide +kernel
theorem dX12_wouldBy_105 : decode cX12_wouldBy 105 = .ok (.invokevirtual 250, 3) := by decide +kernel
theorem dX12_wouldBy_108 : decode cX12_wouldBy 108 = .ok (.ifCond .eq 7, 3) := by decide +kernel
theorem dX12_wouldBy_111 : decode cX12_wouldBy 111 = .ok (.iconst 1, 1) := by decide +kernel
theorem dX12_wouldBy_112 : decode cX12_wouldBy 112 = .ok (.goto 4, 3) := by decide +kernel
theorem dX12_wouldBy_115 : decode cX12_wouldBy 115 = .ok (.iconst 0, 1) := by decide +kernel
theorem dX12_wouldBy_116 : decode cX12_wouldBy 116 = .ok (.ireturn, 1) := by decide +kernel
theorem dX12_wouldBy_117 : decode cX12_wouldBy 117 = .ok (.iload 4, 2) := by decide +kernel
theorem dX12_wouldBy_119 : decode cX12_wouldBy 119 = .ok (.ifCond .ge 16, 3) := by decide +kernel
theorem dX12_wouldBy_122 : decode cX12_wouldBy 122 = .ok (.aload_n 0, 1) := by decide +kernel
theorem dX12_wouldBy_123 : decode cX12_wouldBy 123 = .ok (.iload_n 1, 1) := by decide +kernel
theorem dX12_wouldBy_124 : decode cX12_wouldBy 124 = .ok (.iload_n 3, 1) := by decide +kernel
theorem dX12_wouldBy_125 : decode cX12_wouldBy 125 = .ok (.invokevirtual 253, 3) := by decide +kernel
theorem dX12_wouldBy_128 : decode cX12_wouldBy 128 = .ok (.ifCond .eq 7, 3) := by decide +kernel
theorem dX12_wouldBy_131 : decode cX12_wouldBy 131 = .ok (.iconst 1, 1) := by decide +kernel
theorem dX12_wouldBy_132 : decode cX12_wouldBy 132 = .ok (.goto 4, 3) := by decide +kernel
theorem dX12_wouldBy_135 : decode cX12_wouldBy 135 = .ok (.iconst 0, 1) := by decide +kernel
theorem dX12_wouldBy_136 : decode cX12_wouldBy 136 = .ok (.ireturn, 1) := by decide +kernel
theorem dX12_wouldBy_137 : decode cX12_wouldBy 137 = .ok (.aload_n 0, 1) := by decide +kernel
theorem dX12_wouldBy_138 : decode cX12_wouldBy 138 = .ok (.getfield 13, 3) := by decide +kernel
theorem dX12_wouldBy_141 : decode cX12_wouldBy 141 = .ok (.iload_n 3, 1) := by decide +kernel
theorem dX12_wouldBy_142 : decode cX12_wouldBy 142 = .ok (.iaload, 1) := by decide +kernel
theorem dX12_wouldBy_143 : decode cX12_wouldBy 143 = .ok (.iload_n 2, 1) := by decide +kernel
theorem dX12_wouldBy_144 : decode cX12_wouldBy 144 = .ok (.ishr, 1) := by decide +kernel
theorem dX12_wouldBy_145 : decode cX12_wouldBy 145 = .ok (.iconst 1, 1) := by decide +kernel
theorem dX12_wouldBy_146 : decode cX12_wouldBy 146 = .ok (.iand, 1) := by decide +kernel
theorem dX12_wouldBy_147 : decode cX12_wouldBy 147 = .ok (.iconst 1, 1) := by decide +kernel
theorem dX12_wouldBy_148 : decode cX12_wouldBy 148 = .ok (.if_icmp .ne 7, 3) := by decide +kernel
theorem dX12_wouldBy_151 : decode cX12_wouldBy 151 = .ok (.iconst 1, 1) := by decide +kernel
theorem dX12_wouldBy_152 : decode cX12_wouldBy 152 = .ok (.goto 4, 3) := by decide +kernel
theorem dX12_wouldBy_155 : decode cX12_wouldBy 155 = .ok (.iconst 0, 1) := by decide +kernel
theorem dX12_wouldBy_156 : decode cX12_wouldBy 156 = .ok (.ireturn, 1) := by decide +kernel
theorem dX12_wouldBy_157 : decode cX12_wouldBy 157 = .ok (.iconst 0, 1) := by decide +kernel
theorem dX12_wouldBy_158 : decode cX12_wouldBy 158 = .ok (.ireturn, 1) := by decide +kernel
theorem dX12_wouldSet_0 : decode cX12_wouldSet 0 = .ok (.iconst 0, 1) := by decide +kernel
theorem dX12_wouldSet_1 : decode cX12_wouldSet 1 = .ok (.istore_n 3, 1) := by decide +kernel
theorem dX12_wouldSet_2 : decode cX12_wouldSet 2 = .ok (.iconst 0, 1) := by decide +kernel
theorem dX12_wouldSet_3 : decode cX12_wouldSet 3 = .ok (.istore 4, 2) := by decide +kernel
theorem dX12_wouldSet_5 : decode cX12_wouldSet 5 = .ok (.iload 4, 2) := by decide +kernel
theorem dX12_wouldSet_7 : decode cX12_wouldSet 7 = .ok (.aload_n 0, 1) := by decide +kernel
theorem dX12_wouldSet_8 : decode cX12_wouldSet 8 = .ok (.getfield 96, 3) := by decide +kernel
theorem dX12_wouldSet_11 : decode cX12_wouldSet 11 = .ok (.if_icmp .ge 72, 3) := by decide +kernel
theorem dX12_wouldSet_14 : decode cX12_wouldSet 14 = .ok (.iload 4, 2) := by decide +kernel
theorem dX12_wouldSet_16 : decode cX12_wouldSet 16 = .ok (.aload_n 0, 1) := by decide +kernel
theorem dX12_wouldSet_17 : decode cX12_wouldSet 17 = .ok (.getfield 59, 3) := by decide +kernel
theorem dX12_wouldSet_20 : decode cX12_wouldSet 20 = .ok (.if_icmp .ne 31, 3) := by decide +kernel
theorem dX12_wouldSet_23 : decode cX12_wouldSet 23 = .ok (.aload_n 0, 1) := by decide +kernel
theorem dX12_wouldSet_24 : decode cX12_wouldSet 24 = .ok (.getfield 256, 3) := by decide +kernel
theorem dX12_wouldSet_27 : decode cX12_wouldSet 27 = .ok (.iconst 1, 1) := by decide +kernel
theorem dX12_wouldSet_28 : decode cX12_wouldSet 28 = .ok (.if_icmp .ne 19, 3) := by decide +kernel
theorem dX12_wouldSet_31 : decode cX12_wouldSet 31 = .ok (.aload_n 0, 1) := by decide +kernel
theorem dX12_wouldSet_32 : decode cX12_wouldSet 32 = .ok (.getfield 37, 3) := by decide +kernel
theorem dX12_wouldSet_35 : decode cX12_wouldSet 35 = .ok (.iload_n 1, 1) := by decide +kernel
theorem dX12_wouldSet_36 : decode cX12_wouldSet 36 = .ok (.iload 4, 2) := by decide +kernel
theorem dX12_wouldSet_38 : decode cX12_wouldSet 38 = .ok (.iadd, 1) := by decide +kernel
theorem dX12_wouldSet_39 : decode cX12_wouldSet 39 = .ok (.iaload, 1) := by decide +kernel
theorem dX12_wouldSet_40 : decode cX12_wouldSet 40 = .ok (.ifCond .le 7, 3) := by decide +kernel
theorem dX12_wouldSet_43 : decode cX12_wouldSet 43 = .ok (.iconst 1, 1) := by decide +kernel
theorem dX12_wouldSet_44 : decode cX12_wouldSet 44 = .ok (.goto 15, 3) := by decide +kernel
theorem dX12_wouldSet_47 : decode cX12_wouldSet 47 = .ok (.iconst 0, 1) := by decide +kernel
theorem dX12_wouldSet_48 : decode cX12_wouldSet 48 = .ok (.goto 11, 3) := by decide +kernel
theorem dX12_wouldSet_51 : decode cX12_wouldSet 51 = .ok (.aload_n 0, 1) := by decide +kernel
theorem dX12_wouldSet_52 : decode cX12_wouldSet 52 = .ok (.iload_n 1, 1) := by decide +kernel
theorem dX12_wouldSet_53 : decode cX12_wouldSet 53 = .ok (.iload_n 2, 1) := by decide +kernel
theorem dX12_wouldSet_54 : decode cX12_wouldSet 54 = .ok (.iload 4, 2) := by decide +kernel
theorem dX12_wouldSet_56 : decode cX12_wouldSet 56 = .ok (.invokevirtual 259, 3) := by decide +kernel
theorem dX12_wouldSet_59 : decode cX12_wouldSet 59 = .ok (.istore 5, 2) := by decide +kernel
theorem dX12_wouldSet_61 : decode cX12_wouldSet 61 = .ok (.iload_n 3, 1) := by decide +kernel
theorem dX12_wouldSet_62 : decode cX12_wouldSet 62 = .ok (.iload 5, 2) := by decide +kernel
theorem dX12_wouldSet_64 : decode cX12_wouldSet 64 = .ok (.ifCond .eq 10, 3) := by decide +kernel
theorem dX12_wouldSet_67 : decode cX12_wouldSet 67 = .ok (.iconst 1, 1) := by decide +kernel
theorem dX12_wouldSet_68 : decode cX12_wouldSet 68 = .ok (.iload 4, 2) := by decide +kernel
theorem dX12_wouldSet_70 : decode cX12_wouldSet 70 = .ok (.ishl, 1) := by decide +kernel
theorem dX12_wouldSet_71 : decode cX12_wouldSet 71 = .ok (.goto 4, 3) := by decide +kernel
theorem dX12_wouldSet_74 : decode cX12_wouldSet 74 = .ok (.iconst 0, 1) := by decide +kernel
theorem dX12_wouldSet_75 : decode cX12_wouldSet 75 = .ok (.ior, 1) := by decide +kernel
theorem dX12_wouldSet_76 : decode cX12_wouldSet 76 = .ok (.istore_n 3, 1) := by decide +kernel
theorem dX12_wouldSet_77 : decode cX12_wouldSet 77 = .ok (.iinc 4 1, 3) := by decide +kernel
theorem dX12_wouldSet_80 : decode cX12_wouldSet 80 = .ok (.goto (-75), 3) := by decide +kernel
theorem dX12_wouldSet_83 : decode cX12_wouldSet 83 = .ok (.iload_n 3, 1) := by decide +kernel
theorem dX12_wouldSet_84 : decode cX12_wouldSet 84 = .ok (.ireturn, 1) := by decide +kernel
theorem dX12_saySet_0 : decode cX12_saySet 0 = .ok (.aload_n 0, 1) := by decide +kernel
theorem dX12_saySet_1 : decode cX12_saySet 1 = .ok (.iload_n 1, 1) := by decide +kernel
theorem dX12_saySet_2 : decode cX12_saySet 2 = .ok (.iload_n 2, 1) := by decide +kernel
theorem dX12_saySet_3 : decode cX12_saySet 3 = .ok (.invokevirtual 262, 3) := by decide +kernel
theorem dX12_saySet_6 : decode cX12_saySet 6 = .ok (.istore_n 3, 1) := by decide +kernel
theorem dX12_saySet_7 : decode cX12_saySet 7 = .ok (.aload_n 0, 1) := by decide +kernel
theorem dX12_saySet_8 : decode cX12_saySet 8 = .ok (.getfield 28, 3) := by decide +kernel
theorem dX12_saySet_11 : decode cX12_saySet 11 = .ok (.iconst 1, 1) := by decide +kernel
theorem dX12_saySet_12 : decode cX12_saySet 12 = .ok (.iaload, 1) := by decide +kernel
theorem dX12_saySet_13 : decode cX12_saySet 13 = .ok (.ifCond .ne 5, 3) := by decide +kernel
theorem dX12_saySet_16 : decode cX12_saySet 16 = .ok (.iload_n 3, 1) := by decide +kernel
theorem dX12_saySet_17 : decode cX12_saySet 17 = .ok (.ireturn, 1) := by decide +kernel
theorem dX12_saySet_18 : decode cX12_saySet 18 = .ok (.iconst 0, 1) := by decide +kernel
theorem dX12_saySet_19 : decode cX12_saySet 19 = .ok (.istore 4, 2) := by decide +kernel
theorem dX12_saySet_21 : decode cX12_saySet 21 = .ok (.iconst 0, 1) := by decide +kernel
theorem dX12_saySet_22 : decode cX12_saySet 22 = .ok (.istore 5, 2) := by decide +kernel
theorem dX12_saySet_24 : decode cX12_saySet 24 = .ok (.iload 5, 2) := by decide +kernel
theorem dX12_saySet_26 : decode cX12_saySet 26 = .ok (.aload_n 0, 1) := by decide +kernel
theorem dX12_saySet_27 : decode cX12_saySet 27 = .ok (.getfield 28, 3) := by decide +kernel
theorem dX12_saySet_30 : decode cX12_saySet 30 = .ok (.iconst 0, 1) := by decide +kernel
theorem dX12_saySet_31 : decode cX12_saySet 31 = .ok (.iaload, 1) := by decide +kernel
theorem dX12_saySet_32 : decode cX12_saySet 32 = .ok (.if_icmp .ge 114, 3) := by decide +kernel
theorem dX12_saySet_35 : decode cX12_saySet 35 = .ok (.iload_n 3, 1) := by decide +kernel
theorem dX12_saySet_36 : decode cX12_saySet 36 = .ok (.ifCond .eq 110, 3) := by decide +kernel
theorem dX12_saySet_39 : decode cX12_saySet 39 = .ok (.iconst (-1), 1) := by decide +kernel
theorem dX12_saySet_40 : decode cX12_saySet 40 = .ok (.istore 6, 2) := by decide +kernel
theorem dX12_saySet_42 : decode cX12_saySet 42 = .ok (.iconst 0, 1) := by decide +kernel
theorem dX12_saySet_43 : decode cX12_saySet 43 = .ok (.istore 7, 2) := by decide +kernel
theorem dX12_saySet_45 : decode cX12_saySet 45 = .ok (.iload 7, 2) := by decide +kernel
theorem dX12_saySet_47 : decode cX12_saySet 47 = .ok (.aload_n 0, 1) := by decide +kernel
theorem dX12_saySet_48 : decode cX12_saySet 48 = .ok (.getfield 96, 3) := by decide +kernel
theorem dX12_saySet_51 : decode cX12_saySet 51 = .ok (.if_icmp .ge 71, 3) := by decide +kernel
theorem dX12_saySet_54 : decode cX12_saySet 54 = .ok (.iload_n 3, 1) := by decide +kernel
theorem dX12_saySet_55 : decode cX12_saySet 55 = .ok (.iload 7, 2) := by decide +kernel
theorem dX12_saySet_57 : decode cX12_saySet 57 = .ok (.ishr, 1) := by decide +kernel
theorem dX12_saySet_58 : decode cX12_saySet 58 = .ok (.iconst 1, 1) := by decide +kernel
theorem dX12_saySet_59 : decode cX12_saySet 59 = .ok (.iand, 1) := by decide +kernel
theorem dX12_saySet_60 : decode cX12_saySet 60 = .ok (.iconst 1, 1) := by decide +kernel
theorem dX12_saySet_61 : decode cX12_saySet 61 = .ok (.if_icmp .ne 38, 3) := by decide +kernel
theorem dX12_saySet_64 : decode cX12_saySet 64 = .ok (.iload 6, 2) := by decide +kernel
theorem dX12_saySet_66 : decode cX12_saySet 66 = .ok (.ifCond .lt 29, 3) := by decide +kernel
theorem dX12_saySet_69 : decode cX12_saySet 69 = .ok (.aload_n 0, 1) := by decide +kernel
theorem dX12_saySet_70 : decode cX12_saySet 70 = .ok (.getfield 16, 3) := by decide +kernel
theorem dX12_saySet_73 : decode cX12_saySet 73 = .ok (.iload 7, 2) := by decide +kernel
theorem dX12_saySet_75 : decode cX12_saySet 75 = .ok (.iaload, 1) := by decide +kernel
theorem dX12_saySet_76 : decode cX12_saySet 76 = .ok (.aload_n 0, 1) := by decide +kernel
theorem dX12_saySet_77 : decode cX12_saySet 77 = .ok (.getfield 16, 3) := by decide +kernel
theorem dX12_saySet_80 : decode cX12_saySet 80 = .ok (.iload 6, 2) := by decide +kernel
theorem dX12_saySet_82 : decode cX12_saySet 82 = .ok (.ifCond .ge 7, 3) := by decide +kernel
theorem dX12_saySet_85 : decode cX12_saySet 85 = .ok (.iconst 0, 1) := by decide +kernel
theorem dX12_saySet_86 : decode cX12_saySet 86 = .ok (.goto 5, 3) := by decide +kernel
theorem dX12_saySet_89 : decode cX12_saySet 89 = .ok (.iload 6, 2) := by decide +kernel
theorem dX12_saySet_91 : decode cX12_saySet 91 = .ok (.iaload, 1) := by decide +kernel
theorem dX12_saySet_92 : decode cX12_saySet 92 = .ok (.if_icmp .le 7, 3) := by decide +kernel
theorem dX12_saySet_95 : decode cX12_saySet 95 = .ok (.iconst 1, 1) := by decide +kernel
theorem dX12_saySet_96 : decode cX12_saySet 96 = .ok (.goto 4, 3) := by decide +kernel
theorem dX12_saySet_99 : decode cX12_saySet 99 = .ok (.iconst 0, 1) := by decide +kernel
theorem dX12_saySet_100 : decode cX12_saySet 100 = .ok (.istore 8, 2) := by decide +kernel
theorem dX12_saySet_102 : decode cX12_saySet 102 = .ok (.iload 8, 2) := by decide +kernel
theorem dX12_saySet_104 : decode cX12_saySet 104 = .ok (.ifCond .eq 8, 3) := by decide +kernel
theorem dX12_saySet_107 : decode cX12_saySet 107 = .ok (.iload 7, 2) := by decide +kernel
theorem dX12_saySet_109 : decode cX12_saySet 109 = .ok (.goto 5, 3) := by decide +kernel
theorem dX12_saySet_112 : decode cX12_saySet 112 = .ok (.iload 6, 2) := by decide +kernel
theorem dX12_saySet_114 : decode cX12_saySet 114 = .ok (.istore 6, 2) := by decide +kernel
theorem dX12_saySet_116 : decode cX12_saySet 116 = .ok (.iinc 7 1, 3) := by decide +kernel
theorem dX12_saySet_119 : decode cX12_saySet 119 = .ok (.goto (-74), 3) := by decide +kernel
theorem dX12_saySet_122 : decode cX12_saySet 122 = .ok (.iload 4, 2) := by decide +kernel
theorem dX12_saySet_124 : decode cX12_saySet 124 = .ok (.iconst 1, 1) := by decide +kernel
theorem dX12_saySet_125 : decode cX12_saySet 125 = .ok (.iload 6, 2) := by decide +kernel
theorem dX12_saySet_127 : decode cX12_saySet 127 = .ok (.ishl, 1) := by decide +kernel
theorem dX12_saySet_128 : decode cX12_saySet 128 = .ok (.ior, 1) := by decide +kernel
theorem dX12_saySet_129 : decode cX12_saySet 129 = .ok (.istore 4, 2) := by decide +kernel
theorem dX12_saySet_131 : decode cX12_saySet 131 = .ok (.iload_n 3, 1) := by decide +kernel
theorem dX12_saySet_132 : decode cX12_saySet 132 = .ok (.iconst 1, 1) := by decide +kernel
theorem dX12_saySet_133 : decode cX12_saySet 133 = .ok (.iload 6, 2) := by decide +kernel
theorem dX12_saySet_135 : decode cX12_saySet 135 = .ok (.ishl, 1) := by decide +kernel
theorem dX12_saySet_136 : decode cX12_saySet 136 = .ok (.iconst (-1), 1) := by decide +kernel
theorem dX12_saySet_137 : decode cX12_saySet 137 = .ok (.ixor, 1) := by decide +kernel
theorem dX12_saySet_138 : decode cX12_saySet 138 = .ok (.iand, 1) := by decide +kernel
theorem dX12_saySet_139 : decode cX12_saySet 139 = .ok (.istore_n 3, 1) := by decide +kernel
theorem dX12_saySet_140 : decode cX12_saySet 140 = .ok (.iinc 5 1, 3) := by decide +kernel
theorem dX12_saySet_143 : decode cX12_saySet 143 = .ok (.goto (-119), 3) := by decide +kernel
theorem dX12_saySet_146 : decode cX12_saySet 146 = .ok (.iload 4, 2) := by decide +kernel
theorem dX12_saySet_148 : decode cX12_saySet 148 = .ok (.ireturn, 1) := by decide +kernel
theorem dX12_ones_0 : decode cX12_ones 0 = .ok (.iconst 0, 1) := by decide +kernel
theorem dX12_ones_1 : decode cX12_ones 1 = .ok (.istore_n 1, 1) := by decide +kernel
theorem dX12_ones_2 : decode cX12_ones 2 = .ok (.iload_n 0, 1) := by decide +kernel
theorem dX12_ones_3 : decode cX12_ones 3 = .ok (.istore_n 2, 1) := by decide +kernel
theorem dX12_ones_4 : decode cX12_ones 4 = .ok (.iload_n 2, 1) := by decide +kernel
theorem dX12_ones_5 : decode cX12_ones 5 = .ok (.ifCond .eq 15, 3) := by decide +kernel
theorem dX12_ones_8 : decode cX12_ones 8 = .ok (.iinc 1 1, 3) := by decide +kernel
theorem dX12_ones_11 : decode cX12_ones 11 = .ok (.iload_n 2, 1) := by decide +kernel
theorem dX12_ones_12 : decode cX12_ones 12 = .ok (.iload_n 2, 1) := by decide +kernel
theorem dX12_ones_13 : decode cX12_ones 13 = .ok (.iconst 1, 1) := by decide +kernel
theorem dX12_ones_14 : decode cX12_ones 14 = .ok (.isub, 1) := by decide +kernel
theorem dX12_ones_15 : decode cX12_ones 15 = .ok (.iand, 1) := by decide +kernel
theorem dX12_ones_16 : decode cX12_ones 16 = .ok (.istore_n 2, 1) := by decide +kernel
theorem dX12_ones_17 : decode cX12_ones 17 = .ok (.goto (-13), 3) := by decide +kernel
theorem dX12_ones_20 : decode cX12_ones 20 = .ok (.iload_n 1, 1) := by decide +kernel
theorem dX12_ones_21 : decode cX12_ones 21 = .ok (.ireturn, 1) := by decide +kernel
theorem dX12_goes_0 : decode cX12_goes 0 = .ok (.aload_n 0, 1) := by decide +kernel
theorem dX12_goes_1 : decode cX12_goes 1 = .ok (.aload_n 0, 1) := by decide +kernel
theorem dX12_goes_2 : decode cX12_goes 2 = .ok (.iload_n 1, 1) := by decide +kernel
theorem dX12_goes_3 : decode cX12_goes 3 = .ok (.iload_n 3, 1) := by decide +kernel
theorem dX12_goes_4 : decode cX12_goes 4 = .ok (.invokevirtual 265, 3) := by decide +kernel
theorem dX12_goes_7 : decode cX12_goes 7 = .ok (.putfield 268, 3) := by decide +kernel
theorem dX12_goes_10 : decode cX12_goes 10 = .ok (.aload_n 0, 1) := by decide +kernel
theorem dX12_goes_11 : decode cX12_goes 11 = .ok (.getfield 37, 3) := by decide +kernel
theorem dX12_goes_14 : decode cX12_goes 14 = .ok (.iload_n 1, 1) := by decide +kernel
theorem dX12_goes_15 : decode cX12_goes 15 = .ok (.bipush 6, 2) := by decide +kernel
theorem dX12_goes_17 : decode cX12_goes 17 = .ok (.iadd, 1) := by decide +kernel
theorem dX12_goes_18 : decode cX12_goes 18 = .ok (.iaload, 1) := by decide +kernel
theorem dX12_goes_19 : decode cX12_goes 19 = .ok (.istore 4, 2) := by decide +kernel
theorem dX12_goes_21 : decode cX12_goes 21 = .ok (.iconst 0, 1) := by decide +kernel
theorem dX12_goes_22 : decode cX12_goes 22 = .ok (.istore 5, 2) := by decide +kernel
theorem dX12_goes_24 : decode cX12_goes 24 = .ok (.iload 5, 2) := by decide +kernel
theorem dX12_goes_26 : decode cX12_goes 26 = .ok (.aload_n 0, 1) := by decide +kernel
theorem dX12_goes_27 : decode cX12_goes 27 = .ok (.getfield 96, 3) := by decide +kernel
theorem dX12_goes_30 : decode cX12_goes 30 = .ok (.if_icmp .ge 96, 3) := by decide +kernel
theorem dX12_goes_33 : decode cX12_goes 33 = .ok (.aload_n 0, 1) := by decide +kernel
theorem dX12_goes_34 : decode cX12_goes 34 = .ok (.getfield 37, 3) := by decide +kernel
theorem dX12_goes_37 : decode cX12_goes 37 = .ok (.iload_n 1, 1) := by decide +kernel
theorem dX12_goes_38 : decode cX12_goes 38 = .ok (.iload 5, 2) := by decide +kernel
theorem dX12_goes_40 : decode cX12_goes 40 = .ok (.iadd, 1) := by decide +kernel
theorem dX12_goes_41 : decode cX12_goes 41 = .ok (.iaload, 1) := by decide +kernel
theorem dX12_goes_42 : decode cX12_goes 42 = .ok (.aload_n 0, 1) := by decide +kernel
theorem dX12_goes_43 : decode cX12_goes 43 = .ok (.getfield 268, 3) := by decide +kernel
theorem dX12_goes_46 : decode cX12_goes 46 = .ok (.iload 5, 2) := by decide +kernel
theorem dX12_goes_48 : decode cX12_goes 48 = .ok (.ishr, 1) := by decide +kernel
theorem dX12_goes_49 : decode cX12_goes 49 = .ok (.iconst 1, 1) := by decide +kernel
theorem dX12_goes_50 : decode cX12_goes 50 = .ok (.iand, 1) := by decide +kernel
theorem dX12_goes_51 : decode cX12_goes 51 = .ok (.isub, 1) := by decide +kernel
theorem dX12_goes_52 : decode cX12_goes 52 = .ok (.istore 6, 2) := by decide +kernel
theorem dX12_goes_54 : decode cX12_goes 54 = .ok (.aload_n 0, 1) := by decide +kernel
theorem dX12_goes_55 : decode cX12_goes 55 = .ok (.getfield 28, 3) := by decide +kernel
theorem dX12_goes_58 : decode cX12_goes 58 = .ok (.iconst 2, 1) := by decide +kernel
theorem dX12_goes_59 : decode cX12_goes 59 = .ok (.iaload, 1) := by decide +kernel
theorem dX12_goes_60 : decode cX12_goes 60 = .ok (.ifCond .le 32, 3) := by decide +kernel
theorem dX12_goes_63 : decode cX12_goes 63 = .ok (.iload 4, 2) := by decide +kernel
theorem dX12_goes_65 : decode cX12_goes 65 = .ok (.aload_n 0, 1) := by decide +kernel
theorem dX12_goes_66 : decode cX12_goes 66 = .ok (.getfield 28, 3) := by decide +kernel
theorem dX12_goes_69 : decode cX12_goes 69 = .ok (.iconst 2, 1) := by decide +kernel
theorem dX12_goes_70 : decode cX12_goes 70 = .ok (.iaload, 1) := by decide +kernel
theorem dX12_goes_71 : decode cX12_goes 71 = .ok (.ifCond .le 12, 3) := by decide +kernel
theorem dX12_goes_74 : decode cX12_goes 74 = .ok (.aload_n 0, 1) := by decide +kernel
theorem dX12_goes_75 : decode cX12_goes 75 = .ok (.getfield 28, 3) := by decide +kernel
theorem dX12_goes_78 : decode cX12_goes 78 = .ok (.iconst 2, 1) := by decide +kernel
theorem dX12_goes_79 : decode cX12_goes 79 = .ok (.iaload, 1) := by decide +kernel
theorem dX12_goes_80 : decode cX12_goes 80 = .ok (.goto 4, 3) := by decide +kernel
theorem dX12_goes_83 : decode cX12_goes 83 = .ok (.iconst 1, 1) := by decide +kernel
theorem dX12_goes_84 : decode cX12_goes 84 = .ok (.irem, 1) := by decide +kernel
theorem dX12_goes_85 : decode cX12_goes 85 = .ok (.ifCond .ne 7, 3) := by decide +kernel
theorem dX12_goes_88 : decode cX12_goes 88 = .ok (.iconst 1, 1) := by decide +kernel
theorem dX12_goes_89 : decode cX12_goes 89 = .ok (.goto 4, 3) := by decide +kernel
theorem dX12_goes_92 : decode cX12_goes 92 = .ok (.iconst 0, 1) := by decide +kernel
theorem dX12_goes_93 : decode cX12_goes 93 = .ok (.istore 7, 2) := by decide +kernel
theorem dX12_goes_95 : decode cX12_goes 95 = .ok (.aload_n 0, 1) := by decide +kernel
theorem dX12_goes_96 : decode cX12_goes 96 = .ok (.getfield 37, 3) := by decide +kernel
theorem dX12_goes_99 : decode cX12_goes 99 = .ok (.iload_n 2, 1) := by decide +kernel
theorem dX12_goes_100 : decode cX12_goes 100 = .ok (.iload 5, 2) := by decide +kernel
theorem dX12_goes_102 : decode cX12_goes 102 = .ok (.iadd, 1) := by decide +kernel
theorem dX12_goes_103 : decode cX12_goes 103 = .ok (.iload 7, 2) := by decide +kernel
theorem dX12_goes_105 : decode cX12_goes 105 = .ok (.ifCond .eq 12, 3) := by decide +kernel
theorem dX12_goes_108 : decode cX12_goes 108 = .ok (.iload 6, 2) := by decide +kernel
theorem dX12_goes_110 : decode cX12_goes 110 = .ok (.ifCond .ne 7, 3) := by decide +kernel
theorem dX12_goes_113 : decode cX12_goes 113 = .ok (.iconst 1, 1) := by decide +kernel
theorem dX12_goes_114 : decode cX12_goes 114 = .ok (.goto 5, 3) := by decide +kernel
theorem dX12_goes_117 : decode cX12_goes 117 = .ok (.iload 6, 2) := by decide +kernel
theorem dX12_goes_119 : decode cX12_goes 119 = .ok (.iastore, 1) := by decide +kernel
theorem dX12_goes_120 : decode cX12_goes 120 = .ok (.iinc 5 1, 3) := by decide +kernel
theorem dX12_goes_123 : decode cX12_goes 123 = .ok (.goto (-99), 3) := by decide +kernel
theorem dX12_goes_126 : decode cX12_goes 126 = .ok (.aload_n 0, 1) := by decide +kernel
theorem dX12_goes_127 : decode cX12_goes 127 = .ok (.getfield 37, 3) := by decide +kernel
theorem dX12_goes_130 : decode cX12_goes 130 = .ok (.iload_n 2, 1) := by decide +kernel
theorem dX12_goes_131 : decode cX12_goes 131 = .ok (.bipush 6, 2) := by decide +kernel
theorem dX12_goes_133 : decode cX12_goes 133 = .ok (.iadd, 1) := by decide +kernel
theorem dX12_goes_134 : decode cX12_goes 134 = .ok (.iload 4, 2) := by decide +kernel
theorem dX12_goes_136 : decode cX12_goes 136 = .ok (.iconst 1, 1) := by decide +kernel
theorem dX12_goes_137 : decode cX12_goes 137 = .ok (.iadd, 1) := by decide +kernel
theorem dX12_goes_138 : decode cX12_goes 138 = .ok (.iastore, 1) := by decide +kernel
theorem dX12_goes_139 : decode cX12_goes 139 = .ok (.aload_n 0, 1) := by decide +kernel
theorem dX12_goes_140 : decode cX12_goes 140 = .ok (.getfield 268, 3) := by decide +kernel
theorem dX12_goes_143 : decode cX12_goes 143 = .ok (.invokestatic 271, 3) := by decide +kernel
theorem dX12_goes_146 : decode cX12_goes 146 = .ok (.aload_n 0, 1) := by decide +kernel
theorem dX12_goes_147 : decode cX12_goes 147 = .ok (.getfield 28, 3) := by decide +kernel
theorem dX12_goes_150 : decode cX12_goes 150 = .ok (.iconst 0, 1) := by decide +kernel
theorem dX12_goes_151 : decode cX12_goes 151 = .ok (.iaload, 1) := by decide +kernel
theorem dX12_goes_152 : decode cX12_goes 152 = .ok (.if_icmp .lt 7, 3) := by decide +kernel
theorem dX12_goes_155 : decode cX12_goes 155 = .ok (.iconst 1, 1) := by decide +kernel
theorem dX12_goes_156 : decode cX12_goes 156 = .ok (.goto 4, 3) := by decide +kernel
theorem dX12_goes_159 : decode cX12_goes 159 = .ok (.iconst 0, 1) := by decide +kernel
theorem dX12_goes_160 : decode cX12_goes 160 = .ok (.ireturn, 1) := by decide +kernel
theorem dX12_would_0 : decode cX12_would 0 = .ok (.aload_n 0, 1) := by decide +kernel
theorem dX12_would_1 : decode cX12_would 1 = .ok (.iload_n 1, 1) := by decide +kernel
theorem dX12_would_2 : decode cX12_would 2 = .ok (.invokevirtual 241, 3) := by decide +kernel
theorem dX12_would_5 : decode cX12_would 5 = .ok (.ifCond .eq 12, 3) := by decide +kernel
theorem dX12_would_8 : decode cX12_would 8 = .ok (.aload_n 0, 1) := by decide +kernel
theorem dX12_would_9 : decode cX12_would 9 = .ok (.iconst 0, 1) := by decide +kernel
theorem dX12_would_10 : decode cX12_would 10 = .ok (.iload_n 1, 1) := by decide +kernel
theorem dX12_would_11 : decode cX12_would 11 = .ok (.invokevirtual 262, 3) := by decide +kernel
theorem dX12_would_14 : decode cX12_would 14 = .ok (.goto 4, 3) := by decide +kernel
theorem dX12_would_17 : decode cX12_would 17 = .ok (.iconst (-1), 1) := by decide +kernel
theorem dX12_would_18 : decode cX12_would 18 = .ok (.ireturn, 1) := by decide +kernel
theorem dX12_says_0 : decode cX12_says 0 = .ok (.aload_n 0, 1) := by decide +kernel
theorem dX12_says_1 : decode cX12_says 1 = .ok (.iload_n 1, 1) := by decide +kernel
theorem dX12_says_2 : decode cX12_says 2 = .ok (.invokevirtual 241, 3) := by decide +kernel
theorem dX12_says_5 : decode cX12_says 5 = .ok (.ifCond .eq 12, 3) := by decide +kernel
theorem dX12_says_8 : decode cX12_says 8 = .ok (.aload_n 0, 1) := by decide +kernel
theorem dX12_says_9 : decode cX12_says 9 = .ok (.iconst 0, 1) := by decide +kernel
theorem dX12_says_10 : decode cX12_says 10 = .ok (.iload_n 1, 1) := by decide +kernel
theorem dX12_says_11 : decode cX12_says 11 = .ok (.invokevirtual 265, 3) := by decide +kernel
theorem dX12_says_14 : decode cX12_says 14 = .ok (.goto 4, 3) := by decide +kernel
theorem dX12_says_17 : decode cX12_says 17 = .ok (.iconst (-1), 1) := by decide +kernel
theorem dX12_says_18 : decode cX12_says 18 = .ok (.ireturn, 1) := by decide +kernel
theorem dX12_comesNow_0 : decode cX12_comesNow 0 = .ok (.aload_n 0, 1) := by decide +kernel
theorem dX12_comesNow_1 : decode cX12_comesNow 1 = .ok (.iconst 0, 1) := by decide +kernel
theorem dX12_comesNow_2 : decode cX12_comesNow 2 = .ok (.iconst 0, 1) := by decide +kernel
theorem dX12_comesNow_3 : decode cX12_comesNow 3 = .ok (.iload_n 1, 1) := by decide +kernel
theorem dX12_comesNow_4 : decode cX12_comesNow 4 = .ok (.invokevirtual 274, 3) := by decide +kernel
theorem dX12_comesNow_7 : decode cX12_comesNow 7 = .ok (.istore_n 2, 1) := by decide +kernel
theorem dX12_comesNow_8 : decode cX12_comesNow 8 = .ok (.aload_n 0, 1) := by decide +kernel
theorem dX12_comesNow_9 : decode cX12_comesNow 9 = .ok (.dup, 1) := by decide +kernel
theorem dX12_comesNow_10 : decode cX12_comesNow 10 = .ok (.getfield 225, 3) := by decide +kernel
theorem dX12_comesNow_13 : decode cX12_comesNow 13 = .ok (.iload_n 2, 1) := by decide +kernel
theorem dX12_comesNow_14 : decode cX12_comesNow 14 = .ok (.ifCond .eq 7, 3) := by decide +kernel
theorem dX12_comesNow_17 : decode cX12_comesNow 17 = .ok (.iconst 1, 1) := by decide +kernel
theorem dX12_comesNow_18 : decode cX12_comesNow 18 = .ok (.goto 4, 3) := by decide +kernel
theorem dX12_comesNow_21 : decode cX12_comesNow 21 = .ok (.iconst 0, 1) := by decide +kernel
theorem dX12_comesNow_22 : decode cX12_comesNow 22 = .ok (.iadd, 1) := by decide +kernel
theorem dX12_comesNow_23 : decode cX12_comesNow 23 = .ok (.putfield 225, 3) := by decide +kernel
theorem dX12_comesNow_26 : decode cX12_comesNow 26 = .ok (.aload_n 0, 1) := by decide +kernel
theorem dX12_comesNow_27 : decode cX12_comesNow 27 = .ok (.dup, 1) := by decide +kernel
theorem dX12_comesNow_28 : decode cX12_comesNow 28 = .ok (.getfield 228, 3) := by decide +kernel
theorem dX12_comesNow_31 : decode cX12_comesNow 31 = .ok (.iload_n 2, 1) := by decide +kernel
theorem dX12_comesNow_32 : decode cX12_comesNow 32 = .ok (.ifCond .eq 7, 3) := by decide +kernel
theorem dX12_comesNow_35 : decode cX12_comesNow 35 = .ok (.iconst 0, 1) := by decide +kernel
theorem dX12_comesNow_36 : decode cX12_comesNow 36 = .ok (.goto 4, 3) := by decide +kernel
theorem dX12_comesNow_39 : decode cX12_comesNow 39 = .ok (.iconst 1, 1) := by decide +kernel
theorem dX12_comesNow_40 : decode cX12_comesNow 40 = .ok (.iadd, 1) := by decide +kernel
theorem dX12_comesNow_41 : decode cX12_comesNow 41 = .ok (.putfield 228, 3) := by decide +kernel
theorem dX12_comesNow_44 : decode cX12_comesNow 44 = .ok (.iconst 0, 1) := by decide +kernel
theorem dX12_comesNow_45 : decode cX12_comesNow 45 = .ok (.istore_n 3, 1) := by decide +kernel
theorem dX12_comesNow_46 : decode cX12_comesNow 46 = .ok (.iload_n 3, 1) := by decide +kernel
theorem dX12_comesNow_47 : decode cX12_comesNow 47 = .ok (.aload_n 0, 1) := by decide +kernel
theorem dX12_comesNow_48 : decode cX12_comesNow 48 = .ok (.getfield 96, 3) := by decide +kernel
theorem dX12_comesNow_51 : decode cX12_comesNow 51 = .ok (.if_icmp .ge 32, 3) := by decide +kernel
theorem dX12_comesNow_54 : decode cX12_comesNow 54 = .ok (.aload_n 0, 1) := by decide +kernel
theorem dX12_comesNow_55 : decode cX12_comesNow 55 = .ok (.getfield 19, 3) := by decide +kernel
theorem dX12_comesNow_58 : decode cX12_comesNow 58 = .ok (.iload_n 3, 1) := by decide +kernel
theorem dX12_comesNow_59 : decode cX12_comesNow 59 = .ok (.dup2, 1) := by decide +kernel
theorem dX12_comesNow_60 : decode cX12_comesNow 60 = .ok (.iaload, 1) := by decide +kernel
theorem dX12_comesNow_61 : decode cX12_comesNow 61 = .ok (.iload_n 2, 1) := by decide +kernel
theorem dX12_comesNow_62 : decode cX12_comesNow 62 = .ok (.ifCond .eq 7, 3) := by decide +kernel
theorem dX12_comesNow_65 : decode cX12_comesNow 65 = .ok (.iconst 0, 1) := by decide +kernel
theorem dX12_comesNow_66 : decode cX12_comesNow 66 = .ok (.goto 9, 3) := by decide +kernel
theorem dX12_comesNow_69 : decode cX12_comesNow 69 = .ok (.aload_n 0, 1) := by decide +kernel
theorem dX12_comesNow_70 : decode cX12_comesNow 70 = .ok (.iload_n 1, 1) := by decide +kernel
theorem dX12_comesNow_71 : decode cX12_comesNow 71 = .ok (.iload_n 3, 1) := by decide +kernel
theorem dX12_comesNow_72 : decode cX12_comesNow 72 = .ok (.invokevirtual 244, 3) := by decide +kernel
theorem dX12_comesNow_75 : decode cX12_comesNow 75 = .ok (.iadd, 1) := by decide +kernel
theorem dX12_comesNow_76 : decode cX12_comesNow 76 = .ok (.iastore, 1) := by decide +kernel
theorem dX12_comesNow_77 : decode cX12_comesNow 77 = .ok (.iinc 3 1, 3) := by decide +kernel
theorem dX12_comesNow_80 : decode cX12_comesNow 80 = .ok (.goto (-34), 3) := by decide +kernel
theorem dX12_comesNow_83 : decode cX12_comesNow 83 = .ok (.iload_n 2, 1) := by decide +kernel
theorem dX12_comesNow_84 : decode cX12_comesNow 84 = .ok (.ifCond .eq 7, 3) := by decide +kernel
theorem dX12_comesNow_87 : decode cX12_comesNow 87 = .ok (.iconst 1, 1) := by decide +kernel
theorem dX12_comesNow_88 : decode cX12_comesNow 88 = .ok (.goto 4, 3) := by decide +kernel
theorem dX12_comesNow_91 : decode cX12_comesNow 91 = .ok (.iconst 0, 1) := by decide +kernel
theorem dX12_comesNow_92 : decode cX12_comesNow 92 = .ok (.ireturn, 1) := by decide +kernel
theorem dX12_comes_0 : decode cX12_comes 0 = .ok (.aload_n 0, 1) := by decide +kernel
theorem dX12_comes_1 : decode cX12_comes 1 = .ok (.iload_n 1, 1) := by decide +kernel
theorem dX12_comes_2 : decode cX12_comes 2 = .ok (.invokevirtual 241, 3) := by decide +kernel
theorem dX12_comes_5 : decode cX12_comes 5 = .ok (.ifCond .ne 5, 3) := by decide +kernel
theorem dX12_comes_8 : decode cX12_comes 8 = .ok (.iconst (-1), 1) := by decide +kernel
theorem dX12_comes_9 : decode cX12_comes 9 = .ok (.ireturn, 1) := by decide +kernel
theorem dX12_comes_10 : decode cX12_comes 10 = .ok (.aload_n 0, 1) := by decide +kernel
theorem dX12_comes_11 : decode cX12_comes 11 = .ok (.getfield 37, 3) := by decide +kernel
theorem dX12_comes_14 : decode cX12_comes 14 = .ok (.bipush 6, 2) := by decide +kernel
theorem dX12_comes_16 : decode cX12_comes 16 = .ok (.iaload, 1) := by decide +kernel
theorem dX12_comes_17 : decode cX12_comes 17 = .ok (.sipush 999, 3) := by decide +kernel
theorem dX12_comes_20 : decode cX12_comes 20 = .ok (.if_icmp .ne 8, 3) := by decide +kernel
theorem dX12_comes_23 : decode cX12_comes 23 = .ok (.bipush (-4), 2) := by decide +kernel
theorem dX12_comes_25 : decode cX12_comes 25 = .ok (.goto 8, 3) := by decide +kernel
theorem dX12_comes_28 : decode cX12_comes 28 = .ok (.aload_n 0, 1) := by decide +kernel
theorem dX12_comes_29 : decode cX12_comes 29 = .ok (.iload_n 1, 1) := by decide +kernel
theorem dX12_comes_30 : decode cX12_comes 30 = .ok (.invokevirtual 277, 3) := by decide +kernel
theorem dX12_comes_33 : decode cX12_comes 33 = .ok (.ireturn, 1) := by decide +kernel
theorem dX12_weightsInAll_0 : decode cX12_weightsInAll 0 = .ok (.iconst 0, 1) := by decide +kernel
theorem dX12_weightsInAll_1 : decode cX12_weightsInAll 1 = .ok (.istore_n 1, 1) := by decide +kernel
theorem dX12_weightsInAll_2 : decode cX12_weightsInAll 2 = .ok (.iconst 0, 1) := by decide +kernel
theorem dX12_weightsInAll_3 : decode cX12_weightsInAll 3 = .ok (.istore_n 2, 1) := by decide +kernel
theorem dX12_weightsInAll_4 : decode cX12_weightsInAll 4 = .ok (.iload_n 2, 1) := by decide +kernel
theorem dX12_weightsInAll_5 : decode cX12_weightsInAll 5 = .ok (.aload_n 0, 1) := by decide +kernel
theorem dX12_weightsInAll_6 : decode cX12_weightsInAll 6 = .ok (.getfield 103, 3) := by decide +kernel
theorem dX12_weightsInAll_9 : decode cX12_weightsInAll 9 = .ok (.if_icmp .ge 18, 3) := by decide +kernel
theorem dX12_weightsInAll_12 : decode cX12_weightsInAll 12 = .ok (.iload_n 1, 1) := by decide +kernel
theorem dX12_weightsInAll_13 : decode cX12_weightsInAll 13 = .ok (.aload_n 0, 1) := by decide +kernel
theorem dX12_weightsInAll_14 : decode cX12_weightsInAll 14 = .ok (.getfield 22, 3) := by decide +kernel
theorem dX12_weightsInAll_17 : decode cX12_weightsInAll 17 = .ok (.iload_n 2, 1) := by decide +kernel
theorem dX12_weightsInAll_18 : decode cX12_weightsInAll 18 = .ok (.iaload, 1) := by decide +kernel
theorem dX12_weightsInAll_19 : decode cX12_weightsInAll 19 = .ok (.iadd, 1) := by decide +kernel
theorem dX12_weightsInAll_20 : decode cX12_weightsInAll 20 = .ok (.istore_n 1, 1) := by decide +kernel
theorem dX12_weightsInAll_21 : decode cX12_weightsInAll 21 = .ok (.iinc 2 1, 3) := by decide +kernel
theorem dX12_weightsInAll_24 : decode cX12_weightsInAll 24 = .ok (.goto (-20), 3) := by decide +kernel
theorem dX12_weightsInAll_27 : decode cX12_weightsInAll 27 = .ok (.iload_n 1, 1) := by decide +kernel
theorem dX12_weightsInAll_28 : decode cX12_weightsInAll 28 = .ok (.ireturn, 1) := by decide +kernel
theorem dX12_lotOf_0 : decode cX12_lotOf 0 = .ok (.iload_n 1, 1) := by decide +kernel
theorem dX12_lotOf_1 : decode cX12_lotOf 1 = .ok (.bipush 16, 2) := by decide +kernel
theorem dX12_lotOf_3 : decode cX12_lotOf 3 = .ok (.iushr, 1) := by decide +kernel
theorem dX12_lotOf_4 : decode cX12_lotOf 4 = .ok (.iload_n 2, 1) := by decide +kernel
theorem dX12_lotOf_5 : decode cX12_lotOf 5 = .ok (.irem, 1) := by decide +kernel
theorem dX12_lotOf_6 : decode cX12_lotOf 6 = .ok (.istore_n 3, 1) := by decide +kernel
theorem dX12_lotOf_7 : decode cX12_lotOf 7 = .ok (.iconst 0, 1) := by decide +kernel
theorem dX12_lotOf_8 : decode cX12_lotOf 8 = .ok (.istore 4, 2) := by decide +kernel
theorem dX12_lotOf_10 : decode cX12_lotOf 10 = .ok (.iload_n 3, 1) := by decide +kernel
theorem dX12_lotOf_11 : decode cX12_lotOf 11 = .ok (.aload_n 0, 1) := by decide +kernel
theorem dX12_lotOf_12 : decode cX12_lotOf 12 = .ok (.getfield 22, 3) := by decide +kernel
theorem dX12_lotOf_15 : decode cX12_lotOf 15 = .ok (.iload 4, 2) := by decide +kernel
theorem dX12_lotOf_17 : decode cX12_lotOf 17 = .ok (.iaload, 1) := by decide +kernel
theorem dX12_lotOf_18 : decode cX12_lotOf 18 = .ok (.if_icmp .lt 19, 3) := by decide +kernel
theorem dX12_lotOf_21 : decode cX12_lotOf 21 = .ok (.iload_n 3, 1) := by decide +kernel
theorem dX12_lotOf_22 : decode cX12_lotOf 22 = .ok (.aload_n 0, 1) := by decide +kernel
theorem dX12_lotOf_23 : decode cX12_lotOf 23 = .ok (.getfield 22, 3) := by decide +kernel
theorem dX12_lotOf_26 : decode cX12_lotOf 26 = .ok (.iload 4, 2) := by decide +kernel
theorem dX12_lotOf_28 : decode cX12_lotOf 28 = .ok (.iaload, 1) := by decide +kernel
theorem dX12_lotOf_29 : decode cX12_lotOf 29 = .ok (.isub, 1) := by decide +kernel
theorem dX12_lotOf_30 : decode cX12_lotOf 30 = .ok (.istore_n 3, 1) := by decide +kernel
theorem dX12_lotOf_31 : decode cX12_lotOf 31 = .ok (.iinc 4 1, 3) := by decide +kernel
theorem dX12_lotOf_34 : decode cX12_lotOf 34 = .ok (.goto (-24), 3) := by decide +kernel
theorem dX12_lotOf_37 : decode cX12_lotOf 37 = .ok (.iload 4, 2) := by decide +kernel
theorem dX12_lotOf_39 : decode cX12_lotOf 39 = .ok (.ireturn, 1) := by decide +kernel
theorem dX12_next_0 : decode cX12_next 0 = .ok (.iload_n 0, 1) := by decide +kernel
theorem dX12_next_1 : decode cX12_next 1 = .ok (.ldc_w 280, 3) := by decide +kernel
theorem dX12_next_4 : decode cX12_next 4 = .ok (.imul, 1) := by decide +kernel
theorem dX12_next_5 : decode cX12_next 5 = .ok (.sipush 12345, 3) := by decide +kernel
theorem dX12_next_8 : decode cX12_next 8 = .ok (.iadd, 1) := by decide +kernel
theorem dX12_next_9 : decode cX12_next 9 = .ok (.ireturn, 1) := by decide +kernel
theorem dX12_lot_0 : decode cX12_lot 0 = .ok (.aload_n 0, 1) := by decide +kernel
theorem dX12_lot_1 : decode cX12_lot 1 = .ok (.invokevirtual 281, 3) := by decide +kernel
theorem dX12_lot_4 : decode cX12_lot 4 = .ok (.istore_n 1, 1) := by decide +kernel
theorem dX12_lot_5 : decode cX12_lot 5 = .ok (.iload_n 1, 1) := by decide +kernel
theorem dX12_lot_6 : decode cX12_lot 6 = .ok (.ifCond .ne 6, 3) := by decide +kernel
theorem dX12_lot_9 : decode cX12_lot 9 = .ok (.bipush (-3), 2) := by decide +kernel
theorem dX12_lot_11 : decode cX12_lot 11 = .ok (.ireturn, 1) := by decide +kernel
theorem dX12_lot_12 : decode cX12_lot 12 = .ok (.aload_n 0, 1) := by decide +kernel
theorem dX12_lot_13 : decode cX12_lot 13 = .ok (.getfield 37, 3) := by decide +kernel
theorem dX12_lot_16 : decode cX12_lot 16 = .ok (.bipush 6, 2) := by decide +kernel
theorem dX12_lot_18 : decode cX12_lot 18 = .ok (.iaload, 1) := by decide +kernel
theorem dX12_lot_19 : decode cX12_lot 19 = .ok (.sipush 999, 3) := by decide +kernel
theorem dX12_lot_22 : decode cX12_lot 22 = .ok (.if_icmp .ne 6, 3) := by decide +kernel
theorem dX12_lot_25 : decode cX12_lot 25 = .ok (.bipush (-4), 2) := by decide +kernel
theorem dX12_lot_27 : decode cX12_lot 27 = .ok (.ireturn, 1) := by decide +kernel
theorem dX12_lot_28 : decode cX12_lot 28 = .ok (.aload_n 0, 1) := by decide +kernel
theorem dX12_lot_29 : decode cX12_lot 29 = .ok (.aload_n 0, 1) := by decide +kernel
theorem dX12_lot_30 : decode cX12_lot 30 = .ok (.getfield 40, 3) := by decide +kernel
theorem dX12_lot_33 : decode cX12_lot 33 = .ok (.invokestatic 284, 3) := by decide +kernel
theorem dX12_lot_36 : decode cX12_lot 36 = .ok (.putfield 40, 3) := by decide +kernel
theorem dX12_lot_39 : decode cX12_lot 39 = .ok (.aload_n 0, 1) := by decide +kernel
theorem dX12_lot_40 : decode cX12_lot 40 = .ok (.aload_n 0, 1) := by decide +kernel
theorem dX12_lot_41 : decode cX12_lot 41 = .ok (.getfield 40, 3) := by decide +kernel
theorem dX12_lot_44 : decode cX12_lot 44 = .ok (.iload_n 1, 1) := by decide +kernel
theorem dX12_lot_45 : decode cX12_lot 45 = .ok (.invokevirtual 287, 3) := by decide +kernel
theorem dX12_lot_48 : decode cX12_lot 48 = .ok (.istore_n 2, 1) := by decide +kernel
theorem dX12_lot_49 : decode cX12_lot 49 = .ok (.aload_n 0, 1) := by decide +kernel
theorem dX12_lot_50 : decode cX12_lot 50 = .ok (.iload_n 2, 1) := by decide +kernel
theorem dX12_lot_51 : decode cX12_lot 51 = .ok (.invokevirtual 277, 3) := by decide +kernel
theorem dX12_lot_54 : decode cX12_lot 54 = .ok (.pop, 1) := by decide +kernel
theorem dX12_lot_55 : decode cX12_lot 55 = .ok (.iload_n 2, 1) := by decide +kernel
theorem dX12_lot_56 : decode cX12_lot 56 = .ok (.ireturn, 1) := by decide +kernel
theorem dX12_had_0 : decode cX12_had 0 = .ok (.aload_n 0, 1) := by decide +kernel
theorem dX12_had_1 : decode cX12_had 1 = .ok (.iload_n 1, 1) := by decide +kernel
theorem dX12_had_2 : decode cX12_had 2 = .ok (.invokevirtual 238, 3) := by decide +kernel
theorem dX12_had_5 : decode cX12_had 5 = .ok (.ifCond .eq 16, 3) := by decide +kernel
theorem dX12_had_8 : decode cX12_had 8 = .ok (.aload_n 0, 1) := by decide +kernel
theorem dX12_had_9 : decode cX12_had 9 = .ok (.getfield 19, 3) := by decide +kernel
theorem dX12_had_12 : decode cX12_had 12 = .ok (.iload_n 1, 1) := by decide +kernel
theorem dX12_had_13 : decode cX12_had 13 = .ok (.iaload, 1) := by decide +kernel
theorem dX12_had_14 : decode cX12_had 14 = .ok (.ldc_w 290, 3) := by decide +kernel
theorem dX12_had_17 : decode cX12_had 17 = .ok (.iadd, 1) := by decide +kernel
theorem dX12_had_18 : decode cX12_had 18 = .ok (.goto 4, 3) := by decide +kernel
theorem dX12_had_21 : decode cX12_had 21 = .ok (.iconst (-1), 1) := by decide +kernel
theorem dX12_had_22 : decode cX12_had 22 = .ok (.ireturn, 1) := by decide +kernel
theorem dX12_seed_0 : decode cX12_seed 0 = .ok (.aload_n 0, 1) := by decide +kernel
theorem dX12_seed_1 : decode cX12_seed 1 = .ok (.getfield 40, 3) := by decide +kernel
theorem dX12_seed_4 : decode cX12_seed 4 = .ok (.istore_n 2, 1) := by decide +kernel
theorem dX12_seed_5 : decode cX12_seed 5 = .ok (.aload_n 0, 1) := by decide +kernel
theorem dX12_seed_6 : decode cX12_seed 6 = .ok (.iload_n 1, 1) := by decide +kernel
theorem dX12_seed_7 : decode cX12_seed 7 = .ok (.putfield 40, 3) := by decide +kernel
theorem dX12_seed_10 : decode cX12_seed 10 = .ok (.iload_n 2, 1) := by decide +kernel
theorem dX12_seed_11 : decode cX12_seed 11 = .ok (.ireturn, 1) := by decide +kernel
theorem dX12_lowest_0 : decode cX12_lowest 0 = .ok (.lload_n 1, 1) := by decide +kernel
theorem dX12_lowest_1 : decode cX12_lowest 1 = .ok (.lconst 0, 1) := by decide +kernel
theorem dX12_lowest_2 : decode cX12_lowest 2 = .ok (.lcmp, 1) := by decide +kernel
theorem dX12_lowest_3 : decode cX12_lowest 3 = .ok (.ifCond .ge 8, 3) := by decide +kernel
theorem dX12_lowest_6 : decode cX12_lowest 6 = .ok (.lload_n 1, 1) := by decide +kernel
theorem dX12_lowest_7 : decode cX12_lowest 7 = .ok (.lneg, 1) := by decide +kernel
theorem dX12_lowest_8 : decode cX12_lowest 8 = .ok (.goto 4, 3) := by decide +kernel
theorem dX12_lowest_11 : decode cX12_lowest 11 = .ok (.lload_n 1, 1) := by decide +kernel
theorem dX12_lowest_12 : decode cX12_lowest 12 = .ok (.lstore 5, 2) := by decide +kernel
theorem dX12_lowest_14 : decode cX12_lowest 14 = .ok (.lload_n 3, 1) := by decide +kernel
theorem dX12_lowest_15 : decode cX12_lowest 15 = .ok (.lstore 7, 2) := by decide +kernel
theorem dX12_lowest_17 : decode cX12_lowest 17 = .ok (.lload 7, 2) := by decide +kernel
theorem dX12_lowest_19 : decode cX12_lowest 19 = .ok (.lconst 0, 1) := by decide +kernel
theorem dX12_lowest_20 : decode cX12_lowest 20 = .ok (.lcmp, 1) := by decide +kernel
theorem dX12_lowest_21 : decode cX12_lowest 21 = .ok (.ifCond .eq 21, 3) := by decide +kernel
theorem dX12_lowest_24 : decode cX12_lowest 24 = .ok (.lload 5, 2) := by decide +kernel
theorem dX12_lowest_26 : decode cX12_lowest 26 = .ok (.lload 7, 2) := by decide +kernel
theorem dX12_lowest_28 : decode cX12_lowest 28 = .ok (.lrem, 1) := by decide +kernel
theorem dX12_lowest_29 : decode cX12_lowest 29 = .ok (.lstore 9, 2) := by decide +kernel
theorem dX12_lowest_31 : decode cX12_lowest 31 = .ok (.lload 7, 2) := by decide +kernel
theorem dX12_lowest_33 : decode cX12_lowest 33 = .ok (.lstore 5, 2) := by decide +kernel
theorem dX12_lowest_35 : decode cX12_lowest 35 = .ok (.lload 9, 2) := by decide +kernel
theorem dX12_lowest_37 : decode cX12_lowest 37 = .ok (.lstore 7, 2) := by decide +kernel
theorem dX12_lowest_39 : decode cX12_lowest 39 = .ok (.goto (-22), 3) := by decide +kernel
theorem dX12_lowest_42 : decode cX12_lowest 42 = .ok (.aload_n 0, 1) := by decide +kernel
theorem dX12_lowest_43 : decode cX12_lowest 43 = .ok (.lload_n 1, 1) := by decide +kernel
theorem dX12_lowest_44 : decode cX12_lowest 44 = .ok (.lload 5, 2) := by decide +kernel
theorem dX12_lowest_46 : decode cX12_lowest 46 = .ok (.ldiv, 1) := by decide +kernel
theorem dX12_lowest_47 : decode cX12_lowest 47 = .ok (.putfield 291, 3) := by decide +kernel
theorem dX12_lowest_50 : decode cX12_lowest 50 = .ok (.aload_n 0, 1) := by decide +kernel
theorem dX12_lowest_51 : decode cX12_lowest 51 = .ok (.lload_n 3, 1) := by decide +kernel
theorem dX12_lowest_52 : decode cX12_lowest 52 = .ok (.lload 5, 2) := by decide +kernel
theorem dX12_lowest_54 : decode cX12_lowest 54 = .ok (.ldiv, 1) := by decide +kernel
theorem dX12_lowest_55 : decode cX12_lowest 55 = .ok (.putfield 294, 3) := by decide +kernel
theorem dX12_lowest_58 : decode cX12_lowest 58 = .ok (.return_, 1) := by decide +kernel
theorem dX12_power_0 : decode cX12_power 0 = .ok (.lconst 1, 1) := by decide +kernel
theorem dX12_power_1 : decode cX12_power 1 = .ok (.lstore_n 3, 1) := by decide +kernel
theorem dX12_power_2 : decode cX12_power 2 = .ok (.iconst 0, 1) := by decide +kernel
theorem dX12_power_3 : decode cX12_power 3 = .ok (.istore 5, 2) := by decide +kernel
theorem dX12_power_5 : decode cX12_power 5 = .ok (.iload 5, 2) := by decide +kernel
theorem dX12_power_7 : decode cX12_power 7 = .ok (.iload_n 2, 1) := by decide +kernel
theorem dX12_power_8 : decode cX12_power 8 = .ok (.if_icmp .ge 13, 3) := by decide +kernel
theorem dX12_power_11 : decode cX12_power 11 = .ok (.lload_n 3, 1) := by decide +kernel
theorem dX12_power_12 : decode cX12_power 12 = .ok (.lload_n 0, 1) := by decide +kernel
theorem dX12_power_13 : decode cX12_power 13 = .ok (.lmul, 1) := by decide +kernel
theorem dX12_power_14 : decode cX12_power 14 = .ok (.lstore_n 3, 1) := by decide +kernel
theorem dX12_power_15 : decode cX12_power 15 = .ok (.iinc 5 1, 3) := by decide +kernel
theorem dX12_power_18 : decode cX12_power 18 = .ok (.goto (-13), 3) := by decide +kernel
theorem dX12_power_21 : decode cX12_power 21 = .ok (.lload_n 3, 1) := by decide +kernel
theorem dX12_power_22 : decode cX12_power 22 = .ok (.lreturn, 1) := by decide +kernel
theorem dX12_spoiledIn_0 : decode cX12_spoiledIn 0 = .ok (.iconst 0, 1) := by decide +kernel
theorem dX12_spoiledIn_1 : decode cX12_spoiledIn 1 = .ok (.istore_n 2, 1) := by decide +kernel
theorem dX12_spoiledIn_2 : decode cX12_spoiledIn 2 = .ok (.iconst 0, 1) := by decide +kernel
theorem dX12_spoiledIn_3 : decode cX12_spoiledIn 3 = .ok (.istore_n 3, 1) := by decide +kernel
theorem dX12_spoiledIn_4 : decode cX12_spoiledIn 4 = .ok (.iload_n 3, 1) := by decide +kernel
theorem dX12_spoiledIn_5 : decode cX12_spoiledIn 5 = .ok (.aload_n 0, 1) := by decide +kernel
theorem dX12_spoiledIn_6 : decode cX12_spoiledIn 6 = .ok (.getfield 96, 3) := by decide +kernel
theorem dX12_spoiledIn_9 : decode cX12_spoiledIn 9 = .ok (.if_icmp .ge 26, 3) := by decide +kernel
theorem dX12_spoiledIn_12 : decode cX12_spoiledIn 12 = .ok (.iload_n 2, 1) := by decide +kernel
theorem dX12_spoiledIn_13 : decode cX12_spoiledIn 13 = .ok (.aload_n 0, 1) := by decide +kernel
theorem dX12_spoiledIn_14 : decode cX12_spoiledIn 14 = .ok (.iload_n 1, 1) := by decide +kernel
theorem dX12_spoiledIn_15 : decode cX12_spoiledIn 15 = .ok (.iload_n 3, 1) := by decide +kernel
theorem dX12_spoiledIn_16 : decode cX12_spoiledIn 16 = .ok (.invokevirtual 244, 3) := by decide +kernel
theorem dX12_spoiledIn_19 : decode cX12_spoiledIn 19 = .ok (.ifCond .le 7, 3) := by decide +kernel
theorem dX12_spoiledIn_22 : decode cX12_spoiledIn 22 = .ok (.iconst 1, 1) := by decide +kernel
theorem dX12_spoiledIn_23 : decode cX12_spoiledIn 23 = .ok (.goto 4, 3) := by decide +kernel
theorem dX12_spoiledIn_26 : decode cX12_spoiledIn 26 = .ok (.iconst 0, 1) := by decide +kernel
theorem dX12_spoiledIn_27 : decode cX12_spoiledIn 27 = .ok (.iadd, 1) := by decide +kernel
theorem dX12_spoiledIn_28 : decode cX12_spoiledIn 28 = .ok (.istore_n 2, 1) := by decide +kernel
theorem dX12_spoiledIn_29 : decode cX12_spoiledIn 29 = .ok (.iinc 3 1, 3) := by decide +kernel
theorem dX12_spoiledIn_32 : decode cX12_spoiledIn 32 = .ok (.goto (-28), 3) := by decide +kernel
theorem dX12_spoiledIn_35 : decode cX12_spoiledIn 35 = .ok (.aload_n 0, 1) := by decide +kernel
theorem dX12_spoiledIn_36 : decode cX12_spoiledIn 36 = .ok (.getfield 96, 3) := by decide +kernel
theorem dX12_spoiledIn_39 : decode cX12_spoiledIn 39 = .ok (.ifCond .le 17, 3) := by decide +kernel
theorem dX12_spoiledIn_42 : decode cX12_spoiledIn 42 = .ok (.iload_n 2, 1) := by decide +kernel
theorem dX12_spoiledIn_43 : decode cX12_spoiledIn 43 = .ok (.aload_n 0, 1) := by decide +kernel
theorem dX12_spoiledIn_44 : decode cX12_spoiledIn 44 = .ok (.getfield 96, 3) := by decide +kernel
theorem dX12_spoiledIn_47 : decode cX12_spoiledIn 47 = .ok (.iconst 1, 1) := by decide +kernel
theorem dX12_spoiledIn_48 : decode cX12_spoiledIn 48 = .ok (.isub, 1) := by decide +kernel
theorem dX12_spoiledIn_49 : decode cX12_spoiledIn 49 = .ok (.if_icmp .ne 7, 3) := by decide +kernel
theorem dX12_spoiledIn_52 : decode cX12_spoiledIn 52 = .ok (.iconst 1, 1) := by decide +kernel
theorem dX12_spoiledIn_53 : decode cX12_spoiledIn 53 = .ok (.goto 4, 3) := by decide +kernel
theorem dX12_spoiledIn_56 : decode cX12_spoiledIn 56 = .ok (.iconst 0, 1) := by decide +kernel
theorem dX12_spoiledIn_57 : decode cX12_spoiledIn 57 = .ok (.ireturn, 1) := by decide +kernel
theorem dX12_brings_0 : decode cX12_brings 0 = .ok (.iload_n 3, 1) := by decide +kernel
theorem dX12_brings_1 : decode cX12_brings 1 = .ok (.bipush (-2), 2) := by decide +kernel
theorem dX12_brings_3 : decode cX12_brings 3 = .ok (.if_icmp .ne 17, 3) := by decide +kernel
theorem dX12_brings_6 : decode cX12_brings 6 = .ok (.iload_n 2, 1) := by decide +kernel
theorem dX12_brings_7 : decode cX12_brings 7 = .ok (.ifCond .eq 11, 3) := by decide +kernel
theorem dX12_brings_10 : decode cX12_brings 10 = .ok (.aload_n 0, 1) := by decide +kernel
theorem dX12_brings_11 : decode cX12_brings 11 = .ok (.iload_n 1, 1) := by decide +kernel
theorem dX12_brings_12 : decode cX12_brings 12 = .ok (.invokevirtual 297, 3) := by decide +kernel
theorem dX12_brings_15 : decode cX12_brings 15 = .ok (.goto 4, 3) := by decide +kernel
theorem dX12_brings_18 : decode cX12_brings 18 = .ok (.iconst 0, 1) := by decide +kernel
theorem dX12_brings_19 : decode cX12_brings 19 = .ok (.ireturn, 1) := by decide +kernel
theorem dX12_brings_20 : decode cX12_brings 20 = .ok (.iconst 0, 1) := by decide +kernel
theorem dX12_brings_21 : decode cX12_brings 21 = .ok (.istore 4, 2) := by decide +kernel
theorem dX12_brings_23 : decode cX12_brings 23 = .ok (.iconst 0, 1) := by decide +kernel
theorem dX12_brings_24 : decode cX12_brings 24 = .ok (.istore 5, 2) := by decide +kernel
theorem dX12_brings_26 : decode cX12_brings 26 = .ok (.iload 5, 2) := by decide +kernel
theorem dX12_brings_28 : decode cX12_brings 28 = .ok (.aload_n 0, 1) := by decide +kernel
theorem dX12_brings_29 : decode cX12_brings 29 = .ok (.getfield 96, 3) := by decide +kernel
theorem dX12_brings_32 : decode cX12_brings 32 = .ok (.if_icmp .ge 40, 3) := by decide +kernel
theorem dX12_brings_35 : decode cX12_brings 35 = .ok (.iload_n 2, 1) := by decide +kernel
theorem dX12_brings_36 : decode cX12_brings 36 = .ok (.ifCond .ne 36, 3) := by decide +kernel
theorem dX12_brings_39 : decode cX12_brings 39 = .ok (.iload 4, 2) := by decide +kernel
theorem dX12_brings_41 : decode cX12_brings 41 = .ok (.iload_n 3, 1) := by decide +kernel
theorem dX12_brings_42 : decode cX12_brings 42 = .ok (.iconst (-1), 1) := by decide +kernel
theorem dX12_brings_43 : decode cX12_brings 43 = .ok (.if_icmp .eq 9, 3) := by decide +kernel
theorem dX12_brings_46 : decode cX12_brings 46 = .ok (.iload_n 3, 1) := by decide +kernel
theorem dX12_brings_47 : decode cX12_brings 47 = .ok (.iload 5, 2) := by decide +kernel
theorem dX12_brings_49 : decode cX12_brings 49 = .ok (.if_icmp .ne 13, 3) := by decide +kernel
theorem dX12_brings_52 : decode cX12_brings 52 = .ok (.aload_n 0, 1) := by decide +kernel
theorem dX12_brings_53 : decode cX12_brings 53 = .ok (.iload_n 1, 1) := by decide +kernel
theorem dX12_brings_54 : decode cX12_brings 54 = .ok (.iload 5, 2) := by decide +kernel
theorem dX12_brings_56 : decode cX12_brings 56 = .ok (.invokevirtual 244, 3) := by decide +kernel
theorem dX12_brings_59 : decode cX12_brings 59 = .ok (.goto 4, 3) := by decide +kernel
theorem dX12_brings_62 : decode cX12_brings 62 = .ok (.iconst 0, 1) := by decide +kernel
theorem dX12_brings_63 : decode cX12_brings 63 = .ok (.iadd, 1) := by decide +kernel
theorem dX12_brings_64 : decode cX12_brings 64 = .ok (.istore 4, 2) := by decide +kernel
theorem dX12_brings_66 : decode cX12_brings 66 = .ok (.iinc 5 1, 3) := by decide +kernel
theorem dX12_brings_69 : decode cX12_brings 69 = .ok (.goto (-43), 3) := by decide +kernel
theorem dX12_brings_72 : decode cX12_brings 72 = .ok (.iload 4, 2) := by decide +kernel
theorem dX12_brings_74 : decode cX12_brings 74 = .ok (.ireturn, 1) := by decide +kernel
theorem dX12_valueOf_0 : decode cX12_valueOf 0 = .ok (.iconst 1, 1) := by decide +kernel
theorem dX12_valueOf_1 : decode cX12_valueOf 1 = .ok (.istore_n 3, 1) := by decide +kernel
theorem dX12_valueOf_2 : decode cX12_valueOf 2 = .ok (.iconst 0, 1) := by decide +kernel
theorem dX12_valueOf_3 : decode cX12_valueOf 3 = .ok (.istore 4, 2) := by decide +kernel
theorem dX12_valueOf_5 : decode cX12_valueOf 5 = .ok (.iload 4, 2) := by decide +kernel
theorem dX12_valueOf_7 : decode cX12_valueOf 7 = .ok (.iload_n 2, 1) := by decide +kernel
theorem dX12_valueOf_8 : decode cX12_valueOf 8 = .ok (.if_icmp .ge 16, 3) := by decide +kernel
theorem dX12_valueOf_11 : decode cX12_valueOf 11 = .ok (.iload_n 3, 1) := by decide +kernel
theorem dX12_valueOf_12 : decode cX12_valueOf 12 = .ok (.aload_n 0, 1) := by decide +kernel
theorem dX12_valueOf_13 : decode cX12_valueOf 13 = .ok (.getfield 103, 3) := by decide +kernel
theorem dX12_valueOf_16 : decode cX12_valueOf 16 = .ok (.imul, 1) := by decide +kernel
theorem dX12_valueOf_17 : decode cX12_valueOf 17 = .ok (.istore_n 3, 1) := by decide +kernel
theorem dX12_valueOf_18 : decode cX12_valueOf 18 = .ok (.iinc 4 1, 3) := by decide +kernel
theorem dX12_valueOf_21 : decode cX12_valueOf 21 = .ok (.goto (-16), 3) := by decide +kernel
theorem dX12_valueOf_24 : decode cX12_valueOf 24 = .ok (.lconst 0, 1) := by decide +kernel
theorem dX12_valueOf_25 : decode cX12_valueOf 25 = .ok (.lstore 4, 2) := by decide +kernel
theorem dX12_valueOf_27 : decode cX12_valueOf 27 = .ok (.iconst 0, 1) := by decide +kernel
theorem dX12_valueOf_28 : decode cX12_valueOf 28 = .ok (.istore 6, 2) := by decide +kernel
theorem dX12_valueOf_30 : decode cX12_valueOf 30 = .ok (.iload 6, 2) := by decide +kernel
theorem dX12_valueOf_32 : decode cX12_valueOf 32 = .ok (.iload_n 3, 1) := by decide +kernel
theorem dX12_valueOf_33 : decode cX12_valueOf 33 = .ok (.if_icmp .ge 111, 3) := by decide +kernel
theorem dX12_valueOf_36 : decode cX12_valueOf 36 = .ok (.iload 6, 2) := by decide +kernel
theorem dX12_valueOf_38 : decode cX12_valueOf 38 = .ok (.istore 7, 2) := by decide +kernel
theorem dX12_valueOf_40 : decode cX12_valueOf 40 = .ok (.lconst 1, 1) := by decide +kernel
theorem dX12_valueOf_41 : decode cX12_valueOf 41 = .ok (.lstore 8, 2) := by decide +kernel
theorem dX12_valueOf_43 : decode cX12_valueOf 43 = .ok (.iconst 0, 1) := by decide +kernel
theorem dX12_valueOf_44 : decode cX12_valueOf 44 = .ok (.istore 10, 2) := by decide +kernel
theorem dX12_valueOf_46 : decode cX12_valueOf 46 = .ok (.iconst 0, 1) := by decide +kernel
theorem dX12_valueOf_47 : decode cX12_valueOf 47 = .ok (.istore 11, 2) := by decide +kernel
theorem dX12_valueOf_49 : decode cX12_valueOf 49 = .ok (.iload 11, 2) := by decide +kernel
theorem dX12_valueOf_51 : decode cX12_valueOf 51 = .ok (.iload_n 2, 1) := by decide +kernel
theorem dX12_valueOf_52 : decode cX12_valueOf 52 = .ok (.if_icmp .ge 75, 3) := by decide +kernel
theorem dX12_valueOf_55 : decode cX12_valueOf 55 = .ok (.iload 7, 2) := by decide +kernel
theorem dX12_valueOf_57 : decode cX12_valueOf 57 = .ok (.aload_n 0, 1) := by decide +kernel
theorem dX12_valueOf_58 : decode cX12_valueOf 58 = .ok (.getfield 103, 3) := by decide +kernel
theorem dX12_valueOf_61 : decode cX12_valueOf 61 = .ok (.irem, 1) := by decide +kernel
theorem dX12_valueOf_62 : decode cX12_valueOf 62 = .ok (.istore 12, 2) := by decide +kernel
theorem dX12_valueOf_64 : decode cX12_valueOf 64 = .ok (.iload 7, 2) := by decide +kernel
theorem dX12_valueOf_66 : decode cX12_valueOf 66 = .ok (.aload_n 0, 1) := by decide +kernel
theorem dX12_valueOf_67 : decode cX12_valueOf 67 = .ok (.getfield 103, 3) := by decide +kernel
theorem dX12_valueOf_70 : decode cX12_valueOf 70 = .ok (.idiv, 1) := by decide +kernel
theorem dX12_valueOf_71 : decode cX12_valueOf 71 = .ok (.istore 7, 2) := by decide +kernel
theorem dX12_valueOf_73 : decode cX12_valueOf 73 = .ok (.lload 8, 2) := by decide +kernel
theorem dX12_valueOf_75 : decode cX12_valueOf 75 = .ok (.aload_n 0, 1) := by decide +kernel
theorem dX12_valueOf_76 : decode cX12_valueOf 76 = .ok (.getfield 22, 3) := by decide +kernel
theorem dX12_valueOf_79 : decode cX12_valueOf 79 = .ok (.iload 12, 2) := by decide +kernel
theorem dX12_valueOf_81 : decode cX12_valueOf 81 = .ok (.iaload, 1) := by decide +kernel
theorem dX12_valueOf_82 : decode cX12_valueOf 82 = .ok (.i2l, 1) := by decide +kernel
theorem dX12_valueOf_83 : decode cX12_valueOf 83 = .ok (.lmul, 1) := by decide +kernel
theorem dX12_valueOf_84 : decode cX12_valueOf 84 = .ok (.lstore 8, 2) := by decide +kernel
theorem dX12_valueOf_86 : decode cX12_valueOf 86 = .ok (.aload_n 0, 1) := by decide +kernel
theorem dX12_valueOf_87 : decode cX12_valueOf 87 = .ok (.iload 11, 2) := by decide +kernel
theorem dX12_valueOf_89 : decode cX12_valueOf 89 = .ok (.ifCond .ne 7, 3) := by decide +kernel
theorem dX12_valueOf_92 : decode cX12_valueOf 92 = .ok (.iconst 0, 1) := by decide +kernel
theorem dX12_valueOf_93 : decode cX12_valueOf 93 = .ok (.goto 5, 3) := by decide +kernel
theorem dX12_valueOf_96 : decode cX12_valueOf 96 = .ok (.bipush 7, 2) := by decide +kernel
theorem dX12_valueOf_98 : decode cX12_valueOf 98 = .ok (.bipush 7, 2) := by decide +kernel
theorem dX12_valueOf_100 : decode cX12_valueOf 100 = .ok (.iload 12, 2) := by decide +kernel
theorem dX12_valueOf_102 : decode cX12_valueOf 102 = .ok (.invokevirtual 274, 3) := by decide +kernel
theorem dX12_valueOf_105 : decode cX12_valueOf 105 = .ok (.istore 13, 2) := by decide +kernel
theorem dX12_valueOf_107 : decode cX12_valueOf 107 = .ok (.iload 10, 2) := by decide +kernel
theorem dX12_valueOf_109 : decode cX12_valueOf 109 = .ok (.aload_n 0, 1) := by decide +kernel
theorem dX12_valueOf_110 : decode cX12_valueOf 110 = .ok (.iload 12, 2) := by decide +kernel
theorem dX12_valueOf_112 : decode cX12_valueOf 112 = .ok (.iload 13, 2) := by decide +kernel
theorem dX12_valueOf_114 : decode cX12_valueOf 114 = .ok (.iload_n 1, 1) := by decide +kernel
theorem dX12_valueOf_115 : decode cX12_valueOf 115 = .ok (.invokevirtual 300, 3) := by decide +kernel
theorem dX12_valueOf_118 : decode cX12_valueOf 118 = .ok (.iadd, 1) := by decide +kernel
theorem dX12_valueOf_119 : decode cX12_valueOf 119 = .ok (.istore 10, 2) := by decide +kernel
theorem dX12_valueOf_121 : decode cX12_valueOf 121 = .ok (.iinc 11 1, 3) := by decide +kernel
theorem dX12_valueOf_124 : decode cX12_valueOf 124 = .ok (.goto (-75), 3) := by decide +kernel
theorem dX12_valueOf_127 : decode cX12_valueOf 127 = .ok (.lload 4, 2) := by decide +kernel
theorem dX12_valueOf_129 : decode cX12_valueOf 129 = .ok (.lload 8, 2) := by decide +kernel
theorem dX12_valueOf_131 : decode cX12_valueOf 131 = .ok (.iload 10, 2) := by decide +kernel
theorem dX12_valueOf_133 : decode cX12_valueOf 133 = .ok (.i2l, 1) := by decide +kernel
theorem dX12_valueOf_134 : decode cX12_valueOf 134 = .ok (.lmul, 1) := by decide +kernel
theorem dX12_valueOf_135 : decode cX12_valueOf 135 = .ok (.ladd, 1) := by decide +kernel
theorem dX12_valueOf_136 : decode cX12_valueOf 136 = .ok (.lstore 4, 2) := by decide +kernel
theorem dX12_valueOf_138 : decode cX12_valueOf 138 = .ok (.iinc 6 1, 3) := by decide +kernel
theorem dX12_valueOf_141 : decode cX12_valueOf 141 = .ok (.goto (-111), 3) := by decide +kernel
theorem dX12_valueOf_144 : decode cX12_valueOf 144 = .ok (.lload 4, 2) := by decide +kernel
theorem dX12_valueOf_146 : decode cX12_valueOf 146 = .ok (.lreturn, 1) := by decide +kernel
theorem dX12_valueSide_0 : decode cX12_valueSide 0 = .ok (.aload_n 0, 1) := by decide +kernel
theorem dX12_valueSide_1 : decode cX12_valueSide 1 = .ok (.invokevirtual 281, 3) := by decide +kernel
theorem dX12_valueSide_4 : decode cX12_valueSide 4 = .ok (.istore 4, 2) := by decide +kernel
theorem dX12_valueSide_6 : decode cX12_valueSide 6 = .ok (.iload 4, 2) := by decide +kernel
theorem dX12_valueSide_8 : decode cX12_valueSide 8 = .ok (.ifCond .ne 13, 3) := by decide +kernel
theorem dX12_valueSide_11 : decode cX12_valueSide 11 = .ok (.iload_n 3, 1) := by decide +kernel
theorem dX12_valueSide_12 : decode cX12_valueSide 12 = .ok (.ifCond .ne 7, 3) := by decide +kernel
theorem dX12_valueSide_15 : decode cX12_valueSide 15 = .ok (.lconst 0, 1) := by decide +kernel
theorem dX12_valueSide_16 : decode cX12_valueSide 16 = .ok (.goto 4, 3) := by decide +kernel
theorem dX12_valueSide_19 : decode cX12_valueSide 19 = .ok (.lconst 1, 1) := by decide +kernel
theorem dX12_valueSide_20 : decode cX12_valueSide 20 = .ok (.lreturn, 1) := by decide +kernel
theorem dX12_valueSide_21 : decode cX12_valueSide 21 = .ok (.aload_n 0, 1) := by decide +kernel
theorem dX12_valueSide_22 : decode cX12_valueSide 22 = .ok (.aload_n 0, 1) := by decide +kernel
theorem dX12_valueSide_23 : decode cX12_valueSide 23 = .ok (.iload_n 1, 1) := by decide +kernel
theorem dX12_valueSide_24 : decode cX12_valueSide 24 = .ok (.iload_n 2, 1) := by decide +kernel
theorem dX12_valueSide_25 : decode cX12_valueSide 25 = .ok (.invokevirtual 304, 3) := by decide +kernel
theorem dX12_valueSide_28 : decode cX12_valueSide 28 = .ok (.iload 4, 2) := by decide +kernel
theorem dX12_valueSide_30 : decode cX12_valueSide 30 = .ok (.i2l, 1) := by decide +kernel
theorem dX12_valueSide_31 : decode cX12_valueSide 31 = .ok (.iload_n 2, 1) := by decide +kernel
theorem dX12_valueSide_32 : decode cX12_valueSide 32 = .ok (.invokestatic 308, 3) := by decide +kernel
theorem dX12_valueSide_35 : decode cX12_valueSide 35 = .ok (.invokevirtual 312, 3) := by decide +kernel
theorem dX12_valueSide_38 : decode cX12_valueSide 38 = .ok (.iload_n 3, 1) := by decide +kernel
theorem dX12_valueSide_39 : decode cX12_valueSide 39 = .ok (.ifCond .ne 10, 3) := by decide +kernel
theorem dX12_valueSide_42 : decode cX12_valueSide 42 = .ok (.aload_n 0, 1) := by decide +kernel
theorem dX12_valueSide_43 : decode cX12_valueSide 43 = .ok (.getfield 291, 3) := by decide +kernel
theorem dX12_valueSide_46 : decode cX12_valueSide 46 = .ok (.goto 7, 3) := by decide +kernel
theorem dX12_valueSide_49 : decode cX12_valueSide 49 = .ok (.aload_n 0, 1) := by decide +kernel
theorem dX12_valueSide_50 : decode cX12_valueSide 50 = .ok (.getfield 294, 3) := by decide +kernel
theorem dX12_valueSide_53 : decode cX12_valueSide 53 = .ok (.lreturn, 1) := by decide +kernel
theorem dX12_value_0 : decode cX12_value 0 = .ok (.aload_n 0, 1) := by decide +kernel
theorem dX12_value_1 : decode cX12_value 1 = .ok (.iload_n 1, 1) := by decide +kernel
theorem dX12_value_2 : decode cX12_value 2 = .ok (.invokevirtual 238, 3) := by decide +kernel
theorem dX12_value_5 : decode cX12_value 5 = .ok (.ifCond .eq 29, 3) := by decide +kernel
theorem dX12_value_8 : decode cX12_value 8 = .ok (.iload_n 2, 1) := by decide +kernel
theorem dX12_value_9 : decode cX12_value 9 = .ok (.iconst 0, 1) := by decide +kernel
theorem dX12_value_10 : decode cX12_value 10 = .ok (.iconst 3, 1) := by decide +kernel
theorem dX12_value_11 : decode cX12_value 11 = .ok (.invokestatic 99, 3) := by decide +kernel
theorem dX12_value_14 : decode cX12_value 14 = .ok (.ifCond .eq 20, 3) := by decide +kernel
theorem dX12_value_17 : decode cX12_value 17 = .ok (.iload_n 3, 1) := by decide +kernel
theorem dX12_value_18 : decode cX12_value 18 = .ok (.invokestatic 316, 3) := by decide +kernel
theorem dX12_value_21 : decode cX12_value 21 = .ok (.ifCond .eq 13, 3) := by decide +kernel
theorem dX12_value_24 : decode cX12_value 24 = .ok (.aload_n 0, 1) := by decide +kernel
theorem dX12_value_25 : decode cX12_value 25 = .ok (.iload_n 1, 1) := by decide +kernel
theorem dX12_value_26 : decode cX12_value 26 = .ok (.iload_n 2, 1) := by decide +kernel
theorem dX12_value_27 : decode cX12_value 27 = .ok (.iload_n 3, 1) := by decide +kernel
theorem dX12_value_28 : decode cX12_value 28 = .ok (.invokevirtual 319, 3) := by decide +kernel
theorem dX12_value_31 : decode cX12_value 31 = .ok (.goto 6, 3) := by decide +kernel
theorem dX12_value_34 : decode cX12_value 34 = .ok (.ldc2_w 323, 3) := by decide +kernel
theorem dX12_value_37 : decode cX12_value 37 = .ok (.lreturn, 1) := by decide +kernel
theorem dX12_spoilt_0 : decode cX12_spoilt 0 = .ok (.iload_n 1, 1) := by decide +kernel
theorem dX12_spoilt_1 : decode cX12_spoilt 1 = .ok (.iconst 0, 1) := by decide +kernel
theorem dX12_spoilt_2 : decode cX12_spoilt 2 = .ok (.iconst 3, 1) := by decide +kernel
theorem dX12_spoilt_3 : decode cX12_spoilt 3 = .ok (.invokestatic 99, 3) := by decide +kernel
theorem dX12_spoilt_6 : decode cX12_spoilt 6 = .ok (.ifCond .eq 21, 3) := by decide +kernel
theorem dX12_spoilt_9 : decode cX12_spoilt 9 = .ok (.iload_n 2, 1) := by decide +kernel
theorem dX12_spoilt_10 : decode cX12_spoilt 10 = .ok (.invokestatic 316, 3) := by decide +kernel
theorem dX12_spoilt_13 : decode cX12_spoilt 13 = .ok (.ifCond .eq 14, 3) := by decide +kernel
theorem dX12_spoilt_16 : decode cX12_spoilt 16 = .ok (.aload_n 0, 1) := by decide +kernel
theorem dX12_spoilt_17 : decode cX12_spoilt 17 = .ok (.bipush (-2), 2) := by decide +kernel
theorem dX12_spoilt_19 : decode cX12_spoilt 19 = .ok (.iload_n 1, 1) := by decide +kernel
theorem dX12_spoilt_20 : decode cX12_spoilt 20 = .ok (.iload_n 2, 1) := by decide +kernel
theorem dX12_spoilt_21 : decode cX12_spoilt 21 = .ok (.invokevirtual 319, 3) := by decide +kernel
theorem dX12_spoilt_24 : decode cX12_spoilt 24 = .ok (.goto 6, 3) := by decide +kernel
theorem dX12_spoilt_27 : decode cX12_spoilt 27 = .ok (.ldc2_w 142, 3) := by decide +kernel
theorem dX12_spoilt_30 : decode cX12_spoilt 30 = .ok (.lreturn, 1) := by decide +kernel
theorem dX12_hasNow_0 : decode cX12_hasNow 0 = .ok (.aload_n 0, 1) := by decide +kernel
theorem dX12_hasNow_1 : decode cX12_hasNow 1 = .ok (.iload_n 1, 1) := by decide +kernel
theorem dX12_hasNow_2 : decode cX12_hasNow 2 = .ok (.putfield 59, 3) := by decide +kernel
theorem dX12_hasNow_5 : decode cX12_hasNow 5 = .ok (.aload_n 0, 1) := by decide +kernel
theorem dX12_hasNow_6 : decode cX12_hasNow 6 = .ok (.iload 4, 2) := by decide +kernel
theorem dX12_hasNow_8 : decode cX12_hasNow 8 = .ok (.putfield 256, 3) := by decide +kernel
theorem dX12_hasNow_11 : decode cX12_hasNow 11 = .ok (.aload_n 0, 1) := by decide +kernel
theorem dX12_hasNow_12 : decode cX12_hasNow 12 = .ok (.iload_n 2, 1) := by decide +kernel
theorem dX12_hasNow_13 : decode cX12_hasNow 13 = .ok (.iload_n 2, 1) := by decide +kernel
theorem dX12_hasNow_14 : decode cX12_hasNow 14 = .ok (.bipush 7, 2) := by decide +kernel
theorem dX12_hasNow_16 : decode cX12_hasNow 16 = .ok (.iadd, 1) := by decide +kernel
theorem dX12_hasNow_17 : decode cX12_hasNow 17 = .ok (.iload_n 3, 1) := by decide +kernel
theorem dX12_hasNow_18 : decode cX12_hasNow 18 = .ok (.invokevirtual 274, 3) := by decide +kernel
theorem dX12_hasNow_21 : decode cX12_hasNow 21 = .ok (.istore 5, 2) := by decide +kernel
theorem dX12_hasNow_23 : decode cX12_hasNow 23 = .ok (.aload_n 0, 1) := by decide +kernel
theorem dX12_hasNow_24 : decode cX12_hasNow 24 = .ok (.iconst (-1), 1) := by decide +kernel
theorem dX12_hasNow_25 : decode cX12_hasNow 25 = .ok (.putfield 59, 3) := by decide +kernel
theorem dX12_hasNow_28 : decode cX12_hasNow 28 = .ok (.iload 5, 2) := by decide +kernel
theorem dX12_hasNow_30 : decode cX12_hasNow 30 = .ok (.ifCond .eq 7, 3) := by decide +kernel
theorem dX12_hasNow_33 : decode cX12_hasNow 33 = .ok (.lconst 0, 1) := by decide +kernel
theorem dX12_hasNow_34 : decode cX12_hasNow 34 = .ok (.goto 10, 3) := by decide +kernel
theorem dX12_hasNow_37 : decode cX12_hasNow 37 = .ok (.aload_n 0, 1) := by decide +kernel
theorem dX12_hasNow_38 : decode cX12_hasNow 38 = .ok (.iload_n 3, 1) := by decide +kernel
theorem dX12_hasNow_39 : decode cX12_hasNow 39 = .ok (.iload_n 1, 1) := by decide +kernel
theorem dX12_hasNow_40 : decode cX12_hasNow 40 = .ok (.invokevirtual 244, 3) := by decide +kernel
theorem dX12_hasNow_43 : decode cX12_hasNow 43 = .ok (.i2l, 1) := by decide +kernel
theorem dX12_hasNow_44 : decode cX12_hasNow 44 = .ok (.lreturn, 1) := by decide +kernel
theorem dX12_bestOne_0 : decode cX12_bestOne 0 = .ok (.lconst 0, 1) := by decide +kernel
theorem dX12_bestOne_1 : decode cX12_bestOne 1 = .ok (.lstore_n 3, 1) := by decide +kernel
theorem dX12_bestOne_2 : decode cX12_bestOne 2 = .ok (.iconst 0, 1) := by decide +kernel
theorem dX12_bestOne_3 : decode cX12_bestOne 3 = .ok (.istore 5, 2) := by decide +kernel
theorem dX12_bestOne_5 : decode cX12_bestOne 5 = .ok (.iload 5, 2) := by decide +kernel
theorem dX12_bestOne_7 : decode cX12_bestOne 7 = .ok (.aload_n 0, 1) := by decide +kernel
theorem dX12_bestOne_8 : decode cX12_bestOne 8 = .ok (.getfield 103, 3) := by decide +kernel
theorem dX12_bestOne_11 : decode cX12_bestOne 11 = .ok (.if_icmp .ge 58, 3) := by decide +kernel
theorem dX12_bestOne_14 : decode cX12_bestOne 14 = .ok (.aload_n 0, 1) := by decide +kernel
theorem dX12_bestOne_15 : decode cX12_bestOne 15 = .ok (.iload_n 1, 1) := by decide +kernel
theorem dX12_bestOne_16 : decode cX12_bestOne 16 = .ok (.iload_n 2, 1) := by decide +kernel
theorem dX12_bestOne_17 : decode cX12_bestOne 17 = .ok (.iload 5, 2) := by decide +kernel
theorem dX12_bestOne_19 : decode cX12_bestOne 19 = .ok (.iconst 1, 1) := by decide +kernel
theorem dX12_bestOne_20 : decode cX12_bestOne 20 = .ok (.invokevirtual 325, 3) := by decide +kernel
theorem dX12_bestOne_23 : decode cX12_bestOne 23 = .ok (.lstore 6, 2) := by decide +kernel
theorem dX12_bestOne_25 : decode cX12_bestOne 25 = .ok (.aload_n 0, 1) := by decide +kernel
theorem dX12_bestOne_26 : decode cX12_bestOne 26 = .ok (.iload_n 1, 1) := by decide +kernel
theorem dX12_bestOne_27 : decode cX12_bestOne 27 = .ok (.iload_n 2, 1) := by decide +kernel
theorem dX12_bestOne_28 : decode cX12_bestOne 28 = .ok (.iload 5, 2) := by decide +kernel
theorem dX12_bestOne_30 : decode cX12_bestOne 30 = .ok (.iconst 0, 1) := by decide +kernel
theorem dX12_bestOne_31 : decode cX12_bestOne 31 = .ok (.invokevirtual 325, 3) := by decide +kernel
theorem dX12_bestOne_34 : decode cX12_bestOne 34 = .ok (.lstore 8, 2) := by decide +kernel
theorem dX12_bestOne_36 : decode cX12_bestOne 36 = .ok (.lload_n 3, 1) := by decide +kernel
theorem dX12_bestOne_37 : decode cX12_bestOne 37 = .ok (.aload_n 0, 1) := by decide +kernel
theorem dX12_bestOne_38 : decode cX12_bestOne 38 = .ok (.getfield 22, 3) := by decide +kernel
theorem dX12_bestOne_41 : decode cX12_bestOne 41 = .ok (.iload 5, 2) := by decide +kernel
theorem dX12_bestOne_43 : decode cX12_bestOne 43 = .ok (.iaload, 1) := by decide +kernel
theorem dX12_bestOne_44 : decode cX12_bestOne 44 = .ok (.i2l, 1) := by decide +kernel
theorem dX12_bestOne_45 : decode cX12_bestOne 45 = .ok (.lload 6, 2) := by decide +kernel
theorem dX12_bestOne_47 : decode cX12_bestOne 47 = .ok (.lload 8, 2) := by decide +kernel
theorem dX12_bestOne_49 : decode cX12_bestOne 49 = .ok (.lcmp, 1) := by decide +kernel
theorem dX12_bestOne_50 : decode cX12_bestOne 50 = .ok (.ifCond .le 8, 3) := by decide +kernel
theorem dX12_bestOne_53 : decode cX12_bestOne 53 = .ok (.lload 6, 2) := by decide +kernel
theorem dX12_bestOne_55 : decode cX12_bestOne 55 = .ok (.goto 5, 3) := by decide +kernel
theorem dX12_bestOne_58 : decode cX12_bestOne 58 = .ok (.lload 8, 2) := by decide +kernel
theorem dX12_bestOne_60 : decode cX12_bestOne 60 = .ok (.lmul, 1) := by decide +kernel
theorem dX12_bestOne_61 : decode cX12_bestOne 61 = .ok (.ladd, 1) := by decide +kernel
theorem dX12_bestOne_62 : decode cX12_bestOne 62 = .ok (.lstore_n 3, 1) := by decide +kernel
theorem dX12_bestOne_63 : decode cX12_bestOne 63 = .ok (.iinc 5 1, 3) := by decide +kernel
theorem dX12_bestOne_66 : decode cX12_bestOne 66 = .ok (.goto (-61), 3) := by decide +kernel
theorem dX12_bestOne_69 : decode cX12_bestOne 69 = .ok (.lload_n 3, 1) := by decide +kernel
theorem dX12_bestOne_70 : decode cX12_bestOne 70 = .ok (.lreturn, 1) := by decide +kernel
theorem dX12_bestTwo_0 : decode cX12_bestTwo 0 = .ok (.lconst 0, 1) := by decide +kernel
theorem dX12_bestTwo_1 : decode cX12_bestTwo 1 = .ok (.lstore 4, 2) := by decide +kernel
theorem dX12_bestTwo_3 : decode cX12_bestTwo 3 = .ok (.iconst 0, 1) := by decide +kernel
theorem dX12_bestTwo_4 : decode cX12_bestTwo 4 = .ok (.istore 6, 2) := by decide +kernel
theorem dX12_bestTwo_6 : decode cX12_bestTwo 6 = .ok (.iload 6, 2) := by decide +kernel
theorem dX12_bestTwo_8 : decode cX12_bestTwo 8 = .ok (.aload_n 0, 1) := by decide +kernel
theorem dX12_bestTwo_9 : decode cX12_bestTwo 9 = .ok (.getfield 103, 3) := by decide +kernel
theorem dX12_bestTwo_12 : decode cX12_bestTwo 12 = .ok (.if_icmp .ge 94, 3) := by decide +kernel
theorem dX12_bestTwo_15 : decode cX12_bestTwo 15 = .ok (.aload_n 0, 1) := by decide +kernel
theorem dX12_bestTwo_16 : decode cX12_bestTwo 16 = .ok (.iload_n 1, 1) := by decide +kernel
theorem dX12_bestTwo_17 : decode cX12_bestTwo 17 = .ok (.iload_n 2, 1) := by decide +kernel
theorem dX12_bestTwo_18 : decode cX12_bestTwo 18 = .ok (.iload 6, 2) := by decide +kernel
theorem dX12_bestTwo_20 : decode cX12_bestTwo 20 = .ok (.iconst 1, 1) := by decide +kernel
theorem dX12_bestTwo_21 : decode cX12_bestTwo 21 = .ok (.invokevirtual 325, 3) := by decide +kernel
theorem dX12_bestTwo_24 : decode cX12_bestTwo 24 = .ok (.iload_n 3, 1) := by decide +kernel
theorem dX12_bestTwo_25 : decode cX12_bestTwo 25 = .ok (.i2l, 1) := by decide +kernel
theorem dX12_bestTwo_26 : decode cX12_bestTwo 26 = .ok (.lmul, 1) := by decide +kernel
theorem dX12_bestTwo_27 : decode cX12_bestTwo 27 = .ok (.lstore 7, 2) := by decide +kernel
theorem dX12_bestTwo_29 : decode cX12_bestTwo 29 = .ok (.lload 7, 2) := by decide +kernel
theorem dX12_bestTwo_31 : decode cX12_bestTwo 31 = .ok (.aload_n 0, 1) := by decide +kernel
theorem dX12_bestTwo_32 : decode cX12_bestTwo 32 = .ok (.iload_n 1, 1) := by decide +kernel
theorem dX12_bestTwo_33 : decode cX12_bestTwo 33 = .ok (.iload_n 2, 1) := by decide +kernel
theorem dX12_bestTwo_34 : decode cX12_bestTwo 34 = .ok (.bipush 7, 2) := by decide +kernel
theorem dX12_bestTwo_36 : decode cX12_bestTwo 36 = .ok (.iadd, 1) := by decide +kernel
theorem dX12_bestTwo_37 : decode cX12_bestTwo 37 = .ok (.invokevirtual 329, 3) := by decide +kernel
theorem dX12_bestTwo_40 : decode cX12_bestTwo 40 = .ok (.ladd, 1) := by decide +kernel
theorem dX12_bestTwo_41 : decode cX12_bestTwo 41 = .ok (.lstore 7, 2) := by decide +kernel
theorem dX12_bestTwo_43 : decode cX12_bestTwo 43 = .ok (.aload_n 0, 1) := by decide +kernel
theorem dX12_bestTwo_44 : decode cX12_bestTwo 44 = .ok (.iload_n 1, 1) := by decide +kernel
theorem dX12_bestTwo_45 : decode cX12_bestTwo 45 = .ok (.iload_n 2, 1) := by decide +kernel
theorem dX12_bestTwo_46 : decode cX12_bestTwo 46 = .ok (.iload 6, 2) := by decide +kernel
theorem dX12_bestTwo_48 : decode cX12_bestTwo 48 = .ok (.iconst 0, 1) := by decide +kernel
theorem dX12_bestTwo_49 : decode cX12_bestTwo 49 = .ok (.invokevirtual 325, 3) := by decide +kernel
theorem dX12_bestTwo_52 : decode cX12_bestTwo 52 = .ok (.iload_n 3, 1) := by decide +kernel
theorem dX12_bestTwo_53 : decode cX12_bestTwo 53 = .ok (.i2l, 1) := by decide +kernel
theorem dX12_bestTwo_54 : decode cX12_bestTwo 54 = .ok (.lmul, 1) := by decide +kernel
theorem dX12_bestTwo_55 : decode cX12_bestTwo 55 = .ok (.lstore 9, 2) := by decide +kernel
theorem dX12_bestTwo_57 : decode cX12_bestTwo 57 = .ok (.lload 9, 2) := by decide +kernel
theorem dX12_bestTwo_59 : decode cX12_bestTwo 59 = .ok (.aload_n 0, 1) := by decide +kernel
theorem dX12_bestTwo_60 : decode cX12_bestTwo 60 = .ok (.iload_n 1, 1) := by decide +kernel
theorem dX12_bestTwo_61 : decode cX12_bestTwo 61 = .ok (.iload_n 2, 1) := by decide +kernel
theorem dX12_bestTwo_62 : decode cX12_bestTwo 62 = .ok (.bipush 7, 2) := by decide +kernel
theorem dX12_bestTwo_64 : decode cX12_bestTwo 64 = .ok (.iadd, 1) := by decide +kernel
theorem dX12_bestTwo_65 : decode cX12_bestTwo 65 = .ok (.invokevirtual 329, 3) := by decide +kernel
theorem dX12_bestTwo_68 : decode cX12_bestTwo 68 = .ok (.ladd, 1) := by decide +kernel
theorem dX12_bestTwo_69 : decode cX12_bestTwo 69 = .ok (.lstore 9, 2) := by decide +kernel
theorem dX12_bestTwo_71 : decode cX12_bestTwo 71 = .ok (.lload 4, 2) := by decide +kernel
theorem dX12_bestTwo_73 : decode cX12_bestTwo 73 = .ok (.aload_n 0, 1) := by decide +kernel
theorem dX12_bestTwo_74 : decode cX12_bestTwo 74 = .ok (.getfield 22, 3) := by decide +kernel
theorem dX12_bestTwo_77 : decode cX12_bestTwo 77 = .ok (.iload 6, 2) := by decide +kernel
theorem dX12_bestTwo_79 : decode cX12_bestTwo 79 = .ok (.iaload, 1) := by decide +kernel
theorem dX12_bestTwo_80 : decode cX12_bestTwo 80 = .ok (.i2l, 1) := by decide +kernel
theorem dX12_bestTwo_81 : decode cX12_bestTwo 81 = .ok (.lload 7, 2) := by decide +kernel
theorem dX12_bestTwo_83 : decode cX12_bestTwo 83 = .ok (.lload 9, 2) := by decide +kernel
theorem dX12_bestTwo_85 : decode cX12_bestTwo 85 = .ok (.lcmp, 1) := by decide +kernel
theorem dX12_bestTwo_86 : decode cX12_bestTwo 86 = .ok (.ifCond .le 8, 3) := by decide +kernel
theorem dX12_bestTwo_89 : decode cX12_bestTwo 89 = .ok (.lload 7, 2) := by decide +kernel
theorem dX12_bestTwo_91 : decode cX12_bestTwo 91 = .ok (.goto 5, 3) := by decide +kernel
theorem dX12_bestTwo_94 : decode cX12_bestTwo 94 = .ok (.lload 9, 2) := by decide +kernel
theorem dX12_bestTwo_96 : decode cX12_bestTwo 96 = .ok (.lmul, 1) := by decide +kernel
theorem dX12_bestTwo_97 : decode cX12_bestTwo 97 = .ok (.ladd, 1) := by decide +kernel
theorem dX12_bestTwo_98 : decode cX12_bestTwo 98 = .ok (.lstore 4, 2) := by decide +kernel
theorem dX12_bestTwo_100 : decode cX12_bestTwo 100 = .ok (.iinc 6 1, 3) := by decide +kernel
theorem dX12_bestTwo_103 : decode cX12_bestTwo 103 = .ok (.goto (-97), 3) := by decide +kernel
theorem dX12_bestTwo_106 : decode cX12_bestTwo 106 = .ok (.lload 4, 2) := by decide +kernel
theorem dX12_bestTwo_108 : decode cX12_bestTwo 108 = .ok (.lreturn, 1) := by decide +kernel
theorem dX12_bestThree_0 : decode cX12_bestThree 0 = .ok (.lconst 0, 1) := by decide +kernel
theorem dX12_bestThree_1 : decode cX12_bestThree 1 = .ok (.lstore 4, 2) := by decide +kernel
theorem dX12_bestThree_3 : decode cX12_bestThree 3 = .ok (.iconst 0, 1) := by decide +kernel
theorem dX12_bestThree_4 : decode cX12_bestThree 4 = .ok (.istore 6, 2) := by decide +kernel
theorem dX12_bestThree_6 : decode cX12_bestThree 6 = .ok (.iload 6, 2) := by decide +kernel
theorem dX12_bestThree_8 : decode cX12_bestThree 8 = .ok (.aload_n 0, 1) := by decide +kernel
theorem dX12_bestThree_9 : decode cX12_bestThree 9 = .ok (.getfield 103, 3) := by decide +kernel
theorem dX12_bestThree_12 : decode cX12_bestThree 12 = .ok (.if_icmp .ge 102, 3) := by decide +kernel
theorem dX12_bestThree_15 : decode cX12_bestThree 15 = .ok (.aload_n 0, 1) := by decide +kernel
theorem dX12_bestThree_16 : decode cX12_bestThree 16 = .ok (.iload_n 1, 1) := by decide +kernel
theorem dX12_bestThree_17 : decode cX12_bestThree 17 = .ok (.iload_n 2, 1) := by decide +kernel
theorem dX12_bestThree_18 : decode cX12_bestThree 18 = .ok (.iload 6, 2) := by decide +kernel
theorem dX12_bestThree_20 : decode cX12_bestThree 20 = .ok (.iconst 1, 1) := by decide +kernel
theorem dX12_bestThree_21 : decode cX12_bestThree 21 = .ok (.invokevirtual 325, 3) := by decide +kernel
theorem dX12_bestThree_24 : decode cX12_bestThree 24 = .ok (.iload_n 3, 1) := by decide +kernel
theorem dX12_bestThree_25 : decode cX12_bestThree 25 = .ok (.i2l, 1) := by decide +kernel
theorem dX12_bestThree_26 : decode cX12_bestThree 26 = .ok (.lmul, 1) := by decide +kernel
theorem dX12_bestThree_27 : decode cX12_bestThree 27 = .ok (.iload_n 3, 1) := by decide +kernel
theorem dX12_bestThree_28 : decode cX12_bestThree 28 = .ok (.i2l, 1) := by decide +kernel
theorem dX12_bestThree_29 : decode cX12_bestThree 29 = .ok (.lmul, 1) := by decide +kernel
theorem dX12_bestThree_30 : decode cX12_bestThree 30 = .ok (.lstore 7, 2) := by decide +kernel
theorem dX12_bestThree_32 : decode cX12_bestThree 32 = .ok (.lload 7, 2) := by decide +kernel
theorem dX12_bestThree_34 : decode cX12_bestThree 34 = .ok (.aload_n 0, 1) := by decide +kernel
theorem dX12_bestThree_35 : decode cX12_bestThree 35 = .ok (.iload_n 1, 1) := by decide +kernel
theorem dX12_bestThree_36 : decode cX12_bestThree 36 = .ok (.iload_n 2, 1) := by decide +kernel
theorem dX12_bestThree_37 : decode cX12_bestThree 37 = .ok (.bipush 7, 2) := by decide +kernel
theorem dX12_bestThree_39 : decode cX12_bestThree 39 = .ok (.iadd, 1) := by decide +kernel
theorem dX12_bestThree_40 : decode cX12_bestThree 40 = .ok (.iload_n 3, 1) := by decide +kernel
theorem dX12_bestThree_41 : decode cX12_bestThree 41 = .ok (.invokevirtual 332, 3) := by decide +kernel
theorem dX12_bestThree_44 : decode cX12_bestThree 44 = .ok (.ladd, 1) := by decide +kernel
theorem dX12_bestThree_45 : decode cX12_bestThree 45 = .ok (.lstore 7, 2) := by decide +kernel
theorem dX12_bestThree_47 : decode cX12_bestThree 47 = .ok (.aload_n 0, 1) := by decide +kernel
theorem dX12_bestThree_48 : decode cX12_bestThree 48 = .ok (.iload_n 1, 1) := by decide +kernel
theorem dX12_bestThree_49 : decode cX12_bestThree 49 = .ok (.iload_n 2, 1) := by decide +kernel
theorem dX12_bestThree_50 : decode cX12_bestThree 50 = .ok (.iload 6, 2) := by decide +kernel
theorem dX12_bestThree_52 : decode cX12_bestThree 52 = .ok (.iconst 0, 1) := by decide +kernel
theorem dX12_bestThree_53 : decode cX12_bestThree 53 = .ok (.invokevirtual 325, 3) := by decide +kernel
theorem dX12_bestThree_56 : decode cX12_bestThree 56 = .ok (.iload_n 3, 1) := by decide +kernel
theorem dX12_bestThree_57 : decode cX12_bestThree 57 = .ok (.i2l, 1) := by decide +kernel
theorem dX12_bestThree_58 : decode cX12_bestThree 58 = .ok (.lmul, 1) := by decide +kernel
theorem dX12_bestThree_59 : decode cX12_bestThree 59 = .ok (.iload_n 3, 1) := by decide +kernel
theorem dX12_bestThree_60 : decode cX12_bestThree 60 = .ok (.i2l, 1) := by decide +kernel
theorem dX12_bestThree_61 : decode cX12_bestThree 61 = .ok (.lmul, 1) := by decide +kernel
theorem dX12_bestThree_62 : decode cX12_bestThree 62 = .ok (.lstore 9, 2) := by decide +kernel
theorem dX12_bestThree_64 : decode cX12_bestThree 64 = .ok (.lload 9, 2) := by decide +kernel
theorem dX12_bestThree_66 : decode cX12_bestThree 66 = .ok (.aload_n 0, 1) := by decide +kernel
theorem dX12_bestThree_67 : decode cX12_bestThree 67 = .ok (.iload_n 1, 1) := by decide +kernel
theorem dX12_bestThree_68 : decode cX12_bestThree 68 = .ok (.iload_n 2, 1) := by decide +kernel
theorem dX12_bestThree_69 : decode cX12_bestThree 69 = .ok (.bipush 7, 2) := by decide +kernel
theorem dX12_bestThree_71 : decode cX12_bestThree 71 = .ok (.iadd, 1) := by decide +kernel
theorem dX12_bestThree_72 : decode cX12_bestThree 72 = .ok (.iload_n 3, 1) := by decide +kernel
theorem dX12_bestThree_73 : decode cX12_bestThree 73 = .ok (.invokevirtual 332, 3) := by decide +kernel
theorem dX12_bestThree_76 : decode cX12_bestThree 76 = .ok (.ladd, 1) := by decide +kernel
theorem dX12_bestThree_77 : decode cX12_bestThree 77 = .ok (.lstore 9, 2) := by decide +kernel
theorem dX12_bestThree_79 : decode cX12_bestThree 79 = .ok (.lload 4, 2) := by decide +kernel
theorem dX12_bestThree_81 : decode cX12_bestThree 81 = .ok (.aload_n 0, 1) := by decide +kernel
theorem dX12_bestThree_82 : decode cX12_bestThree 82 = .ok (.getfield 22, 3) := by decide +kernel
theorem dX12_bestThree_85 : decode cX12_bestThree 85 = .ok (.iload 6, 2) := by decide +kernel
theorem dX12_bestThree_87 : decode cX12_bestThree 87 = .ok (.iaload, 1) := by decide +kernel
theorem dX12_bestThree_88 : decode cX12_bestThree 88 = .ok (.i2l, 1) := by decide +kernel
theorem dX12_bestThree_89 : decode cX12_bestThree 89 = .ok (.lload 7, 2) := by decide +kernel
theorem dX12_bestThree_91 : decode cX12_bestThree 91 = .ok (.lload 9, 2) := by decide +kernel
theorem dX12_bestThree_93 : decode cX12_bestThree 93 = .ok (.lcmp, 1) := by decide +kernel
theorem dX12_bestThree_94 : decode cX12_bestThree 94 = .ok (.ifCond .le 8, 3) := by decide +kernel
theorem dX12_bestThree_97 : decode cX12_bestThree 97 = .ok (.lload 7, 2) := by decide +kernel
theorem dX12_bestThree_99 : decode cX12_bestThree 99 = .ok (.goto 5, 3) := by decide +kernel
theorem dX12_bestThree_102 : decode cX12_bestThree 102 = .ok (.lload 9, 2) := by decide +kernel
theorem dX12_bestThree_104 : decode cX12_bestThree 104 = .ok (.lmul, 1) := by decide +kernel
theorem dX12_bestThree_105 : decode cX12_bestThree 105 = .ok (.ladd, 1) := by decide +kernel
theorem dX12_bestThree_106 : decode cX12_bestThree 106 = .ok (.lstore 4, 2) := by decide +kernel
theorem dX12_bestThree_108 : decode cX12_bestThree 108 = .ok (.iinc 6 1, 3) := by decide +kernel
theorem dX12_bestThree_111 : decode cX12_bestThree 111 = .ok (.goto (-105), 3) := by decide +kernel
theorem dX12_bestThree_114 : decode cX12_bestThree 114 = .ok (.lload 4, 2) := by decide +kernel
theorem dX12_bestThree_116 : decode cX12_bestThree 116 = .ok (.lreturn, 1) := by decide +kernel
theorem dX12_bestBy_0 : decode cX12_bestBy 0 = .ok (.iload_n 3, 1) := by decide +kernel
theorem dX12_bestBy_1 : decode cX12_bestBy 1 = .ok (.ifCond .eq 8, 3) := by decide +kernel
theorem dX12_bestBy_4 : decode cX12_bestBy 4 = .ok (.iload 4, 2) := by decide +kernel
theorem dX12_bestBy_6 : decode cX12_bestBy 6 = .ok (.ifCond .ne 7, 3) := by decide +kernel
theorem dX12_bestBy_9 : decode cX12_bestBy 9 = .ok (.lconst 0, 1) := by decide +kernel
theorem dX12_bestBy_10 : decode cX12_bestBy 10 = .ok (.goto 41, 3) := by decide +kernel
theorem dX12_bestBy_13 : decode cX12_bestBy 13 = .ok (.iload_n 3, 1) := by decide +kernel
theorem dX12_bestBy_14 : decode cX12_bestBy 14 = .ok (.iconst 1, 1) := by decide +kernel
theorem dX12_bestBy_15 : decode cX12_bestBy 15 = .ok (.if_icmp .ne 12, 3) := by decide +kernel
theorem dX12_bestBy_18 : decode cX12_bestBy 18 = .ok (.aload_n 0, 1) := by decide +kernel
theorem dX12_bestBy_19 : decode cX12_bestBy 19 = .ok (.iload_n 1, 1) := by decide +kernel
theorem dX12_bestBy_20 : decode cX12_bestBy 20 = .ok (.iload_n 2, 1) := by decide +kernel
theorem dX12_bestBy_21 : decode cX12_bestBy 21 = .ok (.invokevirtual 329, 3) := by decide +kernel
theorem dX12_bestBy_24 : decode cX12_bestBy 24 = .ok (.goto 27, 3) := by decide +kernel
theorem dX12_bestBy_27 : decode cX12_bestBy 27 = .ok (.iload_n 3, 1) := by decide +kernel
theorem dX12_bestBy_28 : decode cX12_bestBy 28 = .ok (.iconst 2, 1) := by decide +kernel
theorem dX12_bestBy_29 : decode cX12_bestBy 29 = .ok (.if_icmp .ne 14, 3) := by decide +kernel
theorem dX12_bestBy_32 : decode cX12_bestBy 32 = .ok (.aload_n 0, 1) := by decide +kernel
theorem dX12_bestBy_33 : decode cX12_bestBy 33 = .ok (.iload_n 1, 1) := by decide +kernel
theorem dX12_bestBy_34 : decode cX12_bestBy 34 = .ok (.iload_n 2, 1) := by decide +kernel
theorem dX12_bestBy_35 : decode cX12_bestBy 35 = .ok (.iload 4, 2) := by decide +kernel
theorem dX12_bestBy_37 : decode cX12_bestBy 37 = .ok (.invokevirtual 332, 3) := by decide +kernel
theorem dX12_bestBy_40 : decode cX12_bestBy 40 = .ok (.goto 11, 3) := by decide +kernel
theorem dX12_bestBy_43 : decode cX12_bestBy 43 = .ok (.aload_n 0, 1) := by decide +kernel
theorem dX12_bestBy_44 : decode cX12_bestBy 44 = .ok (.iload_n 1, 1) := by decide +kernel
theorem dX12_bestBy_45 : decode cX12_bestBy 45 = .ok (.iload_n 2, 1) := by decide +kernel
theorem dX12_bestBy_46 : decode cX12_bestBy 46 = .ok (.iload 4, 2) := by decide +kernel
theorem dX12_bestBy_48 : decode cX12_bestBy 48 = .ok (.invokevirtual 335, 3) := by decide +kernel
theorem dX12_bestBy_51 : decode cX12_bestBy 51 = .ok (.lreturn, 1) := by decide +kernel
theorem dX12_best_0 : decode cX12_best 0 = .ok (.aload_n 0, 1) := by decide +kernel
theorem dX12_best_1 : decode cX12_best 1 = .ok (.iload_n 1, 1) := by decide +kernel
theorem dX12_best_2 : decode cX12_best 2 = .ok (.invokevirtual 238, 3) := by decide +kernel
theorem dX12_best_5 : decode cX12_best 5 = .ok (.ifCond .eq 19, 3) := by decide +kernel
theorem dX12_best_8 : decode cX12_best 8 = .ok (.iload_n 2, 1) := by decide +kernel
theorem dX12_best_9 : decode cX12_best 9 = .ok (.iconst 0, 1) := by decide +kernel
theorem dX12_best_10 : decode cX12_best 10 = .ok (.iconst 3, 1) := by decide +kernel
theorem dX12_best_11 : decode cX12_best 11 = .ok (.invokestatic 99, 3) := by decide +kernel
theorem dX12_best_14 : decode cX12_best 14 = .ok (.ifCond .eq 10, 3) := by decide +kernel
theorem dX12_best_17 : decode cX12_best 17 = .ok (.iload_n 3, 1) := by decide +kernel
theorem dX12_best_18 : decode cX12_best 18 = .ok (.invokestatic 316, 3) := by decide +kernel
theorem dX12_best_21 : decode cX12_best 21 = .ok (.ifCond .ne 7, 3) := by decide +kernel
theorem dX12_best_24 : decode cX12_best 24 = .ok (.ldc2_w 323, 3) := by decide +kernel
theorem dX12_best_27 : decode cX12_best 27 = .ok (.lreturn, 1) := by decide +kernel
theorem dX12_best_28 : decode cX12_best 28 = .ok (.aload_n 0, 1) := by decide +kernel
theorem dX12_best_29 : decode cX12_best 29 = .ok (.invokevirtual 281, 3) := by decide +kernel
theorem dX12_best_32 : decode cX12_best 32 = .ok (.istore 4, 2) := by decide +kernel
theorem dX12_best_34 : decode cX12_best 34 = .ok (.iload 4, 2) := by decide +kernel
theorem dX12_best_36 : decode cX12_best 36 = .ok (.ifCond .ne 13, 3) := by decide +kernel
theorem dX12_best_39 : decode cX12_best 39 = .ok (.iload_n 3, 1) := by decide +kernel
theorem dX12_best_40 : decode cX12_best 40 = .ok (.ifCond .ne 7, 3) := by decide +kernel
theorem dX12_best_43 : decode cX12_best 43 = .ok (.lconst 0, 1) := by decide +kernel
theorem dX12_best_44 : decode cX12_best 44 = .ok (.goto 4, 3) := by decide +kernel
theorem dX12_best_47 : decode cX12_best 47 = .ok (.lconst 1, 1) := by decide +kernel
theorem dX12_best_48 : decode cX12_best 48 = .ok (.lreturn, 1) := by decide +kernel
theorem dX12_best_49 : decode cX12_best 49 = .ok (.aload_n 0, 1) := by decide +kernel
theorem dX12_best_50 : decode cX12_best 50 = .ok (.aload_n 0, 1) := by decide +kernel
theorem dX12_best_51 : decode cX12_best 51 = .ok (.iload_n 1, 1) := by decide +kernel
theorem dX12_best_52 : decode cX12_best 52 = .ok (.iconst 0, 1) := by decide +kernel
theorem dX12_best_53 : decode cX12_best 53 = .ok (.iload_n 2, 1) := by decide +kernel
theorem dX12_best_54 : decode cX12_best 54 = .ok (.iload 4, 2) := by decide +kernel
theorem dX12_best_56 : decode cX12_best 56 = .ok (.invokevirtual 338, 3) := by decide +kernel
theorem dX12_best_59 : decode cX12_best 59 = .ok (.iload 4, 2) := by decide +kernel
theorem dX12_best_61 : decode cX12_best 61 = .ok (.i2l, 1) := by decide +kernel
theorem dX12_best_62 : decode cX12_best 62 = .ok (.iload_n 2, 1) := by decide +kernel
theorem dX12_best_63 : decode cX12_best 63 = .ok (.invokestatic 308, 3) := by decide +kernel
theorem dX12_best_66 : decode cX12_best 66 = .ok (.invokevirtual 312, 3) := by decide +kernel
theorem dX12_best_69 : decode cX12_best 69 = .ok (.iload_n 3, 1) := by decide +kernel
theorem dX12_best_70 : decode cX12_best 70 = .ok (.ifCond .ne 10, 3) := by decide +kernel
theorem dX12_best_73 : decode cX12_best 73 = .ok (.aload_n 0, 1) := by decide +kernel
theorem dX12_best_74 : decode cX12_best 74 = .ok (.getfield 291, 3) := by decide +kernel
theorem dX12_best_77 : decode cX12_best 77 = .ok (.goto 7, 3) := by decide +kernel
theorem dX12_best_80 : decode cX12_best 80 = .ok (.aload_n 0, 1) := by decide +kernel
theorem dX12_best_81 : decode cX12_best 81 = .ok (.getfield 294, 3) := by decide +kernel
theorem dX12_best_84 : decode cX12_best 84 = .ok (.lreturn, 1) := by decide +kernel
theorem dX12_should_0 : decode cX12_should 0 = .ok (.aload_n 0, 1) := by decide +kernel
theorem dX12_should_1 : decode cX12_should 1 = .ok (.iload_n 1, 1) := by decide +kernel
theorem dX12_should_2 : decode cX12_should 2 = .ok (.invokevirtual 238, 3) := by decide +kernel
theorem dX12_should_5 : decode cX12_should 5 = .ok (.ifCond .eq 20, 3) := by decide +kernel
theorem dX12_should_8 : decode cX12_should 8 = .ok (.aload_n 0, 1) := by decide +kernel
theorem dX12_should_9 : decode cX12_should 9 = .ok (.iload_n 2, 1) := by decide +kernel
theorem dX12_should_10 : decode cX12_should 10 = .ok (.invokevirtual 241, 3) := by decide +kernel
theorem dX12_should_13 : decode cX12_should 13 = .ok (.ifCond .eq 12, 3) := by decide +kernel
theorem dX12_should_16 : decode cX12_should 16 = .ok (.iload_n 3, 1) := by decide +kernel
theorem dX12_should_17 : decode cX12_should 17 = .ok (.iconst 0, 1) := by decide +kernel
theorem dX12_should_18 : decode cX12_should 18 = .ok (.iconst 2, 1) := by decide +kernel
theorem dX12_should_19 : decode cX12_should 19 = .ok (.invokestatic 99, 3) := by decide +kernel
theorem dX12_should_22 : decode cX12_should 22 = .ok (.ifCond .ne 5, 3) := by decide +kernel
theorem dX12_should_25 : decode cX12_should 25 = .ok (.iconst (-1), 1) := by decide +kernel
theorem dX12_should_26 : decode cX12_should 26 = .ok (.ireturn, 1) := by decide +kernel
theorem dX12_should_27 : decode cX12_should 27 = .ok (.aload_n 0, 1) := by decide +kernel
theorem dX12_should_28 : decode cX12_should 28 = .ok (.getfield 37, 3) := by decide +kernel
theorem dX12_should_31 : decode cX12_should 31 = .ok (.iload_n 1, 1) := by decide +kernel
theorem dX12_should_32 : decode cX12_should 32 = .ok (.iaload, 1) := by decide +kernel
theorem dX12_should_33 : decode cX12_should 33 = .ok (.ifCond .ne 6, 3) := by decide +kernel
theorem dX12_should_36 : decode cX12_should 36 = .ok (.bipush (-3), 2) := by decide +kernel
theorem dX12_should_38 : decode cX12_should 38 = .ok (.ireturn, 1) := by decide +kernel
theorem dX12_should_39 : decode cX12_should 39 = .ok (.aload_n 0, 1) := by decide +kernel
theorem dX12_should_40 : decode cX12_should 40 = .ok (.invokevirtual 281, 3) := by decide +kernel
theorem dX12_should_43 : decode cX12_should 43 = .ok (.istore 4, 2) := by decide +kernel
theorem dX12_should_45 : decode cX12_should 45 = .ok (.iload 4, 2) := by decide +kernel
theorem dX12_should_47 : decode cX12_should 47 = .ok (.ifCond .ne 7, 3) := by decide +kernel
theorem dX12_should_50 : decode cX12_should 50 = .ok (.lconst 1, 1) := by decide +kernel
theorem dX12_should_51 : decode cX12_should 51 = .ok (.goto 10, 3) := by decide +kernel
theorem dX12_should_54 : decode cX12_should 54 = .ok (.iload 4, 2) := by decide +kernel
theorem dX12_should_56 : decode cX12_should 56 = .ok (.i2l, 1) := by decide +kernel
theorem dX12_should_57 : decode cX12_should 57 = .ok (.iload_n 3, 1) := by decide +kernel
theorem dX12_should_58 : decode cX12_should 58 = .ok (.invokestatic 308, 3) := by decide +kernel
theorem dX12_should_61 : decode cX12_should 61 = .ok (.lstore 5, 2) := by decide +kernel
theorem dX12_should_63 : decode cX12_should 63 = .ok (.aload_n 0, 1) := by decide +kernel
theorem dX12_should_64 : decode cX12_should 64 = .ok (.iload_n 1, 1) := by decide +kernel
theorem dX12_should_65 : decode cX12_should 65 = .ok (.iconst 0, 1) := by decide +kernel
theorem dX12_should_66 : decode cX12_should 66 = .ok (.iload_n 2, 1) := by decide +kernel
theorem dX12_should_67 : decode cX12_should 67 = .ok (.iconst 1, 1) := by decide +kernel
theorem dX12_should_68 : decode cX12_should 68 = .ok (.invokevirtual 325, 3) := by decide +kernel
theorem dX12_should_71 : decode cX12_should 71 = .ok (.lload 5, 2) := by decide +kernel
theorem dX12_should_73 : decode cX12_should 73 = .ok (.lmul, 1) := by decide +kernel
theorem dX12_should_74 : decode cX12_should 74 = .ok (.lstore 7, 2) := by decide +kernel
theorem dX12_should_76 : decode cX12_should 76 = .ok (.lload 7, 2) := by decide +kernel
theorem dX12_should_78 : decode cX12_should 78 = .ok (.aload_n 0, 1) := by decide +kernel
theorem dX12_should_79 : decode cX12_should 79 = .ok (.iload_n 1, 1) := by decide +kernel
theorem dX12_should_80 : decode cX12_should 80 = .ok (.bipush 7, 2) := by decide +kernel
theorem dX12_should_82 : decode cX12_should 82 = .ok (.iload_n 3, 1) := by decide +kernel
theorem dX12_should_83 : decode cX12_should 83 = .ok (.iload 4, 2) := by decide +kernel
theorem dX12_should_85 : decode cX12_should 85 = .ok (.invokevirtual 338, 3) := by decide +kernel
theorem dX12_should_88 : decode cX12_should 88 = .ok (.ladd, 1) := by decide +kernel
theorem dX12_should_89 : decode cX12_should 89 = .ok (.lstore 7, 2) := by decide +kernel
theorem dX12_should_91 : decode cX12_should 91 = .ok (.aload_n 0, 1) := by decide +kernel
theorem dX12_should_92 : decode cX12_should 92 = .ok (.iload_n 1, 1) := by decide +kernel
theorem dX12_should_93 : decode cX12_should 93 = .ok (.iconst 0, 1) := by decide +kernel
theorem dX12_should_94 : decode cX12_should 94 = .ok (.iload_n 2, 1) := by decide +kernel
theorem dX12_should_95 : decode cX12_should 95 = .ok (.iconst 0, 1) := by decide +kernel
theorem dX12_should_96 : decode cX12_should 96 = .ok (.invokevirtual 325, 3) := by decide +kernel
theorem dX12_should_99 : decode cX12_should 99 = .ok (.lload 5, 2) := by decide +kernel
theorem dX12_should_101 : decode cX12_should 101 = .ok (.lmul, 1) := by decide +kernel
theorem dX12_should_102 : decode cX12_should 102 = .ok (.lstore 9, 2) := by decide +kernel
theorem dX12_should_104 : decode cX12_should 104 = .ok (.lload 9, 2) := by decide +kernel
theorem dX12_should_106 : decode cX12_should 106 = .ok (.aload_n 0, 1) := by decide +kernel
theorem dX12_should_107 : decode cX12_should 107 = .ok (.iload_n 1, 1) := by decide +kernel
theorem dX12_should_108 : decode cX12_should 108 = .ok (.bipush 7, 2) := by decide +kernel
theorem dX12_should_110 : decode cX12_should 110 = .ok (.iload_n 3, 1) := by decide +kernel
theorem dX12_should_111 : decode cX12_should 111 = .ok (.iload 4, 2) := by decide +kernel
theorem dX12_should_113 : decode cX12_should 113 = .ok (.invokevirtual 338, 3) := by decide +kernel
theorem dX12_should_116 : decode cX12_should 116 = .ok (.ladd, 1) := by decide +kernel
theorem dX12_should_117 : decode cX12_should 117 = .ok (.lstore 9, 2) := by decide +kernel
theorem dX12_should_119 : decode cX12_should 119 = .ok (.lload 7, 2) := by decide +kernel
theorem dX12_should_121 : decode cX12_should 121 = .ok (.lload 9, 2) := by decide +kernel
theorem dX12_should_123 : decode cX12_should 123 = .ok (.lcmp, 1) := by decide +kernel
theorem dX12_should_124 : decode cX12_should 124 = .ok (.ifCond .le 7, 3) := by decide +kernel
theorem dX12_should_127 : decode cX12_should 127 = .ok (.iconst 1, 1) := by decide +kernel
theorem dX12_should_128 : decode cX12_should 128 = .ok (.goto 4, 3) := by decide +kernel
theorem dX12_should_131 : decode cX12_should 131 = .ok (.iconst 0, 1) := by decide +kernel
theorem dX12_should_132 : decode cX12_should 132 = .ok (.ireturn, 1) := by decide +kernel
theorem dX12_barOf_0 : decode cX12_barOf 0 = .ok (.aload_n 0, 1) := by decide +kernel
theorem dX12_barOf_1 : decode cX12_barOf 1 = .ok (.iload_n 1, 1) := by decide +kernel
theorem dX12_barOf_2 : decode cX12_barOf 2 = .ok (.invokevirtual 238, 3) := by decide +kernel
theorem dX12_barOf_5 : decode cX12_barOf 5 = .ok (.ifCond .eq 12, 3) := by decide +kernel
theorem dX12_barOf_8 : decode cX12_barOf 8 = .ok (.iload_n 2, 1) := by decide +kernel
theorem dX12_barOf_9 : decode cX12_barOf 9 = .ok (.iconst 1, 1) := by decide +kernel
theorem dX12_barOf_10 : decode cX12_barOf 10 = .ok (.iconst 2, 1) := by decide +kernel
theorem dX12_barOf_11 : decode cX12_barOf 11 = .ok (.invokestatic 99, 3) := by decide +kernel
theorem dX12_barOf_14 : decode cX12_barOf 14 = .ok (.ifCond .ne 5, 3) := by decide +kernel
theorem dX12_barOf_17 : decode cX12_barOf 17 = .ok (.iconst (-1), 1) := by decide +kernel
theorem dX12_barOf_18 : decode cX12_barOf 18 = .ok (.ireturn, 1) := by decide +kernel
theorem dX12_barOf_19 : decode cX12_barOf 19 = .ok (.aload_n 0, 1) := by decide +kernel
theorem dX12_barOf_20 : decode cX12_barOf 20 = .ok (.getfield 7, 3) := by decide +kernel
theorem dX12_barOf_23 : decode cX12_barOf 23 = .ok (.iload_n 1, 1) := by decide +kernel
theorem dX12_barOf_24 : decode cX12_barOf 24 = .ok (.iaload, 1) := by decide +kernel
theorem dX12_barOf_25 : decode cX12_barOf 25 = .ok (.istore_n 3, 1) := by decide +kernel
theorem dX12_barOf_26 : decode cX12_barOf 26 = .ok (.aload_n 0, 1) := by decide +kernel
theorem dX12_barOf_27 : decode cX12_barOf 27 = .ok (.getfield 13, 3) := by decide +kernel
theorem dX12_barOf_30 : decode cX12_barOf 30 = .ok (.iload_n 1, 1) := by decide +kernel
theorem dX12_barOf_31 : decode cX12_barOf 31 = .ok (.iaload, 1) := by decide +kernel
theorem dX12_barOf_32 : decode cX12_barOf 32 = .ok (.istore 4, 2) := by decide +kernel
theorem dX12_barOf_34 : decode cX12_barOf 34 = .ok (.aload_n 0, 1) := by decide +kernel
theorem dX12_barOf_35 : decode cX12_barOf 35 = .ok (.getfield 7, 3) := by decide +kernel
theorem dX12_barOf_38 : decode cX12_barOf 38 = .ok (.iload_n 1, 1) := by decide +kernel
theorem dX12_barOf_39 : decode cX12_barOf 39 = .ok (.iconst 2, 1) := by decide +kernel
theorem dX12_barOf_40 : decode cX12_barOf 40 = .ok (.iastore, 1) := by decide +kernel
theorem dX12_barOf_41 : decode cX12_barOf 41 = .ok (.iconst 0, 1) := by decide +kernel
theorem dX12_barOf_42 : decode cX12_barOf 42 = .ok (.istore 5, 2) := by decide +kernel
theorem dX12_barOf_44 : decode cX12_barOf 44 = .ok (.lconst 0, 1) := by decide +kernel
theorem dX12_barOf_45 : decode cX12_barOf 45 = .ok (.lstore 6, 2) := by decide +kernel
theorem dX12_barOf_47 : decode cX12_barOf 47 = .ok (.iconst 0, 1) := by decide +kernel
theorem dX12_barOf_48 : decode cX12_barOf 48 = .ok (.istore 8, 2) := by decide +kernel
theorem dX12_barOf_50 : decode cX12_barOf 50 = .ok (.iload 8, 2) := by decide +kernel
theorem dX12_barOf_52 : decode cX12_barOf 52 = .ok (.bipush 10, 2) := by decide +kernel
theorem dX12_barOf_54 : decode cX12_barOf 54 = .ok (.if_icmp .ge 57, 3) := by decide +kernel
theorem dX12_barOf_57 : decode cX12_barOf 57 = .ok (.aload_n 0, 1) := by decide +kernel
theorem dX12_barOf_58 : decode cX12_barOf 58 = .ok (.getfield 13, 3) := by decide +kernel
theorem dX12_barOf_61 : decode cX12_barOf 61 = .ok (.iload_n 1, 1) := by decide +kernel
theorem dX12_barOf_62 : decode cX12_barOf 62 = .ok (.iload 8, 2) := by decide +kernel
theorem dX12_barOf_64 : decode cX12_barOf 64 = .ok (.iastore, 1) := by decide +kernel
theorem dX12_barOf_65 : decode cX12_barOf 65 = .ok (.aload_n 0, 1) := by decide +kernel
theorem dX12_barOf_66 : decode cX12_barOf 66 = .ok (.invokevirtual 281, 3) := by decide +kernel
theorem dX12_barOf_69 : decode cX12_barOf 69 = .ok (.ifCond .ne 7, 3) := by decide +kernel
theorem dX12_barOf_72 : decode cX12_barOf 72 = .ok (.lconst 0, 1) := by decide +kernel
theorem dX12_barOf_73 : decode cX12_barOf 73 = .ok (.goto 9, 3) := by decide +kernel
theorem dX12_barOf_76 : decode cX12_barOf 76 = .ok (.aload_n 0, 1) := by decide +kernel
theorem dX12_barOf_77 : decode cX12_barOf 77 = .ok (.iload_n 1, 1) := by decide +kernel
theorem dX12_barOf_78 : decode cX12_barOf 78 = .ok (.iload_n 2, 1) := by decide +kernel
theorem dX12_barOf_79 : decode cX12_barOf 79 = .ok (.invokevirtual 304, 3) := by decide +kernel
theorem dX12_barOf_82 : decode cX12_barOf 82 = .ok (.lstore 9, 2) := by decide +kernel
theorem dX12_barOf_84 : decode cX12_barOf 84 = .ok (.iload 8, 2) := by decide +kernel
theorem dX12_barOf_86 : decode cX12_barOf 86 = .ok (.ifCond .eq 11, 3) := by decide +kernel
theorem dX12_barOf_89 : decode cX12_barOf 89 = .ok (.lload 9, 2) := by decide +kernel
theorem dX12_barOf_91 : decode cX12_barOf 91 = .ok (.lload 6, 2) := by decide +kernel
theorem dX12_barOf_93 : decode cX12_barOf 93 = .ok (.lcmp, 1) := by decide +kernel
theorem dX12_barOf_94 : decode cX12_barOf 94 = .ok (.ifCond .le 11, 3) := by decide +kernel
theorem dX12_barOf_97 : decode cX12_barOf 97 = .ok (.lload 9, 2) := by decide +kernel
theorem dX12_barOf_99 : decode cX12_barOf 99 = .ok (.lstore 6, 2) := by decide +kernel
theorem dX12_barOf_101 : decode cX12_barOf 101 = .ok (.iload 8, 2) := by decide +kernel
theorem dX12_barOf_103 : decode cX12_barOf 103 = .ok (.istore 5, 2) := by decide +kernel
theorem dX12_barOf_105 : decode cX12_barOf 105 = .ok (.iinc 8 1, 3) := by decide +kernel
theorem dX12_barOf_108 : decode cX12_barOf 108 = .ok (.goto (-58), 3) := by decide +kernel
theorem dX12_barOf_111 : decode cX12_barOf 111 = .ok (.aload_n 0, 1) := by decide +kernel
theorem dX12_barOf_112 : decode cX12_barOf 112 = .ok (.getfield 7, 3) := by decide +kernel
theorem dX12_barOf_115 : decode cX12_barOf 115 = .ok (.iload_n 1, 1) := by decide +kernel
theorem dX12_barOf_116 : decode cX12_barOf 116 = .ok (.iload_n 3, 1) := by decide +kernel
theorem dX12_barOf_117 : decode cX12_barOf 117 = .ok (.iastore, 1) := by decide +kernel
theorem dX12_barOf_118 : decode cX12_barOf 118 = .ok (.aload_n 0, 1) := by decide +kernel
theorem dX12_barOf_119 : decode cX12_barOf 119 = .ok (.getfield 13, 3) := by decide +kernel
theorem dX12_barOf_122 : decode cX12_barOf 122 = .ok (.iload_n 1, 1) := by decide +kernel
theorem dX12_barOf_123 : decode cX12_barOf 123 = .ok (.iload 4, 2) := by decide +kernel
theorem dX12_barOf_125 : decode cX12_barOf 125 = .ok (.iastore, 1) := by decide +kernel
theorem dX12_barOf_126 : decode cX12_barOf 126 = .ok (.iload 5, 2) := by decide +kernel
theorem dX12_barOf_128 : decode cX12_barOf 128 = .ok (.ireturn, 1) := by decide +kernel
theorem dX12_passes_0 : decode cX12_passes 0 = .ok (.iconst 1, 1) := by decide +kernel
theorem dX12_passes_1 : decode cX12_passes 1 = .ok (.istore 4, 2) := by decide +kernel
theorem dX12_passes_3 : decode cX12_passes 3 = .ok (.iconst 1, 1) := by decide +kernel
theorem dX12_passes_4 : decode cX12_passes 4 = .ok (.istore 5, 2) := by decide +kernel
theorem dX12_passes_6 : decode cX12_passes 6 = .ok (.iload 5, 2) := by decide +kernel
theorem dX12_passes_8 : decode cX12_passes 8 = .ok (.iload_n 2, 1) := by decide +kernel
theorem dX12_passes_9 : decode cX12_passes 9 = .ok (.if_icmp .ge 18, 3) := by decide +kernel
theorem dX12_passes_12 : decode cX12_passes 12 = .ok (.iload 4, 2) := by decide +kernel
theorem dX12_passes_14 : decode cX12_passes 14 = .ok (.aload_n 0, 1) := by decide +kernel
theorem dX12_passes_15 : decode cX12_passes 15 = .ok (.getfield 103, 3) := by decide +kernel
theorem dX12_passes_18 : decode cX12_passes 18 = .ok (.imul, 1) := by decide +kernel
theorem dX12_passes_19 : decode cX12_passes 19 = .ok (.istore 4, 2) := by decide +kernel
theorem dX12_passes_21 : decode cX12_passes 21 = .ok (.iinc 5 1, 3) := by decide +kernel
theorem dX12_passes_24 : decode cX12_passes 24 = .ok (.goto (-18), 3) := by decide +kernel
theorem dX12_passes_27 : decode cX12_passes 27 = .ok (.iload_n 3, 1) := by decide +kernel
theorem dX12_passes_28 : decode cX12_passes 28 = .ok (.istore 5, 2) := by decide +kernel
theorem dX12_passes_30 : decode cX12_passes 30 = .ok (.iconst 0, 1) := by decide +kernel
theorem dX12_passes_31 : decode cX12_passes 31 = .ok (.istore 6, 2) := by decide +kernel
theorem dX12_passes_33 : decode cX12_passes 33 = .ok (.iconst 0, 1) := by decide +kernel
theorem dX12_passes_34 : decode cX12_passes 34 = .ok (.istore 7, 2) := by decide +kernel
theorem dX12_passes_36 : decode cX12_passes 36 = .ok (.iload 7, 2) := by decide +kernel
theorem dX12_passes_38 : decode cX12_passes 38 = .ok (.iload_n 2, 1) := by decide +kernel
theorem dX12_passes_39 : decode cX12_passes 39 = .ok (.if_icmp .ge 53, 3) := by decide +kernel
theorem dX12_passes_42 : decode cX12_passes 42 = .ok (.aload_n 0, 1) := by decide +kernel
theorem dX12_passes_43 : decode cX12_passes 43 = .ok (.iload 6, 2) := by decide +kernel
theorem dX12_passes_45 : decode cX12_passes 45 = .ok (.bipush 7, 2) := by decide +kernel
theorem dX12_passes_47 : decode cX12_passes 47 = .ok (.iload 5, 2) := by decide +kernel
theorem dX12_passes_49 : decode cX12_passes 49 = .ok (.iload 4, 2) := by decide +kernel
theorem dX12_passes_51 : decode cX12_passes 51 = .ok (.idiv, 1) := by decide +kernel
theorem dX12_passes_52 : decode cX12_passes 52 = .ok (.invokevirtual 274, 3) := by decide +kernel
theorem dX12_passes_55 : decode cX12_passes 55 = .ok (.pop, 1) := by decide +kernel
theorem dX12_passes_56 : decode cX12_passes 56 = .ok (.bipush 7, 2) := by decide +kernel
theorem dX12_passes_58 : decode cX12_passes 58 = .ok (.istore 6, 2) := by decide +kernel
theorem dX12_passes_60 : decode cX12_passes 60 = .ok (.iload 5, 2) := by decide +kernel
theorem dX12_passes_62 : decode cX12_passes 62 = .ok (.iload 4, 2) := by decide +kernel
theorem dX12_passes_64 : decode cX12_passes 64 = .ok (.irem, 1) := by decide +kernel
theorem dX12_passes_65 : decode cX12_passes 65 = .ok (.istore 5, 2) := by decide +kernel
theorem dX12_passes_67 : decode cX12_passes 67 = .ok (.iload 4, 2) := by decide +kernel
theorem dX12_passes_69 : decode cX12_passes 69 = .ok (.iconst 1, 1) := by decide +kernel
theorem dX12_passes_70 : decode cX12_passes 70 = .ok (.if_icmp .le 13, 3) := by decide +kernel
theorem dX12_passes_73 : decode cX12_passes 73 = .ok (.iload 4, 2) := by decide +kernel
theorem dX12_passes_75 : decode cX12_passes 75 = .ok (.aload_n 0, 1) := by decide +kernel
theorem dX12_passes_76 : decode cX12_passes 76 = .ok (.getfield 103, 3) := by decide +kernel
theorem dX12_passes_79 : decode cX12_passes 79 = .ok (.idiv, 1) := by decide +kernel
theorem dX12_passes_80 : decode cX12_passes 80 = .ok (.goto 4, 3) := by decide +kernel
theorem dX12_passes_83 : decode cX12_passes 83 = .ok (.iconst 1, 1) := by decide +kernel
theorem dX12_passes_84 : decode cX12_passes 84 = .ok (.istore 4, 2) := by decide +kernel
theorem dX12_passes_86 : decode cX12_passes 86 = .ok (.iinc 7 1, 3) := by decide +kernel
theorem dX12_passes_89 : decode cX12_passes 89 = .ok (.goto (-53), 3) := by decide +kernel
theorem dX12_passes_92 : decode cX12_passes 92 = .ok (.aload_n 0, 1) := by decide +kernel
theorem dX12_passes_93 : decode cX12_passes 93 = .ok (.iload 6, 2) := by decide +kernel
theorem dX12_passes_95 : decode cX12_passes 95 = .ok (.bipush 7, 2) := by decide +kernel
theorem dX12_passes_97 : decode cX12_passes 97 = .ok (.iload_n 1, 1) := by decide +kernel
theorem dX12_passes_98 : decode cX12_passes 98 = .ok (.invokevirtual 274, 3) := by decide +kernel
theorem dX12_passes_101 : decode cX12_passes 101 = .ok (.ifCond .ne 7, 3) := by decide +kernel
theorem dX12_passes_104 : decode cX12_passes 104 = .ok (.iconst 1, 1) := by decide +kernel
theorem dX12_passes_105 : decode cX12_passes 105 = .ok (.goto 4, 3) := by decide +kernel
theorem dX12_passes_108 : decode cX12_passes 108 = .ok (.iconst 0, 1) := by decide +kernel
theorem dX12_passes_109 : decode cX12_passes 109 = .ok (.ireturn, 1) := by decide +kernel
theorem dX12_lets_0 : decode cX12_lets 0 = .ok (.aload_n 0, 1) := by decide +kernel
theorem dX12_lets_1 : decode cX12_lets 1 = .ok (.iload_n 1, 1) := by decide +kernel
theorem dX12_lets_2 : decode cX12_lets 2 = .ok (.invokevirtual 241, 3) := by decide +kernel
theorem dX12_lets_5 : decode cX12_lets 5 = .ok (.ifCond .eq 10, 3) := by decide +kernel
theorem dX12_lets_8 : decode cX12_lets 8 = .ok (.iload_n 2, 1) := by decide +kernel
theorem dX12_lets_9 : decode cX12_lets 9 = .ok (.invokestatic 316, 3) := by decide +kernel
theorem dX12_lets_12 : decode cX12_lets 12 = .ok (.ifCond .ne 5, 3) := by decide +kernel
theorem dX12_lets_15 : decode cX12_lets 15 = .ok (.iconst (-1), 1) := by decide +kernel
theorem dX12_lets_16 : decode cX12_lets 16 = .ok (.ireturn, 1) := by decide +kernel
theorem dX12_lets_17 : decode cX12_lets 17 = .ok (.iconst 1, 1) := by decide +kernel
theorem dX12_lets_18 : decode cX12_lets 18 = .ok (.istore_n 3, 1) := by decide +kernel
theorem dX12_lets_19 : decode cX12_lets 19 = .ok (.iconst 0, 1) := by decide +kernel
theorem dX12_lets_20 : decode cX12_lets 20 = .ok (.istore 4, 2) := by decide +kernel
theorem dX12_lets_22 : decode cX12_lets 22 = .ok (.iload 4, 2) := by decide +kernel
theorem dX12_lets_24 : decode cX12_lets 24 = .ok (.iconst 4, 1) := by decide +kernel
theorem dX12_lets_25 : decode cX12_lets 25 = .ok (.if_icmp .ge 61, 3) := by decide +kernel
theorem dX12_lets_28 : decode cX12_lets 28 = .ok (.iconst 0, 1) := by decide +kernel
theorem dX12_lets_29 : decode cX12_lets 29 = .ok (.istore 5, 2) := by decide +kernel
theorem dX12_lets_31 : decode cX12_lets 31 = .ok (.iload 5, 2) := by decide +kernel
theorem dX12_lets_33 : decode cX12_lets 33 = .ok (.iload_n 3, 1) := by decide +kernel
theorem dX12_lets_34 : decode cX12_lets 34 = .ok (.if_icmp .ge 39, 3) := by decide +kernel
theorem dX12_lets_37 : decode cX12_lets 37 = .ok (.aload_n 0, 1) := by decide +kernel
theorem dX12_lets_38 : decode cX12_lets 38 = .ok (.iload_n 1, 1) := by decide +kernel
theorem dX12_lets_39 : decode cX12_lets 39 = .ok (.iload 4, 2) := by decide +kernel
theorem dX12_lets_41 : decode cX12_lets 41 = .ok (.iload 5, 2) := by decide +kernel
theorem dX12_lets_43 : decode cX12_lets 43 = .ok (.invokevirtual 341, 3) := by decide +kernel
theorem dX12_lets_46 : decode cX12_lets 46 = .ok (.ifCond .eq 21, 3) := by decide +kernel
theorem dX12_lets_49 : decode cX12_lets 49 = .ok (.iload_n 2, 1) := by decide +kernel
theorem dX12_lets_50 : decode cX12_lets 50 = .ok (.ifCond .ne 8, 3) := by decide +kernel
theorem dX12_lets_53 : decode cX12_lets 53 = .ok (.iload 4, 2) := by decide +kernel
theorem dX12_lets_55 : decode cX12_lets 55 = .ok (.goto 11, 3) := by decide +kernel
theorem dX12_lets_58 : decode cX12_lets 58 = .ok (.aload_n 0, 1) := by decide +kernel
theorem dX12_lets_59 : decode cX12_lets 59 = .ok (.iload 4, 2) := by decide +kernel
theorem dX12_lets_61 : decode cX12_lets 61 = .ok (.iload 5, 2) := by decide +kernel
theorem dX12_lets_63 : decode cX12_lets 63 = .ok (.invokevirtual 344, 3) := by decide +kernel
theorem dX12_lets_66 : decode cX12_lets 66 = .ok (.ireturn, 1) := by decide +kernel
theorem dX12_lets_67 : decode cX12_lets 67 = .ok (.iinc 5 1, 3) := by decide +kernel
theorem dX12_lets_70 : decode cX12_lets 70 = .ok (.goto (-39), 3) := by decide +kernel
theorem dX12_lets_73 : decode cX12_lets 73 = .ok (.iload_n 3, 1) := by decide +kernel
theorem dX12_lets_74 : decode cX12_lets 74 = .ok (.aload_n 0, 1) := by decide +kernel
theorem dX12_lets_75 : decode cX12_lets 75 = .ok (.getfield 103, 3) := by decide +kernel
theorem dX12_lets_78 : decode cX12_lets 78 = .ok (.imul, 1) := by decide +kernel
theorem dX12_lets_79 : decode cX12_lets 79 = .ok (.istore_n 3, 1) := by decide +kernel
theorem dX12_lets_80 : decode cX12_lets 80 = .ok (.iinc 4 1, 3) := by decide +kernel
theorem dX12_lets_83 : decode cX12_lets 83 = .ok (.goto (-61), 3) := by decide +kernel
theorem dX12_lets_86 : decode cX12_lets 86 = .ok (.bipush (-3), 2) := by decide +kernel
theorem dX12_lets_88 : decode cX12_lets 88 = .ok (.ireturn, 1) := by decide +kernel
theorem dX12_digitsOf_0 : decode cX12_digitsOf 0 = .ok (.iconst 0, 1) := by decide +kernel
theorem dX12_digitsOf_1 : decode cX12_digitsOf 1 = .ok (.istore_n 3, 1) := by decide +kernel
theorem dX12_digitsOf_2 : decode cX12_digitsOf 2 = .ok (.iload_n 2, 1) := by decide +kernel
theorem dX12_digitsOf_3 : decode cX12_digitsOf 3 = .ok (.istore 4, 2) := by decide +kernel
theorem dX12_digitsOf_5 : decode cX12_digitsOf 5 = .ok (.iload_n 1, 1) := by decide +kernel
theorem dX12_digitsOf_6 : decode cX12_digitsOf 6 = .ok (.iconst 1, 1) := by decide +kernel
theorem dX12_digitsOf_7 : decode cX12_digitsOf 7 = .ok (.isub, 1) := by decide +kernel
theorem dX12_digitsOf_8 : decode cX12_digitsOf 8 = .ok (.istore 5, 2) := by decide +kernel
theorem dX12_digitsOf_10 : decode cX12_digitsOf 10 = .ok (.iload 5, 2) := by decide +kernel
theorem dX12_digitsOf_12 : decode cX12_digitsOf 12 = .ok (.ifCond .lt 33, 3) := by decide +kernel
theorem dX12_digitsOf_15 : decode cX12_digitsOf 15 = .ok (.iload_n 3, 1) := by decide +kernel
theorem dX12_digitsOf_16 : decode cX12_digitsOf 16 = .ok (.iload 4, 2) := by decide +kernel
theorem dX12_digitsOf_18 : decode cX12_digitsOf 18 = .ok (.aload_n 0, 1) := by decide +kernel
theorem dX12_digitsOf_19 : decode cX12_digitsOf 19 = .ok (.getfield 103, 3) := by decide +kernel
theorem dX12_digitsOf_22 : decode cX12_digitsOf 22 = .ok (.irem, 1) := by decide +kernel
theorem dX12_digitsOf_23 : decode cX12_digitsOf 23 = .ok (.iconst 3, 1) := by decide +kernel
theorem dX12_digitsOf_24 : decode cX12_digitsOf 24 = .ok (.iload 5, 2) := by decide +kernel
theorem dX12_digitsOf_26 : decode cX12_digitsOf 26 = .ok (.imul, 1) := by decide +kernel
theorem dX12_digitsOf_27 : decode cX12_digitsOf 27 = .ok (.ishl, 1) := by decide +kernel
theorem dX12_digitsOf_28 : decode cX12_digitsOf 28 = .ok (.ior, 1) := by decide +kernel
theorem dX12_digitsOf_29 : decode cX12_digitsOf 29 = .ok (.istore_n 3, 1) := by decide +kernel
theorem dX12_digitsOf_30 : decode cX12_digitsOf 30 = .ok (.iload 4, 2) := by decide +kernel
theorem dX12_digitsOf_32 : decode cX12_digitsOf 32 = .ok (.aload_n 0, 1) := by decide +kernel
theorem dX12_digitsOf_33 : decode cX12_digitsOf 33 = .ok (.getfield 103, 3) := by decide +kernel
theorem dX12_digitsOf_36 : decode cX12_digitsOf 36 = .ok (.idiv, 1) := by decide +kernel
theorem dX12_digitsOf_37 : decode cX12_digitsOf 37 = .ok (.istore 4, 2) := by decide +kernel
theorem dX12_digitsOf_39 : decode cX12_digitsOf 39 = .ok (.iinc 5 (-1), 3) := by decide +kernel
theorem dX12_digitsOf_42 : decode cX12_digitsOf 42 = .ok (.goto (-32), 3) := by decide +kernel
theorem dX12_digitsOf_45 : decode cX12_digitsOf 45 = .ok (.iload_n 3, 1) := by decide +kernel
theorem dX12_digitsOf_46 : decode cX12_digitsOf 46 = .ok (.ireturn, 1) := by decide +kernel
theorem dX12_harm_0 : decode cX12_harm 0 = .ok (.iload_n 1, 1) := by decide +kernel
theorem dX12_harm_1 : decode cX12_harm 1 = .ok (.iconst 1, 1) := by decide +kernel
theorem dX12_harm_2 : decode cX12_harm 2 = .ok (.iconst 2, 1) := by decide +kernel
theorem dX12_harm_3 : decode cX12_harm 3 = .ok (.invokestatic 99, 3) := by decide +kernel
theorem dX12_harm_6 : decode cX12_harm 6 = .ok (.ifCond .ne 5, 3) := by decide +kernel
theorem dX12_harm_9 : decode cX12_harm 9 = .ok (.iconst (-1), 1) := by decide +kernel
theorem dX12_harm_10 : decode cX12_harm 10 = .ok (.ireturn, 1) := by decide +kernel
theorem dX12_harm_11 : decode cX12_harm 11 = .ok (.aload_n 0, 1) := by decide +kernel
theorem dX12_harm_12 : decode cX12_harm 12 = .ok (.getfield 28, 3) := by decide +kernel
theorem dX12_harm_15 : decode cX12_harm 15 = .ok (.iconst 0, 1) := by decide +kernel
theorem dX12_harm_16 : decode cX12_harm 16 = .ok (.iaload, 1) := by decide +kernel
theorem dX12_harm_17 : decode cX12_harm 17 = .ok (.istore_n 2, 1) := by decide +kernel
theorem dX12_harm_18 : decode cX12_harm 18 = .ok (.aload_n 0, 1) := by decide +kernel
theorem dX12_harm_19 : decode cX12_harm 19 = .ok (.getfield 28, 3) := by decide +kernel
theorem dX12_harm_22 : decode cX12_harm 22 = .ok (.iconst 1, 1) := by decide +kernel
theorem dX12_harm_23 : decode cX12_harm 23 = .ok (.iaload, 1) := by decide +kernel
theorem dX12_harm_24 : decode cX12_harm 24 = .ok (.istore_n 3, 1) := by decide +kernel
theorem dX12_harm_25 : decode cX12_harm 25 = .ok (.iconst 0, 1) := by decide +kernel
theorem dX12_harm_26 : decode cX12_harm 26 = .ok (.istore 4, 2) := by decide +kernel
theorem dX12_harm_28 : decode cX12_harm 28 = .ok (.lconst 0, 1) := by decide +kernel
theorem dX12_harm_29 : decode cX12_harm 29 = .ok (.lstore 5, 2) := by decide +kernel
theorem dX12_harm_31 : decode cX12_harm 31 = .ok (.iconst 0, 1) := by decide +kernel
theorem dX12_harm_32 : decode cX12_harm 32 = .ok (.istore 7, 2) := by decide +kernel
theorem dX12_harm_34 : decode cX12_harm 34 = .ok (.iload 7, 2) := by decide +kernel
theorem dX12_harm_36 : decode cX12_harm 36 = .ok (.iconst 2, 1) := by decide +kernel
theorem dX12_harm_37 : decode cX12_harm 37 = .ok (.if_icmp .ge 86, 3) := by decide +kernel
theorem dX12_harm_40 : decode cX12_harm 40 = .ok (.iconst 1, 1) := by decide +kernel
theorem dX12_harm_41 : decode cX12_harm 41 = .ok (.istore 8, 2) := by decide +kernel
theorem dX12_harm_43 : decode cX12_harm 43 = .ok (.iload 8, 2) := by decide +kernel
theorem dX12_harm_45 : decode cX12_harm 45 = .ok (.iconst 4, 1) := by decide +kernel
theorem dX12_harm_46 : decode cX12_harm 46 = .ok (.if_icmp .ge 71, 3) := by decide +kernel
theorem dX12_harm_49 : decode cX12_harm 49 = .ok (.aload_n 0, 1) := by decide +kernel
theorem dX12_harm_50 : decode cX12_harm 50 = .ok (.getfield 28, 3) := by decide +kernel
theorem dX12_harm_53 : decode cX12_harm 53 = .ok (.iconst 0, 1) := by decide +kernel
theorem dX12_harm_54 : decode cX12_harm 54 = .ok (.iload 8, 2) := by decide +kernel
theorem dX12_harm_56 : decode cX12_harm 56 = .ok (.iastore, 1) := by decide +kernel
theorem dX12_harm_57 : decode cX12_harm 57 = .ok (.aload_n 0, 1) := by decide +kernel
theorem dX12_harm_58 : decode cX12_harm 58 = .ok (.getfield 28, 3) := by decide +kernel
theorem dX12_harm_61 : decode cX12_harm 61 = .ok (.iconst 1, 1) := by decide +kernel
theorem dX12_harm_62 : decode cX12_harm 62 = .ok (.iload 7, 2) := by decide +kernel
theorem dX12_harm_64 : decode cX12_harm 64 = .ok (.iastore, 1) := by decide +kernel
theorem dX12_harm_65 : decode cX12_harm 65 = .ok (.aload_n 0, 1) := by decide +kernel
theorem dX12_harm_66 : decode cX12_harm 66 = .ok (.invokevirtual 281, 3) := by decide +kernel
theorem dX12_harm_69 : decode cX12_harm 69 = .ok (.ifCond .ne 7, 3) := by decide +kernel
theorem dX12_harm_72 : decode cX12_harm 72 = .ok (.lconst 0, 1) := by decide +kernel
theorem dX12_harm_73 : decode cX12_harm 73 = .ok (.goto 9, 3) := by decide +kernel
theorem dX12_harm_76 : decode cX12_harm 76 = .ok (.aload_n 0, 1) := by decide +kernel
theorem dX12_harm_77 : decode cX12_harm 77 = .ok (.iconst (-1), 1) := by decide +kernel
theorem dX12_harm_78 : decode cX12_harm 78 = .ok (.iload_n 1, 1) := by decide +kernel
theorem dX12_harm_79 : decode cX12_harm 79 = .ok (.invokevirtual 304, 3) := by decide +kernel
theorem dX12_harm_82 : decode cX12_harm 82 = .ok (.lstore 9, 2) := by decide +kernel
theorem dX12_harm_84 : decode cX12_harm 84 = .ok (.iload 4, 2) := by decide +kernel
theorem dX12_harm_86 : decode cX12_harm 86 = .ok (.ifCond .eq 11, 3) := by decide +kernel
theorem dX12_harm_89 : decode cX12_harm 89 = .ok (.lload 9, 2) := by decide +kernel
theorem dX12_harm_91 : decode cX12_harm 91 = .ok (.lload 5, 2) := by decide +kernel
theorem dX12_harm_93 : decode cX12_harm 93 = .ok (.lcmp, 1) := by decide +kernel
theorem dX12_harm_94 : decode cX12_harm 94 = .ok (.ifCond .le 17, 3) := by decide +kernel
theorem dX12_harm_97 : decode cX12_harm 97 = .ok (.lload 9, 2) := by decide +kernel
theorem dX12_harm_99 : decode cX12_harm 99 = .ok (.lstore 5, 2) := by decide +kernel
theorem dX12_harm_101 : decode cX12_harm 101 = .ok (.bipush 10, 2) := by decide +kernel
theorem dX12_harm_103 : decode cX12_harm 103 = .ok (.iload 7, 2) := by decide +kernel
theorem dX12_harm_105 : decode cX12_harm 105 = .ok (.imul, 1) := by decide +kernel
theorem dX12_harm_106 : decode cX12_harm 106 = .ok (.iload 8, 2) := by decide +kernel
theorem dX12_harm_108 : decode cX12_harm 108 = .ok (.iadd, 1) := by decide +kernel
theorem dX12_harm_109 : decode cX12_harm 109 = .ok (.istore 4, 2) := by decide +kernel
theorem dX12_harm_111 : decode cX12_harm 111 = .ok (.iinc 8 1, 3) := by decide +kernel
theorem dX12_harm_114 : decode cX12_harm 114 = .ok (.goto (-71), 3) := by decide +kernel
theorem dX12_harm_117 : decode cX12_harm 117 = .ok (.iinc 7 1, 3) := by decide +kernel
theorem dX12_harm_120 : decode cX12_harm 120 = .ok (.goto (-86), 3) := by decide +kernel
theorem dX12_harm_123 : decode cX12_harm 123 = .ok (.aload_n 0, 1) := by decide +kernel
theorem dX12_harm_124 : decode cX12_harm 124 = .ok (.getfield 28, 3) := by decide +kernel
theorem dX12_harm_127 : decode cX12_harm 127 = .ok (.iconst 0, 1) := by decide +kernel
theorem dX12_harm_128 : decode cX12_harm 128 = .ok (.iload_n 2, 1) := by decide +kernel
theorem dX12_harm_129 : decode cX12_harm 129 = .ok (.iastore, 1) := by decide +kernel
theorem dX12_harm_130 : decode cX12_harm 130 = .ok (.aload_n 0, 1) := by decide +kernel
theorem dX12_harm_131 : decode cX12_harm 131 = .ok (.getfield 28, 3) := by decide +kernel
theorem dX12_harm_134 : decode cX12_harm 134 = .ok (.iconst 1, 1) := by decide +kernel
theorem dX12_harm_135 : decode cX12_harm 135 = .ok (.iload_n 3, 1) := by decide +kernel
theorem dX12_harm_136 : decode cX12_harm 136 = .ok (.iastore, 1) := by decide +kernel
theorem dX12_harm_137 : decode cX12_harm 137 = .ok (.iload 4, 2) := by decide +kernel
theorem dX12_harm_139 : decode cX12_harm 139 = .ok (.ireturn, 1) := by decide +kernel
theorem dX12_findRows_0 : decode cX12_findRows 0 = .ok (.aload_n 0, 1) := by decide +kernel
theorem dX12_findRows_1 : decode cX12_findRows 1 = .ok (.getfield 40, 3) := by decide +kernel
theorem dX12_findRows_4 : decode cX12_findRows 4 = .ok (.istore_n 3, 1) := by decide +kernel
theorem dX12_findRows_5 : decode cX12_findRows 5 = .ok (.iconst 0, 1) := by decide +kernel
theorem dX12_findRows_6 : decode cX12_findRows 6 = .ok (.istore 4, 2) := by decide +kernel
theorem dX12_findRows_8 : decode cX12_findRows 8 = .ok (.iload 4, 2) := by decide +kernel
theorem dX12_findRows_10 : decode cX12_findRows 10 = .ok (.iload_n 1, 1) := by decide +kernel
theorem dX12_findRows_11 : decode cX12_findRows 11 = .ok (.if_icmp .ge 90, 3) := by decide +kernel
theorem dX12_findRows_14 : decode cX12_findRows 14 = .ok (.iload_n 3, 1) := by decide +kernel
theorem dX12_findRows_15 : decode cX12_findRows 15 = .ok (.invokestatic 284, 3) := by decide +kernel
theorem dX12_findRows_18 : decode cX12_findRows 18 = .ok (.istore_n 3, 1) := by decide +kernel
theorem dX12_findRows_19 : decode cX12_findRows 19 = .ok (.aload_n 0, 1) := by decide +kernel
theorem dX12_findRows_20 : decode cX12_findRows 20 = .ok (.iload_n 3, 1) := by decide +kernel
theorem dX12_findRows_21 : decode cX12_findRows 21 = .ok (.iload_n 2, 1) := by decide +kernel
theorem dX12_findRows_22 : decode cX12_findRows 22 = .ok (.invokevirtual 287, 3) := by decide +kernel
theorem dX12_findRows_25 : decode cX12_findRows 25 = .ok (.istore 5, 2) := by decide +kernel
theorem dX12_findRows_27 : decode cX12_findRows 27 = .ok (.aload_n 0, 1) := by decide +kernel
theorem dX12_findRows_28 : decode cX12_findRows 28 = .ok (.iload 4, 2) := by decide +kernel
theorem dX12_findRows_30 : decode cX12_findRows 30 = .ok (.ifCond .ne 7, 3) := by decide +kernel
theorem dX12_findRows_33 : decode cX12_findRows 33 = .ok (.iconst 0, 1) := by decide +kernel
theorem dX12_findRows_34 : decode cX12_findRows 34 = .ok (.goto 5, 3) := by decide +kernel
theorem dX12_findRows_37 : decode cX12_findRows 37 = .ok (.bipush 7, 2) := by decide +kernel
theorem dX12_findRows_39 : decode cX12_findRows 39 = .ok (.bipush 7, 2) := by decide +kernel
theorem dX12_findRows_41 : decode cX12_findRows 41 = .ok (.iload 5, 2) := by decide +kernel
theorem dX12_findRows_43 : decode cX12_findRows 43 = .ok (.invokevirtual 274, 3) := by decide +kernel
theorem dX12_findRows_46 : decode cX12_findRows 46 = .ok (.istore 6, 2) := by decide +kernel
theorem dX12_findRows_48 : decode cX12_findRows 48 = .ok (.aload_n 0, 1) := by decide +kernel
theorem dX12_findRows_49 : decode cX12_findRows 49 = .ok (.getfield 65, 3) := by decide +kernel
theorem dX12_findRows_52 : decode cX12_findRows 52 = .ok (.iconst 3, 1) := by decide +kernel
theorem dX12_findRows_53 : decode cX12_findRows 53 = .ok (.iload 4, 2) := by decide +kernel
theorem dX12_findRows_55 : decode cX12_findRows 55 = .ok (.imul, 1) := by decide +kernel
theorem dX12_findRows_56 : decode cX12_findRows 56 = .ok (.iload 5, 2) := by decide +kernel
theorem dX12_findRows_58 : decode cX12_findRows 58 = .ok (.iastore, 1) := by decide +kernel
theorem dX12_findRows_59 : decode cX12_findRows 59 = .ok (.aload_n 0, 1) := by decide +kernel
theorem dX12_findRows_60 : decode cX12_findRows 60 = .ok (.getfield 65, 3) := by decide +kernel
theorem dX12_findRows_63 : decode cX12_findRows 63 = .ok (.iconst 3, 1) := by decide +kernel
theorem dX12_findRows_64 : decode cX12_findRows 64 = .ok (.iload 4, 2) := by decide +kernel
theorem dX12_findRows_66 : decode cX12_findRows 66 = .ok (.imul, 1) := by decide +kernel
theorem dX12_findRows_67 : decode cX12_findRows 67 = .ok (.iconst 1, 1) := by decide +kernel
theorem dX12_findRows_68 : decode cX12_findRows 68 = .ok (.iadd, 1) := by decide +kernel
theorem dX12_findRows_69 : decode cX12_findRows 69 = .ok (.aload_n 0, 1) := by decide +kernel
theorem dX12_findRows_70 : decode cX12_findRows 70 = .ok (.getfield 268, 3) := by decide +kernel
theorem dX12_findRows_73 : decode cX12_findRows 73 = .ok (.iastore, 1) := by decide +kernel
theorem dX12_findRows_74 : decode cX12_findRows 74 = .ok (.aload_n 0, 1) := by decide +kernel
theorem dX12_findRows_75 : decode cX12_findRows 75 = .ok (.getfield 65, 3) := by decide +kernel
theorem dX12_findRows_78 : decode cX12_findRows 78 = .ok (.iconst 3, 1) := by decide +kernel
theorem dX12_findRows_79 : decode cX12_findRows 79 = .ok (.iload 4, 2) := by decide +kernel
theorem dX12_findRows_81 : decode cX12_findRows 81 = .ok (.imul, 1) := by decide +kernel
theorem dX12_findRows_82 : decode cX12_findRows 82 = .ok (.iconst 2, 1) := by decide +kernel
theorem dX12_findRows_83 : decode cX12_findRows 83 = .ok (.iadd, 1) := by decide +kernel
theorem dX12_findRows_84 : decode cX12_findRows 84 = .ok (.iload 6, 2) := by decide +kernel
theorem dX12_findRows_86 : decode cX12_findRows 86 = .ok (.ifCond .eq 7, 3) := by decide +kernel
theorem dX12_findRows_89 : decode cX12_findRows 89 = .ok (.iconst 1, 1) := by decide +kernel
theorem dX12_findRows_90 : decode cX12_findRows 90 = .ok (.goto 4, 3) := by decide +kernel
theorem dX12_findRows_93 : decode cX12_findRows 93 = .ok (.iconst 0, 1) := by decide +kernel
theorem dX12_findRows_94 : decode cX12_findRows 94 = .ok (.iastore, 1) := by decide +kernel
theorem dX12_findRows_95 : decode cX12_findRows 95 = .ok (.iinc 4 1, 3) := by decide +kernel
theorem dX12_findRows_98 : decode cX12_findRows 98 = .ok (.goto (-90), 3) := by decide +kernel
theorem dX12_findRows_101 : decode cX12_findRows 101 = .ok (.return_, 1) := by decide +kernel
theorem dX12_prove_0 : decode cX12_prove 0 = .ok (.iload_n 1, 1) := by decide +kernel
theorem dX12_prove_1 : decode cX12_prove 1 = .ok (.iconst 1, 1) := by decide +kernel
theorem dX12_prove_2 : decode cX12_prove 2 = .ok (.bipush 12, 2) := by decide +kernel
theorem dX12_prove_4 : decode cX12_prove 4 = .ok (.invokestatic 99, 3) := by decide +kernel
theorem dX12_prove_7 : decode cX12_prove 7 = .ok (.ifCond .ne 5, 3) := by decide +kernel
theorem dX12_prove_10 : decode cX12_prove 10 = .ok (.iconst (-1), 1) := by decide +kernel
theorem dX12_prove_11 : decode cX12_prove 11 = .ok (.ireturn, 1) := by decide +kernel
theorem dX12_prove_12 : decode cX12_prove 12 = .ok (.aload_n 0, 1) := by decide +kernel
theorem dX12_prove_13 : decode cX12_prove 13 = .ok (.invokevirtual 281, 3) := by decide +kernel
theorem dX12_prove_16 : decode cX12_prove 16 = .ok (.istore_n 2, 1) := by decide +kernel
theorem dX12_prove_17 : decode cX12_prove 17 = .ok (.iload_n 2, 1) := by decide +kernel
theorem dX12_prove_18 : decode cX12_prove 18 = .ok (.ifCond .ne 6, 3) := by decide +kernel
theorem dX12_prove_21 : decode cX12_prove 21 = .ok (.bipush (-3), 2) := by decide +kernel
theorem dX12_prove_23 : decode cX12_prove 23 = .ok (.ireturn, 1) := by decide +kernel
theorem dX12_prove_24 : decode cX12_prove 24 = .ok (.aload_n 0, 1) := by decide +kernel
theorem dX12_prove_25 : decode cX12_prove 25 = .ok (.iload_n 1, 1) := by decide +kernel
theorem dX12_prove_26 : decode cX12_prove 26 = .ok (.iload_n 2, 1) := by decide +kernel
theorem dX12_prove_27 : decode cX12_prove 27 = .ok (.invokevirtual 347, 3) := by decide +kernel
theorem dX12_prove_30 : decode cX12_prove 30 = .ok (.aload_n 0, 1) := by decide +kernel
theorem dX12_prove_31 : decode cX12_prove 31 = .ok (.iload_n 1, 1) := by decide +kernel
theorem dX12_prove_32 : decode cX12_prove 32 = .ok (.putfield 231, 3) := by decide +kernel
theorem dX12_prove_35 : decode cX12_prove 35 = .ok (.iconst 0, 1) := by decide +kernel
theorem dX12_prove_36 : decode cX12_prove 36 = .ok (.istore_n 3, 1) := by decide +kernel
theorem dX12_prove_37 : decode cX12_prove 37 = .ok (.iload_n 3, 1) := by decide +kernel
theorem dX12_prove_38 : decode cX12_prove 38 = .ok (.iconst 3, 1) := by decide +kernel
theorem dX12_prove_39 : decode cX12_prove 39 = .ok (.iload_n 1, 1) := by decide +kernel
theorem dX12_prove_40 : decode cX12_prove 40 = .ok (.imul, 1) := by decide +kernel
theorem dX12_prove_41 : decode cX12_prove 41 = .ok (.if_icmp .ge 21, 3) := by decide +kernel
theorem dX12_prove_44 : decode cX12_prove 44 = .ok (.aload_n 0, 1) := by decide +kernel
theorem dX12_prove_45 : decode cX12_prove 45 = .ok (.getfield 62, 3) := by decide +kernel
theorem dX12_prove_48 : decode cX12_prove 48 = .ok (.iload_n 3, 1) := by decide +kernel
theorem dX12_prove_49 : decode cX12_prove 49 = .ok (.aload_n 0, 1) := by decide +kernel
theorem dX12_prove_50 : decode cX12_prove 50 = .ok (.getfield 65, 3) := by decide +kernel
theorem dX12_prove_53 : decode cX12_prove 53 = .ok (.iload_n 3, 1) := by decide +kernel
theorem dX12_prove_54 : decode cX12_prove 54 = .ok (.iaload, 1) := by decide +kernel
theorem dX12_prove_55 : decode cX12_prove 55 = .ok (.iastore, 1) := by decide +kernel
theorem dX12_prove_56 : decode cX12_prove 56 = .ok (.iinc 3 1, 3) := by decide +kernel
theorem dX12_prove_59 : decode cX12_prove 59 = .ok (.goto (-22), 3) := by decide +kernel
theorem dX12_prove_62 : decode cX12_prove 62 = .ok (.aload_n 0, 1) := by decide +kernel
theorem dX12_prove_63 : decode cX12_prove 63 = .ok (.getfield 231, 3) := by decide +kernel
theorem dX12_prove_66 : decode cX12_prove 66 = .ok (.ireturn, 1) := by decide +kernel
theorem dX12_isRow_0 : decode cX12_isRow 0 = .ok (.iload_n 1, 1) := by decide +kernel
theorem dX12_isRow_1 : decode cX12_isRow 1 = .ok (.iconst 0, 1) := by decide +kernel
theorem dX12_isRow_2 : decode cX12_isRow 2 = .ok (.aload_n 0, 1) := by decide +kernel
theorem dX12_isRow_3 : decode cX12_isRow 3 = .ok (.getfield 231, 3) := by decide +kernel
theorem dX12_isRow_6 : decode cX12_isRow 6 = .ok (.iconst 1, 1) := by decide +kernel
theorem dX12_isRow_7 : decode cX12_isRow 7 = .ok (.isub, 1) := by decide +kernel
theorem dX12_isRow_8 : decode cX12_isRow 8 = .ok (.invokestatic 99, 3) := by decide +kernel
theorem dX12_isRow_11 : decode cX12_isRow 11 = .ok (.ifCond .eq 16, 3) := by decide +kernel
theorem dX12_isRow_14 : decode cX12_isRow 14 = .ok (.iload_n 2, 1) := by decide +kernel
theorem dX12_isRow_15 : decode cX12_isRow 15 = .ok (.iconst 0, 1) := by decide +kernel
theorem dX12_isRow_16 : decode cX12_isRow 16 = .ok (.iconst 2, 1) := by decide +kernel
theorem dX12_isRow_17 : decode cX12_isRow 17 = .ok (.invokestatic 99, 3) := by decide +kernel
theorem dX12_isRow_20 : decode cX12_isRow 20 = .ok (.ifCond .eq 7, 3) := by decide +kernel
theorem dX12_isRow_23 : decode cX12_isRow 23 = .ok (.iconst 1, 1) := by decide +kernel
theorem dX12_isRow_24 : decode cX12_isRow 24 = .ok (.goto 4, 3) := by decide +kernel
theorem dX12_isRow_27 : decode cX12_isRow 27 = .ok (.iconst 0, 1) := by decide +kernel
theorem dX12_isRow_28 : decode cX12_isRow 28 = .ok (.ireturn, 1) := by decide +kernel
theorem dX12_row_0 : decode cX12_row 0 = .ok (.aload_n 0, 1) := by decide +kernel
theorem dX12_row_1 : decode cX12_row 1 = .ok (.iload_n 1, 1) := by decide +kernel
theorem dX12_row_2 : decode cX12_row 2 = .ok (.iload_n 2, 1) := by decide +kernel
theorem dX12_row_3 : decode cX12_row 3 = .ok (.invokevirtual 351, 3) := by decide +kernel
theorem dX12_row_6 : decode cX12_row 6 = .ok (.ifCond .eq 16, 3) := by decide +kernel
theorem dX12_row_9 : decode cX12_row 9 = .ok (.aload_n 0, 1) := by decide +kernel
theorem dX12_row_10 : decode cX12_row 10 = .ok (.getfield 62, 3) := by decide +kernel
theorem dX12_row_13 : decode cX12_row 13 = .ok (.iconst 3, 1) := by decide +kernel
theorem dX12_row_14 : decode cX12_row 14 = .ok (.iload_n 1, 1) := by decide +kernel
theorem dX12_row_15 : decode cX12_row 15 = .ok (.imul, 1) := by decide +kernel
theorem dX12_row_16 : decode cX12_row 16 = .ok (.iload_n 2, 1) := by decide +kernel
theorem dX12_row_17 : decode cX12_row 17 = .ok (.iadd, 1) := by decide +kernel
theorem dX12_row_18 : decode cX12_row 18 = .ok (.iaload, 1) := by decide +kernel
theorem dX12_row_19 : decode cX12_row 19 = .ok (.goto 5, 3) := by decide +kernel
theorem dX12_row_22 : decode cX12_row 22 = .ok (.bipush (-9), 2) := by decide +kernel
theorem dX12_row_24 : decode cX12_row 24 = .ok (.ireturn, 1) := by decide +kernel
theorem dX12_alterRow_0 : decode cX12_alterRow 0 = .ok (.aload_n 0, 1) := by decide +kernel
theorem dX12_alterRow_1 : decode cX12_alterRow 1 = .ok (.iload_n 1, 1) := by decide +kernel
theorem dX12_alterRow_2 : decode cX12_alterRow 2 = .ok (.iload_n 2, 1) := by decide +kernel
theorem dX12_alterRow_3 : decode cX12_alterRow 3 = .ok (.invokevirtual 351, 3) := by decide +kernel
theorem dX12_alterRow_6 : decode cX12_alterRow 6 = .ok (.ifCond .ne 6, 3) := by decide +kernel
theorem dX12_alterRow_9 : decode cX12_alterRow 9 = .ok (.bipush (-9), 2) := by decide +kernel
theorem dX12_alterRow_11 : decode cX12_alterRow 11 = .ok (.ireturn, 1) := by decide +kernel
theorem dX12_alterRow_12 : decode cX12_alterRow 12 = .ok (.aload_n 0, 1) := by decide +kernel
theorem dX12_alterRow_13 : decode cX12_alterRow 13 = .ok (.getfield 62, 3) := by decide +kernel
theorem dX12_alterRow_16 : decode cX12_alterRow 16 = .ok (.iconst 3, 1) := by decide +kernel
theorem dX12_alterRow_17 : decode cX12_alterRow 17 = .ok (.iload_n 1, 1) := by decide +kernel
theorem dX12_alterRow_18 : decode cX12_alterRow 18 = .ok (.imul, 1) := by decide +kernel
theorem dX12_alterRow_19 : decode cX12_alterRow 19 = .ok (.iload_n 2, 1) := by decide +kernel
theorem dX12_alterRow_20 : decode cX12_alterRow 20 = .ok (.iadd, 1) := by decide +kernel
theorem dX12_alterRow_21 : decode cX12_alterRow 21 = .ok (.iaload, 1) := by decide +kernel
theorem dX12_alterRow_22 : decode cX12_alterRow 22 = .ok (.istore 4, 2) := by decide +kernel
theorem dX12_alterRow_24 : decode cX12_alterRow 24 = .ok (.aload_n 0, 1) := by decide +kernel
theorem dX12_alterRow_25 : decode cX12_alterRow 25 = .ok (.getfield 62, 3) := by decide +kernel
theorem dX12_alterRow_28 : decode cX12_alterRow 28 = .ok (.iconst 3, 1) := by decide +kernel
theorem dX12_alterRow_29 : decode cX12_alterRow 29 = .ok (.iload_n 1, 1) := by decide +kernel
theorem dX12_alterRow_30 : decode cX12_alterRow 30 = .ok (.imul, 1) := by decide +kernel
theorem dX12_alterRow_31 : decode cX12_alterRow 31 = .ok (.iload_n 2, 1) := by decide +kernel
theorem dX12_alterRow_32 : decode cX12_alterRow 32 = .ok (.iadd, 1) := by decide +kernel
theorem dX12_alterRow_33 : decode cX12_alterRow 33 = .ok (.iload_n 3, 1) := by decide +kernel
theorem dX12_alterRow_34 : decode cX12_alterRow 34 = .ok (.iastore, 1) := by decide +kernel
theorem dX12_alterRow_35 : decode cX12_alterRow 35 = .ok (.iload 4, 2) := by decide +kernel
theorem dX12_alterRow_37 : decode cX12_alterRow 37 = .ok (.ireturn, 1) := by decide +kernel
theorem dX12_judge_0 : decode cX12_judge 0 = .ok (.aload_n 0, 1) := by decide +kernel
theorem dX12_judge_1 : decode cX12_judge 1 = .ok (.invokevirtual 281, 3) := by decide +kernel
theorem dX12_judge_4 : decode cX12_judge 4 = .ok (.istore_n 1, 1) := by decide +kernel
theorem dX12_judge_5 : decode cX12_judge 5 = .ok (.iload_n 1, 1) := by decide +kernel
theorem dX12_judge_6 : decode cX12_judge 6 = .ok (.ifCond .ne 6, 3) := by decide +kernel
theorem dX12_judge_9 : decode cX12_judge 9 = .ok (.bipush (-3), 2) := by decide +kernel
theorem dX12_judge_11 : decode cX12_judge 11 = .ok (.ireturn, 1) := by decide +kernel
theorem dX12_judge_12 : decode cX12_judge 12 = .ok (.aload_n 0, 1) := by decide +kernel
theorem dX12_judge_13 : decode cX12_judge 13 = .ok (.aload_n 0, 1) := by decide +kernel
theorem dX12_judge_14 : decode cX12_judge 14 = .ok (.getfield 231, 3) := by decide +kernel
theorem dX12_judge_17 : decode cX12_judge 17 = .ok (.iload_n 1, 1) := by decide +kernel
theorem dX12_judge_18 : decode cX12_judge 18 = .ok (.invokevirtual 347, 3) := by decide +kernel
theorem dX12_judge_21 : decode cX12_judge 21 = .ok (.iconst 0, 1) := by decide +kernel
theorem dX12_judge_22 : decode cX12_judge 22 = .ok (.istore_n 2, 1) := by decide +kernel
theorem dX12_judge_23 : decode cX12_judge 23 = .ok (.iload_n 2, 1) := by decide +kernel
theorem dX12_judge_24 : decode cX12_judge 24 = .ok (.iconst 3, 1) := by decide +kernel
theorem dX12_judge_25 : decode cX12_judge 25 = .ok (.aload_n 0, 1) := by decide +kernel
theorem dX12_judge_26 : decode cX12_judge 26 = .ok (.getfield 231, 3) := by decide +kernel
theorem dX12_judge_29 : decode cX12_judge 29 = .ok (.imul, 1) := by decide +kernel
theorem dX12_judge_30 : decode cX12_judge 30 = .ok (.if_icmp .ge 30, 3) := by decide +kernel
theorem dX12_judge_33 : decode cX12_judge 33 = .ok (.aload_n 0, 1) := by decide +kernel
theorem dX12_judge_34 : decode cX12_judge 34 = .ok (.getfield 62, 3) := by decide +kernel
theorem dX12_judge_37 : decode cX12_judge 37 = .ok (.iload_n 2, 1) := by decide +kernel
theorem dX12_judge_38 : decode cX12_judge 38 = .ok (.iaload, 1) := by decide +kernel
theorem dX12_judge_39 : decode cX12_judge 39 = .ok (.aload_n 0, 1) := by decide +kernel
theorem dX12_judge_40 : decode cX12_judge 40 = .ok (.getfield 65, 3) := by decide +kernel
theorem dX12_judge_43 : decode cX12_judge 43 = .ok (.iload_n 2, 1) := by decide +kernel
theorem dX12_judge_44 : decode cX12_judge 44 = .ok (.iaload, 1) := by decide +kernel
theorem dX12_judge_45 : decode cX12_judge 45 = .ok (.if_icmp .eq 9, 3) := by decide +kernel
theorem dX12_judge_48 : decode cX12_judge 48 = .ok (.iload_n 2, 1) := by decide +kernel
theorem dX12_judge_49 : decode cX12_judge 49 = .ok (.iconst 3, 1) := by decide +kernel
theorem dX12_judge_50 : decode cX12_judge 50 = .ok (.idiv, 1) := by decide +kernel
theorem dX12_judge_51 : decode cX12_judge 51 = .ok (.iconst 1, 1) := by decide +kernel
theorem dX12_judge_52 : decode cX12_judge 52 = .ok (.iadd, 1) := by decide +kernel
theorem dX12_judge_53 : decode cX12_judge 53 = .ok (.ireturn, 1) := by decide +kernel
theorem dX12_judge_54 : decode cX12_judge 54 = .ok (.iinc 2 1, 3) := by decide +kernel
theorem dX12_judge_57 : decode cX12_judge 57 = .ok (.goto (-34), 3) := by decide +kernel
theorem dX12_judge_60 : decode cX12_judge 60 = .ok (.iconst 0, 1) := by decide +kernel
theorem dX12_judge_61 : decode cX12_judge 61 = .ok (.ireturn, 1) := by decide +kernel
theorem dX12_worths_0 : decode cX12_worths 0 = .ok (.aload_n 0, 1) := by decide +kernel
theorem dX12_worths_1 : decode cX12_worths 1 = .ok (.iload_n 1, 1) := by decide +kernel
theorem dX12_worths_2 : decode cX12_worths 2 = .ok (.invokevirtual 241, 3) := by decide +kernel
theorem dX12_worths_5 : decode cX12_worths 5 = .ok (.ifCond .eq 10, 3) := by decide +kernel
theorem dX12_worths_8 : decode cX12_worths 8 = .ok (.iload_n 2, 1) := by decide +kernel
theorem dX12_worths_9 : decode cX12_worths 9 = .ok (.invokestatic 354, 3) := by decide +kernel
theorem dX12_worths_12 : decode cX12_worths 12 = .ok (.ifCond .ne 5, 3) := by decide +kernel
theorem dX12_worths_15 : decode cX12_worths 15 = .ok (.iconst (-1), 1) := by decide +kernel
theorem dX12_worths_16 : decode cX12_worths 16 = .ok (.ireturn, 1) := by decide +kernel
theorem dX12_worths_17 : decode cX12_worths 17 = .ok (.aload_n 0, 1) := by decide +kernel
theorem dX12_worths_18 : decode cX12_worths 18 = .ok (.iload_n 2, 1) := by decide +kernel
theorem dX12_worths_19 : decode cX12_worths 19 = .ok (.iconst 2, 1) := by decide +kernel
theorem dX12_worths_20 : decode cX12_worths 20 = .ok (.invokevirtual 357, 3) := by decide +kernel
theorem dX12_worths_23 : decode cX12_worths 23 = .ok (.istore_n 3, 1) := by decide +kernel
theorem dX12_worths_24 : decode cX12_worths 24 = .ok (.iload_n 3, 1) := by decide +kernel
theorem dX12_worths_25 : decode cX12_worths 25 = .ok (.ifCond .eq 5, 3) := by decide +kernel
theorem dX12_worths_28 : decode cX12_worths 28 = .ok (.iload_n 3, 1) := by decide +kernel
theorem dX12_worths_29 : decode cX12_worths 29 = .ok (.ireturn, 1) := by decide +kernel
theorem dX12_worths_30 : decode cX12_worths 30 = .ok (.aload_n 0, 1) := by decide +kernel
theorem dX12_worths_31 : decode cX12_worths 31 = .ok (.getfield 71, 3) := by decide +kernel
theorem dX12_worths_34 : decode cX12_worths 34 = .ok (.iload_n 2, 1) := by decide +kernel
theorem dX12_worths_35 : decode cX12_worths 35 = .ok (.iaload, 1) := by decide +kernel
theorem dX12_worths_36 : decode cX12_worths 36 = .ok (.aload_n 0, 1) := by decide +kernel
theorem dX12_worths_37 : decode cX12_worths 37 = .ok (.getfield 96, 3) := by decide +kernel
theorem dX12_worths_40 : decode cX12_worths 40 = .ok (.if_icmp .ge 12, 3) := by decide +kernel
theorem dX12_worths_43 : decode cX12_worths 43 = .ok (.aload_n 0, 1) := by decide +kernel
theorem dX12_worths_44 : decode cX12_worths 44 = .ok (.getfield 71, 3) := by decide +kernel
theorem dX12_worths_47 : decode cX12_worths 47 = .ok (.iload_n 2, 1) := by decide +kernel
theorem dX12_worths_48 : decode cX12_worths 48 = .ok (.iaload, 1) := by decide +kernel
theorem dX12_worths_49 : decode cX12_worths 49 = .ok (.goto 7, 3) := by decide +kernel
theorem dX12_worths_52 : decode cX12_worths 52 = .ok (.aload_n 0, 1) := by decide +kernel
theorem dX12_worths_53 : decode cX12_worths 53 = .ok (.getfield 96, 3) := by decide +kernel
theorem dX12_worths_56 : decode cX12_worths 56 = .ok (.istore 4, 2) := by decide +kernel
theorem dX12_worths_58 : decode cX12_worths 58 = .ok (.iconst 0, 1) := by decide +kernel
theorem dX12_worths_59 : decode cX12_worths 59 = .ok (.istore 5, 2) := by decide +kernel
theorem dX12_worths_61 : decode cX12_worths 61 = .ok (.iload 5, 2) := by decide +kernel
theorem dX12_worths_63 : decode cX12_worths 63 = .ok (.iload 4, 2) := by decide +kernel
theorem dX12_worths_65 : decode cX12_worths 65 = .ok (.if_icmp .ge 66, 3) := by decide +kernel
theorem dX12_worths_68 : decode cX12_worths 68 = .ok (.aload_n 0, 1) := by decide +kernel
theorem dX12_worths_69 : decode cX12_worths 69 = .ok (.getfield 74, 3) := by decide +kernel
theorem dX12_worths_72 : decode cX12_worths 72 = .ok (.bipush 40, 2) := by decide +kernel
theorem dX12_worths_74 : decode cX12_worths 74 = .ok (.iload_n 2, 1) := by decide +kernel
theorem dX12_worths_75 : decode cX12_worths 75 = .ok (.imul, 1) := by decide +kernel
theorem dX12_worths_76 : decode cX12_worths 76 = .ok (.iload 5, 2) := by decide +kernel
theorem dX12_worths_78 : decode cX12_worths 78 = .ok (.iadd, 1) := by decide +kernel
theorem dX12_worths_79 : decode cX12_worths 79 = .ok (.laload, 1) := by decide +kernel
theorem dX12_worths_80 : decode cX12_worths 80 = .ok (.lstore 6, 2) := by decide +kernel
theorem dX12_worths_82 : decode cX12_worths 82 = .ok (.aload_n 0, 1) := by decide +kernel
theorem dX12_worths_83 : decode cX12_worths 83 = .ok (.getfield 25, 3) := by decide +kernel
theorem dX12_worths_86 : decode cX12_worths 86 = .ok (.bipush 6, 2) := by decide +kernel
theorem dX12_worths_88 : decode cX12_worths 88 = .ok (.iload_n 1, 1) := by decide +kernel
theorem dX12_worths_89 : decode cX12_worths 89 = .ok (.imul, 1) := by decide +kernel
theorem dX12_worths_90 : decode cX12_worths 90 = .ok (.iload 5, 2) := by decide +kernel
theorem dX12_worths_92 : decode cX12_worths 92 = .ok (.iadd, 1) := by decide +kernel
theorem dX12_worths_93 : decode cX12_worths 93 = .ok (.lload 6, 2) := by decide +kernel
theorem dX12_worths_95 : decode cX12_worths 95 = .ok (.ldc2_w 360, 3) := by decide +kernel
theorem dX12_worths_98 : decode cX12_worths 98 = .ok (.lcmp, 1) := by decide +kernel
theorem dX12_worths_99 : decode cX12_worths 99 = .ok (.ifCond .ge 8, 3) := by decide +kernel
theorem dX12_worths_102 : decode cX12_worths 102 = .ok (.bipush (-9), 2) := by decide +kernel
theorem dX12_worths_104 : decode cX12_worths 104 = .ok (.goto 20, 3) := by decide +kernel
theorem dX12_worths_107 : decode cX12_worths 107 = .ok (.lload 6, 2) := by decide +kernel
theorem dX12_worths_109 : decode cX12_worths 109 = .ok (.ldc2_w 362, 3) := by decide +kernel
theorem dX12_worths_112 : decode cX12_worths 112 = .ok (.lcmp, 1) := by decide +kernel
theorem dX12_worths_113 : decode cX12_worths 113 = .ok (.ifCond .le 8, 3) := by decide +kernel
theorem dX12_worths_116 : decode cX12_worths 116 = .ok (.bipush 9, 2) := by decide +kernel
theorem dX12_worths_118 : decode cX12_worths 118 = .ok (.goto 6, 3) := by decide +kernel
theorem dX12_worths_121 : decode cX12_worths 121 = .ok (.lload 6, 2) := by decide +kernel
theorem dX12_worths_123 : decode cX12_worths 123 = .ok (.l2i, 1) := by decide +kernel
theorem dX12_worths_124 : decode cX12_worths 124 = .ok (.iastore, 1) := by decide +kernel
theorem dX12_worths_125 : decode cX12_worths 125 = .ok (.iinc 5 1, 3) := by decide +kernel
theorem dX12_worths_128 : decode cX12_worths 128 = .ok (.goto (-67), 3) := by decide +kernel
theorem dX12_worths_131 : decode cX12_worths 131 = .ok (.iload 4, 2) := by decide +kernel
theorem dX12_worths_133 : decode cX12_worths 133 = .ok (.ireturn, 1) := by decide +kernel
theorem dX12_isShelf_0 : decode cX12_isShelf 0 = .ok (.iload_n 0, 1) := by decide +kernel
theorem dX12_isShelf_1 : decode cX12_isShelf 1 = .ok (.iconst 0, 1) := by decide +kernel
theorem dX12_isShelf_2 : decode cX12_isShelf 2 = .ok (.iconst 3, 1) := by decide +kernel
theorem dX12_isShelf_3 : decode cX12_isShelf 3 = .ok (.invokestatic 99, 3) := by decide +kernel
theorem dX12_isShelf_6 : decode cX12_isShelf 6 = .ok (.ireturn, 1) := by decide +kernel
theorem dX12_sheet_0 : decode cX12_sheet 0 = .ok (.iload_n 1, 1) := by decide +kernel
theorem dX12_sheet_1 : decode cX12_sheet 1 = .ok (.invokestatic 354, 3) := by decide +kernel
theorem dX12_sheet_4 : decode cX12_sheet 4 = .ok (.ifCond .eq 22, 3) := by decide +kernel
theorem dX12_sheet_7 : decode cX12_sheet 7 = .ok (.iload_n 2, 1) := by decide +kernel
theorem dX12_sheet_8 : decode cX12_sheet 8 = .ok (.iconst (-1), 1) := by decide +kernel
theorem dX12_sheet_9 : decode cX12_sheet 9 = .ok (.iconst 3, 1) := by decide +kernel
theorem dX12_sheet_10 : decode cX12_sheet 10 = .ok (.invokestatic 99, 3) := by decide +kernel
theorem dX12_sheet_13 : decode cX12_sheet 13 = .ok (.ifCond .eq 13, 3) := by decide +kernel
theorem dX12_sheet_16 : decode cX12_sheet 16 = .ok (.iload_n 2, 1) := by decide +kernel
theorem dX12_sheet_17 : decode cX12_sheet 17 = .ok (.ifCond .lt 11, 3) := by decide +kernel
theorem dX12_sheet_20 : decode cX12_sheet 20 = .ok (.iload_n 3, 1) := by decide +kernel
theorem dX12_sheet_21 : decode cX12_sheet 21 = .ok (.bipush 40, 2) := by decide +kernel
theorem dX12_sheet_23 : decode cX12_sheet 23 = .ok (.if_icmp .le 5, 3) := by decide +kernel
theorem dX12_sheet_26 : decode cX12_sheet 26 = .ok (.iconst (-1), 1) := by decide +kernel
theorem dX12_sheet_27 : decode cX12_sheet 27 = .ok (.ireturn, 1) := by decide +kernel
theorem dX12_sheet_28 : decode cX12_sheet 28 = .ok (.iload_n 2, 1) := by decide +kernel
theorem dX12_sheet_29 : decode cX12_sheet 29 = .ok (.ifCond .lt 10, 3) := by decide +kernel
theorem dX12_sheet_32 : decode cX12_sheet 32 = .ok (.iload_n 3, 1) := by decide +kernel
theorem dX12_sheet_33 : decode cX12_sheet 33 = .ok (.ifCond .ge 6, 3) := by decide +kernel
theorem dX12_sheet_36 : decode cX12_sheet 36 = .ok (.bipush (-14), 2) := by decide +kernel
theorem dX12_sheet_38 : decode cX12_sheet 38 = .ok (.ireturn, 1) := by decide +kernel
theorem dX12_sheet_39 : decode cX12_sheet 39 = .ok (.aload_n 0, 1) := by decide +kernel
theorem dX12_sheet_40 : decode cX12_sheet 40 = .ok (.getfield 68, 3) := by decide +kernel
theorem dX12_sheet_43 : decode cX12_sheet 43 = .ok (.iload_n 1, 1) := by decide +kernel
theorem dX12_sheet_44 : decode cX12_sheet 44 = .ok (.iload_n 2, 1) := by decide +kernel
theorem dX12_sheet_45 : decode cX12_sheet 45 = .ok (.iastore, 1) := by decide +kernel
theorem dX12_sheet_46 : decode cX12_sheet 46 = .ok (.aload_n 0, 1) := by decide +kernel
theorem dX12_sheet_47 : decode cX12_sheet 47 = .ok (.getfield 71, 3) := by decide +kernel
theorem dX12_sheet_50 : decode cX12_sheet 50 = .ok (.iload_n 1, 1) := by decide +kernel
theorem dX12_sheet_51 : decode cX12_sheet 51 = .ok (.iload_n 2, 1) := by decide +kernel
theorem dX12_sheet_52 : decode cX12_sheet 52 = .ok (.ifCond .ge 7, 3) := by decide +kernel
theorem dX12_sheet_55 : decode cX12_sheet 55 = .ok (.iconst 0, 1) := by decide +kernel
theorem dX12_sheet_56 : decode cX12_sheet 56 = .ok (.goto 4, 3) := by decide +kernel
theorem dX12_sheet_59 : decode cX12_sheet 59 = .ok (.iload_n 3, 1) := by decide +kernel
theorem dX12_sheet_60 : decode cX12_sheet 60 = .ok (.iastore, 1) := by decide +kernel
theorem dX12_sheet_61 : decode cX12_sheet 61 = .ok (.iconst 0, 1) := by decide +kernel
theorem dX12_sheet_62 : decode cX12_sheet 62 = .ok (.istore 4, 2) := by decide +kernel
theorem dX12_sheet_64 : decode cX12_sheet 64 = .ok (.iload 4, 2) := by decide +kernel
theorem dX12_sheet_66 : decode cX12_sheet 66 = .ok (.bipush 40, 2) := by decide +kernel
theorem dX12_sheet_68 : decode cX12_sheet 68 = .ok (.if_icmp .ge 22, 3) := by decide +kernel
theorem dX12_sheet_71 : decode cX12_sheet 71 = .ok (.aload_n 0, 1) := by decide +kernel
theorem dX12_sheet_72 : decode cX12_sheet 72 = .ok (.getfield 74, 3) := by decide +kernel
theorem dX12_sheet_75 : decode cX12_sheet 75 = .ok (.bipush 40, 2) := by decide +kernel
theorem dX12_sheet_77 : decode cX12_sheet 77 = .ok (.iload_n 1, 1) := by decide +kernel
theorem dX12_sheet_78 : decode cX12_sheet 78 = .ok (.imul, 1) := by decide +kernel
theorem dX12_sheet_79 : decode cX12_sheet 79 = .ok (.iload 4, 2) := by decide +kernel
theorem dX12_sheet_81 : decode cX12_sheet 81 = .ok (.iadd, 1) := by decide +kernel
theorem dX12_sheet_82 : decode cX12_sheet 82 = .ok (.lconst 0, 1) := by decide +kernel
theorem dX12_sheet_83 : decode cX12_sheet 83 = .ok (.lastore, 1) := by decide +kernel
theorem dX12_sheet_84 : decode cX12_sheet 84 = .ok (.iinc 4 1, 3) := by decide +kernel
theorem dX12_sheet_87 : decode cX12_sheet 87 = .ok (.goto (-23), 3) := by decide +kernel
theorem dX12_sheet_90 : decode cX12_sheet 90 = .ok (.iconst 1, 1) := by decide +kernel
theorem dX12_sheet_91 : decode cX12_sheet 91 = .ok (.ireturn, 1) := by decide +kernel
theorem dX12_put_0 : decode cX12_put 0 = .ok (.iload_n 1, 1) := by decide +kernel
theorem dX12_put_1 : decode cX12_put 1 = .ok (.invokestatic 354, 3) := by decide +kernel
theorem dX12_put_4 : decode cX12_put 4 = .ok (.ifCond .ne 5, 3) := by decide +kernel
theorem dX12_put_7 : decode cX12_put 7 = .ok (.iconst (-1), 1) := by decide +kernel
theorem dX12_put_8 : decode cX12_put 8 = .ok (.ireturn, 1) := by decide +kernel
theorem dX12_put_9 : decode cX12_put 9 = .ok (.aload_n 0, 1) := by decide +kernel
theorem dX12_put_10 : decode cX12_put 10 = .ok (.getfield 68, 3) := by decide +kernel
theorem dX12_put_13 : decode cX12_put 13 = .ok (.iload_n 1, 1) := by decide +kernel
theorem dX12_put_14 : decode cX12_put 14 = .ok (.iaload, 1) := by decide +kernel
theorem dX12_put_15 : decode cX12_put 15 = .ok (.ifCond .ge 6, 3) := by decide +kernel
theorem dX12_put_18 : decode cX12_put 18 = .ok (.bipush (-11), 2) := by decide +kernel
theorem dX12_put_20 : decode cX12_put 20 = .ok (.ireturn, 1) := by decide +kernel
theorem dX12_put_21 : decode cX12_put 21 = .ok (.iload_n 2, 1) := by decide +kernel
theorem dX12_put_22 : decode cX12_put 22 = .ok (.iconst 0, 1) := by decide +kernel
theorem dX12_put_23 : decode cX12_put 23 = .ok (.aload_n 0, 1) := by decide +kernel
theorem dX12_put_24 : decode cX12_put 24 = .ok (.getfield 71, 3) := by decide +kernel
theorem dX12_put_27 : decode cX12_put 27 = .ok (.iload_n 1, 1) := by decide +kernel
theorem dX12_put_28 : decode cX12_put 28 = .ok (.iaload, 1) := by decide +kernel
theorem dX12_put_29 : decode cX12_put 29 = .ok (.iconst 1, 1) := by decide +kernel
theorem dX12_put_30 : decode cX12_put 30 = .ok (.isub, 1) := by decide +kernel
theorem dX12_put_31 : decode cX12_put 31 = .ok (.invokestatic 99, 3) := by decide +kernel
theorem dX12_put_34 : decode cX12_put 34 = .ok (.ifCond .ne 6, 3) := by decide +kernel
theorem dX12_put_37 : decode cX12_put 37 = .ok (.bipush (-12), 2) := by decide +kernel
theorem dX12_put_39 : decode cX12_put 39 = .ok (.ireturn, 1) := by decide +kernel
theorem dX12_put_40 : decode cX12_put 40 = .ok (.aload_n 0, 1) := by decide +kernel
theorem dX12_put_41 : decode cX12_put 41 = .ok (.getfield 74, 3) := by decide +kernel
theorem dX12_put_44 : decode cX12_put 44 = .ok (.bipush 40, 2) := by decide +kernel
theorem dX12_put_46 : decode cX12_put 46 = .ok (.iload_n 1, 1) := by decide +kernel
theorem dX12_put_47 : decode cX12_put 47 = .ok (.imul, 1) := by decide +kernel
theorem dX12_put_48 : decode cX12_put 48 = .ok (.iload_n 2, 1) := by decide +kernel
theorem dX12_put_49 : decode cX12_put 49 = .ok (.iadd, 1) := by decide +kernel
theorem dX12_put_50 : decode cX12_put 50 = .ok (.aload_n 0, 1) := by decide +kernel
theorem dX12_put_51 : decode cX12_put 51 = .ok (.getfield 68, 3) := by decide +kernel
theorem dX12_put_54 : decode cX12_put 54 = .ok (.iload_n 1, 1) := by decide +kernel
theorem dX12_put_55 : decode cX12_put 55 = .ok (.iaload, 1) := by decide +kernel
theorem dX12_put_56 : decode cX12_put 56 = .ok (.ifCond .ne 9, 3) := by decide +kernel
theorem dX12_put_59 : decode cX12_put 59 = .ok (.iload_n 3, 1) := by decide +kernel
theorem dX12_put_60 : decode cX12_put 60 = .ok (.i2b, 1) := by decide +kernel
theorem dX12_put_61 : decode cX12_put 61 = .ok (.i2l, 1) := by decide +kernel
theorem dX12_put_62 : decode cX12_put 62 = .ok (.goto 21, 3) := by decide +kernel
theorem dX12_put_65 : decode cX12_put 65 = .ok (.aload_n 0, 1) := by decide +kernel
theorem dX12_put_66 : decode cX12_put 66 = .ok (.getfield 68, 3) := by decide +kernel
theorem dX12_put_69 : decode cX12_put 69 = .ok (.iload_n 1, 1) := by decide +kernel
theorem dX12_put_70 : decode cX12_put 70 = .ok (.iaload, 1) := by decide +kernel
theorem dX12_put_71 : decode cX12_put 71 = .ok (.iconst 1, 1) := by decide +kernel
theorem dX12_put_72 : decode cX12_put 72 = .ok (.if_icmp .ne 9, 3) := by decide +kernel
theorem dX12_put_75 : decode cX12_put 75 = .ok (.iload_n 3, 1) := by decide +kernel
theorem dX12_put_76 : decode cX12_put 76 = .ok (.i2s, 1) := by decide +kernel
theorem dX12_put_77 : decode cX12_put 77 = .ok (.i2l, 1) := by decide +kernel
theorem dX12_put_78 : decode cX12_put 78 = .ok (.goto 5, 3) := by decide +kernel
theorem dX12_put_81 : decode cX12_put 81 = .ok (.iload_n 3, 1) := by decide +kernel
theorem dX12_put_82 : decode cX12_put 82 = .ok (.i2l, 1) := by decide +kernel
theorem dX12_put_83 : decode cX12_put 83 = .ok (.lastore, 1) := by decide +kernel
theorem dX12_put_84 : decode cX12_put 84 = .ok (.iconst 1, 1) := by decide +kernel
theorem dX12_put_85 : decode cX12_put 85 = .ok (.ireturn, 1) := by decide +kernel
theorem dX12_lacksSort_0 : decode cX12_lacksSort 0 = .ok (.aload_n 0, 1) := by decide +kernel
theorem dX12_lacksSort_1 : decode cX12_lacksSort 1 = .ok (.getfield 68, 3) := by decide +kernel
theorem dX12_lacksSort_4 : decode cX12_lacksSort 4 = .ok (.iload_n 1, 1) := by decide +kernel
theorem dX12_lacksSort_5 : decode cX12_lacksSort 5 = .ok (.iaload, 1) := by decide +kernel
theorem dX12_lacksSort_6 : decode cX12_lacksSort 6 = .ok (.ifCond .ge 8, 3) := by decide +kernel
theorem dX12_lacksSort_9 : decode cX12_lacksSort 9 = .ok (.bipush (-11), 2) := by decide +kernel
theorem dX12_lacksSort_11 : decode cX12_lacksSort 11 = .ok (.goto 19, 3) := by decide +kernel
theorem dX12_lacksSort_14 : decode cX12_lacksSort 14 = .ok (.aload_n 0, 1) := by decide +kernel
theorem dX12_lacksSort_15 : decode cX12_lacksSort 15 = .ok (.getfield 68, 3) := by decide +kernel
theorem dX12_lacksSort_18 : decode cX12_lacksSort 18 = .ok (.iload_n 1, 1) := by decide +kernel
theorem dX12_lacksSort_19 : decode cX12_lacksSort 19 = .ok (.iaload, 1) := by decide +kernel
theorem dX12_lacksSort_20 : decode cX12_lacksSort 20 = .ok (.iload_n 2, 1) := by decide +kernel
theorem dX12_lacksSort_21 : decode cX12_lacksSort 21 = .ok (.if_icmp .eq 8, 3) := by decide +kernel
theorem dX12_lacksSort_24 : decode cX12_lacksSort 24 = .ok (.bipush (-13), 2) := by decide +kernel
theorem dX12_lacksSort_26 : decode cX12_lacksSort 26 = .ok (.goto 4, 3) := by decide +kernel
theorem dX12_lacksSort_29 : decode cX12_lacksSort 29 = .ok (.iconst 0, 1) := by decide +kernel
theorem dX12_lacksSort_30 : decode cX12_lacksSort 30 = .ok (.ireturn, 1) := by decide +kernel
theorem dX12_item_0 : decode cX12_item 0 = .ok (.iload_n 1, 1) := by decide +kernel
theorem dX12_item_1 : decode cX12_item 1 = .ok (.invokestatic 354, 3) := by decide +kernel
theorem dX12_item_4 : decode cX12_item 4 = .ok (.ifCond .eq 12, 3) := by decide +kernel
theorem dX12_item_7 : decode cX12_item 7 = .ok (.iload_n 2, 1) := by decide +kernel
theorem dX12_item_8 : decode cX12_item 8 = .ok (.iconst 0, 1) := by decide +kernel
theorem dX12_item_9 : decode cX12_item 9 = .ok (.iconst 3, 1) := by decide +kernel
theorem dX12_item_10 : decode cX12_item 10 = .ok (.invokestatic 99, 3) := by decide +kernel
theorem dX12_item_13 : decode cX12_item 13 = .ok (.ifCond .ne 5, 3) := by decide +kernel
theorem dX12_item_16 : decode cX12_item 16 = .ok (.iconst (-1), 1) := by decide +kernel
theorem dX12_item_17 : decode cX12_item 17 = .ok (.ireturn, 1) := by decide +kernel
theorem dX12_item_18 : decode cX12_item 18 = .ok (.aload_n 0, 1) := by decide +kernel
theorem dX12_item_19 : decode cX12_item 19 = .ok (.iload_n 1, 1) := by decide +kernel
theorem dX12_item_20 : decode cX12_item 20 = .ok (.iload_n 2, 1) := by decide +kernel
theorem dX12_item_21 : decode cX12_item 21 = .ok (.invokevirtual 357, 3) := by decide +kernel
theorem dX12_item_24 : decode cX12_item 24 = .ok (.istore 4, 2) := by decide +kernel
theorem dX12_item_26 : decode cX12_item 26 = .ok (.iload 4, 2) := by decide +kernel
theorem dX12_item_28 : decode cX12_item 28 = .ok (.ifCond .eq 6, 3) := by decide +kernel
theorem dX12_item_31 : decode cX12_item 31 = .ok (.iload 4, 2) := by decide +kernel
theorem dX12_item_33 : decode cX12_item 33 = .ok (.ireturn, 1) := by decide +kernel
theorem dX12_item_34 : decode cX12_item 34 = .ok (.iload_n 3, 1) := by decide +kernel
theorem dX12_item_35 : decode cX12_item 35 = .ok (.iconst 0, 1) := by decide +kernel
theorem dX12_item_36 : decode cX12_item 36 = .ok (.aload_n 0, 1) := by decide +kernel
theorem dX12_item_37 : decode cX12_item 37 = .ok (.getfield 71, 3) := by decide +kernel
theorem dX12_item_40 : decode cX12_item 40 = .ok (.iload_n 1, 1) := by decide +kernel
theorem dX12_item_41 : decode cX12_item 41 = .ok (.iaload, 1) := by decide +kernel
theorem dX12_item_42 : decode cX12_item 42 = .ok (.iconst 1, 1) := by decide +kernel
theorem dX12_item_43 : decode cX12_item 43 = .ok (.isub, 1) := by decide +kernel
theorem dX12_item_44 : decode cX12_item 44 = .ok (.invokestatic 99, 3) := by decide +kernel
theorem dX12_item_47 : decode cX12_item 47 = .ok (.ifCond .eq 18, 3) := by decide +kernel
theorem dX12_item_50 : decode cX12_item 50 = .ok (.aload_n 0, 1) := by decide +kernel
theorem dX12_item_51 : decode cX12_item 51 = .ok (.getfield 74, 3) := by decide +kernel
theorem dX12_item_54 : decode cX12_item 54 = .ok (.bipush 40, 2) := by decide +kernel
theorem dX12_item_56 : decode cX12_item 56 = .ok (.iload_n 1, 1) := by decide +kernel
theorem dX12_item_57 : decode cX12_item 57 = .ok (.imul, 1) := by decide +kernel
theorem dX12_item_58 : decode cX12_item 58 = .ok (.iload_n 3, 1) := by decide +kernel
theorem dX12_item_59 : decode cX12_item 59 = .ok (.iadd, 1) := by decide +kernel
theorem dX12_item_60 : decode cX12_item 60 = .ok (.laload, 1) := by decide +kernel
theorem dX12_item_61 : decode cX12_item 61 = .ok (.l2i, 1) := by decide +kernel
theorem dX12_item_62 : decode cX12_item 62 = .ok (.goto 5, 3) := by decide +kernel
theorem dX12_item_65 : decode cX12_item 65 = .ok (.bipush (-12), 2) := by decide +kernel
theorem dX12_item_67 : decode cX12_item 67 = .ok (.ireturn, 1) := by decide +kernel
theorem dX12_isHeld_0 : decode cX12_isHeld 0 = .ok (.iload_n 1, 1) := by decide +kernel
theorem dX12_isHeld_1 : decode cX12_isHeld 1 = .ok (.ifCond .ne 11, 3) := by decide +kernel
theorem dX12_isHeld_4 : decode cX12_isHeld 4 = .ok (.aload_n 0, 1) := by decide +kernel
theorem dX12_isHeld_5 : decode cX12_isHeld 5 = .ok (.iload_n 2, 1) := by decide +kernel
theorem dX12_isHeld_6 : decode cX12_isHeld 6 = .ok (.invokevirtual 238, 3) := by decide +kernel
theorem dX12_isHeld_9 : decode cX12_isHeld 9 = .ok (.goto 25, 3) := by decide +kernel
theorem dX12_isHeld_12 : decode cX12_isHeld 12 = .ok (.iload_n 1, 1) := by decide +kernel
theorem dX12_isHeld_13 : decode cX12_isHeld 13 = .ok (.iconst 1, 1) := by decide +kernel
theorem dX12_isHeld_14 : decode cX12_isHeld 14 = .ok (.if_icmp .ne 10, 3) := by decide +kernel
theorem dX12_isHeld_17 : decode cX12_isHeld 17 = .ok (.iload_n 2, 1) := by decide +kernel
theorem dX12_isHeld_18 : decode cX12_isHeld 18 = .ok (.invokestatic 354, 3) := by decide +kernel
theorem dX12_isHeld_21 : decode cX12_isHeld 21 = .ok (.goto 13, 3) := by decide +kernel
theorem dX12_isHeld_24 : decode cX12_isHeld 24 = .ok (.iload_n 1, 1) := by decide +kernel
theorem dX12_isHeld_25 : decode cX12_isHeld 25 = .ok (.iconst 2, 1) := by decide +kernel
theorem dX12_isHeld_26 : decode cX12_isHeld 26 = .ok (.if_icmp .ne 7, 3) := by decide +kernel
theorem dX12_isHeld_29 : decode cX12_isHeld 29 = .ok (.iconst 1, 1) := by decide +kernel
theorem dX12_isHeld_30 : decode cX12_isHeld 30 = .ok (.goto 4, 3) := by decide +kernel
theorem dX12_isHeld_33 : decode cX12_isHeld 33 = .ok (.iconst 0, 1) := by decide +kernel
theorem dX12_isHeld_34 : decode cX12_isHeld 34 = .ok (.ireturn, 1) := by decide +kernel
theorem dX12_shelf_0 : decode cX12_shelf 0 = .ok (.iload_n 1, 1) := by decide +kernel
theorem dX12_shelf_1 : decode cX12_shelf 1 = .ok (.invokestatic 354, 3) := by decide +kernel
theorem dX12_shelf_4 : decode cX12_shelf 4 = .ok (.ifCond .eq 12, 3) := by decide +kernel
theorem dX12_shelf_7 : decode cX12_shelf 7 = .ok (.aload_n 0, 1) := by decide +kernel
theorem dX12_shelf_8 : decode cX12_shelf 8 = .ok (.iload_n 2, 1) := by decide +kernel
theorem dX12_shelf_9 : decode cX12_shelf 9 = .ok (.iload_n 3, 1) := by decide +kernel
theorem dX12_shelf_10 : decode cX12_shelf 10 = .ok (.invokevirtual 364, 3) := by decide +kernel
theorem dX12_shelf_13 : decode cX12_shelf 13 = .ok (.ifCond .ne 5, 3) := by decide +kernel
theorem dX12_shelf_16 : decode cX12_shelf 16 = .ok (.iconst (-1), 1) := by decide +kernel
theorem dX12_shelf_17 : decode cX12_shelf 17 = .ok (.ireturn, 1) := by decide +kernel
theorem dX12_shelf_18 : decode cX12_shelf 18 = .ok (.aload_n 0, 1) := by decide +kernel
theorem dX12_shelf_19 : decode cX12_shelf 19 = .ok (.getfield 78, 3) := by decide +kernel
theorem dX12_shelf_22 : decode cX12_shelf 22 = .ok (.iload_n 1, 1) := by decide +kernel
theorem dX12_shelf_23 : decode cX12_shelf 23 = .ok (.iload_n 2, 1) := by decide +kernel
theorem dX12_shelf_24 : decode cX12_shelf 24 = .ok (.iconst 2, 1) := by decide +kernel
theorem dX12_shelf_25 : decode cX12_shelf 25 = .ok (.if_icmp .eq 17, 3) := by decide +kernel
theorem dX12_shelf_28 : decode cX12_shelf 28 = .ok (.iload_n 2, 1) := by decide +kernel
theorem dX12_shelf_29 : decode cX12_shelf 29 = .ok (.iconst 1, 1) := by decide +kernel
theorem dX12_shelf_30 : decode cX12_shelf 30 = .ok (.if_icmp .ne 16, 3) := by decide +kernel
theorem dX12_shelf_33 : decode cX12_shelf 33 = .ok (.aload_n 0, 1) := by decide +kernel
theorem dX12_shelf_34 : decode cX12_shelf 34 = .ok (.getfield 68, 3) := by decide +kernel
theorem dX12_shelf_37 : decode cX12_shelf 37 = .ok (.iload_n 3, 1) := by decide +kernel
theorem dX12_shelf_38 : decode cX12_shelf 38 = .ok (.iaload, 1) := by decide +kernel
theorem dX12_shelf_39 : decode cX12_shelf 39 = .ok (.ifCond .ge 7, 3) := by decide +kernel
theorem dX12_shelf_42 : decode cX12_shelf 42 = .ok (.iconst (-1), 1) := by decide +kernel
theorem dX12_shelf_43 : decode cX12_shelf 43 = .ok (.goto 4, 3) := by decide +kernel
theorem dX12_shelf_46 : decode cX12_shelf 46 = .ok (.iload_n 2, 1) := by decide +kernel
theorem dX12_shelf_47 : decode cX12_shelf 47 = .ok (.iastore, 1) := by decide +kernel
theorem dX12_shelf_48 : decode cX12_shelf 48 = .ok (.aload_n 0, 1) := by decide +kernel
theorem dX12_shelf_49 : decode cX12_shelf 49 = .ok (.getfield 81, 3) := by decide +kernel
theorem dX12_shelf_52 : decode cX12_shelf 52 = .ok (.iload_n 1, 1) := by decide +kernel
theorem dX12_shelf_53 : decode cX12_shelf 53 = .ok (.iload_n 2, 1) := by decide +kernel
theorem dX12_shelf_54 : decode cX12_shelf 54 = .ok (.iconst 1, 1) := by decide +kernel
theorem dX12_shelf_55 : decode cX12_shelf 55 = .ok (.if_icmp .ne 12, 3) := by decide +kernel
theorem dX12_shelf_58 : decode cX12_shelf 58 = .ok (.aload_n 0, 1) := by decide +kernel
theorem dX12_shelf_59 : decode cX12_shelf 59 = .ok (.getfield 68, 3) := by decide +kernel
theorem dX12_shelf_62 : decode cX12_shelf 62 = .ok (.iload_n 3, 1) := by decide +kernel
theorem dX12_shelf_63 : decode cX12_shelf 63 = .ok (.iaload, 1) := by decide +kernel
theorem dX12_shelf_64 : decode cX12_shelf 64 = .ok (.goto 4, 3) := by decide +kernel
theorem dX12_shelf_67 : decode cX12_shelf 67 = .ok (.iload_n 3, 1) := by decide +kernel
theorem dX12_shelf_68 : decode cX12_shelf 68 = .ok (.iastore, 1) := by decide +kernel
theorem dX12_shelf_69 : decode cX12_shelf 69 = .ok (.aload_n 0, 1) := by decide +kernel
theorem dX12_shelf_70 : decode cX12_shelf 70 = .ok (.getfield 84, 3) := by decide +kernel
theorem dX12_shelf_73 : decode cX12_shelf 73 = .ok (.iload_n 1, 1) := by decide +kernel
theorem dX12_shelf_74 : decode cX12_shelf 74 = .ok (.iload_n 2, 1) := by decide +kernel
theorem dX12_shelf_75 : decode cX12_shelf 75 = .ok (.iconst 1, 1) := by decide +kernel
theorem dX12_shelf_76 : decode cX12_shelf 76 = .ok (.if_icmp .ne 12, 3) := by decide +kernel
theorem dX12_shelf_79 : decode cX12_shelf 79 = .ok (.aload_n 0, 1) := by decide +kernel
theorem dX12_shelf_80 : decode cX12_shelf 80 = .ok (.getfield 71, 3) := by decide +kernel
theorem dX12_shelf_83 : decode cX12_shelf 83 = .ok (.iload_n 3, 1) := by decide +kernel
theorem dX12_shelf_84 : decode cX12_shelf 84 = .ok (.iaload, 1) := by decide +kernel
theorem dX12_shelf_85 : decode cX12_shelf 85 = .ok (.goto 4, 3) := by decide +kernel
theorem dX12_shelf_88 : decode cX12_shelf 88 = .ok (.iconst 0, 1) := by decide +kernel
theorem dX12_shelf_89 : decode cX12_shelf 89 = .ok (.iastore, 1) := by decide +kernel
theorem dX12_shelf_90 : decode cX12_shelf 90 = .ok (.iconst 1, 1) := by decide +kernel
theorem dX12_shelf_91 : decode cX12_shelf 91 = .ok (.ireturn, 1) := by decide +kernel
theorem dX12_kindOn_0 : decode cX12_kindOn 0 = .ok (.aload_n 0, 1) := by decide +kernel
theorem dX12_kindOn_1 : decode cX12_kindOn 1 = .ok (.getfield 78, 3) := by decide +kernel
theorem dX12_kindOn_4 : decode cX12_kindOn 4 = .ok (.iload_n 1, 1) := by decide +kernel
theorem dX12_kindOn_5 : decode cX12_kindOn 5 = .ok (.iaload, 1) := by decide +kernel
theorem dX12_kindOn_6 : decode cX12_kindOn 6 = .ok (.ifCond .eq 19, 3) := by decide +kernel
theorem dX12_kindOn_9 : decode cX12_kindOn 9 = .ok (.aload_n 0, 1) := by decide +kernel
theorem dX12_kindOn_10 : decode cX12_kindOn 10 = .ok (.getfield 78, 3) := by decide +kernel
theorem dX12_kindOn_13 : decode cX12_kindOn 13 = .ok (.iload_n 1, 1) := by decide +kernel
theorem dX12_kindOn_14 : decode cX12_kindOn 14 = .ok (.iaload, 1) := by decide +kernel
theorem dX12_kindOn_15 : decode cX12_kindOn 15 = .ok (.ifCond .ge 7, 3) := by decide +kernel
theorem dX12_kindOn_18 : decode cX12_kindOn 18 = .ok (.iconst (-1), 1) := by decide +kernel
theorem dX12_kindOn_19 : decode cX12_kindOn 19 = .ok (.goto 5, 3) := by decide +kernel
theorem dX12_kindOn_22 : decode cX12_kindOn 22 = .ok (.bipush 9, 2) := by decide +kernel
theorem dX12_kindOn_24 : decode cX12_kindOn 24 = .ok (.ireturn, 1) := by decide +kernel
theorem dX12_kindOn_25 : decode cX12_kindOn 25 = .ok (.aload_n 0, 1) := by decide +kernel
theorem dX12_kindOn_26 : decode cX12_kindOn 26 = .ok (.aload_n 0, 1) := by decide +kernel
theorem dX12_kindOn_27 : decode cX12_kindOn 27 = .ok (.getfield 81, 3) := by decide +kernel
theorem dX12_kindOn_30 : decode cX12_kindOn 30 = .ok (.iload_n 1, 1) := by decide +kernel
theorem dX12_kindOn_31 : decode cX12_kindOn 31 = .ok (.iaload, 1) := by decide +kernel
theorem dX12_kindOn_32 : decode cX12_kindOn 32 = .ok (.invokevirtual 238, 3) := by decide +kernel
theorem dX12_kindOn_35 : decode cX12_kindOn 35 = .ok (.ifCond .eq 17, 3) := by decide +kernel
theorem dX12_kindOn_38 : decode cX12_kindOn 38 = .ok (.aload_n 0, 1) := by decide +kernel
theorem dX12_kindOn_39 : decode cX12_kindOn 39 = .ok (.getfield 7, 3) := by decide +kernel
theorem dX12_kindOn_42 : decode cX12_kindOn 42 = .ok (.aload_n 0, 1) := by decide +kernel
theorem dX12_kindOn_43 : decode cX12_kindOn 43 = .ok (.getfield 81, 3) := by decide +kernel
theorem dX12_kindOn_46 : decode cX12_kindOn 46 = .ok (.iload_n 1, 1) := by decide +kernel
theorem dX12_kindOn_47 : decode cX12_kindOn 47 = .ok (.iaload, 1) := by decide +kernel
theorem dX12_kindOn_48 : decode cX12_kindOn 48 = .ok (.iaload, 1) := by decide +kernel
theorem dX12_kindOn_49 : decode cX12_kindOn 49 = .ok (.goto 4, 3) := by decide +kernel
theorem dX12_kindOn_52 : decode cX12_kindOn 52 = .ok (.iconst (-1), 1) := by decide +kernel
theorem dX12_kindOn_53 : decode cX12_kindOn 53 = .ok (.ireturn, 1) := by decide +kernel
theorem dX12_isUnder_0 : decode cX12_isUnder 0 = .ok (.iload_n 1, 1) := by decide +kernel
theorem dX12_isUnder_1 : decode cX12_isUnder 1 = .ok (.ifCond .eq 28, 3) := by decide +kernel
theorem dX12_isUnder_4 : decode cX12_isUnder 4 = .ok (.iload_n 1, 1) := by decide +kernel
theorem dX12_isUnder_5 : decode cX12_isUnder 5 = .ok (.iload_n 0, 1) := by decide +kernel
theorem dX12_isUnder_6 : decode cX12_isUnder 6 = .ok (.if_icmp .eq 23, 3) := by decide +kernel
theorem dX12_isUnder_9 : decode cX12_isUnder 9 = .ok (.iload_n 1, 1) := by decide +kernel
theorem dX12_isUnder_10 : decode cX12_isUnder 10 = .ok (.iconst 1, 1) := by decide +kernel
theorem dX12_isUnder_11 : decode cX12_isUnder 11 = .ok (.if_icmp .ne 8, 3) := by decide +kernel
theorem dX12_isUnder_14 : decode cX12_isUnder 14 = .ok (.iload_n 0, 1) := by decide +kernel
theorem dX12_isUnder_15 : decode cX12_isUnder 15 = .ok (.iconst 4, 1) := by decide +kernel
theorem dX12_isUnder_16 : decode cX12_isUnder 16 = .ok (.if_icmp .eq 13, 3) := by decide +kernel
theorem dX12_isUnder_19 : decode cX12_isUnder 19 = .ok (.iload_n 1, 1) := by decide +kernel
theorem dX12_isUnder_20 : decode cX12_isUnder 20 = .ok (.iconst 2, 1) := by decide +kernel
theorem dX12_isUnder_21 : decode cX12_isUnder 21 = .ok (.if_icmp .ne 12, 3) := by decide +kernel
theorem dX12_isUnder_24 : decode cX12_isUnder 24 = .ok (.iload_n 0, 1) := by decide +kernel
theorem dX12_isUnder_25 : decode cX12_isUnder 25 = .ok (.iconst 3, 1) := by decide +kernel
theorem dX12_isUnder_26 : decode cX12_isUnder 26 = .ok (.if_icmp .ne 7, 3) := by decide +kernel
theorem dX12_isUnder_29 : decode cX12_isUnder 29 = .ok (.iconst 1, 1) := by decide +kernel
theorem dX12_isUnder_30 : decode cX12_isUnder 30 = .ok (.goto 4, 3) := by decide +kernel
theorem dX12_isUnder_33 : decode cX12_isUnder 33 = .ok (.iconst 0, 1) := by decide +kernel
theorem dX12_isUnder_34 : decode cX12_isUnder 34 = .ok (.ireturn, 1) := by decide +kernel
theorem dX12_taken_0 : decode cX12_taken 0 = .ok (.iload_n 1, 1) := by decide +kernel
theorem dX12_taken_1 : decode cX12_taken 1 = .ok (.invokestatic 354, 3) := by decide +kernel
theorem dX12_taken_4 : decode cX12_taken 4 = .ok (.ifCond .eq 23, 3) := by decide +kernel
theorem dX12_taken_7 : decode cX12_taken 7 = .ok (.iload_n 2, 1) := by decide +kernel
theorem dX12_taken_8 : decode cX12_taken 8 = .ok (.iconst 0, 1) := by decide +kernel
theorem dX12_taken_9 : decode cX12_taken 9 = .ok (.iconst 5, 1) := by decide +kernel
theorem dX12_taken_10 : decode cX12_taken 10 = .ok (.invokestatic 99, 3) := by decide +kernel
theorem dX12_taken_13 : decode cX12_taken 13 = .ok (.ifCond .ne 16, 3) := by decide +kernel
theorem dX12_taken_16 : decode cX12_taken 16 = .ok (.iload_n 2, 1) := by decide +kernel
theorem dX12_taken_17 : decode cX12_taken 17 = .ok (.bipush 10, 2) := by decide +kernel
theorem dX12_taken_19 : decode cX12_taken 19 = .ok (.bipush 13, 2) := by decide +kernel
theorem dX12_taken_21 : decode cX12_taken 21 = .ok (.invokestatic 99, 3) := by decide +kernel
theorem dX12_taken_24 : decode cX12_taken 24 = .ok (.ifCond .ne 5, 3) := by decide +kernel
theorem dX12_taken_27 : decode cX12_taken 27 = .ok (.iconst (-1), 1) := by decide +kernel
theorem dX12_taken_28 : decode cX12_taken 28 = .ok (.ireturn, 1) := by decide +kernel
theorem dX12_taken_29 : decode cX12_taken 29 = .ok (.aload_n 0, 1) := by decide +kernel
theorem dX12_taken_30 : decode cX12_taken 30 = .ok (.iload_n 1, 1) := by decide +kernel
theorem dX12_taken_31 : decode cX12_taken 31 = .ok (.invokevirtual 367, 3) := by decide +kernel
theorem dX12_taken_34 : decode cX12_taken 34 = .ok (.istore_n 3, 1) := by decide +kernel
theorem dX12_taken_35 : decode cX12_taken 35 = .ok (.iload_n 3, 1) := by decide +kernel
theorem dX12_taken_36 : decode cX12_taken 36 = .ok (.ifCond .ge 6, 3) := by decide +kernel
theorem dX12_taken_39 : decode cX12_taken 39 = .ok (.bipush (-11), 2) := by decide +kernel
theorem dX12_taken_41 : decode cX12_taken 41 = .ok (.ireturn, 1) := by decide +kernel
theorem dX12_taken_42 : decode cX12_taken 42 = .ok (.iload_n 3, 1) := by decide +kernel
theorem dX12_taken_43 : decode cX12_taken 43 = .ok (.bipush 9, 2) := by decide +kernel
theorem dX12_taken_45 : decode cX12_taken 45 = .ok (.if_icmp .ne 28, 3) := by decide +kernel
theorem dX12_taken_48 : decode cX12_taken 48 = .ok (.iload_n 2, 1) := by decide +kernel
theorem dX12_taken_49 : decode cX12_taken 49 = .ok (.bipush 10, 2) := by decide +kernel
theorem dX12_taken_51 : decode cX12_taken 51 = .ok (.aload_n 0, 1) := by decide +kernel
theorem dX12_taken_52 : decode cX12_taken 52 = .ok (.getfield 81, 3) := by decide +kernel
theorem dX12_taken_55 : decode cX12_taken 55 = .ok (.iload_n 1, 1) := by decide +kernel
theorem dX12_taken_56 : decode cX12_taken 56 = .ok (.iaload, 1) := by decide +kernel
theorem dX12_taken_57 : decode cX12_taken 57 = .ok (.iadd, 1) := by decide +kernel
theorem dX12_taken_58 : decode cX12_taken 58 = .ok (.if_icmp .ne 12, 3) := by decide +kernel
theorem dX12_taken_61 : decode cX12_taken 61 = .ok (.aload_n 0, 1) := by decide +kernel
theorem dX12_taken_62 : decode cX12_taken 62 = .ok (.getfield 84, 3) := by decide +kernel
theorem dX12_taken_65 : decode cX12_taken 65 = .ok (.iload_n 1, 1) := by decide +kernel
theorem dX12_taken_66 : decode cX12_taken 66 = .ok (.iaload, 1) := by decide +kernel
theorem dX12_taken_67 : decode cX12_taken 67 = .ok (.goto 5, 3) := by decide +kernel
theorem dX12_taken_70 : decode cX12_taken 70 = .ok (.bipush (-13), 2) := by decide +kernel
theorem dX12_taken_72 : decode cX12_taken 72 = .ok (.ireturn, 1) := by decide +kernel
theorem dX12_taken_73 : decode cX12_taken 73 = .ok (.iload_n 2, 1) := by decide +kernel
theorem dX12_taken_74 : decode cX12_taken 74 = .ok (.bipush 10, 2) := by decide +kernel
theorem dX12_taken_76 : decode cX12_taken 76 = .ok (.if_icmp .ge 20, 3) := by decide +kernel
theorem dX12_taken_79 : decode cX12_taken 79 = .ok (.iload_n 3, 1) := by decide +kernel
theorem dX12_taken_80 : decode cX12_taken 80 = .ok (.iload_n 2, 1) := by decide +kernel
theorem dX12_taken_81 : decode cX12_taken 81 = .ok (.invokestatic 370, 3) := by decide +kernel
theorem dX12_taken_84 : decode cX12_taken 84 = .ok (.ifCond .eq 12, 3) := by decide +kernel
theorem dX12_taken_87 : decode cX12_taken 87 = .ok (.aload_n 0, 1) := by decide +kernel
theorem dX12_taken_88 : decode cX12_taken 88 = .ok (.getfield 81, 3) := by decide +kernel
theorem dX12_taken_91 : decode cX12_taken 91 = .ok (.iload_n 1, 1) := by decide +kernel
theorem dX12_taken_92 : decode cX12_taken 92 = .ok (.iaload, 1) := by decide +kernel
theorem dX12_taken_93 : decode cX12_taken 93 = .ok (.goto 5, 3) := by decide +kernel
theorem dX12_taken_96 : decode cX12_taken 96 = .ok (.bipush (-13), 2) := by decide +kernel
theorem dX12_taken_98 : decode cX12_taken 98 = .ok (.ireturn, 1) := by decide +kernel
theorem dX12_ran_0 : decode cX12_ran 0 = .ok (.aload_n 0, 1) := by decide +kernel
theorem dX12_ran_1 : decode cX12_ran 1 = .ok (.getfield 373, 3) := by decide +kernel
theorem dX12_ran_4 : decode cX12_ran 4 = .ok (.bipush 30, 2) := by decide +kernel
theorem dX12_ran_6 : decode cX12_ran 6 = .ok (.if_icmp .ge 23, 3) := by decide +kernel
theorem dX12_ran_9 : decode cX12_ran 9 = .ok (.aload_n 0, 1) := by decide +kernel
theorem dX12_ran_10 : decode cX12_ran 10 = .ok (.getfield 87, 3) := by decide +kernel
theorem dX12_ran_13 : decode cX12_ran 13 = .ok (.aload_n 0, 1) := by decide +kernel
theorem dX12_ran_14 : decode cX12_ran 14 = .ok (.getfield 373, 3) := by decide +kernel
theorem dX12_ran_17 : decode cX12_ran 17 = .ok (.iload_n 1, 1) := by decide +kernel
theorem dX12_ran_18 : decode cX12_ran 18 = .ok (.iastore, 1) := by decide +kernel
theorem dX12_ran_19 : decode cX12_ran 19 = .ok (.aload_n 0, 1) := by decide +kernel
theorem dX12_ran_20 : decode cX12_ran 20 = .ok (.dup, 1) := by decide +kernel
theorem dX12_ran_21 : decode cX12_ran 21 = .ok (.getfield 373, 3) := by decide +kernel
theorem dX12_ran_24 : decode cX12_ran 24 = .ok (.iconst 1, 1) := by decide +kernel
theorem dX12_ran_25 : decode cX12_ran 25 = .ok (.iadd, 1) := by decide +kernel
theorem dX12_ran_26 : decode cX12_ran 26 = .ok (.putfield 373, 3) := by decide +kernel
theorem dX12_ran_29 : decode cX12_ran 29 = .ok (.return_, 1) := by decide +kernel
theorem dX12_plainBars_0 : decode cX12_plainBars 0 = .ok (.aload_n 0, 1) := by decide +kernel
theorem dX12_plainBars_1 : decode cX12_plainBars 1 = .ok (.bipush 10, 2) := by decide +kernel
theorem dX12_plainBars_3 : decode cX12_plainBars 3 = .ok (.invokevirtual 376, 3) := by decide +kernel
theorem dX12_plainBars_6 : decode cX12_plainBars 6 = .ok (.iload_n 1, 1) := by decide +kernel
theorem dX12_plainBars_7 : decode cX12_plainBars 7 = .ok (.aload_n 0, 1) := by decide +kernel
theorem dX12_plainBars_8 : decode cX12_plainBars 8 = .ok (.getfield 379, 3) := by decide +kernel
theorem dX12_plainBars_11 : decode cX12_plainBars 11 = .ok (.iadd, 1) := by decide +kernel
theorem dX12_plainBars_12 : decode cX12_plainBars 12 = .ok (.ireturn, 1) := by decide +kernel
theorem dX12_barBars_0 : decode cX12_barBars 0 = .ok (.aload_n 0, 1) := by decide +kernel
theorem dX12_barBars_1 : decode cX12_barBars 1 = .ok (.bipush 30, 2) := by decide +kernel
theorem dX12_barBars_3 : decode cX12_barBars 3 = .ok (.invokevirtual 376, 3) := by decide +kernel
theorem dX12_barBars_6 : decode cX12_barBars 6 = .ok (.aload_n 0, 1) := by decide +kernel
theorem dX12_barBars_7 : decode cX12_barBars 7 = .ok (.iload_n 1, 1) := by decide +kernel
theorem dX12_barBars_8 : decode cX12_barBars 8 = .ok (.invokevirtual 382, 3) := by decide +kernel
theorem dX12_barBars_11 : decode cX12_barBars 11 = .ok (.iconst 3, 1) := by decide +kernel
theorem dX12_barBars_12 : decode cX12_barBars 12 = .ok (.imul, 1) := by decide +kernel
theorem dX12_barBars_13 : decode cX12_barBars 13 = .ok (.ireturn, 1) := by decide +kernel
theorem dX12_barsIt_0 : decode cX12_barsIt 0 = .ok (.aload_n 0, 1) := by decide +kernel
theorem dX12_barsIt_1 : decode cX12_barsIt 1 = .ok (.getfield 385, 3) := by decide +kernel
theorem dX12_barsIt_4 : decode cX12_barsIt 4 = .ok (.tableswitch 65 2 4 #[28, 34, 48], 28) := by decide +kernel
theorem dX12_barsIt_32 : decode cX12_barsIt 32 = .ok (.aload_n 0, 1) := by decide +kernel
theorem dX12_barsIt_33 : decode cX12_barsIt 33 = .ok (.iload_n 1, 1) := by decide +kernel
theorem dX12_barsIt_34 : decode cX12_barsIt 34 = .ok (.invokevirtual 388, 3) := by decide +kernel
theorem dX12_barsIt_37 : decode cX12_barsIt 37 = .ok (.ireturn, 1) := by decide +kernel
theorem dX12_barsIt_38 : decode cX12_barsIt 38 = .ok (.aload_n 0, 1) := by decide +kernel
theorem dX12_barsIt_39 : decode cX12_barsIt 39 = .ok (.bipush 40, 2) := by decide +kernel
theorem dX12_barsIt_41 : decode cX12_barsIt 41 = .ok (.invokevirtual 376, 3) := by decide +kernel
theorem dX12_barsIt_44 : decode cX12_barsIt 44 = .ok (.iconst 0, 1) := by decide +kernel
theorem dX12_barsIt_45 : decode cX12_barsIt 45 = .ok (.aload_n 0, 1) := by decide +kernel
theorem dX12_barsIt_46 : decode cX12_barsIt 46 = .ok (.iload_n 1, 1) := by decide +kernel
theorem dX12_barsIt_47 : decode cX12_barsIt 47 = .ok (.invokevirtual 388, 3) := by decide +kernel
theorem dX12_barsIt_50 : decode cX12_barsIt 50 = .ok (.isub, 1) := by decide +kernel
theorem dX12_barsIt_51 : decode cX12_barsIt 51 = .ok (.ireturn, 1) := by decide +kernel
theorem dX12_barsIt_52 : decode cX12_barsIt 52 = .ok (.aload_n 0, 1) := by decide +kernel
theorem dX12_barsIt_53 : decode cX12_barsIt 53 = .ok (.bipush 51, 2) := by decide +kernel
theorem dX12_barsIt_55 : decode cX12_barsIt 55 = .ok (.invokevirtual 376, 3) := by decide +kernel
theorem dX12_barsIt_58 : decode cX12_barsIt 58 = .ok (.aload_n 0, 1) := by decide +kernel
theorem dX12_barsIt_59 : decode cX12_barsIt 59 = .ok (.iload_n 1, 1) := by decide +kernel
theorem dX12_barsIt_60 : decode cX12_barsIt 60 = .ok (.invokevirtual 382, 3) := by decide +kernel
theorem dX12_barsIt_63 : decode cX12_barsIt 63 = .ok (.aload_n 0, 1) := by decide +kernel
theorem dX12_barsIt_64 : decode cX12_barsIt 64 = .ok (.getfield 379, 3) := by decide +kernel
theorem dX12_barsIt_67 : decode cX12_barsIt 67 = .ok (.isub, 1) := by decide +kernel
theorem dX12_barsIt_68 : decode cX12_barsIt 68 = .ok (.ireturn, 1) := by decide +kernel
theorem dX12_barsIt_69 : decode cX12_barsIt 69 = .ok (.aload_n 0, 1) := by decide +kernel
theorem dX12_barsIt_70 : decode cX12_barsIt 70 = .ok (.iload_n 1, 1) := by decide +kernel
theorem dX12_barsIt_71 : decode cX12_barsIt 71 = .ok (.invokevirtual 382, 3) := by decide +kernel
theorem dX12_barsIt_74 : decode cX12_barsIt 74 = .ok (.ireturn, 1) := by decide +kernel
theorem dX12_plainWaits_0 : decode cX12_plainWaits 0 = .ok (.aload_n 0, 1) := by decide +kernel
theorem dX12_plainWaits_1 : decode cX12_plainWaits 1 = .ok (.bipush 11, 2) := by decide +kernel
theorem dX12_plainWaits_3 : decode cX12_plainWaits 3 = .ok (.invokevirtual 376, 3) := by decide +kernel
theorem dX12_plainWaits_6 : decode cX12_plainWaits 6 = .ok (.aload_n 0, 1) := by decide +kernel
theorem dX12_plainWaits_7 : decode cX12_plainWaits 7 = .ok (.iload_n 1, 1) := by decide +kernel
theorem dX12_plainWaits_8 : decode cX12_plainWaits 8 = .ok (.invokevirtual 391, 3) := by decide +kernel
theorem dX12_plainWaits_11 : decode cX12_plainWaits 11 = .ok (.iconst 2, 1) := by decide +kernel
theorem dX12_plainWaits_12 : decode cX12_plainWaits 12 = .ok (.imul, 1) := by decide +kernel
theorem dX12_plainWaits_13 : decode cX12_plainWaits 13 = .ok (.ireturn, 1) := by decide +kernel
theorem dX12_waitsIt_0 : decode cX12_waitsIt 0 = .ok (.aload_n 0, 1) := by decide +kernel
theorem dX12_waitsIt_1 : decode cX12_waitsIt 1 = .ok (.getfield 385, 3) := by decide +kernel
theorem dX12_waitsIt_4 : decode cX12_waitsIt 4 = .ok (.iconst 1, 1) := by decide +kernel
theorem dX12_waitsIt_5 : decode cX12_waitsIt 5 = .ok (.if_icmp .eq 11, 3) := by decide +kernel
theorem dX12_waitsIt_8 : decode cX12_waitsIt 8 = .ok (.aload_n 0, 1) := by decide +kernel
theorem dX12_waitsIt_9 : decode cX12_waitsIt 9 = .ok (.getfield 385, 3) := by decide +kernel
theorem dX12_waitsIt_12 : decode cX12_waitsIt 12 = .ok (.iconst 4, 1) := by decide +kernel
theorem dX12_waitsIt_13 : decode cX12_waitsIt 13 = .ok (.if_icmp .ne 20, 3) := by decide +kernel
theorem dX12_waitsIt_16 : decode cX12_waitsIt 16 = .ok (.aload_n 0, 1) := by decide +kernel
theorem dX12_waitsIt_17 : decode cX12_waitsIt 17 = .ok (.bipush 20, 2) := by decide +kernel
theorem dX12_waitsIt_19 : decode cX12_waitsIt 19 = .ok (.invokevirtual 376, 3) := by decide +kernel
theorem dX12_waitsIt_22 : decode cX12_waitsIt 22 = .ok (.aload_n 0, 1) := by decide +kernel
theorem dX12_waitsIt_23 : decode cX12_waitsIt 23 = .ok (.iload_n 1, 1) := by decide +kernel
theorem dX12_waitsIt_24 : decode cX12_waitsIt 24 = .ok (.invokevirtual 394, 3) := by decide +kernel
theorem dX12_waitsIt_27 : decode cX12_waitsIt 27 = .ok (.aload_n 0, 1) := by decide +kernel
theorem dX12_waitsIt_28 : decode cX12_waitsIt 28 = .ok (.getfield 397, 3) := by decide +kernel
theorem dX12_waitsIt_31 : decode cX12_waitsIt 31 = .ok (.isub, 1) := by decide +kernel
theorem dX12_waitsIt_32 : decode cX12_waitsIt 32 = .ok (.ireturn, 1) := by decide +kernel
theorem dX12_waitsIt_33 : decode cX12_waitsIt 33 = .ok (.aload_n 0, 1) := by decide +kernel
theorem dX12_waitsIt_34 : decode cX12_waitsIt 34 = .ok (.getfield 385, 3) := by decide +kernel
theorem dX12_waitsIt_37 : decode cX12_waitsIt 37 = .ok (.iconst 3, 1) := by decide +kernel
theorem dX12_waitsIt_38 : decode cX12_waitsIt 38 = .ok (.if_icmp .ne 26, 3) := by decide +kernel
theorem dX12_waitsIt_41 : decode cX12_waitsIt 41 = .ok (.aload_n 0, 1) := by decide +kernel
theorem dX12_waitsIt_42 : decode cX12_waitsIt 42 = .ok (.bipush 41, 2) := by decide +kernel
theorem dX12_waitsIt_44 : decode cX12_waitsIt 44 = .ok (.invokevirtual 376, 3) := by decide +kernel
theorem dX12_waitsIt_47 : decode cX12_waitsIt 47 = .ok (.aload_n 0, 1) := by decide +kernel
theorem dX12_waitsIt_48 : decode cX12_waitsIt 48 = .ok (.iload_n 1, 1) := by decide +kernel
theorem dX12_waitsIt_49 : decode cX12_waitsIt 49 = .ok (.invokevirtual 394, 3) := by decide +kernel
theorem dX12_waitsIt_52 : decode cX12_waitsIt 52 = .ok (.istore_n 2, 1) := by decide +kernel
theorem dX12_waitsIt_53 : decode cX12_waitsIt 53 = .ok (.iload_n 2, 1) := by decide +kernel
theorem dX12_waitsIt_54 : decode cX12_waitsIt 54 = .ok (.aload_n 0, 1) := by decide +kernel
theorem dX12_waitsIt_55 : decode cX12_waitsIt 55 = .ok (.aload_n 0, 1) := by decide +kernel
theorem dX12_waitsIt_56 : decode cX12_waitsIt 56 = .ok (.getfield 379, 3) := by decide +kernel
theorem dX12_waitsIt_59 : decode cX12_waitsIt 59 = .ok (.invokevirtual 391, 3) := by decide +kernel
theorem dX12_waitsIt_62 : decode cX12_waitsIt 62 = .ok (.iadd, 1) := by decide +kernel
theorem dX12_waitsIt_63 : decode cX12_waitsIt 63 = .ok (.ireturn, 1) := by decide +kernel
theorem dX12_waitsIt_64 : decode cX12_waitsIt 64 = .ok (.aload_n 0, 1) := by decide +kernel
theorem dX12_waitsIt_65 : decode cX12_waitsIt 65 = .ok (.iload_n 1, 1) := by decide +kernel
theorem dX12_waitsIt_66 : decode cX12_waitsIt 66 = .ok (.invokevirtual 394, 3) := by decide +kernel
theorem dX12_waitsIt_69 : decode cX12_waitsIt 69 = .ok (.ireturn, 1) := by decide +kernel
theorem dX12_plainShares_0 : decode cX12_plainShares 0 = .ok (.aload_n 0, 1) := by decide +kernel
theorem dX12_plainShares_1 : decode cX12_plainShares 1 = .ok (.bipush 12, 2) := by decide +kernel
theorem dX12_plainShares_3 : decode cX12_plainShares 3 = .ok (.invokevirtual 376, 3) := by decide +kernel
theorem dX12_plainShares_6 : decode cX12_plainShares 6 = .ok (.aload_n 0, 1) := by decide +kernel
theorem dX12_plainShares_7 : decode cX12_plainShares 7 = .ok (.getfield 397, 3) := by decide +kernel
theorem dX12_plainShares_10 : decode cX12_plainShares 10 = .ok (.aload_n 0, 1) := by decide +kernel
theorem dX12_plainShares_11 : decode cX12_plainShares 11 = .ok (.getfield 379, 3) := by decide +kernel
theorem dX12_plainShares_14 : decode cX12_plainShares 14 = .ok (.if_icmp .ne 10, 3) := by decide +kernel
theorem dX12_plainShares_17 : decode cX12_plainShares 17 = .ok (.aload_n 0, 1) := by decide +kernel
theorem dX12_plainShares_18 : decode cX12_plainShares 18 = .ok (.iconst 1, 1) := by decide +kernel
theorem dX12_plainShares_19 : decode cX12_plainShares 19 = .ok (.putfield 400, 3) := by decide +kernel
theorem dX12_plainShares_22 : decode cX12_plainShares 22 = .ok (.iconst 0, 1) := by decide +kernel
theorem dX12_plainShares_23 : decode cX12_plainShares 23 = .ok (.ireturn, 1) := by decide +kernel
theorem dX12_plainShares_24 : decode cX12_plainShares 24 = .ok (.iload_n 1, 1) := by decide +kernel
theorem dX12_plainShares_25 : decode cX12_plainShares 25 = .ok (.aload_n 0, 1) := by decide +kernel
theorem dX12_plainShares_26 : decode cX12_plainShares 26 = .ok (.getfield 397, 3) := by decide +kernel
theorem dX12_plainShares_29 : decode cX12_plainShares 29 = .ok (.aload_n 0, 1) := by decide +kernel
theorem dX12_plainShares_30 : decode cX12_plainShares 30 = .ok (.getfield 379, 3) := by decide +kernel
theorem dX12_plainShares_33 : decode cX12_plainShares 33 = .ok (.isub, 1) := by decide +kernel
theorem dX12_plainShares_34 : decode cX12_plainShares 34 = .ok (.idiv, 1) := by decide +kernel
theorem dX12_plainShares_35 : decode cX12_plainShares 35 = .ok (.ireturn, 1) := by decide +kernel
theorem dX12_sharesIt_0 : decode cX12_sharesIt 0 = .ok (.aload_n 0, 1) := by decide +kernel
theorem dX12_sharesIt_1 : decode cX12_sharesIt 1 = .ok (.getfield 385, 3) := by decide +kernel
theorem dX12_sharesIt_4 : decode cX12_sharesIt 4 = .ok (.iconst 4, 1) := by decide +kernel
theorem dX12_sharesIt_5 : decode cX12_sharesIt 5 = .ok (.if_icmp .ne 19, 3) := by decide +kernel
theorem dX12_sharesIt_8 : decode cX12_sharesIt 8 = .ok (.aload_n 0, 1) := by decide +kernel
theorem dX12_sharesIt_9 : decode cX12_sharesIt 9 = .ok (.bipush 50, 2) := by decide +kernel
theorem dX12_sharesIt_11 : decode cX12_sharesIt 11 = .ok (.invokevirtual 376, 3) := by decide +kernel
theorem dX12_sharesIt_14 : decode cX12_sharesIt 14 = .ok (.aload_n 0, 1) := by decide +kernel
theorem dX12_sharesIt_15 : decode cX12_sharesIt 15 = .ok (.iload_n 1, 1) := by decide +kernel
theorem dX12_sharesIt_16 : decode cX12_sharesIt 16 = .ok (.iconst 2, 1) := by decide +kernel
theorem dX12_sharesIt_17 : decode cX12_sharesIt 17 = .ok (.iadd, 1) := by decide +kernel
theorem dX12_sharesIt_18 : decode cX12_sharesIt 18 = .ok (.invokevirtual 403, 3) := by decide +kernel
theorem dX12_sharesIt_21 : decode cX12_sharesIt 21 = .ok (.iconst 1, 1) := by decide +kernel
theorem dX12_sharesIt_22 : decode cX12_sharesIt 22 = .ok (.ixor, 1) := by decide +kernel
theorem dX12_sharesIt_23 : decode cX12_sharesIt 23 = .ok (.ireturn, 1) := by decide +kernel
theorem dX12_sharesIt_24 : decode cX12_sharesIt 24 = .ok (.aload_n 0, 1) := by decide +kernel
theorem dX12_sharesIt_25 : decode cX12_sharesIt 25 = .ok (.getfield 385, 3) := by decide +kernel
theorem dX12_sharesIt_28 : decode cX12_sharesIt 28 = .ok (.iconst 5, 1) := by decide +kernel
theorem dX12_sharesIt_29 : decode cX12_sharesIt 29 = .ok (.if_icmp .ne 37, 3) := by decide +kernel
theorem dX12_sharesIt_32 : decode cX12_sharesIt 32 = .ok (.aload_n 0, 1) := by decide +kernel
theorem dX12_sharesIt_33 : decode cX12_sharesIt 33 = .ok (.bipush 61, 2) := by decide +kernel
theorem dX12_sharesIt_35 : decode cX12_sharesIt 35 = .ok (.invokevirtual 376, 3) := by decide +kernel
theorem dX12_sharesIt_38 : decode cX12_sharesIt 38 = .ok (.aload_n 0, 1) := by decide +kernel
theorem dX12_sharesIt_39 : decode cX12_sharesIt 39 = .ok (.iload_n 1, 1) := by decide +kernel
theorem dX12_sharesIt_40 : decode cX12_sharesIt 40 = .ok (.invokevirtual 403, 3) := by decide +kernel
theorem dX12_sharesIt_43 : decode cX12_sharesIt 43 = .ok (.istore_n 2, 1) := by decide +kernel
theorem dX12_sharesIt_44 : decode cX12_sharesIt 44 = .ok (.aload_n 0, 1) := by decide +kernel
theorem dX12_sharesIt_45 : decode cX12_sharesIt 45 = .ok (.getfield 400, 3) := by decide +kernel
theorem dX12_sharesIt_48 : decode cX12_sharesIt 48 = .ok (.ifCond .eq 7, 3) := by decide +kernel
theorem dX12_sharesIt_51 : decode cX12_sharesIt 51 = .ok (.iconst 0, 1) := by decide +kernel
theorem dX12_sharesIt_52 : decode cX12_sharesIt 52 = .ok (.goto 13, 3) := by decide +kernel
theorem dX12_sharesIt_55 : decode cX12_sharesIt 55 = .ok (.iload_n 2, 1) := by decide +kernel
theorem dX12_sharesIt_56 : decode cX12_sharesIt 56 = .ok (.aload_n 0, 1) := by decide +kernel
theorem dX12_sharesIt_57 : decode cX12_sharesIt 57 = .ok (.aload_n 0, 1) := by decide +kernel
theorem dX12_sharesIt_58 : decode cX12_sharesIt 58 = .ok (.getfield 397, 3) := by decide +kernel
theorem dX12_sharesIt_61 : decode cX12_sharesIt 61 = .ok (.invokevirtual 391, 3) := by decide +kernel
theorem dX12_sharesIt_64 : decode cX12_sharesIt 64 = .ok (.iadd, 1) := by decide +kernel
theorem dX12_sharesIt_65 : decode cX12_sharesIt 65 = .ok (.ireturn, 1) := by decide +kernel
theorem dX12_sharesIt_66 : decode cX12_sharesIt 66 = .ok (.aload_n 0, 1) := by decide +kernel
theorem dX12_sharesIt_67 : decode cX12_sharesIt 67 = .ok (.iload_n 1, 1) := by decide +kernel
theorem dX12_sharesIt_68 : decode cX12_sharesIt 68 = .ok (.invokevirtual 403, 3) := by decide +kernel
theorem dX12_sharesIt_71 : decode cX12_sharesIt 71 = .ok (.ireturn, 1) := by decide +kernel
theorem dX12_plainTells_0 : decode cX12_plainTells 0 = .ok (.aload_n 0, 1) := by decide +kernel
theorem dX12_plainTells_1 : decode cX12_plainTells 1 = .ok (.bipush 13, 2) := by decide +kernel
theorem dX12_plainTells_3 : decode cX12_plainTells 3 = .ok (.invokevirtual 376, 3) := by decide +kernel
theorem dX12_plainTells_6 : decode cX12_plainTells 6 = .ok (.aload_n 0, 1) := by decide +kernel
theorem dX12_plainTells_7 : decode cX12_plainTells 7 = .ok (.iload_n 1, 1) := by decide +kernel
theorem dX12_plainTells_8 : decode cX12_plainTells 8 = .ok (.invokevirtual 406, 3) := by decide +kernel
theorem dX12_plainTells_11 : decode cX12_plainTells 11 = .ok (.aload_n 0, 1) := by decide +kernel
theorem dX12_plainTells_12 : decode cX12_plainTells 12 = .ok (.getfield 397, 3) := by decide +kernel
theorem dX12_plainTells_15 : decode cX12_plainTells 15 = .ok (.ixor, 1) := by decide +kernel
theorem dX12_plainTells_16 : decode cX12_plainTells 16 = .ok (.ireturn, 1) := by decide +kernel
theorem dX12_tellsIt_0 : decode cX12_tellsIt 0 = .ok (.aload_n 0, 1) := by decide +kernel
theorem dX12_tellsIt_1 : decode cX12_tellsIt 1 = .ok (.getfield 385, 3) := by decide +kernel
theorem dX12_tellsIt_4 : decode cX12_tellsIt 4 = .ok (.iconst 2, 1) := by decide +kernel
theorem dX12_tellsIt_5 : decode cX12_tellsIt 5 = .ok (.if_icmp .eq 11, 3) := by decide +kernel
theorem dX12_tellsIt_8 : decode cX12_tellsIt 8 = .ok (.aload_n 0, 1) := by decide +kernel
theorem dX12_tellsIt_9 : decode cX12_tellsIt 9 = .ok (.getfield 385, 3) := by decide +kernel
theorem dX12_tellsIt_12 : decode cX12_tellsIt 12 = .ok (.iconst 3, 1) := by decide +kernel
theorem dX12_tellsIt_13 : decode cX12_tellsIt 13 = .ok (.if_icmp .ne 26, 3) := by decide +kernel
theorem dX12_tellsIt_16 : decode cX12_tellsIt 16 = .ok (.aload_n 0, 1) := by decide +kernel
theorem dX12_tellsIt_17 : decode cX12_tellsIt 17 = .ok (.bipush 31, 2) := by decide +kernel
theorem dX12_tellsIt_19 : decode cX12_tellsIt 19 = .ok (.invokevirtual 376, 3) := by decide +kernel
theorem dX12_tellsIt_22 : decode cX12_tellsIt 22 = .ok (.aload_n 0, 1) := by decide +kernel
theorem dX12_tellsIt_23 : decode cX12_tellsIt 23 = .ok (.iload_n 1, 1) := by decide +kernel
theorem dX12_tellsIt_24 : decode cX12_tellsIt 24 = .ok (.invokevirtual 409, 3) := by decide +kernel
theorem dX12_tellsIt_27 : decode cX12_tellsIt 27 = .ok (.istore_n 2, 1) := by decide +kernel
theorem dX12_tellsIt_28 : decode cX12_tellsIt 28 = .ok (.iload_n 2, 1) := by decide +kernel
theorem dX12_tellsIt_29 : decode cX12_tellsIt 29 = .ok (.aload_n 0, 1) := by decide +kernel
theorem dX12_tellsIt_30 : decode cX12_tellsIt 30 = .ok (.aload_n 0, 1) := by decide +kernel
theorem dX12_tellsIt_31 : decode cX12_tellsIt 31 = .ok (.getfield 379, 3) := by decide +kernel
theorem dX12_tellsIt_34 : decode cX12_tellsIt 34 = .ok (.invokevirtual 412, 3) := by decide +kernel
theorem dX12_tellsIt_37 : decode cX12_tellsIt 37 = .ok (.iadd, 1) := by decide +kernel
theorem dX12_tellsIt_38 : decode cX12_tellsIt 38 = .ok (.ireturn, 1) := by decide +kernel
theorem dX12_tellsIt_39 : decode cX12_tellsIt 39 = .ok (.aload_n 0, 1) := by decide +kernel
theorem dX12_tellsIt_40 : decode cX12_tellsIt 40 = .ok (.getfield 385, 3) := by decide +kernel
theorem dX12_tellsIt_43 : decode cX12_tellsIt 43 = .ok (.iconst 5, 1) := by decide +kernel
theorem dX12_tellsIt_44 : decode cX12_tellsIt 44 = .ok (.if_icmp .ne 17, 3) := by decide +kernel
theorem dX12_tellsIt_47 : decode cX12_tellsIt 47 = .ok (.aload_n 0, 1) := by decide +kernel
theorem dX12_tellsIt_48 : decode cX12_tellsIt 48 = .ok (.bipush 60, 2) := by decide +kernel
theorem dX12_tellsIt_50 : decode cX12_tellsIt 50 = .ok (.invokevirtual 376, 3) := by decide +kernel
theorem dX12_tellsIt_53 : decode cX12_tellsIt 53 = .ok (.aload_n 0, 1) := by decide +kernel
theorem dX12_tellsIt_54 : decode cX12_tellsIt 54 = .ok (.iload_n 1, 1) := by decide +kernel
theorem dX12_tellsIt_55 : decode cX12_tellsIt 55 = .ok (.invokevirtual 409, 3) := by decide +kernel
theorem dX12_tellsIt_58 : decode cX12_tellsIt 58 = .ok (.iconst 2, 1) := by decide +kernel
theorem dX12_tellsIt_59 : decode cX12_tellsIt 59 = .ok (.imul, 1) := by decide +kernel
theorem dX12_tellsIt_60 : decode cX12_tellsIt 60 = .ok (.ireturn, 1) := by decide +kernel
theorem dX12_tellsIt_61 : decode cX12_tellsIt 61 = .ok (.aload_n 0, 1) := by decide +kernel
theorem dX12_tellsIt_62 : decode cX12_tellsIt 62 = .ok (.iload_n 1, 1) := by decide +kernel
theorem dX12_tellsIt_63 : decode cX12_tellsIt 63 = .ok (.invokevirtual 409, 3) := by decide +kernel
theorem dX12_tellsIt_66 : decode cX12_tellsIt 66 = .ok (.ireturn, 1) := by decide +kernel
theorem dX12_act_0 : decode cX12_act 0 = .ok (.aload_n 0, 1) := by decide +kernel
theorem dX12_act_1 : decode cX12_act 1 = .ok (.iconst 0, 1) := by decide +kernel
theorem dX12_act_2 : decode cX12_act 2 = .ok (.putfield 373, 3) := by decide +kernel
theorem dX12_act_5 : decode cX12_act 5 = .ok (.iload_n 1, 1) := by decide +kernel
theorem dX12_act_6 : decode cX12_act 6 = .ok (.invokestatic 354, 3) := by decide +kernel
theorem dX12_act_9 : decode cX12_act 9 = .ok (.ifCond .eq 11, 3) := by decide +kernel
theorem dX12_act_12 : decode cX12_act 12 = .ok (.aload_n 0, 1) := by decide +kernel
theorem dX12_act_13 : decode cX12_act 13 = .ok (.iload_n 1, 1) := by decide +kernel
theorem dX12_act_14 : decode cX12_act 14 = .ok (.invokevirtual 367, 3) := by decide +kernel
theorem dX12_act_17 : decode cX12_act 17 = .ok (.goto 4, 3) := by decide +kernel
theorem dX12_act_20 : decode cX12_act 20 = .ok (.iconst (-1), 1) := by decide +kernel
theorem dX12_act_21 : decode cX12_act 21 = .ok (.istore 4, 2) := by decide +kernel
theorem dX12_act_23 : decode cX12_act 23 = .ok (.iload_n 2, 1) := by decide +kernel
theorem dX12_act_24 : decode cX12_act 24 = .ok (.iconst 0, 1) := by decide +kernel
theorem dX12_act_25 : decode cX12_act 25 = .ok (.iconst 3, 1) := by decide +kernel
theorem dX12_act_26 : decode cX12_act 26 = .ok (.invokestatic 99, 3) := by decide +kernel
theorem dX12_act_29 : decode cX12_act 29 = .ok (.ifCond .eq 13, 3) := by decide +kernel
theorem dX12_act_32 : decode cX12_act 32 = .ok (.iload 4, 2) := by decide +kernel
theorem dX12_act_34 : decode cX12_act 34 = .ok (.iconst 0, 1) := by decide +kernel
theorem dX12_act_35 : decode cX12_act 35 = .ok (.iconst 5, 1) := by decide +kernel
theorem dX12_act_36 : decode cX12_act 36 = .ok (.invokestatic 99, 3) := by decide +kernel
theorem dX12_act_39 : decode cX12_act 39 = .ok (.ifCond .ne 5, 3) := by decide +kernel
theorem dX12_act_42 : decode cX12_act 42 = .ok (.iconst 0, 1) := by decide +kernel
theorem dX12_act_43 : decode cX12_act 43 = .ok (.ireturn, 1) := by decide +kernel
theorem dX12_act_44 : decode cX12_act 44 = .ok (.aload_n 0, 1) := by decide +kernel
theorem dX12_act_45 : decode cX12_act 45 = .ok (.iload 4, 2) := by decide +kernel
theorem dX12_act_47 : decode cX12_act 47 = .ok (.putfield 385, 3) := by decide +kernel
theorem dX12_act_50 : decode cX12_act 50 = .ok (.aload_n 0, 1) := by decide +kernel
theorem dX12_act_51 : decode cX12_act 51 = .ok (.aload_n 0, 1) := by decide +kernel
theorem dX12_act_52 : decode cX12_act 52 = .ok (.getfield 81, 3) := by decide +kernel
theorem dX12_act_55 : decode cX12_act 55 = .ok (.iload_n 1, 1) := by decide +kernel
theorem dX12_act_56 : decode cX12_act 56 = .ok (.iaload, 1) := by decide +kernel
theorem dX12_act_57 : decode cX12_act 57 = .ok (.putfield 379, 3) := by decide +kernel
theorem dX12_act_60 : decode cX12_act 60 = .ok (.aload_n 0, 1) := by decide +kernel
theorem dX12_act_61 : decode cX12_act 61 = .ok (.aload_n 0, 1) := by decide +kernel
theorem dX12_act_62 : decode cX12_act 62 = .ok (.getfield 13, 3) := by decide +kernel
theorem dX12_act_65 : decode cX12_act 65 = .ok (.aload_n 0, 1) := by decide +kernel
theorem dX12_act_66 : decode cX12_act 66 = .ok (.getfield 379, 3) := by decide +kernel
theorem dX12_act_69 : decode cX12_act 69 = .ok (.iaload, 1) := by decide +kernel
theorem dX12_act_70 : decode cX12_act 70 = .ok (.putfield 397, 3) := by decide +kernel
theorem dX12_act_73 : decode cX12_act 73 = .ok (.aload_n 0, 1) := by decide +kernel
theorem dX12_act_74 : decode cX12_act 74 = .ok (.iconst 0, 1) := by decide +kernel
theorem dX12_act_75 : decode cX12_act 75 = .ok (.putfield 400, 3) := by decide +kernel
theorem dX12_act_78 : decode cX12_act 78 = .ok (.iload_n 2, 1) := by decide +kernel
theorem dX12_act_79 : decode cX12_act 79 = .ok (.ifCond .ne 11, 3) := by decide +kernel
theorem dX12_act_82 : decode cX12_act 82 = .ok (.aload_n 0, 1) := by decide +kernel
theorem dX12_act_83 : decode cX12_act 83 = .ok (.iload_n 3, 1) := by decide +kernel
theorem dX12_act_84 : decode cX12_act 84 = .ok (.invokevirtual 391, 3) := by decide +kernel
theorem dX12_act_87 : decode cX12_act 87 = .ok (.goto 34, 3) := by decide +kernel
theorem dX12_act_90 : decode cX12_act 90 = .ok (.iload_n 2, 1) := by decide +kernel
theorem dX12_act_91 : decode cX12_act 91 = .ok (.iconst 1, 1) := by decide +kernel
theorem dX12_act_92 : decode cX12_act 92 = .ok (.if_icmp .ne 11, 3) := by decide +kernel
theorem dX12_act_95 : decode cX12_act 95 = .ok (.aload_n 0, 1) := by decide +kernel
theorem dX12_act_96 : decode cX12_act 96 = .ok (.iload_n 3, 1) := by decide +kernel
theorem dX12_act_97 : decode cX12_act 97 = .ok (.invokevirtual 406, 3) := by decide +kernel
theorem dX12_act_100 : decode cX12_act 100 = .ok (.goto 21, 3) := by decide +kernel
theorem dX12_act_103 : decode cX12_act 103 = .ok (.iload_n 2, 1) := by decide +kernel
theorem dX12_act_104 : decode cX12_act 104 = .ok (.iconst 2, 1) := by decide +kernel
theorem dX12_act_105 : decode cX12_act 105 = .ok (.if_icmp .ne 11, 3) := by decide +kernel
theorem dX12_act_108 : decode cX12_act 108 = .ok (.aload_n 0, 1) := by decide +kernel
theorem dX12_act_109 : decode cX12_act 109 = .ok (.iload_n 3, 1) := by decide +kernel
theorem dX12_act_110 : decode cX12_act 110 = .ok (.invokevirtual 412, 3) := by decide +kernel
theorem dX12_act_113 : decode cX12_act 113 = .ok (.goto 8, 3) := by decide +kernel
theorem dX12_act_116 : decode cX12_act 116 = .ok (.aload_n 0, 1) := by decide +kernel
theorem dX12_act_117 : decode cX12_act 117 = .ok (.iload_n 3, 1) := by decide +kernel
theorem dX12_act_118 : decode cX12_act 118 = .ok (.invokevirtual 415, 3) := by decide +kernel
theorem dX12_act_121 : decode cX12_act 121 = .ok (.istore 5, 2) := by decide +kernel
theorem dX12_act_123 : decode cX12_act 123 = .ok (.aload_n 0, 1) := by decide +kernel
theorem dX12_act_124 : decode cX12_act 124 = .ok (.getfield 400, 3) := by decide +kernel
theorem dX12_act_127 : decode cX12_act 127 = .ok (.ifCond .eq 8, 3) := by decide +kernel
theorem dX12_act_130 : decode cX12_act 130 = .ok (.bipush (-15), 2) := by decide +kernel
theorem dX12_act_132 : decode cX12_act 132 = .ok (.goto 5, 3) := by decide +kernel
theorem dX12_act_135 : decode cX12_act 135 = .ok (.iload 5, 2) := by decide +kernel
theorem dX12_act_137 : decode cX12_act 137 = .ok (.ireturn, 1) := by decide +kernel
theorem dX12_trace_0 : decode cX12_trace 0 = .ok (.iload_n 1, 1) := by decide +kernel
theorem dX12_trace_1 : decode cX12_trace 1 = .ok (.iconst 0, 1) := by decide +kernel
theorem dX12_trace_2 : decode cX12_trace 2 = .ok (.aload_n 0, 1) := by decide +kernel
theorem dX12_trace_3 : decode cX12_trace 3 = .ok (.getfield 373, 3) := by decide +kernel
theorem dX12_trace_6 : decode cX12_trace 6 = .ok (.iconst 1, 1) := by decide +kernel
theorem dX12_trace_7 : decode cX12_trace 7 = .ok (.isub, 1) := by decide +kernel
theorem dX12_trace_8 : decode cX12_trace 8 = .ok (.invokestatic 99, 3) := by decide +kernel
theorem dX12_trace_11 : decode cX12_trace 11 = .ok (.ifCond .eq 12, 3) := by decide +kernel
theorem dX12_trace_14 : decode cX12_trace 14 = .ok (.aload_n 0, 1) := by decide +kernel
theorem dX12_trace_15 : decode cX12_trace 15 = .ok (.getfield 87, 3) := by decide +kernel
theorem dX12_trace_18 : decode cX12_trace 18 = .ok (.iload_n 1, 1) := by decide +kernel
theorem dX12_trace_19 : decode cX12_trace 19 = .ok (.iaload, 1) := by decide +kernel
theorem dX12_trace_20 : decode cX12_trace 20 = .ok (.goto 5, 3) := by decide +kernel
theorem dX12_trace_23 : decode cX12_trace 23 = .ok (.bipush (-3), 2) := by decide +kernel
theorem dX12_trace_25 : decode cX12_trace 25 = .ok (.ireturn, 1) := by decide +kernel
theorem dX12_many_0 : decode cX12_many 0 = .ok (.iconst 0, 1) := by decide +kernel
theorem dX12_many_1 : decode cX12_many 1 = .ok (.istore_n 2, 1) := by decide +kernel
theorem dX12_many_2 : decode cX12_many 2 = .ok (.iload_n 1, 1) := by decide +kernel
theorem dX12_many_3 : decode cX12_many 3 = .ok (.tableswitch 107 0 7 #[45, 50, 55, 82, 87, 92, 97, 102], 45) := by decide +kernel
theorem dX12_many_48 : decode cX12_many 48 = .ok (.aload_n 0, 1) := by decide +kernel
theorem dX12_many_49 : decode cX12_many 49 = .ok (.getfield 96, 3) := by decide +kernel
theorem dX12_many_52 : decode cX12_many 52 = .ok (.ireturn, 1) := by decide +kernel
theorem dX12_many_53 : decode cX12_many 53 = .ok (.aload_n 0, 1) := by decide +kernel
theorem dX12_many_54 : decode cX12_many 54 = .ok (.getfield 103, 3) := by decide +kernel
theorem dX12_many_57 : decode cX12_many 57 = .ok (.ireturn, 1) := by decide +kernel
theorem dX12_many_58 : decode cX12_many 58 = .ok (.iconst 0, 1) := by decide +kernel
theorem dX12_many_59 : decode cX12_many 59 = .ok (.istore_n 3, 1) := by decide +kernel
theorem dX12_many_60 : decode cX12_many 60 = .ok (.iload_n 3, 1) := by decide +kernel
theorem dX12_many_61 : decode cX12_many 61 = .ok (.aload_n 0, 1) := by decide +kernel
theorem dX12_many_62 : decode cX12_many 62 = .ok (.getfield 96, 3) := by decide +kernel
theorem dX12_many_65 : decode cX12_many 65 = .ok (.if_icmp .ge 18, 3) := by decide +kernel
theorem dX12_many_68 : decode cX12_many 68 = .ok (.iload_n 2, 1) := by decide +kernel
theorem dX12_many_69 : decode cX12_many 69 = .ok (.aload_n 0, 1) := by decide +kernel
theorem dX12_many_70 : decode cX12_many 70 = .ok (.getfield 37, 3) := by decide +kernel
theorem dX12_many_73 : decode cX12_many 73 = .ok (.iload_n 3, 1) := by decide +kernel
theorem dX12_many_74 : decode cX12_many 74 = .ok (.iaload, 1) := by decide +kernel
theorem dX12_many_75 : decode cX12_many 75 = .ok (.iadd, 1) := by decide +kernel
theorem dX12_many_76 : decode cX12_many 76 = .ok (.istore_n 2, 1) := by decide +kernel
theorem dX12_many_77 : decode cX12_many 77 = .ok (.iinc 3 1, 3) := by decide +kernel
theorem dX12_many_80 : decode cX12_many 80 = .ok (.goto (-20), 3) := by decide +kernel
theorem dX12_many_83 : decode cX12_many 83 = .ok (.iload_n 2, 1) := by decide +kernel
theorem dX12_many_84 : decode cX12_many 84 = .ok (.ireturn, 1) := by decide +kernel
theorem dX12_many_85 : decode cX12_many 85 = .ok (.aload_n 0, 1) := by decide +kernel
theorem dX12_many_86 : decode cX12_many 86 = .ok (.getfield 225, 3) := by decide +kernel
theorem dX12_many_89 : decode cX12_many 89 = .ok (.ireturn, 1) := by decide +kernel
theorem dX12_many_90 : decode cX12_many 90 = .ok (.aload_n 0, 1) := by decide +kernel
theorem dX12_many_91 : decode cX12_many 91 = .ok (.getfield 228, 3) := by decide +kernel
theorem dX12_many_94 : decode cX12_many 94 = .ok (.ireturn, 1) := by decide +kernel
theorem dX12_many_95 : decode cX12_many 95 = .ok (.aload_n 0, 1) := by decide +kernel
theorem dX12_many_96 : decode cX12_many 96 = .ok (.getfield 231, 3) := by decide +kernel
theorem dX12_many_99 : decode cX12_many 99 = .ok (.ireturn, 1) := by decide +kernel
theorem dX12_many_100 : decode cX12_many 100 = .ok (.aload_n 0, 1) := by decide +kernel
theorem dX12_many_101 : decode cX12_many 101 = .ok (.getfield 106, 3) := by decide +kernel
theorem dX12_many_104 : decode cX12_many 104 = .ok (.ireturn, 1) := by decide +kernel
theorem dX12_many_105 : decode cX12_many 105 = .ok (.aload_n 0, 1) := by decide +kernel
theorem dX12_many_106 : decode cX12_many 106 = .ok (.getfield 373, 3) := by decide +kernel
theorem dX12_many_109 : decode cX12_many 109 = .ok (.ireturn, 1) := by decide +kernel
theorem dX12_many_110 : decode cX12_many 110 = .ok (.iconst (-1), 1) := by decide +kernel
theorem dX12_many_111 : decode cX12_many 111 = .ok (.ireturn, 1) := by decide +kernel
theorem dX12_moveRow_0 : decode cX12_moveRow 0 = .ok (.iconst 0, 1) := by decide +kernel
theorem dX12_moveRow_1 : decode cX12_moveRow 1 = .ok (.istore 4, 2) := by decide +kernel
theorem dX12_moveRow_3 : decode cX12_moveRow 3 = .ok (.iload 4, 2) := by decide +kernel
theorem dX12_moveRow_5 : decode cX12_moveRow 5 = .ok (.iload_n 2, 1) := by decide +kernel
theorem dX12_moveRow_6 : decode cX12_moveRow 6 = .ok (.if_icmp .ge 52, 3) := by decide +kernel
theorem dX12_moveRow_9 : decode cX12_moveRow 9 = .ok (.iload_n 3, 1) := by decide +kernel
theorem dX12_moveRow_10 : decode cX12_moveRow 10 = .ok (.ifCond .eq 19, 3) := by decide +kernel
theorem dX12_moveRow_13 : decode cX12_moveRow 13 = .ok (.aload_n 0, 1) := by decide +kernel
theorem dX12_moveRow_14 : decode cX12_moveRow 14 = .ok (.getfield 90, 3) := by decide +kernel
theorem dX12_moveRow_17 : decode cX12_moveRow 17 = .ok (.aload_n 0, 1) := by decide +kernel
theorem dX12_moveRow_18 : decode cX12_moveRow 18 = .ok (.getfield 418, 3) := by decide +kernel
theorem dX12_moveRow_21 : decode cX12_moveRow 21 = .ok (.aload_n 1, 1) := by decide +kernel
theorem dX12_moveRow_22 : decode cX12_moveRow 22 = .ok (.iload 4, 2) := by decide +kernel
theorem dX12_moveRow_24 : decode cX12_moveRow 24 = .ok (.iaload, 1) := by decide +kernel
theorem dX12_moveRow_25 : decode cX12_moveRow 25 = .ok (.iastore, 1) := by decide +kernel
theorem dX12_moveRow_26 : decode cX12_moveRow 26 = .ok (.goto 16, 3) := by decide +kernel
theorem dX12_moveRow_29 : decode cX12_moveRow 29 = .ok (.aload_n 1, 1) := by decide +kernel
theorem dX12_moveRow_30 : decode cX12_moveRow 30 = .ok (.iload 4, 2) := by decide +kernel
theorem dX12_moveRow_32 : decode cX12_moveRow 32 = .ok (.aload_n 0, 1) := by decide +kernel
theorem dX12_moveRow_33 : decode cX12_moveRow 33 = .ok (.getfield 90, 3) := by decide +kernel
theorem dX12_moveRow_36 : decode cX12_moveRow 36 = .ok (.aload_n 0, 1) := by decide +kernel
theorem dX12_moveRow_37 : decode cX12_moveRow 37 = .ok (.getfield 418, 3) := by decide +kernel
theorem dX12_moveRow_40 : decode cX12_moveRow 40 = .ok (.iaload, 1) := by decide +kernel
theorem dX12_moveRow_41 : decode cX12_moveRow 41 = .ok (.iastore, 1) := by decide +kernel
theorem dX12_moveRow_42 : decode cX12_moveRow 42 = .ok (.aload_n 0, 1) := by decide +kernel
theorem dX12_moveRow_43 : decode cX12_moveRow 43 = .ok (.dup, 1) := by decide +kernel
theorem dX12_moveRow_44 : decode cX12_moveRow 44 = .ok (.getfield 418, 3) := by decide +kernel
theorem dX12_moveRow_47 : decode cX12_moveRow 47 = .ok (.iconst 1, 1) := by decide +kernel
theorem dX12_moveRow_48 : decode cX12_moveRow 48 = .ok (.iadd, 1) := by decide +kernel
theorem dX12_moveRow_49 : decode cX12_moveRow 49 = .ok (.putfield 418, 3) := by decide +kernel
theorem dX12_moveRow_52 : decode cX12_moveRow 52 = .ok (.iinc 4 1, 3) := by decide +kernel
theorem dX12_moveRow_55 : decode cX12_moveRow 55 = .ok (.goto (-52), 3) := by decide +kernel
theorem dX12_moveRow_58 : decode cX12_moveRow 58 = .ok (.return_, 1) := by decide +kernel
theorem dX12_moveAll_0 : decode cX12_moveAll 0 = .ok (.aload_n 0, 1) := by decide +kernel
theorem dX12_moveAll_1 : decode cX12_moveAll 1 = .ok (.iconst 0, 1) := by decide +kernel
theorem dX12_moveAll_2 : decode cX12_moveAll 2 = .ok (.putfield 418, 3) := by decide +kernel
theorem dX12_moveAll_5 : decode cX12_moveAll 5 = .ok (.aload_n 0, 1) := by decide +kernel
theorem dX12_moveAll_6 : decode cX12_moveAll 6 = .ok (.getfield 93, 3) := by decide +kernel
theorem dX12_moveAll_9 : decode cX12_moveAll 9 = .ok (.iconst 0, 1) := by decide +kernel
theorem dX12_moveAll_10 : decode cX12_moveAll 10 = .ok (.aload_n 0, 1) := by decide +kernel
theorem dX12_moveAll_11 : decode cX12_moveAll 11 = .ok (.getfield 96, 3) := by decide +kernel
theorem dX12_moveAll_14 : decode cX12_moveAll 14 = .ok (.iastore, 1) := by decide +kernel
theorem dX12_moveAll_15 : decode cX12_moveAll 15 = .ok (.aload_n 0, 1) := by decide +kernel
theorem dX12_moveAll_16 : decode cX12_moveAll 16 = .ok (.getfield 93, 3) := by decide +kernel
theorem dX12_moveAll_19 : decode cX12_moveAll 19 = .ok (.iconst 1, 1) := by decide +kernel
theorem dX12_moveAll_20 : decode cX12_moveAll 20 = .ok (.aload_n 0, 1) := by decide +kernel
theorem dX12_moveAll_21 : decode cX12_moveAll 21 = .ok (.getfield 103, 3) := by decide +kernel
theorem dX12_moveAll_24 : decode cX12_moveAll 24 = .ok (.iastore, 1) := by decide +kernel
theorem dX12_moveAll_25 : decode cX12_moveAll 25 = .ok (.aload_n 0, 1) := by decide +kernel
theorem dX12_moveAll_26 : decode cX12_moveAll 26 = .ok (.getfield 93, 3) := by decide +kernel
theorem dX12_moveAll_29 : decode cX12_moveAll 29 = .ok (.iconst 2, 1) := by decide +kernel
theorem dX12_moveAll_30 : decode cX12_moveAll 30 = .ok (.aload_n 0, 1) := by decide +kernel
theorem dX12_moveAll_31 : decode cX12_moveAll 31 = .ok (.getfield 225, 3) := by decide +kernel
theorem dX12_moveAll_34 : decode cX12_moveAll 34 = .ok (.iastore, 1) := by decide +kernel
theorem dX12_moveAll_35 : decode cX12_moveAll 35 = .ok (.aload_n 0, 1) := by decide +kernel
theorem dX12_moveAll_36 : decode cX12_moveAll 36 = .ok (.getfield 93, 3) := by decide +kernel
theorem dX12_moveAll_39 : decode cX12_moveAll 39 = .ok (.iconst 3, 1) := by decide +kernel
theorem dX12_moveAll_40 : decode cX12_moveAll 40 = .ok (.aload_n 0, 1) := by decide +kernel
theorem dX12_moveAll_41 : decode cX12_moveAll 41 = .ok (.getfield 228, 3) := by decide +kernel
theorem dX12_moveAll_44 : decode cX12_moveAll 44 = .ok (.iastore, 1) := by decide +kernel
theorem dX12_moveAll_45 : decode cX12_moveAll 45 = .ok (.aload_n 0, 1) := by decide +kernel
theorem dX12_moveAll_46 : decode cX12_moveAll 46 = .ok (.getfield 93, 3) := by decide +kernel
theorem dX12_moveAll_49 : decode cX12_moveAll 49 = .ok (.iconst 4, 1) := by decide +kernel
theorem dX12_moveAll_50 : decode cX12_moveAll 50 = .ok (.aload_n 0, 1) := by decide +kernel
theorem dX12_moveAll_51 : decode cX12_moveAll 51 = .ok (.getfield 40, 3) := by decide +kernel
theorem dX12_moveAll_54 : decode cX12_moveAll 54 = .ok (.iastore, 1) := by decide +kernel
theorem dX12_moveAll_55 : decode cX12_moveAll 55 = .ok (.aload_n 0, 1) := by decide +kernel
theorem dX12_moveAll_56 : decode cX12_moveAll 56 = .ok (.aload_n 0, 1) := by decide +kernel
theorem dX12_moveAll_57 : decode cX12_moveAll 57 = .ok (.getfield 93, 3) := by decide +kernel
theorem dX12_moveAll_60 : decode cX12_moveAll 60 = .ok (.iconst 5, 1) := by decide +kernel
theorem dX12_moveAll_61 : decode cX12_moveAll 61 = .ok (.iload_n 1, 1) := by decide +kernel
theorem dX12_moveAll_62 : decode cX12_moveAll 62 = .ok (.invokevirtual 421, 3) := by decide +kernel
theorem dX12_moveAll_65 : decode cX12_moveAll 65 = .ok (.aload_n 0, 1) := by decide +kernel
theorem dX12_moveAll_66 : decode cX12_moveAll 66 = .ok (.aload_n 0, 1) := by decide +kernel
theorem dX12_moveAll_67 : decode cX12_moveAll 67 = .ok (.getfield 7, 3) := by decide +kernel
theorem dX12_moveAll_70 : decode cX12_moveAll 70 = .ok (.bipush 6, 2) := by decide +kernel
theorem dX12_moveAll_72 : decode cX12_moveAll 72 = .ok (.iload_n 1, 1) := by decide +kernel
theorem dX12_moveAll_73 : decode cX12_moveAll 73 = .ok (.invokevirtual 421, 3) := by decide +kernel
theorem dX12_moveAll_76 : decode cX12_moveAll 76 = .ok (.aload_n 0, 1) := by decide +kernel
theorem dX12_moveAll_77 : decode cX12_moveAll 77 = .ok (.aload_n 0, 1) := by decide +kernel
theorem dX12_moveAll_78 : decode cX12_moveAll 78 = .ok (.getfield 13, 3) := by decide +kernel
theorem dX12_moveAll_81 : decode cX12_moveAll 81 = .ok (.bipush 6, 2) := by decide +kernel
theorem dX12_moveAll_83 : decode cX12_moveAll 83 = .ok (.iload_n 1, 1) := by decide +kernel
theorem dX12_moveAll_84 : decode cX12_moveAll 84 = .ok (.invokevirtual 421, 3) := by decide +kernel
theorem dX12_moveAll_87 : decode cX12_moveAll 87 = .ok (.aload_n 0, 1) := by decide +kernel
theorem dX12_moveAll_88 : decode cX12_moveAll 88 = .ok (.aload_n 0, 1) := by decide +kernel
theorem dX12_moveAll_89 : decode cX12_moveAll 89 = .ok (.getfield 16, 3) := by decide +kernel
theorem dX12_moveAll_92 : decode cX12_moveAll 92 = .ok (.bipush 6, 2) := by decide +kernel
theorem dX12_moveAll_94 : decode cX12_moveAll 94 = .ok (.iload_n 1, 1) := by decide +kernel
theorem dX12_moveAll_95 : decode cX12_moveAll 95 = .ok (.invokevirtual 421, 3) := by decide +kernel
theorem dX12_moveAll_98 : decode cX12_moveAll 98 = .ok (.aload_n 0, 1) := by decide +kernel
theorem dX12_moveAll_99 : decode cX12_moveAll 99 = .ok (.aload_n 0, 1) := by decide +kernel
theorem dX12_moveAll_100 : decode cX12_moveAll 100 = .ok (.getfield 19, 3) := by decide +kernel
theorem dX12_moveAll_103 : decode cX12_moveAll 103 = .ok (.bipush 6, 2) := by decide +kernel
theorem dX12_moveAll_105 : decode cX12_moveAll 105 = .ok (.iload_n 1, 1) := by decide +kernel
theorem dX12_moveAll_106 : decode cX12_moveAll 106 = .ok (.invokevirtual 421, 3) := by decide +kernel
theorem dX12_moveAll_109 : decode cX12_moveAll 109 = .ok (.aload_n 0, 1) := by decide +kernel
theorem dX12_moveAll_110 : decode cX12_moveAll 110 = .ok (.aload_n 0, 1) := by decide +kernel
theorem dX12_moveAll_111 : decode cX12_moveAll 111 = .ok (.getfield 22, 3) := by decide +kernel
theorem dX12_moveAll_114 : decode cX12_moveAll 114 = .ok (.bipush 8, 2) := by decide +kernel
theorem dX12_moveAll_116 : decode cX12_moveAll 116 = .ok (.iload_n 1, 1) := by decide +kernel
theorem dX12_moveAll_117 : decode cX12_moveAll 117 = .ok (.invokevirtual 421, 3) := by decide +kernel
theorem dX12_moveAll_120 : decode cX12_moveAll 120 = .ok (.aload_n 0, 1) := by decide +kernel
theorem dX12_moveAll_121 : decode cX12_moveAll 121 = .ok (.aload_n 0, 1) := by decide +kernel
theorem dX12_moveAll_122 : decode cX12_moveAll 122 = .ok (.getfield 25, 3) := by decide +kernel
theorem dX12_moveAll_125 : decode cX12_moveAll 125 = .ok (.bipush 48, 2) := by decide +kernel
theorem dX12_moveAll_127 : decode cX12_moveAll 127 = .ok (.iload_n 1, 1) := by decide +kernel
theorem dX12_moveAll_128 : decode cX12_moveAll 128 = .ok (.invokevirtual 421, 3) := by decide +kernel
theorem dX12_moveAll_131 : decode cX12_moveAll 131 = .ok (.aload_n 0, 1) := by decide +kernel
theorem dX12_moveAll_132 : decode cX12_moveAll 132 = .ok (.aload_n 0, 1) := by decide +kernel
theorem dX12_moveAll_133 : decode cX12_moveAll 133 = .ok (.getfield 28, 3) := by decide +kernel
theorem dX12_moveAll_136 : decode cX12_moveAll 136 = .ok (.iconst 3, 1) := by decide +kernel
theorem dX12_moveAll_137 : decode cX12_moveAll 137 = .ok (.iload_n 1, 1) := by decide +kernel
theorem dX12_moveAll_138 : decode cX12_moveAll 138 = .ok (.invokevirtual 421, 3) := by decide +kernel
theorem dX12_moveAll_141 : decode cX12_moveAll 141 = .ok (.aload_n 0, 1) := by decide +kernel
theorem dX12_moveAll_142 : decode cX12_moveAll 142 = .ok (.aload_n 0, 1) := by decide +kernel
theorem dX12_moveAll_143 : decode cX12_moveAll 143 = .ok (.getfield 37, 3) := by decide +kernel
theorem dX12_moveAll_146 : decode cX12_moveAll 146 = .ok (.bipush 7, 2) := by decide +kernel
theorem dX12_moveAll_148 : decode cX12_moveAll 148 = .ok (.iload_n 1, 1) := by decide +kernel
theorem dX12_moveAll_149 : decode cX12_moveAll 149 = .ok (.invokevirtual 421, 3) := by decide +kernel
theorem dX12_moveAll_152 : decode cX12_moveAll 152 = .ok (.return_, 1) := by decide +kernel
theorem dX12_keep_0 : decode cX12_keep 0 = .ok (.aload_n 0, 1) := by decide +kernel
theorem dX12_keep_1 : decode cX12_keep 1 = .ok (.iconst 1, 1) := by decide +kernel
theorem dX12_keep_2 : decode cX12_keep 2 = .ok (.invokevirtual 425, 3) := by decide +kernel
theorem dX12_keep_5 : decode cX12_keep 5 = .ok (.aload_n 0, 1) := by decide +kernel
theorem dX12_keep_6 : decode cX12_keep 6 = .ok (.iconst 1, 1) := by decide +kernel
theorem dX12_keep_7 : decode cX12_keep 7 = .ok (.putfield 429, 3) := by decide +kernel
theorem dX12_keep_10 : decode cX12_keep 10 = .ok (.iconst 1, 1) := by decide +kernel
theorem dX12_keep_11 : decode cX12_keep 11 = .ok (.ireturn, 1) := by decide +kernel
theorem dX12_again_0 : decode cX12_again 0 = .ok (.aload_n 0, 1) := by decide +kernel
theorem dX12_again_1 : decode cX12_again 1 = .ok (.getfield 429, 3) := by decide +kernel
theorem dX12_again_4 : decode cX12_again 4 = .ok (.ifCond .ne 6, 3) := by decide +kernel
theorem dX12_again_7 : decode cX12_again 7 = .ok (.bipush (-3), 2) := by decide +kernel
theorem dX12_again_9 : decode cX12_again 9 = .ok (.ireturn, 1) := by decide +kernel
theorem dX12_again_10 : decode cX12_again 10 = .ok (.aload_n 0, 1) := by decide +kernel
theorem dX12_again_11 : decode cX12_again 11 = .ok (.iconst 0, 1) := by decide +kernel
theorem dX12_again_12 : decode cX12_again 12 = .ok (.invokevirtual 425, 3) := by decide +kernel
theorem dX12_again_15 : decode cX12_again 15 = .ok (.aload_n 0, 1) := by decide +kernel
theorem dX12_again_16 : decode cX12_again 16 = .ok (.aload_n 0, 1) := by decide +kernel
theorem dX12_again_17 : decode cX12_again 17 = .ok (.getfield 93, 3) := by decide +kernel
theorem dX12_again_20 : decode cX12_again 20 = .ok (.iconst 0, 1) := by decide +kernel
theorem dX12_again_21 : decode cX12_again 21 = .ok (.iaload, 1) := by decide +kernel
theorem dX12_again_22 : decode cX12_again 22 = .ok (.putfield 96, 3) := by decide +kernel
theorem dX12_again_25 : decode cX12_again 25 = .ok (.aload_n 0, 1) := by decide +kernel
theorem dX12_again_26 : decode cX12_again 26 = .ok (.aload_n 0, 1) := by decide +kernel
theorem dX12_again_27 : decode cX12_again 27 = .ok (.getfield 93, 3) := by decide +kernel
theorem dX12_again_30 : decode cX12_again 30 = .ok (.iconst 1, 1) := by decide +kernel
theorem dX12_again_31 : decode cX12_again 31 = .ok (.iaload, 1) := by decide +kernel
theorem dX12_again_32 : decode cX12_again 32 = .ok (.putfield 103, 3) := by decide +kernel
theorem dX12_again_35 : decode cX12_again 35 = .ok (.aload_n 0, 1) := by decide +kernel
theorem dX12_again_36 : decode cX12_again 36 = .ok (.aload_n 0, 1) := by decide +kernel
theorem dX12_again_37 : decode cX12_again 37 = .ok (.getfield 93, 3) := by decide +kernel
theorem dX12_again_40 : decode cX12_again 40 = .ok (.iconst 2, 1) := by decide +kernel
theorem dX12_again_41 : decode cX12_again 41 = .ok (.iaload, 1) := by decide +kernel
theorem dX12_again_42 : decode cX12_again 42 = .ok (.putfield 225, 3) := by decide +kernel
theorem dX12_again_45 : decode cX12_again 45 = .ok (.aload_n 0, 1) := by decide +kernel
theorem dX12_again_46 : decode cX12_again 46 = .ok (.aload_n 0, 1) := by decide +kernel
theorem dX12_again_47 : decode cX12_again 47 = .ok (.getfield 93, 3) := by decide +kernel
theorem dX12_again_50 : decode cX12_again 50 = .ok (.iconst 3, 1) := by decide +kernel
theorem dX12_again_51 : decode cX12_again 51 = .ok (.iaload, 1) := by decide +kernel
theorem dX12_again_52 : decode cX12_again 52 = .ok (.putfield 228, 3) := by decide +kernel
theorem dX12_again_55 : decode cX12_again 55 = .ok (.aload_n 0, 1) := by decide +kernel
theorem dX12_again_56 : decode cX12_again 56 = .ok (.aload_n 0, 1) := by decide +kernel
theorem dX12_again_57 : decode cX12_again 57 = .ok (.getfield 93, 3) := by decide +kernel
theorem dX12_again_60 : decode cX12_again 60 = .ok (.iconst 4, 1) := by decide +kernel
theorem dX12_again_61 : decode cX12_again 61 = .ok (.iaload, 1) := by decide +kernel
theorem dX12_again_62 : decode cX12_again 62 = .ok (.putfield 40, 3) := by decide +kernel
theorem dX12_again_65 : decode cX12_again 65 = .ok (.aload_n 0, 1) := by decide +kernel
theorem dX12_again_66 : decode cX12_again 66 = .ok (.getfield 96, 3) := by decide +kernel
theorem dX12_again_69 : decode cX12_again 69 = .ok (.ireturn, 1) := by decide +kernel
theorem dJ6_bitCount_0f7a4_0 : decode cJ6_bitCount_0f7a4 0 = .ok (.iload_n 0, 1) := by decide +kernel
theorem dJ6_bitCount_0f7a4_1 : decode cJ6_bitCount_0f7a4 1 = .ok (.iload_n 0, 1) := by decide +kernel
theorem dJ6_bitCount_0f7a4_2 : decode cJ6_bitCount_0f7a4 2 = .ok (.iconst 1, 1) := by decide +kernel
theorem dJ6_bitCount_0f7a4_3 : decode cJ6_bitCount_0f7a4 3 = .ok (.iushr, 1) := by decide +kernel
theorem dJ6_bitCount_0f7a4_4 : decode cJ6_bitCount_0f7a4 4 = .ok (.ldc_w 265, 3) := by decide +kernel
theorem dJ6_bitCount_0f7a4_7 : decode cJ6_bitCount_0f7a4 7 = .ok (.iand, 1) := by decide +kernel
theorem dJ6_bitCount_0f7a4_8 : decode cJ6_bitCount_0f7a4 8 = .ok (.isub, 1) := by decide +kernel
theorem dJ6_bitCount_0f7a4_9 : decode cJ6_bitCount_0f7a4 9 = .ok (.istore_n 0, 1) := by decide +kernel
theorem dJ6_bitCount_0f7a4_10 : decode cJ6_bitCount_0f7a4 10 = .ok (.iload_n 0, 1) := by decide +kernel
theorem dJ6_bitCount_0f7a4_11 : decode cJ6_bitCount_0f7a4 11 = .ok (.ldc_w 266, 3) := by decide +kernel
theorem dJ6_bitCount_0f7a4_14 : decode cJ6_bitCount_0f7a4 14 = .ok (.iand, 1) := by decide +kernel
theorem dJ6_bitCount_0f7a4_15 : decode cJ6_bitCount_0f7a4 15 = .ok (.iload_n 0, 1) := by decide +kernel
theorem dJ6_bitCount_0f7a4_16 : decode cJ6_bitCount_0f7a4 16 = .ok (.iconst 2, 1) := by decide +kernel
theorem dJ6_bitCount_0f7a4_17 : decode cJ6_bitCount_0f7a4 17 = .ok (.iushr, 1) := by decide +kernel
theorem dJ6_bitCount_0f7a4_18 : decode cJ6_bitCount_0f7a4 18 = .ok (.ldc_w 266, 3) := by decide +kernel
theorem dJ6_bitCount_0f7a4_21 : decode cJ6_bitCount_0f7a4 21 = .ok (.iand, 1) := by decide +kernel
theorem dJ6_bitCount_0f7a4_22 : decode cJ6_bitCount_0f7a4 22 = .ok (.iadd, 1) := by decide +kernel
theorem dJ6_bitCount_0f7a4_23 : decode cJ6_bitCount_0f7a4 23 = .ok (.istore_n 0, 1) := by decide +kernel
theorem dJ6_bitCount_0f7a4_24 : decode cJ6_bitCount_0f7a4 24 = .ok (.iload_n 0, 1) := by decide +kernel
theorem dJ6_bitCount_0f7a4_25 : decode cJ6_bitCount_0f7a4 25 = .ok (.iload_n 0, 1) := by decide +kernel
theorem dJ6_bitCount_0f7a4_26 : decode cJ6_bitCount_0f7a4 26 = .ok (.iconst 4, 1) := by decide +kernel
theorem dJ6_bitCount_0f7a4_27 : decode cJ6_bitCount_0f7a4 27 = .ok (.iushr, 1) := by decide +kernel
theorem dJ6_bitCount_0f7a4_28 : decode cJ6_bitCount_0f7a4 28 = .ok (.iadd, 1) := by decide +kernel
theorem dJ6_bitCount_0f7a4_29 : decode cJ6_bitCount_0f7a4 29 = .ok (.ldc_w 267, 3) := by decide +kernel
theorem dJ6_bitCount_0f7a4_32 : decode cJ6_bitCount_0f7a4 32 = .ok (.iand, 1) := by decide +kernel
theorem dJ6_bitCount_0f7a4_33 : decode cJ6_bitCount_0f7a4 33 = .ok (.istore_n 0, 1) := by decide +kernel
theorem dJ6_bitCount_0f7a4_34 : decode cJ6_bitCount_0f7a4 34 = .ok (.iload_n 0, 1) := by decide +kernel
theorem dJ6_bitCount_0f7a4_35 : decode cJ6_bitCount_0f7a4 35 = .ok (.iload_n 0, 1) := by decide +kernel
theorem dJ6_bitCount_0f7a4_36 : decode cJ6_bitCount_0f7a4 36 = .ok (.bipush 8, 2) := by decide +kernel
theorem dJ6_bitCount_0f7a4_38 : decode cJ6_bitCount_0f7a4 38 = .ok (.iushr, 1) := by decide +kernel
theorem dJ6_bitCount_0f7a4_39 : decode cJ6_bitCount_0f7a4 39 = .ok (.iadd, 1) := by decide +kernel
theorem dJ6_bitCount_0f7a4_40 : decode cJ6_bitCount_0f7a4 40 = .ok (.istore_n 0, 1) := by decide +kernel
theorem dJ6_bitCount_0f7a4_41 : decode cJ6_bitCount_0f7a4 41 = .ok (.iload_n 0, 1) := by decide +kernel
theorem dJ6_bitCount_0f7a4_42 : decode cJ6_bitCount_0f7a4 42 = .ok (.iload_n 0, 1) := by decide +kernel
theorem dJ6_bitCount_0f7a4_43 : decode cJ6_bitCount_0f7a4 43 = .ok (.bipush 16, 2) := by decide +kernel
theorem dJ6_bitCount_0f7a4_45 : decode cJ6_bitCount_0f7a4 45 = .ok (.iushr, 1) := by decide +kernel
theorem dJ6_bitCount_0f7a4_46 : decode cJ6_bitCount_0f7a4 46 = .ok (.iadd, 1) := by decide +kernel
theorem dJ6_bitCount_0f7a4_47 : decode cJ6_bitCount_0f7a4 47 = .ok (.istore_n 0, 1) := by decide +kernel
theorem dJ6_bitCount_0f7a4_48 : decode cJ6_bitCount_0f7a4 48 = .ok (.iload_n 0, 1) := by decide +kernel
theorem dJ6_bitCount_0f7a4_49 : decode cJ6_bitCount_0f7a4 49 = .ok (.bipush 63, 2) := by decide +kernel
theorem dJ6_bitCount_0f7a4_51 : decode cJ6_bitCount_0f7a4 51 = .ok (.iand, 1) := by decide +kernel
theorem dJ6_bitCount_0f7a4_52 : decode cJ6_bitCount_0f7a4 52 = .ok (.ireturn, 1) := by decide +kernel
theorem dJ9_abs_067f4_0 : decode cJ9_abs_067f4 0 = .ok (.lload_n 0, 1) := by decide +kernel
theorem dJ9_abs_067f4_1 : decode cJ9_abs_067f4 1 = .ok (.lconst 0, 1) := by decide +kernel
theorem dJ9_abs_067f4_2 : decode cJ9_abs_067f4 2 = .ok (.lcmp, 1) := by decide +kernel
theorem dJ9_abs_067f4_3 : decode cJ9_abs_067f4 3 = .ok (.ifCond .ge 8, 3) := by decide +kernel
theorem dJ9_abs_067f4_6 : decode cJ9_abs_067f4 6 = .ok (.lload_n 0, 1) := by decide +kernel
theorem dJ9_abs_067f4_7 : decode cJ9_abs_067f4 7 = .ok (.lneg, 1) := by decide +kernel
theorem dJ9_abs_067f4_8 : decode cJ9_abs_067f4 8 = .ok (.goto 4, 3) := by decide +kernel
theorem dJ9_abs_067f4_11 : decode cJ9_abs_067f4 11 = .ok (.lload_n 0, 1) := by decide +kernel
theorem dJ9_abs_067f4_12 : decode cJ9_abs_067f4 12 = .ok (.lreturn, 1) := by decide +kernel
theorem dJ9_max_7cf53_0 : decode cJ9_max_7cf53 0 = .ok (.iload_n 0, 1) := by decide +kernel
theorem dJ9_max_7cf53_1 : decode cJ9_max_7cf53 1 = .ok (.iload_n 1, 1) := by decide +kernel
theorem dJ9_max_7cf53_2 : decode cJ9_max_7cf53 2 = .ok (.if_icmp .lt 7, 3) := by decide +kernel
theorem dJ9_max_7cf53_5 : decode cJ9_max_7cf53 5 = .ok (.iload_n 0, 1) := by decide +kernel
theorem dJ9_max_7cf53_6 : decode cJ9_max_7cf53 6 = .ok (.goto 4, 3) := by decide +kernel
theorem dJ9_max_7cf53_9 : decode cJ9_max_7cf53 9 = .ok (.iload_n 1, 1) := by decide +kernel
theorem dJ9_max_7cf53_10 : decode cJ9_max_7cf53 10 = .ok (.ireturn, 1) := by decide +kernel
theorem dJ9_max_f86c9_0 : decode cJ9_max_f86c9 0 = .ok (.lload_n 0, 1) := by decide +kernel
theorem dJ9_max_f86c9_1 : decode cJ9_max_f86c9 1 = .ok (.lload_n 2, 1) := by decide +kernel
theorem dJ9_max_f86c9_2 : decode cJ9_max_f86c9 2 = .ok (.lcmp, 1) := by decide +kernel
theorem dJ9_max_f86c9_3 : decode cJ9_max_f86c9 3 = .ok (.ifCond .lt 7, 3) := by decide +kernel
theorem dJ9_max_f86c9_6 : decode cJ9_max_f86c9 6 = .ok (.lload_n 0, 1) := by decide +kernel
theorem dJ9_max_f86c9_7 : decode cJ9_max_f86c9 7 = .ok (.goto 4, 3) := by decide +kernel
theorem dJ9_max_f86c9_10 : decode cJ9_max_f86c9 10 = .ok (.lload_n 2, 1) := by decide +kernel
theorem dJ9_max_f86c9_11 : decode cJ9_max_f86c9 11 = .ok (.lreturn, 1) := by decide +kernel
theorem dJ9_min_7cf53_0 : decode cJ9_min_7cf53 0 = .ok (.iload_n 0, 1) := by decide +kernel
theorem dJ9_min_7cf53_1 : decode cJ9_min_7cf53 1 = .ok (.iload_n 1, 1) := by decide +kernel
theorem dJ9_min_7cf53_2 : decode cJ9_min_7cf53 2 = .ok (.if_icmp .gt 7, 3) := by decide +kernel
theorem dJ9_min_7cf53_5 : decode cJ9_min_7cf53 5 = .ok (.iload_n 0, 1) := by decide +kernel
theorem dJ9_min_7cf53_6 : decode cJ9_min_7cf53 6 = .ok (.goto 4, 3) := by decide +kernel
theorem dJ9_min_7cf53_9 : decode cJ9_min_7cf53 9 = .ok (.iload_n 1, 1) := by decide +kernel
theorem dJ9_min_7cf53_10 : decode cJ9_min_7cf53 10 = .ok (.ireturn, 1) := by decide +kernel
theorem dJ0_length_8abf5_0 : decode cJ0_length_8abf5 0 = .ok (.aload_n 0, 1) := by decide +kernel
theorem dJ0_length_8abf5_1 : decode cJ0_length_8abf5 1 = .ok (.getfield 9, 3) := by decide +kernel
theorem dJ0_length_8abf5_4 : decode cJ0_length_8abf5 4 = .ok (.arraylength, 1) := by decide +kernel
theorem dJ0_length_8abf5_5 : decode cJ0_length_8abf5 5 = .ok (.aload_n 0, 1) := by decide +kernel
theorem dJ0_length_8abf5_6 : decode cJ0_length_8abf5 6 = .ok (.invokevirtual 335, 3) := by decide +kernel
theorem dJ0_length_8abf5_9 : decode cJ0_length_8abf5 9 = .ok (.ishr, 1) := by decide +kernel
theorem dJ0_length_8abf5_10 : decode cJ0_length_8abf5 10 = .ok (.ireturn, 1) := by decide +kernel
theorem dJ0_charAt_5068e_0 : decode cJ0_charAt_5068e 0 = .ok (.aload_n 0, 1) := by decide +kernel
theorem dJ0_charAt_5068e_1 : decode cJ0_charAt_5068e 1 = .ok (.invokevirtual 492, 3) := by decide +kernel
theorem dJ0_charAt_5068e_4 : decode cJ0_charAt_5068e 4 = .ok (.ifCond .eq 12, 3) := by decide +kernel
theorem dJ0_charAt_5068e_7 : decode cJ0_charAt_5068e 7 = .ok (.aload_n 0, 1) := by decide +kernel
theorem dJ0_charAt_5068e_8 : decode cJ0_charAt_5068e 8 = .ok (.getfield 9, 3) := by decide +kernel
theorem dJ0_charAt_5068e_11 : decode cJ0_charAt_5068e 11 = .ok (.iload_n 1, 1) := by decide +kernel
theorem dJ0_charAt_5068e_12 : decode cJ0_charAt_5068e 12 = .ok (.invokestatic 495, 3) := by decide +kernel
theorem dJ0_charAt_5068e_15 : decode cJ0_charAt_5068e 15 = .ok (.ireturn, 1) := by decide +kernel
theorem dJ0_charAt_5068e_16 : decode cJ0_charAt_5068e 16 = .ok (.aload_n 0, 1) := by decide +kernel
theorem dJ0_charAt_5068e_17 : decode cJ0_charAt_5068e 17 = .ok (.getfield 9, 3) := by decide +kernel
theorem dJ0_charAt_5068e_20 : decode cJ0_charAt_5068e 20 = .ok (.iload_n 1, 1) := by decide +kernel
theorem dJ0_charAt_5068e_21 : decode cJ0_charAt_5068e 21 = .ok (.invokestatic 498, 3) := by decide +kernel
theorem dJ0_charAt_5068e_24 : decode cJ0_charAt_5068e 24 = .ok (.ireturn, 1) := by decide +kernel
theorem dJ0_coder_7d493_0 : decode cJ0_coder_7d493 0 = .ok (.getstatic 38, 3) := by decide +kernel
theorem dJ0_coder_7d493_3 : decode cJ0_coder_7d493 3 = .ok (.ifCond .eq 10, 3) := by decide +kernel
theorem dJ0_coder_7d493_6 : decode cJ0_coder_7d493 6 = .ok (.aload_n 0, 1) := by decide +kernel
theorem dJ0_coder_7d493_7 : decode cJ0_coder_7d493 7 = .ok (.getfield 15, 3) := by decide +kernel
theorem dJ0_coder_7d493_10 : decode cJ0_coder_7d493 10 = .ok (.goto 4, 3) := by decide +kernel
theorem dJ0_coder_7d493_13 : decode cJ0_coder_7d493 13 = .ok (.iconst 1, 1) := by decide +kernel
theorem dJ0_coder_7d493_14 : decode cJ0_coder_7d493 14 = .ok (.ireturn, 1) := by decide +kernel
theorem dJ0_isLatin1_aae02_0 : decode cJ0_isLatin1_aae02 0 = .ok (.getstatic 38, 3) := by decide +kernel
theorem dJ0_isLatin1_aae02_3 : decode cJ0_isLatin1_aae02 3 = .ok (.ifCond .eq 14, 3) := by decide +kernel
theorem dJ0_isLatin1_aae02_6 : decode cJ0_isLatin1_aae02 6 = .ok (.aload_n 0, 1) := by decide +kernel
theorem dJ0_isLatin1_aae02_7 : decode cJ0_isLatin1_aae02 7 = .ok (.getfield 15, 3) := by decide +kernel
theorem dJ0_isLatin1_aae02_10 : decode cJ0_isLatin1_aae02 10 = .ok (.ifCond .ne 7, 3) := by decide +kernel
theorem dJ0_isLatin1_aae02_13 : decode cJ0_isLatin1_aae02 13 = .ok (.iconst 1, 1) := by decide +kernel
theorem dJ0_isLatin1_aae02_14 : decode cJ0_isLatin1_aae02 14 = .ok (.goto 4, 3) := by decide +kernel
theorem dJ0_isLatin1_aae02_17 : decode cJ0_isLatin1_aae02 17 = .ok (.iconst 0, 1) := by decide +kernel
theorem dJ0_isLatin1_aae02_18 : decode cJ0_isLatin1_aae02 18 = .ok (.ireturn, 1) := by decide +kernel
theorem dJ0_checkIndex_df160_0 : decode cJ0_checkIndex_df160 0 = .ok (.iload_n 0, 1) := by decide +kernel
theorem dJ0_checkIndex_df160_1 : decode cJ0_checkIndex_df160 1 = .ok (.iload_n 1, 1) := by decide +kernel
theorem dJ0_checkIndex_df160_2 : decode cJ0_checkIndex_df160 2 = .ok (.getstatic 1053, 3) := by decide +kernel
theorem dJ0_checkIndex_df160_5 : decode cJ0_checkIndex_df160 5 = .ok (.invokestatic 1059, 3) := by decide +kernel
theorem dJ0_checkIndex_df160_8 : decode cJ0_checkIndex_df160 8 = .ok (.pop, 1) := by decide +kernel
theorem dJ0_checkIndex_df160_9 : decode cJ0_checkIndex_df160 9 = .ok (.return_, 1) := by decide +kernel
theorem dJ1_charAt_3b067_0 : decode cJ1_charAt_3b067 0 = .ok (.iload_n 1, 1) := by decide +kernel
theorem dJ1_charAt_3b067_1 : decode cJ1_charAt_3b067 1 = .ok (.aload_n 0, 1) := by decide +kernel
theorem dJ1_charAt_3b067_2 : decode cJ1_charAt_3b067 2 = .ok (.arraylength, 1) := by decide +kernel
theorem dJ1_charAt_3b067_3 : decode cJ1_charAt_3b067 3 = .ok (.invokestatic 9, 3) := by decide +kernel
theorem dJ1_charAt_3b067_6 : decode cJ1_charAt_3b067 6 = .ok (.aload_n 0, 1) := by decide +kernel
theorem dJ1_charAt_3b067_7 : decode cJ1_charAt_3b067 7 = .ok (.iload_n 1, 1) := by decide +kernel
theorem dJ1_charAt_3b067_8 : decode cJ1_charAt_3b067 8 = .ok (.baload, 1) := by decide +kernel
theorem dJ1_charAt_3b067_9 : decode cJ1_charAt_3b067 9 = .ok (.sipush 255, 3) := by decide +kernel
theorem dJ1_charAt_3b067_12 : decode cJ1_charAt_3b067 12 = .ok (.iand, 1) := by decide +kernel
theorem dJ1_charAt_3b067_13 : decode cJ1_charAt_3b067 13 = .ok (.i2c, 1) := by decide +kernel
theorem dJ1_charAt_3b067_14 : decode cJ1_charAt_3b067 14 = .ok (.ireturn, 1) := by decide +kernel
theorem dJ2_getChar_3b067_0 : decode cJ2_getChar_3b067 0 = .ok (.getstatic 44, 3) := by decide +kernel
theorem dJ2_getChar_3b067_3 : decode cJ2_getChar_3b067 3 = .ok (.ifCond .ne 25, 3) := by decide +kernel
theorem dJ2_getChar_3b067_6 : decode cJ2_getChar_3b067 6 = .ok (.iload_n 1, 1) := by decide +kernel
theorem dJ2_getChar_3b067_7 : decode cJ2_getChar_3b067 7 = .ok (.ifCond .lt 11, 3) := by decide +kernel
theorem dJ2_getChar_3b067_10 : decode cJ2_getChar_3b067 10 = .ok (.iload_n 1, 1) := by decide +kernel
theorem dJ2_getChar_3b067_11 : decode cJ2_getChar_3b067 11 = .ok (.aload_n 0, 1) := by decide +kernel
theorem dJ2_getChar_3b067_12 : decode cJ2_getChar_3b067 12 = .ok (.invokestatic 48, 3) := by decide +kernel
theorem dJ2_getChar_3b067_15 : decode cJ2_getChar_3b067 15 = .ok (.if_icmp .lt 13, 3) := by decide +kernel
theorem dJ2_getChar_3b067_18 : decode cJ2_getChar_3b067 18 = .ok (.new 52, 3) := by decide +kernel
theorem dJ2_getChar_3b067_21 : decode cJ2_getChar_3b067 21 = .ok (.dup, 1) := by decide +kernel
theorem dJ2_getChar_3b067_22 : decode cJ2_getChar_3b067 22 = .ok (.ldc 54, 2) := by decide +kernel
theorem dJ2_getChar_3b067_24 : decode cJ2_getChar_3b067 24 = .ok (.invokespecial 56, 3) := by decide +kernel
theorem dJ2_getChar_3b067_27 : decode cJ2_getChar_3b067 27 = .ok (.athrow, 1) := by decide +kernel
theorem dJ2_getChar_3b067_28 : decode cJ2_getChar_3b067 28 = .ok (.iload_n 1, 1) := by decide +kernel
theorem dJ2_getChar_3b067_29 : decode cJ2_getChar_3b067 29 = .ok (.iconst 1, 1) := by decide +kernel
theorem dJ2_getChar_3b067_30 : decode cJ2_getChar_3b067 30 = .ok (.ishl, 1) := by decide +kernel
theorem dJ2_getChar_3b067_31 : decode cJ2_getChar_3b067 31 = .ok (.istore_n 1, 1) := by decide +kernel
theorem dJ2_getChar_3b067_32 : decode cJ2_getChar_3b067 32 = .ok (.aload_n 0, 1) := by decide +kernel
theorem dJ2_getChar_3b067_33 : decode cJ2_getChar_3b067 33 = .ok (.iload_n 1, 1) := by decide +kernel
theorem dJ2_getChar_3b067_34 : decode cJ2_getChar_3b067 34 = .ok (.iinc 1 1, 3) := by decide +kernel
theorem dJ2_getChar_3b067_37 : decode cJ2_getChar_3b067 37 = .ok (.baload, 1) := by decide +kernel
theorem dJ2_getChar_3b067_38 : decode cJ2_getChar_3b067 38 = .ok (.sipush 255, 3) := by decide +kernel
theorem dJ2_getChar_3b067_41 : decode cJ2_getChar_3b067 41 = .ok (.iand, 1) := by decide +kernel
theorem dJ2_getChar_3b067_42 : decode cJ2_getChar_3b067 42 = .ok (.getstatic 59, 3) := by decide +kernel
theorem dJ2_getChar_3b067_45 : decode cJ2_getChar_3b067 45 = .ok (.ishl, 1) := by decide +kernel
theorem dJ2_getChar_3b067_46 : decode cJ2_getChar_3b067 46 = .ok (.aload_n 0, 1) := by decide +kernel
theorem dJ2_getChar_3b067_47 : decode cJ2_getChar_3b067 47 = .ok (.iload_n 1, 1) := by decide +kernel
theorem dJ2_getChar_3b067_48 : decode cJ2_getChar_3b067 48 = .ok (.baload, 1) := by decide +kernel
theorem dJ2_getChar_3b067_49 : decode cJ2_getChar_3b067 49 = .ok (.sipush 255, 3) := by decide +kernel
theorem dJ2_getChar_3b067_52 : decode cJ2_getChar_3b067 52 = .ok (.iand, 1) := by decide +kernel
theorem dJ2_getChar_3b067_53 : decode cJ2_getChar_3b067 53 = .ok (.getstatic 63, 3) := by decide +kernel
theorem dJ2_getChar_3b067_56 : decode cJ2_getChar_3b067 56 = .ok (.ishl, 1) := by decide +kernel
theorem dJ2_getChar_3b067_57 : decode cJ2_getChar_3b067 57 = .ok (.ior, 1) := by decide +kernel
theorem dJ2_getChar_3b067_58 : decode cJ2_getChar_3b067 58 = .ok (.i2c, 1) := by decide +kernel
theorem dJ2_getChar_3b067_59 : decode cJ2_getChar_3b067 59 = .ok (.ireturn, 1) := by decide +kernel
theorem dJ2_length_9d52b_0 : decode cJ2_length_9d52b 0 = .ok (.aload_n 0, 1) := by decide +kernel
theorem dJ2_length_9d52b_1 : decode cJ2_length_9d52b 1 = .ok (.arraylength, 1) := by decide +kernel
theorem dJ2_length_9d52b_2 : decode cJ2_length_9d52b 2 = .ok (.iconst 1, 1) := by decide +kernel
theorem dJ2_length_9d52b_3 : decode cJ2_length_9d52b 3 = .ok (.ishr, 1) := by decide +kernel
theorem dJ2_length_9d52b_4 : decode cJ2_length_9d52b 4 = .ok (.ireturn, 1) := by decide +kernel
theorem dJ2_charAt_3b067_0 : decode cJ2_charAt_3b067 0 = .ok (.iload_n 1, 1) := by decide +kernel
theorem dJ2_charAt_3b067_1 : decode cJ2_charAt_3b067 1 = .ok (.aload_n 0, 1) := by decide +kernel
theorem dJ2_charAt_3b067_2 : decode cJ2_charAt_3b067 2 = .ok (.invokestatic 67, 3) := by decide +kernel
theorem dJ2_charAt_3b067_5 : decode cJ2_charAt_3b067 5 = .ok (.aload_n 0, 1) := by decide +kernel
theorem dJ2_charAt_3b067_6 : decode cJ2_charAt_3b067 6 = .ok (.iload_n 1, 1) := by decide +kernel
theorem dJ2_charAt_3b067_7 : decode cJ2_charAt_3b067 7 = .ok (.invokestatic 71, 3) := by decide +kernel
theorem dJ2_charAt_3b067_10 : decode cJ2_charAt_3b067 10 = .ok (.ireturn, 1) := by decide +kernel
theorem dJ2_checkIndex_2214a_0 : decode cJ2_checkIndex_2214a 0 = .ok (.iload_n 0, 1) := by decide +kernel
theorem dJ2_checkIndex_2214a_1 : decode cJ2_checkIndex_2214a 1 = .ok (.aload_n 1, 1) := by decide +kernel
theorem dJ2_checkIndex_2214a_2 : decode cJ2_checkIndex_2214a 2 = .ok (.invokestatic 48, 3) := by decide +kernel
theorem dJ2_checkIndex_2214a_5 : decode cJ2_checkIndex_2214a 5 = .ok (.invokestatic 414, 3) := by decide +kernel
theorem dJ2_checkIndex_2214a_8 : decode cJ2_checkIndex_2214a 8 = .ok (.return_, 1) := by decide +kernel
theorem dJ3_checkIndex_8e157_0 : decode cJ3_checkIndex_8e157 0 = .ok (.iload_n 0, 1) := by decide +kernel
theorem dJ3_checkIndex_8e157_1 : decode cJ3_checkIndex_8e157 1 = .ok (.ifCond .lt 8, 3) := by decide +kernel
theorem dJ3_checkIndex_8e157_4 : decode cJ3_checkIndex_8e157 4 = .ok (.iload_n 0, 1) := by decide +kernel
theorem dJ3_checkIndex_8e157_5 : decode cJ3_checkIndex_8e157 5 = .ok (.iload_n 1, 1) := by decide +kernel
theorem dJ3_checkIndex_8e157_6 : decode cJ3_checkIndex_8e157 6 = .ok (.if_icmp .lt 10, 3) := by decide +kernel
theorem dJ3_checkIndex_8e157_9 : decode cJ3_checkIndex_8e157 9 = .ok (.aload_n 2, 1) := by decide +kernel
theorem dJ3_checkIndex_8e157_10 : decode cJ3_checkIndex_8e157 10 = .ok (.iload_n 0, 1) := by decide +kernel
theorem dJ3_checkIndex_8e157_11 : decode cJ3_checkIndex_8e157 11 = .ok (.iload_n 1, 1) := by decide +kernel
theorem dJ3_checkIndex_8e157_12 : decode cJ3_checkIndex_8e157 12 = .ok (.invokestatic 95, 3) := by decide +kernel
theorem dJ3_checkIndex_8e157_15 : decode cJ3_checkIndex_8e157 15 = .ok (.athrow, 1) := by decide +kernel
theorem dJ3_checkIndex_8e157_16 : decode cJ3_checkIndex_8e157 16 = .ok (.iload_n 0, 1) := by decide +kernel
theorem dJ3_checkIndex_8e157_17 : decode cJ3_checkIndex_8e157 17 = .ok (.ireturn, 1) := by decide +kernel
theorem dL_law_0 : decode cL_law 0 = .ok (.new 7, 3) := by decide +kernel
theorem dL_law_3 : decode cL_law 3 = .ok (.dup, 1) := by decide +kernel
theorem dL_law_4 : decode cL_law 4 = .ok (.invokespecial 9, 3) := by decide +kernel
theorem dL_law_7 : decode cL_law 7 = .ok (.astore_n 1, 1) := by decide +kernel
theorem dL_law_8 : decode cL_law 8 = .ok (.new 10, 3) := by decide +kernel
theorem dL_law_11 : decode cL_law 11 = .ok (.dup, 1) := by decide +kernel
theorem dL_law_12 : decode cL_law 12 = .ok (.invokespecial 12, 3) := by decide +kernel
theorem dL_law_15 : decode cL_law 15 = .ok (.astore_n 2, 1) := by decide +kernel
theorem dL_law_16 : decode cL_law 16 = .ok (.iconst 0, 1) := by decide +kernel
theorem dL_law_17 : decode cL_law 17 = .ok (.istore_n 3, 1) := by decide +kernel
theorem dL_law_18 : decode cL_law 18 = .ok (.iload_n 3, 1) := by decide +kernel
theorem dL_law_19 : decode cL_law 19 = .ok (.aload_n 0, 1) := by decide +kernel
theorem dL_law_20 : decode cL_law 20 = .ok (.arraylength, 1) := by decide +kernel
theorem dL_law_21 : decode cL_law 21 = .ok (.iconst 5, 1) := by decide +kernel
theorem dL_law_22 : decode cL_law 22 = .ok (.isub, 1) := by decide +kernel
theorem dL_law_23 : decode cL_law 23 = .ok (.if_icmp .gt 1528, 3) := by decide +kernel
theorem dL_law_26 : decode cL_law 26 = .ok (.aload_n 0, 1) := by decide +kernel
theorem dL_law_27 : decode cL_law 27 = .ok (.iload_n 3, 1) := by decide +kernel
theorem dL_law_28 : decode cL_law 28 = .ok (.iaload, 1) := by decide +kernel
theorem dL_law_29 : decode cL_law 29 = .ok (.bipush 63, 2) := by decide +kernel
theorem dL_law_31 : decode cL_law 31 = .ok (.iand, 1) := by decide +kernel
theorem dL_law_32 : decode cL_law 32 = .ok (.tableswitch 1513 0 41 #[184, 247, 260, 313, 346, 369, 412, 445, 478, 501, 534, 577, 610, 643, 666, 689, 712, 735, 748, 771, 794, 838, 882, 925, 958, 991, 1014, 1048, 1071, 1104, 1147, 1160, 1193, 1236, 1279, 1322, 1365, 1398, 1441, 1464, 1487, 1500], 184) := by decide +kernel
theorem dL_law_216 : decode cL_law 216 = .ok (.aload_n 1, 1) := by decide +kernel
theorem dL_law_217 : decode cL_law 217 = .ok (.aload_n 0, 1) := by decide +kernel
theorem dL_law_218 : decode cL_law 218 = .ok (.iload_n 3, 1) := by decide +kernel
theorem dL_law_219 : decode cL_law 219 = .ok (.iconst 1, 1) := by decide +kernel
theorem dL_law_220 : decode cL_law 220 = .ok (.iadd, 1) := by decide +kernel
theorem dL_law_221 : decode cL_law 221 = .ok (.iaload, 1) := by decide +kernel
theorem dL_law_222 : decode cL_law 222 = .ok (.i2l, 1) := by decide +kernel
theorem dL_law_223 : decode cL_law 223 = .ok (.bipush 32, 2) := by decide +kernel
theorem dL_law_225 : decode cL_law 225 = .ok (.lshl, 1) := by decide +kernel
theorem dL_law_226 : decode cL_law 226 = .ok (.aload_n 0, 1) := by decide +kernel
theorem dL_law_227 : decode cL_law 227 = .ok (.iload_n 3, 1) := by decide +kernel
theorem dL_law_228 : decode cL_law 228 = .ok (.iconst 2, 1) := by decide +kernel
theorem dL_law_229 : decode cL_law 229 = .ok (.iadd, 1) := by decide +kernel
theorem dL_law_230 : decode cL_law 230 = .ok (.iaload, 1) := by decide +kernel
theorem dL_law_231 : decode cL_law 231 = .ok (.i2l, 1) := by decide +kernel
theorem dL_law_232 : decode cL_law 232 = .ok (.ldc2_w 13, 3) := by decide +kernel
theorem dL_law_235 : decode cL_law 235 = .ok (.land, 1) := by decide +kernel
theorem dL_law_236 : decode cL_law 236 = .ok (.lor, 1) := by decide +kernel
theorem dL_law_237 : decode cL_law 237 = .ok (.aload_n 0, 1) := by decide +kernel
theorem dL_law_238 : decode cL_law 238 = .ok (.iload_n 3, 1) := by decide +kernel
theorem dL_law_239 : decode cL_law 239 = .ok (.iconst 3, 1) := by decide +kernel
theorem dL_law_240 : decode cL_law 240 = .ok (.iadd, 1) := by decide +kernel
theorem dL_law_241 : decode cL_law 241 = .ok (.iaload, 1) := by decide +kernel
theorem dL_law_242 : decode cL_law 242 = .ok (.invokevirtual 15, 3) := by decide +kernel
theorem dL_law_245 : decode cL_law 245 = .ok (.aload_n 2, 1) := by decide +kernel
theorem dL_law_246 : decode cL_law 246 = .ok (.aload_n 0, 1) := by decide +kernel
theorem dL_law_247 : decode cL_law 247 = .ok (.iload_n 3, 1) := by decide +kernel
theorem dL_law_248 : decode cL_law 248 = .ok (.iconst 1, 1) := by decide +kernel
theorem dL_law_249 : decode cL_law 249 = .ok (.iadd, 1) := by decide +kernel
theorem dL_law_250 : decode cL_law 250 = .ok (.iaload, 1) := by decide +kernel
theorem dL_law_251 : decode cL_law 251 = .ok (.i2l, 1) := by decide +kernel
theorem dL_law_252 : decode cL_law 252 = .ok (.bipush 32, 2) := by decide +kernel
theorem dL_law_254 : decode cL_law 254 = .ok (.lshl, 1) := by decide +kernel
theorem dL_law_255 : decode cL_law 255 = .ok (.aload_n 0, 1) := by decide +kernel
theorem dL_law_256 : decode cL_law 256 = .ok (.iload_n 3, 1) := by decide +kernel
theorem dL_law_257 : decode cL_law 257 = .ok (.iconst 2, 1) := by decide +kernel
theorem dL_law_258 : decode cL_law 258 = .ok (.iadd, 1) := by decide +kernel
theorem dL_law_259 : decode cL_law 259 = .ok (.iaload, 1) := by decide +kernel
theorem dL_law_260 : decode cL_law 260 = .ok (.i2l, 1) := by decide +kernel
theorem dL_law_261 : decode cL_law 261 = .ok (.ldc2_w 13, 3) := by decide +kernel
theorem dL_law_264 : decode cL_law 264 = .ok (.land, 1) := by decide +kernel
theorem dL_law_265 : decode cL_law 265 = .ok (.lor, 1) := by decide +kernel
theorem dL_law_266 : decode cL_law 266 = .ok (.aload_n 0, 1) := by decide +kernel
theorem dL_law_267 : decode cL_law 267 = .ok (.iload_n 3, 1) := by decide +kernel
theorem dL_law_268 : decode cL_law 268 = .ok (.iconst 3, 1) := by decide +kernel
theorem dL_law_269 : decode cL_law 269 = .ok (.iadd, 1) := by decide +kernel
theorem dL_law_270 : decode cL_law 270 = .ok (.iaload, 1) := by decide +kernel
theorem dL_law_271 : decode cL_law 271 = .ok (.invokevirtual 19, 3) := by decide +kernel
theorem dL_law_274 : decode cL_law 274 = .ok (.if_icmp .eq 1271, 3) := by decide +kernel
theorem dL_law_277 : decode cL_law 277 = .ok (.iconst 0, 1) := by decide +kernel
theorem dL_law_278 : decode cL_law 278 = .ok (.ireturn, 1) := by decide +kernel
theorem dL_law_279 : decode cL_law 279 = .ok (.aload_n 1, 1) := by decide +kernel
theorem dL_law_280 : decode cL_law 280 = .ok (.invokevirtual 20, 3) := by decide +kernel
theorem dL_law_283 : decode cL_law 283 = .ok (.aload_n 2, 1) := by decide +kernel
theorem dL_law_284 : decode cL_law 284 = .ok (.invokevirtual 24, 3) := by decide +kernel
theorem dL_law_287 : decode cL_law 287 = .ok (.if_icmp .eq 1258, 3) := by decide +kernel
theorem dL_law_290 : decode cL_law 290 = .ok (.iconst 0, 1) := by decide +kernel
theorem dL_law_291 : decode cL_law 291 = .ok (.ireturn, 1) := by decide +kernel
theorem dL_law_292 : decode cL_law 292 = .ok (.aload_n 1, 1) := by decide +kernel
theorem dL_law_293 : decode cL_law 293 = .ok (.aload_n 0, 1) := by decide +kernel
theorem dL_law_294 : decode cL_law 294 = .ok (.iload_n 3, 1) := by decide +kernel
theorem dL_law_295 : decode cL_law 295 = .ok (.iconst 1, 1) := by decide +kernel
theorem dL_law_296 : decode cL_law 296 = .ok (.iadd, 1) := by decide +kernel
theorem dL_law_297 : decode cL_law 297 = .ok (.iaload, 1) := by decide +kernel
theorem dL_law_298 : decode cL_law 298 = .ok (.aload_n 0, 1) := by decide +kernel
theorem dL_law_299 : decode cL_law 299 = .ok (.iload_n 3, 1) := by decide +kernel
theorem dL_law_300 : decode cL_law 300 = .ok (.iconst 2, 1) := by decide +kernel
theorem dL_law_301 : decode cL_law 301 = .ok (.iadd, 1) := by decide +kernel
theorem dL_law_302 : decode cL_law 302 = .ok (.iaload, 1) := by decide +kernel
theorem dL_law_303 : decode cL_law 303 = .ok (.aload_n 0, 1) := by decide +kernel
theorem dL_law_304 : decode cL_law 304 = .ok (.iload_n 3, 1) := by decide +kernel
theorem dL_law_305 : decode cL_law 305 = .ok (.iconst 3, 1) := by decide +kernel
theorem dL_law_306 : decode cL_law 306 = .ok (.iadd, 1) := by decide +kernel
theorem dL_law_307 : decode cL_law 307 = .ok (.iaload, 1) := by decide +kernel
theorem dL_law_308 : decode cL_law 308 = .ok (.aload_n 0, 1) := by decide +kernel
theorem dL_law_309 : decode cL_law 309 = .ok (.iload_n 3, 1) := by decide +kernel
theorem dL_law_310 : decode cL_law 310 = .ok (.iconst 4, 1) := by decide +kernel
theorem dL_law_311 : decode cL_law 311 = .ok (.iadd, 1) := by decide +kernel
theorem dL_law_312 : decode cL_law 312 = .ok (.iaload, 1) := by decide +kernel
theorem dL_law_313 : decode cL_law 313 = .ok (.invokevirtual 25, 3) := by decide +kernel
theorem dL_law_316 : decode cL_law 316 = .ok (.aload_n 2, 1) := by decide +kernel
theorem dL_law_317 : decode cL_law 317 = .ok (.aload_n 0, 1) := by decide +kernel
theorem dL_law_318 : decode cL_law 318 = .ok (.iload_n 3, 1) := by decide +kernel
theorem dL_law_319 : decode cL_law 319 = .ok (.iconst 1, 1) := by decide +kernel
theorem dL_law_320 : decode cL_law 320 = .ok (.iadd, 1) := by decide +kernel
theorem dL_law_321 : decode cL_law 321 = .ok (.iaload, 1) := by decide +kernel
theorem dL_law_322 : decode cL_law 322 = .ok (.aload_n 0, 1) := by decide +kernel
theorem dL_law_323 : decode cL_law 323 = .ok (.iload_n 3, 1) := by decide +kernel
theorem dL_law_324 : decode cL_law 324 = .ok (.iconst 2, 1) := by decide +kernel
theorem dL_law_325 : decode cL_law 325 = .ok (.iadd, 1) := by decide +kernel
theorem dL_law_326 : decode cL_law 326 = .ok (.iaload, 1) := by decide +kernel
theorem dL_law_327 : decode cL_law 327 = .ok (.aload_n 0, 1) := by decide +kernel
theorem dL_law_328 : decode cL_law 328 = .ok (.iload_n 3, 1) := by decide +kernel
theorem dL_law_329 : decode cL_law 329 = .ok (.iconst 3, 1) := by decide +kernel
theorem dL_law_330 : decode cL_law 330 = .ok (.iadd, 1) := by decide +kernel
theorem dL_law_331 : decode cL_law 331 = .ok (.iaload, 1) := by decide +kernel
theorem dL_law_332 : decode cL_law 332 = .ok (.aload_n 0, 1) := by decide +kernel
theorem dL_law_333 : decode cL_law 333 = .ok (.iload_n 3, 1) := by decide +kernel
theorem dL_law_334 : decode cL_law 334 = .ok (.iconst 4, 1) := by decide +kernel
theorem dL_law_335 : decode cL_law 335 = .ok (.iadd, 1) := by decide +kernel
theorem dL_law_336 : decode cL_law 336 = .ok (.iaload, 1) := by decide +kernel
theorem dL_law_337 : decode cL_law 337 = .ok (.invokevirtual 29, 3) := by decide +kernel
theorem dL_law_340 : decode cL_law 340 = .ok (.if_icmp .eq 1205, 3) := by decide +kernel
theorem dL_law_343 : decode cL_law 343 = .ok (.iconst 0, 1) := by decide +kernel
theorem dL_law_344 : decode cL_law 344 = .ok (.ireturn, 1) := by decide +kernel
theorem dL_law_345 : decode cL_law 345 = .ok (.aload_n 1, 1) := by decide +kernel
theorem dL_law_346 : decode cL_law 346 = .ok (.aload_n 0, 1) := by decide +kernel
theorem dL_law_347 : decode cL_law 347 = .ok (.iload_n 3, 1) := by decide +kernel
theorem dL_law_348 : decode cL_law 348 = .ok (.iconst 1, 1) := by decide +kernel
theorem dL_law_349 : decode cL_law 349 = .ok (.iadd, 1) := by decide +kernel
theorem dL_law_350 : decode cL_law 350 = .ok (.iaload, 1) := by decide +kernel
theorem dL_law_351 : decode cL_law 351 = .ok (.aload_n 0, 1) := by decide +kernel
theorem dL_law_352 : decode cL_law 352 = .ok (.iload_n 3, 1) := by decide +kernel
theorem dL_law_353 : decode cL_law 353 = .ok (.iconst 2, 1) := by decide +kernel
theorem dL_law_354 : decode cL_law 354 = .ok (.iadd, 1) := by decide +kernel
theorem dL_law_355 : decode cL_law 355 = .ok (.iaload, 1) := by decide +kernel
theorem dL_law_356 : decode cL_law 356 = .ok (.invokevirtual 30, 3) := by decide +kernel
theorem dL_law_359 : decode cL_law 359 = .ok (.aload_n 2, 1) := by decide +kernel
theorem dL_law_360 : decode cL_law 360 = .ok (.aload_n 0, 1) := by decide +kernel
theorem dL_law_361 : decode cL_law 361 = .ok (.iload_n 3, 1) := by decide +kernel
theorem dL_law_362 : decode cL_law 362 = .ok (.iconst 1, 1) := by decide +kernel
theorem dL_law_363 : decode cL_law 363 = .ok (.iadd, 1) := by decide +kernel
theorem dL_law_364 : decode cL_law 364 = .ok (.iaload, 1) := by decide +kernel
theorem dL_law_365 : decode cL_law 365 = .ok (.aload_n 0, 1) := by decide +kernel
theorem dL_law_366 : decode cL_law 366 = .ok (.iload_n 3, 1) := by decide +kernel
theorem dL_law_367 : decode cL_law 367 = .ok (.iconst 2, 1) := by decide +kernel
theorem dL_law_368 : decode cL_law 368 = .ok (.iadd, 1) := by decide +kernel
theorem dL_law_369 : decode cL_law 369 = .ok (.iaload, 1) := by decide +kernel
theorem dL_law_370 : decode cL_law 370 = .ok (.invokevirtual 34, 3) := by decide +kernel
theorem dL_law_373 : decode cL_law 373 = .ok (.if_icmp .eq 1172, 3) := by decide +kernel
theorem dL_law_376 : decode cL_law 376 = .ok (.iconst 0, 1) := by decide +kernel
theorem dL_law_377 : decode cL_law 377 = .ok (.ireturn, 1) := by decide +kernel
theorem dL_law_378 : decode cL_law 378 = .ok (.aload_n 1, 1) := by decide +kernel
theorem dL_law_379 : decode cL_law 379 = .ok (.aload_n 0, 1) := by decide +kernel
theorem dL_law_380 : decode cL_law 380 = .ok (.iload_n 3, 1) := by decide +kernel
theorem dL_law_381 : decode cL_law 381 = .ok (.iconst 1, 1) := by decide +kernel
theorem dL_law_382 : decode cL_law 382 = .ok (.iadd, 1) := by decide +kernel
theorem dL_law_383 : decode cL_law 383 = .ok (.iaload, 1) := by decide +kernel
theorem dL_law_384 : decode cL_law 384 = .ok (.invokevirtual 35, 3) := by decide +kernel
theorem dL_law_387 : decode cL_law 387 = .ok (.aload_n 2, 1) := by decide +kernel
theorem dL_law_388 : decode cL_law 388 = .ok (.aload_n 0, 1) := by decide +kernel
theorem dL_law_389 : decode cL_law 389 = .ok (.iload_n 3, 1) := by decide +kernel
theorem dL_law_390 : decode cL_law 390 = .ok (.iconst 1, 1) := by decide +kernel
theorem dL_law_391 : decode cL_law 391 = .ok (.iadd, 1) := by decide +kernel
theorem dL_law_392 : decode cL_law 392 = .ok (.iaload, 1) := by decide +kernel
theorem dL_law_393 : decode cL_law 393 = .ok (.invokevirtual 39, 3) := by decide +kernel
theorem dL_law_396 : decode cL_law 396 = .ok (.if_icmp .eq 1149, 3) := by decide +kernel
theorem dL_law_399 : decode cL_law 399 = .ok (.iconst 0, 1) := by decide +kernel
theorem dL_law_400 : decode cL_law 400 = .ok (.ireturn, 1) := by decide +kernel
theorem dL_law_401 : decode cL_law 401 = .ok (.aload_n 1, 1) := by decide +kernel
theorem dL_law_402 : decode cL_law 402 = .ok (.aload_n 0, 1) := by decide +kernel
theorem dL_law_403 : decode cL_law 403 = .ok (.iload_n 3, 1) := by decide +kernel
theorem dL_law_404 : decode cL_law 404 = .ok (.iconst 1, 1) := by decide +kernel
theorem dL_law_405 : decode cL_law 405 = .ok (.iadd, 1) := by decide +kernel
theorem dL_law_406 : decode cL_law 406 = .ok (.iaload, 1) := by decide +kernel
theorem dL_law_407 : decode cL_law 407 = .ok (.aload_n 0, 1) := by decide +kernel
theorem dL_law_408 : decode cL_law 408 = .ok (.iload_n 3, 1) := by decide +kernel
theorem dL_law_409 : decode cL_law 409 = .ok (.iconst 2, 1) := by decide +kernel
theorem dL_law_410 : decode cL_law 410 = .ok (.iadd, 1) := by decide +kernel
theorem dL_law_411 : decode cL_law 411 = .ok (.iaload, 1) := by decide +kernel
theorem dL_law_412 : decode cL_law 412 = .ok (.aload_n 0, 1) := by decide +kernel
theorem dL_law_413 : decode cL_law 413 = .ok (.iload_n 3, 1) := by decide +kernel
theorem dL_law_414 : decode cL_law 414 = .ok (.iconst 3, 1) := by decide +kernel
theorem dL_law_415 : decode cL_law 415 = .ok (.iadd, 1) := by decide +kernel
theorem dL_law_416 : decode cL_law 416 = .ok (.iaload, 1) := by decide +kernel
theorem dL_law_417 : decode cL_law 417 = .ok (.invokevirtual 40, 3) := by decide +kernel
theorem dL_law_420 : decode cL_law 420 = .ok (.aload_n 2, 1) := by decide +kernel
theorem dL_law_421 : decode cL_law 421 = .ok (.aload_n 0, 1) := by decide +kernel
theorem dL_law_422 : decode cL_law 422 = .ok (.iload_n 3, 1) := by decide +kernel
theorem dL_law_423 : decode cL_law 423 = .ok (.iconst 1, 1) := by decide +kernel
theorem dL_law_424 : decode cL_law 424 = .ok (.iadd, 1) := by decide +kernel
theorem dL_law_425 : decode cL_law 425 = .ok (.iaload, 1) := by decide +kernel
theorem dL_law_426 : decode cL_law 426 = .ok (.aload_n 0, 1) := by decide +kernel
theorem dL_law_427 : decode cL_law 427 = .ok (.iload_n 3, 1) := by decide +kernel
theorem dL_law_428 : decode cL_law 428 = .ok (.iconst 2, 1) := by decide +kernel
theorem dL_law_429 : decode cL_law 429 = .ok (.iadd, 1) := by decide +kernel
theorem dL_law_430 : decode cL_law 430 = .ok (.iaload, 1) := by decide +kernel
theorem dL_law_431 : decode cL_law 431 = .ok (.aload_n 0, 1) := by decide +kernel
theorem dL_law_432 : decode cL_law 432 = .ok (.iload_n 3, 1) := by decide +kernel
theorem dL_law_433 : decode cL_law 433 = .ok (.iconst 3, 1) := by decide +kernel
theorem dL_law_434 : decode cL_law 434 = .ok (.iadd, 1) := by decide +kernel
theorem dL_law_435 : decode cL_law 435 = .ok (.iaload, 1) := by decide +kernel
theorem dL_law_436 : decode cL_law 436 = .ok (.invokevirtual 44, 3) := by decide +kernel
theorem dL_law_439 : decode cL_law 439 = .ok (.if_icmp .eq 1106, 3) := by decide +kernel
theorem dL_law_442 : decode cL_law 442 = .ok (.iconst 0, 1) := by decide +kernel
theorem dL_law_443 : decode cL_law 443 = .ok (.ireturn, 1) := by decide +kernel
theorem dL_law_444 : decode cL_law 444 = .ok (.aload_n 1, 1) := by decide +kernel
theorem dL_law_445 : decode cL_law 445 = .ok (.aload_n 0, 1) := by decide +kernel
theorem dL_law_446 : decode cL_law 446 = .ok (.iload_n 3, 1) := by decide +kernel
theorem dL_law_447 : decode cL_law 447 = .ok (.iconst 1, 1) := by decide +kernel
theorem dL_law_448 : decode cL_law 448 = .ok (.iadd, 1) := by decide +kernel
theorem dL_law_449 : decode cL_law 449 = .ok (.iaload, 1) := by decide +kernel
theorem dL_law_450 : decode cL_law 450 = .ok (.aload_n 0, 1) := by decide +kernel
theorem dL_law_451 : decode cL_law 451 = .ok (.iload_n 3, 1) := by decide +kernel
theorem dL_law_452 : decode cL_law 452 = .ok (.iconst 2, 1) := by decide +kernel
theorem dL_law_453 : decode cL_law 453 = .ok (.iadd, 1) := by decide +kernel
theorem dL_law_454 : decode cL_law 454 = .ok (.iaload, 1) := by decide +kernel
theorem dL_law_455 : decode cL_law 455 = .ok (.invokevirtual 45, 3) := by decide +kernel
theorem dL_law_458 : decode cL_law 458 = .ok (.aload_n 2, 1) := by decide +kernel
theorem dL_law_459 : decode cL_law 459 = .ok (.aload_n 0, 1) := by decide +kernel
theorem dL_law_460 : decode cL_law 460 = .ok (.iload_n 3, 1) := by decide +kernel
theorem dL_law_461 : decode cL_law 461 = .ok (.iconst 1, 1) := by decide +kernel
theorem dL_law_462 : decode cL_law 462 = .ok (.iadd, 1) := by decide +kernel
theorem dL_law_463 : decode cL_law 463 = .ok (.iaload, 1) := by decide +kernel
theorem dL_law_464 : decode cL_law 464 = .ok (.aload_n 0, 1) := by decide +kernel
theorem dL_law_465 : decode cL_law 465 = .ok (.iload_n 3, 1) := by decide +kernel
theorem dL_law_466 : decode cL_law 466 = .ok (.iconst 2, 1) := by decide +kernel
theorem dL_law_467 : decode cL_law 467 = .ok (.iadd, 1) := by decide +kernel
theorem dL_law_468 : decode cL_law 468 = .ok (.iaload, 1) := by decide +kernel
theorem dL_law_469 : decode cL_law 469 = .ok (.invokevirtual 48, 3) := by decide +kernel
theorem dL_law_472 : decode cL_law 472 = .ok (.if_icmp .eq 1073, 3) := by decide +kernel
theorem dL_law_475 : decode cL_law 475 = .ok (.iconst 0, 1) := by decide +kernel
theorem dL_law_476 : decode cL_law 476 = .ok (.ireturn, 1) := by decide +kernel
theorem dL_law_477 : decode cL_law 477 = .ok (.aload_n 1, 1) := by decide +kernel
theorem dL_law_478 : decode cL_law 478 = .ok (.aload_n 0, 1) := by decide +kernel
theorem dL_law_479 : decode cL_law 479 = .ok (.iload_n 3, 1) := by decide +kernel
theorem dL_law_480 : decode cL_law 480 = .ok (.iconst 1, 1) := by decide +kernel
theorem dL_law_481 : decode cL_law 481 = .ok (.iadd, 1) := by decide +kernel
theorem dL_law_482 : decode cL_law 482 = .ok (.iaload, 1) := by decide +kernel
theorem dL_law_483 : decode cL_law 483 = .ok (.aload_n 0, 1) := by decide +kernel
theorem dL_law_484 : decode cL_law 484 = .ok (.iload_n 3, 1) := by decide +kernel
theorem dL_law_485 : decode cL_law 485 = .ok (.iconst 2, 1) := by decide +kernel
theorem dL_law_486 : decode cL_law 486 = .ok (.iadd, 1) := by decide +kernel
theorem dL_law_487 : decode cL_law 487 = .ok (.iaload, 1) := by decide +kernel
theorem dL_law_488 : decode cL_law 488 = .ok (.invokevirtual 49, 3) := by decide +kernel
theorem dL_law_491 : decode cL_law 491 = .ok (.aload_n 2, 1) := by decide +kernel
theorem dL_law_492 : decode cL_law 492 = .ok (.aload_n 0, 1) := by decide +kernel
theorem dL_law_493 : decode cL_law 493 = .ok (.iload_n 3, 1) := by decide +kernel
theorem dL_law_494 : decode cL_law 494 = .ok (.iconst 1, 1) := by decide +kernel
theorem dL_law_495 : decode cL_law 495 = .ok (.iadd, 1) := by decide +kernel
theorem dL_law_496 : decode cL_law 496 = .ok (.iaload, 1) := by decide +kernel
theorem dL_law_497 : decode cL_law 497 = .ok (.aload_n 0, 1) := by decide +kernel
theorem dL_law_498 : decode cL_law 498 = .ok (.iload_n 3, 1) := by decide +kernel
theorem dL_law_499 : decode cL_law 499 = .ok (.iconst 2, 1) := by decide +kernel
theorem dL_law_500 : decode cL_law 500 = .ok (.iadd, 1) := by decide +kernel
theorem dL_law_501 : decode cL_law 501 = .ok (.iaload, 1) := by decide +kernel
theorem dL_law_502 : decode cL_law 502 = .ok (.invokevirtual 52, 3) := by decide +kernel
theorem dL_law_505 : decode cL_law 505 = .ok (.if_icmp .eq 1040, 3) := by decide +kernel
theorem dL_law_508 : decode cL_law 508 = .ok (.iconst 0, 1) := by decide +kernel
theorem dL_law_509 : decode cL_law 509 = .ok (.ireturn, 1) := by decide +kernel
theorem dL_law_510 : decode cL_law 510 = .ok (.aload_n 1, 1) := by decide +kernel
theorem dL_law_511 : decode cL_law 511 = .ok (.aload_n 0, 1) := by decide +kernel
theorem dL_law_512 : decode cL_law 512 = .ok (.iload_n 3, 1) := by decide +kernel
theorem dL_law_513 : decode cL_law 513 = .ok (.iconst 1, 1) := by decide +kernel
theorem dL_law_514 : decode cL_law 514 = .ok (.iadd, 1) := by decide +kernel
theorem dL_law_515 : decode cL_law 515 = .ok (.iaload, 1) := by decide +kernel
theorem dL_law_516 : decode cL_law 516 = .ok (.invokevirtual 53, 3) := by decide +kernel
theorem dL_law_519 : decode cL_law 519 = .ok (.aload_n 2, 1) := by decide +kernel
theorem dL_law_520 : decode cL_law 520 = .ok (.aload_n 0, 1) := by decide +kernel
theorem dL_law_521 : decode cL_law 521 = .ok (.iload_n 3, 1) := by decide +kernel
theorem dL_law_522 : decode cL_law 522 = .ok (.iconst 1, 1) := by decide +kernel
theorem dL_law_523 : decode cL_law 523 = .ok (.iadd, 1) := by decide +kernel
theorem dL_law_524 : decode cL_law 524 = .ok (.iaload, 1) := by decide +kernel
theorem dL_law_525 : decode cL_law 525 = .ok (.invokevirtual 56, 3) := by decide +kernel
theorem dL_law_528 : decode cL_law 528 = .ok (.if_icmp .eq 1017, 3) := by decide +kernel
theorem dL_law_531 : decode cL_law 531 = .ok (.iconst 0, 1) := by decide +kernel
theorem dL_law_532 : decode cL_law 532 = .ok (.ireturn, 1) := by decide +kernel
theorem dL_law_533 : decode cL_law 533 = .ok (.aload_n 1, 1) := by decide +kernel
theorem dL_law_534 : decode cL_law 534 = .ok (.aload_n 0, 1) := by decide +kernel
theorem dL_law_535 : decode cL_law 535 = .ok (.iload_n 3, 1) := by decide +kernel
theorem dL_law_536 : decode cL_law 536 = .ok (.iconst 1, 1) := by decide +kernel
theorem dL_law_537 : decode cL_law 537 = .ok (.iadd, 1) := by decide +kernel
theorem dL_law_538 : decode cL_law 538 = .ok (.iaload, 1) := by decide +kernel
theorem dL_law_539 : decode cL_law 539 = .ok (.aload_n 0, 1) := by decide +kernel
theorem dL_law_540 : decode cL_law 540 = .ok (.iload_n 3, 1) := by decide +kernel
theorem dL_law_541 : decode cL_law 541 = .ok (.iconst 2, 1) := by decide +kernel
theorem dL_law_542 : decode cL_law 542 = .ok (.iadd, 1) := by decide +kernel
theorem dL_law_543 : decode cL_law 543 = .ok (.iaload, 1) := by decide +kernel
theorem dL_law_544 : decode cL_law 544 = .ok (.invokevirtual 57, 3) := by decide +kernel
theorem dL_law_547 : decode cL_law 547 = .ok (.aload_n 2, 1) := by decide +kernel
theorem dL_law_548 : decode cL_law 548 = .ok (.aload_n 0, 1) := by decide +kernel
theorem dL_law_549 : decode cL_law 549 = .ok (.iload_n 3, 1) := by decide +kernel
theorem dL_law_550 : decode cL_law 550 = .ok (.iconst 1, 1) := by decide +kernel
theorem dL_law_551 : decode cL_law 551 = .ok (.iadd, 1) := by decide +kernel
theorem dL_law_552 : decode cL_law 552 = .ok (.iaload, 1) := by decide +kernel
theorem dL_law_553 : decode cL_law 553 = .ok (.aload_n 0, 1) := by decide +kernel
theorem dL_law_554 : decode cL_law 554 = .ok (.iload_n 3, 1) := by decide +kernel
theorem dL_law_555 : decode cL_law 555 = .ok (.iconst 2, 1) := by decide +kernel
theorem dL_law_556 : decode cL_law 556 = .ok (.iadd, 1) := by decide +kernel
theorem dL_law_557 : decode cL_law 557 = .ok (.iaload, 1) := by decide +kernel
theorem dL_law_558 : decode cL_law 558 = .ok (.invokevirtual 60, 3) := by decide +kernel
theorem dL_law_561 : decode cL_law 561 = .ok (.if_icmp .eq 984, 3) := by decide +kernel
theorem dL_law_564 : decode cL_law 564 = .ok (.iconst 0, 1) := by decide +kernel
theorem dL_law_565 : decode cL_law 565 = .ok (.ireturn, 1) := by decide +kernel
theorem dL_law_566 : decode cL_law 566 = .ok (.aload_n 1, 1) := by decide +kernel
theorem dL_law_567 : decode cL_law 567 = .ok (.aload_n 0, 1) := by decide +kernel
theorem dL_law_568 : decode cL_law 568 = .ok (.iload_n 3, 1) := by decide +kernel
theorem dL_law_569 : decode cL_law 569 = .ok (.iconst 1, 1) := by decide +kernel
theorem dL_law_570 : decode cL_law 570 = .ok (.iadd, 1) := by decide +kernel
theorem dL_law_571 : decode cL_law 571 = .ok (.iaload, 1) := by decide +kernel
theorem dL_law_572 : decode cL_law 572 = .ok (.aload_n 0, 1) := by decide +kernel
theorem dL_law_573 : decode cL_law 573 = .ok (.iload_n 3, 1) := by decide +kernel
theorem dL_law_574 : decode cL_law 574 = .ok (.iconst 2, 1) := by decide +kernel
theorem dL_law_575 : decode cL_law 575 = .ok (.iadd, 1) := by decide +kernel
theorem dL_law_576 : decode cL_law 576 = .ok (.iaload, 1) := by decide +kernel
theorem dL_law_577 : decode cL_law 577 = .ok (.aload_n 0, 1) := by decide +kernel
theorem dL_law_578 : decode cL_law 578 = .ok (.iload_n 3, 1) := by decide +kernel
theorem dL_law_579 : decode cL_law 579 = .ok (.iconst 3, 1) := by decide +kernel
theorem dL_law_580 : decode cL_law 580 = .ok (.iadd, 1) := by decide +kernel
theorem dL_law_581 : decode cL_law 581 = .ok (.iaload, 1) := by decide +kernel
theorem dL_law_582 : decode cL_law 582 = .ok (.invokevirtual 61, 3) := by decide +kernel
theorem dL_law_585 : decode cL_law 585 = .ok (.aload_n 2, 1) := by decide +kernel
theorem dL_law_586 : decode cL_law 586 = .ok (.aload_n 0, 1) := by decide +kernel
theorem dL_law_587 : decode cL_law 587 = .ok (.iload_n 3, 1) := by decide +kernel
theorem dL_law_588 : decode cL_law 588 = .ok (.iconst 1, 1) := by decide +kernel
theorem dL_law_589 : decode cL_law 589 = .ok (.iadd, 1) := by decide +kernel
theorem dL_law_590 : decode cL_law 590 = .ok (.iaload, 1) := by decide +kernel
theorem dL_law_591 : decode cL_law 591 = .ok (.aload_n 0, 1) := by decide +kernel
theorem dL_law_592 : decode cL_law 592 = .ok (.iload_n 3, 1) := by decide +kernel
theorem dL_law_593 : decode cL_law 593 = .ok (.iconst 2, 1) := by decide +kernel
theorem dL_law_594 : decode cL_law 594 = .ok (.iadd, 1) := by decide +kernel
theorem dL_law_595 : decode cL_law 595 = .ok (.iaload, 1) := by decide +kernel
theorem dL_law_596 : decode cL_law 596 = .ok (.aload_n 0, 1) := by decide +kernel
theorem dL_law_597 : decode cL_law 597 = .ok (.iload_n 3, 1) := by decide +kernel
theorem dL_law_598 : decode cL_law 598 = .ok (.iconst 3, 1) := by decide +kernel
theorem dL_law_599 : decode cL_law 599 = .ok (.iadd, 1) := by decide +kernel
theorem dL_law_600 : decode cL_law 600 = .ok (.iaload, 1) := by decide +kernel
theorem dL_law_601 : decode cL_law 601 = .ok (.invokevirtual 64, 3) := by decide +kernel
theorem dL_law_604 : decode cL_law 604 = .ok (.if_icmp .eq 941, 3) := by decide +kernel
theorem dL_law_607 : decode cL_law 607 = .ok (.iconst 0, 1) := by decide +kernel
theorem dL_law_608 : decode cL_law 608 = .ok (.ireturn, 1) := by decide +kernel
theorem dL_law_609 : decode cL_law 609 = .ok (.aload_n 1, 1) := by decide +kernel
theorem dL_law_610 : decode cL_law 610 = .ok (.aload_n 0, 1) := by decide +kernel
theorem dL_law_611 : decode cL_law 611 = .ok (.iload_n 3, 1) := by decide +kernel
theorem dL_law_612 : decode cL_law 612 = .ok (.iconst 1, 1) := by decide +kernel
theorem dL_law_613 : decode cL_law 613 = .ok (.iadd, 1) := by decide +kernel
theorem dL_law_614 : decode cL_law 614 = .ok (.iaload, 1) := by decide +kernel
theorem dL_law_615 : decode cL_law 615 = .ok (.aload_n 0, 1) := by decide +kernel
theorem dL_law_616 : decode cL_law 616 = .ok (.iload_n 3, 1) := by decide +kernel
theorem dL_law_617 : decode cL_law 617 = .ok (.iconst 2, 1) := by decide +kernel
theorem dL_law_618 : decode cL_law 618 = .ok (.iadd, 1) := by decide +kernel
theorem dL_law_619 : decode cL_law 619 = .ok (.iaload, 1) := by decide +kernel
theorem dL_law_620 : decode cL_law 620 = .ok (.invokevirtual 65, 3) := by decide +kernel
theorem dL_law_623 : decode cL_law 623 = .ok (.aload_n 2, 1) := by decide +kernel
theorem dL_law_624 : decode cL_law 624 = .ok (.aload_n 0, 1) := by decide +kernel
theorem dL_law_625 : decode cL_law 625 = .ok (.iload_n 3, 1) := by decide +kernel
theorem dL_law_626 : decode cL_law 626 = .ok (.iconst 1, 1) := by decide +kernel
theorem dL_law_627 : decode cL_law 627 = .ok (.iadd, 1) := by decide +kernel
theorem dL_law_628 : decode cL_law 628 = .ok (.iaload, 1) := by decide +kernel
theorem dL_law_629 : decode cL_law 629 = .ok (.aload_n 0, 1) := by decide +kernel
theorem dL_law_630 : decode cL_law 630 = .ok (.iload_n 3, 1) := by decide +kernel
theorem dL_law_631 : decode cL_law 631 = .ok (.iconst 2, 1) := by decide +kernel
theorem dL_law_632 : decode cL_law 632 = .ok (.iadd, 1) := by decide +kernel
theorem dL_law_633 : decode cL_law 633 = .ok (.iaload, 1) := by decide +kernel
theorem dL_law_634 : decode cL_law 634 = .ok (.invokevirtual 68, 3) := by decide +kernel
theorem dL_law_637 : decode cL_law 637 = .ok (.if_icmp .eq 908, 3) := by decide +kernel
theorem dL_law_640 : decode cL_law 640 = .ok (.iconst 0, 1) := by decide +kernel
theorem dL_law_641 : decode cL_law 641 = .ok (.ireturn, 1) := by decide +kernel
theorem dL_law_642 : decode cL_law 642 = .ok (.aload_n 1, 1) := by decide +kernel
theorem dL_law_643 : decode cL_law 643 = .ok (.aload_n 0, 1) := by decide +kernel
theorem dL_law_644 : decode cL_law 644 = .ok (.iload_n 3, 1) := by decide +kernel
theorem dL_law_645 : decode cL_law 645 = .ok (.iconst 1, 1) := by decide +kernel
theorem dL_law_646 : decode cL_law 646 = .ok (.iadd, 1) := by decide +kernel
theorem dL_law_647 : decode cL_law 647 = .ok (.iaload, 1) := by decide +kernel
theorem dL_law_648 : decode cL_law 648 = .ok (.aload_n 0, 1) := by decide +kernel
theorem dL_law_649 : decode cL_law 649 = .ok (.iload_n 3, 1) := by decide +kernel
theorem dL_law_650 : decode cL_law 650 = .ok (.iconst 2, 1) := by decide +kernel
theorem dL_law_651 : decode cL_law 651 = .ok (.iadd, 1) := by decide +kernel
theorem dL_law_652 : decode cL_law 652 = .ok (.iaload, 1) := by decide +kernel
theorem dL_law_653 : decode cL_law 653 = .ok (.invokevirtual 69, 3) := by decide +kernel
theorem dL_law_656 : decode cL_law 656 = .ok (.aload_n 2, 1) := by decide +kernel
theorem dL_law_657 : decode cL_law 657 = .ok (.aload_n 0, 1) := by decide +kernel
theorem dL_law_658 : decode cL_law 658 = .ok (.iload_n 3, 1) := by decide +kernel
theorem dL_law_659 : decode cL_law 659 = .ok (.iconst 1, 1) := by decide +kernel
theorem dL_law_660 : decode cL_law 660 = .ok (.iadd, 1) := by decide +kernel
theorem dL_law_661 : decode cL_law 661 = .ok (.iaload, 1) := by decide +kernel
theorem dL_law_662 : decode cL_law 662 = .ok (.aload_n 0, 1) := by decide +kernel
theorem dL_law_663 : decode cL_law 663 = .ok (.iload_n 3, 1) := by decide +kernel
theorem dL_law_664 : decode cL_law 664 = .ok (.iconst 2, 1) := by decide +kernel
theorem dL_law_665 : decode cL_law 665 = .ok (.iadd, 1) := by decide +kernel
theorem dL_law_666 : decode cL_law 666 = .ok (.iaload, 1) := by decide +kernel
theorem dL_law_667 : decode cL_law 667 = .ok (.invokevirtual 72, 3) := by decide +kernel
theorem dL_law_670 : decode cL_law 670 = .ok (.if_icmp .eq 875, 3) := by decide +kernel
theorem dL_law_673 : decode cL_law 673 = .ok (.iconst 0, 1) := by decide +kernel
theorem dL_law_674 : decode cL_law 674 = .ok (.ireturn, 1) := by decide +kernel
theorem dL_law_675 : decode cL_law 675 = .ok (.aload_n 1, 1) := by decide +kernel
theorem dL_law_676 : decode cL_law 676 = .ok (.aload_n 0, 1) := by decide +kernel
theorem dL_law_677 : decode cL_law 677 = .ok (.iload_n 3, 1) := by decide +kernel
theorem dL_law_678 : decode cL_law 678 = .ok (.iconst 1, 1) := by decide +kernel
theorem dL_law_679 : decode cL_law 679 = .ok (.iadd, 1) := by decide +kernel
theorem dL_law_680 : decode cL_law 680 = .ok (.iaload, 1) := by decide +kernel
theorem dL_law_681 : decode cL_law 681 = .ok (.invokevirtual 73, 3) := by decide +kernel
theorem dL_law_684 : decode cL_law 684 = .ok (.aload_n 2, 1) := by decide +kernel
theorem dL_law_685 : decode cL_law 685 = .ok (.aload_n 0, 1) := by decide +kernel
theorem dL_law_686 : decode cL_law 686 = .ok (.iload_n 3, 1) := by decide +kernel
theorem dL_law_687 : decode cL_law 687 = .ok (.iconst 1, 1) := by decide +kernel
theorem dL_law_688 : decode cL_law 688 = .ok (.iadd, 1) := by decide +kernel
theorem dL_law_689 : decode cL_law 689 = .ok (.iaload, 1) := by decide +kernel
theorem dL_law_690 : decode cL_law 690 = .ok (.invokevirtual 76, 3) := by decide +kernel
theorem dL_law_693 : decode cL_law 693 = .ok (.if_icmp .eq 852, 3) := by decide +kernel
theorem dL_law_696 : decode cL_law 696 = .ok (.iconst 0, 1) := by decide +kernel
theorem dL_law_697 : decode cL_law 697 = .ok (.ireturn, 1) := by decide +kernel
theorem dL_law_698 : decode cL_law 698 = .ok (.aload_n 1, 1) := by decide +kernel
theorem dL_law_699 : decode cL_law 699 = .ok (.aload_n 0, 1) := by decide +kernel
theorem dL_law_700 : decode cL_law 700 = .ok (.iload_n 3, 1) := by decide +kernel
theorem dL_law_701 : decode cL_law 701 = .ok (.iconst 1, 1) := by decide +kernel
theorem dL_law_702 : decode cL_law 702 = .ok (.iadd, 1) := by decide +kernel
theorem dL_law_703 : decode cL_law 703 = .ok (.iaload, 1) := by decide +kernel
theorem dL_law_704 : decode cL_law 704 = .ok (.invokevirtual 77, 3) := by decide +kernel
theorem dL_law_707 : decode cL_law 707 = .ok (.aload_n 2, 1) := by decide +kernel
theorem dL_law_708 : decode cL_law 708 = .ok (.aload_n 0, 1) := by decide +kernel
theorem dL_law_709 : decode cL_law 709 = .ok (.iload_n 3, 1) := by decide +kernel
theorem dL_law_710 : decode cL_law 710 = .ok (.iconst 1, 1) := by decide +kernel
theorem dL_law_711 : decode cL_law 711 = .ok (.iadd, 1) := by decide +kernel
theorem dL_law_712 : decode cL_law 712 = .ok (.iaload, 1) := by decide +kernel
theorem dL_law_713 : decode cL_law 713 = .ok (.invokevirtual 80, 3) := by decide +kernel
theorem dL_law_716 : decode cL_law 716 = .ok (.if_icmp .eq 829, 3) := by decide +kernel
theorem dL_law_719 : decode cL_law 719 = .ok (.iconst 0, 1) := by decide +kernel
theorem dL_law_720 : decode cL_law 720 = .ok (.ireturn, 1) := by decide +kernel
theorem dL_law_721 : decode cL_law 721 = .ok (.aload_n 1, 1) := by decide +kernel
theorem dL_law_722 : decode cL_law 722 = .ok (.aload_n 0, 1) := by decide +kernel
theorem dL_law_723 : decode cL_law 723 = .ok (.iload_n 3, 1) := by decide +kernel
theorem dL_law_724 : decode cL_law 724 = .ok (.iconst 1, 1) := by decide +kernel
theorem dL_law_725 : decode cL_law 725 = .ok (.iadd, 1) := by decide +kernel
theorem dL_law_726 : decode cL_law 726 = .ok (.iaload, 1) := by decide +kernel
theorem dL_law_727 : decode cL_law 727 = .ok (.invokevirtual 81, 3) := by decide +kernel
theorem dL_law_730 : decode cL_law 730 = .ok (.aload_n 2, 1) := by decide +kernel
theorem dL_law_731 : decode cL_law 731 = .ok (.aload_n 0, 1) := by decide +kernel
theorem dL_law_732 : decode cL_law 732 = .ok (.iload_n 3, 1) := by decide +kernel
theorem dL_law_733 : decode cL_law 733 = .ok (.iconst 1, 1) := by decide +kernel
theorem dL_law_734 : decode cL_law 734 = .ok (.iadd, 1) := by decide +kernel
theorem dL_law_735 : decode cL_law 735 = .ok (.iaload, 1) := by decide +kernel
theorem dL_law_736 : decode cL_law 736 = .ok (.invokevirtual 84, 3) := by decide +kernel
theorem dL_law_739 : decode cL_law 739 = .ok (.if_icmp .eq 806, 3) := by decide +kernel
theorem dL_law_742 : decode cL_law 742 = .ok (.iconst 0, 1) := by decide +kernel
theorem dL_law_743 : decode cL_law 743 = .ok (.ireturn, 1) := by decide +kernel
theorem dL_law_744 : decode cL_law 744 = .ok (.aload_n 1, 1) := by decide +kernel
theorem dL_law_745 : decode cL_law 745 = .ok (.aload_n 0, 1) := by decide +kernel
theorem dL_law_746 : decode cL_law 746 = .ok (.iload_n 3, 1) := by decide +kernel
theorem dL_law_747 : decode cL_law 747 = .ok (.iconst 1, 1) := by decide +kernel
theorem dL_law_748 : decode cL_law 748 = .ok (.iadd, 1) := by decide +kernel
theorem dL_law_749 : decode cL_law 749 = .ok (.iaload, 1) := by decide +kernel
theorem dL_law_750 : decode cL_law 750 = .ok (.invokevirtual 85, 3) := by decide +kernel
theorem dL_law_753 : decode cL_law 753 = .ok (.aload_n 2, 1) := by decide +kernel
theorem dL_law_754 : decode cL_law 754 = .ok (.aload_n 0, 1) := by decide +kernel
theorem dL_law_755 : decode cL_law 755 = .ok (.iload_n 3, 1) := by decide +kernel
theorem dL_law_756 : decode cL_law 756 = .ok (.iconst 1, 1) := by decide +kernel
theorem dL_law_757 : decode cL_law 757 = .ok (.iadd, 1) := by decide +kernel
theorem dL_law_758 : decode cL_law 758 = .ok (.iaload, 1) := by decide +kernel
theorem dL_law_759 : decode cL_law 759 = .ok (.invokevirtual 88, 3) := by decide +kernel
theorem dL_law_762 : decode cL_law 762 = .ok (.if_icmp .eq 783, 3) := by decide +kernel
theorem dL_law_765 : decode cL_law 765 = .ok (.iconst 0, 1) := by decide +kernel
theorem dL_law_766 : decode cL_law 766 = .ok (.ireturn, 1) := by decide +kernel
theorem dL_law_767 : decode cL_law 767 = .ok (.aload_n 1, 1) := by decide +kernel
theorem dL_law_768 : decode cL_law 768 = .ok (.invokevirtual 89, 3) := by decide +kernel
theorem dL_law_771 : decode cL_law 771 = .ok (.aload_n 2, 1) := by decide +kernel
theorem dL_law_772 : decode cL_law 772 = .ok (.invokevirtual 92, 3) := by decide +kernel
theorem dL_law_775 : decode cL_law 775 = .ok (.if_icmp .eq 770, 3) := by decide +kernel
theorem dL_law_778 : decode cL_law 778 = .ok (.iconst 0, 1) := by decide +kernel
theorem dL_law_779 : decode cL_law 779 = .ok (.ireturn, 1) := by decide +kernel
theorem dL_law_780 : decode cL_law 780 = .ok (.aload_n 1, 1) := by decide +kernel
theorem dL_law_781 : decode cL_law 781 = .ok (.aload_n 0, 1) := by decide +kernel
theorem dL_law_782 : decode cL_law 782 = .ok (.iload_n 3, 1) := by decide +kernel
theorem dL_law_783 : decode cL_law 783 = .ok (.iconst 1, 1) := by decide +kernel
theorem dL_law_784 : decode cL_law 784 = .ok (.iadd, 1) := by decide +kernel
theorem dL_law_785 : decode cL_law 785 = .ok (.iaload, 1) := by decide +kernel
theorem dL_law_786 : decode cL_law 786 = .ok (.invokevirtual 93, 3) := by decide +kernel
theorem dL_law_789 : decode cL_law 789 = .ok (.aload_n 2, 1) := by decide +kernel
theorem dL_law_790 : decode cL_law 790 = .ok (.aload_n 0, 1) := by decide +kernel
theorem dL_law_791 : decode cL_law 791 = .ok (.iload_n 3, 1) := by decide +kernel
theorem dL_law_792 : decode cL_law 792 = .ok (.iconst 1, 1) := by decide +kernel
theorem dL_law_793 : decode cL_law 793 = .ok (.iadd, 1) := by decide +kernel
theorem dL_law_794 : decode cL_law 794 = .ok (.iaload, 1) := by decide +kernel
theorem dL_law_795 : decode cL_law 795 = .ok (.invokevirtual 96, 3) := by decide +kernel
theorem dL_law_798 : decode cL_law 798 = .ok (.if_icmp .eq 747, 3) := by decide +kernel
theorem dL_law_801 : decode cL_law 801 = .ok (.iconst 0, 1) := by decide +kernel
theorem dL_law_802 : decode cL_law 802 = .ok (.ireturn, 1) := by decide +kernel
theorem dL_law_803 : decode cL_law 803 = .ok (.aload_n 1, 1) := by decide +kernel
theorem dL_law_804 : decode cL_law 804 = .ok (.aload_n 0, 1) := by decide +kernel
theorem dL_law_805 : decode cL_law 805 = .ok (.iload_n 3, 1) := by decide +kernel
theorem dL_law_806 : decode cL_law 806 = .ok (.iconst 1, 1) := by decide +kernel
theorem dL_law_807 : decode cL_law 807 = .ok (.iadd, 1) := by decide +kernel
theorem dL_law_808 : decode cL_law 808 = .ok (.iaload, 1) := by decide +kernel
theorem dL_law_809 : decode cL_law 809 = .ok (.invokevirtual 97, 3) := by decide +kernel
theorem dL_law_812 : decode cL_law 812 = .ok (.aload_n 2, 1) := by decide +kernel
theorem dL_law_813 : decode cL_law 813 = .ok (.aload_n 0, 1) := by decide +kernel
theorem dL_law_814 : decode cL_law 814 = .ok (.iload_n 3, 1) := by decide +kernel
theorem dL_law_815 : decode cL_law 815 = .ok (.iconst 1, 1) := by decide +kernel
theorem dL_law_816 : decode cL_law 816 = .ok (.iadd, 1) := by decide +kernel
theorem dL_law_817 : decode cL_law 817 = .ok (.iaload, 1) := by decide +kernel
theorem dL_law_818 : decode cL_law 818 = .ok (.invokevirtual 100, 3) := by decide +kernel
theorem dL_law_821 : decode cL_law 821 = .ok (.if_icmp .eq 724, 3) := by decide +kernel
theorem dL_law_824 : decode cL_law 824 = .ok (.iconst 0, 1) := by decide +kernel
theorem dL_law_825 : decode cL_law 825 = .ok (.ireturn, 1) := by decide +kernel
theorem dL_law_826 : decode cL_law 826 = .ok (.aload_n 1, 1) := by decide +kernel
theorem dL_law_827 : decode cL_law 827 = .ok (.aload_n 0, 1) := by decide +kernel
theorem dL_law_828 : decode cL_law 828 = .ok (.iload_n 3, 1) := by decide +kernel
theorem dL_law_829 : decode cL_law 829 = .ok (.iconst 1, 1) := by decide +kernel
theorem dL_law_830 : decode cL_law 830 = .ok (.iadd, 1) := by decide +kernel
theorem dL_law_831 : decode cL_law 831 = .ok (.iaload, 1) := by decide +kernel
theorem dL_law_832 : decode cL_law 832 = .ok (.aload_n 0, 1) := by decide +kernel
theorem dL_law_833 : decode cL_law 833 = .ok (.iload_n 3, 1) := by decide +kernel
theorem dL_law_834 : decode cL_law 834 = .ok (.iconst 2, 1) := by decide +kernel
theorem dL_law_835 : decode cL_law 835 = .ok (.iadd, 1) := by decide +kernel
theorem dL_law_836 : decode cL_law 836 = .ok (.iaload, 1) := by decide +kernel
theorem dL_law_837 : decode cL_law 837 = .ok (.aload_n 0, 1) := by decide +kernel
theorem dL_law_838 : decode cL_law 838 = .ok (.iload_n 3, 1) := by decide +kernel
theorem dL_law_839 : decode cL_law 839 = .ok (.iconst 3, 1) := by decide +kernel
theorem dL_law_840 : decode cL_law 840 = .ok (.iadd, 1) := by decide +kernel
theorem dL_law_841 : decode cL_law 841 = .ok (.iaload, 1) := by decide +kernel
theorem dL_law_842 : decode cL_law 842 = .ok (.invokevirtual 101, 3) := by decide +kernel
theorem dL_law_845 : decode cL_law 845 = .ok (.aload_n 2, 1) := by decide +kernel
theorem dL_law_846 : decode cL_law 846 = .ok (.aload_n 0, 1) := by decide +kernel
theorem dL_law_847 : decode cL_law 847 = .ok (.iload_n 3, 1) := by decide +kernel
theorem dL_law_848 : decode cL_law 848 = .ok (.iconst 1, 1) := by decide +kernel
theorem dL_law_849 : decode cL_law 849 = .ok (.iadd, 1) := by decide +kernel
theorem dL_law_850 : decode cL_law 850 = .ok (.iaload, 1) := by decide +kernel
theorem dL_law_851 : decode cL_law 851 = .ok (.aload_n 0, 1) := by decide +kernel
theorem dL_law_852 : decode cL_law 852 = .ok (.iload_n 3, 1) := by decide +kernel
theorem dL_law_853 : decode cL_law 853 = .ok (.iconst 2, 1) := by decide +kernel
theorem dL_law_854 : decode cL_law 854 = .ok (.iadd, 1) := by decide +kernel
theorem dL_law_855 : decode cL_law 855 = .ok (.iaload, 1) := by decide +kernel
theorem dL_law_856 : decode cL_law 856 = .ok (.aload_n 0, 1) := by decide +kernel
theorem dL_law_857 : decode cL_law 857 = .ok (.iload_n 3, 1) := by decide +kernel
theorem dL_law_858 : decode cL_law 858 = .ok (.iconst 3, 1) := by decide +kernel
theorem dL_law_859 : decode cL_law 859 = .ok (.iadd, 1) := by decide +kernel
theorem dL_law_860 : decode cL_law 860 = .ok (.iaload, 1) := by decide +kernel
theorem dL_law_861 : decode cL_law 861 = .ok (.invokevirtual 105, 3) := by decide +kernel
theorem dL_law_864 : decode cL_law 864 = .ok (.lcmp, 1) := by decide +kernel
theorem dL_law_865 : decode cL_law 865 = .ok (.ifCond .eq 680, 3) := by decide +kernel
theorem dL_law_868 : decode cL_law 868 = .ok (.iconst 0, 1) := by decide +kernel
theorem dL_law_869 : decode cL_law 869 = .ok (.ireturn, 1) := by decide +kernel
theorem dL_law_870 : decode cL_law 870 = .ok (.aload_n 1, 1) := by decide +kernel
theorem dL_law_871 : decode cL_law 871 = .ok (.aload_n 0, 1) := by decide +kernel
theorem dL_law_872 : decode cL_law 872 = .ok (.iload_n 3, 1) := by decide +kernel
theorem dL_law_873 : decode cL_law 873 = .ok (.iconst 1, 1) := by decide +kernel
theorem dL_law_874 : decode cL_law 874 = .ok (.iadd, 1) := by decide +kernel
theorem dL_law_875 : decode cL_law 875 = .ok (.iaload, 1) := by decide +kernel
theorem dL_law_876 : decode cL_law 876 = .ok (.aload_n 0, 1) := by decide +kernel
theorem dL_law_877 : decode cL_law 877 = .ok (.iload_n 3, 1) := by decide +kernel
theorem dL_law_878 : decode cL_law 878 = .ok (.iconst 2, 1) := by decide +kernel
theorem dL_law_879 : decode cL_law 879 = .ok (.iadd, 1) := by decide +kernel
theorem dL_law_880 : decode cL_law 880 = .ok (.iaload, 1) := by decide +kernel
theorem dL_law_881 : decode cL_law 881 = .ok (.aload_n 0, 1) := by decide +kernel
theorem dL_law_882 : decode cL_law 882 = .ok (.iload_n 3, 1) := by decide +kernel
theorem dL_law_883 : decode cL_law 883 = .ok (.iconst 3, 1) := by decide +kernel
theorem dL_law_884 : decode cL_law 884 = .ok (.iadd, 1) := by decide +kernel
theorem dL_law_885 : decode cL_law 885 = .ok (.iaload, 1) := by decide +kernel
theorem dL_law_886 : decode cL_law 886 = .ok (.invokevirtual 106, 3) := by decide +kernel
theorem dL_law_889 : decode cL_law 889 = .ok (.aload_n 2, 1) := by decide +kernel
theorem dL_law_890 : decode cL_law 890 = .ok (.aload_n 0, 1) := by decide +kernel
theorem dL_law_891 : decode cL_law 891 = .ok (.iload_n 3, 1) := by decide +kernel
theorem dL_law_892 : decode cL_law 892 = .ok (.iconst 1, 1) := by decide +kernel
theorem dL_law_893 : decode cL_law 893 = .ok (.iadd, 1) := by decide +kernel
theorem dL_law_894 : decode cL_law 894 = .ok (.iaload, 1) := by decide +kernel
theorem dL_law_895 : decode cL_law 895 = .ok (.aload_n 0, 1) := by decide +kernel
theorem dL_law_896 : decode cL_law 896 = .ok (.iload_n 3, 1) := by decide +kernel
theorem dL_law_897 : decode cL_law 897 = .ok (.iconst 2, 1) := by decide +kernel
theorem dL_law_898 : decode cL_law 898 = .ok (.iadd, 1) := by decide +kernel
theorem dL_law_899 : decode cL_law 899 = .ok (.iaload, 1) := by decide +kernel
theorem dL_law_900 : decode cL_law 900 = .ok (.aload_n 0, 1) := by decide +kernel
theorem dL_law_901 : decode cL_law 901 = .ok (.iload_n 3, 1) := by decide +kernel
theorem dL_law_902 : decode cL_law 902 = .ok (.iconst 3, 1) := by decide +kernel
theorem dL_law_903 : decode cL_law 903 = .ok (.iadd, 1) := by decide +kernel
theorem dL_law_904 : decode cL_law 904 = .ok (.iaload, 1) := by decide +kernel
theorem dL_law_905 : decode cL_law 905 = .ok (.invokevirtual 109, 3) := by decide +kernel
theorem dL_law_908 : decode cL_law 908 = .ok (.lcmp, 1) := by decide +kernel
theorem dL_law_909 : decode cL_law 909 = .ok (.ifCond .eq 636, 3) := by decide +kernel
theorem dL_law_912 : decode cL_law 912 = .ok (.iconst 0, 1) := by decide +kernel
theorem dL_law_913 : decode cL_law 913 = .ok (.ireturn, 1) := by decide +kernel
theorem dL_law_914 : decode cL_law 914 = .ok (.aload_n 1, 1) := by decide +kernel
theorem dL_law_915 : decode cL_law 915 = .ok (.aload_n 0, 1) := by decide +kernel
theorem dL_law_916 : decode cL_law 916 = .ok (.iload_n 3, 1) := by decide +kernel
theorem dL_law_917 : decode cL_law 917 = .ok (.iconst 1, 1) := by decide +kernel
theorem dL_law_918 : decode cL_law 918 = .ok (.iadd, 1) := by decide +kernel
theorem dL_law_919 : decode cL_law 919 = .ok (.iaload, 1) := by decide +kernel
theorem dL_law_920 : decode cL_law 920 = .ok (.aload_n 0, 1) := by decide +kernel
theorem dL_law_921 : decode cL_law 921 = .ok (.iload_n 3, 1) := by decide +kernel
theorem dL_law_922 : decode cL_law 922 = .ok (.iconst 2, 1) := by decide +kernel
theorem dL_law_923 : decode cL_law 923 = .ok (.iadd, 1) := by decide +kernel
theorem dL_law_924 : decode cL_law 924 = .ok (.iaload, 1) := by decide +kernel
theorem dL_law_925 : decode cL_law 925 = .ok (.aload_n 0, 1) := by decide +kernel
theorem dL_law_926 : decode cL_law 926 = .ok (.iload_n 3, 1) := by decide +kernel
theorem dL_law_927 : decode cL_law 927 = .ok (.iconst 3, 1) := by decide +kernel
theorem dL_law_928 : decode cL_law 928 = .ok (.iadd, 1) := by decide +kernel
theorem dL_law_929 : decode cL_law 929 = .ok (.iaload, 1) := by decide +kernel
theorem dL_law_930 : decode cL_law 930 = .ok (.invokevirtual 110, 3) := by decide +kernel
theorem dL_law_933 : decode cL_law 933 = .ok (.aload_n 2, 1) := by decide +kernel
theorem dL_law_934 : decode cL_law 934 = .ok (.aload_n 0, 1) := by decide +kernel
theorem dL_law_935 : decode cL_law 935 = .ok (.iload_n 3, 1) := by decide +kernel
theorem dL_law_936 : decode cL_law 936 = .ok (.iconst 1, 1) := by decide +kernel
theorem dL_law_937 : decode cL_law 937 = .ok (.iadd, 1) := by decide +kernel
theorem dL_law_938 : decode cL_law 938 = .ok (.iaload, 1) := by decide +kernel
theorem dL_law_939 : decode cL_law 939 = .ok (.aload_n 0, 1) := by decide +kernel
theorem dL_law_940 : decode cL_law 940 = .ok (.iload_n 3, 1) := by decide +kernel
theorem dL_law_941 : decode cL_law 941 = .ok (.iconst 2, 1) := by decide +kernel
theorem dL_law_942 : decode cL_law 942 = .ok (.iadd, 1) := by decide +kernel
theorem dL_law_943 : decode cL_law 943 = .ok (.iaload, 1) := by decide +kernel
theorem dL_law_944 : decode cL_law 944 = .ok (.aload_n 0, 1) := by decide +kernel
theorem dL_law_945 : decode cL_law 945 = .ok (.iload_n 3, 1) := by decide +kernel
theorem dL_law_946 : decode cL_law 946 = .ok (.iconst 3, 1) := by decide +kernel
theorem dL_law_947 : decode cL_law 947 = .ok (.iadd, 1) := by decide +kernel
theorem dL_law_948 : decode cL_law 948 = .ok (.iaload, 1) := by decide +kernel
theorem dL_law_949 : decode cL_law 949 = .ok (.invokevirtual 113, 3) := by decide +kernel
theorem dL_law_952 : decode cL_law 952 = .ok (.if_icmp .eq 593, 3) := by decide +kernel
theorem dL_law_955 : decode cL_law 955 = .ok (.iconst 0, 1) := by decide +kernel
theorem dL_law_956 : decode cL_law 956 = .ok (.ireturn, 1) := by decide +kernel
theorem dL_law_957 : decode cL_law 957 = .ok (.aload_n 1, 1) := by decide +kernel
theorem dL_law_958 : decode cL_law 958 = .ok (.aload_n 0, 1) := by decide +kernel
theorem dL_law_959 : decode cL_law 959 = .ok (.iload_n 3, 1) := by decide +kernel
theorem dL_law_960 : decode cL_law 960 = .ok (.iconst 1, 1) := by decide +kernel
theorem dL_law_961 : decode cL_law 961 = .ok (.iadd, 1) := by decide +kernel
theorem dL_law_962 : decode cL_law 962 = .ok (.iaload, 1) := by decide +kernel
theorem dL_law_963 : decode cL_law 963 = .ok (.aload_n 0, 1) := by decide +kernel
theorem dL_law_964 : decode cL_law 964 = .ok (.iload_n 3, 1) := by decide +kernel
theorem dL_law_965 : decode cL_law 965 = .ok (.iconst 2, 1) := by decide +kernel
theorem dL_law_966 : decode cL_law 966 = .ok (.iadd, 1) := by decide +kernel
theorem dL_law_967 : decode cL_law 967 = .ok (.iaload, 1) := by decide +kernel
theorem dL_law_968 : decode cL_law 968 = .ok (.invokevirtual 114, 3) := by decide +kernel
theorem dL_law_971 : decode cL_law 971 = .ok (.aload_n 2, 1) := by decide +kernel
theorem dL_law_972 : decode cL_law 972 = .ok (.aload_n 0, 1) := by decide +kernel
theorem dL_law_973 : decode cL_law 973 = .ok (.iload_n 3, 1) := by decide +kernel
theorem dL_law_974 : decode cL_law 974 = .ok (.iconst 1, 1) := by decide +kernel
theorem dL_law_975 : decode cL_law 975 = .ok (.iadd, 1) := by decide +kernel
theorem dL_law_976 : decode cL_law 976 = .ok (.iaload, 1) := by decide +kernel
theorem dL_law_977 : decode cL_law 977 = .ok (.aload_n 0, 1) := by decide +kernel
theorem dL_law_978 : decode cL_law 978 = .ok (.iload_n 3, 1) := by decide +kernel
theorem dL_law_979 : decode cL_law 979 = .ok (.iconst 2, 1) := by decide +kernel
theorem dL_law_980 : decode cL_law 980 = .ok (.iadd, 1) := by decide +kernel
theorem dL_law_981 : decode cL_law 981 = .ok (.iaload, 1) := by decide +kernel
theorem dL_law_982 : decode cL_law 982 = .ok (.invokevirtual 117, 3) := by decide +kernel
theorem dL_law_985 : decode cL_law 985 = .ok (.if_icmp .eq 560, 3) := by decide +kernel
theorem dL_law_988 : decode cL_law 988 = .ok (.iconst 0, 1) := by decide +kernel
theorem dL_law_989 : decode cL_law 989 = .ok (.ireturn, 1) := by decide +kernel
theorem dL_law_990 : decode cL_law 990 = .ok (.aload_n 1, 1) := by decide +kernel
theorem dL_law_991 : decode cL_law 991 = .ok (.aload_n 0, 1) := by decide +kernel
theorem dL_law_992 : decode cL_law 992 = .ok (.iload_n 3, 1) := by decide +kernel
theorem dL_law_993 : decode cL_law 993 = .ok (.iconst 1, 1) := by decide +kernel
theorem dL_law_994 : decode cL_law 994 = .ok (.iadd, 1) := by decide +kernel
theorem dL_law_995 : decode cL_law 995 = .ok (.iaload, 1) := by decide +kernel
theorem dL_law_996 : decode cL_law 996 = .ok (.aload_n 0, 1) := by decide +kernel
theorem dL_law_997 : decode cL_law 997 = .ok (.iload_n 3, 1) := by decide +kernel
theorem dL_law_998 : decode cL_law 998 = .ok (.iconst 2, 1) := by decide +kernel
theorem dL_law_999 : decode cL_law 999 = .ok (.iadd, 1) := by decide +kernel
theorem dL_law_1000 : decode cL_law 1000 = .ok (.iaload, 1) := by decide +kernel
theorem dL_law_1001 : decode cL_law 1001 = .ok (.invokevirtual 118, 3) := by decide +kernel
theorem dL_law_1004 : decode cL_law 1004 = .ok (.aload_n 2, 1) := by decide +kernel
theorem dL_law_1005 : decode cL_law 1005 = .ok (.aload_n 0, 1) := by decide +kernel
theorem dL_law_1006 : decode cL_law 1006 = .ok (.iload_n 3, 1) := by decide +kernel
theorem dL_law_1007 : decode cL_law 1007 = .ok (.iconst 1, 1) := by decide +kernel
theorem dL_law_1008 : decode cL_law 1008 = .ok (.iadd, 1) := by decide +kernel
theorem dL_law_1009 : decode cL_law 1009 = .ok (.iaload, 1) := by decide +kernel
theorem dL_law_1010 : decode cL_law 1010 = .ok (.aload_n 0, 1) := by decide +kernel
theorem dL_law_1011 : decode cL_law 1011 = .ok (.iload_n 3, 1) := by decide +kernel
theorem dL_law_1012 : decode cL_law 1012 = .ok (.iconst 2, 1) := by decide +kernel
theorem dL_law_1013 : decode cL_law 1013 = .ok (.iadd, 1) := by decide +kernel
theorem dL_law_1014 : decode cL_law 1014 = .ok (.iaload, 1) := by decide +kernel
theorem dL_law_1015 : decode cL_law 1015 = .ok (.invokevirtual 121, 3) := by decide +kernel
theorem dL_law_1018 : decode cL_law 1018 = .ok (.if_icmp .eq 527, 3) := by decide +kernel
theorem dL_law_1021 : decode cL_law 1021 = .ok (.iconst 0, 1) := by decide +kernel
theorem dL_law_1022 : decode cL_law 1022 = .ok (.ireturn, 1) := by decide +kernel
theorem dL_law_1023 : decode cL_law 1023 = .ok (.aload_n 1, 1) := by decide +kernel
theorem dL_law_1024 : decode cL_law 1024 = .ok (.aload_n 0, 1) := by decide +kernel
theorem dL_law_1025 : decode cL_law 1025 = .ok (.iload_n 3, 1) := by decide +kernel
theorem dL_law_1026 : decode cL_law 1026 = .ok (.iconst 1, 1) := by decide +kernel
theorem dL_law_1027 : decode cL_law 1027 = .ok (.iadd, 1) := by decide +kernel
theorem dL_law_1028 : decode cL_law 1028 = .ok (.iaload, 1) := by decide +kernel
theorem dL_law_1029 : decode cL_law 1029 = .ok (.invokevirtual 122, 3) := by decide +kernel
theorem dL_law_1032 : decode cL_law 1032 = .ok (.aload_n 2, 1) := by decide +kernel
theorem dL_law_1033 : decode cL_law 1033 = .ok (.aload_n 0, 1) := by decide +kernel
theorem dL_law_1034 : decode cL_law 1034 = .ok (.iload_n 3, 1) := by decide +kernel
theorem dL_law_1035 : decode cL_law 1035 = .ok (.iconst 1, 1) := by decide +kernel
theorem dL_law_1036 : decode cL_law 1036 = .ok (.iadd, 1) := by decide +kernel
theorem dL_law_1037 : decode cL_law 1037 = .ok (.iaload, 1) := by decide +kernel
theorem dL_law_1038 : decode cL_law 1038 = .ok (.invokevirtual 125, 3) := by decide +kernel
theorem dL_law_1041 : decode cL_law 1041 = .ok (.if_icmp .eq 504, 3) := by decide +kernel
theorem dL_law_1044 : decode cL_law 1044 = .ok (.iconst 0, 1) := by decide +kernel
theorem dL_law_1045 : decode cL_law 1045 = .ok (.ireturn, 1) := by decide +kernel
theorem dL_law_1046 : decode cL_law 1046 = .ok (.aload_n 1, 1) := by decide +kernel
theorem dL_law_1047 : decode cL_law 1047 = .ok (.aload_n 0, 1) := by decide +kernel
theorem dL_law_1048 : decode cL_law 1048 = .ok (.iload_n 3, 1) := by decide +kernel
theorem dL_law_1049 : decode cL_law 1049 = .ok (.iconst 1, 1) := by decide +kernel
theorem dL_law_1050 : decode cL_law 1050 = .ok (.iadd, 1) := by decide +kernel
theorem dL_law_1051 : decode cL_law 1051 = .ok (.iaload, 1) := by decide +kernel
theorem dL_law_1052 : decode cL_law 1052 = .ok (.aload_n 0, 1) := by decide +kernel
theorem dL_law_1053 : decode cL_law 1053 = .ok (.iload_n 3, 1) := by decide +kernel
theorem dL_law_1054 : decode cL_law 1054 = .ok (.iconst 2, 1) := by decide +kernel
theorem dL_law_1055 : decode cL_law 1055 = .ok (.iadd, 1) := by decide +kernel
theorem dL_law_1056 : decode cL_law 1056 = .ok (.iaload, 1) := by decide +kernel
theorem dL_law_1057 : decode cL_law 1057 = .ok (.invokevirtual 126, 3) := by decide +kernel
theorem dL_law_1060 : decode cL_law 1060 = .ok (.aload_n 2, 1) := by decide +kernel
theorem dL_law_1061 : decode cL_law 1061 = .ok (.aload_n 0, 1) := by decide +kernel
theorem dL_law_1062 : decode cL_law 1062 = .ok (.iload_n 3, 1) := by decide +kernel
theorem dL_law_1063 : decode cL_law 1063 = .ok (.iconst 1, 1) := by decide +kernel
theorem dL_law_1064 : decode cL_law 1064 = .ok (.iadd, 1) := by decide +kernel
theorem dL_law_1065 : decode cL_law 1065 = .ok (.iaload, 1) := by decide +kernel
theorem dL_law_1066 : decode cL_law 1066 = .ok (.aload_n 0, 1) := by decide +kernel
theorem dL_law_1067 : decode cL_law 1067 = .ok (.iload_n 3, 1) := by decide +kernel
theorem dL_law_1068 : decode cL_law 1068 = .ok (.iconst 2, 1) := by decide +kernel
theorem dL_law_1069 : decode cL_law 1069 = .ok (.iadd, 1) := by decide +kernel
theorem dL_law_1070 : decode cL_law 1070 = .ok (.iaload, 1) := by decide +kernel
theorem dL_law_1071 : decode cL_law 1071 = .ok (.invokevirtual 130, 3) := by decide +kernel
theorem dL_law_1074 : decode cL_law 1074 = .ok (.lcmp, 1) := by decide +kernel
theorem dL_law_1075 : decode cL_law 1075 = .ok (.ifCond .eq 470, 3) := by decide +kernel
theorem dL_law_1078 : decode cL_law 1078 = .ok (.iconst 0, 1) := by decide +kernel
theorem dL_law_1079 : decode cL_law 1079 = .ok (.ireturn, 1) := by decide +kernel
theorem dL_law_1080 : decode cL_law 1080 = .ok (.aload_n 1, 1) := by decide +kernel
theorem dL_law_1081 : decode cL_law 1081 = .ok (.aload_n 0, 1) := by decide +kernel
theorem dL_law_1082 : decode cL_law 1082 = .ok (.iload_n 3, 1) := by decide +kernel
theorem dL_law_1083 : decode cL_law 1083 = .ok (.iconst 1, 1) := by decide +kernel
theorem dL_law_1084 : decode cL_law 1084 = .ok (.iadd, 1) := by decide +kernel
theorem dL_law_1085 : decode cL_law 1085 = .ok (.iaload, 1) := by decide +kernel
theorem dL_law_1086 : decode cL_law 1086 = .ok (.invokevirtual 131, 3) := by decide +kernel
theorem dL_law_1089 : decode cL_law 1089 = .ok (.aload_n 2, 1) := by decide +kernel
theorem dL_law_1090 : decode cL_law 1090 = .ok (.aload_n 0, 1) := by decide +kernel
theorem dL_law_1091 : decode cL_law 1091 = .ok (.iload_n 3, 1) := by decide +kernel
theorem dL_law_1092 : decode cL_law 1092 = .ok (.iconst 1, 1) := by decide +kernel
theorem dL_law_1093 : decode cL_law 1093 = .ok (.iadd, 1) := by decide +kernel
theorem dL_law_1094 : decode cL_law 1094 = .ok (.iaload, 1) := by decide +kernel
theorem dL_law_1095 : decode cL_law 1095 = .ok (.invokevirtual 134, 3) := by decide +kernel
theorem dL_law_1098 : decode cL_law 1098 = .ok (.if_icmp .eq 447, 3) := by decide +kernel
theorem dL_law_1101 : decode cL_law 1101 = .ok (.iconst 0, 1) := by decide +kernel
theorem dL_law_1102 : decode cL_law 1102 = .ok (.ireturn, 1) := by decide +kernel
theorem dL_law_1103 : decode cL_law 1103 = .ok (.aload_n 1, 1) := by decide +kernel
theorem dL_law_1104 : decode cL_law 1104 = .ok (.aload_n 0, 1) := by decide +kernel
theorem dL_law_1105 : decode cL_law 1105 = .ok (.iload_n 3, 1) := by decide +kernel
theorem dL_law_1106 : decode cL_law 1106 = .ok (.iconst 1, 1) := by decide +kernel
theorem dL_law_1107 : decode cL_law 1107 = .ok (.iadd, 1) := by decide +kernel
theorem dL_law_1108 : decode cL_law 1108 = .ok (.iaload, 1) := by decide +kernel
theorem dL_law_1109 : decode cL_law 1109 = .ok (.aload_n 0, 1) := by decide +kernel
theorem dL_law_1110 : decode cL_law 1110 = .ok (.iload_n 3, 1) := by decide +kernel
theorem dL_law_1111 : decode cL_law 1111 = .ok (.iconst 2, 1) := by decide +kernel
theorem dL_law_1112 : decode cL_law 1112 = .ok (.iadd, 1) := by decide +kernel
theorem dL_law_1113 : decode cL_law 1113 = .ok (.iaload, 1) := by decide +kernel
theorem dL_law_1114 : decode cL_law 1114 = .ok (.invokevirtual 135, 3) := by decide +kernel
theorem dL_law_1117 : decode cL_law 1117 = .ok (.aload_n 2, 1) := by decide +kernel
theorem dL_law_1118 : decode cL_law 1118 = .ok (.aload_n 0, 1) := by decide +kernel
theorem dL_law_1119 : decode cL_law 1119 = .ok (.iload_n 3, 1) := by decide +kernel
theorem dL_law_1120 : decode cL_law 1120 = .ok (.iconst 1, 1) := by decide +kernel
theorem dL_law_1121 : decode cL_law 1121 = .ok (.iadd, 1) := by decide +kernel
theorem dL_law_1122 : decode cL_law 1122 = .ok (.iaload, 1) := by decide +kernel
theorem dL_law_1123 : decode cL_law 1123 = .ok (.aload_n 0, 1) := by decide +kernel
theorem dL_law_1124 : decode cL_law 1124 = .ok (.iload_n 3, 1) := by decide +kernel
theorem dL_law_1125 : decode cL_law 1125 = .ok (.iconst 2, 1) := by decide +kernel
theorem dL_law_1126 : decode cL_law 1126 = .ok (.iadd, 1) := by decide +kernel
theorem dL_law_1127 : decode cL_law 1127 = .ok (.iaload, 1) := by decide +kernel
theorem dL_law_1128 : decode cL_law 1128 = .ok (.invokevirtual 138, 3) := by decide +kernel
theorem dL_law_1131 : decode cL_law 1131 = .ok (.if_icmp .eq 414, 3) := by decide +kernel
theorem dL_law_1134 : decode cL_law 1134 = .ok (.iconst 0, 1) := by decide +kernel
theorem dL_law_1135 : decode cL_law 1135 = .ok (.ireturn, 1) := by decide +kernel
theorem dL_law_1136 : decode cL_law 1136 = .ok (.aload_n 1, 1) := by decide +kernel
theorem dL_law_1137 : decode cL_law 1137 = .ok (.aload_n 0, 1) := by decide +kernel
theorem dL_law_1138 : decode cL_law 1138 = .ok (.iload_n 3, 1) := by decide +kernel
theorem dL_law_1139 : decode cL_law 1139 = .ok (.iconst 1, 1) := by decide +kernel
theorem dL_law_1140 : decode cL_law 1140 = .ok (.iadd, 1) := by decide +kernel
theorem dL_law_1141 : decode cL_law 1141 = .ok (.iaload, 1) := by decide +kernel
theorem dL_law_1142 : decode cL_law 1142 = .ok (.aload_n 0, 1) := by decide +kernel
theorem dL_law_1143 : decode cL_law 1143 = .ok (.iload_n 3, 1) := by decide +kernel
theorem dL_law_1144 : decode cL_law 1144 = .ok (.iconst 2, 1) := by decide +kernel
theorem dL_law_1145 : decode cL_law 1145 = .ok (.iadd, 1) := by decide +kernel
theorem dL_law_1146 : decode cL_law 1146 = .ok (.iaload, 1) := by decide +kernel
theorem dL_law_1147 : decode cL_law 1147 = .ok (.aload_n 0, 1) := by decide +kernel
theorem dL_law_1148 : decode cL_law 1148 = .ok (.iload_n 3, 1) := by decide +kernel
theorem dL_law_1149 : decode cL_law 1149 = .ok (.iconst 3, 1) := by decide +kernel
theorem dL_law_1150 : decode cL_law 1150 = .ok (.iadd, 1) := by decide +kernel
theorem dL_law_1151 : decode cL_law 1151 = .ok (.iaload, 1) := by decide +kernel
theorem dL_law_1152 : decode cL_law 1152 = .ok (.invokevirtual 139, 3) := by decide +kernel
theorem dL_law_1155 : decode cL_law 1155 = .ok (.aload_n 2, 1) := by decide +kernel
theorem dL_law_1156 : decode cL_law 1156 = .ok (.aload_n 0, 1) := by decide +kernel
theorem dL_law_1157 : decode cL_law 1157 = .ok (.iload_n 3, 1) := by decide +kernel
theorem dL_law_1158 : decode cL_law 1158 = .ok (.iconst 1, 1) := by decide +kernel
theorem dL_law_1159 : decode cL_law 1159 = .ok (.iadd, 1) := by decide +kernel
theorem dL_law_1160 : decode cL_law 1160 = .ok (.iaload, 1) := by decide +kernel
theorem dL_law_1161 : decode cL_law 1161 = .ok (.aload_n 0, 1) := by decide +kernel
theorem dL_law_1162 : decode cL_law 1162 = .ok (.iload_n 3, 1) := by decide +kernel
theorem dL_law_1163 : decode cL_law 1163 = .ok (.iconst 2, 1) := by decide +kernel
theorem dL_law_1164 : decode cL_law 1164 = .ok (.iadd, 1) := by decide +kernel
theorem dL_law_1165 : decode cL_law 1165 = .ok (.iaload, 1) := by decide +kernel
theorem dL_law_1166 : decode cL_law 1166 = .ok (.aload_n 0, 1) := by decide +kernel
theorem dL_law_1167 : decode cL_law 1167 = .ok (.iload_n 3, 1) := by decide +kernel
theorem dL_law_1168 : decode cL_law 1168 = .ok (.iconst 3, 1) := by decide +kernel
theorem dL_law_1169 : decode cL_law 1169 = .ok (.iadd, 1) := by decide +kernel
theorem dL_law_1170 : decode cL_law 1170 = .ok (.iaload, 1) := by decide +kernel
theorem dL_law_1171 : decode cL_law 1171 = .ok (.invokevirtual 142, 3) := by decide +kernel
theorem dL_law_1174 : decode cL_law 1174 = .ok (.if_icmp .eq 371, 3) := by decide +kernel
theorem dL_law_1177 : decode cL_law 1177 = .ok (.iconst 0, 1) := by decide +kernel
theorem dL_law_1178 : decode cL_law 1178 = .ok (.ireturn, 1) := by decide +kernel
theorem dL_law_1179 : decode cL_law 1179 = .ok (.aload_n 1, 1) := by decide +kernel
theorem dL_law_1180 : decode cL_law 1180 = .ok (.invokevirtual 143, 3) := by decide +kernel
theorem dL_law_1183 : decode cL_law 1183 = .ok (.aload_n 2, 1) := by decide +kernel
theorem dL_law_1184 : decode cL_law 1184 = .ok (.invokevirtual 146, 3) := by decide +kernel
theorem dL_law_1187 : decode cL_law 1187 = .ok (.if_icmp .eq 358, 3) := by decide +kernel
theorem dL_law_1190 : decode cL_law 1190 = .ok (.iconst 0, 1) := by decide +kernel
theorem dL_law_1191 : decode cL_law 1191 = .ok (.ireturn, 1) := by decide +kernel
theorem dL_law_1192 : decode cL_law 1192 = .ok (.aload_n 1, 1) := by decide +kernel
theorem dL_law_1193 : decode cL_law 1193 = .ok (.aload_n 0, 1) := by decide +kernel
theorem dL_law_1194 : decode cL_law 1194 = .ok (.iload_n 3, 1) := by decide +kernel
theorem dL_law_1195 : decode cL_law 1195 = .ok (.iconst 1, 1) := by decide +kernel
theorem dL_law_1196 : decode cL_law 1196 = .ok (.iadd, 1) := by decide +kernel
theorem dL_law_1197 : decode cL_law 1197 = .ok (.iaload, 1) := by decide +kernel
theorem dL_law_1198 : decode cL_law 1198 = .ok (.aload_n 0, 1) := by decide +kernel
theorem dL_law_1199 : decode cL_law 1199 = .ok (.iload_n 3, 1) := by decide +kernel
theorem dL_law_1200 : decode cL_law 1200 = .ok (.iconst 2, 1) := by decide +kernel
theorem dL_law_1201 : decode cL_law 1201 = .ok (.iadd, 1) := by decide +kernel
theorem dL_law_1202 : decode cL_law 1202 = .ok (.iaload, 1) := by decide +kernel
theorem dL_law_1203 : decode cL_law 1203 = .ok (.invokevirtual 147, 3) := by decide +kernel
theorem dL_law_1206 : decode cL_law 1206 = .ok (.aload_n 2, 1) := by decide +kernel
theorem dL_law_1207 : decode cL_law 1207 = .ok (.aload_n 0, 1) := by decide +kernel
theorem dL_law_1208 : decode cL_law 1208 = .ok (.iload_n 3, 1) := by decide +kernel
theorem dL_law_1209 : decode cL_law 1209 = .ok (.iconst 1, 1) := by decide +kernel
theorem dL_law_1210 : decode cL_law 1210 = .ok (.iadd, 1) := by decide +kernel
theorem dL_law_1211 : decode cL_law 1211 = .ok (.iaload, 1) := by decide +kernel
theorem dL_law_1212 : decode cL_law 1212 = .ok (.aload_n 0, 1) := by decide +kernel
theorem dL_law_1213 : decode cL_law 1213 = .ok (.iload_n 3, 1) := by decide +kernel
theorem dL_law_1214 : decode cL_law 1214 = .ok (.iconst 2, 1) := by decide +kernel
theorem dL_law_1215 : decode cL_law 1215 = .ok (.iadd, 1) := by decide +kernel
theorem dL_law_1216 : decode cL_law 1216 = .ok (.iaload, 1) := by decide +kernel
theorem dL_law_1217 : decode cL_law 1217 = .ok (.invokevirtual 150, 3) := by decide +kernel
theorem dL_law_1220 : decode cL_law 1220 = .ok (.if_icmp .eq 325, 3) := by decide +kernel
theorem dL_law_1223 : decode cL_law 1223 = .ok (.iconst 0, 1) := by decide +kernel
theorem dL_law_1224 : decode cL_law 1224 = .ok (.ireturn, 1) := by decide +kernel
theorem dL_law_1225 : decode cL_law 1225 = .ok (.aload_n 1, 1) := by decide +kernel
theorem dL_law_1226 : decode cL_law 1226 = .ok (.aload_n 0, 1) := by decide +kernel
theorem dL_law_1227 : decode cL_law 1227 = .ok (.iload_n 3, 1) := by decide +kernel
theorem dL_law_1228 : decode cL_law 1228 = .ok (.iconst 1, 1) := by decide +kernel
theorem dL_law_1229 : decode cL_law 1229 = .ok (.iadd, 1) := by decide +kernel
theorem dL_law_1230 : decode cL_law 1230 = .ok (.iaload, 1) := by decide +kernel
theorem dL_law_1231 : decode cL_law 1231 = .ok (.aload_n 0, 1) := by decide +kernel
theorem dL_law_1232 : decode cL_law 1232 = .ok (.iload_n 3, 1) := by decide +kernel
theorem dL_law_1233 : decode cL_law 1233 = .ok (.iconst 2, 1) := by decide +kernel
theorem dL_law_1234 : decode cL_law 1234 = .ok (.iadd, 1) := by decide +kernel
theorem dL_law_1235 : decode cL_law 1235 = .ok (.iaload, 1) := by decide +kernel
theorem dL_law_1236 : decode cL_law 1236 = .ok (.aload_n 0, 1) := by decide +kernel
theorem dL_law_1237 : decode cL_law 1237 = .ok (.iload_n 3, 1) := by decide +kernel
theorem dL_law_1238 : decode cL_law 1238 = .ok (.iconst 3, 1) := by decide +kernel
theorem dL_law_1239 : decode cL_law 1239 = .ok (.iadd, 1) := by decide +kernel
theorem dL_law_1240 : decode cL_law 1240 = .ok (.iaload, 1) := by decide +kernel
theorem dL_law_1241 : decode cL_law 1241 = .ok (.invokevirtual 151, 3) := by decide +kernel
theorem dL_law_1244 : decode cL_law 1244 = .ok (.aload_n 2, 1) := by decide +kernel
theorem dL_law_1245 : decode cL_law 1245 = .ok (.aload_n 0, 1) := by decide +kernel
theorem dL_law_1246 : decode cL_law 1246 = .ok (.iload_n 3, 1) := by decide +kernel
theorem dL_law_1247 : decode cL_law 1247 = .ok (.iconst 1, 1) := by decide +kernel
theorem dL_law_1248 : decode cL_law 1248 = .ok (.iadd, 1) := by decide +kernel
theorem dL_law_1249 : decode cL_law 1249 = .ok (.iaload, 1) := by decide +kernel
theorem dL_law_1250 : decode cL_law 1250 = .ok (.aload_n 0, 1) := by decide +kernel
theorem dL_law_1251 : decode cL_law 1251 = .ok (.iload_n 3, 1) := by decide +kernel
theorem dL_law_1252 : decode cL_law 1252 = .ok (.iconst 2, 1) := by decide +kernel
theorem dL_law_1253 : decode cL_law 1253 = .ok (.iadd, 1) := by decide +kernel
theorem dL_law_1254 : decode cL_law 1254 = .ok (.iaload, 1) := by decide +kernel
theorem dL_law_1255 : decode cL_law 1255 = .ok (.aload_n 0, 1) := by decide +kernel
theorem dL_law_1256 : decode cL_law 1256 = .ok (.iload_n 3, 1) := by decide +kernel
theorem dL_law_1257 : decode cL_law 1257 = .ok (.iconst 3, 1) := by decide +kernel
theorem dL_law_1258 : decode cL_law 1258 = .ok (.iadd, 1) := by decide +kernel
theorem dL_law_1259 : decode cL_law 1259 = .ok (.iaload, 1) := by decide +kernel
theorem dL_law_1260 : decode cL_law 1260 = .ok (.invokevirtual 154, 3) := by decide +kernel
theorem dL_law_1263 : decode cL_law 1263 = .ok (.if_icmp .eq 282, 3) := by decide +kernel
theorem dL_law_1266 : decode cL_law 1266 = .ok (.iconst 0, 1) := by decide +kernel
theorem dL_law_1267 : decode cL_law 1267 = .ok (.ireturn, 1) := by decide +kernel
theorem dL_law_1268 : decode cL_law 1268 = .ok (.aload_n 1, 1) := by decide +kernel
theorem dL_law_1269 : decode cL_law 1269 = .ok (.aload_n 0, 1) := by decide +kernel
theorem dL_law_1270 : decode cL_law 1270 = .ok (.iload_n 3, 1) := by decide +kernel
theorem dL_law_1271 : decode cL_law 1271 = .ok (.iconst 1, 1) := by decide +kernel
theorem dL_law_1272 : decode cL_law 1272 = .ok (.iadd, 1) := by decide +kernel
theorem dL_law_1273 : decode cL_law 1273 = .ok (.iaload, 1) := by decide +kernel
theorem dL_law_1274 : decode cL_law 1274 = .ok (.aload_n 0, 1) := by decide +kernel
theorem dL_law_1275 : decode cL_law 1275 = .ok (.iload_n 3, 1) := by decide +kernel
theorem dL_law_1276 : decode cL_law 1276 = .ok (.iconst 2, 1) := by decide +kernel
theorem dL_law_1277 : decode cL_law 1277 = .ok (.iadd, 1) := by decide +kernel
theorem dL_law_1278 : decode cL_law 1278 = .ok (.iaload, 1) := by decide +kernel
theorem dL_law_1279 : decode cL_law 1279 = .ok (.aload_n 0, 1) := by decide +kernel
theorem dL_law_1280 : decode cL_law 1280 = .ok (.iload_n 3, 1) := by decide +kernel
theorem dL_law_1281 : decode cL_law 1281 = .ok (.iconst 3, 1) := by decide +kernel
theorem dL_law_1282 : decode cL_law 1282 = .ok (.iadd, 1) := by decide +kernel
theorem dL_law_1283 : decode cL_law 1283 = .ok (.iaload, 1) := by decide +kernel
theorem dL_law_1284 : decode cL_law 1284 = .ok (.invokevirtual 155, 3) := by decide +kernel
theorem dL_law_1287 : decode cL_law 1287 = .ok (.aload_n 2, 1) := by decide +kernel
theorem dL_law_1288 : decode cL_law 1288 = .ok (.aload_n 0, 1) := by decide +kernel
theorem dL_law_1289 : decode cL_law 1289 = .ok (.iload_n 3, 1) := by decide +kernel
theorem dL_law_1290 : decode cL_law 1290 = .ok (.iconst 1, 1) := by decide +kernel
theorem dL_law_1291 : decode cL_law 1291 = .ok (.iadd, 1) := by decide +kernel
theorem dL_law_1292 : decode cL_law 1292 = .ok (.iaload, 1) := by decide +kernel
theorem dL_law_1293 : decode cL_law 1293 = .ok (.aload_n 0, 1) := by decide +kernel
theorem dL_law_1294 : decode cL_law 1294 = .ok (.iload_n 3, 1) := by decide +kernel
theorem dL_law_1295 : decode cL_law 1295 = .ok (.iconst 2, 1) := by decide +kernel
theorem dL_law_1296 : decode cL_law 1296 = .ok (.iadd, 1) := by decide +kernel
theorem dL_law_1297 : decode cL_law 1297 = .ok (.iaload, 1) := by decide +kernel
theorem dL_law_1298 : decode cL_law 1298 = .ok (.aload_n 0, 1) := by decide +kernel
theorem dL_law_1299 : decode cL_law 1299 = .ok (.iload_n 3, 1) := by decide +kernel
theorem dL_law_1300 : decode cL_law 1300 = .ok (.iconst 3, 1) := by decide +kernel
theorem dL_law_1301 : decode cL_law 1301 = .ok (.iadd, 1) := by decide +kernel
theorem dL_law_1302 : decode cL_law 1302 = .ok (.iaload, 1) := by decide +kernel
theorem dL_law_1303 : decode cL_law 1303 = .ok (.invokevirtual 158, 3) := by decide +kernel
theorem dL_law_1306 : decode cL_law 1306 = .ok (.if_icmp .eq 239, 3) := by decide +kernel
theorem dL_law_1309 : decode cL_law 1309 = .ok (.iconst 0, 1) := by decide +kernel
theorem dL_law_1310 : decode cL_law 1310 = .ok (.ireturn, 1) := by decide +kernel
theorem dL_law_1311 : decode cL_law 1311 = .ok (.aload_n 1, 1) := by decide +kernel
theorem dL_law_1312 : decode cL_law 1312 = .ok (.aload_n 0, 1) := by decide +kernel
theorem dL_law_1313 : decode cL_law 1313 = .ok (.iload_n 3, 1) := by decide +kernel
theorem dL_law_1314 : decode cL_law 1314 = .ok (.iconst 1, 1) := by decide +kernel
theorem dL_law_1315 : decode cL_law 1315 = .ok (.iadd, 1) := by decide +kernel
theorem dL_law_1316 : decode cL_law 1316 = .ok (.iaload, 1) := by decide +kernel
theorem dL_law_1317 : decode cL_law 1317 = .ok (.aload_n 0, 1) := by decide +kernel
theorem dL_law_1318 : decode cL_law 1318 = .ok (.iload_n 3, 1) := by decide +kernel
theorem dL_law_1319 : decode cL_law 1319 = .ok (.iconst 2, 1) := by decide +kernel
theorem dL_law_1320 : decode cL_law 1320 = .ok (.iadd, 1) := by decide +kernel
theorem dL_law_1321 : decode cL_law 1321 = .ok (.iaload, 1) := by decide +kernel
theorem dL_law_1322 : decode cL_law 1322 = .ok (.aload_n 0, 1) := by decide +kernel
theorem dL_law_1323 : decode cL_law 1323 = .ok (.iload_n 3, 1) := by decide +kernel
theorem dL_law_1324 : decode cL_law 1324 = .ok (.iconst 3, 1) := by decide +kernel
theorem dL_law_1325 : decode cL_law 1325 = .ok (.iadd, 1) := by decide +kernel
theorem dL_law_1326 : decode cL_law 1326 = .ok (.iaload, 1) := by decide +kernel
theorem dL_law_1327 : decode cL_law 1327 = .ok (.invokevirtual 159, 3) := by decide +kernel
theorem dL_law_1330 : decode cL_law 1330 = .ok (.aload_n 2, 1) := by decide +kernel
theorem dL_law_1331 : decode cL_law 1331 = .ok (.aload_n 0, 1) := by decide +kernel
theorem dL_law_1332 : decode cL_law 1332 = .ok (.iload_n 3, 1) := by decide +kernel
theorem dL_law_1333 : decode cL_law 1333 = .ok (.iconst 1, 1) := by decide +kernel
theorem dL_law_1334 : decode cL_law 1334 = .ok (.iadd, 1) := by decide +kernel
theorem dL_law_1335 : decode cL_law 1335 = .ok (.iaload, 1) := by decide +kernel
theorem dL_law_1336 : decode cL_law 1336 = .ok (.aload_n 0, 1) := by decide +kernel
theorem dL_law_1337 : decode cL_law 1337 = .ok (.iload_n 3, 1) := by decide +kernel
theorem dL_law_1338 : decode cL_law 1338 = .ok (.iconst 2, 1) := by decide +kernel
theorem dL_law_1339 : decode cL_law 1339 = .ok (.iadd, 1) := by decide +kernel
theorem dL_law_1340 : decode cL_law 1340 = .ok (.iaload, 1) := by decide +kernel
theorem dL_law_1341 : decode cL_law 1341 = .ok (.aload_n 0, 1) := by decide +kernel
theorem dL_law_1342 : decode cL_law 1342 = .ok (.iload_n 3, 1) := by decide +kernel
theorem dL_law_1343 : decode cL_law 1343 = .ok (.iconst 3, 1) := by decide +kernel
theorem dL_law_1344 : decode cL_law 1344 = .ok (.iadd, 1) := by decide +kernel
theorem dL_law_1345 : decode cL_law 1345 = .ok (.iaload, 1) := by decide +kernel
theorem dL_law_1346 : decode cL_law 1346 = .ok (.invokevirtual 162, 3) := by decide +kernel
theorem dL_law_1349 : decode cL_law 1349 = .ok (.if_icmp .eq 196, 3) := by decide +kernel
theorem dL_law_1352 : decode cL_law 1352 = .ok (.iconst 0, 1) := by decide +kernel
theorem dL_law_1353 : decode cL_law 1353 = .ok (.ireturn, 1) := by decide +kernel
theorem dL_law_1354 : decode cL_law 1354 = .ok (.aload_n 1, 1) := by decide +kernel
theorem dL_law_1355 : decode cL_law 1355 = .ok (.aload_n 0, 1) := by decide +kernel
theorem dL_law_1356 : decode cL_law 1356 = .ok (.iload_n 3, 1) := by decide +kernel
theorem dL_law_1357 : decode cL_law 1357 = .ok (.iconst 1, 1) := by decide +kernel
theorem dL_law_1358 : decode cL_law 1358 = .ok (.iadd, 1) := by decide +kernel
theorem dL_law_1359 : decode cL_law 1359 = .ok (.iaload, 1) := by decide +kernel
theorem dL_law_1360 : decode cL_law 1360 = .ok (.aload_n 0, 1) := by decide +kernel
theorem dL_law_1361 : decode cL_law 1361 = .ok (.iload_n 3, 1) := by decide +kernel
theorem dL_law_1362 : decode cL_law 1362 = .ok (.iconst 2, 1) := by decide +kernel
theorem dL_law_1363 : decode cL_law 1363 = .ok (.iadd, 1) := by decide +kernel
theorem dL_law_1364 : decode cL_law 1364 = .ok (.iaload, 1) := by decide +kernel
theorem dL_law_1365 : decode cL_law 1365 = .ok (.aload_n 0, 1) := by decide +kernel
theorem dL_law_1366 : decode cL_law 1366 = .ok (.iload_n 3, 1) := by decide +kernel
theorem dL_law_1367 : decode cL_law 1367 = .ok (.iconst 3, 1) := by decide +kernel
theorem dL_law_1368 : decode cL_law 1368 = .ok (.iadd, 1) := by decide +kernel
theorem dL_law_1369 : decode cL_law 1369 = .ok (.iaload, 1) := by decide +kernel
theorem dL_law_1370 : decode cL_law 1370 = .ok (.invokevirtual 163, 3) := by decide +kernel
theorem dL_law_1373 : decode cL_law 1373 = .ok (.aload_n 2, 1) := by decide +kernel
theorem dL_law_1374 : decode cL_law 1374 = .ok (.aload_n 0, 1) := by decide +kernel
theorem dL_law_1375 : decode cL_law 1375 = .ok (.iload_n 3, 1) := by decide +kernel
theorem dL_law_1376 : decode cL_law 1376 = .ok (.iconst 1, 1) := by decide +kernel
theorem dL_law_1377 : decode cL_law 1377 = .ok (.iadd, 1) := by decide +kernel
theorem dL_law_1378 : decode cL_law 1378 = .ok (.iaload, 1) := by decide +kernel
theorem dL_law_1379 : decode cL_law 1379 = .ok (.aload_n 0, 1) := by decide +kernel
theorem dL_law_1380 : decode cL_law 1380 = .ok (.iload_n 3, 1) := by decide +kernel
theorem dL_law_1381 : decode cL_law 1381 = .ok (.iconst 2, 1) := by decide +kernel
theorem dL_law_1382 : decode cL_law 1382 = .ok (.iadd, 1) := by decide +kernel
theorem dL_law_1383 : decode cL_law 1383 = .ok (.iaload, 1) := by decide +kernel
theorem dL_law_1384 : decode cL_law 1384 = .ok (.aload_n 0, 1) := by decide +kernel
theorem dL_law_1385 : decode cL_law 1385 = .ok (.iload_n 3, 1) := by decide +kernel
theorem dL_law_1386 : decode cL_law 1386 = .ok (.iconst 3, 1) := by decide +kernel
theorem dL_law_1387 : decode cL_law 1387 = .ok (.iadd, 1) := by decide +kernel
theorem dL_law_1388 : decode cL_law 1388 = .ok (.iaload, 1) := by decide +kernel
theorem dL_law_1389 : decode cL_law 1389 = .ok (.invokevirtual 166, 3) := by decide +kernel
theorem dL_law_1392 : decode cL_law 1392 = .ok (.if_icmp .eq 153, 3) := by decide +kernel
theorem dL_law_1395 : decode cL_law 1395 = .ok (.iconst 0, 1) := by decide +kernel
theorem dL_law_1396 : decode cL_law 1396 = .ok (.ireturn, 1) := by decide +kernel
theorem dL_law_1397 : decode cL_law 1397 = .ok (.aload_n 1, 1) := by decide +kernel
theorem dL_law_1398 : decode cL_law 1398 = .ok (.aload_n 0, 1) := by decide +kernel
theorem dL_law_1399 : decode cL_law 1399 = .ok (.iload_n 3, 1) := by decide +kernel
theorem dL_law_1400 : decode cL_law 1400 = .ok (.iconst 1, 1) := by decide +kernel
theorem dL_law_1401 : decode cL_law 1401 = .ok (.iadd, 1) := by decide +kernel
theorem dL_law_1402 : decode cL_law 1402 = .ok (.iaload, 1) := by decide +kernel
theorem dL_law_1403 : decode cL_law 1403 = .ok (.aload_n 0, 1) := by decide +kernel
theorem dL_law_1404 : decode cL_law 1404 = .ok (.iload_n 3, 1) := by decide +kernel
theorem dL_law_1405 : decode cL_law 1405 = .ok (.iconst 2, 1) := by decide +kernel
theorem dL_law_1406 : decode cL_law 1406 = .ok (.iadd, 1) := by decide +kernel
theorem dL_law_1407 : decode cL_law 1407 = .ok (.iaload, 1) := by decide +kernel
theorem dL_law_1408 : decode cL_law 1408 = .ok (.invokevirtual 167, 3) := by decide +kernel
theorem dL_law_1411 : decode cL_law 1411 = .ok (.aload_n 2, 1) := by decide +kernel
theorem dL_law_1412 : decode cL_law 1412 = .ok (.aload_n 0, 1) := by decide +kernel
theorem dL_law_1413 : decode cL_law 1413 = .ok (.iload_n 3, 1) := by decide +kernel
theorem dL_law_1414 : decode cL_law 1414 = .ok (.iconst 1, 1) := by decide +kernel
theorem dL_law_1415 : decode cL_law 1415 = .ok (.iadd, 1) := by decide +kernel
theorem dL_law_1416 : decode cL_law 1416 = .ok (.iaload, 1) := by decide +kernel
theorem dL_law_1417 : decode cL_law 1417 = .ok (.aload_n 0, 1) := by decide +kernel
theorem dL_law_1418 : decode cL_law 1418 = .ok (.iload_n 3, 1) := by decide +kernel
theorem dL_law_1419 : decode cL_law 1419 = .ok (.iconst 2, 1) := by decide +kernel
theorem dL_law_1420 : decode cL_law 1420 = .ok (.iadd, 1) := by decide +kernel
theorem dL_law_1421 : decode cL_law 1421 = .ok (.iaload, 1) := by decide +kernel
theorem dL_law_1422 : decode cL_law 1422 = .ok (.invokevirtual 170, 3) := by decide +kernel
theorem dL_law_1425 : decode cL_law 1425 = .ok (.if_icmp .eq 120, 3) := by decide +kernel
theorem dL_law_1428 : decode cL_law 1428 = .ok (.iconst 0, 1) := by decide +kernel
theorem dL_law_1429 : decode cL_law 1429 = .ok (.ireturn, 1) := by decide +kernel
theorem dL_law_1430 : decode cL_law 1430 = .ok (.aload_n 1, 1) := by decide +kernel
theorem dL_law_1431 : decode cL_law 1431 = .ok (.aload_n 0, 1) := by decide +kernel
theorem dL_law_1432 : decode cL_law 1432 = .ok (.iload_n 3, 1) := by decide +kernel
theorem dL_law_1433 : decode cL_law 1433 = .ok (.iconst 1, 1) := by decide +kernel
theorem dL_law_1434 : decode cL_law 1434 = .ok (.iadd, 1) := by decide +kernel
theorem dL_law_1435 : decode cL_law 1435 = .ok (.iaload, 1) := by decide +kernel
theorem dL_law_1436 : decode cL_law 1436 = .ok (.aload_n 0, 1) := by decide +kernel
theorem dL_law_1437 : decode cL_law 1437 = .ok (.iload_n 3, 1) := by decide +kernel
theorem dL_law_1438 : decode cL_law 1438 = .ok (.iconst 2, 1) := by decide +kernel
theorem dL_law_1439 : decode cL_law 1439 = .ok (.iadd, 1) := by decide +kernel
theorem dL_law_1440 : decode cL_law 1440 = .ok (.iaload, 1) := by decide +kernel
theorem dL_law_1441 : decode cL_law 1441 = .ok (.aload_n 0, 1) := by decide +kernel
theorem dL_law_1442 : decode cL_law 1442 = .ok (.iload_n 3, 1) := by decide +kernel
theorem dL_law_1443 : decode cL_law 1443 = .ok (.iconst 3, 1) := by decide +kernel
theorem dL_law_1444 : decode cL_law 1444 = .ok (.iadd, 1) := by decide +kernel
theorem dL_law_1445 : decode cL_law 1445 = .ok (.iaload, 1) := by decide +kernel
theorem dL_law_1446 : decode cL_law 1446 = .ok (.invokevirtual 171, 3) := by decide +kernel
theorem dL_law_1449 : decode cL_law 1449 = .ok (.aload_n 2, 1) := by decide +kernel
theorem dL_law_1450 : decode cL_law 1450 = .ok (.aload_n 0, 1) := by decide +kernel
theorem dL_law_1451 : decode cL_law 1451 = .ok (.iload_n 3, 1) := by decide +kernel
theorem dL_law_1452 : decode cL_law 1452 = .ok (.iconst 1, 1) := by decide +kernel
theorem dL_law_1453 : decode cL_law 1453 = .ok (.iadd, 1) := by decide +kernel
theorem dL_law_1454 : decode cL_law 1454 = .ok (.iaload, 1) := by decide +kernel
theorem dL_law_1455 : decode cL_law 1455 = .ok (.aload_n 0, 1) := by decide +kernel
theorem dL_law_1456 : decode cL_law 1456 = .ok (.iload_n 3, 1) := by decide +kernel
theorem dL_law_1457 : decode cL_law 1457 = .ok (.iconst 2, 1) := by decide +kernel
theorem dL_law_1458 : decode cL_law 1458 = .ok (.iadd, 1) := by decide +kernel
theorem dL_law_1459 : decode cL_law 1459 = .ok (.iaload, 1) := by decide +kernel
theorem dL_law_1460 : decode cL_law 1460 = .ok (.aload_n 0, 1) := by decide +kernel
theorem dL_law_1461 : decode cL_law 1461 = .ok (.iload_n 3, 1) := by decide +kernel
theorem dL_law_1462 : decode cL_law 1462 = .ok (.iconst 3, 1) := by decide +kernel
theorem dL_law_1463 : decode cL_law 1463 = .ok (.iadd, 1) := by decide +kernel
theorem dL_law_1464 : decode cL_law 1464 = .ok (.iaload, 1) := by decide +kernel
theorem dL_law_1465 : decode cL_law 1465 = .ok (.invokevirtual 174, 3) := by decide +kernel
theorem dL_law_1468 : decode cL_law 1468 = .ok (.if_icmp .eq 77, 3) := by decide +kernel
theorem dL_law_1471 : decode cL_law 1471 = .ok (.iconst 0, 1) := by decide +kernel
theorem dL_law_1472 : decode cL_law 1472 = .ok (.ireturn, 1) := by decide +kernel
theorem dL_law_1473 : decode cL_law 1473 = .ok (.aload_n 1, 1) := by decide +kernel
theorem dL_law_1474 : decode cL_law 1474 = .ok (.aload_n 0, 1) := by decide +kernel
theorem dL_law_1475 : decode cL_law 1475 = .ok (.iload_n 3, 1) := by decide +kernel
theorem dL_law_1476 : decode cL_law 1476 = .ok (.iconst 1, 1) := by decide +kernel
theorem dL_law_1477 : decode cL_law 1477 = .ok (.iadd, 1) := by decide +kernel
theorem dL_law_1478 : decode cL_law 1478 = .ok (.iaload, 1) := by decide +kernel
theorem dL_law_1479 : decode cL_law 1479 = .ok (.invokevirtual 175, 3) := by decide +kernel
theorem dL_law_1482 : decode cL_law 1482 = .ok (.aload_n 2, 1) := by decide +kernel
theorem dL_law_1483 : decode cL_law 1483 = .ok (.aload_n 0, 1) := by decide +kernel
theorem dL_law_1484 : decode cL_law 1484 = .ok (.iload_n 3, 1) := by decide +kernel
theorem dL_law_1485 : decode cL_law 1485 = .ok (.iconst 1, 1) := by decide +kernel
theorem dL_law_1486 : decode cL_law 1486 = .ok (.iadd, 1) := by decide +kernel
theorem dL_law_1487 : decode cL_law 1487 = .ok (.iaload, 1) := by decide +kernel
theorem dL_law_1488 : decode cL_law 1488 = .ok (.invokevirtual 178, 3) := by decide +kernel
theorem dL_law_1491 : decode cL_law 1491 = .ok (.if_icmp .eq 54, 3) := by decide +kernel
theorem dL_law_1494 : decode cL_law 1494 = .ok (.iconst 0, 1) := by decide +kernel
theorem dL_law_1495 : decode cL_law 1495 = .ok (.ireturn, 1) := by decide +kernel
theorem dL_law_1496 : decode cL_law 1496 = .ok (.aload_n 1, 1) := by decide +kernel
theorem dL_law_1497 : decode cL_law 1497 = .ok (.aload_n 0, 1) := by decide +kernel
theorem dL_law_1498 : decode cL_law 1498 = .ok (.iload_n 3, 1) := by decide +kernel
theorem dL_law_1499 : decode cL_law 1499 = .ok (.iconst 1, 1) := by decide +kernel
theorem dL_law_1500 : decode cL_law 1500 = .ok (.iadd, 1) := by decide +kernel
theorem dL_law_1501 : decode cL_law 1501 = .ok (.iaload, 1) := by decide +kernel
theorem dL_law_1502 : decode cL_law 1502 = .ok (.invokevirtual 179, 3) := by decide +kernel
theorem dL_law_1505 : decode cL_law 1505 = .ok (.aload_n 2, 1) := by decide +kernel
theorem dL_law_1506 : decode cL_law 1506 = .ok (.aload_n 0, 1) := by decide +kernel
theorem dL_law_1507 : decode cL_law 1507 = .ok (.iload_n 3, 1) := by decide +kernel
theorem dL_law_1508 : decode cL_law 1508 = .ok (.iconst 1, 1) := by decide +kernel
theorem dL_law_1509 : decode cL_law 1509 = .ok (.iadd, 1) := by decide +kernel
theorem dL_law_1510 : decode cL_law 1510 = .ok (.iaload, 1) := by decide +kernel
theorem dL_law_1511 : decode cL_law 1511 = .ok (.invokevirtual 182, 3) := by decide +kernel
theorem dL_law_1514 : decode cL_law 1514 = .ok (.if_icmp .eq 31, 3) := by decide +kernel
theorem dL_law_1517 : decode cL_law 1517 = .ok (.iconst 0, 1) := by decide +kernel
theorem dL_law_1518 : decode cL_law 1518 = .ok (.ireturn, 1) := by decide +kernel
theorem dL_law_1519 : decode cL_law 1519 = .ok (.aload_n 1, 1) := by decide +kernel
theorem dL_law_1520 : decode cL_law 1520 = .ok (.invokevirtual 183, 3) := by decide +kernel
theorem dL_law_1523 : decode cL_law 1523 = .ok (.aload_n 2, 1) := by decide +kernel
theorem dL_law_1524 : decode cL_law 1524 = .ok (.invokevirtual 186, 3) := by decide +kernel
theorem dL_law_1527 : decode cL_law 1527 = .ok (.if_icmp .eq 18, 3) := by decide +kernel
theorem dL_law_1530 : decode cL_law 1530 = .ok (.iconst 0, 1) := by decide +kernel
theorem dL_law_1531 : decode cL_law 1531 = .ok (.ireturn, 1) := by decide +kernel
theorem dL_law_1532 : decode cL_law 1532 = .ok (.aload_n 1, 1) := by decide +kernel
theorem dL_law_1533 : decode cL_law 1533 = .ok (.invokevirtual 187, 3) := by decide +kernel
theorem dL_law_1536 : decode cL_law 1536 = .ok (.aload_n 2, 1) := by decide +kernel
theorem dL_law_1537 : decode cL_law 1537 = .ok (.invokevirtual 190, 3) := by decide +kernel
theorem dL_law_1540 : decode cL_law 1540 = .ok (.if_icmp .eq 5, 3) := by decide +kernel
theorem dL_law_1543 : decode cL_law 1543 = .ok (.iconst 0, 1) := by decide +kernel
theorem dL_law_1544 : decode cL_law 1544 = .ok (.ireturn, 1) := by decide +kernel
theorem dL_law_1545 : decode cL_law 1545 = .ok (.iinc 3 5, 3) := by decide +kernel
theorem dL_law_1548 : decode cL_law 1548 = .ok (.goto (-1530), 3) := by decide +kernel
theorem dL_law_1551 : decode cL_law 1551 = .ok (.iconst 1, 1) := by decide +kernel
theorem dL_law_1552 : decode cL_law 1552 = .ok (.ireturn, 1) := by decide +kernel
