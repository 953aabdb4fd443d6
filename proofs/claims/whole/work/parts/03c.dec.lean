theorem dX8_init_0 : decode cX8_init 0 = .ok (.aload_n 0, 1) := by decide +kernel
theorem dX8_init_1 : decode cX8_init 1 = .ok (.invokespecial 1, 3) := by decide +kernel
theorem dX8_init_4 : decode cX8_init 4 = .ok (.aload_n 0, 1) := by decide +kernel
theorem dX8_init_5 : decode cX8_init 5 = .ok (.sipush 188, 3) := by decide +kernel
theorem dX8_init_8 : decode cX8_init 8 = .ok (.newarray .int, 2) := by decide +kernel
theorem dX8_init_10 : decode cX8_init 10 = .ok (.putfield 7, 3) := by decide +kernel
theorem dX8_init_13 : decode cX8_init 13 = .ok (.aload_n 0, 1) := by decide +kernel
theorem dX8_init_14 : decode cX8_init 14 = .ok (.sipush 376, 3) := by decide +kernel
theorem dX8_init_17 : decode cX8_init 17 = .ok (.newarray .int, 2) := by decide +kernel
theorem dX8_init_19 : decode cX8_init 19 = .ok (.putfield 13, 3) := by decide +kernel
theorem dX8_init_22 : decode cX8_init 22 = .ok (.aload_n 0, 1) := by decide +kernel
theorem dX8_init_23 : decode cX8_init 23 = .ok (.bipush 20, 2) := by decide +kernel
theorem dX8_init_25 : decode cX8_init 25 = .ok (.newarray .long, 2) := by decide +kernel
theorem dX8_init_27 : decode cX8_init 27 = .ok (.putfield 16, 3) := by decide +kernel
theorem dX8_init_30 : decode cX8_init 30 = .ok (.aload_n 0, 1) := by decide +kernel
theorem dX8_init_31 : decode cX8_init 31 = .ok (.bipush 40, 2) := by decide +kernel
theorem dX8_init_33 : decode cX8_init 33 = .ok (.newarray .long, 2) := by decide +kernel
theorem dX8_init_35 : decode cX8_init 35 = .ok (.putfield 20, 3) := by decide +kernel
theorem dX8_init_38 : decode cX8_init 38 = .ok (.aload_n 0, 1) := by decide +kernel
theorem dX8_init_39 : decode cX8_init 39 = .ok (.iconst 2, 1) := by decide +kernel
theorem dX8_init_40 : decode cX8_init 40 = .ok (.newarray .boolean, 2) := by decide +kernel
theorem dX8_init_42 : decode cX8_init 42 = .ok (.putfield 23, 3) := by decide +kernel
theorem dX8_init_45 : decode cX8_init 45 = .ok (.aload_n 0, 1) := by decide +kernel
theorem dX8_init_46 : decode cX8_init 46 = .ok (.iconst 3, 1) := by decide +kernel
theorem dX8_init_47 : decode cX8_init 47 = .ok (.newarray .int, 2) := by decide +kernel
theorem dX8_init_49 : decode cX8_init 49 = .ok (.putfield 27, 3) := by decide +kernel
theorem dX8_init_52 : decode cX8_init 52 = .ok (.aload_n 0, 1) := by decide +kernel
theorem dX8_init_53 : decode cX8_init 53 = .ok (.lconst 1, 1) := by decide +kernel
theorem dX8_init_54 : decode cX8_init 54 = .ok (.putfield 30, 3) := by decide +kernel
theorem dX8_init_57 : decode cX8_init 57 = .ok (.aload_n 0, 1) := by decide +kernel
theorem dX8_init_58 : decode cX8_init 58 = .ok (.bipush 7, 2) := by decide +kernel
theorem dX8_init_60 : decode cX8_init 60 = .ok (.newarray .int, 2) := by decide +kernel
theorem dX8_init_62 : decode cX8_init 62 = .ok (.putfield 34, 3) := by decide +kernel
theorem dX8_init_65 : decode cX8_init 65 = .ok (.aload_n 0, 1) := by decide +kernel
theorem dX8_init_66 : decode cX8_init 66 = .ok (.bipush 7, 2) := by decide +kernel
theorem dX8_init_68 : decode cX8_init 68 = .ok (.newarray .int, 2) := by decide +kernel
theorem dX8_init_70 : decode cX8_init 70 = .ok (.putfield 37, 3) := by decide +kernel
theorem dX8_init_73 : decode cX8_init 73 = .ok (.aload_n 0, 1) := by decide +kernel
theorem dX8_init_74 : decode cX8_init 74 = .ok (.bipush 7, 2) := by decide +kernel
theorem dX8_init_76 : decode cX8_init 76 = .ok (.newarray .long, 2) := by decide +kernel
theorem dX8_init_78 : decode cX8_init 78 = .ok (.putfield 40, 3) := by decide +kernel
theorem dX8_init_81 : decode cX8_init 81 = .ok (.aload_n 0, 1) := by decide +kernel
theorem dX8_init_82 : decode cX8_init 82 = .ok (.bipush 7, 2) := by decide +kernel
theorem dX8_init_84 : decode cX8_init 84 = .ok (.newarray .int, 2) := by decide +kernel
theorem dX8_init_86 : decode cX8_init 86 = .ok (.putfield 43, 3) := by decide +kernel
theorem dX8_init_89 : decode cX8_init 89 = .ok (.aload_n 0, 1) := by decide +kernel
theorem dX8_init_90 : decode cX8_init 90 = .ok (.bipush 6, 2) := by decide +kernel
theorem dX8_init_92 : decode cX8_init 92 = .ok (.newarray .int, 2) := by decide +kernel
theorem dX8_init_94 : decode cX8_init 94 = .ok (.putfield 46, 3) := by decide +kernel
theorem dX8_init_97 : decode cX8_init 97 = .ok (.aload_n 0, 1) := by decide +kernel
theorem dX8_init_98 : decode cX8_init 98 = .ok (.bipush 96, 2) := by decide +kernel
theorem dX8_init_100 : decode cX8_init 100 = .ok (.newarray .boolean, 2) := by decide +kernel
theorem dX8_init_102 : decode cX8_init 102 = .ok (.putfield 49, 3) := by decide +kernel
theorem dX8_init_105 : decode cX8_init 105 = .ok (.aload_n 0, 1) := by decide +kernel
theorem dX8_init_106 : decode cX8_init 106 = .ok (.bipush 14, 2) := by decide +kernel
theorem dX8_init_108 : decode cX8_init 108 = .ok (.newarray .long, 2) := by decide +kernel
theorem dX8_init_110 : decode cX8_init 110 = .ok (.putfield 52, 3) := by decide +kernel
theorem dX8_init_113 : decode cX8_init 113 = .ok (.aload_n 0, 1) := by decide +kernel
theorem dX8_init_114 : decode cX8_init 114 = .ok (.sipush 150, 3) := by decide +kernel
theorem dX8_init_117 : decode cX8_init 117 = .ok (.newarray .int, 2) := by decide +kernel
theorem dX8_init_119 : decode cX8_init 119 = .ok (.putfield 55, 3) := by decide +kernel
theorem dX8_init_122 : decode cX8_init 122 = .ok (.aload_n 0, 1) := by decide +kernel
theorem dX8_init_123 : decode cX8_init 123 = .ok (.bipush 52, 2) := by decide +kernel
theorem dX8_init_125 : decode cX8_init 125 = .ok (.newarray .int, 2) := by decide +kernel
theorem dX8_init_127 : decode cX8_init 127 = .ok (.putfield 58, 3) := by decide +kernel
theorem dX8_init_130 : decode cX8_init 130 = .ok (.aload_n 0, 1) := by decide +kernel
theorem dX8_init_131 : decode cX8_init 131 = .ok (.iconst 4, 1) := by decide +kernel
theorem dX8_init_132 : decode cX8_init 132 = .ok (.newarray .long, 2) := by decide +kernel
theorem dX8_init_134 : decode cX8_init 134 = .ok (.putfield 61, 3) := by decide +kernel
theorem dX8_init_137 : decode cX8_init 137 = .ok (.aload_n 0, 1) := by decide +kernel
theorem dX8_init_138 : decode cX8_init 138 = .ok (.iconst 4, 1) := by decide +kernel
theorem dX8_init_139 : decode cX8_init 139 = .ok (.newarray .int, 2) := by decide +kernel
theorem dX8_init_141 : decode cX8_init 141 = .ok (.putfield 64, 3) := by decide +kernel
theorem dX8_init_144 : decode cX8_init 144 = .ok (.return_, 1) := by decide +kernel
theorem dX8_in_0 : decode cX8_in 0 = .ok (.lload_n 0, 1) := by decide +kernel
theorem dX8_in_1 : decode cX8_in 1 = .ok (.lload_n 2, 1) := by decide +kernel
theorem dX8_in_2 : decode cX8_in 2 = .ok (.lcmp, 1) := by decide +kernel
theorem dX8_in_3 : decode cX8_in 3 = .ok (.ifCond .lt 14, 3) := by decide +kernel
theorem dX8_in_6 : decode cX8_in 6 = .ok (.lload_n 0, 1) := by decide +kernel
theorem dX8_in_7 : decode cX8_in 7 = .ok (.lload 4, 2) := by decide +kernel
theorem dX8_in_9 : decode cX8_in 9 = .ok (.lcmp, 1) := by decide +kernel
theorem dX8_in_10 : decode cX8_in 10 = .ok (.ifCond .gt 7, 3) := by decide +kernel
theorem dX8_in_13 : decode cX8_in 13 = .ok (.iconst 1, 1) := by decide +kernel
theorem dX8_in_14 : decode cX8_in 14 = .ok (.goto 4, 3) := by decide +kernel
theorem dX8_in_17 : decode cX8_in 17 = .ok (.iconst 0, 1) := by decide +kernel
theorem dX8_in_18 : decode cX8_in 18 = .ok (.ireturn, 1) := by decide +kernel
theorem dX8_bad_0 : decode cX8_bad 0 = .ok (.aload_n 0, 1) := by decide +kernel
theorem dX8_bad_1 : decode cX8_bad 1 = .ok (.getfield 27, 3) := by decide +kernel
theorem dX8_bad_4 : decode cX8_bad 4 = .ok (.iconst 0, 1) := by decide +kernel
theorem dX8_bad_5 : decode cX8_bad 5 = .ok (.dup2, 1) := by decide +kernel
theorem dX8_bad_6 : decode cX8_bad 6 = .ok (.iaload, 1) := by decide +kernel
theorem dX8_bad_7 : decode cX8_bad 7 = .ok (.iconst 1, 1) := by decide +kernel
theorem dX8_bad_8 : decode cX8_bad 8 = .ok (.iadd, 1) := by decide +kernel
theorem dX8_bad_9 : decode cX8_bad 9 = .ok (.iastore, 1) := by decide +kernel
theorem dX8_bad_10 : decode cX8_bad 10 = .ok (.iload_n 1, 1) := by decide +kernel
theorem dX8_bad_11 : decode cX8_bad 11 = .ok (.ireturn, 1) := by decide +kernel
theorem dX8_no_0 : decode cX8_no 0 = .ok (.aload_n 0, 1) := by decide +kernel
theorem dX8_no_1 : decode cX8_no 1 = .ok (.getfield 27, 3) := by decide +kernel
theorem dX8_no_4 : decode cX8_no 4 = .ok (.iconst 1, 1) := by decide +kernel
theorem dX8_no_5 : decode cX8_no 5 = .ok (.dup2, 1) := by decide +kernel
theorem dX8_no_6 : decode cX8_no 6 = .ok (.iaload, 1) := by decide +kernel
theorem dX8_no_7 : decode cX8_no 7 = .ok (.iconst 1, 1) := by decide +kernel
theorem dX8_no_8 : decode cX8_no 8 = .ok (.iadd, 1) := by decide +kernel
theorem dX8_no_9 : decode cX8_no 9 = .ok (.iastore, 1) := by decide +kernel
theorem dX8_no_10 : decode cX8_no 10 = .ok (.bipush (-3), 2) := by decide +kernel
theorem dX8_no_12 : decode cX8_no 12 = .ok (.ireturn, 1) := by decide +kernel
theorem dX8_full_0 : decode cX8_full 0 = .ok (.aload_n 0, 1) := by decide +kernel
theorem dX8_full_1 : decode cX8_full 1 = .ok (.getfield 27, 3) := by decide +kernel
theorem dX8_full_4 : decode cX8_full 4 = .ok (.iconst 2, 1) := by decide +kernel
theorem dX8_full_5 : decode cX8_full 5 = .ok (.dup2, 1) := by decide +kernel
theorem dX8_full_6 : decode cX8_full 6 = .ok (.iaload, 1) := by decide +kernel
theorem dX8_full_7 : decode cX8_full 7 = .ok (.iconst 1, 1) := by decide +kernel
theorem dX8_full_8 : decode cX8_full 8 = .ok (.iadd, 1) := by decide +kernel
theorem dX8_full_9 : decode cX8_full 9 = .ok (.iastore, 1) := by decide +kernel
theorem dX8_full_10 : decode cX8_full 10 = .ok (.bipush (-4), 2) := by decide +kernel
theorem dX8_full_12 : decode cX8_full 12 = .ok (.ireturn, 1) := by decide +kernel
theorem dX8_many_0 : decode cX8_many 0 = .ok (.lload_n 0, 1) := by decide +kernel
theorem dX8_many_1 : decode cX8_many 1 = .ok (.bipush 48, 2) := by decide +kernel
theorem dX8_many_3 : decode cX8_many 3 = .ok (.lshr, 1) := by decide +kernel
theorem dX8_many_4 : decode cX8_many 4 = .ok (.l2i, 1) := by decide +kernel
theorem dX8_many_5 : decode cX8_many 5 = .ok (.ireturn, 1) := by decide +kernel
theorem dX8_syllable_0 : decode cX8_syllable 0 = .ok (.lload_n 0, 1) := by decide +kernel
theorem dX8_syllable_1 : decode cX8_syllable 1 = .ok (.iconst 4, 1) := by decide +kernel
theorem dX8_syllable_2 : decode cX8_syllable 2 = .ok (.iload_n 2, 1) := by decide +kernel
theorem dX8_syllable_3 : decode cX8_syllable 3 = .ok (.imul, 1) := by decide +kernel
theorem dX8_syllable_4 : decode cX8_syllable 4 = .ok (.lshr, 1) := by decide +kernel
theorem dX8_syllable_5 : decode cX8_syllable 5 = .ok (.ldc2_w 67, 3) := by decide +kernel
theorem dX8_syllable_8 : decode cX8_syllable 8 = .ok (.land, 1) := by decide +kernel
theorem dX8_syllable_9 : decode cX8_syllable 9 = .ok (.l2i, 1) := by decide +kernel
theorem dX8_syllable_10 : decode cX8_syllable 10 = .ok (.ireturn, 1) := by decide +kernel
theorem dX8_behind_0 : decode cX8_behind 0 = .ok (.lload_n 0, 1) := by decide +kernel
theorem dX8_behind_1 : decode cX8_behind 1 = .ok (.ldc2_w 69, 3) := by decide +kernel
theorem dX8_behind_4 : decode cX8_behind 4 = .ok (.ladd, 1) := by decide +kernel
theorem dX8_behind_5 : decode cX8_behind 5 = .ok (.iload_n 2, 1) := by decide +kernel
theorem dX8_behind_6 : decode cX8_behind 6 = .ok (.i2l, 1) := by decide +kernel
theorem dX8_behind_7 : decode cX8_behind 7 = .ok (.iconst 4, 1) := by decide +kernel
theorem dX8_behind_8 : decode cX8_behind 8 = .ok (.lload_n 0, 1) := by decide +kernel
theorem dX8_behind_9 : decode cX8_behind 9 = .ok (.invokestatic 71, 3) := by decide +kernel
theorem dX8_behind_12 : decode cX8_behind 12 = .ok (.imul, 1) := by decide +kernel
theorem dX8_behind_13 : decode cX8_behind 13 = .ok (.lshl, 1) := by decide +kernel
theorem dX8_behind_14 : decode cX8_behind 14 = .ok (.ladd, 1) := by decide +kernel
theorem dX8_behind_15 : decode cX8_behind 15 = .ok (.lreturn, 1) := by decide +kernel
theorem dX8_firstOnes_0 : decode cX8_firstOnes 0 = .ok (.iload_n 2, 1) := by decide +kernel
theorem dX8_firstOnes_1 : decode cX8_firstOnes 1 = .ok (.i2l, 1) := by decide +kernel
theorem dX8_firstOnes_2 : decode cX8_firstOnes 2 = .ok (.bipush 48, 2) := by decide +kernel
theorem dX8_firstOnes_4 : decode cX8_firstOnes 4 = .ok (.lshl, 1) := by decide +kernel
theorem dX8_firstOnes_5 : decode cX8_firstOnes 5 = .ok (.lload_n 0, 1) := by decide +kernel
theorem dX8_firstOnes_6 : decode cX8_firstOnes 6 = .ok (.lconst 1, 1) := by decide +kernel
theorem dX8_firstOnes_7 : decode cX8_firstOnes 7 = .ok (.iconst 4, 1) := by decide +kernel
theorem dX8_firstOnes_8 : decode cX8_firstOnes 8 = .ok (.iload_n 2, 1) := by decide +kernel
theorem dX8_firstOnes_9 : decode cX8_firstOnes 9 = .ok (.imul, 1) := by decide +kernel
theorem dX8_firstOnes_10 : decode cX8_firstOnes 10 = .ok (.lshl, 1) := by decide +kernel
theorem dX8_firstOnes_11 : decode cX8_firstOnes 11 = .ok (.lconst 1, 1) := by decide +kernel
theorem dX8_firstOnes_12 : decode cX8_firstOnes 12 = .ok (.lsub, 1) := by decide +kernel
theorem dX8_firstOnes_13 : decode cX8_firstOnes 13 = .ok (.land, 1) := by decide +kernel
theorem dX8_firstOnes_14 : decode cX8_firstOnes 14 = .ok (.ladd, 1) := by decide +kernel
theorem dX8_firstOnes_15 : decode cX8_firstOnes 15 = .ok (.lreturn, 1) := by decide +kernel
theorem dX8_sweet_0 : decode cX8_sweet 0 = .ok (.lload_n 0, 1) := by decide +kernel
theorem dX8_sweet_1 : decode cX8_sweet 1 = .ok (.invokestatic 71, 3) := by decide +kernel
theorem dX8_sweet_4 : decode cX8_sweet 4 = .ok (.bipush 12, 2) := by decide +kernel
theorem dX8_sweet_6 : decode cX8_sweet 6 = .ok (.if_icmp .ne 12, 3) := by decide +kernel
theorem dX8_sweet_9 : decode cX8_sweet 9 = .ok (.lload_n 0, 1) := by decide +kernel
theorem dX8_sweet_10 : decode cX8_sweet 10 = .ok (.bipush 11, 2) := by decide +kernel
theorem dX8_sweet_12 : decode cX8_sweet 12 = .ok (.invokestatic 75, 3) := by decide +kernel
theorem dX8_sweet_15 : decode cX8_sweet 15 = .ok (.goto 4, 3) := by decide +kernel
theorem dX8_sweet_18 : decode cX8_sweet 18 = .ok (.lload_n 0, 1) := by decide +kernel
theorem dX8_sweet_19 : decode cX8_sweet 19 = .ok (.iload_n 2, 1) := by decide +kernel
theorem dX8_sweet_20 : decode cX8_sweet 20 = .ok (.invokestatic 79, 3) := by decide +kernel
theorem dX8_sweet_23 : decode cX8_sweet 23 = .ok (.lreturn, 1) := by decide +kernel
theorem dX8_drop_0 : decode cX8_drop 0 = .ok (.lload_n 0, 1) := by decide +kernel
theorem dX8_drop_1 : decode cX8_drop 1 = .ok (.invokestatic 71, 3) := by decide +kernel
theorem dX8_drop_4 : decode cX8_drop 4 = .ok (.iload_n 2, 1) := by decide +kernel
theorem dX8_drop_5 : decode cX8_drop 5 = .ok (.iconst 3, 1) := by decide +kernel
theorem dX8_drop_6 : decode cX8_drop 6 = .ok (.irem, 1) := by decide +kernel
theorem dX8_drop_7 : decode cX8_drop 7 = .ok (.isub, 1) := by decide +kernel
theorem dX8_drop_8 : decode cX8_drop 8 = .ok (.iconst 1, 1) := by decide +kernel
theorem dX8_drop_9 : decode cX8_drop 9 = .ok (.isub, 1) := by decide +kernel
theorem dX8_drop_10 : decode cX8_drop 10 = .ok (.istore_n 3, 1) := by decide +kernel
theorem dX8_drop_11 : decode cX8_drop 11 = .ok (.lload_n 0, 1) := by decide +kernel
theorem dX8_drop_12 : decode cX8_drop 12 = .ok (.iload_n 3, 1) := by decide +kernel
theorem dX8_drop_13 : decode cX8_drop 13 = .ok (.ifCond .ge 7, 3) := by decide +kernel
theorem dX8_drop_16 : decode cX8_drop 16 = .ok (.iconst 0, 1) := by decide +kernel
theorem dX8_drop_17 : decode cX8_drop 17 = .ok (.goto 4, 3) := by decide +kernel
theorem dX8_drop_20 : decode cX8_drop 20 = .ok (.iload_n 3, 1) := by decide +kernel
theorem dX8_drop_21 : decode cX8_drop 21 = .ok (.invokestatic 75, 3) := by decide +kernel
theorem dX8_drop_24 : decode cX8_drop 24 = .ok (.lreturn, 1) := by decide +kernel
theorem dX8_turn_0 : decode cX8_turn 0 = .ok (.lconst 0, 1) := by decide +kernel
theorem dX8_turn_1 : decode cX8_turn 1 = .ok (.lstore_n 2, 1) := by decide +kernel
theorem dX8_turn_2 : decode cX8_turn 2 = .ok (.lload_n 0, 1) := by decide +kernel
theorem dX8_turn_3 : decode cX8_turn 3 = .ok (.invokestatic 71, 3) := by decide +kernel
theorem dX8_turn_6 : decode cX8_turn 6 = .ok (.iconst 1, 1) := by decide +kernel
theorem dX8_turn_7 : decode cX8_turn 7 = .ok (.isub, 1) := by decide +kernel
theorem dX8_turn_8 : decode cX8_turn 8 = .ok (.istore 4, 2) := by decide +kernel
theorem dX8_turn_10 : decode cX8_turn 10 = .ok (.iload 4, 2) := by decide +kernel
theorem dX8_turn_12 : decode cX8_turn 12 = .ok (.ifCond .lt 20, 3) := by decide +kernel
theorem dX8_turn_15 : decode cX8_turn 15 = .ok (.lload_n 2, 1) := by decide +kernel
theorem dX8_turn_16 : decode cX8_turn 16 = .ok (.lload_n 0, 1) := by decide +kernel
theorem dX8_turn_17 : decode cX8_turn 17 = .ok (.iload 4, 2) := by decide +kernel
theorem dX8_turn_19 : decode cX8_turn 19 = .ok (.invokestatic 82, 3) := by decide +kernel
theorem dX8_turn_22 : decode cX8_turn 22 = .ok (.invokestatic 79, 3) := by decide +kernel
theorem dX8_turn_25 : decode cX8_turn 25 = .ok (.lstore_n 2, 1) := by decide +kernel
theorem dX8_turn_26 : decode cX8_turn 26 = .ok (.iinc 4 (-1), 3) := by decide +kernel
theorem dX8_turn_29 : decode cX8_turn 29 = .ok (.goto (-19), 3) := by decide +kernel
theorem dX8_turn_32 : decode cX8_turn 32 = .ok (.lload_n 2, 1) := by decide +kernel
theorem dX8_turn_33 : decode cX8_turn 33 = .ok (.lreturn, 1) := by decide +kernel
theorem dX8_twice_0 : decode cX8_twice 0 = .ok (.lconst 0, 1) := by decide +kernel
theorem dX8_twice_1 : decode cX8_twice 1 = .ok (.lload_n 0, 1) := by decide +kernel
theorem dX8_twice_2 : decode cX8_twice 2 = .ok (.iconst 0, 1) := by decide +kernel
theorem dX8_twice_3 : decode cX8_twice 3 = .ok (.invokestatic 82, 3) := by decide +kernel
theorem dX8_twice_6 : decode cX8_twice 6 = .ok (.invokestatic 79, 3) := by decide +kernel
theorem dX8_twice_9 : decode cX8_twice 9 = .ok (.lstore_n 2, 1) := by decide +kernel
theorem dX8_twice_10 : decode cX8_twice 10 = .ok (.iconst 0, 1) := by decide +kernel
theorem dX8_twice_11 : decode cX8_twice 11 = .ok (.istore 4, 2) := by decide +kernel
theorem dX8_twice_13 : decode cX8_twice 13 = .ok (.iload 4, 2) := by decide +kernel
theorem dX8_twice_15 : decode cX8_twice 15 = .ok (.lload_n 0, 1) := by decide +kernel
theorem dX8_twice_16 : decode cX8_twice 16 = .ok (.invokestatic 71, 3) := by decide +kernel
theorem dX8_twice_19 : decode cX8_twice 19 = .ok (.if_icmp .ge 27, 3) := by decide +kernel
theorem dX8_twice_22 : decode cX8_twice 22 = .ok (.iload 4, 2) := by decide +kernel
theorem dX8_twice_24 : decode cX8_twice 24 = .ok (.bipush 11, 2) := by decide +kernel
theorem dX8_twice_26 : decode cX8_twice 26 = .ok (.if_icmp .ge 20, 3) := by decide +kernel
theorem dX8_twice_29 : decode cX8_twice 29 = .ok (.lload_n 2, 1) := by decide +kernel
theorem dX8_twice_30 : decode cX8_twice 30 = .ok (.lload_n 0, 1) := by decide +kernel
theorem dX8_twice_31 : decode cX8_twice 31 = .ok (.iload 4, 2) := by decide +kernel
theorem dX8_twice_33 : decode cX8_twice 33 = .ok (.invokestatic 82, 3) := by decide +kernel
theorem dX8_twice_36 : decode cX8_twice 36 = .ok (.invokestatic 79, 3) := by decide +kernel
theorem dX8_twice_39 : decode cX8_twice 39 = .ok (.lstore_n 2, 1) := by decide +kernel
theorem dX8_twice_40 : decode cX8_twice 40 = .ok (.iinc 4 1, 3) := by decide +kernel
theorem dX8_twice_43 : decode cX8_twice 43 = .ok (.goto (-30), 3) := by decide +kernel
theorem dX8_twice_46 : decode cX8_twice 46 = .ok (.lload_n 2, 1) := by decide +kernel
theorem dX8_twice_47 : decode cX8_twice 47 = .ok (.lreturn, 1) := by decide +kernel
theorem dX8_higher_0 : decode cX8_higher 0 = .ok (.lconst 0, 1) := by decide +kernel
theorem dX8_higher_1 : decode cX8_higher 1 = .ok (.lstore_n 3, 1) := by decide +kernel
theorem dX8_higher_2 : decode cX8_higher 2 = .ok (.iconst 0, 1) := by decide +kernel
theorem dX8_higher_3 : decode cX8_higher 3 = .ok (.istore 5, 2) := by decide +kernel
theorem dX8_higher_5 : decode cX8_higher 5 = .ok (.iload 5, 2) := by decide +kernel
theorem dX8_higher_7 : decode cX8_higher 7 = .ok (.lload_n 0, 1) := by decide +kernel
theorem dX8_higher_8 : decode cX8_higher 8 = .ok (.invokestatic 71, 3) := by decide +kernel
theorem dX8_higher_11 : decode cX8_higher 11 = .ok (.if_icmp .ge 25, 3) := by decide +kernel
theorem dX8_higher_14 : decode cX8_higher 14 = .ok (.lload_n 3, 1) := by decide +kernel
theorem dX8_higher_15 : decode cX8_higher 15 = .ok (.lload_n 0, 1) := by decide +kernel
theorem dX8_higher_16 : decode cX8_higher 16 = .ok (.iload 5, 2) := by decide +kernel
theorem dX8_higher_18 : decode cX8_higher 18 = .ok (.invokestatic 82, 3) := by decide +kernel
theorem dX8_higher_21 : decode cX8_higher 21 = .ok (.iload_n 2, 1) := by decide +kernel
theorem dX8_higher_22 : decode cX8_higher 22 = .ok (.iadd, 1) := by decide +kernel
theorem dX8_higher_23 : decode cX8_higher 23 = .ok (.bipush 16, 2) := by decide +kernel
theorem dX8_higher_25 : decode cX8_higher 25 = .ok (.irem, 1) := by decide +kernel
theorem dX8_higher_26 : decode cX8_higher 26 = .ok (.invokestatic 79, 3) := by decide +kernel
theorem dX8_higher_29 : decode cX8_higher 29 = .ok (.lstore_n 3, 1) := by decide +kernel
theorem dX8_higher_30 : decode cX8_higher 30 = .ok (.iinc 5 1, 3) := by decide +kernel
theorem dX8_higher_33 : decode cX8_higher 33 = .ok (.goto (-28), 3) := by decide +kernel
theorem dX8_higher_36 : decode cX8_higher 36 = .ok (.lload_n 3, 1) := by decide +kernel
theorem dX8_higher_37 : decode cX8_higher 37 = .ok (.lreturn, 1) := by decide +kernel
theorem dX8_becomes_0 : decode cX8_becomes 0 = .ok (.iload_n 0, 1) := by decide +kernel
theorem dX8_becomes_1 : decode cX8_becomes 1 = .ok (.tableswitch 81 1 5 #[35, 41, 47, 52, 61], 35) := by decide +kernel
theorem dX8_becomes_36 : decode cX8_becomes 36 = .ok (.lload_n 3, 1) := by decide +kernel
theorem dX8_becomes_37 : decode cX8_becomes 37 = .ok (.iload_n 1, 1) := by decide +kernel
theorem dX8_becomes_38 : decode cX8_becomes 38 = .ok (.invokestatic 86, 3) := by decide +kernel
theorem dX8_becomes_41 : decode cX8_becomes 41 = .ok (.lreturn, 1) := by decide +kernel
theorem dX8_becomes_42 : decode cX8_becomes 42 = .ok (.lload_n 3, 1) := by decide +kernel
theorem dX8_becomes_43 : decode cX8_becomes 43 = .ok (.iload_n 1, 1) := by decide +kernel
theorem dX8_becomes_44 : decode cX8_becomes 44 = .ok (.invokestatic 89, 3) := by decide +kernel
theorem dX8_becomes_47 : decode cX8_becomes 47 = .ok (.lreturn, 1) := by decide +kernel
theorem dX8_becomes_48 : decode cX8_becomes 48 = .ok (.lload_n 3, 1) := by decide +kernel
theorem dX8_becomes_49 : decode cX8_becomes 49 = .ok (.invokestatic 92, 3) := by decide +kernel
theorem dX8_becomes_52 : decode cX8_becomes 52 = .ok (.lreturn, 1) := by decide +kernel
theorem dX8_becomes_53 : decode cX8_becomes 53 = .ok (.lload_n 3, 1) := by decide +kernel
theorem dX8_becomes_54 : decode cX8_becomes 54 = .ok (.iload_n 1, 1) := by decide +kernel
theorem dX8_becomes_55 : decode cX8_becomes 55 = .ok (.invokestatic 86, 3) := by decide +kernel
theorem dX8_becomes_58 : decode cX8_becomes 58 = .ok (.invokestatic 96, 3) := by decide +kernel
theorem dX8_becomes_61 : decode cX8_becomes 61 = .ok (.lreturn, 1) := by decide +kernel
theorem dX8_becomes_62 : decode cX8_becomes 62 = .ok (.iload_n 2, 1) := by decide +kernel
theorem dX8_becomes_63 : decode cX8_becomes 63 = .ok (.iconst 4, 1) := by decide +kernel
theorem dX8_becomes_64 : decode cX8_becomes 64 = .ok (.irem, 1) := by decide +kernel
theorem dX8_becomes_65 : decode cX8_becomes 65 = .ok (.ifCond .ne 11, 3) := by decide +kernel
theorem dX8_becomes_68 : decode cX8_becomes 68 = .ok (.lload_n 3, 1) := by decide +kernel
theorem dX8_becomes_69 : decode cX8_becomes 69 = .ok (.iload_n 1, 1) := by decide +kernel
theorem dX8_becomes_70 : decode cX8_becomes 70 = .ok (.invokestatic 89, 3) := by decide +kernel
theorem dX8_becomes_73 : decode cX8_becomes 73 = .ok (.goto 8, 3) := by decide +kernel
theorem dX8_becomes_76 : decode cX8_becomes 76 = .ok (.lload_n 3, 1) := by decide +kernel
theorem dX8_becomes_77 : decode cX8_becomes 77 = .ok (.iload_n 1, 1) := by decide +kernel
theorem dX8_becomes_78 : decode cX8_becomes 78 = .ok (.invokestatic 99, 3) := by decide +kernel
theorem dX8_becomes_81 : decode cX8_becomes 81 = .ok (.lreturn, 1) := by decide +kernel
theorem dX8_becomes_82 : decode cX8_becomes 82 = .ok (.lload_n 3, 1) := by decide +kernel
theorem dX8_becomes_83 : decode cX8_becomes 83 = .ok (.lreturn, 1) := by decide +kernel
theorem dX8_begin_0 : decode cX8_begin 0 = .ok (.iconst 0, 1) := by decide +kernel
theorem dX8_begin_1 : decode cX8_begin 1 = .ok (.istore_n 2, 1) := by decide +kernel
theorem dX8_begin_2 : decode cX8_begin 2 = .ok (.iload_n 2, 1) := by decide +kernel
theorem dX8_begin_3 : decode cX8_begin 3 = .ok (.bipush 52, 2) := by decide +kernel
theorem dX8_begin_5 : decode cX8_begin 5 = .ok (.if_icmp .ge 13, 3) := by decide +kernel
theorem dX8_begin_8 : decode cX8_begin 8 = .ok (.aload_n 0, 1) := by decide +kernel
theorem dX8_begin_9 : decode cX8_begin 9 = .ok (.iload_n 2, 1) := by decide +kernel
theorem dX8_begin_10 : decode cX8_begin 10 = .ok (.iconst 0, 1) := by decide +kernel
theorem dX8_begin_11 : decode cX8_begin 11 = .ok (.iastore, 1) := by decide +kernel
theorem dX8_begin_12 : decode cX8_begin 12 = .ok (.iinc 2 1, 3) := by decide +kernel
theorem dX8_begin_15 : decode cX8_begin 15 = .ok (.goto (-13), 3) := by decide +kernel
theorem dX8_begin_18 : decode cX8_begin 18 = .ok (.aload_n 0, 1) := by decide +kernel
theorem dX8_begin_19 : decode cX8_begin 19 = .ok (.iconst 1, 1) := by decide +kernel
theorem dX8_begin_20 : decode cX8_begin 20 = .ok (.iload_n 1, 1) := by decide +kernel
theorem dX8_begin_21 : decode cX8_begin 21 = .ok (.iastore, 1) := by decide +kernel
theorem dX8_begin_22 : decode cX8_begin 22 = .ok (.return_, 1) := by decide +kernel
theorem dX8_bridges_0 : decode cX8_bridges 0 = .ok (.aload_n 0, 1) := by decide +kernel
theorem dX8_bridges_1 : decode cX8_bridges 1 = .ok (.getfield 7, 3) := by decide +kernel
theorem dX8_bridges_4 : decode cX8_bridges 4 = .ok (.iconst 0, 1) := by decide +kernel
theorem dX8_bridges_5 : decode cX8_bridges 5 = .ok (.iaload, 1) := by decide +kernel
theorem dX8_bridges_6 : decode cX8_bridges 6 = .ok (.ireturn, 1) := by decide +kernel
theorem dX8_isBridge_0 : decode cX8_isBridge 0 = .ok (.iload_n 1, 1) := by decide +kernel
theorem dX8_isBridge_1 : decode cX8_isBridge 1 = .ok (.i2l, 1) := by decide +kernel
theorem dX8_isBridge_2 : decode cX8_isBridge 2 = .ok (.lconst 0, 1) := by decide +kernel
theorem dX8_isBridge_3 : decode cX8_isBridge 3 = .ok (.aload_n 0, 1) := by decide +kernel
theorem dX8_isBridge_4 : decode cX8_isBridge 4 = .ok (.invokevirtual 102, 3) := by decide +kernel
theorem dX8_isBridge_7 : decode cX8_isBridge 7 = .ok (.iconst 1, 1) := by decide +kernel
theorem dX8_isBridge_8 : decode cX8_isBridge 8 = .ok (.isub, 1) := by decide +kernel
theorem dX8_isBridge_9 : decode cX8_isBridge 9 = .ok (.i2l, 1) := by decide +kernel
theorem dX8_isBridge_10 : decode cX8_isBridge 10 = .ok (.invokestatic 106, 3) := by decide +kernel
theorem dX8_isBridge_13 : decode cX8_isBridge 13 = .ok (.ireturn, 1) := by decide +kernel
theorem dX8_isPlace_0 : decode cX8_isPlace 0 = .ok (.iload_n 0, 1) := by decide +kernel
theorem dX8_isPlace_1 : decode cX8_isPlace 1 = .ok (.i2l, 1) := by decide +kernel
theorem dX8_isPlace_2 : decode cX8_isPlace 2 = .ok (.lconst 0, 1) := by decide +kernel
theorem dX8_isPlace_3 : decode cX8_isPlace 3 = .ok (.ldc2_w 110, 3) := by decide +kernel
theorem dX8_isPlace_6 : decode cX8_isPlace 6 = .ok (.invokestatic 106, 3) := by decide +kernel
theorem dX8_isPlace_9 : decode cX8_isPlace 9 = .ok (.ireturn, 1) := by decide +kernel
theorem dX8_isRow_0 : decode cX8_isRow 0 = .ok (.iload_n 0, 1) := by decide +kernel
theorem dX8_isRow_1 : decode cX8_isRow 1 = .ok (.i2l, 1) := by decide +kernel
theorem dX8_isRow_2 : decode cX8_isRow 2 = .ok (.lconst 0, 1) := by decide +kernel
theorem dX8_isRow_3 : decode cX8_isRow 3 = .ok (.ldc2_w 112, 3) := by decide +kernel
theorem dX8_isRow_6 : decode cX8_isRow 6 = .ok (.invokestatic 106, 3) := by decide +kernel
theorem dX8_isRow_9 : decode cX8_isRow 9 = .ok (.ireturn, 1) := by decide +kernel
theorem dX8_get_0 : decode cX8_get 0 = .ok (.aload_n 0, 1) := by decide +kernel
theorem dX8_get_1 : decode cX8_get 1 = .ok (.getfield 7, 3) := by decide +kernel
theorem dX8_get_4 : decode cX8_get 4 = .ok (.iconst 4, 1) := by decide +kernel
theorem dX8_get_5 : decode cX8_get 5 = .ok (.iconst 4, 1) := by decide +kernel
theorem dX8_get_6 : decode cX8_get 6 = .ok (.iload_n 1, 1) := by decide +kernel
theorem dX8_get_7 : decode cX8_get 7 = .ok (.imul, 1) := by decide +kernel
theorem dX8_get_8 : decode cX8_get 8 = .ok (.iadd, 1) := by decide +kernel
theorem dX8_get_9 : decode cX8_get 9 = .ok (.iload_n 2, 1) := by decide +kernel
theorem dX8_get_10 : decode cX8_get 10 = .ok (.iadd, 1) := by decide +kernel
theorem dX8_get_11 : decode cX8_get 11 = .ok (.iaload, 1) := by decide +kernel
theorem dX8_get_12 : decode cX8_get 12 = .ok (.ireturn, 1) := by decide +kernel
theorem dX8_river_0 : decode cX8_river 0 = .ok (.iload_n 1, 1) := by decide +kernel
theorem dX8_river_1 : decode cX8_river 1 = .ok (.i2l, 1) := by decide +kernel
theorem dX8_river_2 : decode cX8_river 2 = .ok (.lconst 0, 1) := by decide +kernel
theorem dX8_river_3 : decode cX8_river 3 = .ok (.ldc2_w 114, 3) := by decide +kernel
theorem dX8_river_6 : decode cX8_river 6 = .ok (.invokestatic 106, 3) := by decide +kernel
theorem dX8_river_9 : decode cX8_river 9 = .ok (.ifCond .ne 10, 3) := by decide +kernel
theorem dX8_river_12 : decode cX8_river 12 = .ok (.aload_n 0, 1) := by decide +kernel
theorem dX8_river_13 : decode cX8_river 13 = .ok (.bipush (-2), 2) := by decide +kernel
theorem dX8_river_15 : decode cX8_river 15 = .ok (.invokevirtual 116, 3) := by decide +kernel
theorem dX8_river_18 : decode cX8_river 18 = .ok (.ireturn, 1) := by decide +kernel
theorem dX8_river_19 : decode cX8_river 19 = .ok (.aload_n 0, 1) := by decide +kernel
theorem dX8_river_20 : decode cX8_river 20 = .ok (.invokevirtual 102, 3) := by decide +kernel
theorem dX8_river_23 : decode cX8_river 23 = .ok (.istore_n 2, 1) := by decide +kernel
theorem dX8_river_24 : decode cX8_river 24 = .ok (.aload_n 0, 1) := by decide +kernel
theorem dX8_river_25 : decode cX8_river 25 = .ok (.getfield 7, 3) := by decide +kernel
theorem dX8_river_28 : decode cX8_river 28 = .ok (.iload_n 1, 1) := by decide +kernel
theorem dX8_river_29 : decode cX8_river 29 = .ok (.invokestatic 120, 3) := by decide +kernel
theorem dX8_river_32 : decode cX8_river 32 = .ok (.iconst 0, 1) := by decide +kernel
theorem dX8_river_33 : decode cX8_river 33 = .ok (.istore_n 3, 1) := by decide +kernel
theorem dX8_river_34 : decode cX8_river 34 = .ok (.iload_n 3, 1) := by decide +kernel
theorem dX8_river_35 : decode cX8_river 35 = .ok (.iconst 4, 1) := by decide +kernel
theorem dX8_river_36 : decode cX8_river 36 = .ok (.if_icmp .ge 16, 3) := by decide +kernel
theorem dX8_river_39 : decode cX8_river 39 = .ok (.aload_n 0, 1) := by decide +kernel
theorem dX8_river_40 : decode cX8_river 40 = .ok (.getfield 16, 3) := by decide +kernel
theorem dX8_river_43 : decode cX8_river 43 = .ok (.iload_n 3, 1) := by decide +kernel
theorem dX8_river_44 : decode cX8_river 44 = .ok (.lconst 0, 1) := by decide +kernel
theorem dX8_river_45 : decode cX8_river 45 = .ok (.lastore, 1) := by decide +kernel
theorem dX8_river_46 : decode cX8_river 46 = .ok (.iinc 3 1, 3) := by decide +kernel
theorem dX8_river_49 : decode cX8_river 49 = .ok (.goto (-15), 3) := by decide +kernel
theorem dX8_river_52 : decode cX8_river 52 = .ok (.iload_n 2, 1) := by decide +kernel
theorem dX8_river_53 : decode cX8_river 53 = .ok (.ireturn, 1) := by decide +kernel
theorem dX8_layBridge_0 : decode cX8_layBridge 0 = .ok (.iconst 4, 1) := by decide +kernel
theorem dX8_layBridge_1 : decode cX8_layBridge 1 = .ok (.iconst 4, 1) := by decide +kernel
theorem dX8_layBridge_2 : decode cX8_layBridge 2 = .ok (.aload_n 0, 1) := by decide +kernel
theorem dX8_layBridge_3 : decode cX8_layBridge 3 = .ok (.iconst 0, 1) := by decide +kernel
theorem dX8_layBridge_4 : decode cX8_layBridge 4 = .ok (.iaload, 1) := by decide +kernel
theorem dX8_layBridge_5 : decode cX8_layBridge 5 = .ok (.imul, 1) := by decide +kernel
theorem dX8_layBridge_6 : decode cX8_layBridge 6 = .ok (.iadd, 1) := by decide +kernel
theorem dX8_layBridge_7 : decode cX8_layBridge 7 = .ok (.istore 5, 2) := by decide +kernel
theorem dX8_layBridge_9 : decode cX8_layBridge 9 = .ok (.aload_n 0, 1) := by decide +kernel
theorem dX8_layBridge_10 : decode cX8_layBridge 10 = .ok (.iload 5, 2) := by decide +kernel
theorem dX8_layBridge_12 : decode cX8_layBridge 12 = .ok (.iconst 0, 1) := by decide +kernel
theorem dX8_layBridge_13 : decode cX8_layBridge 13 = .ok (.iadd, 1) := by decide +kernel
theorem dX8_layBridge_14 : decode cX8_layBridge 14 = .ok (.iload_n 1, 1) := by decide +kernel
theorem dX8_layBridge_15 : decode cX8_layBridge 15 = .ok (.iastore, 1) := by decide +kernel
theorem dX8_layBridge_16 : decode cX8_layBridge 16 = .ok (.aload_n 0, 1) := by decide +kernel
theorem dX8_layBridge_17 : decode cX8_layBridge 17 = .ok (.iload 5, 2) := by decide +kernel
theorem dX8_layBridge_19 : decode cX8_layBridge 19 = .ok (.iconst 1, 1) := by decide +kernel
theorem dX8_layBridge_20 : decode cX8_layBridge 20 = .ok (.iadd, 1) := by decide +kernel
theorem dX8_layBridge_21 : decode cX8_layBridge 21 = .ok (.iload_n 2, 1) := by decide +kernel
theorem dX8_layBridge_22 : decode cX8_layBridge 22 = .ok (.iastore, 1) := by decide +kernel
theorem dX8_layBridge_23 : decode cX8_layBridge 23 = .ok (.aload_n 0, 1) := by decide +kernel
theorem dX8_layBridge_24 : decode cX8_layBridge 24 = .ok (.iload 5, 2) := by decide +kernel
theorem dX8_layBridge_26 : decode cX8_layBridge 26 = .ok (.iconst 2, 1) := by decide +kernel
theorem dX8_layBridge_27 : decode cX8_layBridge 27 = .ok (.iadd, 1) := by decide +kernel
theorem dX8_layBridge_28 : decode cX8_layBridge 28 = .ok (.iload_n 3, 1) := by decide +kernel
theorem dX8_layBridge_29 : decode cX8_layBridge 29 = .ok (.iastore, 1) := by decide +kernel
theorem dX8_layBridge_30 : decode cX8_layBridge 30 = .ok (.aload_n 0, 1) := by decide +kernel
theorem dX8_layBridge_31 : decode cX8_layBridge 31 = .ok (.iload 5, 2) := by decide +kernel
theorem dX8_layBridge_33 : decode cX8_layBridge 33 = .ok (.iconst 3, 1) := by decide +kernel
theorem dX8_layBridge_34 : decode cX8_layBridge 34 = .ok (.iadd, 1) := by decide +kernel
theorem dX8_layBridge_35 : decode cX8_layBridge 35 = .ok (.iload 4, 2) := by decide +kernel
theorem dX8_layBridge_37 : decode cX8_layBridge 37 = .ok (.iastore, 1) := by decide +kernel
theorem dX8_layBridge_38 : decode cX8_layBridge 38 = .ok (.aload_n 0, 1) := by decide +kernel
theorem dX8_layBridge_39 : decode cX8_layBridge 39 = .ok (.iconst 0, 1) := by decide +kernel
theorem dX8_layBridge_40 : decode cX8_layBridge 40 = .ok (.dup2, 1) := by decide +kernel
theorem dX8_layBridge_41 : decode cX8_layBridge 41 = .ok (.iaload, 1) := by decide +kernel
theorem dX8_layBridge_42 : decode cX8_layBridge 42 = .ok (.iconst 1, 1) := by decide +kernel
theorem dX8_layBridge_43 : decode cX8_layBridge 43 = .ok (.iadd, 1) := by decide +kernel
theorem dX8_layBridge_44 : decode cX8_layBridge 44 = .ok (.iastore, 1) := by decide +kernel
theorem dX8_layBridge_45 : decode cX8_layBridge 45 = .ok (.return_, 1) := by decide +kernel
theorem dX8_bridge_0 : decode cX8_bridge 0 = .ok (.iload_n 1, 1) := by decide +kernel
theorem dX8_bridge_1 : decode cX8_bridge 1 = .ok (.invokestatic 124, 3) := by decide +kernel
theorem dX8_bridge_4 : decode cX8_bridge 4 = .ok (.ifCond .eq 40, 3) := by decide +kernel
theorem dX8_bridge_7 : decode cX8_bridge 7 = .ok (.iload_n 2, 1) := by decide +kernel
theorem dX8_bridge_8 : decode cX8_bridge 8 = .ok (.invokestatic 124, 3) := by decide +kernel
theorem dX8_bridge_11 : decode cX8_bridge 11 = .ok (.ifCond .eq 33, 3) := by decide +kernel
theorem dX8_bridge_14 : decode cX8_bridge 14 = .ok (.iload_n 1, 1) := by decide +kernel
theorem dX8_bridge_15 : decode cX8_bridge 15 = .ok (.iload_n 2, 1) := by decide +kernel
theorem dX8_bridge_16 : decode cX8_bridge 16 = .ok (.if_icmp .eq 28, 3) := by decide +kernel
theorem dX8_bridge_19 : decode cX8_bridge 19 = .ok (.iload_n 3, 1) := by decide +kernel
theorem dX8_bridge_20 : decode cX8_bridge 20 = .ok (.i2l, 1) := by decide +kernel
theorem dX8_bridge_21 : decode cX8_bridge 21 = .ok (.lconst 0, 1) := by decide +kernel
theorem dX8_bridge_22 : decode cX8_bridge 22 = .ok (.ldc2_w 110, 3) := by decide +kernel
theorem dX8_bridge_25 : decode cX8_bridge 25 = .ok (.invokestatic 106, 3) := by decide +kernel
theorem dX8_bridge_28 : decode cX8_bridge 28 = .ok (.ifCond .eq 16, 3) := by decide +kernel
theorem dX8_bridge_31 : decode cX8_bridge 31 = .ok (.iload 4, 2) := by decide +kernel
theorem dX8_bridge_33 : decode cX8_bridge 33 = .ok (.i2l, 1) := by decide +kernel
theorem dX8_bridge_34 : decode cX8_bridge 34 = .ok (.lconst 0, 1) := by decide +kernel
theorem dX8_bridge_35 : decode cX8_bridge 35 = .ok (.ldc2_w 67, 3) := by decide +kernel
theorem dX8_bridge_38 : decode cX8_bridge 38 = .ok (.invokestatic 106, 3) := by decide +kernel
theorem dX8_bridge_41 : decode cX8_bridge 41 = .ok (.ifCond .ne 10, 3) := by decide +kernel
theorem dX8_bridge_44 : decode cX8_bridge 44 = .ok (.aload_n 0, 1) := by decide +kernel
theorem dX8_bridge_45 : decode cX8_bridge 45 = .ok (.bipush (-2), 2) := by decide +kernel
theorem dX8_bridge_47 : decode cX8_bridge 47 = .ok (.invokevirtual 116, 3) := by decide +kernel
theorem dX8_bridge_50 : decode cX8_bridge 50 = .ok (.ireturn, 1) := by decide +kernel
theorem dX8_bridge_51 : decode cX8_bridge 51 = .ok (.aload_n 0, 1) := by decide +kernel
theorem dX8_bridge_52 : decode cX8_bridge 52 = .ok (.invokevirtual 102, 3) := by decide +kernel
theorem dX8_bridge_55 : decode cX8_bridge 55 = .ok (.bipush 8, 2) := by decide +kernel
theorem dX8_bridge_57 : decode cX8_bridge 57 = .ok (.if_icmp .ne 8, 3) := by decide +kernel
theorem dX8_bridge_60 : decode cX8_bridge 60 = .ok (.aload_n 0, 1) := by decide +kernel
theorem dX8_bridge_61 : decode cX8_bridge 61 = .ok (.invokevirtual 128, 3) := by decide +kernel
theorem dX8_bridge_64 : decode cX8_bridge 64 = .ok (.ireturn, 1) := by decide +kernel
theorem dX8_bridge_65 : decode cX8_bridge 65 = .ok (.aload_n 0, 1) := by decide +kernel
theorem dX8_bridge_66 : decode cX8_bridge 66 = .ok (.getfield 7, 3) := by decide +kernel
theorem dX8_bridge_69 : decode cX8_bridge 69 = .ok (.iload_n 1, 1) := by decide +kernel
theorem dX8_bridge_70 : decode cX8_bridge 70 = .ok (.iload_n 2, 1) := by decide +kernel
theorem dX8_bridge_71 : decode cX8_bridge 71 = .ok (.iload_n 3, 1) := by decide +kernel
theorem dX8_bridge_72 : decode cX8_bridge 72 = .ok (.iload 4, 2) := by decide +kernel
theorem dX8_bridge_74 : decode cX8_bridge 74 = .ok (.invokestatic 131, 3) := by decide +kernel
theorem dX8_bridge_77 : decode cX8_bridge 77 = .ok (.aload_n 0, 1) := by decide +kernel
theorem dX8_bridge_78 : decode cX8_bridge 78 = .ok (.getfield 7, 3) := by decide +kernel
theorem dX8_bridge_81 : decode cX8_bridge 81 = .ok (.iconst 3, 1) := by decide +kernel
theorem dX8_bridge_82 : decode cX8_bridge 82 = .ok (.iconst 0, 1) := by decide +kernel
theorem dX8_bridge_83 : decode cX8_bridge 83 = .ok (.iastore, 1) := by decide +kernel
theorem dX8_bridge_84 : decode cX8_bridge 84 = .ok (.aload_n 0, 1) := by decide +kernel
theorem dX8_bridge_85 : decode cX8_bridge 85 = .ok (.invokevirtual 102, 3) := by decide +kernel
theorem dX8_bridge_88 : decode cX8_bridge 88 = .ok (.iconst 1, 1) := by decide +kernel
theorem dX8_bridge_89 : decode cX8_bridge 89 = .ok (.isub, 1) := by decide +kernel
theorem dX8_bridge_90 : decode cX8_bridge 90 = .ok (.ireturn, 1) := by decide +kernel
theorem dX8_keep_0 : decode cX8_keep 0 = .ok (.aload_n 0, 1) := by decide +kernel
theorem dX8_keep_1 : decode cX8_keep 1 = .ok (.getfield 7, 3) := by decide +kernel
theorem dX8_keep_4 : decode cX8_keep 4 = .ok (.iconst 3, 1) := by decide +kernel
theorem dX8_keep_5 : decode cX8_keep 5 = .ok (.iaload, 1) := by decide +kernel
theorem dX8_keep_6 : decode cX8_keep 6 = .ok (.bipush 8, 2) := by decide +kernel
theorem dX8_keep_8 : decode cX8_keep 8 = .ok (.if_icmp .ne 43, 3) := by decide +kernel
theorem dX8_keep_11 : decode cX8_keep 11 = .ok (.iconst 0, 1) := by decide +kernel
theorem dX8_keep_12 : decode cX8_keep 12 = .ok (.istore_n 1, 1) := by decide +kernel
theorem dX8_keep_13 : decode cX8_keep 13 = .ok (.iload_n 1, 1) := by decide +kernel
theorem dX8_keep_14 : decode cX8_keep 14 = .ok (.bipush 119, 2) := by decide +kernel
theorem dX8_keep_16 : decode cX8_keep 16 = .ok (.if_icmp .ge 27, 3) := by decide +kernel
theorem dX8_keep_19 : decode cX8_keep 19 = .ok (.aload_n 0, 1) := by decide +kernel
theorem dX8_keep_20 : decode cX8_keep 20 = .ok (.getfield 7, 3) := by decide +kernel
theorem dX8_keep_23 : decode cX8_keep 23 = .ok (.bipush 52, 2) := by decide +kernel
theorem dX8_keep_25 : decode cX8_keep 25 = .ok (.iload_n 1, 1) := by decide +kernel
theorem dX8_keep_26 : decode cX8_keep 26 = .ok (.iadd, 1) := by decide +kernel
theorem dX8_keep_27 : decode cX8_keep 27 = .ok (.aload_n 0, 1) := by decide +kernel
theorem dX8_keep_28 : decode cX8_keep 28 = .ok (.getfield 7, 3) := by decide +kernel
theorem dX8_keep_31 : decode cX8_keep 31 = .ok (.bipush 69, 2) := by decide +kernel
theorem dX8_keep_33 : decode cX8_keep 33 = .ok (.iload_n 1, 1) := by decide +kernel
theorem dX8_keep_34 : decode cX8_keep 34 = .ok (.iadd, 1) := by decide +kernel
theorem dX8_keep_35 : decode cX8_keep 35 = .ok (.iaload, 1) := by decide +kernel
theorem dX8_keep_36 : decode cX8_keep 36 = .ok (.iastore, 1) := by decide +kernel
theorem dX8_keep_37 : decode cX8_keep 37 = .ok (.iinc 1 1, 3) := by decide +kernel
theorem dX8_keep_40 : decode cX8_keep 40 = .ok (.goto (-27), 3) := by decide +kernel
theorem dX8_keep_43 : decode cX8_keep 43 = .ok (.aload_n 0, 1) := by decide +kernel
theorem dX8_keep_44 : decode cX8_keep 44 = .ok (.getfield 7, 3) := by decide +kernel
theorem dX8_keep_47 : decode cX8_keep 47 = .ok (.iconst 3, 1) := by decide +kernel
theorem dX8_keep_48 : decode cX8_keep 48 = .ok (.bipush 7, 2) := by decide +kernel
theorem dX8_keep_50 : decode cX8_keep 50 = .ok (.iastore, 1) := by decide +kernel
theorem dX8_keep_51 : decode cX8_keep 51 = .ok (.bipush 52, 2) := by decide +kernel
theorem dX8_keep_53 : decode cX8_keep 53 = .ok (.bipush 17, 2) := by decide +kernel
theorem dX8_keep_55 : decode cX8_keep 55 = .ok (.aload_n 0, 1) := by decide +kernel
theorem dX8_keep_56 : decode cX8_keep 56 = .ok (.getfield 7, 3) := by decide +kernel
theorem dX8_keep_59 : decode cX8_keep 59 = .ok (.iconst 3, 1) := by decide +kernel
theorem dX8_keep_60 : decode cX8_keep 60 = .ok (.iaload, 1) := by decide +kernel
theorem dX8_keep_61 : decode cX8_keep 61 = .ok (.imul, 1) := by decide +kernel
theorem dX8_keep_62 : decode cX8_keep 62 = .ok (.iadd, 1) := by decide +kernel
theorem dX8_keep_63 : decode cX8_keep 63 = .ok (.istore_n 1, 1) := by decide +kernel
theorem dX8_keep_64 : decode cX8_keep 64 = .ok (.iconst 0, 1) := by decide +kernel
theorem dX8_keep_65 : decode cX8_keep 65 = .ok (.istore_n 2, 1) := by decide +kernel
theorem dX8_keep_66 : decode cX8_keep 66 = .ok (.iload_n 2, 1) := by decide +kernel
theorem dX8_keep_67 : decode cX8_keep 67 = .ok (.bipush 8, 2) := by decide +kernel
theorem dX8_keep_69 : decode cX8_keep 69 = .ok (.if_icmp .ge 43, 3) := by decide +kernel
theorem dX8_keep_72 : decode cX8_keep 72 = .ok (.aload_n 0, 1) := by decide +kernel
theorem dX8_keep_73 : decode cX8_keep 73 = .ok (.getfield 7, 3) := by decide +kernel
theorem dX8_keep_76 : decode cX8_keep 76 = .ok (.iload_n 1, 1) := by decide +kernel
theorem dX8_keep_77 : decode cX8_keep 77 = .ok (.iconst 2, 1) := by decide +kernel
theorem dX8_keep_78 : decode cX8_keep 78 = .ok (.iload_n 2, 1) := by decide +kernel
theorem dX8_keep_79 : decode cX8_keep 79 = .ok (.imul, 1) := by decide +kernel
theorem dX8_keep_80 : decode cX8_keep 80 = .ok (.iadd, 1) := by decide +kernel
theorem dX8_keep_81 : decode cX8_keep 81 = .ok (.aload_n 0, 1) := by decide +kernel
theorem dX8_keep_82 : decode cX8_keep 82 = .ok (.iload_n 2, 1) := by decide +kernel
theorem dX8_keep_83 : decode cX8_keep 83 = .ok (.iconst 2, 1) := by decide +kernel
theorem dX8_keep_84 : decode cX8_keep 84 = .ok (.invokevirtual 135, 3) := by decide +kernel
theorem dX8_keep_87 : decode cX8_keep 87 = .ok (.iastore, 1) := by decide +kernel
theorem dX8_keep_88 : decode cX8_keep 88 = .ok (.aload_n 0, 1) := by decide +kernel
theorem dX8_keep_89 : decode cX8_keep 89 = .ok (.getfield 7, 3) := by decide +kernel
theorem dX8_keep_92 : decode cX8_keep 92 = .ok (.iload_n 1, 1) := by decide +kernel
theorem dX8_keep_93 : decode cX8_keep 93 = .ok (.iconst 2, 1) := by decide +kernel
theorem dX8_keep_94 : decode cX8_keep 94 = .ok (.iload_n 2, 1) := by decide +kernel
theorem dX8_keep_95 : decode cX8_keep 95 = .ok (.imul, 1) := by decide +kernel
theorem dX8_keep_96 : decode cX8_keep 96 = .ok (.iadd, 1) := by decide +kernel
theorem dX8_keep_97 : decode cX8_keep 97 = .ok (.iconst 1, 1) := by decide +kernel
theorem dX8_keep_98 : decode cX8_keep 98 = .ok (.iadd, 1) := by decide +kernel
theorem dX8_keep_99 : decode cX8_keep 99 = .ok (.aload_n 0, 1) := by decide +kernel
theorem dX8_keep_100 : decode cX8_keep 100 = .ok (.iload_n 2, 1) := by decide +kernel
theorem dX8_keep_101 : decode cX8_keep 101 = .ok (.iconst 3, 1) := by decide +kernel
theorem dX8_keep_102 : decode cX8_keep 102 = .ok (.invokevirtual 135, 3) := by decide +kernel
theorem dX8_keep_105 : decode cX8_keep 105 = .ok (.iastore, 1) := by decide +kernel
theorem dX8_keep_106 : decode cX8_keep 106 = .ok (.iinc 2 1, 3) := by decide +kernel
theorem dX8_keep_109 : decode cX8_keep 109 = .ok (.goto (-43), 3) := by decide +kernel
theorem dX8_keep_112 : decode cX8_keep 112 = .ok (.aload_n 0, 1) := by decide +kernel
theorem dX8_keep_113 : decode cX8_keep 113 = .ok (.getfield 7, 3) := by decide +kernel
theorem dX8_keep_116 : decode cX8_keep 116 = .ok (.iload_n 1, 1) := by decide +kernel
theorem dX8_keep_117 : decode cX8_keep 117 = .ok (.bipush 16, 2) := by decide +kernel
theorem dX8_keep_119 : decode cX8_keep 119 = .ok (.iadd, 1) := by decide +kernel
theorem dX8_keep_120 : decode cX8_keep 120 = .ok (.aload_n 0, 1) := by decide +kernel
theorem dX8_keep_121 : decode cX8_keep 121 = .ok (.getfield 7, 3) := by decide +kernel
theorem dX8_keep_124 : decode cX8_keep 124 = .ok (.iconst 1, 1) := by decide +kernel
theorem dX8_keep_125 : decode cX8_keep 125 = .ok (.iaload, 1) := by decide +kernel
theorem dX8_keep_126 : decode cX8_keep 126 = .ok (.iastore, 1) := by decide +kernel
theorem dX8_keep_127 : decode cX8_keep 127 = .ok (.aload_n 0, 1) := by decide +kernel
theorem dX8_keep_128 : decode cX8_keep 128 = .ok (.getfield 7, 3) := by decide +kernel
theorem dX8_keep_131 : decode cX8_keep 131 = .ok (.iconst 3, 1) := by decide +kernel
theorem dX8_keep_132 : decode cX8_keep 132 = .ok (.dup2, 1) := by decide +kernel
theorem dX8_keep_133 : decode cX8_keep 133 = .ok (.iaload, 1) := by decide +kernel
theorem dX8_keep_134 : decode cX8_keep 134 = .ok (.iconst 1, 1) := by decide +kernel
theorem dX8_keep_135 : decode cX8_keep 135 = .ok (.iadd, 1) := by decide +kernel
theorem dX8_keep_136 : decode cX8_keep 136 = .ok (.iastore, 1) := by decide +kernel
theorem dX8_keep_137 : decode cX8_keep 137 = .ok (.return_, 1) := by decide +kernel
theorem dX8_rule_0 : decode cX8_rule 0 = .ok (.aload_n 0, 1) := by decide +kernel
theorem dX8_rule_1 : decode cX8_rule 1 = .ok (.iload_n 1, 1) := by decide +kernel
theorem dX8_rule_2 : decode cX8_rule 2 = .ok (.invokevirtual 139, 3) := by decide +kernel
theorem dX8_rule_5 : decode cX8_rule 5 = .ok (.ifCond .eq 27, 3) := by decide +kernel
theorem dX8_rule_8 : decode cX8_rule 8 = .ok (.iload_n 2, 1) := by decide +kernel
theorem dX8_rule_9 : decode cX8_rule 9 = .ok (.i2l, 1) := by decide +kernel
theorem dX8_rule_10 : decode cX8_rule 10 = .ok (.lconst 0, 1) := by decide +kernel
theorem dX8_rule_11 : decode cX8_rule 11 = .ok (.ldc2_w 110, 3) := by decide +kernel
theorem dX8_rule_14 : decode cX8_rule 14 = .ok (.invokestatic 106, 3) := by decide +kernel
theorem dX8_rule_17 : decode cX8_rule 17 = .ok (.ifCond .eq 15, 3) := by decide +kernel
theorem dX8_rule_20 : decode cX8_rule 20 = .ok (.iload_n 3, 1) := by decide +kernel
theorem dX8_rule_21 : decode cX8_rule 21 = .ok (.i2l, 1) := by decide +kernel
theorem dX8_rule_22 : decode cX8_rule 22 = .ok (.lconst 0, 1) := by decide +kernel
theorem dX8_rule_23 : decode cX8_rule 23 = .ok (.ldc2_w 67, 3) := by decide +kernel
theorem dX8_rule_26 : decode cX8_rule 26 = .ok (.invokestatic 106, 3) := by decide +kernel
theorem dX8_rule_29 : decode cX8_rule 29 = .ok (.ifCond .ne 10, 3) := by decide +kernel
theorem dX8_rule_32 : decode cX8_rule 32 = .ok (.aload_n 0, 1) := by decide +kernel
theorem dX8_rule_33 : decode cX8_rule 33 = .ok (.bipush (-2), 2) := by decide +kernel
theorem dX8_rule_35 : decode cX8_rule 35 = .ok (.invokevirtual 116, 3) := by decide +kernel
theorem dX8_rule_38 : decode cX8_rule 38 = .ok (.ireturn, 1) := by decide +kernel
theorem dX8_rule_39 : decode cX8_rule 39 = .ok (.bipush 16, 2) := by decide +kernel
theorem dX8_rule_41 : decode cX8_rule 41 = .ok (.aload_n 0, 1) := by decide +kernel
theorem dX8_rule_42 : decode cX8_rule 42 = .ok (.iload_n 1, 1) := by decide +kernel
theorem dX8_rule_43 : decode cX8_rule 43 = .ok (.iconst 2, 1) := by decide +kernel
theorem dX8_rule_44 : decode cX8_rule 44 = .ok (.invokevirtual 135, 3) := by decide +kernel
theorem dX8_rule_47 : decode cX8_rule 47 = .ok (.imul, 1) := by decide +kernel
theorem dX8_rule_48 : decode cX8_rule 48 = .ok (.aload_n 0, 1) := by decide +kernel
theorem dX8_rule_49 : decode cX8_rule 49 = .ok (.iload_n 1, 1) := by decide +kernel
theorem dX8_rule_50 : decode cX8_rule 50 = .ok (.iconst 3, 1) := by decide +kernel
theorem dX8_rule_51 : decode cX8_rule 51 = .ok (.invokevirtual 135, 3) := by decide +kernel
theorem dX8_rule_54 : decode cX8_rule 54 = .ok (.iadd, 1) := by decide +kernel
theorem dX8_rule_55 : decode cX8_rule 55 = .ok (.istore 4, 2) := by decide +kernel
theorem dX8_rule_57 : decode cX8_rule 57 = .ok (.aload_n 0, 1) := by decide +kernel
theorem dX8_rule_58 : decode cX8_rule 58 = .ok (.invokevirtual 142, 3) := by decide +kernel
theorem dX8_rule_61 : decode cX8_rule 61 = .ok (.aload_n 0, 1) := by decide +kernel
theorem dX8_rule_62 : decode cX8_rule 62 = .ok (.getfield 7, 3) := by decide +kernel
theorem dX8_rule_65 : decode cX8_rule 65 = .ok (.iconst 4, 1) := by decide +kernel
theorem dX8_rule_66 : decode cX8_rule 66 = .ok (.iconst 4, 1) := by decide +kernel
theorem dX8_rule_67 : decode cX8_rule 67 = .ok (.iload_n 1, 1) := by decide +kernel
theorem dX8_rule_68 : decode cX8_rule 68 = .ok (.imul, 1) := by decide +kernel
theorem dX8_rule_69 : decode cX8_rule 69 = .ok (.iadd, 1) := by decide +kernel
theorem dX8_rule_70 : decode cX8_rule 70 = .ok (.iconst 2, 1) := by decide +kernel
theorem dX8_rule_71 : decode cX8_rule 71 = .ok (.iadd, 1) := by decide +kernel
theorem dX8_rule_72 : decode cX8_rule 72 = .ok (.iload_n 2, 1) := by decide +kernel
theorem dX8_rule_73 : decode cX8_rule 73 = .ok (.iastore, 1) := by decide +kernel
theorem dX8_rule_74 : decode cX8_rule 74 = .ok (.aload_n 0, 1) := by decide +kernel
theorem dX8_rule_75 : decode cX8_rule 75 = .ok (.getfield 7, 3) := by decide +kernel
theorem dX8_rule_78 : decode cX8_rule 78 = .ok (.iconst 4, 1) := by decide +kernel
theorem dX8_rule_79 : decode cX8_rule 79 = .ok (.iconst 4, 1) := by decide +kernel
theorem dX8_rule_80 : decode cX8_rule 80 = .ok (.iload_n 1, 1) := by decide +kernel
theorem dX8_rule_81 : decode cX8_rule 81 = .ok (.imul, 1) := by decide +kernel
theorem dX8_rule_82 : decode cX8_rule 82 = .ok (.iadd, 1) := by decide +kernel
theorem dX8_rule_83 : decode cX8_rule 83 = .ok (.iconst 3, 1) := by decide +kernel
theorem dX8_rule_84 : decode cX8_rule 84 = .ok (.iadd, 1) := by decide +kernel
theorem dX8_rule_85 : decode cX8_rule 85 = .ok (.iload_n 3, 1) := by decide +kernel
theorem dX8_rule_86 : decode cX8_rule 86 = .ok (.iastore, 1) := by decide +kernel
theorem dX8_rule_87 : decode cX8_rule 87 = .ok (.iload 4, 2) := by decide +kernel
theorem dX8_rule_89 : decode cX8_rule 89 = .ok (.ireturn, 1) := by decide +kernel
theorem dX8_month_0 : decode cX8_month 0 = .ok (.iload_n 1, 1) := by decide +kernel
theorem dX8_month_1 : decode cX8_month 1 = .ok (.i2l, 1) := by decide +kernel
theorem dX8_month_2 : decode cX8_month 2 = .ok (.lconst 1, 1) := by decide +kernel
theorem dX8_month_3 : decode cX8_month 3 = .ok (.ldc2_w 114, 3) := by decide +kernel
theorem dX8_month_6 : decode cX8_month 6 = .ok (.invokestatic 106, 3) := by decide +kernel
theorem dX8_month_9 : decode cX8_month 9 = .ok (.ifCond .ne 10, 3) := by decide +kernel
theorem dX8_month_12 : decode cX8_month 12 = .ok (.aload_n 0, 1) := by decide +kernel
theorem dX8_month_13 : decode cX8_month 13 = .ok (.bipush (-2), 2) := by decide +kernel
theorem dX8_month_15 : decode cX8_month 15 = .ok (.invokevirtual 116, 3) := by decide +kernel
theorem dX8_month_18 : decode cX8_month 18 = .ok (.ireturn, 1) := by decide +kernel
theorem dX8_month_19 : decode cX8_month 19 = .ok (.aload_n 0, 1) := by decide +kernel
theorem dX8_month_20 : decode cX8_month 20 = .ok (.invokevirtual 142, 3) := by decide +kernel
theorem dX8_month_23 : decode cX8_month 23 = .ok (.aload_n 0, 1) := by decide +kernel
theorem dX8_month_24 : decode cX8_month 24 = .ok (.getfield 7, 3) := by decide +kernel
theorem dX8_month_27 : decode cX8_month 27 = .ok (.iconst 1, 1) := by decide +kernel
theorem dX8_month_28 : decode cX8_month 28 = .ok (.aload_n 0, 1) := by decide +kernel
theorem dX8_month_29 : decode cX8_month 29 = .ok (.getfield 7, 3) := by decide +kernel
theorem dX8_month_32 : decode cX8_month 32 = .ok (.iconst 1, 1) := by decide +kernel
theorem dX8_month_33 : decode cX8_month 33 = .ok (.iaload, 1) := by decide +kernel
theorem dX8_month_34 : decode cX8_month 34 = .ok (.iload_n 1, 1) := by decide +kernel
theorem dX8_month_35 : decode cX8_month 35 = .ok (.iadd, 1) := by decide +kernel
theorem dX8_month_36 : decode cX8_month 36 = .ok (.bipush 12, 2) := by decide +kernel
theorem dX8_month_38 : decode cX8_month 38 = .ok (.irem, 1) := by decide +kernel
theorem dX8_month_39 : decode cX8_month 39 = .ok (.iastore, 1) := by decide +kernel
theorem dX8_month_40 : decode cX8_month 40 = .ok (.aload_n 0, 1) := by decide +kernel
theorem dX8_month_41 : decode cX8_month 41 = .ok (.getfield 7, 3) := by decide +kernel
theorem dX8_month_44 : decode cX8_month 44 = .ok (.iconst 1, 1) := by decide +kernel
theorem dX8_month_45 : decode cX8_month 45 = .ok (.iaload, 1) := by decide +kernel
theorem dX8_month_46 : decode cX8_month 46 = .ok (.ireturn, 1) := by decide +kernel
theorem dX8_undo_0 : decode cX8_undo 0 = .ok (.aload_n 0, 1) := by decide +kernel
theorem dX8_undo_1 : decode cX8_undo 1 = .ok (.getfield 7, 3) := by decide +kernel
theorem dX8_undo_4 : decode cX8_undo 4 = .ok (.iconst 3, 1) := by decide +kernel
theorem dX8_undo_5 : decode cX8_undo 5 = .ok (.iaload, 1) := by decide +kernel
theorem dX8_undo_6 : decode cX8_undo 6 = .ok (.ifCond .ne 8, 3) := by decide +kernel
theorem dX8_undo_9 : decode cX8_undo 9 = .ok (.aload_n 0, 1) := by decide +kernel
theorem dX8_undo_10 : decode cX8_undo 10 = .ok (.invokevirtual 145, 3) := by decide +kernel
theorem dX8_undo_13 : decode cX8_undo 13 = .ok (.ireturn, 1) := by decide +kernel
theorem dX8_undo_14 : decode cX8_undo 14 = .ok (.aload_n 0, 1) := by decide +kernel
theorem dX8_undo_15 : decode cX8_undo 15 = .ok (.getfield 7, 3) := by decide +kernel
theorem dX8_undo_18 : decode cX8_undo 18 = .ok (.iconst 3, 1) := by decide +kernel
theorem dX8_undo_19 : decode cX8_undo 19 = .ok (.dup2, 1) := by decide +kernel
theorem dX8_undo_20 : decode cX8_undo 20 = .ok (.iaload, 1) := by decide +kernel
theorem dX8_undo_21 : decode cX8_undo 21 = .ok (.iconst 1, 1) := by decide +kernel
theorem dX8_undo_22 : decode cX8_undo 22 = .ok (.isub, 1) := by decide +kernel
theorem dX8_undo_23 : decode cX8_undo 23 = .ok (.iastore, 1) := by decide +kernel
theorem dX8_undo_24 : decode cX8_undo 24 = .ok (.bipush 52, 2) := by decide +kernel
theorem dX8_undo_26 : decode cX8_undo 26 = .ok (.bipush 17, 2) := by decide +kernel
theorem dX8_undo_28 : decode cX8_undo 28 = .ok (.aload_n 0, 1) := by decide +kernel
theorem dX8_undo_29 : decode cX8_undo 29 = .ok (.getfield 7, 3) := by decide +kernel
theorem dX8_undo_32 : decode cX8_undo 32 = .ok (.iconst 3, 1) := by decide +kernel
theorem dX8_undo_33 : decode cX8_undo 33 = .ok (.iaload, 1) := by decide +kernel
theorem dX8_undo_34 : decode cX8_undo 34 = .ok (.imul, 1) := by decide +kernel
theorem dX8_undo_35 : decode cX8_undo 35 = .ok (.iadd, 1) := by decide +kernel
theorem dX8_undo_36 : decode cX8_undo 36 = .ok (.istore_n 1, 1) := by decide +kernel
theorem dX8_undo_37 : decode cX8_undo 37 = .ok (.iconst 0, 1) := by decide +kernel
theorem dX8_undo_38 : decode cX8_undo 38 = .ok (.istore_n 2, 1) := by decide +kernel
theorem dX8_undo_39 : decode cX8_undo 39 = .ok (.iload_n 2, 1) := by decide +kernel
theorem dX8_undo_40 : decode cX8_undo 40 = .ok (.bipush 8, 2) := by decide +kernel
theorem dX8_undo_42 : decode cX8_undo 42 = .ok (.if_icmp .ge 55, 3) := by decide +kernel
theorem dX8_undo_45 : decode cX8_undo 45 = .ok (.aload_n 0, 1) := by decide +kernel
theorem dX8_undo_46 : decode cX8_undo 46 = .ok (.getfield 7, 3) := by decide +kernel
theorem dX8_undo_49 : decode cX8_undo 49 = .ok (.iconst 4, 1) := by decide +kernel
theorem dX8_undo_50 : decode cX8_undo 50 = .ok (.iconst 4, 1) := by decide +kernel
theorem dX8_undo_51 : decode cX8_undo 51 = .ok (.iload_n 2, 1) := by decide +kernel
theorem dX8_undo_52 : decode cX8_undo 52 = .ok (.imul, 1) := by decide +kernel
theorem dX8_undo_53 : decode cX8_undo 53 = .ok (.iadd, 1) := by decide +kernel
theorem dX8_undo_54 : decode cX8_undo 54 = .ok (.iconst 2, 1) := by decide +kernel
theorem dX8_undo_55 : decode cX8_undo 55 = .ok (.iadd, 1) := by decide +kernel
theorem dX8_undo_56 : decode cX8_undo 56 = .ok (.aload_n 0, 1) := by decide +kernel
theorem dX8_undo_57 : decode cX8_undo 57 = .ok (.getfield 7, 3) := by decide +kernel
theorem dX8_undo_60 : decode cX8_undo 60 = .ok (.iload_n 1, 1) := by decide +kernel
theorem dX8_undo_61 : decode cX8_undo 61 = .ok (.iconst 2, 1) := by decide +kernel
theorem dX8_undo_62 : decode cX8_undo 62 = .ok (.iload_n 2, 1) := by decide +kernel
theorem dX8_undo_63 : decode cX8_undo 63 = .ok (.imul, 1) := by decide +kernel
theorem dX8_undo_64 : decode cX8_undo 64 = .ok (.iadd, 1) := by decide +kernel
theorem dX8_undo_65 : decode cX8_undo 65 = .ok (.iaload, 1) := by decide +kernel
theorem dX8_undo_66 : decode cX8_undo 66 = .ok (.iastore, 1) := by decide +kernel
theorem dX8_undo_67 : decode cX8_undo 67 = .ok (.aload_n 0, 1) := by decide +kernel
theorem dX8_undo_68 : decode cX8_undo 68 = .ok (.getfield 7, 3) := by decide +kernel
theorem dX8_undo_71 : decode cX8_undo 71 = .ok (.iconst 4, 1) := by decide +kernel
theorem dX8_undo_72 : decode cX8_undo 72 = .ok (.iconst 4, 1) := by decide +kernel
theorem dX8_undo_73 : decode cX8_undo 73 = .ok (.iload_n 2, 1) := by decide +kernel
theorem dX8_undo_74 : decode cX8_undo 74 = .ok (.imul, 1) := by decide +kernel
theorem dX8_undo_75 : decode cX8_undo 75 = .ok (.iadd, 1) := by decide +kernel
theorem dX8_undo_76 : decode cX8_undo 76 = .ok (.iconst 3, 1) := by decide +kernel
theorem dX8_undo_77 : decode cX8_undo 77 = .ok (.iadd, 1) := by decide +kernel
theorem dX8_undo_78 : decode cX8_undo 78 = .ok (.aload_n 0, 1) := by decide +kernel
theorem dX8_undo_79 : decode cX8_undo 79 = .ok (.getfield 7, 3) := by decide +kernel
theorem dX8_undo_82 : decode cX8_undo 82 = .ok (.iload_n 1, 1) := by decide +kernel
theorem dX8_undo_83 : decode cX8_undo 83 = .ok (.iconst 2, 1) := by decide +kernel
theorem dX8_undo_84 : decode cX8_undo 84 = .ok (.iload_n 2, 1) := by decide +kernel
theorem dX8_undo_85 : decode cX8_undo 85 = .ok (.imul, 1) := by decide +kernel
theorem dX8_undo_86 : decode cX8_undo 86 = .ok (.iadd, 1) := by decide +kernel
theorem dX8_undo_87 : decode cX8_undo 87 = .ok (.iconst 1, 1) := by decide +kernel
theorem dX8_undo_88 : decode cX8_undo 88 = .ok (.iadd, 1) := by decide +kernel
theorem dX8_undo_89 : decode cX8_undo 89 = .ok (.iaload, 1) := by decide +kernel
theorem dX8_undo_90 : decode cX8_undo 90 = .ok (.iastore, 1) := by decide +kernel
theorem dX8_undo_91 : decode cX8_undo 91 = .ok (.iinc 2 1, 3) := by decide +kernel
theorem dX8_undo_94 : decode cX8_undo 94 = .ok (.goto (-55), 3) := by decide +kernel
theorem dX8_undo_97 : decode cX8_undo 97 = .ok (.aload_n 0, 1) := by decide +kernel
theorem dX8_undo_98 : decode cX8_undo 98 = .ok (.getfield 7, 3) := by decide +kernel
theorem dX8_undo_101 : decode cX8_undo 101 = .ok (.iconst 1, 1) := by decide +kernel
theorem dX8_undo_102 : decode cX8_undo 102 = .ok (.aload_n 0, 1) := by decide +kernel
theorem dX8_undo_103 : decode cX8_undo 103 = .ok (.getfield 7, 3) := by decide +kernel
theorem dX8_undo_106 : decode cX8_undo 106 = .ok (.iload_n 1, 1) := by decide +kernel
theorem dX8_undo_107 : decode cX8_undo 107 = .ok (.bipush 16, 2) := by decide +kernel
theorem dX8_undo_109 : decode cX8_undo 109 = .ok (.iadd, 1) := by decide +kernel
theorem dX8_undo_110 : decode cX8_undo 110 = .ok (.iaload, 1) := by decide +kernel
theorem dX8_undo_111 : decode cX8_undo 111 = .ok (.iastore, 1) := by decide +kernel
theorem dX8_undo_112 : decode cX8_undo 112 = .ok (.aload_n 0, 1) := by decide +kernel
theorem dX8_undo_113 : decode cX8_undo 113 = .ok (.getfield 7, 3) := by decide +kernel
theorem dX8_undo_116 : decode cX8_undo 116 = .ok (.iconst 1, 1) := by decide +kernel
theorem dX8_undo_117 : decode cX8_undo 117 = .ok (.iaload, 1) := by decide +kernel
theorem dX8_undo_118 : decode cX8_undo 118 = .ok (.ireturn, 1) := by decide +kernel
theorem dX8_say_0 : decode cX8_say 0 = .ok (.iload_n 1, 1) := by decide +kernel
theorem dX8_say_1 : decode cX8_say 1 = .ok (.invokestatic 148, 3) := by decide +kernel
theorem dX8_say_4 : decode cX8_say 4 = .ok (.ifCond .eq 15, 3) := by decide +kernel
theorem dX8_say_7 : decode cX8_say 7 = .ok (.iload_n 2, 1) := by decide +kernel
theorem dX8_say_8 : decode cX8_say 8 = .ok (.i2l, 1) := by decide +kernel
theorem dX8_say_9 : decode cX8_say 9 = .ok (.lconst 0, 1) := by decide +kernel
theorem dX8_say_10 : decode cX8_say 10 = .ok (.ldc2_w 67, 3) := by decide +kernel
theorem dX8_say_13 : decode cX8_say 13 = .ok (.invokestatic 106, 3) := by decide +kernel
theorem dX8_say_16 : decode cX8_say 16 = .ok (.ifCond .ne 10, 3) := by decide +kernel
theorem dX8_say_19 : decode cX8_say 19 = .ok (.aload_n 0, 1) := by decide +kernel
theorem dX8_say_20 : decode cX8_say 20 = .ok (.bipush (-2), 2) := by decide +kernel
theorem dX8_say_22 : decode cX8_say 22 = .ok (.invokevirtual 116, 3) := by decide +kernel
theorem dX8_say_25 : decode cX8_say 25 = .ok (.ireturn, 1) := by decide +kernel
theorem dX8_say_26 : decode cX8_say 26 = .ok (.aload_n 0, 1) := by decide +kernel
theorem dX8_say_27 : decode cX8_say 27 = .ok (.getfield 16, 3) := by decide +kernel
theorem dX8_say_30 : decode cX8_say 30 = .ok (.iload_n 1, 1) := by decide +kernel
theorem dX8_say_31 : decode cX8_say 31 = .ok (.laload, 1) := by decide +kernel
theorem dX8_say_32 : decode cX8_say 32 = .ok (.invokestatic 71, 3) := by decide +kernel
theorem dX8_say_35 : decode cX8_say 35 = .ok (.bipush 12, 2) := by decide +kernel
theorem dX8_say_37 : decode cX8_say 37 = .ok (.if_icmp .ne 8, 3) := by decide +kernel
theorem dX8_say_40 : decode cX8_say 40 = .ok (.aload_n 0, 1) := by decide +kernel
theorem dX8_say_41 : decode cX8_say 41 = .ok (.invokevirtual 128, 3) := by decide +kernel
theorem dX8_say_44 : decode cX8_say 44 = .ok (.ireturn, 1) := by decide +kernel
theorem dX8_say_45 : decode cX8_say 45 = .ok (.aload_n 0, 1) := by decide +kernel
theorem dX8_say_46 : decode cX8_say 46 = .ok (.getfield 16, 3) := by decide +kernel
theorem dX8_say_49 : decode cX8_say 49 = .ok (.iload_n 1, 1) := by decide +kernel
theorem dX8_say_50 : decode cX8_say 50 = .ok (.aload_n 0, 1) := by decide +kernel
theorem dX8_say_51 : decode cX8_say 51 = .ok (.getfield 16, 3) := by decide +kernel
theorem dX8_say_54 : decode cX8_say 54 = .ok (.iload_n 1, 1) := by decide +kernel
theorem dX8_say_55 : decode cX8_say 55 = .ok (.laload, 1) := by decide +kernel
theorem dX8_say_56 : decode cX8_say 56 = .ok (.iload_n 2, 1) := by decide +kernel
theorem dX8_say_57 : decode cX8_say 57 = .ok (.invokestatic 79, 3) := by decide +kernel
theorem dX8_say_60 : decode cX8_say 60 = .ok (.lastore, 1) := by decide +kernel
theorem dX8_say_61 : decode cX8_say 61 = .ok (.aload_n 0, 1) := by decide +kernel
theorem dX8_say_62 : decode cX8_say 62 = .ok (.getfield 16, 3) := by decide +kernel
theorem dX8_say_65 : decode cX8_say 65 = .ok (.iload_n 1, 1) := by decide +kernel
theorem dX8_say_66 : decode cX8_say 66 = .ok (.laload, 1) := by decide +kernel
theorem dX8_say_67 : decode cX8_say 67 = .ok (.invokestatic 71, 3) := by decide +kernel
theorem dX8_say_70 : decode cX8_say 70 = .ok (.ireturn, 1) := by decide +kernel
theorem dX8_hush_0 : decode cX8_hush 0 = .ok (.iload_n 1, 1) := by decide +kernel
theorem dX8_hush_1 : decode cX8_hush 1 = .ok (.invokestatic 148, 3) := by decide +kernel
theorem dX8_hush_4 : decode cX8_hush 4 = .ok (.ifCond .ne 10, 3) := by decide +kernel
theorem dX8_hush_7 : decode cX8_hush 7 = .ok (.aload_n 0, 1) := by decide +kernel
theorem dX8_hush_8 : decode cX8_hush 8 = .ok (.bipush (-2), 2) := by decide +kernel
theorem dX8_hush_10 : decode cX8_hush 10 = .ok (.invokevirtual 116, 3) := by decide +kernel
theorem dX8_hush_13 : decode cX8_hush 13 = .ok (.ireturn, 1) := by decide +kernel
theorem dX8_hush_14 : decode cX8_hush 14 = .ok (.aload_n 0, 1) := by decide +kernel
theorem dX8_hush_15 : decode cX8_hush 15 = .ok (.getfield 16, 3) := by decide +kernel
theorem dX8_hush_18 : decode cX8_hush 18 = .ok (.iload_n 1, 1) := by decide +kernel
theorem dX8_hush_19 : decode cX8_hush 19 = .ok (.laload, 1) := by decide +kernel
theorem dX8_hush_20 : decode cX8_hush 20 = .ok (.invokestatic 71, 3) := by decide +kernel
theorem dX8_hush_23 : decode cX8_hush 23 = .ok (.istore_n 2, 1) := by decide +kernel
theorem dX8_hush_24 : decode cX8_hush 24 = .ok (.aload_n 0, 1) := by decide +kernel
theorem dX8_hush_25 : decode cX8_hush 25 = .ok (.getfield 16, 3) := by decide +kernel
theorem dX8_hush_28 : decode cX8_hush 28 = .ok (.iload_n 1, 1) := by decide +kernel
theorem dX8_hush_29 : decode cX8_hush 29 = .ok (.lconst 0, 1) := by decide +kernel
theorem dX8_hush_30 : decode cX8_hush 30 = .ok (.lastore, 1) := by decide +kernel
theorem dX8_hush_31 : decode cX8_hush 31 = .ok (.iload_n 2, 1) := by decide +kernel
theorem dX8_hush_32 : decode cX8_hush 32 = .ok (.ireturn, 1) := by decide +kernel
theorem dX8_of_0 : decode cX8_of 0 = .ok (.aload_n 0, 1) := by decide +kernel
theorem dX8_of_1 : decode cX8_of 1 = .ok (.iload_n 1, 1) := by decide +kernel
theorem dX8_of_2 : decode cX8_of 2 = .ok (.invokevirtual 139, 3) := by decide +kernel
theorem dX8_of_5 : decode cX8_of 5 = .ok (.ifCond .eq 24, 3) := by decide +kernel
theorem dX8_of_8 : decode cX8_of 8 = .ok (.iload_n 2, 1) := by decide +kernel
theorem dX8_of_9 : decode cX8_of 9 = .ok (.i2l, 1) := by decide +kernel
theorem dX8_of_10 : decode cX8_of 10 = .ok (.lconst 0, 1) := by decide +kernel
theorem dX8_of_11 : decode cX8_of 11 = .ok (.ldc2_w 112, 3) := by decide +kernel
theorem dX8_of_14 : decode cX8_of 14 = .ok (.invokestatic 106, 3) := by decide +kernel
theorem dX8_of_17 : decode cX8_of 17 = .ok (.ifCond .eq 12, 3) := by decide +kernel
theorem dX8_of_20 : decode cX8_of 20 = .ok (.aload_n 0, 1) := by decide +kernel
theorem dX8_of_21 : decode cX8_of 21 = .ok (.iload_n 1, 1) := by decide +kernel
theorem dX8_of_22 : decode cX8_of 22 = .ok (.iload_n 2, 1) := by decide +kernel
theorem dX8_of_23 : decode cX8_of 23 = .ok (.invokevirtual 135, 3) := by decide +kernel
theorem dX8_of_26 : decode cX8_of 26 = .ok (.goto 9, 3) := by decide +kernel
theorem dX8_of_29 : decode cX8_of 29 = .ok (.aload_n 0, 1) := by decide +kernel
theorem dX8_of_30 : decode cX8_of 30 = .ok (.bipush (-2), 2) := by decide +kernel
theorem dX8_of_32 : decode cX8_of 32 = .ok (.invokevirtual 116, 3) := by decide +kernel
theorem dX8_of_35 : decode cX8_of 35 = .ok (.ireturn, 1) := by decide +kernel
theorem dX8_told_0 : decode cX8_told 0 = .ok (.iload_n 2, 1) := by decide +kernel
theorem dX8_told_1 : decode cX8_told 1 = .ok (.iconst (-1), 1) := by decide +kernel
theorem dX8_told_2 : decode cX8_told 2 = .ok (.if_icmp .ne 10, 3) := by decide +kernel
theorem dX8_told_5 : decode cX8_told 5 = .ok (.lload_n 0, 1) := by decide +kernel
theorem dX8_told_6 : decode cX8_told 6 = .ok (.invokestatic 71, 3) := by decide +kernel
theorem dX8_told_9 : decode cX8_told 9 = .ok (.goto 21, 3) := by decide +kernel
theorem dX8_told_12 : decode cX8_told 12 = .ok (.iload_n 2, 1) := by decide +kernel
theorem dX8_told_13 : decode cX8_told 13 = .ok (.lload_n 0, 1) := by decide +kernel
theorem dX8_told_14 : decode cX8_told 14 = .ok (.invokestatic 71, 3) := by decide +kernel
theorem dX8_told_17 : decode cX8_told 17 = .ok (.if_icmp .ge 11, 3) := by decide +kernel
theorem dX8_told_20 : decode cX8_told 20 = .ok (.lload_n 0, 1) := by decide +kernel
theorem dX8_told_21 : decode cX8_told 21 = .ok (.iload_n 2, 1) := by decide +kernel
theorem dX8_told_22 : decode cX8_told 22 = .ok (.invokestatic 82, 3) := by decide +kernel
theorem dX8_told_25 : decode cX8_told 25 = .ok (.goto 5, 3) := by decide +kernel
theorem dX8_told_28 : decode cX8_told 28 = .ok (.bipush (-5), 2) := by decide +kernel
theorem dX8_told_30 : decode cX8_told 30 = .ok (.ireturn, 1) := by decide +kernel
theorem dX8_at_0 : decode cX8_at 0 = .ok (.iload_n 1, 1) := by decide +kernel
theorem dX8_at_1 : decode cX8_at 1 = .ok (.invokestatic 148, 3) := by decide +kernel
theorem dX8_at_4 : decode cX8_at 4 = .ok (.ifCond .eq 21, 3) := by decide +kernel
theorem dX8_at_7 : decode cX8_at 7 = .ok (.iload_n 2, 1) := by decide +kernel
theorem dX8_at_8 : decode cX8_at 8 = .ok (.iconst (-1), 1) := by decide +kernel
theorem dX8_at_9 : decode cX8_at 9 = .ok (.if_icmp .lt 16, 3) := by decide +kernel
theorem dX8_at_12 : decode cX8_at 12 = .ok (.aload_n 0, 1) := by decide +kernel
theorem dX8_at_13 : decode cX8_at 13 = .ok (.getfield 16, 3) := by decide +kernel
theorem dX8_at_16 : decode cX8_at 16 = .ok (.iload_n 1, 1) := by decide +kernel
theorem dX8_at_17 : decode cX8_at 17 = .ok (.laload, 1) := by decide +kernel
theorem dX8_at_18 : decode cX8_at 18 = .ok (.iload_n 2, 1) := by decide +kernel
theorem dX8_at_19 : decode cX8_at 19 = .ok (.invokestatic 151, 3) := by decide +kernel
theorem dX8_at_22 : decode cX8_at 22 = .ok (.goto 9, 3) := by decide +kernel
theorem dX8_at_25 : decode cX8_at 25 = .ok (.aload_n 0, 1) := by decide +kernel
theorem dX8_at_26 : decode cX8_at 26 = .ok (.bipush (-10), 2) := by decide +kernel
theorem dX8_at_28 : decode cX8_at 28 = .ok (.invokevirtual 116, 3) := by decide +kernel
theorem dX8_at_31 : decode cX8_at 31 = .ok (.ireturn, 1) := by decide +kernel
theorem dX8_behindBridge_0 : decode cX8_behindBridge 0 = .ok (.aload_n 0, 1) := by decide +kernel
theorem dX8_behindBridge_1 : decode cX8_behindBridge 1 = .ok (.iload_n 1, 1) := by decide +kernel
theorem dX8_behindBridge_2 : decode cX8_behindBridge 2 = .ok (.iconst 2, 1) := by decide +kernel
theorem dX8_behindBridge_3 : decode cX8_behindBridge 3 = .ok (.invokevirtual 135, 3) := by decide +kernel
theorem dX8_behindBridge_6 : decode cX8_behindBridge 6 = .ok (.aload_n 0, 1) := by decide +kernel
theorem dX8_behindBridge_7 : decode cX8_behindBridge 7 = .ok (.iload_n 1, 1) := by decide +kernel
theorem dX8_behindBridge_8 : decode cX8_behindBridge 8 = .ok (.iconst 3, 1) := by decide +kernel
theorem dX8_behindBridge_9 : decode cX8_behindBridge 9 = .ok (.invokevirtual 135, 3) := by decide +kernel
theorem dX8_behindBridge_12 : decode cX8_behindBridge 12 = .ok (.aload_n 0, 1) := by decide +kernel
theorem dX8_behindBridge_13 : decode cX8_behindBridge 13 = .ok (.getfield 7, 3) := by decide +kernel
theorem dX8_behindBridge_16 : decode cX8_behindBridge 16 = .ok (.iconst 1, 1) := by decide +kernel
theorem dX8_behindBridge_17 : decode cX8_behindBridge 17 = .ok (.iaload, 1) := by decide +kernel
theorem dX8_behindBridge_18 : decode cX8_behindBridge 18 = .ok (.lload_n 2, 1) := by decide +kernel
theorem dX8_behindBridge_19 : decode cX8_behindBridge 19 = .ok (.invokestatic 154, 3) := by decide +kernel
theorem dX8_behindBridge_22 : decode cX8_behindBridge 22 = .ok (.lreturn, 1) := by decide +kernel
theorem dX8_called_0 : decode cX8_called 0 = .ok (.iload_n 1, 1) := by decide +kernel
theorem dX8_called_1 : decode cX8_called 1 = .ok (.invokestatic 148, 3) := by decide +kernel
theorem dX8_called_4 : decode cX8_called 4 = .ok (.ifCond .eq 25, 3) := by decide +kernel
theorem dX8_called_7 : decode cX8_called 7 = .ok (.aload_n 0, 1) := by decide +kernel
theorem dX8_called_8 : decode cX8_called 8 = .ok (.iload_n 2, 1) := by decide +kernel
theorem dX8_called_9 : decode cX8_called 9 = .ok (.invokevirtual 139, 3) := by decide +kernel
theorem dX8_called_12 : decode cX8_called 12 = .ok (.ifCond .eq 17, 3) := by decide +kernel
theorem dX8_called_15 : decode cX8_called 15 = .ok (.aload_n 0, 1) := by decide +kernel
theorem dX8_called_16 : decode cX8_called 16 = .ok (.iload_n 3, 1) := by decide +kernel
theorem dX8_called_17 : decode cX8_called 17 = .ok (.invokevirtual 139, 3) := by decide +kernel
theorem dX8_called_20 : decode cX8_called 20 = .ok (.ifCond .eq 9, 3) := by decide +kernel
theorem dX8_called_23 : decode cX8_called 23 = .ok (.iload 4, 2) := by decide +kernel
theorem dX8_called_25 : decode cX8_called 25 = .ok (.iconst (-1), 1) := by decide +kernel
theorem dX8_called_26 : decode cX8_called 26 = .ok (.if_icmp .ge 10, 3) := by decide +kernel
theorem dX8_called_29 : decode cX8_called 29 = .ok (.aload_n 0, 1) := by decide +kernel
theorem dX8_called_30 : decode cX8_called 30 = .ok (.bipush (-10), 2) := by decide +kernel
theorem dX8_called_32 : decode cX8_called 32 = .ok (.invokevirtual 116, 3) := by decide +kernel
theorem dX8_called_35 : decode cX8_called 35 = .ok (.ireturn, 1) := by decide +kernel
theorem dX8_called_36 : decode cX8_called 36 = .ok (.aload_n 0, 1) := by decide +kernel
theorem dX8_called_37 : decode cX8_called 37 = .ok (.getfield 16, 3) := by decide +kernel
theorem dX8_called_40 : decode cX8_called 40 = .ok (.iload_n 1, 1) := by decide +kernel
theorem dX8_called_41 : decode cX8_called 41 = .ok (.laload, 1) := by decide +kernel
theorem dX8_called_42 : decode cX8_called 42 = .ok (.lstore 5, 2) := by decide +kernel
theorem dX8_called_44 : decode cX8_called 44 = .ok (.iload_n 2, 1) := by decide +kernel
theorem dX8_called_45 : decode cX8_called 45 = .ok (.istore 7, 2) := by decide +kernel
theorem dX8_called_47 : decode cX8_called 47 = .ok (.iload 7, 2) := by decide +kernel
theorem dX8_called_49 : decode cX8_called 49 = .ok (.iload_n 3, 1) := by decide +kernel
theorem dX8_called_50 : decode cX8_called 50 = .ok (.if_icmp .gt 19, 3) := by decide +kernel
theorem dX8_called_53 : decode cX8_called 53 = .ok (.aload_n 0, 1) := by decide +kernel
theorem dX8_called_54 : decode cX8_called 54 = .ok (.iload 7, 2) := by decide +kernel
theorem dX8_called_56 : decode cX8_called 56 = .ok (.lload 5, 2) := by decide +kernel
theorem dX8_called_58 : decode cX8_called 58 = .ok (.invokevirtual 158, 3) := by decide +kernel
theorem dX8_called_61 : decode cX8_called 61 = .ok (.lstore 5, 2) := by decide +kernel
theorem dX8_called_63 : decode cX8_called 63 = .ok (.iinc 7 1, 3) := by decide +kernel
theorem dX8_called_66 : decode cX8_called 66 = .ok (.goto (-19), 3) := by decide +kernel
theorem dX8_called_69 : decode cX8_called 69 = .ok (.lload 5, 2) := by decide +kernel
theorem dX8_called_71 : decode cX8_called 71 = .ok (.iload 4, 2) := by decide +kernel
theorem dX8_called_73 : decode cX8_called 73 = .ok (.invokestatic 151, 3) := by decide +kernel
theorem dX8_called_76 : decode cX8_called 76 = .ok (.ireturn, 1) := by decide +kernel
theorem dX8_nothing_0 : decode cX8_nothing 0 = .ok (.iload_n 1, 1) := by decide +kernel
theorem dX8_nothing_1 : decode cX8_nothing 1 = .ok (.invokestatic 148, 3) := by decide +kernel
theorem dX8_nothing_4 : decode cX8_nothing 4 = .ok (.ifCond .eq 11, 3) := by decide +kernel
theorem dX8_nothing_7 : decode cX8_nothing 7 = .ok (.aload_n 0, 1) := by decide +kernel
theorem dX8_nothing_8 : decode cX8_nothing 8 = .ok (.iload_n 2, 1) := by decide +kernel
theorem dX8_nothing_9 : decode cX8_nothing 9 = .ok (.invokevirtual 139, 3) := by decide +kernel
theorem dX8_nothing_12 : decode cX8_nothing 12 = .ok (.ifCond .ne 10, 3) := by decide +kernel
theorem dX8_nothing_15 : decode cX8_nothing 15 = .ok (.aload_n 0, 1) := by decide +kernel
theorem dX8_nothing_16 : decode cX8_nothing 16 = .ok (.bipush (-2), 2) := by decide +kernel
theorem dX8_nothing_18 : decode cX8_nothing 18 = .ok (.invokevirtual 116, 3) := by decide +kernel
theorem dX8_nothing_21 : decode cX8_nothing 21 = .ok (.ireturn, 1) := by decide +kernel
theorem dX8_nothing_22 : decode cX8_nothing 22 = .ok (.aload_n 0, 1) := by decide +kernel
theorem dX8_nothing_23 : decode cX8_nothing 23 = .ok (.getfield 16, 3) := by decide +kernel
theorem dX8_nothing_26 : decode cX8_nothing 26 = .ok (.iload_n 1, 1) := by decide +kernel
theorem dX8_nothing_27 : decode cX8_nothing 27 = .ok (.laload, 1) := by decide +kernel
theorem dX8_nothing_28 : decode cX8_nothing 28 = .ok (.lstore_n 3, 1) := by decide +kernel
theorem dX8_nothing_29 : decode cX8_nothing 29 = .ok (.iload_n 2, 1) := by decide +kernel
theorem dX8_nothing_30 : decode cX8_nothing 30 = .ok (.istore 5, 2) := by decide +kernel
theorem dX8_nothing_32 : decode cX8_nothing 32 = .ok (.iload 5, 2) := by decide +kernel
theorem dX8_nothing_34 : decode cX8_nothing 34 = .ok (.aload_n 0, 1) := by decide +kernel
theorem dX8_nothing_35 : decode cX8_nothing 35 = .ok (.invokevirtual 102, 3) := by decide +kernel
theorem dX8_nothing_38 : decode cX8_nothing 38 = .ok (.if_icmp .ge 26, 3) := by decide +kernel
theorem dX8_nothing_41 : decode cX8_nothing 41 = .ok (.aload_n 0, 1) := by decide +kernel
theorem dX8_nothing_42 : decode cX8_nothing 42 = .ok (.iload 5, 2) := by decide +kernel
theorem dX8_nothing_44 : decode cX8_nothing 44 = .ok (.lload_n 3, 1) := by decide +kernel
theorem dX8_nothing_45 : decode cX8_nothing 45 = .ok (.invokevirtual 158, 3) := by decide +kernel
theorem dX8_nothing_48 : decode cX8_nothing 48 = .ok (.lstore_n 3, 1) := by decide +kernel
theorem dX8_nothing_49 : decode cX8_nothing 49 = .ok (.lload_n 3, 1) := by decide +kernel
theorem dX8_nothing_50 : decode cX8_nothing 50 = .ok (.lconst 0, 1) := by decide +kernel
theorem dX8_nothing_51 : decode cX8_nothing 51 = .ok (.lcmp, 1) := by decide +kernel
theorem dX8_nothing_52 : decode cX8_nothing 52 = .ok (.ifCond .ne 6, 3) := by decide +kernel
theorem dX8_nothing_55 : decode cX8_nothing 55 = .ok (.iload 5, 2) := by decide +kernel
theorem dX8_nothing_57 : decode cX8_nothing 57 = .ok (.ireturn, 1) := by decide +kernel
theorem dX8_nothing_58 : decode cX8_nothing 58 = .ok (.iinc 5 1, 3) := by decide +kernel
theorem dX8_nothing_61 : decode cX8_nothing 61 = .ok (.goto (-29), 3) := by decide +kernel
theorem dX8_nothing_64 : decode cX8_nothing 64 = .ok (.iconst (-1), 1) := by decide +kernel
theorem dX8_nothing_65 : decode cX8_nothing 65 = .ok (.ireturn, 1) := by decide +kernel
theorem dX8_canSay_0 : decode cX8_canSay 0 = .ok (.iconst 1, 1) := by decide +kernel
theorem dX8_canSay_1 : decode cX8_canSay 1 = .ok (.istore_n 3, 1) := by decide +kernel
theorem dX8_canSay_2 : decode cX8_canSay 2 = .ok (.iconst 0, 1) := by decide +kernel
theorem dX8_canSay_3 : decode cX8_canSay 3 = .ok (.istore 4, 2) := by decide +kernel
theorem dX8_canSay_5 : decode cX8_canSay 5 = .ok (.iload 4, 2) := by decide +kernel
theorem dX8_canSay_7 : decode cX8_canSay 7 = .ok (.lload_n 1, 1) := by decide +kernel
theorem dX8_canSay_8 : decode cX8_canSay 8 = .ok (.invokestatic 71, 3) := by decide +kernel
theorem dX8_canSay_11 : decode cX8_canSay 11 = .ok (.if_icmp .ge 33, 3) := by decide +kernel
theorem dX8_canSay_14 : decode cX8_canSay 14 = .ok (.iload_n 3, 1) := by decide +kernel
theorem dX8_canSay_15 : decode cX8_canSay 15 = .ok (.ifCond .eq 21, 3) := by decide +kernel
theorem dX8_canSay_18 : decode cX8_canSay 18 = .ok (.iload_n 0, 1) := by decide +kernel
theorem dX8_canSay_19 : decode cX8_canSay 19 = .ok (.lload_n 1, 1) := by decide +kernel
theorem dX8_canSay_20 : decode cX8_canSay 20 = .ok (.iload 4, 2) := by decide +kernel
theorem dX8_canSay_22 : decode cX8_canSay 22 = .ok (.invokestatic 82, 3) := by decide +kernel
theorem dX8_canSay_25 : decode cX8_canSay 25 = .ok (.ishr, 1) := by decide +kernel
theorem dX8_canSay_26 : decode cX8_canSay 26 = .ok (.iconst 1, 1) := by decide +kernel
theorem dX8_canSay_27 : decode cX8_canSay 27 = .ok (.iand, 1) := by decide +kernel
theorem dX8_canSay_28 : decode cX8_canSay 28 = .ok (.iconst 1, 1) := by decide +kernel
theorem dX8_canSay_29 : decode cX8_canSay 29 = .ok (.if_icmp .ne 7, 3) := by decide +kernel
theorem dX8_canSay_32 : decode cX8_canSay 32 = .ok (.iconst 1, 1) := by decide +kernel
theorem dX8_canSay_33 : decode cX8_canSay 33 = .ok (.goto 4, 3) := by decide +kernel
theorem dX8_canSay_36 : decode cX8_canSay 36 = .ok (.iconst 0, 1) := by decide +kernel
theorem dX8_canSay_37 : decode cX8_canSay 37 = .ok (.istore_n 3, 1) := by decide +kernel
theorem dX8_canSay_38 : decode cX8_canSay 38 = .ok (.iinc 4 1, 3) := by decide +kernel
theorem dX8_canSay_41 : decode cX8_canSay 41 = .ok (.goto (-36), 3) := by decide +kernel
theorem dX8_canSay_44 : decode cX8_canSay 44 = .ok (.iload_n 3, 1) := by decide +kernel
theorem dX8_canSay_45 : decode cX8_canSay 45 = .ok (.ireturn, 1) := by decide +kernel
theorem dX8_boat_0 : decode cX8_boat 0 = .ok (.iload_n 1, 1) := by decide +kernel
theorem dX8_boat_1 : decode cX8_boat 1 = .ok (.invokestatic 148, 3) := by decide +kernel
theorem dX8_boat_4 : decode cX8_boat 4 = .ok (.ifCond .eq 43, 3) := by decide +kernel
theorem dX8_boat_7 : decode cX8_boat 7 = .ok (.iload_n 2, 1) := by decide +kernel
theorem dX8_boat_8 : decode cX8_boat 8 = .ok (.i2l, 1) := by decide +kernel
theorem dX8_boat_9 : decode cX8_boat 9 = .ok (.lconst 0, 1) := by decide +kernel
theorem dX8_boat_10 : decode cX8_boat 10 = .ok (.ldc2_w 162, 3) := by decide +kernel
theorem dX8_boat_13 : decode cX8_boat 13 = .ok (.invokestatic 106, 3) := by decide +kernel
theorem dX8_boat_16 : decode cX8_boat 16 = .ok (.ifCond .eq 31, 3) := by decide +kernel
theorem dX8_boat_19 : decode cX8_boat 19 = .ok (.aload_n 0, 1) := by decide +kernel
theorem dX8_boat_20 : decode cX8_boat 20 = .ok (.iload_n 3, 1) := by decide +kernel
theorem dX8_boat_21 : decode cX8_boat 21 = .ok (.invokevirtual 139, 3) := by decide +kernel
theorem dX8_boat_24 : decode cX8_boat 24 = .ok (.ifCond .eq 23, 3) := by decide +kernel
theorem dX8_boat_27 : decode cX8_boat 27 = .ok (.aload_n 0, 1) := by decide +kernel
theorem dX8_boat_28 : decode cX8_boat 28 = .ok (.iload 4, 2) := by decide +kernel
theorem dX8_boat_30 : decode cX8_boat 30 = .ok (.invokevirtual 139, 3) := by decide +kernel
theorem dX8_boat_33 : decode cX8_boat 33 = .ok (.ifCond .eq 14, 3) := by decide +kernel
theorem dX8_boat_36 : decode cX8_boat 36 = .ok (.iload 5, 2) := by decide +kernel
theorem dX8_boat_38 : decode cX8_boat 38 = .ok (.i2l, 1) := by decide +kernel
theorem dX8_boat_39 : decode cX8_boat 39 = .ok (.lconst 0, 1) := by decide +kernel
theorem dX8_boat_40 : decode cX8_boat 40 = .ok (.lconst 1, 1) := by decide +kernel
theorem dX8_boat_41 : decode cX8_boat 41 = .ok (.invokestatic 106, 3) := by decide +kernel
theorem dX8_boat_44 : decode cX8_boat 44 = .ok (.ifCond .ne 10, 3) := by decide +kernel
theorem dX8_boat_47 : decode cX8_boat 47 = .ok (.aload_n 0, 1) := by decide +kernel
theorem dX8_boat_48 : decode cX8_boat 48 = .ok (.bipush (-10), 2) := by decide +kernel
theorem dX8_boat_50 : decode cX8_boat 50 = .ok (.invokevirtual 116, 3) := by decide +kernel
theorem dX8_boat_53 : decode cX8_boat 53 = .ok (.ireturn, 1) := by decide +kernel
theorem dX8_boat_54 : decode cX8_boat 54 = .ok (.iconst 0, 1) := by decide +kernel
theorem dX8_boat_55 : decode cX8_boat 55 = .ok (.istore 6, 2) := by decide +kernel
theorem dX8_boat_57 : decode cX8_boat 57 = .ok (.aload_n 0, 1) := by decide +kernel
theorem dX8_boat_58 : decode cX8_boat 58 = .ok (.getfield 16, 3) := by decide +kernel
theorem dX8_boat_61 : decode cX8_boat 61 = .ok (.iload_n 1, 1) := by decide +kernel
theorem dX8_boat_62 : decode cX8_boat 62 = .ok (.laload, 1) := by decide +kernel
theorem dX8_boat_63 : decode cX8_boat 63 = .ok (.lstore 7, 2) := by decide +kernel
theorem dX8_boat_65 : decode cX8_boat 65 = .ok (.iload_n 3, 1) := by decide +kernel
theorem dX8_boat_66 : decode cX8_boat 66 = .ok (.istore 9, 2) := by decide +kernel
theorem dX8_boat_68 : decode cX8_boat 68 = .ok (.iload 9, 2) := by decide +kernel
theorem dX8_boat_70 : decode cX8_boat 70 = .ok (.iload 4, 2) := by decide +kernel
theorem dX8_boat_72 : decode cX8_boat 72 = .ok (.if_icmp .gt 51, 3) := by decide +kernel
theorem dX8_boat_75 : decode cX8_boat 75 = .ok (.aload_n 0, 1) := by decide +kernel
theorem dX8_boat_76 : decode cX8_boat 76 = .ok (.iload 9, 2) := by decide +kernel
theorem dX8_boat_78 : decode cX8_boat 78 = .ok (.lload 7, 2) := by decide +kernel
theorem dX8_boat_80 : decode cX8_boat 80 = .ok (.invokevirtual 158, 3) := by decide +kernel
theorem dX8_boat_83 : decode cX8_boat 83 = .ok (.lstore 7, 2) := by decide +kernel
theorem dX8_boat_85 : decode cX8_boat 85 = .ok (.iload_n 2, 1) := by decide +kernel
theorem dX8_boat_86 : decode cX8_boat 86 = .ok (.lload 7, 2) := by decide +kernel
theorem dX8_boat_88 : decode cX8_boat 88 = .ok (.invokestatic 164, 3) := by decide +kernel
theorem dX8_boat_91 : decode cX8_boat 91 = .ok (.ifCond .ne 16, 3) := by decide +kernel
theorem dX8_boat_94 : decode cX8_boat 94 = .ok (.iload 5, 2) := by decide +kernel
theorem dX8_boat_96 : decode cX8_boat 96 = .ok (.ifCond .ne 8, 3) := by decide +kernel
theorem dX8_boat_99 : decode cX8_boat 99 = .ok (.iload 9, 2) := by decide +kernel
theorem dX8_boat_101 : decode cX8_boat 101 = .ok (.goto 5, 3) := by decide +kernel
theorem dX8_boat_104 : decode cX8_boat 104 = .ok (.iload 6, 2) := by decide +kernel
theorem dX8_boat_106 : decode cX8_boat 106 = .ok (.ireturn, 1) := by decide +kernel
theorem dX8_boat_107 : decode cX8_boat 107 = .ok (.iload 6, 2) := by decide +kernel
theorem dX8_boat_109 : decode cX8_boat 109 = .ok (.lload 7, 2) := by decide +kernel
theorem dX8_boat_111 : decode cX8_boat 111 = .ok (.invokestatic 71, 3) := by decide +kernel
theorem dX8_boat_114 : decode cX8_boat 114 = .ok (.iadd, 1) := by decide +kernel
theorem dX8_boat_115 : decode cX8_boat 115 = .ok (.istore 6, 2) := by decide +kernel
theorem dX8_boat_117 : decode cX8_boat 117 = .ok (.iinc 9 1, 3) := by decide +kernel
theorem dX8_boat_120 : decode cX8_boat 120 = .ok (.goto (-52), 3) := by decide +kernel
theorem dX8_boat_123 : decode cX8_boat 123 = .ok (.iload 5, 2) := by decide +kernel
theorem dX8_boat_125 : decode cX8_boat 125 = .ok (.ifCond .ne 7, 3) := by decide +kernel
theorem dX8_boat_128 : decode cX8_boat 128 = .ok (.iconst (-1), 1) := by decide +kernel
theorem dX8_boat_129 : decode cX8_boat 129 = .ok (.goto 5, 3) := by decide +kernel
theorem dX8_boat_132 : decode cX8_boat 132 = .ok (.iload 6, 2) := by decide +kernel
theorem dX8_boat_134 : decode cX8_boat 134 = .ok (.ireturn, 1) := by decide +kernel
theorem dX8_beginWay_0 : decode cX8_beginWay 0 = .ok (.aload_n 0, 1) := by decide +kernel
theorem dX8_beginWay_1 : decode cX8_beginWay 1 = .ok (.iconst 0, 1) := by decide +kernel
theorem dX8_beginWay_2 : decode cX8_beginWay 2 = .ok (.putfield 168, 3) := by decide +kernel
theorem dX8_beginWay_5 : decode cX8_beginWay 5 = .ok (.aload_n 0, 1) := by decide +kernel
theorem dX8_beginWay_6 : decode cX8_beginWay 6 = .ok (.getfield 37, 3) := by decide +kernel
theorem dX8_beginWay_9 : decode cX8_beginWay 9 = .ok (.iconst 0, 1) := by decide +kernel
theorem dX8_beginWay_10 : decode cX8_beginWay 10 = .ok (.iload_n 3, 1) := by decide +kernel
theorem dX8_beginWay_11 : decode cX8_beginWay 11 = .ok (.iastore, 1) := by decide +kernel
theorem dX8_beginWay_12 : decode cX8_beginWay 12 = .ok (.aload_n 0, 1) := by decide +kernel
theorem dX8_beginWay_13 : decode cX8_beginWay 13 = .ok (.getfield 40, 3) := by decide +kernel
theorem dX8_beginWay_16 : decode cX8_beginWay 16 = .ok (.iconst 0, 1) := by decide +kernel
theorem dX8_beginWay_17 : decode cX8_beginWay 17 = .ok (.lload_n 1, 1) := by decide +kernel
theorem dX8_beginWay_18 : decode cX8_beginWay 18 = .ok (.lastore, 1) := by decide +kernel
theorem dX8_beginWay_19 : decode cX8_beginWay 19 = .ok (.aload_n 0, 1) := by decide +kernel
theorem dX8_beginWay_20 : decode cX8_beginWay 20 = .ok (.getfield 43, 3) := by decide +kernel
theorem dX8_beginWay_23 : decode cX8_beginWay 23 = .ok (.iconst 0, 1) := by decide +kernel
theorem dX8_beginWay_24 : decode cX8_beginWay 24 = .ok (.iconst 0, 1) := by decide +kernel
theorem dX8_beginWay_25 : decode cX8_beginWay 25 = .ok (.iastore, 1) := by decide +kernel
theorem dX8_beginWay_26 : decode cX8_beginWay 26 = .ok (.aload_n 0, 1) := by decide +kernel
theorem dX8_beginWay_27 : decode cX8_beginWay 27 = .ok (.getfield 34, 3) := by decide +kernel
theorem dX8_beginWay_30 : decode cX8_beginWay 30 = .ok (.iconst 0, 1) := by decide +kernel
theorem dX8_beginWay_31 : decode cX8_beginWay 31 = .ok (.iconst (-1), 1) := by decide +kernel
theorem dX8_beginWay_32 : decode cX8_beginWay 32 = .ok (.iastore, 1) := by decide +kernel
theorem dX8_beginWay_33 : decode cX8_beginWay 33 = .ok (.return_, 1) := by decide +kernel
theorem dX8_isGone_0 : decode cX8_isGone 0 = .ok (.iconst 0, 1) := by decide +kernel
theorem dX8_isGone_1 : decode cX8_isGone 1 = .ok (.istore_n 2, 1) := by decide +kernel
theorem dX8_isGone_2 : decode cX8_isGone 2 = .ok (.iconst 0, 1) := by decide +kernel
theorem dX8_isGone_3 : decode cX8_isGone 3 = .ok (.istore_n 3, 1) := by decide +kernel
theorem dX8_isGone_4 : decode cX8_isGone 4 = .ok (.iload_n 3, 1) := by decide +kernel
theorem dX8_isGone_5 : decode cX8_isGone 5 = .ok (.aload_n 0, 1) := by decide +kernel
theorem dX8_isGone_6 : decode cX8_isGone 6 = .ok (.getfield 168, 3) := by decide +kernel
theorem dX8_isGone_9 : decode cX8_isGone 9 = .ok (.if_icmp .ge 29, 3) := by decide +kernel
theorem dX8_isGone_12 : decode cX8_isGone 12 = .ok (.iload_n 2, 1) := by decide +kernel
theorem dX8_isGone_13 : decode cX8_isGone 13 = .ok (.ifCond .ne 13, 3) := by decide +kernel
theorem dX8_isGone_16 : decode cX8_isGone 16 = .ok (.aload_n 0, 1) := by decide +kernel
theorem dX8_isGone_17 : decode cX8_isGone 17 = .ok (.getfield 34, 3) := by decide +kernel
theorem dX8_isGone_20 : decode cX8_isGone 20 = .ok (.iload_n 3, 1) := by decide +kernel
theorem dX8_isGone_21 : decode cX8_isGone 21 = .ok (.iaload, 1) := by decide +kernel
theorem dX8_isGone_22 : decode cX8_isGone 22 = .ok (.iload_n 1, 1) := by decide +kernel
theorem dX8_isGone_23 : decode cX8_isGone 23 = .ok (.if_icmp .ne 7, 3) := by decide +kernel
theorem dX8_isGone_26 : decode cX8_isGone 26 = .ok (.iconst 1, 1) := by decide +kernel
theorem dX8_isGone_27 : decode cX8_isGone 27 = .ok (.goto 4, 3) := by decide +kernel
theorem dX8_isGone_30 : decode cX8_isGone 30 = .ok (.iconst 0, 1) := by decide +kernel
theorem dX8_isGone_31 : decode cX8_isGone 31 = .ok (.istore_n 2, 1) := by decide +kernel
theorem dX8_isGone_32 : decode cX8_isGone 32 = .ok (.iinc 3 1, 3) := by decide +kernel
theorem dX8_isGone_35 : decode cX8_isGone 35 = .ok (.goto (-31), 3) := by decide +kernel
theorem dX8_isGone_38 : decode cX8_isGone 38 = .ok (.iload_n 2, 1) := by decide +kernel
theorem dX8_isGone_39 : decode cX8_isGone 39 = .ok (.ireturn, 1) := by decide +kernel
theorem dX8_goOn_0 : decode cX8_goOn 0 = .ok (.aload_n 0, 1) := by decide +kernel
theorem dX8_goOn_1 : decode cX8_goOn 1 = .ok (.getfield 168, 3) := by decide +kernel
theorem dX8_goOn_4 : decode cX8_goOn 4 = .ok (.ifCond .lt 194, 3) := by decide +kernel
theorem dX8_goOn_7 : decode cX8_goOn 7 = .ok (.aload_n 0, 1) := by decide +kernel
theorem dX8_goOn_8 : decode cX8_goOn 8 = .ok (.getfield 34, 3) := by decide +kernel
theorem dX8_goOn_11 : decode cX8_goOn 11 = .ok (.aload_n 0, 1) := by decide +kernel
theorem dX8_goOn_12 : decode cX8_goOn 12 = .ok (.getfield 168, 3) := by decide +kernel
theorem dX8_goOn_15 : decode cX8_goOn 15 = .ok (.iaload, 1) := by decide +kernel
theorem dX8_goOn_16 : decode cX8_goOn 16 = .ok (.iconst 1, 1) := by decide +kernel
theorem dX8_goOn_17 : decode cX8_goOn 17 = .ok (.iadd, 1) := by decide +kernel
theorem dX8_goOn_18 : decode cX8_goOn 18 = .ok (.istore_n 1, 1) := by decide +kernel
theorem dX8_goOn_19 : decode cX8_goOn 19 = .ok (.iload_n 1, 1) := by decide +kernel
theorem dX8_goOn_20 : decode cX8_goOn 20 = .ok (.aload_n 0, 1) := by decide +kernel
theorem dX8_goOn_21 : decode cX8_goOn 21 = .ok (.invokevirtual 102, 3) := by decide +kernel
theorem dX8_goOn_24 : decode cX8_goOn 24 = .ok (.if_icmp .ge 35, 3) := by decide +kernel
theorem dX8_goOn_27 : decode cX8_goOn 27 = .ok (.aload_n 0, 1) := by decide +kernel
theorem dX8_goOn_28 : decode cX8_goOn 28 = .ok (.iload_n 1, 1) := by decide +kernel
theorem dX8_goOn_29 : decode cX8_goOn 29 = .ok (.iconst 0, 1) := by decide +kernel
theorem dX8_goOn_30 : decode cX8_goOn 30 = .ok (.invokevirtual 135, 3) := by decide +kernel
theorem dX8_goOn_33 : decode cX8_goOn 33 = .ok (.aload_n 0, 1) := by decide +kernel
theorem dX8_goOn_34 : decode cX8_goOn 34 = .ok (.getfield 37, 3) := by decide +kernel
theorem dX8_goOn_37 : decode cX8_goOn 37 = .ok (.aload_n 0, 1) := by decide +kernel
theorem dX8_goOn_38 : decode cX8_goOn 38 = .ok (.getfield 168, 3) := by decide +kernel
theorem dX8_goOn_41 : decode cX8_goOn 41 = .ok (.iaload, 1) := by decide +kernel
theorem dX8_goOn_42 : decode cX8_goOn 42 = .ok (.if_icmp .ne 11, 3) := by decide +kernel
theorem dX8_goOn_45 : decode cX8_goOn 45 = .ok (.aload_n 0, 1) := by decide +kernel
theorem dX8_goOn_46 : decode cX8_goOn 46 = .ok (.iload_n 1, 1) := by decide +kernel
theorem dX8_goOn_47 : decode cX8_goOn 47 = .ok (.invokevirtual 172, 3) := by decide +kernel
theorem dX8_goOn_50 : decode cX8_goOn 50 = .ok (.ifCond .eq 9, 3) := by decide +kernel
theorem dX8_goOn_53 : decode cX8_goOn 53 = .ok (.iinc 1 1, 3) := by decide +kernel
theorem dX8_goOn_56 : decode cX8_goOn 56 = .ok (.goto (-37), 3) := by decide +kernel
theorem dX8_goOn_59 : decode cX8_goOn 59 = .ok (.aload_n 0, 1) := by decide +kernel
theorem dX8_goOn_60 : decode cX8_goOn 60 = .ok (.getfield 168, 3) := by decide +kernel
theorem dX8_goOn_63 : decode cX8_goOn 63 = .ok (.bipush 6, 2) := by decide +kernel
theorem dX8_goOn_65 : decode cX8_goOn 65 = .ok (.if_icmp .ge 120, 3) := by decide +kernel
theorem dX8_goOn_68 : decode cX8_goOn 68 = .ok (.iload_n 1, 1) := by decide +kernel
theorem dX8_goOn_69 : decode cX8_goOn 69 = .ok (.aload_n 0, 1) := by decide +kernel
theorem dX8_goOn_70 : decode cX8_goOn 70 = .ok (.invokevirtual 102, 3) := by decide +kernel
theorem dX8_goOn_73 : decode cX8_goOn 73 = .ok (.if_icmp .ge 112, 3) := by decide +kernel
theorem dX8_goOn_76 : decode cX8_goOn 76 = .ok (.aload_n 0, 1) := by decide +kernel
theorem dX8_goOn_77 : decode cX8_goOn 77 = .ok (.getfield 34, 3) := by decide +kernel
theorem dX8_goOn_80 : decode cX8_goOn 80 = .ok (.aload_n 0, 1) := by decide +kernel
theorem dX8_goOn_81 : decode cX8_goOn 81 = .ok (.getfield 168, 3) := by decide +kernel
theorem dX8_goOn_84 : decode cX8_goOn 84 = .ok (.iload_n 1, 1) := by decide +kernel
theorem dX8_goOn_85 : decode cX8_goOn 85 = .ok (.iastore, 1) := by decide +kernel
theorem dX8_goOn_86 : decode cX8_goOn 86 = .ok (.aload_n 0, 1) := by decide +kernel
theorem dX8_goOn_87 : decode cX8_goOn 87 = .ok (.getfield 40, 3) := by decide +kernel
theorem dX8_goOn_90 : decode cX8_goOn 90 = .ok (.aload_n 0, 1) := by decide +kernel
theorem dX8_goOn_91 : decode cX8_goOn 91 = .ok (.getfield 168, 3) := by decide +kernel
theorem dX8_goOn_94 : decode cX8_goOn 94 = .ok (.iconst 1, 1) := by decide +kernel
theorem dX8_goOn_95 : decode cX8_goOn 95 = .ok (.iadd, 1) := by decide +kernel
theorem dX8_goOn_96 : decode cX8_goOn 96 = .ok (.aload_n 0, 1) := by decide +kernel
theorem dX8_goOn_97 : decode cX8_goOn 97 = .ok (.iload_n 1, 1) := by decide +kernel
theorem dX8_goOn_98 : decode cX8_goOn 98 = .ok (.aload_n 0, 1) := by decide +kernel
theorem dX8_goOn_99 : decode cX8_goOn 99 = .ok (.getfield 40, 3) := by decide +kernel
theorem dX8_goOn_102 : decode cX8_goOn 102 = .ok (.aload_n 0, 1) := by decide +kernel
theorem dX8_goOn_103 : decode cX8_goOn 103 = .ok (.getfield 168, 3) := by decide +kernel
theorem dX8_goOn_106 : decode cX8_goOn 106 = .ok (.laload, 1) := by decide +kernel
theorem dX8_goOn_107 : decode cX8_goOn 107 = .ok (.invokevirtual 158, 3) := by decide +kernel
theorem dX8_goOn_110 : decode cX8_goOn 110 = .ok (.lastore, 1) := by decide +kernel
theorem dX8_goOn_111 : decode cX8_goOn 111 = .ok (.aload_n 0, 1) := by decide +kernel
theorem dX8_goOn_112 : decode cX8_goOn 112 = .ok (.getfield 37, 3) := by decide +kernel
theorem dX8_goOn_115 : decode cX8_goOn 115 = .ok (.aload_n 0, 1) := by decide +kernel
theorem dX8_goOn_116 : decode cX8_goOn 116 = .ok (.getfield 168, 3) := by decide +kernel
theorem dX8_goOn_119 : decode cX8_goOn 119 = .ok (.iconst 1, 1) := by decide +kernel
theorem dX8_goOn_120 : decode cX8_goOn 120 = .ok (.iadd, 1) := by decide +kernel
theorem dX8_goOn_121 : decode cX8_goOn 121 = .ok (.aload_n 0, 1) := by decide +kernel
theorem dX8_goOn_122 : decode cX8_goOn 122 = .ok (.iload_n 1, 1) := by decide +kernel
theorem dX8_goOn_123 : decode cX8_goOn 123 = .ok (.iconst 1, 1) := by decide +kernel
theorem dX8_goOn_124 : decode cX8_goOn 124 = .ok (.invokevirtual 135, 3) := by decide +kernel
theorem dX8_goOn_127 : decode cX8_goOn 127 = .ok (.iastore, 1) := by decide +kernel
theorem dX8_goOn_128 : decode cX8_goOn 128 = .ok (.aload_n 0, 1) := by decide +kernel
theorem dX8_goOn_129 : decode cX8_goOn 129 = .ok (.getfield 43, 3) := by decide +kernel
theorem dX8_goOn_132 : decode cX8_goOn 132 = .ok (.aload_n 0, 1) := by decide +kernel
theorem dX8_goOn_133 : decode cX8_goOn 133 = .ok (.getfield 168, 3) := by decide +kernel
theorem dX8_goOn_136 : decode cX8_goOn 136 = .ok (.iconst 1, 1) := by decide +kernel
theorem dX8_goOn_137 : decode cX8_goOn 137 = .ok (.iadd, 1) := by decide +kernel
theorem dX8_goOn_138 : decode cX8_goOn 138 = .ok (.aload_n 0, 1) := by decide +kernel
theorem dX8_goOn_139 : decode cX8_goOn 139 = .ok (.getfield 43, 3) := by decide +kernel
theorem dX8_goOn_142 : decode cX8_goOn 142 = .ok (.aload_n 0, 1) := by decide +kernel
theorem dX8_goOn_143 : decode cX8_goOn 143 = .ok (.getfield 168, 3) := by decide +kernel
theorem dX8_goOn_146 : decode cX8_goOn 146 = .ok (.iaload, 1) := by decide +kernel
theorem dX8_goOn_147 : decode cX8_goOn 147 = .ok (.aload_n 0, 1) := by decide +kernel
theorem dX8_goOn_148 : decode cX8_goOn 148 = .ok (.getfield 40, 3) := by decide +kernel
theorem dX8_goOn_151 : decode cX8_goOn 151 = .ok (.aload_n 0, 1) := by decide +kernel
theorem dX8_goOn_152 : decode cX8_goOn 152 = .ok (.getfield 168, 3) := by decide +kernel
theorem dX8_goOn_155 : decode cX8_goOn 155 = .ok (.iconst 1, 1) := by decide +kernel
theorem dX8_goOn_156 : decode cX8_goOn 156 = .ok (.iadd, 1) := by decide +kernel
theorem dX8_goOn_157 : decode cX8_goOn 157 = .ok (.laload, 1) := by decide +kernel
theorem dX8_goOn_158 : decode cX8_goOn 158 = .ok (.invokestatic 71, 3) := by decide +kernel
theorem dX8_goOn_161 : decode cX8_goOn 161 = .ok (.iadd, 1) := by decide +kernel
theorem dX8_goOn_162 : decode cX8_goOn 162 = .ok (.iastore, 1) := by decide +kernel
theorem dX8_goOn_163 : decode cX8_goOn 163 = .ok (.aload_n 0, 1) := by decide +kernel
theorem dX8_goOn_164 : decode cX8_goOn 164 = .ok (.dup, 1) := by decide +kernel
theorem dX8_goOn_165 : decode cX8_goOn 165 = .ok (.getfield 168, 3) := by decide +kernel
theorem dX8_goOn_168 : decode cX8_goOn 168 = .ok (.iconst 1, 1) := by decide +kernel
theorem dX8_goOn_169 : decode cX8_goOn 169 = .ok (.iadd, 1) := by decide +kernel
theorem dX8_goOn_170 : decode cX8_goOn 170 = .ok (.putfield 168, 3) := by decide +kernel
theorem dX8_goOn_173 : decode cX8_goOn 173 = .ok (.aload_n 0, 1) := by decide +kernel
theorem dX8_goOn_174 : decode cX8_goOn 174 = .ok (.getfield 34, 3) := by decide +kernel
theorem dX8_goOn_177 : decode cX8_goOn 177 = .ok (.aload_n 0, 1) := by decide +kernel
theorem dX8_goOn_178 : decode cX8_goOn 178 = .ok (.getfield 168, 3) := by decide +kernel
theorem dX8_goOn_181 : decode cX8_goOn 181 = .ok (.iconst (-1), 1) := by decide +kernel
theorem dX8_goOn_182 : decode cX8_goOn 182 = .ok (.iastore, 1) := by decide +kernel
theorem dX8_goOn_183 : decode cX8_goOn 183 = .ok (.iconst 1, 1) := by decide +kernel
theorem dX8_goOn_184 : decode cX8_goOn 184 = .ok (.ireturn, 1) := by decide +kernel
theorem dX8_goOn_185 : decode cX8_goOn 185 = .ok (.aload_n 0, 1) := by decide +kernel
theorem dX8_goOn_186 : decode cX8_goOn 186 = .ok (.dup, 1) := by decide +kernel
theorem dX8_goOn_187 : decode cX8_goOn 187 = .ok (.getfield 168, 3) := by decide +kernel
theorem dX8_goOn_190 : decode cX8_goOn 190 = .ok (.iconst 1, 1) := by decide +kernel
theorem dX8_goOn_191 : decode cX8_goOn 191 = .ok (.isub, 1) := by decide +kernel
theorem dX8_goOn_192 : decode cX8_goOn 192 = .ok (.putfield 168, 3) := by decide +kernel
theorem dX8_goOn_195 : decode cX8_goOn 195 = .ok (.goto (-195), 3) := by decide +kernel
theorem dX8_goOn_198 : decode cX8_goOn 198 = .ok (.iconst 0, 1) := by decide +kernel
theorem dX8_goOn_199 : decode cX8_goOn 199 = .ok (.ireturn, 1) := by decide +kernel
theorem dX8_judge_0 : decode cX8_judge 0 = .ok (.aload_n 0, 1) := by decide +kernel
theorem dX8_judge_1 : decode cX8_judge 1 = .ok (.dup, 1) := by decide +kernel
theorem dX8_judge_2 : decode cX8_judge 2 = .ok (.getfield 175, 3) := by decide +kernel
theorem dX8_judge_5 : decode cX8_judge 5 = .ok (.iconst 1, 1) := by decide +kernel
theorem dX8_judge_6 : decode cX8_judge 6 = .ok (.iadd, 1) := by decide +kernel
theorem dX8_judge_7 : decode cX8_judge 7 = .ok (.putfield 175, 3) := by decide +kernel
theorem dX8_judge_10 : decode cX8_judge 10 = .ok (.aload_n 0, 1) := by decide +kernel
theorem dX8_judge_11 : decode cX8_judge 11 = .ok (.getfield 178, 3) := by decide +kernel
theorem dX8_judge_14 : decode cX8_judge 14 = .ok (.iconst (-1), 1) := by decide +kernel
theorem dX8_judge_15 : decode cX8_judge 15 = .ok (.if_icmp .eq 46, 3) := by decide +kernel
theorem dX8_judge_18 : decode cX8_judge 18 = .ok (.aload_n 0, 1) := by decide +kernel
theorem dX8_judge_19 : decode cX8_judge 19 = .ok (.getfield 43, 3) := by decide +kernel
theorem dX8_judge_22 : decode cX8_judge 22 = .ok (.aload_n 0, 1) := by decide +kernel
theorem dX8_judge_23 : decode cX8_judge 23 = .ok (.getfield 168, 3) := by decide +kernel
theorem dX8_judge_26 : decode cX8_judge 26 = .ok (.iaload, 1) := by decide +kernel
theorem dX8_judge_27 : decode cX8_judge 27 = .ok (.aload_n 0, 1) := by decide +kernel
theorem dX8_judge_28 : decode cX8_judge 28 = .ok (.getfield 181, 3) := by decide +kernel
theorem dX8_judge_31 : decode cX8_judge 31 = .ok (.if_icmp .lt 30, 3) := by decide +kernel
theorem dX8_judge_34 : decode cX8_judge 34 = .ok (.aload_n 0, 1) := by decide +kernel
theorem dX8_judge_35 : decode cX8_judge 35 = .ok (.getfield 43, 3) := by decide +kernel
theorem dX8_judge_38 : decode cX8_judge 38 = .ok (.aload_n 0, 1) := by decide +kernel
theorem dX8_judge_39 : decode cX8_judge 39 = .ok (.getfield 168, 3) := by decide +kernel
theorem dX8_judge_42 : decode cX8_judge 42 = .ok (.iaload, 1) := by decide +kernel
theorem dX8_judge_43 : decode cX8_judge 43 = .ok (.aload_n 0, 1) := by decide +kernel
theorem dX8_judge_44 : decode cX8_judge 44 = .ok (.getfield 181, 3) := by decide +kernel
theorem dX8_judge_47 : decode cX8_judge 47 = .ok (.if_icmp .ne 18, 3) := by decide +kernel
theorem dX8_judge_50 : decode cX8_judge 50 = .ok (.aload_n 0, 1) := by decide +kernel
theorem dX8_judge_51 : decode cX8_judge 51 = .ok (.getfield 168, 3) := by decide +kernel
theorem dX8_judge_54 : decode cX8_judge 54 = .ok (.aload_n 0, 1) := by decide +kernel
theorem dX8_judge_55 : decode cX8_judge 55 = .ok (.getfield 178, 3) := by decide +kernel
theorem dX8_judge_58 : decode cX8_judge 58 = .ok (.if_icmp .ge 7, 3) := by decide +kernel
theorem dX8_judge_61 : decode cX8_judge 61 = .ok (.iconst 1, 1) := by decide +kernel
theorem dX8_judge_62 : decode cX8_judge 62 = .ok (.goto 4, 3) := by decide +kernel
theorem dX8_judge_65 : decode cX8_judge 65 = .ok (.iconst 0, 1) := by decide +kernel
theorem dX8_judge_66 : decode cX8_judge 66 = .ok (.istore_n 1, 1) := by decide +kernel
theorem dX8_judge_67 : decode cX8_judge 67 = .ok (.iload_n 1, 1) := by decide +kernel
theorem dX8_judge_68 : decode cX8_judge 68 = .ok (.ifCond .eq 52, 3) := by decide +kernel
theorem dX8_judge_71 : decode cX8_judge 71 = .ok (.aload_n 0, 1) := by decide +kernel
theorem dX8_judge_72 : decode cX8_judge 72 = .ok (.aload_n 0, 1) := by decide +kernel
theorem dX8_judge_73 : decode cX8_judge 73 = .ok (.getfield 168, 3) := by decide +kernel
theorem dX8_judge_76 : decode cX8_judge 76 = .ok (.putfield 178, 3) := by decide +kernel
theorem dX8_judge_79 : decode cX8_judge 79 = .ok (.aload_n 0, 1) := by decide +kernel
theorem dX8_judge_80 : decode cX8_judge 80 = .ok (.aload_n 0, 1) := by decide +kernel
theorem dX8_judge_81 : decode cX8_judge 81 = .ok (.getfield 43, 3) := by decide +kernel
theorem dX8_judge_84 : decode cX8_judge 84 = .ok (.aload_n 0, 1) := by decide +kernel
theorem dX8_judge_85 : decode cX8_judge 85 = .ok (.getfield 168, 3) := by decide +kernel
theorem dX8_judge_88 : decode cX8_judge 88 = .ok (.iaload, 1) := by decide +kernel
theorem dX8_judge_89 : decode cX8_judge 89 = .ok (.putfield 181, 3) := by decide +kernel
theorem dX8_judge_92 : decode cX8_judge 92 = .ok (.iconst 0, 1) := by decide +kernel
theorem dX8_judge_93 : decode cX8_judge 93 = .ok (.istore_n 2, 1) := by decide +kernel
theorem dX8_judge_94 : decode cX8_judge 94 = .ok (.iload_n 2, 1) := by decide +kernel
theorem dX8_judge_95 : decode cX8_judge 95 = .ok (.aload_n 0, 1) := by decide +kernel
theorem dX8_judge_96 : decode cX8_judge 96 = .ok (.getfield 168, 3) := by decide +kernel
theorem dX8_judge_99 : decode cX8_judge 99 = .ok (.if_icmp .ge 21, 3) := by decide +kernel
theorem dX8_judge_102 : decode cX8_judge 102 = .ok (.aload_n 0, 1) := by decide +kernel
theorem dX8_judge_103 : decode cX8_judge 103 = .ok (.getfield 46, 3) := by decide +kernel
theorem dX8_judge_106 : decode cX8_judge 106 = .ok (.iload_n 2, 1) := by decide +kernel
theorem dX8_judge_107 : decode cX8_judge 107 = .ok (.aload_n 0, 1) := by decide +kernel
theorem dX8_judge_108 : decode cX8_judge 108 = .ok (.getfield 34, 3) := by decide +kernel
theorem dX8_judge_111 : decode cX8_judge 111 = .ok (.iload_n 2, 1) := by decide +kernel
theorem dX8_judge_112 : decode cX8_judge 112 = .ok (.iaload, 1) := by decide +kernel
theorem dX8_judge_113 : decode cX8_judge 113 = .ok (.iastore, 1) := by decide +kernel
theorem dX8_judge_114 : decode cX8_judge 114 = .ok (.iinc 2 1, 3) := by decide +kernel
theorem dX8_judge_117 : decode cX8_judge 117 = .ok (.goto (-23), 3) := by decide +kernel
theorem dX8_judge_120 : decode cX8_judge 120 = .ok (.return_, 1) := by decide +kernel
theorem dX8_layWays_0 : decode cX8_layWays 0 = .ok (.aload_n 0, 1) := by decide +kernel
theorem dX8_layWays_1 : decode cX8_layWays 1 = .ok (.iconst (-1), 1) := by decide +kernel
theorem dX8_layWays_2 : decode cX8_layWays 2 = .ok (.putfield 178, 3) := by decide +kernel
theorem dX8_layWays_5 : decode cX8_layWays 5 = .ok (.aload_n 0, 1) := by decide +kernel
theorem dX8_layWays_6 : decode cX8_layWays 6 = .ok (.iconst 0, 1) := by decide +kernel
theorem dX8_layWays_7 : decode cX8_layWays 7 = .ok (.putfield 181, 3) := by decide +kernel
theorem dX8_layWays_10 : decode cX8_layWays 10 = .ok (.aload_n 0, 1) := by decide +kernel
theorem dX8_layWays_11 : decode cX8_layWays 11 = .ok (.iconst 0, 1) := by decide +kernel
theorem dX8_layWays_12 : decode cX8_layWays 12 = .ok (.putfield 175, 3) := by decide +kernel
theorem dX8_layWays_15 : decode cX8_layWays 15 = .ok (.aload_n 0, 1) := by decide +kernel
theorem dX8_layWays_16 : decode cX8_layWays 16 = .ok (.aload_n 0, 1) := by decide +kernel
theorem dX8_layWays_17 : decode cX8_layWays 17 = .ok (.getfield 16, 3) := by decide +kernel
theorem dX8_layWays_20 : decode cX8_layWays 20 = .ok (.iload_n 1, 1) := by decide +kernel
theorem dX8_layWays_21 : decode cX8_layWays 21 = .ok (.laload, 1) := by decide +kernel
theorem dX8_layWays_22 : decode cX8_layWays 22 = .ok (.iload_n 2, 1) := by decide +kernel
theorem dX8_layWays_23 : decode cX8_layWays 23 = .ok (.invokevirtual 184, 3) := by decide +kernel
theorem dX8_layWays_26 : decode cX8_layWays 26 = .ok (.iconst 1, 1) := by decide +kernel
theorem dX8_layWays_27 : decode cX8_layWays 27 = .ok (.istore 4, 2) := by decide +kernel
theorem dX8_layWays_29 : decode cX8_layWays 29 = .ok (.iload 4, 2) := by decide +kernel
theorem dX8_layWays_31 : decode cX8_layWays 31 = .ok (.ifCond .eq 29, 3) := by decide +kernel
theorem dX8_layWays_34 : decode cX8_layWays 34 = .ok (.aload_n 0, 1) := by decide +kernel
theorem dX8_layWays_35 : decode cX8_layWays 35 = .ok (.getfield 37, 3) := by decide +kernel
theorem dX8_layWays_38 : decode cX8_layWays 38 = .ok (.aload_n 0, 1) := by decide +kernel
theorem dX8_layWays_39 : decode cX8_layWays 39 = .ok (.getfield 168, 3) := by decide +kernel
theorem dX8_layWays_42 : decode cX8_layWays 42 = .ok (.iaload, 1) := by decide +kernel
theorem dX8_layWays_43 : decode cX8_layWays 43 = .ok (.iload_n 3, 1) := by decide +kernel
theorem dX8_layWays_44 : decode cX8_layWays 44 = .ok (.if_icmp .ne 7, 3) := by decide +kernel
theorem dX8_layWays_47 : decode cX8_layWays 47 = .ok (.aload_n 0, 1) := by decide +kernel
theorem dX8_layWays_48 : decode cX8_layWays 48 = .ok (.invokevirtual 188, 3) := by decide +kernel
theorem dX8_layWays_51 : decode cX8_layWays 51 = .ok (.aload_n 0, 1) := by decide +kernel
theorem dX8_layWays_52 : decode cX8_layWays 52 = .ok (.invokevirtual 191, 3) := by decide +kernel
theorem dX8_layWays_55 : decode cX8_layWays 55 = .ok (.istore 4, 2) := by decide +kernel
theorem dX8_layWays_57 : decode cX8_layWays 57 = .ok (.goto (-28), 3) := by decide +kernel
theorem dX8_layWays_60 : decode cX8_layWays 60 = .ok (.return_, 1) := by decide +kernel
theorem dX8_way_0 : decode cX8_way 0 = .ok (.iload_n 1, 1) := by decide +kernel
theorem dX8_way_1 : decode cX8_way 1 = .ok (.invokestatic 148, 3) := by decide +kernel
theorem dX8_way_4 : decode cX8_way 4 = .ok (.ifCond .eq 23, 3) := by decide +kernel
theorem dX8_way_7 : decode cX8_way 7 = .ok (.iload_n 2, 1) := by decide +kernel
theorem dX8_way_8 : decode cX8_way 8 = .ok (.invokestatic 124, 3) := by decide +kernel
theorem dX8_way_11 : decode cX8_way 11 = .ok (.ifCond .eq 16, 3) := by decide +kernel
theorem dX8_way_14 : decode cX8_way 14 = .ok (.iload_n 3, 1) := by decide +kernel
theorem dX8_way_15 : decode cX8_way 15 = .ok (.invokestatic 124, 3) := by decide +kernel
theorem dX8_way_18 : decode cX8_way 18 = .ok (.ifCond .eq 9, 3) := by decide +kernel
theorem dX8_way_21 : decode cX8_way 21 = .ok (.iload 4, 2) := by decide +kernel
theorem dX8_way_23 : decode cX8_way 23 = .ok (.iconst (-1), 1) := by decide +kernel
theorem dX8_way_24 : decode cX8_way 24 = .ok (.if_icmp .ge 10, 3) := by decide +kernel
theorem dX8_way_27 : decode cX8_way 27 = .ok (.aload_n 0, 1) := by decide +kernel
theorem dX8_way_28 : decode cX8_way 28 = .ok (.bipush (-10), 2) := by decide +kernel
theorem dX8_way_30 : decode cX8_way 30 = .ok (.invokevirtual 116, 3) := by decide +kernel
theorem dX8_way_33 : decode cX8_way 33 = .ok (.ireturn, 1) := by decide +kernel
theorem dX8_way_34 : decode cX8_way 34 = .ok (.aload_n 0, 1) := by decide +kernel
theorem dX8_way_35 : decode cX8_way 35 = .ok (.iload_n 1, 1) := by decide +kernel
theorem dX8_way_36 : decode cX8_way 36 = .ok (.iload_n 2, 1) := by decide +kernel
theorem dX8_way_37 : decode cX8_way 37 = .ok (.iload_n 3, 1) := by decide +kernel
theorem dX8_way_38 : decode cX8_way 38 = .ok (.invokevirtual 195, 3) := by decide +kernel
theorem dX8_way_41 : decode cX8_way 41 = .ok (.aload_n 0, 1) := by decide +kernel
theorem dX8_way_42 : decode cX8_way 42 = .ok (.getfield 178, 3) := by decide +kernel
theorem dX8_way_45 : decode cX8_way 45 = .ok (.iconst (-1), 1) := by decide +kernel
theorem dX8_way_46 : decode cX8_way 46 = .ok (.if_icmp .ne 7, 3) := by decide +kernel
theorem dX8_way_49 : decode cX8_way 49 = .ok (.iconst (-1), 1) := by decide +kernel
theorem dX8_way_50 : decode cX8_way 50 = .ok (.goto 37, 3) := by decide +kernel
theorem dX8_way_53 : decode cX8_way 53 = .ok (.iload 4, 2) := by decide +kernel
theorem dX8_way_55 : decode cX8_way 55 = .ok (.iconst (-1), 1) := by decide +kernel
theorem dX8_way_56 : decode cX8_way 56 = .ok (.if_icmp .ne 10, 3) := by decide +kernel
theorem dX8_way_59 : decode cX8_way 59 = .ok (.aload_n 0, 1) := by decide +kernel
theorem dX8_way_60 : decode cX8_way 60 = .ok (.getfield 181, 3) := by decide +kernel
theorem dX8_way_63 : decode cX8_way 63 = .ok (.goto 24, 3) := by decide +kernel
theorem dX8_way_66 : decode cX8_way 66 = .ok (.iload 4, 2) := by decide +kernel
theorem dX8_way_68 : decode cX8_way 68 = .ok (.aload_n 0, 1) := by decide +kernel
theorem dX8_way_69 : decode cX8_way 69 = .ok (.getfield 178, 3) := by decide +kernel
theorem dX8_way_72 : decode cX8_way 72 = .ok (.if_icmp .ge 13, 3) := by decide +kernel
theorem dX8_way_75 : decode cX8_way 75 = .ok (.aload_n 0, 1) := by decide +kernel
theorem dX8_way_76 : decode cX8_way 76 = .ok (.getfield 46, 3) := by decide +kernel
theorem dX8_way_79 : decode cX8_way 79 = .ok (.iload 4, 2) := by decide +kernel
theorem dX8_way_81 : decode cX8_way 81 = .ok (.iaload, 1) := by decide +kernel
theorem dX8_way_82 : decode cX8_way 82 = .ok (.goto 5, 3) := by decide +kernel
theorem dX8_way_85 : decode cX8_way 85 = .ok (.bipush (-5), 2) := by decide +kernel
theorem dX8_way_87 : decode cX8_way 87 = .ok (.ireturn, 1) := by decide +kernel
theorem dX8_ways_0 : decode cX8_ways 0 = .ok (.iload_n 1, 1) := by decide +kernel
theorem dX8_ways_1 : decode cX8_ways 1 = .ok (.invokestatic 148, 3) := by decide +kernel
theorem dX8_ways_4 : decode cX8_ways 4 = .ok (.ifCond .eq 28, 3) := by decide +kernel
theorem dX8_ways_7 : decode cX8_ways 7 = .ok (.iload_n 2, 1) := by decide +kernel
theorem dX8_ways_8 : decode cX8_ways 8 = .ok (.invokestatic 124, 3) := by decide +kernel
theorem dX8_ways_11 : decode cX8_ways 11 = .ok (.ifCond .eq 21, 3) := by decide +kernel
theorem dX8_ways_14 : decode cX8_ways 14 = .ok (.iload_n 3, 1) := by decide +kernel
theorem dX8_ways_15 : decode cX8_ways 15 = .ok (.invokestatic 124, 3) := by decide +kernel
theorem dX8_ways_18 : decode cX8_ways 18 = .ok (.ifCond .eq 14, 3) := by decide +kernel
theorem dX8_ways_21 : decode cX8_ways 21 = .ok (.iload 4, 2) := by decide +kernel
theorem dX8_ways_23 : decode cX8_ways 23 = .ok (.i2l, 1) := by decide +kernel
theorem dX8_ways_24 : decode cX8_ways 24 = .ok (.lconst 0, 1) := by decide +kernel
theorem dX8_ways_25 : decode cX8_ways 25 = .ok (.lconst 1, 1) := by decide +kernel
theorem dX8_ways_26 : decode cX8_ways 26 = .ok (.invokestatic 106, 3) := by decide +kernel
theorem dX8_ways_29 : decode cX8_ways 29 = .ok (.ifCond .ne 10, 3) := by decide +kernel
theorem dX8_ways_32 : decode cX8_ways 32 = .ok (.aload_n 0, 1) := by decide +kernel
theorem dX8_ways_33 : decode cX8_ways 33 = .ok (.bipush (-2), 2) := by decide +kernel
theorem dX8_ways_35 : decode cX8_ways 35 = .ok (.invokevirtual 116, 3) := by decide +kernel
theorem dX8_ways_38 : decode cX8_ways 38 = .ok (.ireturn, 1) := by decide +kernel
theorem dX8_ways_39 : decode cX8_ways 39 = .ok (.aload_n 0, 1) := by decide +kernel
theorem dX8_ways_40 : decode cX8_ways 40 = .ok (.iload_n 1, 1) := by decide +kernel
theorem dX8_ways_41 : decode cX8_ways 41 = .ok (.iload_n 2, 1) := by decide +kernel
theorem dX8_ways_42 : decode cX8_ways 42 = .ok (.iload_n 3, 1) := by decide +kernel
theorem dX8_ways_43 : decode cX8_ways 43 = .ok (.invokevirtual 195, 3) := by decide +kernel
theorem dX8_ways_46 : decode cX8_ways 46 = .ok (.iload 4, 2) := by decide +kernel
theorem dX8_ways_48 : decode cX8_ways 48 = .ok (.ifCond .ne 10, 3) := by decide +kernel
theorem dX8_ways_51 : decode cX8_ways 51 = .ok (.aload_n 0, 1) := by decide +kernel
theorem dX8_ways_52 : decode cX8_ways 52 = .ok (.getfield 175, 3) := by decide +kernel
theorem dX8_ways_55 : decode cX8_ways 55 = .ok (.goto 7, 3) := by decide +kernel
theorem dX8_ways_58 : decode cX8_ways 58 = .ok (.aload_n 0, 1) := by decide +kernel
theorem dX8_ways_59 : decode cX8_ways 59 = .ok (.getfield 178, 3) := by decide +kernel
theorem dX8_ways_62 : decode cX8_ways 62 = .ok (.ireturn, 1) := by decide +kernel
theorem dX8_has_0 : decode cX8_has 0 = .ok (.iconst 0, 1) := by decide +kernel
theorem dX8_has_1 : decode cX8_has 1 = .ok (.istore 4, 2) := by decide +kernel
theorem dX8_has_3 : decode cX8_has 3 = .ok (.iconst 0, 1) := by decide +kernel
theorem dX8_has_4 : decode cX8_has 4 = .ok (.istore 5, 2) := by decide +kernel
theorem dX8_has_6 : decode cX8_has 6 = .ok (.iload 5, 2) := by decide +kernel
theorem dX8_has_8 : decode cX8_has 8 = .ok (.lload_n 2, 1) := by decide +kernel
theorem dX8_has_9 : decode cX8_has 9 = .ok (.invokestatic 71, 3) := by decide +kernel
theorem dX8_has_12 : decode cX8_has 12 = .ok (.iadd, 1) := by decide +kernel
theorem dX8_has_13 : decode cX8_has 13 = .ok (.lload_n 0, 1) := by decide +kernel
theorem dX8_has_14 : decode cX8_has 14 = .ok (.invokestatic 71, 3) := by decide +kernel
theorem dX8_has_17 : decode cX8_has 17 = .ok (.if_icmp .gt 77, 3) := by decide +kernel
theorem dX8_has_20 : decode cX8_has 20 = .ok (.iconst 1, 1) := by decide +kernel
theorem dX8_has_21 : decode cX8_has 21 = .ok (.istore 6, 2) := by decide +kernel
theorem dX8_has_23 : decode cX8_has 23 = .ok (.iconst 0, 1) := by decide +kernel
theorem dX8_has_24 : decode cX8_has 24 = .ok (.istore 7, 2) := by decide +kernel
theorem dX8_has_26 : decode cX8_has 26 = .ok (.iload 7, 2) := by decide +kernel
theorem dX8_has_28 : decode cX8_has 28 = .ok (.lload_n 2, 1) := by decide +kernel
theorem dX8_has_29 : decode cX8_has 29 = .ok (.invokestatic 71, 3) := by decide +kernel
theorem dX8_has_32 : decode cX8_has 32 = .ok (.if_icmp .ge 39, 3) := by decide +kernel
theorem dX8_has_35 : decode cX8_has 35 = .ok (.iload 6, 2) := by decide +kernel
theorem dX8_has_37 : decode cX8_has 37 = .ok (.ifCond .eq 25, 3) := by decide +kernel
theorem dX8_has_40 : decode cX8_has 40 = .ok (.lload_n 0, 1) := by decide +kernel
theorem dX8_has_41 : decode cX8_has 41 = .ok (.iload 5, 2) := by decide +kernel
theorem dX8_has_43 : decode cX8_has 43 = .ok (.iload 7, 2) := by decide +kernel
theorem dX8_has_45 : decode cX8_has 45 = .ok (.iadd, 1) := by decide +kernel
theorem dX8_has_46 : decode cX8_has 46 = .ok (.invokestatic 82, 3) := by decide +kernel
theorem dX8_has_49 : decode cX8_has 49 = .ok (.lload_n 2, 1) := by decide +kernel
theorem dX8_has_50 : decode cX8_has 50 = .ok (.iload 7, 2) := by decide +kernel
theorem dX8_has_52 : decode cX8_has 52 = .ok (.invokestatic 82, 3) := by decide +kernel
theorem dX8_has_55 : decode cX8_has 55 = .ok (.if_icmp .ne 7, 3) := by decide +kernel
theorem dX8_has_58 : decode cX8_has 58 = .ok (.iconst 1, 1) := by decide +kernel
theorem dX8_has_59 : decode cX8_has 59 = .ok (.goto 4, 3) := by decide +kernel
theorem dX8_has_62 : decode cX8_has 62 = .ok (.iconst 0, 1) := by decide +kernel
theorem dX8_has_63 : decode cX8_has 63 = .ok (.istore 6, 2) := by decide +kernel
theorem dX8_has_65 : decode cX8_has 65 = .ok (.iinc 7 1, 3) := by decide +kernel
theorem dX8_has_68 : decode cX8_has 68 = .ok (.goto (-42), 3) := by decide +kernel
theorem dX8_has_71 : decode cX8_has 71 = .ok (.iload 4, 2) := by decide +kernel
theorem dX8_has_73 : decode cX8_has 73 = .ok (.ifCond .ne 8, 3) := by decide +kernel
theorem dX8_has_76 : decode cX8_has 76 = .ok (.iload 6, 2) := by decide +kernel
theorem dX8_has_78 : decode cX8_has 78 = .ok (.ifCond .eq 7, 3) := by decide +kernel
theorem dX8_has_81 : decode cX8_has 81 = .ok (.iconst 1, 1) := by decide +kernel
theorem dX8_has_82 : decode cX8_has 82 = .ok (.goto 4, 3) := by decide +kernel
theorem dX8_has_85 : decode cX8_has 85 = .ok (.iconst 0, 1) := by decide +kernel
theorem dX8_has_86 : decode cX8_has 86 = .ok (.istore 4, 2) := by decide +kernel
theorem dX8_has_88 : decode cX8_has 88 = .ok (.iinc 5 1, 3) := by decide +kernel
theorem dX8_has_91 : decode cX8_has 91 = .ok (.goto (-85), 3) := by decide +kernel
theorem dX8_has_94 : decode cX8_has 94 = .ok (.iload 4, 2) := by decide +kernel
theorem dX8_has_96 : decode cX8_has 96 = .ok (.ireturn, 1) := by decide +kernel
theorem dX8_curse_0 : decode cX8_curse 0 = .ok (.iload_n 1, 1) := by decide +kernel
theorem dX8_curse_1 : decode cX8_curse 1 = .ok (.invokestatic 148, 3) := by decide +kernel
theorem dX8_curse_4 : decode cX8_curse 4 = .ok (.ifCond .eq 17, 3) := by decide +kernel
theorem dX8_curse_7 : decode cX8_curse 7 = .ok (.iload_n 2, 1) := by decide +kernel
theorem dX8_curse_8 : decode cX8_curse 8 = .ok (.invokestatic 148, 3) := by decide +kernel
theorem dX8_curse_11 : decode cX8_curse 11 = .ok (.ifCond .eq 10, 3) := by decide +kernel
theorem dX8_curse_14 : decode cX8_curse 14 = .ok (.iload_n 3, 1) := by decide +kernel
theorem dX8_curse_15 : decode cX8_curse 15 = .ok (.invokestatic 124, 3) := by decide +kernel
theorem dX8_curse_18 : decode cX8_curse 18 = .ok (.ifCond .ne 10, 3) := by decide +kernel
theorem dX8_curse_21 : decode cX8_curse 21 = .ok (.aload_n 0, 1) := by decide +kernel
theorem dX8_curse_22 : decode cX8_curse 22 = .ok (.bipush (-2), 2) := by decide +kernel
theorem dX8_curse_24 : decode cX8_curse 24 = .ok (.invokevirtual 116, 3) := by decide +kernel
theorem dX8_curse_27 : decode cX8_curse 27 = .ok (.ireturn, 1) := by decide +kernel
theorem dX8_curse_28 : decode cX8_curse 28 = .ok (.iconst (-1), 1) := by decide +kernel
theorem dX8_curse_29 : decode cX8_curse 29 = .ok (.istore 4, 2) := by decide +kernel
theorem dX8_curse_31 : decode cX8_curse 31 = .ok (.aload_n 0, 1) := by decide +kernel
theorem dX8_curse_32 : decode cX8_curse 32 = .ok (.aload_n 0, 1) := by decide +kernel
theorem dX8_curse_33 : decode cX8_curse 33 = .ok (.getfield 16, 3) := by decide +kernel
theorem dX8_curse_36 : decode cX8_curse 36 = .ok (.iload_n 1, 1) := by decide +kernel
theorem dX8_curse_37 : decode cX8_curse 37 = .ok (.laload, 1) := by decide +kernel
theorem dX8_curse_38 : decode cX8_curse 38 = .ok (.iload_n 3, 1) := by decide +kernel
theorem dX8_curse_39 : decode cX8_curse 39 = .ok (.invokevirtual 184, 3) := by decide +kernel
theorem dX8_curse_42 : decode cX8_curse 42 = .ok (.iconst 1, 1) := by decide +kernel
theorem dX8_curse_43 : decode cX8_curse 43 = .ok (.istore 5, 2) := by decide +kernel
theorem dX8_curse_45 : decode cX8_curse 45 = .ok (.iload 5, 2) := by decide +kernel
theorem dX8_curse_47 : decode cX8_curse 47 = .ok (.ifCond .eq 71, 3) := by decide +kernel
theorem dX8_curse_50 : decode cX8_curse 50 = .ok (.iload 4, 2) := by decide +kernel
theorem dX8_curse_52 : decode cX8_curse 52 = .ok (.iconst (-1), 1) := by decide +kernel
theorem dX8_curse_53 : decode cX8_curse 53 = .ok (.if_icmp .eq 12, 3) := by decide +kernel
theorem dX8_curse_56 : decode cX8_curse 56 = .ok (.aload_n 0, 1) := by decide +kernel
theorem dX8_curse_57 : decode cX8_curse 57 = .ok (.getfield 168, 3) := by decide +kernel
theorem dX8_curse_60 : decode cX8_curse 60 = .ok (.iload 4, 2) := by decide +kernel
theorem dX8_curse_62 : decode cX8_curse 62 = .ok (.if_icmp .ge 7, 3) := by decide +kernel
theorem dX8_curse_65 : decode cX8_curse 65 = .ok (.iconst 1, 1) := by decide +kernel
theorem dX8_curse_66 : decode cX8_curse 66 = .ok (.goto 4, 3) := by decide +kernel
theorem dX8_curse_69 : decode cX8_curse 69 = .ok (.iconst 0, 1) := by decide +kernel
theorem dX8_curse_70 : decode cX8_curse 70 = .ok (.istore 6, 2) := by decide +kernel
theorem dX8_curse_72 : decode cX8_curse 72 = .ok (.iload 6, 2) := by decide +kernel
theorem dX8_curse_74 : decode cX8_curse 74 = .ok (.ifCond .eq 31, 3) := by decide +kernel
theorem dX8_curse_77 : decode cX8_curse 77 = .ok (.aload_n 0, 1) := by decide +kernel
theorem dX8_curse_78 : decode cX8_curse 78 = .ok (.getfield 40, 3) := by decide +kernel
theorem dX8_curse_81 : decode cX8_curse 81 = .ok (.aload_n 0, 1) := by decide +kernel
theorem dX8_curse_82 : decode cX8_curse 82 = .ok (.getfield 168, 3) := by decide +kernel
theorem dX8_curse_85 : decode cX8_curse 85 = .ok (.laload, 1) := by decide +kernel
theorem dX8_curse_86 : decode cX8_curse 86 = .ok (.aload_n 0, 1) := by decide +kernel
theorem dX8_curse_87 : decode cX8_curse 87 = .ok (.getfield 16, 3) := by decide +kernel
theorem dX8_curse_90 : decode cX8_curse 90 = .ok (.iload_n 2, 1) := by decide +kernel
theorem dX8_curse_91 : decode cX8_curse 91 = .ok (.laload, 1) := by decide +kernel
theorem dX8_curse_92 : decode cX8_curse 92 = .ok (.invokestatic 199, 3) := by decide +kernel
theorem dX8_curse_95 : decode cX8_curse 95 = .ok (.ifCond .eq 10, 3) := by decide +kernel
theorem dX8_curse_98 : decode cX8_curse 98 = .ok (.aload_n 0, 1) := by decide +kernel
theorem dX8_curse_99 : decode cX8_curse 99 = .ok (.getfield 168, 3) := by decide +kernel
theorem dX8_curse_102 : decode cX8_curse 102 = .ok (.goto 5, 3) := by decide +kernel
theorem dX8_curse_105 : decode cX8_curse 105 = .ok (.iload 4, 2) := by decide +kernel
theorem dX8_curse_107 : decode cX8_curse 107 = .ok (.istore 4, 2) := by decide +kernel
theorem dX8_curse_109 : decode cX8_curse 109 = .ok (.aload_n 0, 1) := by decide +kernel
theorem dX8_curse_110 : decode cX8_curse 110 = .ok (.invokevirtual 191, 3) := by decide +kernel
theorem dX8_curse_113 : decode cX8_curse 113 = .ok (.istore 5, 2) := by decide +kernel
theorem dX8_curse_115 : decode cX8_curse 115 = .ok (.goto (-70), 3) := by decide +kernel
theorem dX8_curse_118 : decode cX8_curse 118 = .ok (.iload 4, 2) := by decide +kernel
theorem dX8_curse_120 : decode cX8_curse 120 = .ok (.ireturn, 1) := by decide +kernel
theorem dX8_nameOf_0 : decode cX8_nameOf 0 = .ok (.lconst 0, 1) := by decide +kernel
theorem dX8_nameOf_1 : decode cX8_nameOf 1 = .ok (.lstore_n 1, 1) := by decide +kernel
theorem dX8_nameOf_2 : decode cX8_nameOf 2 = .ok (.iload_n 0, 1) := by decide +kernel
theorem dX8_nameOf_3 : decode cX8_nameOf 3 = .ok (.bipush 16, 2) := by decide +kernel
theorem dX8_nameOf_5 : decode cX8_nameOf 5 = .ok (.if_icmp .le 26, 3) := by decide +kernel
theorem dX8_nameOf_8 : decode cX8_nameOf 8 = .ok (.lload_n 1, 1) := by decide +kernel
theorem dX8_nameOf_9 : decode cX8_nameOf 9 = .ok (.iload_n 0, 1) := by decide +kernel
theorem dX8_nameOf_10 : decode cX8_nameOf 10 = .ok (.bipush 17, 2) := by decide +kernel
theorem dX8_nameOf_12 : decode cX8_nameOf 12 = .ok (.idiv, 1) := by decide +kernel
theorem dX8_nameOf_13 : decode cX8_nameOf 13 = .ok (.iconst 1, 1) := by decide +kernel
theorem dX8_nameOf_14 : decode cX8_nameOf 14 = .ok (.isub, 1) := by decide +kernel
theorem dX8_nameOf_15 : decode cX8_nameOf 15 = .ok (.invokestatic 79, 3) := by decide +kernel
theorem dX8_nameOf_18 : decode cX8_nameOf 18 = .ok (.iload_n 0, 1) := by decide +kernel
theorem dX8_nameOf_19 : decode cX8_nameOf 19 = .ok (.bipush 17, 2) := by decide +kernel
theorem dX8_nameOf_21 : decode cX8_nameOf 21 = .ok (.irem, 1) := by decide +kernel
theorem dX8_nameOf_22 : decode cX8_nameOf 22 = .ok (.iconst 1, 1) := by decide +kernel
theorem dX8_nameOf_23 : decode cX8_nameOf 23 = .ok (.isub, 1) := by decide +kernel
theorem dX8_nameOf_24 : decode cX8_nameOf 24 = .ok (.invokestatic 79, 3) := by decide +kernel
theorem dX8_nameOf_27 : decode cX8_nameOf 27 = .ok (.lstore_n 1, 1) := by decide +kernel
theorem dX8_nameOf_28 : decode cX8_nameOf 28 = .ok (.goto 15, 3) := by decide +kernel
theorem dX8_nameOf_31 : decode cX8_nameOf 31 = .ok (.iload_n 0, 1) := by decide +kernel
theorem dX8_nameOf_32 : decode cX8_nameOf 32 = .ok (.ifCond .le 11, 3) := by decide +kernel
theorem dX8_nameOf_35 : decode cX8_nameOf 35 = .ok (.lload_n 1, 1) := by decide +kernel
theorem dX8_nameOf_36 : decode cX8_nameOf 36 = .ok (.iload_n 0, 1) := by decide +kernel
theorem dX8_nameOf_37 : decode cX8_nameOf 37 = .ok (.iconst 1, 1) := by decide +kernel
theorem dX8_nameOf_38 : decode cX8_nameOf 38 = .ok (.isub, 1) := by decide +kernel
theorem dX8_nameOf_39 : decode cX8_nameOf 39 = .ok (.invokestatic 79, 3) := by decide +kernel
theorem dX8_nameOf_42 : decode cX8_nameOf 42 = .ok (.lstore_n 1, 1) := by decide +kernel
theorem dX8_nameOf_43 : decode cX8_nameOf 43 = .ok (.lload_n 1, 1) := by decide +kernel
theorem dX8_nameOf_44 : decode cX8_nameOf 44 = .ok (.lreturn, 1) := by decide +kernel
theorem dX8_above_0 : decode cX8_above 0 = .ok (.aload_n 0, 1) := by decide +kernel
theorem dX8_above_1 : decode cX8_above 1 = .ok (.iload_n 1, 1) := by decide +kernel
theorem dX8_above_2 : decode cX8_above 2 = .ok (.invokevirtual 139, 3) := by decide +kernel
theorem dX8_above_5 : decode cX8_above 5 = .ok (.ifCond .eq 20, 3) := by decide +kernel
theorem dX8_above_8 : decode cX8_above 8 = .ok (.iload_n 2, 1) := by decide +kernel
theorem dX8_above_9 : decode cX8_above 9 = .ok (.invokestatic 148, 3) := by decide +kernel
theorem dX8_above_12 : decode cX8_above 12 = .ok (.ifCond .eq 13, 3) := by decide +kernel
theorem dX8_above_15 : decode cX8_above 15 = .ok (.iload_n 3, 1) := by decide +kernel
theorem dX8_above_16 : decode cX8_above 16 = .ok (.i2l, 1) := by decide +kernel
theorem dX8_above_17 : decode cX8_above 17 = .ok (.lconst 0, 1) := by decide +kernel
theorem dX8_above_18 : decode cX8_above 18 = .ok (.lconst 1, 1) := by decide +kernel
theorem dX8_above_19 : decode cX8_above 19 = .ok (.invokestatic 106, 3) := by decide +kernel
theorem dX8_above_22 : decode cX8_above 22 = .ok (.ifCond .ne 10, 3) := by decide +kernel
theorem dX8_above_25 : decode cX8_above 25 = .ok (.aload_n 0, 1) := by decide +kernel
theorem dX8_above_26 : decode cX8_above 26 = .ok (.bipush (-10), 2) := by decide +kernel
theorem dX8_above_28 : decode cX8_above 28 = .ok (.invokevirtual 116, 3) := by decide +kernel
theorem dX8_above_31 : decode cX8_above 31 = .ok (.ireturn, 1) := by decide +kernel
theorem dX8_above_32 : decode cX8_above 32 = .ok (.iconst 0, 1) := by decide +kernel
theorem dX8_above_33 : decode cX8_above 33 = .ok (.istore 4, 2) := by decide +kernel
theorem dX8_above_35 : decode cX8_above 35 = .ok (.iconst (-1), 1) := by decide +kernel
theorem dX8_above_36 : decode cX8_above 36 = .ok (.istore 5, 2) := by decide +kernel
theorem dX8_above_38 : decode cX8_above 38 = .ok (.iconst 0, 1) := by decide +kernel
theorem dX8_above_39 : decode cX8_above 39 = .ok (.istore 6, 2) := by decide +kernel
theorem dX8_above_41 : decode cX8_above 41 = .ok (.iload 6, 2) := by decide +kernel
theorem dX8_above_43 : decode cX8_above 43 = .ok (.sipush 289, 3) := by decide +kernel
theorem dX8_above_46 : decode cX8_above 46 = .ok (.if_icmp .ge 73, 3) := by decide +kernel
theorem dX8_above_49 : decode cX8_above 49 = .ok (.iload 6, 2) := by decide +kernel
theorem dX8_above_51 : decode cX8_above 51 = .ok (.bipush 17, 2) := by decide +kernel
theorem dX8_above_53 : decode cX8_above 53 = .ok (.if_icmp .lt 11, 3) := by decide +kernel
theorem dX8_above_56 : decode cX8_above 56 = .ok (.iload 6, 2) := by decide +kernel
theorem dX8_above_58 : decode cX8_above 58 = .ok (.bipush 17, 2) := by decide +kernel
theorem dX8_above_60 : decode cX8_above 60 = .ok (.irem, 1) := by decide +kernel
theorem dX8_above_61 : decode cX8_above 61 = .ok (.ifCond .le 7, 3) := by decide +kernel
theorem dX8_above_64 : decode cX8_above 64 = .ok (.iconst 1, 1) := by decide +kernel
theorem dX8_above_65 : decode cX8_above 65 = .ok (.goto 4, 3) := by decide +kernel
theorem dX8_above_68 : decode cX8_above 68 = .ok (.iconst 0, 1) := by decide +kernel
theorem dX8_above_69 : decode cX8_above 69 = .ok (.istore 7, 2) := by decide +kernel
theorem dX8_above_71 : decode cX8_above 71 = .ok (.iload 7, 2) := by decide +kernel
theorem dX8_above_73 : decode cX8_above 73 = .ok (.ifCond .eq 40, 3) := by decide +kernel
theorem dX8_above_76 : decode cX8_above 76 = .ok (.aload_n 0, 1) := by decide +kernel
theorem dX8_above_77 : decode cX8_above 77 = .ok (.iload_n 1, 1) := by decide +kernel
theorem dX8_above_78 : decode cX8_above 78 = .ok (.iload 6, 2) := by decide +kernel
theorem dX8_above_80 : decode cX8_above 80 = .ok (.invokestatic 203, 3) := by decide +kernel
theorem dX8_above_83 : decode cX8_above 83 = .ok (.invokevirtual 158, 3) := by decide +kernel
theorem dX8_above_86 : decode cX8_above 86 = .ok (.aload_n 0, 1) := by decide +kernel
theorem dX8_above_87 : decode cX8_above 87 = .ok (.getfield 16, 3) := by decide +kernel
theorem dX8_above_90 : decode cX8_above 90 = .ok (.iload_n 2, 1) := by decide +kernel
theorem dX8_above_91 : decode cX8_above 91 = .ok (.laload, 1) := by decide +kernel
theorem dX8_above_92 : decode cX8_above 92 = .ok (.lcmp, 1) := by decide +kernel
theorem dX8_above_93 : decode cX8_above 93 = .ok (.ifCond .ne 20, 3) := by decide +kernel
theorem dX8_above_96 : decode cX8_above 96 = .ok (.iload 4, 2) := by decide +kernel
theorem dX8_above_98 : decode cX8_above 98 = .ok (.ifCond .ne 8, 3) := by decide +kernel
theorem dX8_above_101 : decode cX8_above 101 = .ok (.iload 6, 2) := by decide +kernel
theorem dX8_above_103 : decode cX8_above 103 = .ok (.goto 5, 3) := by decide +kernel
theorem dX8_above_106 : decode cX8_above 106 = .ok (.iload 5, 2) := by decide +kernel
theorem dX8_above_108 : decode cX8_above 108 = .ok (.istore 5, 2) := by decide +kernel
theorem dX8_above_110 : decode cX8_above 110 = .ok (.iinc 4 1, 3) := by decide +kernel
theorem dX8_above_113 : decode cX8_above 113 = .ok (.iinc 6 1, 3) := by decide +kernel
theorem dX8_above_116 : decode cX8_above 116 = .ok (.goto (-75), 3) := by decide +kernel
theorem dX8_above_119 : decode cX8_above 119 = .ok (.iload_n 3, 1) := by decide +kernel
theorem dX8_above_120 : decode cX8_above 120 = .ok (.ifCond .ne 8, 3) := by decide +kernel
theorem dX8_above_123 : decode cX8_above 123 = .ok (.iload 4, 2) := by decide +kernel
theorem dX8_above_125 : decode cX8_above 125 = .ok (.goto 5, 3) := by decide +kernel
theorem dX8_above_128 : decode cX8_above 128 = .ok (.iload 5, 2) := by decide +kernel
theorem dX8_above_130 : decode cX8_above 130 = .ok (.ireturn, 1) := by decide +kernel
theorem dX8_note_0 : decode cX8_note 0 = .ok (.aload_n 0, 1) := by decide +kernel
theorem dX8_note_1 : decode cX8_note 1 = .ok (.iload_n 1, 1) := by decide +kernel
theorem dX8_note_2 : decode cX8_note 2 = .ok (.invokevirtual 139, 3) := by decide +kernel
theorem dX8_note_5 : decode cX8_note 5 = .ok (.ifCond .eq 17, 3) := by decide +kernel
theorem dX8_note_8 : decode cX8_note 8 = .ok (.iload_n 2, 1) := by decide +kernel
theorem dX8_note_9 : decode cX8_note 9 = .ok (.invokestatic 148, 3) := by decide +kernel
theorem dX8_note_12 : decode cX8_note 12 = .ok (.ifCond .eq 10, 3) := by decide +kernel
theorem dX8_note_15 : decode cX8_note 15 = .ok (.iload_n 3, 1) := by decide +kernel
theorem dX8_note_16 : decode cX8_note 16 = .ok (.invokestatic 148, 3) := by decide +kernel
theorem dX8_note_19 : decode cX8_note 19 = .ok (.ifCond .ne 10, 3) := by decide +kernel
theorem dX8_note_22 : decode cX8_note 22 = .ok (.aload_n 0, 1) := by decide +kernel
theorem dX8_note_23 : decode cX8_note 23 = .ok (.bipush (-2), 2) := by decide +kernel
theorem dX8_note_25 : decode cX8_note 25 = .ok (.invokevirtual 116, 3) := by decide +kernel
theorem dX8_note_28 : decode cX8_note 28 = .ok (.ireturn, 1) := by decide +kernel
theorem dX8_note_29 : decode cX8_note 29 = .ok (.aload_n 0, 1) := by decide +kernel
theorem dX8_note_30 : decode cX8_note 30 = .ok (.getfield 7, 3) := by decide +kernel
theorem dX8_note_33 : decode cX8_note 33 = .ok (.iconst 2, 1) := by decide +kernel
theorem dX8_note_34 : decode cX8_note 34 = .ok (.iaload, 1) := by decide +kernel
theorem dX8_note_35 : decode cX8_note 35 = .ok (.bipush 8, 2) := by decide +kernel
theorem dX8_note_37 : decode cX8_note 37 = .ok (.if_icmp .ne 8, 3) := by decide +kernel
theorem dX8_note_40 : decode cX8_note 40 = .ok (.aload_n 0, 1) := by decide +kernel
theorem dX8_note_41 : decode cX8_note 41 = .ok (.invokevirtual 128, 3) := by decide +kernel
theorem dX8_note_44 : decode cX8_note 44 = .ok (.ireturn, 1) := by decide +kernel
theorem dX8_note_45 : decode cX8_note 45 = .ok (.aload_n 0, 1) := by decide +kernel
theorem dX8_note_46 : decode cX8_note 46 = .ok (.getfield 7, 3) := by decide +kernel
theorem dX8_note_49 : decode cX8_note 49 = .ok (.iconst 2, 1) := by decide +kernel
theorem dX8_note_50 : decode cX8_note 50 = .ok (.iaload, 1) := by decide +kernel
theorem dX8_note_51 : decode cX8_note 51 = .ok (.istore 4, 2) := by decide +kernel
theorem dX8_note_53 : decode cX8_note 53 = .ok (.aload_n 0, 1) := by decide +kernel
theorem dX8_note_54 : decode cX8_note 54 = .ok (.getfield 7, 3) := by decide +kernel
theorem dX8_note_57 : decode cX8_note 57 = .ok (.bipush 36, 2) := by decide +kernel
theorem dX8_note_59 : decode cX8_note 59 = .ok (.iconst 2, 1) := by decide +kernel
theorem dX8_note_60 : decode cX8_note 60 = .ok (.iload 4, 2) := by decide +kernel
theorem dX8_note_62 : decode cX8_note 62 = .ok (.imul, 1) := by decide +kernel
theorem dX8_note_63 : decode cX8_note 63 = .ok (.iadd, 1) := by decide +kernel
theorem dX8_note_64 : decode cX8_note 64 = .ok (.iload_n 1, 1) := by decide +kernel
theorem dX8_note_65 : decode cX8_note 65 = .ok (.iastore, 1) := by decide +kernel
theorem dX8_note_66 : decode cX8_note 66 = .ok (.aload_n 0, 1) := by decide +kernel
theorem dX8_note_67 : decode cX8_note 67 = .ok (.getfield 7, 3) := by decide +kernel
theorem dX8_note_70 : decode cX8_note 70 = .ok (.bipush 36, 2) := by decide +kernel
theorem dX8_note_72 : decode cX8_note 72 = .ok (.iconst 2, 1) := by decide +kernel
