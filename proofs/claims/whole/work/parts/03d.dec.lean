theorem dX8_note_73 : decode cX8_note 73 = .ok (.iload 4, 2) := by decide +kernel
theorem dX8_note_75 : decode cX8_note 75 = .ok (.imul, 1) := by decide +kernel
theorem dX8_note_76 : decode cX8_note 76 = .ok (.iadd, 1) := by decide +kernel
theorem dX8_note_77 : decode cX8_note 77 = .ok (.iconst 1, 1) := by decide +kernel
theorem dX8_note_78 : decode cX8_note 78 = .ok (.iadd, 1) := by decide +kernel
theorem dX8_note_79 : decode cX8_note 79 = .ok (.aload_n 0, 1) := by decide +kernel
theorem dX8_note_80 : decode cX8_note 80 = .ok (.getfield 7, 3) := by decide +kernel
theorem dX8_note_83 : decode cX8_note 83 = .ok (.iconst 1, 1) := by decide +kernel
theorem dX8_note_84 : decode cX8_note 84 = .ok (.iaload, 1) := by decide +kernel
theorem dX8_note_85 : decode cX8_note 85 = .ok (.iastore, 1) := by decide +kernel
theorem dX8_note_86 : decode cX8_note 86 = .ok (.aload_n 0, 1) := by decide +kernel
theorem dX8_note_87 : decode cX8_note 87 = .ok (.getfield 16, 3) := by decide +kernel
theorem dX8_note_90 : decode cX8_note 90 = .ok (.iconst 4, 1) := by decide +kernel
theorem dX8_note_91 : decode cX8_note 91 = .ok (.iconst 2, 1) := by decide +kernel
theorem dX8_note_92 : decode cX8_note 92 = .ok (.iload 4, 2) := by decide +kernel
theorem dX8_note_94 : decode cX8_note 94 = .ok (.imul, 1) := by decide +kernel
theorem dX8_note_95 : decode cX8_note 95 = .ok (.iadd, 1) := by decide +kernel
theorem dX8_note_96 : decode cX8_note 96 = .ok (.aload_n 0, 1) := by decide +kernel
theorem dX8_note_97 : decode cX8_note 97 = .ok (.getfield 16, 3) := by decide +kernel
theorem dX8_note_100 : decode cX8_note 100 = .ok (.iload_n 2, 1) := by decide +kernel
theorem dX8_note_101 : decode cX8_note 101 = .ok (.laload, 1) := by decide +kernel
theorem dX8_note_102 : decode cX8_note 102 = .ok (.lastore, 1) := by decide +kernel
theorem dX8_note_103 : decode cX8_note 103 = .ok (.aload_n 0, 1) := by decide +kernel
theorem dX8_note_104 : decode cX8_note 104 = .ok (.getfield 16, 3) := by decide +kernel
theorem dX8_note_107 : decode cX8_note 107 = .ok (.iconst 4, 1) := by decide +kernel
theorem dX8_note_108 : decode cX8_note 108 = .ok (.iconst 2, 1) := by decide +kernel
theorem dX8_note_109 : decode cX8_note 109 = .ok (.iload 4, 2) := by decide +kernel
theorem dX8_note_111 : decode cX8_note 111 = .ok (.imul, 1) := by decide +kernel
theorem dX8_note_112 : decode cX8_note 112 = .ok (.iadd, 1) := by decide +kernel
theorem dX8_note_113 : decode cX8_note 113 = .ok (.iconst 1, 1) := by decide +kernel
theorem dX8_note_114 : decode cX8_note 114 = .ok (.iadd, 1) := by decide +kernel
theorem dX8_note_115 : decode cX8_note 115 = .ok (.aload_n 0, 1) := by decide +kernel
theorem dX8_note_116 : decode cX8_note 116 = .ok (.getfield 16, 3) := by decide +kernel
theorem dX8_note_119 : decode cX8_note 119 = .ok (.iload_n 3, 1) := by decide +kernel
theorem dX8_note_120 : decode cX8_note 120 = .ok (.laload, 1) := by decide +kernel
theorem dX8_note_121 : decode cX8_note 121 = .ok (.lastore, 1) := by decide +kernel
theorem dX8_note_122 : decode cX8_note 122 = .ok (.aload_n 0, 1) := by decide +kernel
theorem dX8_note_123 : decode cX8_note 123 = .ok (.getfield 7, 3) := by decide +kernel
theorem dX8_note_126 : decode cX8_note 126 = .ok (.iconst 2, 1) := by decide +kernel
theorem dX8_note_127 : decode cX8_note 127 = .ok (.dup2, 1) := by decide +kernel
theorem dX8_note_128 : decode cX8_note 128 = .ok (.iaload, 1) := by decide +kernel
theorem dX8_note_129 : decode cX8_note 129 = .ok (.iconst 1, 1) := by decide +kernel
theorem dX8_note_130 : decode cX8_note 130 = .ok (.iadd, 1) := by decide +kernel
theorem dX8_note_131 : decode cX8_note 131 = .ok (.iastore, 1) := by decide +kernel
theorem dX8_note_132 : decode cX8_note 132 = .ok (.aload_n 0, 1) := by decide +kernel
theorem dX8_note_133 : decode cX8_note 133 = .ok (.getfield 7, 3) := by decide +kernel
theorem dX8_note_136 : decode cX8_note 136 = .ok (.iconst 2, 1) := by decide +kernel
theorem dX8_note_137 : decode cX8_note 137 = .ok (.iaload, 1) := by decide +kernel
theorem dX8_note_138 : decode cX8_note 138 = .ok (.ireturn, 1) := by decide +kernel
theorem dX8_forget_0 : decode cX8_forget 0 = .ok (.aload_n 0, 1) := by decide +kernel
theorem dX8_forget_1 : decode cX8_forget 1 = .ok (.getfield 7, 3) := by decide +kernel
theorem dX8_forget_4 : decode cX8_forget 4 = .ok (.iconst 2, 1) := by decide +kernel
theorem dX8_forget_5 : decode cX8_forget 5 = .ok (.iaload, 1) := by decide +kernel
theorem dX8_forget_6 : decode cX8_forget 6 = .ok (.istore_n 1, 1) := by decide +kernel
theorem dX8_forget_7 : decode cX8_forget 7 = .ok (.aload_n 0, 1) := by decide +kernel
theorem dX8_forget_8 : decode cX8_forget 8 = .ok (.getfield 7, 3) := by decide +kernel
theorem dX8_forget_11 : decode cX8_forget 11 = .ok (.iconst 2, 1) := by decide +kernel
theorem dX8_forget_12 : decode cX8_forget 12 = .ok (.iconst 0, 1) := by decide +kernel
theorem dX8_forget_13 : decode cX8_forget 13 = .ok (.iastore, 1) := by decide +kernel
theorem dX8_forget_14 : decode cX8_forget 14 = .ok (.iload_n 1, 1) := by decide +kernel
theorem dX8_forget_15 : decode cX8_forget 15 = .ok (.ireturn, 1) := by decide +kernel
theorem dX8_doesFit_0 : decode cX8_doesFit 0 = .ok (.iconst 1, 1) := by decide +kernel
theorem dX8_doesFit_1 : decode cX8_doesFit 1 = .ok (.istore_n 3, 1) := by decide +kernel
theorem dX8_doesFit_2 : decode cX8_doesFit 2 = .ok (.iconst 0, 1) := by decide +kernel
theorem dX8_doesFit_3 : decode cX8_doesFit 3 = .ok (.istore 4, 2) := by decide +kernel
theorem dX8_doesFit_5 : decode cX8_doesFit 5 = .ok (.iload 4, 2) := by decide +kernel
theorem dX8_doesFit_7 : decode cX8_doesFit 7 = .ok (.aload_n 0, 1) := by decide +kernel
theorem dX8_doesFit_8 : decode cX8_doesFit 8 = .ok (.getfield 7, 3) := by decide +kernel
theorem dX8_doesFit_11 : decode cX8_doesFit 11 = .ok (.iconst 2, 1) := by decide +kernel
theorem dX8_doesFit_12 : decode cX8_doesFit 12 = .ok (.iaload, 1) := by decide +kernel
theorem dX8_doesFit_13 : decode cX8_doesFit 13 = .ok (.if_icmp .ge 100, 3) := by decide +kernel
theorem dX8_doesFit_16 : decode cX8_doesFit 16 = .ok (.aload_n 0, 1) := by decide +kernel
theorem dX8_doesFit_17 : decode cX8_doesFit 17 = .ok (.getfield 7, 3) := by decide +kernel
theorem dX8_doesFit_20 : decode cX8_doesFit 20 = .ok (.bipush 36, 2) := by decide +kernel
theorem dX8_doesFit_22 : decode cX8_doesFit 22 = .ok (.iconst 2, 1) := by decide +kernel
theorem dX8_doesFit_23 : decode cX8_doesFit 23 = .ok (.iload 4, 2) := by decide +kernel
theorem dX8_doesFit_25 : decode cX8_doesFit 25 = .ok (.imul, 1) := by decide +kernel
theorem dX8_doesFit_26 : decode cX8_doesFit 26 = .ok (.iadd, 1) := by decide +kernel
theorem dX8_doesFit_27 : decode cX8_doesFit 27 = .ok (.iaload, 1) := by decide +kernel
theorem dX8_doesFit_28 : decode cX8_doesFit 28 = .ok (.iload_n 1, 1) := by decide +kernel
theorem dX8_doesFit_29 : decode cX8_doesFit 29 = .ok (.if_icmp .ne 7, 3) := by decide +kernel
theorem dX8_doesFit_32 : decode cX8_doesFit 32 = .ok (.iconst 1, 1) := by decide +kernel
theorem dX8_doesFit_33 : decode cX8_doesFit 33 = .ok (.goto 4, 3) := by decide +kernel
theorem dX8_doesFit_36 : decode cX8_doesFit 36 = .ok (.iconst 0, 1) := by decide +kernel
theorem dX8_doesFit_37 : decode cX8_doesFit 37 = .ok (.istore 5, 2) := by decide +kernel
theorem dX8_doesFit_39 : decode cX8_doesFit 39 = .ok (.iload_n 3, 1) := by decide +kernel
theorem dX8_doesFit_40 : decode cX8_doesFit 40 = .ok (.ifCond .eq 65, 3) := by decide +kernel
theorem dX8_doesFit_43 : decode cX8_doesFit 43 = .ok (.iload 5, 2) := by decide +kernel
theorem dX8_doesFit_45 : decode cX8_doesFit 45 = .ok (.ifCond .eq 56, 3) := by decide +kernel
theorem dX8_doesFit_48 : decode cX8_doesFit 48 = .ok (.iload_n 2, 1) := by decide +kernel
theorem dX8_doesFit_49 : decode cX8_doesFit 49 = .ok (.bipush 16, 2) := by decide +kernel
theorem dX8_doesFit_51 : decode cX8_doesFit 51 = .ok (.idiv, 1) := by decide +kernel
theorem dX8_doesFit_52 : decode cX8_doesFit 52 = .ok (.iload_n 2, 1) := by decide +kernel
theorem dX8_doesFit_53 : decode cX8_doesFit 53 = .ok (.bipush 16, 2) := by decide +kernel
theorem dX8_doesFit_55 : decode cX8_doesFit 55 = .ok (.irem, 1) := by decide +kernel
theorem dX8_doesFit_56 : decode cX8_doesFit 56 = .ok (.aload_n 0, 1) := by decide +kernel
theorem dX8_doesFit_57 : decode cX8_doesFit 57 = .ok (.getfield 7, 3) := by decide +kernel
theorem dX8_doesFit_60 : decode cX8_doesFit 60 = .ok (.bipush 36, 2) := by decide +kernel
theorem dX8_doesFit_62 : decode cX8_doesFit 62 = .ok (.iconst 2, 1) := by decide +kernel
theorem dX8_doesFit_63 : decode cX8_doesFit 63 = .ok (.iload 4, 2) := by decide +kernel
theorem dX8_doesFit_65 : decode cX8_doesFit 65 = .ok (.imul, 1) := by decide +kernel
theorem dX8_doesFit_66 : decode cX8_doesFit 66 = .ok (.iadd, 1) := by decide +kernel
theorem dX8_doesFit_67 : decode cX8_doesFit 67 = .ok (.iconst 1, 1) := by decide +kernel
theorem dX8_doesFit_68 : decode cX8_doesFit 68 = .ok (.iadd, 1) := by decide +kernel
theorem dX8_doesFit_69 : decode cX8_doesFit 69 = .ok (.iaload, 1) := by decide +kernel
theorem dX8_doesFit_70 : decode cX8_doesFit 70 = .ok (.aload_n 0, 1) := by decide +kernel
theorem dX8_doesFit_71 : decode cX8_doesFit 71 = .ok (.getfield 16, 3) := by decide +kernel
theorem dX8_doesFit_74 : decode cX8_doesFit 74 = .ok (.iconst 4, 1) := by decide +kernel
theorem dX8_doesFit_75 : decode cX8_doesFit 75 = .ok (.iconst 2, 1) := by decide +kernel
theorem dX8_doesFit_76 : decode cX8_doesFit 76 = .ok (.iload 4, 2) := by decide +kernel
theorem dX8_doesFit_78 : decode cX8_doesFit 78 = .ok (.imul, 1) := by decide +kernel
theorem dX8_doesFit_79 : decode cX8_doesFit 79 = .ok (.iadd, 1) := by decide +kernel
theorem dX8_doesFit_80 : decode cX8_doesFit 80 = .ok (.laload, 1) := by decide +kernel
theorem dX8_doesFit_81 : decode cX8_doesFit 81 = .ok (.invokestatic 154, 3) := by decide +kernel
theorem dX8_doesFit_84 : decode cX8_doesFit 84 = .ok (.aload_n 0, 1) := by decide +kernel
theorem dX8_doesFit_85 : decode cX8_doesFit 85 = .ok (.getfield 16, 3) := by decide +kernel
theorem dX8_doesFit_88 : decode cX8_doesFit 88 = .ok (.iconst 4, 1) := by decide +kernel
theorem dX8_doesFit_89 : decode cX8_doesFit 89 = .ok (.iconst 2, 1) := by decide +kernel
theorem dX8_doesFit_90 : decode cX8_doesFit 90 = .ok (.iload 4, 2) := by decide +kernel
theorem dX8_doesFit_92 : decode cX8_doesFit 92 = .ok (.imul, 1) := by decide +kernel
theorem dX8_doesFit_93 : decode cX8_doesFit 93 = .ok (.iadd, 1) := by decide +kernel
theorem dX8_doesFit_94 : decode cX8_doesFit 94 = .ok (.iconst 1, 1) := by decide +kernel
theorem dX8_doesFit_95 : decode cX8_doesFit 95 = .ok (.iadd, 1) := by decide +kernel
theorem dX8_doesFit_96 : decode cX8_doesFit 96 = .ok (.laload, 1) := by decide +kernel
theorem dX8_doesFit_97 : decode cX8_doesFit 97 = .ok (.lcmp, 1) := by decide +kernel
theorem dX8_doesFit_98 : decode cX8_doesFit 98 = .ok (.ifCond .ne 7, 3) := by decide +kernel
theorem dX8_doesFit_101 : decode cX8_doesFit 101 = .ok (.iconst 1, 1) := by decide +kernel
theorem dX8_doesFit_102 : decode cX8_doesFit 102 = .ok (.goto 4, 3) := by decide +kernel
theorem dX8_doesFit_105 : decode cX8_doesFit 105 = .ok (.iconst 0, 1) := by decide +kernel
theorem dX8_doesFit_106 : decode cX8_doesFit 106 = .ok (.istore_n 3, 1) := by decide +kernel
theorem dX8_doesFit_107 : decode cX8_doesFit 107 = .ok (.iinc 4 1, 3) := by decide +kernel
theorem dX8_doesFit_110 : decode cX8_doesFit 110 = .ok (.goto (-105), 3) := by decide +kernel
theorem dX8_doesFit_113 : decode cX8_doesFit 113 = .ok (.iload_n 3, 1) := by decide +kernel
theorem dX8_doesFit_114 : decode cX8_doesFit 114 = .ok (.ireturn, 1) := by decide +kernel
theorem dX8_fits_0 : decode cX8_fits 0 = .ok (.aload_n 0, 1) := by decide +kernel
theorem dX8_fits_1 : decode cX8_fits 1 = .ok (.iload_n 1, 1) := by decide +kernel
theorem dX8_fits_2 : decode cX8_fits 2 = .ok (.invokevirtual 139, 3) := by decide +kernel
theorem dX8_fits_5 : decode cX8_fits 5 = .ok (.ifCond .eq 13, 3) := by decide +kernel
theorem dX8_fits_8 : decode cX8_fits 8 = .ok (.iload_n 2, 1) := by decide +kernel
theorem dX8_fits_9 : decode cX8_fits 9 = .ok (.i2l, 1) := by decide +kernel
theorem dX8_fits_10 : decode cX8_fits 10 = .ok (.lconst 0, 1) := by decide +kernel
theorem dX8_fits_11 : decode cX8_fits 11 = .ok (.lconst 1, 1) := by decide +kernel
theorem dX8_fits_12 : decode cX8_fits 12 = .ok (.invokestatic 106, 3) := by decide +kernel
theorem dX8_fits_15 : decode cX8_fits 15 = .ok (.ifCond .ne 10, 3) := by decide +kernel
theorem dX8_fits_18 : decode cX8_fits 18 = .ok (.aload_n 0, 1) := by decide +kernel
theorem dX8_fits_19 : decode cX8_fits 19 = .ok (.bipush (-10), 2) := by decide +kernel
theorem dX8_fits_21 : decode cX8_fits 21 = .ok (.invokevirtual 116, 3) := by decide +kernel
theorem dX8_fits_24 : decode cX8_fits 24 = .ok (.ireturn, 1) := by decide +kernel
theorem dX8_fits_25 : decode cX8_fits 25 = .ok (.iconst 0, 1) := by decide +kernel
theorem dX8_fits_26 : decode cX8_fits 26 = .ok (.istore_n 3, 1) := by decide +kernel
theorem dX8_fits_27 : decode cX8_fits 27 = .ok (.iconst (-1), 1) := by decide +kernel
theorem dX8_fits_28 : decode cX8_fits 28 = .ok (.istore 4, 2) := by decide +kernel
theorem dX8_fits_30 : decode cX8_fits 30 = .ok (.iconst 0, 1) := by decide +kernel
theorem dX8_fits_31 : decode cX8_fits 31 = .ok (.istore 5, 2) := by decide +kernel
theorem dX8_fits_33 : decode cX8_fits 33 = .ok (.iload 5, 2) := by decide +kernel
theorem dX8_fits_35 : decode cX8_fits 35 = .ok (.bipush 96, 2) := by decide +kernel
theorem dX8_fits_37 : decode cX8_fits 37 = .ok (.if_icmp .ge 35, 3) := by decide +kernel
theorem dX8_fits_40 : decode cX8_fits 40 = .ok (.aload_n 0, 1) := by decide +kernel
theorem dX8_fits_41 : decode cX8_fits 41 = .ok (.iload_n 1, 1) := by decide +kernel
theorem dX8_fits_42 : decode cX8_fits 42 = .ok (.iload 5, 2) := by decide +kernel
theorem dX8_fits_44 : decode cX8_fits 44 = .ok (.invokevirtual 207, 3) := by decide +kernel
theorem dX8_fits_47 : decode cX8_fits 47 = .ok (.ifCond .eq 19, 3) := by decide +kernel
theorem dX8_fits_50 : decode cX8_fits 50 = .ok (.iload_n 3, 1) := by decide +kernel
theorem dX8_fits_51 : decode cX8_fits 51 = .ok (.ifCond .ne 8, 3) := by decide +kernel
theorem dX8_fits_54 : decode cX8_fits 54 = .ok (.iload 5, 2) := by decide +kernel
theorem dX8_fits_56 : decode cX8_fits 56 = .ok (.goto 5, 3) := by decide +kernel
theorem dX8_fits_59 : decode cX8_fits 59 = .ok (.iload 4, 2) := by decide +kernel
theorem dX8_fits_61 : decode cX8_fits 61 = .ok (.istore 4, 2) := by decide +kernel
theorem dX8_fits_63 : decode cX8_fits 63 = .ok (.iinc 3 1, 3) := by decide +kernel
theorem dX8_fits_66 : decode cX8_fits 66 = .ok (.iinc 5 1, 3) := by decide +kernel
theorem dX8_fits_69 : decode cX8_fits 69 = .ok (.goto (-36), 3) := by decide +kernel
theorem dX8_fits_72 : decode cX8_fits 72 = .ok (.iload_n 2, 1) := by decide +kernel
theorem dX8_fits_73 : decode cX8_fits 73 = .ok (.ifCond .ne 7, 3) := by decide +kernel
theorem dX8_fits_76 : decode cX8_fits 76 = .ok (.iload_n 3, 1) := by decide +kernel
theorem dX8_fits_77 : decode cX8_fits 77 = .ok (.goto 5, 3) := by decide +kernel
theorem dX8_fits_80 : decode cX8_fits 80 = .ok (.iload 4, 2) := by decide +kernel
theorem dX8_fits_82 : decode cX8_fits 82 = .ok (.ireturn, 1) := by decide +kernel
theorem dX8_mostAlike_0 : decode cX8_mostAlike 0 = .ok (.iconst 0, 1) := by decide +kernel
theorem dX8_mostAlike_1 : decode cX8_mostAlike 1 = .ok (.istore_n 2, 1) := by decide +kernel
theorem dX8_mostAlike_2 : decode cX8_mostAlike 2 = .ok (.iconst 0, 1) := by decide +kernel
theorem dX8_mostAlike_3 : decode cX8_mostAlike 3 = .ok (.istore_n 3, 1) := by decide +kernel
theorem dX8_mostAlike_4 : decode cX8_mostAlike 4 = .ok (.iload_n 3, 1) := by decide +kernel
theorem dX8_mostAlike_5 : decode cX8_mostAlike 5 = .ok (.bipush 96, 2) := by decide +kernel
theorem dX8_mostAlike_7 : decode cX8_mostAlike 7 = .ok (.if_icmp .ge 126, 3) := by decide +kernel
theorem dX8_mostAlike_10 : decode cX8_mostAlike 10 = .ok (.iconst 0, 1) := by decide +kernel
theorem dX8_mostAlike_11 : decode cX8_mostAlike 11 = .ok (.istore 4, 2) := by decide +kernel
theorem dX8_mostAlike_13 : decode cX8_mostAlike 13 = .ok (.iload_n 3, 1) := by decide +kernel
theorem dX8_mostAlike_14 : decode cX8_mostAlike 14 = .ok (.bipush 16, 2) := by decide +kernel
theorem dX8_mostAlike_16 : decode cX8_mostAlike 16 = .ok (.idiv, 1) := by decide +kernel
theorem dX8_mostAlike_17 : decode cX8_mostAlike 17 = .ok (.iload_n 3, 1) := by decide +kernel
theorem dX8_mostAlike_18 : decode cX8_mostAlike 18 = .ok (.bipush 16, 2) := by decide +kernel
theorem dX8_mostAlike_20 : decode cX8_mostAlike 20 = .ok (.irem, 1) := by decide +kernel
theorem dX8_mostAlike_21 : decode cX8_mostAlike 21 = .ok (.aload_n 0, 1) := by decide +kernel
theorem dX8_mostAlike_22 : decode cX8_mostAlike 22 = .ok (.getfield 7, 3) := by decide +kernel
theorem dX8_mostAlike_25 : decode cX8_mostAlike 25 = .ok (.iconst 1, 1) := by decide +kernel
theorem dX8_mostAlike_26 : decode cX8_mostAlike 26 = .ok (.iaload, 1) := by decide +kernel
theorem dX8_mostAlike_27 : decode cX8_mostAlike 27 = .ok (.aload_n 0, 1) := by decide +kernel
theorem dX8_mostAlike_28 : decode cX8_mostAlike 28 = .ok (.getfield 16, 3) := by decide +kernel
theorem dX8_mostAlike_31 : decode cX8_mostAlike 31 = .ok (.iload_n 1, 1) := by decide +kernel
theorem dX8_mostAlike_32 : decode cX8_mostAlike 32 = .ok (.laload, 1) := by decide +kernel
theorem dX8_mostAlike_33 : decode cX8_mostAlike 33 = .ok (.invokestatic 154, 3) := by decide +kernel
theorem dX8_mostAlike_36 : decode cX8_mostAlike 36 = .ok (.lstore 5, 2) := by decide +kernel
theorem dX8_mostAlike_38 : decode cX8_mostAlike 38 = .ok (.iconst 0, 1) := by decide +kernel
theorem dX8_mostAlike_39 : decode cX8_mostAlike 39 = .ok (.istore 7, 2) := by decide +kernel
theorem dX8_mostAlike_41 : decode cX8_mostAlike 41 = .ok (.iload 7, 2) := by decide +kernel
theorem dX8_mostAlike_43 : decode cX8_mostAlike 43 = .ok (.bipush 96, 2) := by decide +kernel
theorem dX8_mostAlike_45 : decode cX8_mostAlike 45 = .ok (.if_icmp .ge 69, 3) := by decide +kernel
theorem dX8_mostAlike_48 : decode cX8_mostAlike 48 = .ok (.aload_n 0, 1) := by decide +kernel
theorem dX8_mostAlike_49 : decode cX8_mostAlike 49 = .ok (.getfield 49, 3) := by decide +kernel
theorem dX8_mostAlike_52 : decode cX8_mostAlike 52 = .ok (.iload_n 3, 1) := by decide +kernel
theorem dX8_mostAlike_53 : decode cX8_mostAlike 53 = .ok (.baload, 1) := by decide +kernel
theorem dX8_mostAlike_54 : decode cX8_mostAlike 54 = .ok (.ifCond .eq 60, 3) := by decide +kernel
theorem dX8_mostAlike_57 : decode cX8_mostAlike 57 = .ok (.iload 4, 2) := by decide +kernel
theorem dX8_mostAlike_59 : decode cX8_mostAlike 59 = .ok (.aload_n 0, 1) := by decide +kernel
theorem dX8_mostAlike_60 : decode cX8_mostAlike 60 = .ok (.getfield 49, 3) := by decide +kernel
theorem dX8_mostAlike_63 : decode cX8_mostAlike 63 = .ok (.iload 7, 2) := by decide +kernel
theorem dX8_mostAlike_65 : decode cX8_mostAlike 65 = .ok (.baload, 1) := by decide +kernel
theorem dX8_mostAlike_66 : decode cX8_mostAlike 66 = .ok (.ifCond .eq 38, 3) := by decide +kernel
theorem dX8_mostAlike_69 : decode cX8_mostAlike 69 = .ok (.iload 7, 2) := by decide +kernel
theorem dX8_mostAlike_71 : decode cX8_mostAlike 71 = .ok (.bipush 16, 2) := by decide +kernel
theorem dX8_mostAlike_73 : decode cX8_mostAlike 73 = .ok (.idiv, 1) := by decide +kernel
theorem dX8_mostAlike_74 : decode cX8_mostAlike 74 = .ok (.iload 7, 2) := by decide +kernel
theorem dX8_mostAlike_76 : decode cX8_mostAlike 76 = .ok (.bipush 16, 2) := by decide +kernel
theorem dX8_mostAlike_78 : decode cX8_mostAlike 78 = .ok (.irem, 1) := by decide +kernel
theorem dX8_mostAlike_79 : decode cX8_mostAlike 79 = .ok (.aload_n 0, 1) := by decide +kernel
theorem dX8_mostAlike_80 : decode cX8_mostAlike 80 = .ok (.getfield 7, 3) := by decide +kernel
theorem dX8_mostAlike_83 : decode cX8_mostAlike 83 = .ok (.iconst 1, 1) := by decide +kernel
theorem dX8_mostAlike_84 : decode cX8_mostAlike 84 = .ok (.iaload, 1) := by decide +kernel
theorem dX8_mostAlike_85 : decode cX8_mostAlike 85 = .ok (.aload_n 0, 1) := by decide +kernel
theorem dX8_mostAlike_86 : decode cX8_mostAlike 86 = .ok (.getfield 16, 3) := by decide +kernel
theorem dX8_mostAlike_89 : decode cX8_mostAlike 89 = .ok (.iload_n 1, 1) := by decide +kernel
theorem dX8_mostAlike_90 : decode cX8_mostAlike 90 = .ok (.laload, 1) := by decide +kernel
theorem dX8_mostAlike_91 : decode cX8_mostAlike 91 = .ok (.invokestatic 154, 3) := by decide +kernel
theorem dX8_mostAlike_94 : decode cX8_mostAlike 94 = .ok (.lload 5, 2) := by decide +kernel
theorem dX8_mostAlike_96 : decode cX8_mostAlike 96 = .ok (.lcmp, 1) := by decide +kernel
theorem dX8_mostAlike_97 : decode cX8_mostAlike 97 = .ok (.ifCond .ne 7, 3) := by decide +kernel
theorem dX8_mostAlike_100 : decode cX8_mostAlike 100 = .ok (.iconst 1, 1) := by decide +kernel
theorem dX8_mostAlike_101 : decode cX8_mostAlike 101 = .ok (.goto 4, 3) := by decide +kernel
theorem dX8_mostAlike_104 : decode cX8_mostAlike 104 = .ok (.iconst 0, 1) := by decide +kernel
theorem dX8_mostAlike_105 : decode cX8_mostAlike 105 = .ok (.iadd, 1) := by decide +kernel
theorem dX8_mostAlike_106 : decode cX8_mostAlike 106 = .ok (.istore 4, 2) := by decide +kernel
theorem dX8_mostAlike_108 : decode cX8_mostAlike 108 = .ok (.iinc 7 1, 3) := by decide +kernel
theorem dX8_mostAlike_111 : decode cX8_mostAlike 111 = .ok (.goto (-70), 3) := by decide +kernel
theorem dX8_mostAlike_114 : decode cX8_mostAlike 114 = .ok (.iload 4, 2) := by decide +kernel
theorem dX8_mostAlike_116 : decode cX8_mostAlike 116 = .ok (.iload_n 2, 1) := by decide +kernel
theorem dX8_mostAlike_117 : decode cX8_mostAlike 117 = .ok (.if_icmp .le 8, 3) := by decide +kernel
theorem dX8_mostAlike_120 : decode cX8_mostAlike 120 = .ok (.iload 4, 2) := by decide +kernel
theorem dX8_mostAlike_122 : decode cX8_mostAlike 122 = .ok (.goto 4, 3) := by decide +kernel
theorem dX8_mostAlike_125 : decode cX8_mostAlike 125 = .ok (.iload_n 2, 1) := by decide +kernel
theorem dX8_mostAlike_126 : decode cX8_mostAlike 126 = .ok (.istore_n 2, 1) := by decide +kernel
theorem dX8_mostAlike_127 : decode cX8_mostAlike 127 = .ok (.iinc 3 1, 3) := by decide +kernel
theorem dX8_mostAlike_130 : decode cX8_mostAlike 130 = .ok (.goto (-126), 3) := by decide +kernel
theorem dX8_mostAlike_133 : decode cX8_mostAlike 133 = .ok (.iload_n 2, 1) := by decide +kernel
theorem dX8_mostAlike_134 : decode cX8_mostAlike 134 = .ok (.ireturn, 1) := by decide +kernel
theorem dX8_tries_0 : decode cX8_tries 0 = .ok (.aload_n 0, 1) := by decide +kernel
theorem dX8_tries_1 : decode cX8_tries 1 = .ok (.iload_n 1, 1) := by decide +kernel
theorem dX8_tries_2 : decode cX8_tries 2 = .ok (.invokevirtual 139, 3) := by decide +kernel
theorem dX8_tries_5 : decode cX8_tries 5 = .ok (.ifCond .ne 10, 3) := by decide +kernel
theorem dX8_tries_8 : decode cX8_tries 8 = .ok (.aload_n 0, 1) := by decide +kernel
theorem dX8_tries_9 : decode cX8_tries 9 = .ok (.bipush (-2), 2) := by decide +kernel
theorem dX8_tries_11 : decode cX8_tries 11 = .ok (.invokevirtual 116, 3) := by decide +kernel
theorem dX8_tries_14 : decode cX8_tries 14 = .ok (.ireturn, 1) := by decide +kernel
theorem dX8_tries_15 : decode cX8_tries 15 = .ok (.iconst 0, 1) := by decide +kernel
theorem dX8_tries_16 : decode cX8_tries 16 = .ok (.istore_n 2, 1) := by decide +kernel
theorem dX8_tries_17 : decode cX8_tries 17 = .ok (.iload_n 2, 1) := by decide +kernel
theorem dX8_tries_18 : decode cX8_tries 18 = .ok (.bipush 96, 2) := by decide +kernel
theorem dX8_tries_20 : decode cX8_tries 20 = .ok (.if_icmp .ge 21, 3) := by decide +kernel
theorem dX8_tries_23 : decode cX8_tries 23 = .ok (.aload_n 0, 1) := by decide +kernel
theorem dX8_tries_24 : decode cX8_tries 24 = .ok (.getfield 49, 3) := by decide +kernel
theorem dX8_tries_27 : decode cX8_tries 27 = .ok (.iload_n 2, 1) := by decide +kernel
theorem dX8_tries_28 : decode cX8_tries 28 = .ok (.aload_n 0, 1) := by decide +kernel
theorem dX8_tries_29 : decode cX8_tries 29 = .ok (.iload_n 1, 1) := by decide +kernel
theorem dX8_tries_30 : decode cX8_tries 30 = .ok (.iload_n 2, 1) := by decide +kernel
theorem dX8_tries_31 : decode cX8_tries 31 = .ok (.invokevirtual 207, 3) := by decide +kernel
theorem dX8_tries_34 : decode cX8_tries 34 = .ok (.bastore, 1) := by decide +kernel
theorem dX8_tries_35 : decode cX8_tries 35 = .ok (.iinc 2 1, 3) := by decide +kernel
theorem dX8_tries_38 : decode cX8_tries 38 = .ok (.goto (-21), 3) := by decide +kernel
theorem dX8_tries_41 : decode cX8_tries 41 = .ok (.iconst (-1), 1) := by decide +kernel
theorem dX8_tries_42 : decode cX8_tries 42 = .ok (.istore_n 2, 1) := by decide +kernel
theorem dX8_tries_43 : decode cX8_tries 43 = .ok (.ldc 211, 2) := by decide +kernel
theorem dX8_tries_45 : decode cX8_tries 45 = .ok (.istore_n 3, 1) := by decide +kernel
theorem dX8_tries_46 : decode cX8_tries 46 = .ok (.iconst 0, 1) := by decide +kernel
theorem dX8_tries_47 : decode cX8_tries 47 = .ok (.istore 4, 2) := by decide +kernel
theorem dX8_tries_49 : decode cX8_tries 49 = .ok (.iload 4, 2) := by decide +kernel
theorem dX8_tries_51 : decode cX8_tries 51 = .ok (.iconst 4, 1) := by decide +kernel
theorem dX8_tries_52 : decode cX8_tries 52 = .ok (.if_icmp .ge 53, 3) := by decide +kernel
theorem dX8_tries_55 : decode cX8_tries 55 = .ok (.aload_n 0, 1) := by decide +kernel
theorem dX8_tries_56 : decode cX8_tries 56 = .ok (.iload 4, 2) := by decide +kernel
theorem dX8_tries_58 : decode cX8_tries 58 = .ok (.invokevirtual 212, 3) := by decide +kernel
theorem dX8_tries_61 : decode cX8_tries 61 = .ok (.istore 5, 2) := by decide +kernel
theorem dX8_tries_63 : decode cX8_tries 63 = .ok (.iload 5, 2) := by decide +kernel
theorem dX8_tries_65 : decode cX8_tries 65 = .ok (.ifCond .le 14, 3) := by decide +kernel
theorem dX8_tries_68 : decode cX8_tries 68 = .ok (.iload 5, 2) := by decide +kernel
theorem dX8_tries_70 : decode cX8_tries 70 = .ok (.iload_n 3, 1) := by decide +kernel
theorem dX8_tries_71 : decode cX8_tries 71 = .ok (.if_icmp .ge 8, 3) := by decide +kernel
theorem dX8_tries_74 : decode cX8_tries 74 = .ok (.iload 4, 2) := by decide +kernel
theorem dX8_tries_76 : decode cX8_tries 76 = .ok (.goto 4, 3) := by decide +kernel
theorem dX8_tries_79 : decode cX8_tries 79 = .ok (.iload_n 2, 1) := by decide +kernel
theorem dX8_tries_80 : decode cX8_tries 80 = .ok (.istore_n 2, 1) := by decide +kernel
theorem dX8_tries_81 : decode cX8_tries 81 = .ok (.iload 5, 2) := by decide +kernel
theorem dX8_tries_83 : decode cX8_tries 83 = .ok (.ifCond .le 14, 3) := by decide +kernel
theorem dX8_tries_86 : decode cX8_tries 86 = .ok (.iload 5, 2) := by decide +kernel
theorem dX8_tries_88 : decode cX8_tries 88 = .ok (.iload_n 3, 1) := by decide +kernel
theorem dX8_tries_89 : decode cX8_tries 89 = .ok (.if_icmp .ge 8, 3) := by decide +kernel
theorem dX8_tries_92 : decode cX8_tries 92 = .ok (.iload 5, 2) := by decide +kernel
theorem dX8_tries_94 : decode cX8_tries 94 = .ok (.goto 4, 3) := by decide +kernel
theorem dX8_tries_97 : decode cX8_tries 97 = .ok (.iload_n 3, 1) := by decide +kernel
theorem dX8_tries_98 : decode cX8_tries 98 = .ok (.istore_n 3, 1) := by decide +kernel
theorem dX8_tries_99 : decode cX8_tries 99 = .ok (.iinc 4 1, 3) := by decide +kernel
theorem dX8_tries_102 : decode cX8_tries 102 = .ok (.goto (-53), 3) := by decide +kernel
theorem dX8_tries_105 : decode cX8_tries 105 = .ok (.iload_n 2, 1) := by decide +kernel
theorem dX8_tries_106 : decode cX8_tries 106 = .ok (.ireturn, 1) := by decide +kernel
theorem dX8_renamed_0 : decode cX8_renamed 0 = .ok (.iload_n 1, 1) := by decide +kernel
theorem dX8_renamed_1 : decode cX8_renamed 1 = .ok (.invokestatic 148, 3) := by decide +kernel
theorem dX8_renamed_4 : decode cX8_renamed 4 = .ok (.ifCond .eq 11, 3) := by decide +kernel
theorem dX8_renamed_7 : decode cX8_renamed 7 = .ok (.aload_n 0, 1) := by decide +kernel
theorem dX8_renamed_8 : decode cX8_renamed 8 = .ok (.iload_n 2, 1) := by decide +kernel
theorem dX8_renamed_9 : decode cX8_renamed 9 = .ok (.invokevirtual 139, 3) := by decide +kernel
theorem dX8_renamed_12 : decode cX8_renamed 12 = .ok (.ifCond .ne 10, 3) := by decide +kernel
theorem dX8_renamed_15 : decode cX8_renamed 15 = .ok (.aload_n 0, 1) := by decide +kernel
theorem dX8_renamed_16 : decode cX8_renamed 16 = .ok (.bipush (-2), 2) := by decide +kernel
theorem dX8_renamed_18 : decode cX8_renamed 18 = .ok (.invokevirtual 116, 3) := by decide +kernel
theorem dX8_renamed_21 : decode cX8_renamed 21 = .ok (.ireturn, 1) := by decide +kernel
theorem dX8_renamed_22 : decode cX8_renamed 22 = .ok (.aload_n 0, 1) := by decide +kernel
theorem dX8_renamed_23 : decode cX8_renamed 23 = .ok (.getfield 16, 3) := by decide +kernel
theorem dX8_renamed_26 : decode cX8_renamed 26 = .ok (.iload_n 1, 1) := by decide +kernel
theorem dX8_renamed_27 : decode cX8_renamed 27 = .ok (.laload, 1) := by decide +kernel
theorem dX8_renamed_28 : decode cX8_renamed 28 = .ok (.lstore_n 3, 1) := by decide +kernel
theorem dX8_renamed_29 : decode cX8_renamed 29 = .ok (.iconst 0, 1) := by decide +kernel
theorem dX8_renamed_30 : decode cX8_renamed 30 = .ok (.istore 5, 2) := by decide +kernel
theorem dX8_renamed_32 : decode cX8_renamed 32 = .ok (.iload 5, 2) := by decide +kernel
theorem dX8_renamed_34 : decode cX8_renamed 34 = .ok (.bipush 60, 2) := by decide +kernel
theorem dX8_renamed_36 : decode cX8_renamed 36 = .ok (.if_icmp .ge 54, 3) := by decide +kernel
theorem dX8_renamed_39 : decode cX8_renamed 39 = .ok (.aload_n 0, 1) := by decide +kernel
theorem dX8_renamed_40 : decode cX8_renamed 40 = .ok (.iload_n 2, 1) := by decide +kernel
theorem dX8_renamed_41 : decode cX8_renamed 41 = .ok (.iconst 2, 1) := by decide +kernel
theorem dX8_renamed_42 : decode cX8_renamed 42 = .ok (.invokevirtual 135, 3) := by decide +kernel
theorem dX8_renamed_45 : decode cX8_renamed 45 = .ok (.aload_n 0, 1) := by decide +kernel
theorem dX8_renamed_46 : decode cX8_renamed 46 = .ok (.iload_n 2, 1) := by decide +kernel
theorem dX8_renamed_47 : decode cX8_renamed 47 = .ok (.iconst 3, 1) := by decide +kernel
theorem dX8_renamed_48 : decode cX8_renamed 48 = .ok (.invokevirtual 135, 3) := by decide +kernel
theorem dX8_renamed_51 : decode cX8_renamed 51 = .ok (.aload_n 0, 1) := by decide +kernel
theorem dX8_renamed_52 : decode cX8_renamed 52 = .ok (.getfield 7, 3) := by decide +kernel
theorem dX8_renamed_55 : decode cX8_renamed 55 = .ok (.iconst 1, 1) := by decide +kernel
theorem dX8_renamed_56 : decode cX8_renamed 56 = .ok (.iaload, 1) := by decide +kernel
theorem dX8_renamed_57 : decode cX8_renamed 57 = .ok (.iload 5, 2) := by decide +kernel
theorem dX8_renamed_59 : decode cX8_renamed 59 = .ok (.iadd, 1) := by decide +kernel
theorem dX8_renamed_60 : decode cX8_renamed 60 = .ok (.bipush 12, 2) := by decide +kernel
theorem dX8_renamed_62 : decode cX8_renamed 62 = .ok (.irem, 1) := by decide +kernel
theorem dX8_renamed_63 : decode cX8_renamed 63 = .ok (.lload_n 3, 1) := by decide +kernel
theorem dX8_renamed_64 : decode cX8_renamed 64 = .ok (.invokestatic 154, 3) := by decide +kernel
theorem dX8_renamed_67 : decode cX8_renamed 67 = .ok (.lstore_n 3, 1) := by decide +kernel
theorem dX8_renamed_68 : decode cX8_renamed 68 = .ok (.lload_n 3, 1) := by decide +kernel
theorem dX8_renamed_69 : decode cX8_renamed 69 = .ok (.aload_n 0, 1) := by decide +kernel
theorem dX8_renamed_70 : decode cX8_renamed 70 = .ok (.getfield 16, 3) := by decide +kernel
theorem dX8_renamed_73 : decode cX8_renamed 73 = .ok (.iload_n 1, 1) := by decide +kernel
theorem dX8_renamed_74 : decode cX8_renamed 74 = .ok (.laload, 1) := by decide +kernel
theorem dX8_renamed_75 : decode cX8_renamed 75 = .ok (.lcmp, 1) := by decide +kernel
theorem dX8_renamed_76 : decode cX8_renamed 76 = .ok (.ifCond .ne 8, 3) := by decide +kernel
theorem dX8_renamed_79 : decode cX8_renamed 79 = .ok (.iload 5, 2) := by decide +kernel
theorem dX8_renamed_81 : decode cX8_renamed 81 = .ok (.iconst 1, 1) := by decide +kernel
theorem dX8_renamed_82 : decode cX8_renamed 82 = .ok (.iadd, 1) := by decide +kernel
theorem dX8_renamed_83 : decode cX8_renamed 83 = .ok (.ireturn, 1) := by decide +kernel
theorem dX8_renamed_84 : decode cX8_renamed 84 = .ok (.iinc 5 1, 3) := by decide +kernel
theorem dX8_renamed_87 : decode cX8_renamed 87 = .ok (.goto (-55), 3) := by decide +kernel
theorem dX8_renamed_90 : decode cX8_renamed 90 = .ok (.iconst (-1), 1) := by decide +kernel
theorem dX8_renamed_91 : decode cX8_renamed 91 = .ok (.ireturn, 1) := by decide +kernel
theorem dX8_fraction_0 : decode cX8_fraction 0 = .ok (.lload_n 1, 1) := by decide +kernel
theorem dX8_fraction_1 : decode cX8_fraction 1 = .ok (.lstore 5, 2) := by decide +kernel
theorem dX8_fraction_3 : decode cX8_fraction 3 = .ok (.lload_n 3, 1) := by decide +kernel
theorem dX8_fraction_4 : decode cX8_fraction 4 = .ok (.lstore 7, 2) := by decide +kernel
theorem dX8_fraction_6 : decode cX8_fraction 6 = .ok (.lload 7, 2) := by decide +kernel
theorem dX8_fraction_8 : decode cX8_fraction 8 = .ok (.lconst 0, 1) := by decide +kernel
theorem dX8_fraction_9 : decode cX8_fraction 9 = .ok (.lcmp, 1) := by decide +kernel
theorem dX8_fraction_10 : decode cX8_fraction 10 = .ok (.ifCond .eq 21, 3) := by decide +kernel
theorem dX8_fraction_13 : decode cX8_fraction 13 = .ok (.lload 5, 2) := by decide +kernel
theorem dX8_fraction_15 : decode cX8_fraction 15 = .ok (.lload 7, 2) := by decide +kernel
theorem dX8_fraction_17 : decode cX8_fraction 17 = .ok (.lrem, 1) := by decide +kernel
theorem dX8_fraction_18 : decode cX8_fraction 18 = .ok (.lstore 9, 2) := by decide +kernel
theorem dX8_fraction_20 : decode cX8_fraction 20 = .ok (.lload 7, 2) := by decide +kernel
theorem dX8_fraction_22 : decode cX8_fraction 22 = .ok (.lstore 5, 2) := by decide +kernel
theorem dX8_fraction_24 : decode cX8_fraction 24 = .ok (.lload 9, 2) := by decide +kernel
theorem dX8_fraction_26 : decode cX8_fraction 26 = .ok (.lstore 7, 2) := by decide +kernel
theorem dX8_fraction_28 : decode cX8_fraction 28 = .ok (.goto (-22), 3) := by decide +kernel
theorem dX8_fraction_31 : decode cX8_fraction 31 = .ok (.aload_n 0, 1) := by decide +kernel
theorem dX8_fraction_32 : decode cX8_fraction 32 = .ok (.lload_n 1, 1) := by decide +kernel
theorem dX8_fraction_33 : decode cX8_fraction 33 = .ok (.lload 5, 2) := by decide +kernel
theorem dX8_fraction_35 : decode cX8_fraction 35 = .ok (.ldiv, 1) := by decide +kernel
theorem dX8_fraction_36 : decode cX8_fraction 36 = .ok (.putfield 215, 3) := by decide +kernel
theorem dX8_fraction_39 : decode cX8_fraction 39 = .ok (.aload_n 0, 1) := by decide +kernel
theorem dX8_fraction_40 : decode cX8_fraction 40 = .ok (.lload_n 3, 1) := by decide +kernel
theorem dX8_fraction_41 : decode cX8_fraction 41 = .ok (.lload 5, 2) := by decide +kernel
theorem dX8_fraction_43 : decode cX8_fraction 43 = .ok (.ldiv, 1) := by decide +kernel
theorem dX8_fraction_44 : decode cX8_fraction 44 = .ok (.putfield 30, 3) := by decide +kernel
theorem dX8_fraction_47 : decode cX8_fraction 47 = .ok (.return_, 1) := by decide +kernel
theorem dX8_stammer_0 : decode cX8_stammer 0 = .ok (.iload_n 1, 1) := by decide +kernel
theorem dX8_stammer_1 : decode cX8_stammer 1 = .ok (.invokestatic 148, 3) := by decide +kernel
theorem dX8_stammer_4 : decode cX8_stammer 4 = .ok (.ifCond .eq 36, 3) := by decide +kernel
theorem dX8_stammer_7 : decode cX8_stammer 7 = .ok (.aload_n 0, 1) := by decide +kernel
theorem dX8_stammer_8 : decode cX8_stammer 8 = .ok (.iload_n 2, 1) := by decide +kernel
theorem dX8_stammer_9 : decode cX8_stammer 9 = .ok (.invokevirtual 139, 3) := by decide +kernel
theorem dX8_stammer_12 : decode cX8_stammer 12 = .ok (.ifCond .eq 28, 3) := by decide +kernel
theorem dX8_stammer_15 : decode cX8_stammer 15 = .ok (.iload_n 3, 1) := by decide +kernel
theorem dX8_stammer_16 : decode cX8_stammer 16 = .ok (.i2l, 1) := by decide +kernel
theorem dX8_stammer_17 : decode cX8_stammer 17 = .ok (.lconst 0, 1) := by decide +kernel
theorem dX8_stammer_18 : decode cX8_stammer 18 = .ok (.ldc2_w 218, 3) := by decide +kernel
theorem dX8_stammer_21 : decode cX8_stammer 21 = .ok (.invokestatic 106, 3) := by decide +kernel
theorem dX8_stammer_24 : decode cX8_stammer 24 = .ok (.ifCond .eq 16, 3) := by decide +kernel
theorem dX8_stammer_27 : decode cX8_stammer 27 = .ok (.iload 4, 2) := by decide +kernel
theorem dX8_stammer_29 : decode cX8_stammer 29 = .ok (.i2l, 1) := by decide +kernel
theorem dX8_stammer_30 : decode cX8_stammer 30 = .ok (.lconst 0, 1) := by decide +kernel
theorem dX8_stammer_31 : decode cX8_stammer 31 = .ok (.ldc2_w 220, 3) := by decide +kernel
theorem dX8_stammer_34 : decode cX8_stammer 34 = .ok (.invokestatic 106, 3) := by decide +kernel
theorem dX8_stammer_37 : decode cX8_stammer 37 = .ok (.ifCond .ne 10, 3) := by decide +kernel
theorem dX8_stammer_40 : decode cX8_stammer 40 = .ok (.aload_n 0, 1) := by decide +kernel
theorem dX8_stammer_41 : decode cX8_stammer 41 = .ok (.bipush (-2), 2) := by decide +kernel
theorem dX8_stammer_43 : decode cX8_stammer 43 = .ok (.invokevirtual 116, 3) := by decide +kernel
theorem dX8_stammer_46 : decode cX8_stammer 46 = .ok (.ireturn, 1) := by decide +kernel
theorem dX8_stammer_47 : decode cX8_stammer 47 = .ok (.aload_n 0, 1) := by decide +kernel
theorem dX8_stammer_48 : decode cX8_stammer 48 = .ok (.iload_n 2, 1) := by decide +kernel
theorem dX8_stammer_49 : decode cX8_stammer 49 = .ok (.aload_n 0, 1) := by decide +kernel
theorem dX8_stammer_50 : decode cX8_stammer 50 = .ok (.getfield 16, 3) := by decide +kernel
theorem dX8_stammer_53 : decode cX8_stammer 53 = .ok (.iload_n 1, 1) := by decide +kernel
theorem dX8_stammer_54 : decode cX8_stammer 54 = .ok (.laload, 1) := by decide +kernel
theorem dX8_stammer_55 : decode cX8_stammer 55 = .ok (.invokevirtual 158, 3) := by decide +kernel
theorem dX8_stammer_58 : decode cX8_stammer 58 = .ok (.invokestatic 71, 3) := by decide +kernel
theorem dX8_stammer_61 : decode cX8_stammer 61 = .ok (.istore 5, 2) := by decide +kernel
theorem dX8_stammer_63 : decode cX8_stammer 63 = .ok (.lconst 1, 1) := by decide +kernel
theorem dX8_stammer_64 : decode cX8_stammer 64 = .ok (.lstore 6, 2) := by decide +kernel
theorem dX8_stammer_66 : decode cX8_stammer 66 = .ok (.iconst 0, 1) := by decide +kernel
theorem dX8_stammer_67 : decode cX8_stammer 67 = .ok (.istore 8, 2) := by decide +kernel
theorem dX8_stammer_69 : decode cX8_stammer 69 = .ok (.iload 8, 2) := by decide +kernel
theorem dX8_stammer_71 : decode cX8_stammer 71 = .ok (.bipush 14, 2) := by decide +kernel
theorem dX8_stammer_73 : decode cX8_stammer 73 = .ok (.if_icmp .ge 26, 3) := by decide +kernel
theorem dX8_stammer_76 : decode cX8_stammer 76 = .ok (.aload_n 0, 1) := by decide +kernel
theorem dX8_stammer_77 : decode cX8_stammer 77 = .ok (.getfield 52, 3) := by decide +kernel
theorem dX8_stammer_80 : decode cX8_stammer 80 = .ok (.iload 8, 2) := by decide +kernel
theorem dX8_stammer_82 : decode cX8_stammer 82 = .ok (.iload 8, 2) := by decide +kernel
theorem dX8_stammer_84 : decode cX8_stammer 84 = .ok (.ifCond .ne 7, 3) := by decide +kernel
theorem dX8_stammer_87 : decode cX8_stammer 87 = .ok (.lconst 1, 1) := by decide +kernel
theorem dX8_stammer_88 : decode cX8_stammer 88 = .ok (.goto 4, 3) := by decide +kernel
theorem dX8_stammer_91 : decode cX8_stammer 91 = .ok (.lconst 0, 1) := by decide +kernel
theorem dX8_stammer_92 : decode cX8_stammer 92 = .ok (.lastore, 1) := by decide +kernel
theorem dX8_stammer_93 : decode cX8_stammer 93 = .ok (.iinc 8 1, 3) := by decide +kernel
theorem dX8_stammer_96 : decode cX8_stammer 96 = .ok (.goto (-27), 3) := by decide +kernel
theorem dX8_stammer_99 : decode cX8_stammer 99 = .ok (.iconst 0, 1) := by decide +kernel
theorem dX8_stammer_100 : decode cX8_stammer 100 = .ok (.istore 8, 2) := by decide +kernel
theorem dX8_stammer_102 : decode cX8_stammer 102 = .ok (.iload 8, 2) := by decide +kernel
theorem dX8_stammer_104 : decode cX8_stammer 104 = .ok (.iload 5, 2) := by decide +kernel
theorem dX8_stammer_106 : decode cX8_stammer 106 = .ok (.if_icmp .ge 74, 3) := by decide +kernel
theorem dX8_stammer_109 : decode cX8_stammer 109 = .ok (.bipush 13, 2) := by decide +kernel
theorem dX8_stammer_111 : decode cX8_stammer 111 = .ok (.istore 9, 2) := by decide +kernel
theorem dX8_stammer_113 : decode cX8_stammer 113 = .ok (.iload 9, 2) := by decide +kernel
theorem dX8_stammer_115 : decode cX8_stammer 115 = .ok (.ifCond .lt 51, 3) := by decide +kernel
theorem dX8_stammer_118 : decode cX8_stammer 118 = .ok (.aload_n 0, 1) := by decide +kernel
theorem dX8_stammer_119 : decode cX8_stammer 119 = .ok (.getfield 52, 3) := by decide +kernel
theorem dX8_stammer_122 : decode cX8_stammer 122 = .ok (.iload 9, 2) := by decide +kernel
theorem dX8_stammer_124 : decode cX8_stammer 124 = .ok (.bipush 10, 2) := by decide +kernel
theorem dX8_stammer_126 : decode cX8_stammer 126 = .ok (.iload_n 3, 1) := by decide +kernel
theorem dX8_stammer_127 : decode cX8_stammer 127 = .ok (.isub, 1) := by decide +kernel
theorem dX8_stammer_128 : decode cX8_stammer 128 = .ok (.i2l, 1) := by decide +kernel
theorem dX8_stammer_129 : decode cX8_stammer 129 = .ok (.aload_n 0, 1) := by decide +kernel
theorem dX8_stammer_130 : decode cX8_stammer 130 = .ok (.getfield 52, 3) := by decide +kernel
theorem dX8_stammer_133 : decode cX8_stammer 133 = .ok (.iload 9, 2) := by decide +kernel
theorem dX8_stammer_135 : decode cX8_stammer 135 = .ok (.laload, 1) := by decide +kernel
theorem dX8_stammer_136 : decode cX8_stammer 136 = .ok (.lmul, 1) := by decide +kernel
theorem dX8_stammer_137 : decode cX8_stammer 137 = .ok (.iload 9, 2) := by decide +kernel
theorem dX8_stammer_139 : decode cX8_stammer 139 = .ok (.ifCond .le 18, 3) := by decide +kernel
theorem dX8_stammer_142 : decode cX8_stammer 142 = .ok (.iload_n 3, 1) := by decide +kernel
theorem dX8_stammer_143 : decode cX8_stammer 143 = .ok (.i2l, 1) := by decide +kernel
theorem dX8_stammer_144 : decode cX8_stammer 144 = .ok (.aload_n 0, 1) := by decide +kernel
theorem dX8_stammer_145 : decode cX8_stammer 145 = .ok (.getfield 52, 3) := by decide +kernel
theorem dX8_stammer_148 : decode cX8_stammer 148 = .ok (.iload 9, 2) := by decide +kernel
theorem dX8_stammer_150 : decode cX8_stammer 150 = .ok (.iconst 1, 1) := by decide +kernel
theorem dX8_stammer_151 : decode cX8_stammer 151 = .ok (.isub, 1) := by decide +kernel
theorem dX8_stammer_152 : decode cX8_stammer 152 = .ok (.laload, 1) := by decide +kernel
theorem dX8_stammer_153 : decode cX8_stammer 153 = .ok (.lmul, 1) := by decide +kernel
theorem dX8_stammer_154 : decode cX8_stammer 154 = .ok (.goto 4, 3) := by decide +kernel
theorem dX8_stammer_157 : decode cX8_stammer 157 = .ok (.lconst 0, 1) := by decide +kernel
theorem dX8_stammer_158 : decode cX8_stammer 158 = .ok (.ladd, 1) := by decide +kernel
theorem dX8_stammer_159 : decode cX8_stammer 159 = .ok (.lastore, 1) := by decide +kernel
theorem dX8_stammer_160 : decode cX8_stammer 160 = .ok (.iinc 9 (-1), 3) := by decide +kernel
theorem dX8_stammer_163 : decode cX8_stammer 163 = .ok (.goto (-50), 3) := by decide +kernel
theorem dX8_stammer_166 : decode cX8_stammer 166 = .ok (.lload 6, 2) := by decide +kernel
theorem dX8_stammer_168 : decode cX8_stammer 168 = .ok (.ldc2_w 218, 3) := by decide +kernel
theorem dX8_stammer_171 : decode cX8_stammer 171 = .ok (.lmul, 1) := by decide +kernel
theorem dX8_stammer_172 : decode cX8_stammer 172 = .ok (.lstore 6, 2) := by decide +kernel
theorem dX8_stammer_174 : decode cX8_stammer 174 = .ok (.iinc 8 1, 3) := by decide +kernel
theorem dX8_stammer_177 : decode cX8_stammer 177 = .ok (.goto (-75), 3) := by decide +kernel
theorem dX8_stammer_180 : decode cX8_stammer 180 = .ok (.aload_n 0, 1) := by decide +kernel
theorem dX8_stammer_181 : decode cX8_stammer 181 = .ok (.iload 4, 2) := by decide +kernel
theorem dX8_stammer_183 : decode cX8_stammer 183 = .ok (.iload 5, 2) := by decide +kernel
theorem dX8_stammer_185 : decode cX8_stammer 185 = .ok (.isub, 1) := by decide +kernel
theorem dX8_stammer_186 : decode cX8_stammer 186 = .ok (.i2l, 1) := by decide +kernel
theorem dX8_stammer_187 : decode cX8_stammer 187 = .ok (.lconst 0, 1) := by decide +kernel
theorem dX8_stammer_188 : decode cX8_stammer 188 = .ok (.iload 5, 2) := by decide +kernel
theorem dX8_stammer_190 : decode cX8_stammer 190 = .ok (.i2l, 1) := by decide +kernel
theorem dX8_stammer_191 : decode cX8_stammer 191 = .ok (.invokestatic 106, 3) := by decide +kernel
theorem dX8_stammer_194 : decode cX8_stammer 194 = .ok (.ifCond .eq 16, 3) := by decide +kernel
theorem dX8_stammer_197 : decode cX8_stammer 197 = .ok (.aload_n 0, 1) := by decide +kernel
theorem dX8_stammer_198 : decode cX8_stammer 198 = .ok (.getfield 52, 3) := by decide +kernel
theorem dX8_stammer_201 : decode cX8_stammer 201 = .ok (.iload 4, 2) := by decide +kernel
theorem dX8_stammer_203 : decode cX8_stammer 203 = .ok (.iload 5, 2) := by decide +kernel
theorem dX8_stammer_205 : decode cX8_stammer 205 = .ok (.isub, 1) := by decide +kernel
theorem dX8_stammer_206 : decode cX8_stammer 206 = .ok (.laload, 1) := by decide +kernel
theorem dX8_stammer_207 : decode cX8_stammer 207 = .ok (.goto 4, 3) := by decide +kernel
theorem dX8_stammer_210 : decode cX8_stammer 210 = .ok (.lconst 0, 1) := by decide +kernel
theorem dX8_stammer_211 : decode cX8_stammer 211 = .ok (.lload 6, 2) := by decide +kernel
theorem dX8_stammer_213 : decode cX8_stammer 213 = .ok (.invokevirtual 222, 3) := by decide +kernel
theorem dX8_stammer_216 : decode cX8_stammer 216 = .ok (.iconst 1, 1) := by decide +kernel
theorem dX8_stammer_217 : decode cX8_stammer 217 = .ok (.ireturn, 1) := by decide +kernel
theorem dX8_exchanged_0 : decode cX8_exchanged 0 = .ok (.iload_n 0, 1) := by decide +kernel
theorem dX8_exchanged_1 : decode cX8_exchanged 1 = .ok (.iload_n 1, 1) := by decide +kernel
theorem dX8_exchanged_2 : decode cX8_exchanged 2 = .ok (.if_icmp .ne 7, 3) := by decide +kernel
theorem dX8_exchanged_5 : decode cX8_exchanged 5 = .ok (.iload_n 2, 1) := by decide +kernel
theorem dX8_exchanged_6 : decode cX8_exchanged 6 = .ok (.goto 13, 3) := by decide +kernel
theorem dX8_exchanged_9 : decode cX8_exchanged 9 = .ok (.iload_n 0, 1) := by decide +kernel
theorem dX8_exchanged_10 : decode cX8_exchanged 10 = .ok (.iload_n 2, 1) := by decide +kernel
theorem dX8_exchanged_11 : decode cX8_exchanged 11 = .ok (.if_icmp .ne 7, 3) := by decide +kernel
theorem dX8_exchanged_14 : decode cX8_exchanged 14 = .ok (.iload_n 1, 1) := by decide +kernel
theorem dX8_exchanged_15 : decode cX8_exchanged 15 = .ok (.goto 4, 3) := by decide +kernel
theorem dX8_exchanged_18 : decode cX8_exchanged 18 = .ok (.iload_n 0, 1) := by decide +kernel
theorem dX8_exchanged_19 : decode cX8_exchanged 19 = .ok (.ireturn, 1) := by decide +kernel
theorem dX8_boatsBy_0 : decode cX8_boatsBy 0 = .ok (.iload_n 2, 1) := by decide +kernel
theorem dX8_boatsBy_1 : decode cX8_boatsBy 1 = .ok (.i2l, 1) := by decide +kernel
theorem dX8_boatsBy_2 : decode cX8_boatsBy 2 = .ok (.lstore 6, 2) := by decide +kernel
theorem dX8_boatsBy_4 : decode cX8_boatsBy 4 = .ok (.iconst 0, 1) := by decide +kernel
theorem dX8_boatsBy_5 : decode cX8_boatsBy 5 = .ok (.istore 8, 2) := by decide +kernel
theorem dX8_boatsBy_7 : decode cX8_boatsBy 7 = .ok (.iconst 0, 1) := by decide +kernel
theorem dX8_boatsBy_8 : decode cX8_boatsBy 8 = .ok (.istore 9, 2) := by decide +kernel
theorem dX8_boatsBy_10 : decode cX8_boatsBy 10 = .ok (.iload 9, 2) := by decide +kernel
theorem dX8_boatsBy_12 : decode cX8_boatsBy 12 = .ok (.iload_n 3, 1) := by decide +kernel
theorem dX8_boatsBy_13 : decode cX8_boatsBy 13 = .ok (.if_icmp .ge 113, 3) := by decide +kernel
theorem dX8_boatsBy_16 : decode cX8_boatsBy 16 = .ok (.lload 6, 2) := by decide +kernel
theorem dX8_boatsBy_18 : decode cX8_boatsBy 18 = .ok (.ldc2_w 226, 3) := by decide +kernel
theorem dX8_boatsBy_21 : decode cX8_boatsBy 21 = .ok (.lmul, 1) := by decide +kernel
theorem dX8_boatsBy_22 : decode cX8_boatsBy 22 = .ok (.ldc2_w 228, 3) := by decide +kernel
theorem dX8_boatsBy_25 : decode cX8_boatsBy 25 = .ok (.ladd, 1) := by decide +kernel
theorem dX8_boatsBy_26 : decode cX8_boatsBy 26 = .ok (.ldc2_w 230, 3) := by decide +kernel
theorem dX8_boatsBy_29 : decode cX8_boatsBy 29 = .ok (.lrem, 1) := by decide +kernel
theorem dX8_boatsBy_30 : decode cX8_boatsBy 30 = .ok (.lstore 6, 2) := by decide +kernel
theorem dX8_boatsBy_32 : decode cX8_boatsBy 32 = .ok (.lload 6, 2) := by decide +kernel
theorem dX8_boatsBy_34 : decode cX8_boatsBy 34 = .ok (.ldc2_w 232, 3) := by decide +kernel
theorem dX8_boatsBy_37 : decode cX8_boatsBy 37 = .ok (.ldiv, 1) := by decide +kernel
theorem dX8_boatsBy_38 : decode cX8_boatsBy 38 = .ok (.ldc2_w 234, 3) := by decide +kernel
theorem dX8_boatsBy_41 : decode cX8_boatsBy 41 = .ok (.lrem, 1) := by decide +kernel
theorem dX8_boatsBy_42 : decode cX8_boatsBy 42 = .ok (.l2i, 1) := by decide +kernel
theorem dX8_boatsBy_43 : decode cX8_boatsBy 43 = .ok (.istore 10, 2) := by decide +kernel
theorem dX8_boatsBy_45 : decode cX8_boatsBy 45 = .ok (.aload_n 0, 1) := by decide +kernel
theorem dX8_boatsBy_46 : decode cX8_boatsBy 46 = .ok (.getfield 16, 3) := by decide +kernel
theorem dX8_boatsBy_49 : decode cX8_boatsBy 49 = .ok (.iload_n 1, 1) := by decide +kernel
theorem dX8_boatsBy_50 : decode cX8_boatsBy 50 = .ok (.laload, 1) := by decide +kernel
theorem dX8_boatsBy_51 : decode cX8_boatsBy 51 = .ok (.lstore 11, 2) := by decide +kernel
theorem dX8_boatsBy_53 : decode cX8_boatsBy 53 = .ok (.iconst 1, 1) := by decide +kernel
theorem dX8_boatsBy_54 : decode cX8_boatsBy 54 = .ok (.istore 13, 2) := by decide +kernel
theorem dX8_boatsBy_56 : decode cX8_boatsBy 56 = .ok (.iconst 0, 1) := by decide +kernel
theorem dX8_boatsBy_57 : decode cX8_boatsBy 57 = .ok (.istore 14, 2) := by decide +kernel
theorem dX8_boatsBy_59 : decode cX8_boatsBy 59 = .ok (.iload 14, 2) := by decide +kernel
theorem dX8_boatsBy_61 : decode cX8_boatsBy 61 = .ok (.aload_n 0, 1) := by decide +kernel
theorem dX8_boatsBy_62 : decode cX8_boatsBy 62 = .ok (.invokevirtual 102, 3) := by decide +kernel
theorem dX8_boatsBy_65 : decode cX8_boatsBy 65 = .ok (.if_icmp .ge 40, 3) := by decide +kernel
theorem dX8_boatsBy_68 : decode cX8_boatsBy 68 = .ok (.iload 13, 2) := by decide +kernel
theorem dX8_boatsBy_70 : decode cX8_boatsBy 70 = .ok (.ifCond .eq 35, 3) := by decide +kernel
theorem dX8_boatsBy_73 : decode cX8_boatsBy 73 = .ok (.aload_n 0, 1) := by decide +kernel
theorem dX8_boatsBy_74 : decode cX8_boatsBy 74 = .ok (.iload 14, 2) := by decide +kernel
theorem dX8_boatsBy_76 : decode cX8_boatsBy 76 = .ok (.iload 4, 2) := by decide +kernel
theorem dX8_boatsBy_78 : decode cX8_boatsBy 78 = .ok (.iload 5, 2) := by decide +kernel
theorem dX8_boatsBy_80 : decode cX8_boatsBy 80 = .ok (.invokestatic 236, 3) := by decide +kernel
theorem dX8_boatsBy_83 : decode cX8_boatsBy 83 = .ok (.lload 11, 2) := by decide +kernel
theorem dX8_boatsBy_85 : decode cX8_boatsBy 85 = .ok (.invokevirtual 158, 3) := by decide +kernel
theorem dX8_boatsBy_88 : decode cX8_boatsBy 88 = .ok (.lstore 11, 2) := by decide +kernel
theorem dX8_boatsBy_90 : decode cX8_boatsBy 90 = .ok (.iload 10, 2) := by decide +kernel
theorem dX8_boatsBy_92 : decode cX8_boatsBy 92 = .ok (.lload 11, 2) := by decide +kernel
theorem dX8_boatsBy_94 : decode cX8_boatsBy 94 = .ok (.invokestatic 164, 3) := by decide +kernel
theorem dX8_boatsBy_97 : decode cX8_boatsBy 97 = .ok (.istore 13, 2) := by decide +kernel
theorem dX8_boatsBy_99 : decode cX8_boatsBy 99 = .ok (.iinc 14 1, 3) := by decide +kernel
theorem dX8_boatsBy_102 : decode cX8_boatsBy 102 = .ok (.goto (-43), 3) := by decide +kernel
theorem dX8_boatsBy_105 : decode cX8_boatsBy 105 = .ok (.iload 8, 2) := by decide +kernel
theorem dX8_boatsBy_107 : decode cX8_boatsBy 107 = .ok (.iload 13, 2) := by decide +kernel
theorem dX8_boatsBy_109 : decode cX8_boatsBy 109 = .ok (.ifCond .eq 7, 3) := by decide +kernel
theorem dX8_boatsBy_112 : decode cX8_boatsBy 112 = .ok (.iconst 1, 1) := by decide +kernel
theorem dX8_boatsBy_113 : decode cX8_boatsBy 113 = .ok (.goto 4, 3) := by decide +kernel
theorem dX8_boatsBy_116 : decode cX8_boatsBy 116 = .ok (.iconst 0, 1) := by decide +kernel
theorem dX8_boatsBy_117 : decode cX8_boatsBy 117 = .ok (.iadd, 1) := by decide +kernel
theorem dX8_boatsBy_118 : decode cX8_boatsBy 118 = .ok (.istore 8, 2) := by decide +kernel
theorem dX8_boatsBy_120 : decode cX8_boatsBy 120 = .ok (.iinc 9 1, 3) := by decide +kernel
theorem dX8_boatsBy_123 : decode cX8_boatsBy 123 = .ok (.goto (-113), 3) := by decide +kernel
theorem dX8_boatsBy_126 : decode cX8_boatsBy 126 = .ok (.iload 8, 2) := by decide +kernel
theorem dX8_boatsBy_128 : decode cX8_boatsBy 128 = .ok (.ireturn, 1) := by decide +kernel
theorem dX8_areBoats_0 : decode cX8_areBoats 0 = .ok (.iload_n 0, 1) := by decide +kernel
theorem dX8_areBoats_1 : decode cX8_areBoats 1 = .ok (.i2l, 1) := by decide +kernel
theorem dX8_areBoats_2 : decode cX8_areBoats 2 = .ok (.lconst 0, 1) := by decide +kernel
theorem dX8_areBoats_3 : decode cX8_areBoats 3 = .ok (.ldc2_w 240, 3) := by decide +kernel
theorem dX8_areBoats_6 : decode cX8_areBoats 6 = .ok (.invokestatic 106, 3) := by decide +kernel
theorem dX8_areBoats_9 : decode cX8_areBoats 9 = .ok (.ifCond .eq 19, 3) := by decide +kernel
theorem dX8_areBoats_12 : decode cX8_areBoats 12 = .ok (.iload_n 1, 1) := by decide +kernel
theorem dX8_areBoats_13 : decode cX8_areBoats 13 = .ok (.i2l, 1) := by decide +kernel
theorem dX8_areBoats_14 : decode cX8_areBoats 14 = .ok (.lconst 0, 1) := by decide +kernel
theorem dX8_areBoats_15 : decode cX8_areBoats 15 = .ok (.ldc2_w 242, 3) := by decide +kernel
theorem dX8_areBoats_18 : decode cX8_areBoats 18 = .ok (.invokestatic 106, 3) := by decide +kernel
theorem dX8_areBoats_21 : decode cX8_areBoats 21 = .ok (.ifCond .eq 7, 3) := by decide +kernel
theorem dX8_areBoats_24 : decode cX8_areBoats 24 = .ok (.iconst 1, 1) := by decide +kernel
theorem dX8_areBoats_25 : decode cX8_areBoats 25 = .ok (.goto 4, 3) := by decide +kernel
theorem dX8_areBoats_28 : decode cX8_areBoats 28 = .ok (.iconst 0, 1) := by decide +kernel
theorem dX8_areBoats_29 : decode cX8_areBoats 29 = .ok (.ireturn, 1) := by decide +kernel
theorem dX8_boats_0 : decode cX8_boats 0 = .ok (.iload_n 1, 1) := by decide +kernel
theorem dX8_boats_1 : decode cX8_boats 1 = .ok (.invokestatic 148, 3) := by decide +kernel
theorem dX8_boats_4 : decode cX8_boats 4 = .ok (.ifCond .eq 23, 3) := by decide +kernel
theorem dX8_boats_7 : decode cX8_boats 7 = .ok (.iload_n 2, 1) := by decide +kernel
theorem dX8_boats_8 : decode cX8_boats 8 = .ok (.iload_n 3, 1) := by decide +kernel
theorem dX8_boats_9 : decode cX8_boats 9 = .ok (.invokestatic 244, 3) := by decide +kernel
theorem dX8_boats_12 : decode cX8_boats 12 = .ok (.ifCond .eq 15, 3) := by decide +kernel
theorem dX8_boats_15 : decode cX8_boats 15 = .ok (.aload_n 0, 1) := by decide +kernel
theorem dX8_boats_16 : decode cX8_boats 16 = .ok (.iload_n 1, 1) := by decide +kernel
theorem dX8_boats_17 : decode cX8_boats 17 = .ok (.iload_n 2, 1) := by decide +kernel
theorem dX8_boats_18 : decode cX8_boats 18 = .ok (.iload_n 3, 1) := by decide +kernel
theorem dX8_boats_19 : decode cX8_boats 19 = .ok (.iconst (-1), 1) := by decide +kernel
theorem dX8_boats_20 : decode cX8_boats 20 = .ok (.iconst (-1), 1) := by decide +kernel
theorem dX8_boats_21 : decode cX8_boats 21 = .ok (.invokevirtual 247, 3) := by decide +kernel
theorem dX8_boats_24 : decode cX8_boats 24 = .ok (.goto 9, 3) := by decide +kernel
theorem dX8_boats_27 : decode cX8_boats 27 = .ok (.aload_n 0, 1) := by decide +kernel
theorem dX8_boats_28 : decode cX8_boats 28 = .ok (.bipush (-2), 2) := by decide +kernel
theorem dX8_boats_30 : decode cX8_boats 30 = .ok (.invokevirtual 116, 3) := by decide +kernel
theorem dX8_boats_33 : decode cX8_boats 33 = .ok (.ireturn, 1) := by decide +kernel
theorem dX8_flood_0 : decode cX8_flood 0 = .ok (.iload_n 1, 1) := by decide +kernel
theorem dX8_flood_1 : decode cX8_flood 1 = .ok (.invokestatic 148, 3) := by decide +kernel
theorem dX8_flood_4 : decode cX8_flood 4 = .ok (.ifCond .eq 29, 3) := by decide +kernel
theorem dX8_flood_7 : decode cX8_flood 7 = .ok (.iload_n 2, 1) := by decide +kernel
theorem dX8_flood_8 : decode cX8_flood 8 = .ok (.iload_n 3, 1) := by decide +kernel
theorem dX8_flood_9 : decode cX8_flood 9 = .ok (.invokestatic 244, 3) := by decide +kernel
theorem dX8_flood_12 : decode cX8_flood 12 = .ok (.ifCond .eq 21, 3) := by decide +kernel
theorem dX8_flood_15 : decode cX8_flood 15 = .ok (.aload_n 0, 1) := by decide +kernel
theorem dX8_flood_16 : decode cX8_flood 16 = .ok (.iload 4, 2) := by decide +kernel
theorem dX8_flood_18 : decode cX8_flood 18 = .ok (.invokevirtual 139, 3) := by decide +kernel
theorem dX8_flood_21 : decode cX8_flood 21 = .ok (.ifCond .eq 12, 3) := by decide +kernel
theorem dX8_flood_24 : decode cX8_flood 24 = .ok (.aload_n 0, 1) := by decide +kernel
theorem dX8_flood_25 : decode cX8_flood 25 = .ok (.iload 5, 2) := by decide +kernel
theorem dX8_flood_27 : decode cX8_flood 27 = .ok (.invokevirtual 139, 3) := by decide +kernel
theorem dX8_flood_30 : decode cX8_flood 30 = .ok (.ifCond .ne 10, 3) := by decide +kernel
theorem dX8_flood_33 : decode cX8_flood 33 = .ok (.aload_n 0, 1) := by decide +kernel
theorem dX8_flood_34 : decode cX8_flood 34 = .ok (.bipush (-100), 2) := by decide +kernel
theorem dX8_flood_36 : decode cX8_flood 36 = .ok (.invokevirtual 116, 3) := by decide +kernel
theorem dX8_flood_39 : decode cX8_flood 39 = .ok (.ireturn, 1) := by decide +kernel
theorem dX8_flood_40 : decode cX8_flood 40 = .ok (.aload_n 0, 1) := by decide +kernel
theorem dX8_flood_41 : decode cX8_flood 41 = .ok (.iload_n 1, 1) := by decide +kernel
theorem dX8_flood_42 : decode cX8_flood 42 = .ok (.iload_n 2, 1) := by decide +kernel
theorem dX8_flood_43 : decode cX8_flood 43 = .ok (.iload_n 3, 1) := by decide +kernel
theorem dX8_flood_44 : decode cX8_flood 44 = .ok (.iload 4, 2) := by decide +kernel
theorem dX8_flood_46 : decode cX8_flood 46 = .ok (.iload 5, 2) := by decide +kernel
theorem dX8_flood_48 : decode cX8_flood 48 = .ok (.invokevirtual 247, 3) := by decide +kernel
theorem dX8_flood_51 : decode cX8_flood 51 = .ok (.aload_n 0, 1) := by decide +kernel
theorem dX8_flood_52 : decode cX8_flood 52 = .ok (.iload_n 1, 1) := by decide +kernel
theorem dX8_flood_53 : decode cX8_flood 53 = .ok (.iload_n 2, 1) := by decide +kernel
theorem dX8_flood_54 : decode cX8_flood 54 = .ok (.iload_n 3, 1) := by decide +kernel
theorem dX8_flood_55 : decode cX8_flood 55 = .ok (.iconst (-1), 1) := by decide +kernel
theorem dX8_flood_56 : decode cX8_flood 56 = .ok (.iconst (-1), 1) := by decide +kernel
theorem dX8_flood_57 : decode cX8_flood 57 = .ok (.invokevirtual 247, 3) := by decide +kernel
theorem dX8_flood_60 : decode cX8_flood 60 = .ok (.isub, 1) := by decide +kernel
theorem dX8_flood_61 : decode cX8_flood 61 = .ok (.ireturn, 1) := by decide +kernel
theorem dX8_type_0 : decode cX8_type 0 = .ok (.iload_n 1, 1) := by decide +kernel
theorem dX8_type_1 : decode cX8_type 1 = .ok (.i2l, 1) := by decide +kernel
theorem dX8_type_2 : decode cX8_type 2 = .ok (.lconst 0, 1) := by decide +kernel
theorem dX8_type_3 : decode cX8_type 3 = .ok (.ldc2_w 251, 3) := by decide +kernel
theorem dX8_type_6 : decode cX8_type 6 = .ok (.invokestatic 106, 3) := by decide +kernel
theorem dX8_type_9 : decode cX8_type 9 = .ok (.ifCond .ne 10, 3) := by decide +kernel
theorem dX8_type_12 : decode cX8_type 12 = .ok (.aload_n 0, 1) := by decide +kernel
theorem dX8_type_13 : decode cX8_type 13 = .ok (.bipush (-2), 2) := by decide +kernel
theorem dX8_type_15 : decode cX8_type 15 = .ok (.invokevirtual 116, 3) := by decide +kernel
theorem dX8_type_18 : decode cX8_type 18 = .ok (.ireturn, 1) := by decide +kernel
theorem dX8_type_19 : decode cX8_type 19 = .ok (.aload_n 0, 1) := by decide +kernel
theorem dX8_type_20 : decode cX8_type 20 = .ok (.getfield 253, 3) := by decide +kernel
theorem dX8_type_23 : decode cX8_type 23 = .ok (.sipush 150, 3) := by decide +kernel
theorem dX8_type_26 : decode cX8_type 26 = .ok (.if_icmp .ne 8, 3) := by decide +kernel
theorem dX8_type_29 : decode cX8_type 29 = .ok (.aload_n 0, 1) := by decide +kernel
theorem dX8_type_30 : decode cX8_type 30 = .ok (.invokevirtual 128, 3) := by decide +kernel
theorem dX8_type_33 : decode cX8_type 33 = .ok (.ireturn, 1) := by decide +kernel
theorem dX8_type_34 : decode cX8_type 34 = .ok (.aload_n 0, 1) := by decide +kernel
theorem dX8_type_35 : decode cX8_type 35 = .ok (.getfield 55, 3) := by decide +kernel
theorem dX8_type_38 : decode cX8_type 38 = .ok (.aload_n 0, 1) := by decide +kernel
theorem dX8_type_39 : decode cX8_type 39 = .ok (.getfield 253, 3) := by decide +kernel
theorem dX8_type_42 : decode cX8_type 42 = .ok (.iload_n 1, 1) := by decide +kernel
theorem dX8_type_43 : decode cX8_type 43 = .ok (.iastore, 1) := by decide +kernel
theorem dX8_type_44 : decode cX8_type 44 = .ok (.aload_n 0, 1) := by decide +kernel
theorem dX8_type_45 : decode cX8_type 45 = .ok (.dup, 1) := by decide +kernel
theorem dX8_type_46 : decode cX8_type 46 = .ok (.getfield 253, 3) := by decide +kernel
theorem dX8_type_49 : decode cX8_type 49 = .ok (.iconst 1, 1) := by decide +kernel
theorem dX8_type_50 : decode cX8_type 50 = .ok (.iadd, 1) := by decide +kernel
theorem dX8_type_51 : decode cX8_type 51 = .ok (.putfield 253, 3) := by decide +kernel
theorem dX8_type_54 : decode cX8_type 54 = .ok (.aload_n 0, 1) := by decide +kernel
theorem dX8_type_55 : decode cX8_type 55 = .ok (.getfield 253, 3) := by decide +kernel
theorem dX8_type_58 : decode cX8_type 58 = .ok (.ireturn, 1) := by decide +kernel
theorem dX8_clear_0 : decode cX8_clear 0 = .ok (.aload_n 0, 1) := by decide +kernel
theorem dX8_clear_1 : decode cX8_clear 1 = .ok (.getfield 253, 3) := by decide +kernel
theorem dX8_clear_4 : decode cX8_clear 4 = .ok (.istore_n 1, 1) := by decide +kernel
theorem dX8_clear_5 : decode cX8_clear 5 = .ok (.aload_n 0, 1) := by decide +kernel
theorem dX8_clear_6 : decode cX8_clear 6 = .ok (.iconst 0, 1) := by decide +kernel
theorem dX8_clear_7 : decode cX8_clear 7 = .ok (.putfield 253, 3) := by decide +kernel
theorem dX8_clear_10 : decode cX8_clear 10 = .ok (.iload_n 1, 1) := by decide +kernel
theorem dX8_clear_11 : decode cX8_clear 11 = .ok (.ireturn, 1) := by decide +kernel
theorem dX8_isSmall_0 : decode cX8_isSmall 0 = .ok (.iload_n 0, 1) := by decide +kernel
theorem dX8_isSmall_1 : decode cX8_isSmall 1 = .ok (.i2l, 1) := by decide +kernel
theorem dX8_isSmall_2 : decode cX8_isSmall 2 = .ok (.ldc2_w 256, 3) := by decide +kernel
theorem dX8_isSmall_5 : decode cX8_isSmall 5 = .ok (.ldc2_w 258, 3) := by decide +kernel
theorem dX8_isSmall_8 : decode cX8_isSmall 8 = .ok (.invokestatic 106, 3) := by decide +kernel
theorem dX8_isSmall_11 : decode cX8_isSmall 11 = .ok (.ireturn, 1) := by decide +kernel
theorem dX8_isFigure_0 : decode cX8_isFigure 0 = .ok (.iload_n 0, 1) := by decide +kernel
theorem dX8_isFigure_1 : decode cX8_isFigure 1 = .ok (.i2l, 1) := by decide +kernel
theorem dX8_isFigure_2 : decode cX8_isFigure 2 = .ok (.ldc2_w 260, 3) := by decide +kernel
theorem dX8_isFigure_5 : decode cX8_isFigure 5 = .ok (.ldc2_w 262, 3) := by decide +kernel
theorem dX8_isFigure_8 : decode cX8_isFigure 8 = .ok (.invokestatic 106, 3) := by decide +kernel
theorem dX8_isFigure_11 : decode cX8_isFigure 11 = .ok (.ireturn, 1) := by decide +kernel
theorem dX8_lookAt_0 : decode cX8_lookAt 0 = .ok (.aload_n 0, 1) := by decide +kernel
theorem dX8_lookAt_1 : decode cX8_lookAt 1 = .ok (.iload_n 1, 1) := by decide +kernel
theorem dX8_lookAt_2 : decode cX8_lookAt 2 = .ok (.putfield 264, 3) := by decide +kernel
theorem dX8_lookAt_5 : decode cX8_lookAt 5 = .ok (.aload_n 0, 1) := by decide +kernel
theorem dX8_lookAt_6 : decode cX8_lookAt 6 = .ok (.getfield 264, 3) := by decide +kernel
theorem dX8_lookAt_9 : decode cX8_lookAt 9 = .ok (.aload_n 0, 1) := by decide +kernel
theorem dX8_lookAt_10 : decode cX8_lookAt 10 = .ok (.getfield 253, 3) := by decide +kernel
theorem dX8_lookAt_13 : decode cX8_lookAt 13 = .ok (.if_icmp .ge 30, 3) := by decide +kernel
theorem dX8_lookAt_16 : decode cX8_lookAt 16 = .ok (.aload_n 0, 1) := by decide +kernel
theorem dX8_lookAt_17 : decode cX8_lookAt 17 = .ok (.getfield 55, 3) := by decide +kernel
theorem dX8_lookAt_20 : decode cX8_lookAt 20 = .ok (.aload_n 0, 1) := by decide +kernel
theorem dX8_lookAt_21 : decode cX8_lookAt 21 = .ok (.getfield 264, 3) := by decide +kernel
theorem dX8_lookAt_24 : decode cX8_lookAt 24 = .ok (.iaload, 1) := by decide +kernel
theorem dX8_lookAt_25 : decode cX8_lookAt 25 = .ok (.bipush 32, 2) := by decide +kernel
theorem dX8_lookAt_27 : decode cX8_lookAt 27 = .ok (.if_icmp .ne 16, 3) := by decide +kernel
theorem dX8_lookAt_30 : decode cX8_lookAt 30 = .ok (.aload_n 0, 1) := by decide +kernel
theorem dX8_lookAt_31 : decode cX8_lookAt 31 = .ok (.dup, 1) := by decide +kernel
theorem dX8_lookAt_32 : decode cX8_lookAt 32 = .ok (.getfield 264, 3) := by decide +kernel
theorem dX8_lookAt_35 : decode cX8_lookAt 35 = .ok (.iconst 1, 1) := by decide +kernel
theorem dX8_lookAt_36 : decode cX8_lookAt 36 = .ok (.iadd, 1) := by decide +kernel
theorem dX8_lookAt_37 : decode cX8_lookAt 37 = .ok (.putfield 264, 3) := by decide +kernel
theorem dX8_lookAt_40 : decode cX8_lookAt 40 = .ok (.goto (-35), 3) := by decide +kernel
theorem dX8_lookAt_43 : decode cX8_lookAt 43 = .ok (.aload_n 0, 1) := by decide +kernel
theorem dX8_lookAt_44 : decode cX8_lookAt 44 = .ok (.iconst 0, 1) := by decide +kernel
theorem dX8_lookAt_45 : decode cX8_lookAt 45 = .ok (.putfield 267, 3) := by decide +kernel
theorem dX8_lookAt_48 : decode cX8_lookAt 48 = .ok (.aload_n 0, 1) := by decide +kernel
theorem dX8_lookAt_49 : decode cX8_lookAt 49 = .ok (.iconst 0, 1) := by decide +kernel
theorem dX8_lookAt_50 : decode cX8_lookAt 50 = .ok (.putfield 270, 3) := by decide +kernel
theorem dX8_lookAt_53 : decode cX8_lookAt 53 = .ok (.aload_n 0, 1) := by decide +kernel
theorem dX8_lookAt_54 : decode cX8_lookAt 54 = .ok (.iconst 0, 1) := by decide +kernel
theorem dX8_lookAt_55 : decode cX8_lookAt 55 = .ok (.putfield 273, 3) := by decide +kernel
theorem dX8_lookAt_58 : decode cX8_lookAt 58 = .ok (.aload_n 0, 1) := by decide +kernel
theorem dX8_lookAt_59 : decode cX8_lookAt 59 = .ok (.getfield 264, 3) := by decide +kernel
theorem dX8_lookAt_62 : decode cX8_lookAt 62 = .ok (.aload_n 0, 1) := by decide +kernel
theorem dX8_lookAt_63 : decode cX8_lookAt 63 = .ok (.getfield 253, 3) := by decide +kernel
theorem dX8_lookAt_66 : decode cX8_lookAt 66 = .ok (.if_icmp .ne 4, 3) := by decide +kernel
theorem dX8_lookAt_69 : decode cX8_lookAt 69 = .ok (.return_, 1) := by decide +kernel
theorem dX8_lookAt_70 : decode cX8_lookAt 70 = .ok (.aload_n 0, 1) := by decide +kernel
theorem dX8_lookAt_71 : decode cX8_lookAt 71 = .ok (.getfield 55, 3) := by decide +kernel
theorem dX8_lookAt_74 : decode cX8_lookAt 74 = .ok (.aload_n 0, 1) := by decide +kernel
theorem dX8_lookAt_75 : decode cX8_lookAt 75 = .ok (.getfield 264, 3) := by decide +kernel
theorem dX8_lookAt_78 : decode cX8_lookAt 78 = .ok (.iaload, 1) := by decide +kernel
theorem dX8_lookAt_79 : decode cX8_lookAt 79 = .ok (.istore_n 2, 1) := by decide +kernel
theorem dX8_lookAt_80 : decode cX8_lookAt 80 = .ok (.aload_n 0, 1) := by decide +kernel
theorem dX8_lookAt_81 : decode cX8_lookAt 81 = .ok (.iload_n 2, 1) := by decide +kernel
theorem dX8_lookAt_82 : decode cX8_lookAt 82 = .ok (.invokestatic 276, 3) := by decide +kernel
theorem dX8_lookAt_85 : decode cX8_lookAt 85 = .ok (.ifCond .eq 7, 3) := by decide +kernel
theorem dX8_lookAt_88 : decode cX8_lookAt 88 = .ok (.iconst 1, 1) := by decide +kernel
theorem dX8_lookAt_89 : decode cX8_lookAt 89 = .ok (.goto 25, 3) := by decide +kernel
theorem dX8_lookAt_92 : decode cX8_lookAt 92 = .ok (.iload_n 2, 1) := by decide +kernel
theorem dX8_lookAt_93 : decode cX8_lookAt 93 = .ok (.invokestatic 279, 3) := by decide +kernel
theorem dX8_lookAt_96 : decode cX8_lookAt 96 = .ok (.ifCond .eq 7, 3) := by decide +kernel
theorem dX8_lookAt_99 : decode cX8_lookAt 99 = .ok (.iconst 2, 1) := by decide +kernel
theorem dX8_lookAt_100 : decode cX8_lookAt 100 = .ok (.goto 14, 3) := by decide +kernel
theorem dX8_lookAt_103 : decode cX8_lookAt 103 = .ok (.iload_n 2, 1) := by decide +kernel
theorem dX8_lookAt_104 : decode cX8_lookAt 104 = .ok (.bipush 59, 2) := by decide +kernel
theorem dX8_lookAt_106 : decode cX8_lookAt 106 = .ok (.if_icmp .ne 7, 3) := by decide +kernel
theorem dX8_lookAt_109 : decode cX8_lookAt 109 = .ok (.iconst 3, 1) := by decide +kernel
theorem dX8_lookAt_110 : decode cX8_lookAt 110 = .ok (.goto 4, 3) := by decide +kernel
theorem dX8_lookAt_113 : decode cX8_lookAt 113 = .ok (.iconst 4, 1) := by decide +kernel
theorem dX8_lookAt_114 : decode cX8_lookAt 114 = .ok (.putfield 270, 3) := by decide +kernel
theorem dX8_lookAt_117 : decode cX8_lookAt 117 = .ok (.aload_n 0, 1) := by decide +kernel
theorem dX8_lookAt_118 : decode cX8_lookAt 118 = .ok (.iconst 1, 1) := by decide +kernel
theorem dX8_lookAt_119 : decode cX8_lookAt 119 = .ok (.putfield 267, 3) := by decide +kernel
theorem dX8_lookAt_122 : decode cX8_lookAt 122 = .ok (.aload_n 0, 1) := by decide +kernel
theorem dX8_lookAt_123 : decode cX8_lookAt 123 = .ok (.getfield 270, 3) := by decide +kernel
theorem dX8_lookAt_126 : decode cX8_lookAt 126 = .ok (.iconst 3, 1) := by decide +kernel
theorem dX8_lookAt_127 : decode cX8_lookAt 127 = .ok (.if_icmp .ge 7, 3) := by decide +kernel
theorem dX8_lookAt_130 : decode cX8_lookAt 130 = .ok (.iconst 1, 1) := by decide +kernel
theorem dX8_lookAt_131 : decode cX8_lookAt 131 = .ok (.goto 4, 3) := by decide +kernel
theorem dX8_lookAt_134 : decode cX8_lookAt 134 = .ok (.iconst 0, 1) := by decide +kernel
theorem dX8_lookAt_135 : decode cX8_lookAt 135 = .ok (.istore_n 3, 1) := by decide +kernel
theorem dX8_lookAt_136 : decode cX8_lookAt 136 = .ok (.iload_n 3, 1) := by decide +kernel
theorem dX8_lookAt_137 : decode cX8_lookAt 137 = .ok (.ifCond .eq 78, 3) := by decide +kernel
theorem dX8_lookAt_140 : decode cX8_lookAt 140 = .ok (.aload_n 0, 1) := by decide +kernel
theorem dX8_lookAt_141 : decode cX8_lookAt 141 = .ok (.getfield 264, 3) := by decide +kernel
theorem dX8_lookAt_144 : decode cX8_lookAt 144 = .ok (.aload_n 0, 1) := by decide +kernel
theorem dX8_lookAt_145 : decode cX8_lookAt 145 = .ok (.getfield 267, 3) := by decide +kernel
theorem dX8_lookAt_148 : decode cX8_lookAt 148 = .ok (.iadd, 1) := by decide +kernel
theorem dX8_lookAt_149 : decode cX8_lookAt 149 = .ok (.aload_n 0, 1) := by decide +kernel
theorem dX8_lookAt_150 : decode cX8_lookAt 150 = .ok (.getfield 253, 3) := by decide +kernel
theorem dX8_lookAt_153 : decode cX8_lookAt 153 = .ok (.if_icmp .ge 62, 3) := by decide +kernel
theorem dX8_lookAt_156 : decode cX8_lookAt 156 = .ok (.aload_n 0, 1) := by decide +kernel
theorem dX8_lookAt_157 : decode cX8_lookAt 157 = .ok (.getfield 55, 3) := by decide +kernel
theorem dX8_lookAt_160 : decode cX8_lookAt 160 = .ok (.aload_n 0, 1) := by decide +kernel
theorem dX8_lookAt_161 : decode cX8_lookAt 161 = .ok (.getfield 264, 3) := by decide +kernel
theorem dX8_lookAt_164 : decode cX8_lookAt 164 = .ok (.aload_n 0, 1) := by decide +kernel
theorem dX8_lookAt_165 : decode cX8_lookAt 165 = .ok (.getfield 267, 3) := by decide +kernel
theorem dX8_lookAt_168 : decode cX8_lookAt 168 = .ok (.iadd, 1) := by decide +kernel
theorem dX8_lookAt_169 : decode cX8_lookAt 169 = .ok (.iaload, 1) := by decide +kernel
theorem dX8_lookAt_170 : decode cX8_lookAt 170 = .ok (.istore 4, 2) := by decide +kernel
theorem dX8_lookAt_172 : decode cX8_lookAt 172 = .ok (.aload_n 0, 1) := by decide +kernel
theorem dX8_lookAt_173 : decode cX8_lookAt 173 = .ok (.getfield 270, 3) := by decide +kernel
theorem dX8_lookAt_176 : decode cX8_lookAt 176 = .ok (.iconst 1, 1) := by decide +kernel
theorem dX8_lookAt_177 : decode cX8_lookAt 177 = .ok (.if_icmp .ne 11, 3) := by decide +kernel
theorem dX8_lookAt_180 : decode cX8_lookAt 180 = .ok (.iload 4, 2) := by decide +kernel
theorem dX8_lookAt_182 : decode cX8_lookAt 182 = .ok (.invokestatic 276, 3) := by decide +kernel
theorem dX8_lookAt_185 : decode cX8_lookAt 185 = .ok (.goto 8, 3) := by decide +kernel
theorem dX8_lookAt_188 : decode cX8_lookAt 188 = .ok (.iload 4, 2) := by decide +kernel
theorem dX8_lookAt_190 : decode cX8_lookAt 190 = .ok (.invokestatic 279, 3) := by decide +kernel
theorem dX8_lookAt_193 : decode cX8_lookAt 193 = .ok (.istore_n 3, 1) := by decide +kernel
theorem dX8_lookAt_194 : decode cX8_lookAt 194 = .ok (.aload_n 0, 1) := by decide +kernel
theorem dX8_lookAt_195 : decode cX8_lookAt 195 = .ok (.dup, 1) := by decide +kernel
theorem dX8_lookAt_196 : decode cX8_lookAt 196 = .ok (.getfield 267, 3) := by decide +kernel
theorem dX8_lookAt_199 : decode cX8_lookAt 199 = .ok (.iload_n 3, 1) := by decide +kernel
theorem dX8_lookAt_200 : decode cX8_lookAt 200 = .ok (.ifCond .eq 7, 3) := by decide +kernel
theorem dX8_lookAt_203 : decode cX8_lookAt 203 = .ok (.iconst 1, 1) := by decide +kernel
theorem dX8_lookAt_204 : decode cX8_lookAt 204 = .ok (.goto 4, 3) := by decide +kernel
theorem dX8_lookAt_207 : decode cX8_lookAt 207 = .ok (.iconst 0, 1) := by decide +kernel
theorem dX8_lookAt_208 : decode cX8_lookAt 208 = .ok (.iadd, 1) := by decide +kernel
theorem dX8_lookAt_209 : decode cX8_lookAt 209 = .ok (.putfield 267, 3) := by decide +kernel
theorem dX8_lookAt_212 : decode cX8_lookAt 212 = .ok (.goto (-76), 3) := by decide +kernel
theorem dX8_lookAt_215 : decode cX8_lookAt 215 = .ok (.iconst 0, 1) := by decide +kernel
theorem dX8_lookAt_216 : decode cX8_lookAt 216 = .ok (.istore 4, 2) := by decide +kernel
theorem dX8_lookAt_218 : decode cX8_lookAt 218 = .ok (.iload 4, 2) := by decide +kernel
theorem dX8_lookAt_220 : decode cX8_lookAt 220 = .ok (.aload_n 0, 1) := by decide +kernel
theorem dX8_lookAt_221 : decode cX8_lookAt 221 = .ok (.getfield 267, 3) := by decide +kernel
theorem dX8_lookAt_224 : decode cX8_lookAt 224 = .ok (.if_icmp .ge 50, 3) := by decide +kernel
theorem dX8_lookAt_227 : decode cX8_lookAt 227 = .ok (.iload 4, 2) := by decide +kernel
theorem dX8_lookAt_229 : decode cX8_lookAt 229 = .ok (.iconst 2, 1) := by decide +kernel
theorem dX8_lookAt_230 : decode cX8_lookAt 230 = .ok (.if_icmp .ge 44, 3) := by decide +kernel
theorem dX8_lookAt_233 : decode cX8_lookAt 233 = .ok (.aload_n 0, 1) := by decide +kernel
theorem dX8_lookAt_234 : decode cX8_lookAt 234 = .ok (.getfield 270, 3) := by decide +kernel
theorem dX8_lookAt_237 : decode cX8_lookAt 237 = .ok (.iconst 2, 1) := by decide +kernel
theorem dX8_lookAt_238 : decode cX8_lookAt 238 = .ok (.if_icmp .ne 36, 3) := by decide +kernel
theorem dX8_lookAt_241 : decode cX8_lookAt 241 = .ok (.aload_n 0, 1) := by decide +kernel
theorem dX8_lookAt_242 : decode cX8_lookAt 242 = .ok (.bipush 10, 2) := by decide +kernel
theorem dX8_lookAt_244 : decode cX8_lookAt 244 = .ok (.aload_n 0, 1) := by decide +kernel
theorem dX8_lookAt_245 : decode cX8_lookAt 245 = .ok (.getfield 273, 3) := by decide +kernel
theorem dX8_lookAt_248 : decode cX8_lookAt 248 = .ok (.imul, 1) := by decide +kernel
theorem dX8_lookAt_249 : decode cX8_lookAt 249 = .ok (.aload_n 0, 1) := by decide +kernel
theorem dX8_lookAt_250 : decode cX8_lookAt 250 = .ok (.getfield 55, 3) := by decide +kernel
theorem dX8_lookAt_253 : decode cX8_lookAt 253 = .ok (.aload_n 0, 1) := by decide +kernel
theorem dX8_lookAt_254 : decode cX8_lookAt 254 = .ok (.getfield 264, 3) := by decide +kernel
theorem dX8_lookAt_257 : decode cX8_lookAt 257 = .ok (.iload 4, 2) := by decide +kernel
theorem dX8_lookAt_259 : decode cX8_lookAt 259 = .ok (.iadd, 1) := by decide +kernel
theorem dX8_lookAt_260 : decode cX8_lookAt 260 = .ok (.iaload, 1) := by decide +kernel
theorem dX8_lookAt_261 : decode cX8_lookAt 261 = .ok (.iadd, 1) := by decide +kernel
theorem dX8_lookAt_262 : decode cX8_lookAt 262 = .ok (.bipush 48, 2) := by decide +kernel
theorem dX8_lookAt_264 : decode cX8_lookAt 264 = .ok (.isub, 1) := by decide +kernel
theorem dX8_lookAt_265 : decode cX8_lookAt 265 = .ok (.putfield 273, 3) := by decide +kernel
theorem dX8_lookAt_268 : decode cX8_lookAt 268 = .ok (.iinc 4 1, 3) := by decide +kernel
theorem dX8_lookAt_271 : decode cX8_lookAt 271 = .ok (.goto (-53), 3) := by decide +kernel
theorem dX8_lookAt_274 : decode cX8_lookAt 274 = .ok (.aload_n 0, 1) := by decide +kernel
theorem dX8_lookAt_275 : decode cX8_lookAt 275 = .ok (.aload_n 0, 1) := by decide +kernel
theorem dX8_lookAt_276 : decode cX8_lookAt 276 = .ok (.getfield 270, 3) := by decide +kernel
theorem dX8_lookAt_279 : decode cX8_lookAt 279 = .ok (.iconst 2, 1) := by decide +kernel
theorem dX8_lookAt_280 : decode cX8_lookAt 280 = .ok (.if_icmp .ne 15, 3) := by decide +kernel
theorem dX8_lookAt_283 : decode cX8_lookAt 283 = .ok (.aload_n 0, 1) := by decide +kernel
theorem dX8_lookAt_284 : decode cX8_lookAt 284 = .ok (.getfield 267, 3) := by decide +kernel
theorem dX8_lookAt_287 : decode cX8_lookAt 287 = .ok (.iconst 2, 1) := by decide +kernel
theorem dX8_lookAt_288 : decode cX8_lookAt 288 = .ok (.if_icmp .le 7, 3) := by decide +kernel
theorem dX8_lookAt_291 : decode cX8_lookAt 291 = .ok (.iconst 4, 1) := by decide +kernel
theorem dX8_lookAt_292 : decode cX8_lookAt 292 = .ok (.goto 7, 3) := by decide +kernel
theorem dX8_lookAt_295 : decode cX8_lookAt 295 = .ok (.aload_n 0, 1) := by decide +kernel
theorem dX8_lookAt_296 : decode cX8_lookAt 296 = .ok (.getfield 270, 3) := by decide +kernel
theorem dX8_lookAt_299 : decode cX8_lookAt 299 = .ok (.putfield 270, 3) := by decide +kernel
theorem dX8_lookAt_302 : decode cX8_lookAt 302 = .ok (.return_, 1) := by decide +kernel
theorem dX8_goBehind_0 : decode cX8_goBehind 0 = .ok (.aload_n 0, 1) := by decide +kernel
theorem dX8_goBehind_1 : decode cX8_goBehind 1 = .ok (.aload_n 0, 1) := by decide +kernel
theorem dX8_goBehind_2 : decode cX8_goBehind 2 = .ok (.getfield 264, 3) := by decide +kernel
theorem dX8_goBehind_5 : decode cX8_goBehind 5 = .ok (.aload_n 0, 1) := by decide +kernel
theorem dX8_goBehind_6 : decode cX8_goBehind 6 = .ok (.getfield 267, 3) := by decide +kernel
theorem dX8_goBehind_9 : decode cX8_goBehind 9 = .ok (.iadd, 1) := by decide +kernel
theorem dX8_goBehind_10 : decode cX8_goBehind 10 = .ok (.invokevirtual 282, 3) := by decide +kernel
theorem dX8_goBehind_13 : decode cX8_goBehind 13 = .ok (.return_, 1) := by decide +kernel
theorem dX8_isWord_0 : decode cX8_isWord 0 = .ok (.aload_n 0, 1) := by decide +kernel
theorem dX8_isWord_1 : decode cX8_isWord 1 = .ok (.getfield 270, 3) := by decide +kernel
theorem dX8_isWord_4 : decode cX8_isWord 4 = .ok (.iconst 1, 1) := by decide +kernel
theorem dX8_isWord_5 : decode cX8_isWord 5 = .ok (.if_icmp .ne 15, 3) := by decide +kernel
theorem dX8_isWord_8 : decode cX8_isWord 8 = .ok (.aload_n 0, 1) := by decide +kernel
theorem dX8_isWord_9 : decode cX8_isWord 9 = .ok (.getfield 267, 3) := by decide +kernel
theorem dX8_isWord_12 : decode cX8_isWord 12 = .ok (.iload_n 1, 1) := by decide +kernel
theorem dX8_isWord_13 : decode cX8_isWord 13 = .ok (.if_icmp .ne 7, 3) := by decide +kernel
theorem dX8_isWord_16 : decode cX8_isWord 16 = .ok (.iconst 1, 1) := by decide +kernel
theorem dX8_isWord_17 : decode cX8_isWord 17 = .ok (.goto 4, 3) := by decide +kernel
theorem dX8_isWord_20 : decode cX8_isWord 20 = .ok (.iconst 0, 1) := by decide +kernel
theorem dX8_isWord_21 : decode cX8_isWord 21 = .ok (.istore 8, 2) := by decide +kernel
theorem dX8_isWord_23 : decode cX8_isWord 23 = .ok (.iconst 0, 1) := by decide +kernel
theorem dX8_isWord_24 : decode cX8_isWord 24 = .ok (.istore 9, 2) := by decide +kernel
theorem dX8_isWord_26 : decode cX8_isWord 26 = .ok (.iload 9, 2) := by decide +kernel
theorem dX8_isWord_28 : decode cX8_isWord 28 = .ok (.iload_n 1, 1) := by decide +kernel
theorem dX8_isWord_29 : decode cX8_isWord 29 = .ok (.if_icmp .ge 90, 3) := by decide +kernel
theorem dX8_isWord_32 : decode cX8_isWord 32 = .ok (.iload 8, 2) := by decide +kernel
theorem dX8_isWord_34 : decode cX8_isWord 34 = .ok (.ifCond .eq 85, 3) := by decide +kernel
theorem dX8_isWord_37 : decode cX8_isWord 37 = .ok (.aload_n 0, 1) := by decide +kernel
theorem dX8_isWord_38 : decode cX8_isWord 38 = .ok (.getfield 55, 3) := by decide +kernel
theorem dX8_isWord_41 : decode cX8_isWord 41 = .ok (.aload_n 0, 1) := by decide +kernel
theorem dX8_isWord_42 : decode cX8_isWord 42 = .ok (.getfield 264, 3) := by decide +kernel
theorem dX8_isWord_45 : decode cX8_isWord 45 = .ok (.iload 9, 2) := by decide +kernel
theorem dX8_isWord_47 : decode cX8_isWord 47 = .ok (.iadd, 1) := by decide +kernel
theorem dX8_isWord_48 : decode cX8_isWord 48 = .ok (.iaload, 1) := by decide +kernel
theorem dX8_isWord_49 : decode cX8_isWord 49 = .ok (.iload 9, 2) := by decide +kernel
theorem dX8_isWord_51 : decode cX8_isWord 51 = .ok (.ifCond .ne 7, 3) := by decide +kernel
theorem dX8_isWord_54 : decode cX8_isWord 54 = .ok (.iload_n 2, 1) := by decide +kernel
theorem dX8_isWord_55 : decode cX8_isWord 55 = .ok (.goto 48, 3) := by decide +kernel
theorem dX8_isWord_58 : decode cX8_isWord 58 = .ok (.iload 9, 2) := by decide +kernel
theorem dX8_isWord_60 : decode cX8_isWord 60 = .ok (.iconst 1, 1) := by decide +kernel
theorem dX8_isWord_61 : decode cX8_isWord 61 = .ok (.if_icmp .ne 7, 3) := by decide +kernel
theorem dX8_isWord_64 : decode cX8_isWord 64 = .ok (.iload_n 3, 1) := by decide +kernel
theorem dX8_isWord_65 : decode cX8_isWord 65 = .ok (.goto 38, 3) := by decide +kernel
theorem dX8_isWord_68 : decode cX8_isWord 68 = .ok (.iload 9, 2) := by decide +kernel
theorem dX8_isWord_70 : decode cX8_isWord 70 = .ok (.iconst 2, 1) := by decide +kernel
theorem dX8_isWord_71 : decode cX8_isWord 71 = .ok (.if_icmp .ne 8, 3) := by decide +kernel
theorem dX8_isWord_74 : decode cX8_isWord 74 = .ok (.iload 4, 2) := by decide +kernel
theorem dX8_isWord_76 : decode cX8_isWord 76 = .ok (.goto 27, 3) := by decide +kernel
theorem dX8_isWord_79 : decode cX8_isWord 79 = .ok (.iload 9, 2) := by decide +kernel
theorem dX8_isWord_81 : decode cX8_isWord 81 = .ok (.iconst 3, 1) := by decide +kernel
theorem dX8_isWord_82 : decode cX8_isWord 82 = .ok (.if_icmp .ne 8, 3) := by decide +kernel
theorem dX8_isWord_85 : decode cX8_isWord 85 = .ok (.iload 5, 2) := by decide +kernel
theorem dX8_isWord_87 : decode cX8_isWord 87 = .ok (.goto 16, 3) := by decide +kernel
theorem dX8_isWord_90 : decode cX8_isWord 90 = .ok (.iload 9, 2) := by decide +kernel
theorem dX8_isWord_92 : decode cX8_isWord 92 = .ok (.iconst 4, 1) := by decide +kernel
theorem dX8_isWord_93 : decode cX8_isWord 93 = .ok (.if_icmp .ne 8, 3) := by decide +kernel
theorem dX8_isWord_96 : decode cX8_isWord 96 = .ok (.iload 6, 2) := by decide +kernel
theorem dX8_isWord_98 : decode cX8_isWord 98 = .ok (.goto 5, 3) := by decide +kernel
theorem dX8_isWord_101 : decode cX8_isWord 101 = .ok (.iload 7, 2) := by decide +kernel
theorem dX8_isWord_103 : decode cX8_isWord 103 = .ok (.if_icmp .ne 7, 3) := by decide +kernel
theorem dX8_isWord_106 : decode cX8_isWord 106 = .ok (.iconst 1, 1) := by decide +kernel
theorem dX8_isWord_107 : decode cX8_isWord 107 = .ok (.goto 4, 3) := by decide +kernel
theorem dX8_isWord_110 : decode cX8_isWord 110 = .ok (.iconst 0, 1) := by decide +kernel
theorem dX8_isWord_111 : decode cX8_isWord 111 = .ok (.istore 8, 2) := by decide +kernel
theorem dX8_isWord_113 : decode cX8_isWord 113 = .ok (.iinc 9 1, 3) := by decide +kernel
theorem dX8_isWord_116 : decode cX8_isWord 116 = .ok (.goto (-90), 3) := by decide +kernel
theorem dX8_isWord_119 : decode cX8_isWord 119 = .ok (.iload 8, 2) := by decide +kernel
theorem dX8_isWord_121 : decode cX8_isWord 121 = .ok (.ireturn, 1) := by decide +kernel
theorem dX8_takes_0 : decode cX8_takes 0 = .ok (.aload_n 0, 1) := by decide +kernel
theorem dX8_takes_1 : decode cX8_takes 1 = .ok (.getfield 270, 3) := by decide +kernel
theorem dX8_takes_4 : decode cX8_takes 4 = .ok (.iconst 2, 1) := by decide +kernel
theorem dX8_takes_5 : decode cX8_takes 5 = .ok (.if_icmp .ne 18, 3) := by decide +kernel
theorem dX8_takes_8 : decode cX8_takes 8 = .ok (.aload_n 0, 1) := by decide +kernel
theorem dX8_takes_9 : decode cX8_takes 9 = .ok (.getfield 273, 3) := by decide +kernel
theorem dX8_takes_12 : decode cX8_takes 12 = .ok (.i2l, 1) := by decide +kernel
theorem dX8_takes_13 : decode cX8_takes 13 = .ok (.iload_n 2, 1) := by decide +kernel
theorem dX8_takes_14 : decode cX8_takes 14 = .ok (.i2l, 1) := by decide +kernel
theorem dX8_takes_15 : decode cX8_takes 15 = .ok (.iload_n 3, 1) := by decide +kernel
theorem dX8_takes_16 : decode cX8_takes 16 = .ok (.i2l, 1) := by decide +kernel
theorem dX8_takes_17 : decode cX8_takes 17 = .ok (.invokestatic 106, 3) := by decide +kernel
theorem dX8_takes_20 : decode cX8_takes 20 = .ok (.ifCond .ne 5, 3) := by decide +kernel
theorem dX8_takes_23 : decode cX8_takes 23 = .ok (.iconst 0, 1) := by decide +kernel
theorem dX8_takes_24 : decode cX8_takes 24 = .ok (.ireturn, 1) := by decide +kernel
theorem dX8_takes_25 : decode cX8_takes 25 = .ok (.aload_n 0, 1) := by decide +kernel
theorem dX8_takes_26 : decode cX8_takes 26 = .ok (.getfield 64, 3) := by decide +kernel
theorem dX8_takes_29 : decode cX8_takes 29 = .ok (.iload_n 1, 1) := by decide +kernel
theorem dX8_takes_30 : decode cX8_takes 30 = .ok (.aload_n 0, 1) := by decide +kernel
theorem dX8_takes_31 : decode cX8_takes 31 = .ok (.getfield 273, 3) := by decide +kernel
theorem dX8_takes_34 : decode cX8_takes 34 = .ok (.iastore, 1) := by decide +kernel
theorem dX8_takes_35 : decode cX8_takes 35 = .ok (.aload_n 0, 1) := by decide +kernel
theorem dX8_takes_36 : decode cX8_takes 36 = .ok (.invokevirtual 286, 3) := by decide +kernel
theorem dX8_takes_39 : decode cX8_takes 39 = .ok (.iconst 1, 1) := by decide +kernel
theorem dX8_takes_40 : decode cX8_takes 40 = .ok (.ireturn, 1) := by decide +kernel
theorem dX8_takesFirst_0 : decode cX8_takesFirst 0 = .ok (.aload_n 0, 1) := by decide +kernel
theorem dX8_takesFirst_1 : decode cX8_takesFirst 1 = .ok (.iconst 5, 1) := by decide +kernel
theorem dX8_takesFirst_2 : decode cX8_takesFirst 2 = .ok (.bipush 114, 2) := by decide +kernel
theorem dX8_takesFirst_4 : decode cX8_takesFirst 4 = .ok (.bipush 105, 2) := by decide +kernel
theorem dX8_takesFirst_6 : decode cX8_takesFirst 6 = .ok (.bipush 118, 2) := by decide +kernel
theorem dX8_takesFirst_8 : decode cX8_takesFirst 8 = .ok (.bipush 101, 2) := by decide +kernel
theorem dX8_takesFirst_10 : decode cX8_takesFirst 10 = .ok (.bipush 114, 2) := by decide +kernel
theorem dX8_takesFirst_12 : decode cX8_takesFirst 12 = .ok (.iconst 0, 1) := by decide +kernel
theorem dX8_takesFirst_13 : decode cX8_takesFirst 13 = .ok (.invokevirtual 289, 3) := by decide +kernel
theorem dX8_takesFirst_16 : decode cX8_takesFirst 16 = .ok (.ifCond .ne 5, 3) := by decide +kernel
theorem dX8_takesFirst_19 : decode cX8_takesFirst 19 = .ok (.iconst 0, 1) := by decide +kernel
theorem dX8_takesFirst_20 : decode cX8_takesFirst 20 = .ok (.ireturn, 1) := by decide +kernel
theorem dX8_takesFirst_21 : decode cX8_takesFirst 21 = .ok (.aload_n 0, 1) := by decide +kernel
theorem dX8_takesFirst_22 : decode cX8_takesFirst 22 = .ok (.invokevirtual 286, 3) := by decide +kernel
theorem dX8_takesFirst_25 : decode cX8_takesFirst 25 = .ok (.aload_n 0, 1) := by decide +kernel
theorem dX8_takesFirst_26 : decode cX8_takesFirst 26 = .ok (.iconst 0, 1) := by decide +kernel
theorem dX8_takesFirst_27 : decode cX8_takesFirst 27 = .ok (.iconst 0, 1) := by decide +kernel
theorem dX8_takesFirst_28 : decode cX8_takesFirst 28 = .ok (.bipush 11, 2) := by decide +kernel
theorem dX8_takesFirst_30 : decode cX8_takesFirst 30 = .ok (.invokevirtual 293, 3) := by decide +kernel
theorem dX8_takesFirst_33 : decode cX8_takesFirst 33 = .ok (.ifCond .ne 5, 3) := by decide +kernel
theorem dX8_takesFirst_36 : decode cX8_takesFirst 36 = .ok (.iconst 0, 1) := by decide +kernel
theorem dX8_takesFirst_37 : decode cX8_takesFirst 37 = .ok (.ireturn, 1) := by decide +kernel
theorem dX8_takesFirst_38 : decode cX8_takesFirst 38 = .ok (.aload_n 0, 1) := by decide +kernel
theorem dX8_takesFirst_39 : decode cX8_takesFirst 39 = .ok (.getfield 58, 3) := by decide +kernel
theorem dX8_takesFirst_42 : decode cX8_takesFirst 42 = .ok (.aload_n 0, 1) := by decide +kernel
theorem dX8_takesFirst_43 : decode cX8_takesFirst 43 = .ok (.getfield 64, 3) := by decide +kernel
theorem dX8_takesFirst_46 : decode cX8_takesFirst 46 = .ok (.iconst 0, 1) := by decide +kernel
theorem dX8_takesFirst_47 : decode cX8_takesFirst 47 = .ok (.iaload, 1) := by decide +kernel
theorem dX8_takesFirst_48 : decode cX8_takesFirst 48 = .ok (.invokestatic 120, 3) := by decide +kernel
theorem dX8_takesFirst_51 : decode cX8_takesFirst 51 = .ok (.iconst 0, 1) := by decide +kernel
theorem dX8_takesFirst_52 : decode cX8_takesFirst 52 = .ok (.istore_n 1, 1) := by decide +kernel
theorem dX8_takesFirst_53 : decode cX8_takesFirst 53 = .ok (.iload_n 1, 1) := by decide +kernel
theorem dX8_takesFirst_54 : decode cX8_takesFirst 54 = .ok (.iconst 4, 1) := by decide +kernel
theorem dX8_takesFirst_55 : decode cX8_takesFirst 55 = .ok (.if_icmp .ge 16, 3) := by decide +kernel
theorem dX8_takesFirst_58 : decode cX8_takesFirst 58 = .ok (.aload_n 0, 1) := by decide +kernel
theorem dX8_takesFirst_59 : decode cX8_takesFirst 59 = .ok (.getfield 61, 3) := by decide +kernel
theorem dX8_takesFirst_62 : decode cX8_takesFirst 62 = .ok (.iload_n 1, 1) := by decide +kernel
theorem dX8_takesFirst_63 : decode cX8_takesFirst 63 = .ok (.lconst 0, 1) := by decide +kernel
theorem dX8_takesFirst_64 : decode cX8_takesFirst 64 = .ok (.lastore, 1) := by decide +kernel
theorem dX8_takesFirst_65 : decode cX8_takesFirst 65 = .ok (.iinc 1 1, 3) := by decide +kernel
theorem dX8_takesFirst_68 : decode cX8_takesFirst 68 = .ok (.goto (-15), 3) := by decide +kernel
theorem dX8_takesFirst_71 : decode cX8_takesFirst 71 = .ok (.aload_n 0, 1) := by decide +kernel
theorem dX8_takesFirst_72 : decode cX8_takesFirst 72 = .ok (.getfield 270, 3) := by decide +kernel
theorem dX8_takesFirst_75 : decode cX8_takesFirst 75 = .ok (.iconst 3, 1) := by decide +kernel
theorem dX8_takesFirst_76 : decode cX8_takesFirst 76 = .ok (.if_icmp .ne 7, 3) := by decide +kernel
theorem dX8_takesFirst_79 : decode cX8_takesFirst 79 = .ok (.iconst 1, 1) := by decide +kernel
theorem dX8_takesFirst_80 : decode cX8_takesFirst 80 = .ok (.goto 4, 3) := by decide +kernel
theorem dX8_takesFirst_83 : decode cX8_takesFirst 83 = .ok (.iconst 0, 1) := by decide +kernel
theorem dX8_takesFirst_84 : decode cX8_takesFirst 84 = .ok (.ireturn, 1) := by decide +kernel
theorem dX8_takesBridge_0 : decode cX8_takesBridge 0 = .ok (.aload_n 0, 1) := by decide +kernel
theorem dX8_takesBridge_1 : decode cX8_takesBridge 1 = .ok (.getfield 58, 3) := by decide +kernel
theorem dX8_takesBridge_4 : decode cX8_takesBridge 4 = .ok (.iconst 0, 1) := by decide +kernel
theorem dX8_takesBridge_5 : decode cX8_takesBridge 5 = .ok (.iaload, 1) := by decide +kernel
theorem dX8_takesBridge_6 : decode cX8_takesBridge 6 = .ok (.bipush 8, 2) := by decide +kernel
theorem dX8_takesBridge_8 : decode cX8_takesBridge 8 = .ok (.if_icmp .ne 5, 3) := by decide +kernel
theorem dX8_takesBridge_11 : decode cX8_takesBridge 11 = .ok (.iconst 0, 1) := by decide +kernel
theorem dX8_takesBridge_12 : decode cX8_takesBridge 12 = .ok (.ireturn, 1) := by decide +kernel
theorem dX8_takesBridge_13 : decode cX8_takesBridge 13 = .ok (.aload_n 0, 1) := by decide +kernel
theorem dX8_takesBridge_14 : decode cX8_takesBridge 14 = .ok (.invokevirtual 286, 3) := by decide +kernel
theorem dX8_takesBridge_17 : decode cX8_takesBridge 17 = .ok (.aload_n 0, 1) := by decide +kernel
theorem dX8_takesBridge_18 : decode cX8_takesBridge 18 = .ok (.iconst 0, 1) := by decide +kernel
theorem dX8_takesBridge_19 : decode cX8_takesBridge 19 = .ok (.iconst 0, 1) := by decide +kernel
theorem dX8_takesBridge_20 : decode cX8_takesBridge 20 = .ok (.iconst 5, 1) := by decide +kernel
theorem dX8_takesBridge_21 : decode cX8_takesBridge 21 = .ok (.invokevirtual 293, 3) := by decide +kernel
theorem dX8_takesBridge_24 : decode cX8_takesBridge 24 = .ok (.ifCond .eq 55, 3) := by decide +kernel
theorem dX8_takesBridge_27 : decode cX8_takesBridge 27 = .ok (.aload_n 0, 1) := by decide +kernel
theorem dX8_takesBridge_28 : decode cX8_takesBridge 28 = .ok (.getfield 270, 3) := by decide +kernel
theorem dX8_takesBridge_31 : decode cX8_takesBridge 31 = .ok (.iconst 2, 1) := by decide +kernel
theorem dX8_takesBridge_32 : decode cX8_takesBridge 32 = .ok (.if_icmp .ne 16, 3) := by decide +kernel
theorem dX8_takesBridge_35 : decode cX8_takesBridge 35 = .ok (.aload_n 0, 1) := by decide +kernel
theorem dX8_takesBridge_36 : decode cX8_takesBridge 36 = .ok (.getfield 273, 3) := by decide +kernel
theorem dX8_takesBridge_39 : decode cX8_takesBridge 39 = .ok (.aload_n 0, 1) := by decide +kernel
theorem dX8_takesBridge_40 : decode cX8_takesBridge 40 = .ok (.getfield 64, 3) := by decide +kernel
theorem dX8_takesBridge_43 : decode cX8_takesBridge 43 = .ok (.iconst 0, 1) := by decide +kernel
theorem dX8_takesBridge_44 : decode cX8_takesBridge 44 = .ok (.iaload, 1) := by decide +kernel
theorem dX8_takesBridge_45 : decode cX8_takesBridge 45 = .ok (.if_icmp .eq 34, 3) := by decide +kernel
theorem dX8_takesBridge_48 : decode cX8_takesBridge 48 = .ok (.aload_n 0, 1) := by decide +kernel
theorem dX8_takesBridge_49 : decode cX8_takesBridge 49 = .ok (.iconst 1, 1) := by decide +kernel
theorem dX8_takesBridge_50 : decode cX8_takesBridge 50 = .ok (.iconst 0, 1) := by decide +kernel
theorem dX8_takesBridge_51 : decode cX8_takesBridge 51 = .ok (.iconst 5, 1) := by decide +kernel
theorem dX8_takesBridge_52 : decode cX8_takesBridge 52 = .ok (.invokevirtual 293, 3) := by decide +kernel
theorem dX8_takesBridge_55 : decode cX8_takesBridge 55 = .ok (.ifCond .eq 24, 3) := by decide +kernel
theorem dX8_takesBridge_58 : decode cX8_takesBridge 58 = .ok (.aload_n 0, 1) := by decide +kernel
theorem dX8_takesBridge_59 : decode cX8_takesBridge 59 = .ok (.iconst 2, 1) := by decide +kernel
theorem dX8_takesBridge_60 : decode cX8_takesBridge 60 = .ok (.iconst 0, 1) := by decide +kernel
theorem dX8_takesBridge_61 : decode cX8_takesBridge 61 = .ok (.iconst 5, 1) := by decide +kernel
theorem dX8_takesBridge_62 : decode cX8_takesBridge 62 = .ok (.invokevirtual 293, 3) := by decide +kernel
theorem dX8_takesBridge_65 : decode cX8_takesBridge 65 = .ok (.ifCond .eq 14, 3) := by decide +kernel
theorem dX8_takesBridge_68 : decode cX8_takesBridge 68 = .ok (.aload_n 0, 1) := by decide +kernel
theorem dX8_takesBridge_69 : decode cX8_takesBridge 69 = .ok (.iconst 3, 1) := by decide +kernel
theorem dX8_takesBridge_70 : decode cX8_takesBridge 70 = .ok (.iconst 0, 1) := by decide +kernel
theorem dX8_takesBridge_71 : decode cX8_takesBridge 71 = .ok (.bipush 15, 2) := by decide +kernel
theorem dX8_takesBridge_73 : decode cX8_takesBridge 73 = .ok (.invokevirtual 293, 3) := by decide +kernel
theorem dX8_takesBridge_76 : decode cX8_takesBridge 76 = .ok (.ifCond .ne 5, 3) := by decide +kernel
theorem dX8_takesBridge_79 : decode cX8_takesBridge 79 = .ok (.iconst 0, 1) := by decide +kernel
theorem dX8_takesBridge_80 : decode cX8_takesBridge 80 = .ok (.ireturn, 1) := by decide +kernel
theorem dX8_takesBridge_81 : decode cX8_takesBridge 81 = .ok (.aload_n 0, 1) := by decide +kernel
theorem dX8_takesBridge_82 : decode cX8_takesBridge 82 = .ok (.getfield 58, 3) := by decide +kernel
theorem dX8_takesBridge_85 : decode cX8_takesBridge 85 = .ok (.aload_n 0, 1) := by decide +kernel
theorem dX8_takesBridge_86 : decode cX8_takesBridge 86 = .ok (.getfield 64, 3) := by decide +kernel
theorem dX8_takesBridge_89 : decode cX8_takesBridge 89 = .ok (.iconst 0, 1) := by decide +kernel
theorem dX8_takesBridge_90 : decode cX8_takesBridge 90 = .ok (.iaload, 1) := by decide +kernel
theorem dX8_takesBridge_91 : decode cX8_takesBridge 91 = .ok (.aload_n 0, 1) := by decide +kernel
theorem dX8_takesBridge_92 : decode cX8_takesBridge 92 = .ok (.getfield 64, 3) := by decide +kernel
theorem dX8_takesBridge_95 : decode cX8_takesBridge 95 = .ok (.iconst 1, 1) := by decide +kernel
theorem dX8_takesBridge_96 : decode cX8_takesBridge 96 = .ok (.iaload, 1) := by decide +kernel
theorem dX8_takesBridge_97 : decode cX8_takesBridge 97 = .ok (.aload_n 0, 1) := by decide +kernel
theorem dX8_takesBridge_98 : decode cX8_takesBridge 98 = .ok (.getfield 64, 3) := by decide +kernel
theorem dX8_takesBridge_101 : decode cX8_takesBridge 101 = .ok (.iconst 2, 1) := by decide +kernel
theorem dX8_takesBridge_102 : decode cX8_takesBridge 102 = .ok (.iaload, 1) := by decide +kernel
theorem dX8_takesBridge_103 : decode cX8_takesBridge 103 = .ok (.aload_n 0, 1) := by decide +kernel
theorem dX8_takesBridge_104 : decode cX8_takesBridge 104 = .ok (.getfield 64, 3) := by decide +kernel
theorem dX8_takesBridge_107 : decode cX8_takesBridge 107 = .ok (.iconst 3, 1) := by decide +kernel
theorem dX8_takesBridge_108 : decode cX8_takesBridge 108 = .ok (.iaload, 1) := by decide +kernel
theorem dX8_takesBridge_109 : decode cX8_takesBridge 109 = .ok (.invokestatic 131, 3) := by decide +kernel
theorem dX8_takesBridge_112 : decode cX8_takesBridge 112 = .ok (.iconst 1, 1) := by decide +kernel
theorem dX8_takesBridge_113 : decode cX8_takesBridge 113 = .ok (.ireturn, 1) := by decide +kernel
theorem dX8_takesRow_0 : decode cX8_takesRow 0 = .ok (.aload_n 0, 1) := by decide +kernel
theorem dX8_takesRow_1 : decode cX8_takesRow 1 = .ok (.invokevirtual 286, 3) := by decide +kernel
theorem dX8_takesRow_4 : decode cX8_takesRow 4 = .ok (.aload_n 0, 1) := by decide +kernel
theorem dX8_takesRow_5 : decode cX8_takesRow 5 = .ok (.iconst 0, 1) := by decide +kernel
theorem dX8_takesRow_6 : decode cX8_takesRow 6 = .ok (.iconst 0, 1) := by decide +kernel
theorem dX8_takesRow_7 : decode cX8_takesRow 7 = .ok (.iconst 3, 1) := by decide +kernel
theorem dX8_takesRow_8 : decode cX8_takesRow 8 = .ok (.invokevirtual 293, 3) := by decide +kernel
theorem dX8_takesRow_11 : decode cX8_takesRow 11 = .ok (.ifCond .ne 5, 3) := by decide +kernel
theorem dX8_takesRow_14 : decode cX8_takesRow 14 = .ok (.iconst 0, 1) := by decide +kernel
theorem dX8_takesRow_15 : decode cX8_takesRow 15 = .ok (.ireturn, 1) := by decide +kernel
theorem dX8_takesRow_16 : decode cX8_takesRow 16 = .ok (.aload_n 0, 1) := by decide +kernel
theorem dX8_takesRow_17 : decode cX8_takesRow 17 = .ok (.getfield 64, 3) := by decide +kernel
theorem dX8_takesRow_20 : decode cX8_takesRow 20 = .ok (.iconst 0, 1) := by decide +kernel
theorem dX8_takesRow_21 : decode cX8_takesRow 21 = .ok (.iaload, 1) := by decide +kernel
theorem dX8_takesRow_22 : decode cX8_takesRow 22 = .ok (.istore_n 1, 1) := by decide +kernel
theorem dX8_takesRow_23 : decode cX8_takesRow 23 = .ok (.aload_n 0, 1) := by decide +kernel
theorem dX8_takesRow_24 : decode cX8_takesRow 24 = .ok (.getfield 61, 3) := by decide +kernel
theorem dX8_takesRow_27 : decode cX8_takesRow 27 = .ok (.iload_n 1, 1) := by decide +kernel
theorem dX8_takesRow_28 : decode cX8_takesRow 28 = .ok (.lconst 0, 1) := by decide +kernel
theorem dX8_takesRow_29 : decode cX8_takesRow 29 = .ok (.lastore, 1) := by decide +kernel
theorem dX8_takesRow_30 : decode cX8_takesRow 30 = .ok (.aload_n 0, 1) := by decide +kernel
theorem dX8_takesRow_31 : decode cX8_takesRow 31 = .ok (.getfield 270, 3) := by decide +kernel
theorem dX8_takesRow_34 : decode cX8_takesRow 34 = .ok (.iconst 2, 1) := by decide +kernel
theorem dX8_takesRow_35 : decode cX8_takesRow 35 = .ok (.if_icmp .ne 54, 3) := by decide +kernel
theorem dX8_takesRow_38 : decode cX8_takesRow 38 = .ok (.aload_n 0, 1) := by decide +kernel
theorem dX8_takesRow_39 : decode cX8_takesRow 39 = .ok (.getfield 61, 3) := by decide +kernel
theorem dX8_takesRow_42 : decode cX8_takesRow 42 = .ok (.iload_n 1, 1) := by decide +kernel
theorem dX8_takesRow_43 : decode cX8_takesRow 43 = .ok (.laload, 1) := by decide +kernel
theorem dX8_takesRow_44 : decode cX8_takesRow 44 = .ok (.invokestatic 71, 3) := by decide +kernel
theorem dX8_takesRow_47 : decode cX8_takesRow 47 = .ok (.bipush 12, 2) := by decide +kernel
theorem dX8_takesRow_49 : decode cX8_takesRow 49 = .ok (.if_icmp .eq 14, 3) := by decide +kernel
theorem dX8_takesRow_52 : decode cX8_takesRow 52 = .ok (.aload_n 0, 1) := by decide +kernel
theorem dX8_takesRow_53 : decode cX8_takesRow 53 = .ok (.iconst 1, 1) := by decide +kernel
theorem dX8_takesRow_54 : decode cX8_takesRow 54 = .ok (.iconst 0, 1) := by decide +kernel
theorem dX8_takesRow_55 : decode cX8_takesRow 55 = .ok (.bipush 15, 2) := by decide +kernel
theorem dX8_takesRow_57 : decode cX8_takesRow 57 = .ok (.invokevirtual 293, 3) := by decide +kernel
theorem dX8_takesRow_60 : decode cX8_takesRow 60 = .ok (.ifCond .ne 5, 3) := by decide +kernel
theorem dX8_takesRow_63 : decode cX8_takesRow 63 = .ok (.iconst 0, 1) := by decide +kernel
theorem dX8_takesRow_64 : decode cX8_takesRow 64 = .ok (.ireturn, 1) := by decide +kernel
theorem dX8_takesRow_65 : decode cX8_takesRow 65 = .ok (.aload_n 0, 1) := by decide +kernel
theorem dX8_takesRow_66 : decode cX8_takesRow 66 = .ok (.getfield 61, 3) := by decide +kernel
theorem dX8_takesRow_69 : decode cX8_takesRow 69 = .ok (.iload_n 1, 1) := by decide +kernel
theorem dX8_takesRow_70 : decode cX8_takesRow 70 = .ok (.aload_n 0, 1) := by decide +kernel
theorem dX8_takesRow_71 : decode cX8_takesRow 71 = .ok (.getfield 61, 3) := by decide +kernel
theorem dX8_takesRow_74 : decode cX8_takesRow 74 = .ok (.iload_n 1, 1) := by decide +kernel
theorem dX8_takesRow_75 : decode cX8_takesRow 75 = .ok (.laload, 1) := by decide +kernel
theorem dX8_takesRow_76 : decode cX8_takesRow 76 = .ok (.aload_n 0, 1) := by decide +kernel
theorem dX8_takesRow_77 : decode cX8_takesRow 77 = .ok (.getfield 64, 3) := by decide +kernel
theorem dX8_takesRow_80 : decode cX8_takesRow 80 = .ok (.iconst 1, 1) := by decide +kernel
theorem dX8_takesRow_81 : decode cX8_takesRow 81 = .ok (.iaload, 1) := by decide +kernel
theorem dX8_takesRow_82 : decode cX8_takesRow 82 = .ok (.invokestatic 79, 3) := by decide +kernel
theorem dX8_takesRow_85 : decode cX8_takesRow 85 = .ok (.lastore, 1) := by decide +kernel
theorem dX8_takesRow_86 : decode cX8_takesRow 86 = .ok (.goto (-56), 3) := by decide +kernel
theorem dX8_takesRow_89 : decode cX8_takesRow 89 = .ok (.iconst 1, 1) := by decide +kernel
theorem dX8_takesRow_90 : decode cX8_takesRow 90 = .ok (.ireturn, 1) := by decide +kernel
theorem dX8_takesItem_0 : decode cX8_takesItem 0 = .ok (.aload_n 0, 1) := by decide +kernel
theorem dX8_takesItem_1 : decode cX8_takesItem 1 = .ok (.bipush 6, 2) := by decide +kernel
theorem dX8_takesItem_3 : decode cX8_takesItem 3 = .ok (.bipush 98, 2) := by decide +kernel
theorem dX8_takesItem_5 : decode cX8_takesItem 5 = .ok (.bipush 114, 2) := by decide +kernel
theorem dX8_takesItem_7 : decode cX8_takesItem 7 = .ok (.bipush 105, 2) := by decide +kernel
theorem dX8_takesItem_9 : decode cX8_takesItem 9 = .ok (.bipush 100, 2) := by decide +kernel
theorem dX8_takesItem_11 : decode cX8_takesItem 11 = .ok (.bipush 103, 2) := by decide +kernel
theorem dX8_takesItem_13 : decode cX8_takesItem 13 = .ok (.bipush 101, 2) := by decide +kernel
theorem dX8_takesItem_15 : decode cX8_takesItem 15 = .ok (.invokevirtual 289, 3) := by decide +kernel
theorem dX8_takesItem_18 : decode cX8_takesItem 18 = .ok (.ifCond .eq 8, 3) := by decide +kernel
theorem dX8_takesItem_21 : decode cX8_takesItem 21 = .ok (.aload_n 0, 1) := by decide +kernel
theorem dX8_takesItem_22 : decode cX8_takesItem 22 = .ok (.invokevirtual 297, 3) := by decide +kernel
theorem dX8_takesItem_25 : decode cX8_takesItem 25 = .ok (.ireturn, 1) := by decide +kernel
theorem dX8_takesItem_26 : decode cX8_takesItem 26 = .ok (.aload_n 0, 1) := by decide +kernel
theorem dX8_takesItem_27 : decode cX8_takesItem 27 = .ok (.iconst 3, 1) := by decide +kernel
theorem dX8_takesItem_28 : decode cX8_takesItem 28 = .ok (.bipush 114, 2) := by decide +kernel
theorem dX8_takesItem_30 : decode cX8_takesItem 30 = .ok (.bipush 111, 2) := by decide +kernel
theorem dX8_takesItem_32 : decode cX8_takesItem 32 = .ok (.bipush 119, 2) := by decide +kernel
theorem dX8_takesItem_34 : decode cX8_takesItem 34 = .ok (.iconst 0, 1) := by decide +kernel
theorem dX8_takesItem_35 : decode cX8_takesItem 35 = .ok (.iconst 0, 1) := by decide +kernel
theorem dX8_takesItem_36 : decode cX8_takesItem 36 = .ok (.iconst 0, 1) := by decide +kernel
theorem dX8_takesItem_37 : decode cX8_takesItem 37 = .ok (.invokevirtual 289, 3) := by decide +kernel
theorem dX8_takesItem_40 : decode cX8_takesItem 40 = .ok (.ifCond .eq 14, 3) := by decide +kernel
theorem dX8_takesItem_43 : decode cX8_takesItem 43 = .ok (.aload_n 0, 1) := by decide +kernel
theorem dX8_takesItem_44 : decode cX8_takesItem 44 = .ok (.invokevirtual 300, 3) := by decide +kernel
theorem dX8_takesItem_47 : decode cX8_takesItem 47 = .ok (.ifCond .eq 7, 3) := by decide +kernel
theorem dX8_takesItem_50 : decode cX8_takesItem 50 = .ok (.iconst 1, 1) := by decide +kernel
theorem dX8_takesItem_51 : decode cX8_takesItem 51 = .ok (.goto 4, 3) := by decide +kernel
theorem dX8_takesItem_54 : decode cX8_takesItem 54 = .ok (.iconst 0, 1) := by decide +kernel
theorem dX8_takesItem_55 : decode cX8_takesItem 55 = .ok (.ireturn, 1) := by decide +kernel
theorem dX8_read_0 : decode cX8_read 0 = .ok (.aload_n 0, 1) := by decide +kernel
theorem dX8_read_1 : decode cX8_read 1 = .ok (.iconst 0, 1) := by decide +kernel
theorem dX8_read_2 : decode cX8_read 2 = .ok (.invokevirtual 282, 3) := by decide +kernel
theorem dX8_read_5 : decode cX8_read 5 = .ok (.aload_n 0, 1) := by decide +kernel
theorem dX8_read_6 : decode cX8_read 6 = .ok (.invokevirtual 303, 3) := by decide +kernel
theorem dX8_read_9 : decode cX8_read 9 = .ok (.ifCond .ne 11, 3) := by decide +kernel
theorem dX8_read_12 : decode cX8_read 12 = .ok (.bipush (-10), 2) := by decide +kernel
theorem dX8_read_14 : decode cX8_read 14 = .ok (.aload_n 0, 1) := by decide +kernel
theorem dX8_read_15 : decode cX8_read 15 = .ok (.getfield 264, 3) := by decide +kernel
theorem dX8_read_18 : decode cX8_read 18 = .ok (.isub, 1) := by decide +kernel
theorem dX8_read_19 : decode cX8_read 19 = .ok (.ireturn, 1) := by decide +kernel
theorem dX8_read_20 : decode cX8_read 20 = .ok (.aload_n 0, 1) := by decide +kernel
theorem dX8_read_21 : decode cX8_read 21 = .ok (.invokevirtual 286, 3) := by decide +kernel
theorem dX8_read_24 : decode cX8_read 24 = .ok (.iconst 1, 1) := by decide +kernel
theorem dX8_read_25 : decode cX8_read 25 = .ok (.istore_n 1, 1) := by decide +kernel
theorem dX8_read_26 : decode cX8_read 26 = .ok (.aload_n 0, 1) := by decide +kernel
theorem dX8_read_27 : decode cX8_read 27 = .ok (.getfield 270, 3) := by decide +kernel
theorem dX8_read_30 : decode cX8_read 30 = .ok (.ifCond .eq 36, 3) := by decide +kernel
theorem dX8_read_33 : decode cX8_read 33 = .ok (.aload_n 0, 1) := by decide +kernel
theorem dX8_read_34 : decode cX8_read 34 = .ok (.invokevirtual 306, 3) := by decide +kernel
theorem dX8_read_37 : decode cX8_read 37 = .ok (.ifCond .eq 11, 3) := by decide +kernel
theorem dX8_read_40 : decode cX8_read 40 = .ok (.aload_n 0, 1) := by decide +kernel
theorem dX8_read_41 : decode cX8_read 41 = .ok (.getfield 270, 3) := by decide +kernel
theorem dX8_read_44 : decode cX8_read 44 = .ok (.iconst 3, 1) := by decide +kernel
theorem dX8_read_45 : decode cX8_read 45 = .ok (.if_icmp .eq 11, 3) := by decide +kernel
theorem dX8_read_48 : decode cX8_read 48 = .ok (.bipush (-10), 2) := by decide +kernel
theorem dX8_read_50 : decode cX8_read 50 = .ok (.aload_n 0, 1) := by decide +kernel
theorem dX8_read_51 : decode cX8_read 51 = .ok (.getfield 264, 3) := by decide +kernel
theorem dX8_read_54 : decode cX8_read 54 = .ok (.isub, 1) := by decide +kernel
theorem dX8_read_55 : decode cX8_read 55 = .ok (.ireturn, 1) := by decide +kernel
theorem dX8_read_56 : decode cX8_read 56 = .ok (.aload_n 0, 1) := by decide +kernel
theorem dX8_read_57 : decode cX8_read 57 = .ok (.invokevirtual 286, 3) := by decide +kernel
theorem dX8_read_60 : decode cX8_read 60 = .ok (.iinc 1 1, 3) := by decide +kernel
theorem dX8_read_63 : decode cX8_read 63 = .ok (.goto (-37), 3) := by decide +kernel
theorem dX8_read_66 : decode cX8_read 66 = .ok (.iconst 0, 1) := by decide +kernel
theorem dX8_read_67 : decode cX8_read 67 = .ok (.istore_n 2, 1) := by decide +kernel
theorem dX8_read_68 : decode cX8_read 68 = .ok (.iload_n 2, 1) := by decide +kernel
theorem dX8_read_69 : decode cX8_read 69 = .ok (.bipush 52, 2) := by decide +kernel
theorem dX8_read_71 : decode cX8_read 71 = .ok (.if_icmp .ge 21, 3) := by decide +kernel
theorem dX8_read_74 : decode cX8_read 74 = .ok (.aload_n 0, 1) := by decide +kernel
theorem dX8_read_75 : decode cX8_read 75 = .ok (.getfield 7, 3) := by decide +kernel
theorem dX8_read_78 : decode cX8_read 78 = .ok (.iload_n 2, 1) := by decide +kernel
theorem dX8_read_79 : decode cX8_read 79 = .ok (.aload_n 0, 1) := by decide +kernel
theorem dX8_read_80 : decode cX8_read 80 = .ok (.getfield 58, 3) := by decide +kernel
theorem dX8_read_83 : decode cX8_read 83 = .ok (.iload_n 2, 1) := by decide +kernel
theorem dX8_read_84 : decode cX8_read 84 = .ok (.iaload, 1) := by decide +kernel
theorem dX8_read_85 : decode cX8_read 85 = .ok (.iastore, 1) := by decide +kernel
theorem dX8_read_86 : decode cX8_read 86 = .ok (.iinc 2 1, 3) := by decide +kernel
theorem dX8_read_89 : decode cX8_read 89 = .ok (.goto (-21), 3) := by decide +kernel
theorem dX8_read_92 : decode cX8_read 92 = .ok (.iconst 0, 1) := by decide +kernel
theorem dX8_read_93 : decode cX8_read 93 = .ok (.istore_n 2, 1) := by decide +kernel
theorem dX8_read_94 : decode cX8_read 94 = .ok (.iload_n 2, 1) := by decide +kernel
theorem dX8_read_95 : decode cX8_read 95 = .ok (.iconst 4, 1) := by decide +kernel
theorem dX8_read_96 : decode cX8_read 96 = .ok (.if_icmp .ge 21, 3) := by decide +kernel
theorem dX8_read_99 : decode cX8_read 99 = .ok (.aload_n 0, 1) := by decide +kernel
theorem dX8_read_100 : decode cX8_read 100 = .ok (.getfield 16, 3) := by decide +kernel
theorem dX8_read_103 : decode cX8_read 103 = .ok (.iload_n 2, 1) := by decide +kernel
theorem dX8_read_104 : decode cX8_read 104 = .ok (.aload_n 0, 1) := by decide +kernel
theorem dX8_read_105 : decode cX8_read 105 = .ok (.getfield 61, 3) := by decide +kernel
theorem dX8_read_108 : decode cX8_read 108 = .ok (.iload_n 2, 1) := by decide +kernel
theorem dX8_read_109 : decode cX8_read 109 = .ok (.laload, 1) := by decide +kernel
theorem dX8_read_110 : decode cX8_read 110 = .ok (.lastore, 1) := by decide +kernel
theorem dX8_read_111 : decode cX8_read 111 = .ok (.iinc 2 1, 3) := by decide +kernel
theorem dX8_read_114 : decode cX8_read 114 = .ok (.goto (-20), 3) := by decide +kernel
theorem dX8_read_117 : decode cX8_read 117 = .ok (.iload_n 1, 1) := by decide +kernel
theorem dX8_read_118 : decode cX8_read 118 = .ok (.ireturn, 1) := by decide +kernel
theorem dX8_part_0 : decode cX8_part 0 = .ok (.iload_n 1, 1) := by decide +kernel
theorem dX8_part_1 : decode cX8_part 1 = .ok (.ifCond .ne 10, 3) := by decide +kernel
theorem dX8_part_4 : decode cX8_part 4 = .ok (.aload_n 0, 1) := by decide +kernel
theorem dX8_part_5 : decode cX8_part 5 = .ok (.getfield 215, 3) := by decide +kernel
theorem dX8_part_8 : decode cX8_part 8 = .ok (.goto 22, 3) := by decide +kernel
theorem dX8_part_11 : decode cX8_part 11 = .ok (.iload_n 1, 1) := by decide +kernel
theorem dX8_part_12 : decode cX8_part 12 = .ok (.iconst 1, 1) := by decide +kernel
theorem dX8_part_13 : decode cX8_part 13 = .ok (.if_icmp .ne 10, 3) := by decide +kernel
theorem dX8_part_16 : decode cX8_part 16 = .ok (.aload_n 0, 1) := by decide +kernel
theorem dX8_part_17 : decode cX8_part 17 = .ok (.getfield 30, 3) := by decide +kernel
theorem dX8_part_20 : decode cX8_part 20 = .ok (.goto 10, 3) := by decide +kernel
theorem dX8_part_23 : decode cX8_part 23 = .ok (.aload_n 0, 1) := by decide +kernel
theorem dX8_part_24 : decode cX8_part 24 = .ok (.bipush (-2), 2) := by decide +kernel
theorem dX8_part_26 : decode cX8_part 26 = .ok (.invokevirtual 116, 3) := by decide +kernel
theorem dX8_part_29 : decode cX8_part 29 = .ok (.i2l, 1) := by decide +kernel
theorem dX8_part_30 : decode cX8_part 30 = .ok (.lreturn, 1) := by decide +kernel
theorem dX8_image_0 : decode cX8_image 0 = .ok (.iload_n 1, 1) := by decide +kernel
theorem dX8_image_1 : decode cX8_image 1 = .ok (.i2l, 1) := by decide +kernel
theorem dX8_image_2 : decode cX8_image 2 = .ok (.lconst 0, 1) := by decide +kernel
theorem dX8_image_3 : decode cX8_image 3 = .ok (.lconst 1, 1) := by decide +kernel
theorem dX8_image_4 : decode cX8_image 4 = .ok (.invokestatic 106, 3) := by decide +kernel
theorem dX8_image_7 : decode cX8_image 7 = .ok (.ifCond .ne 10, 3) := by decide +kernel
theorem dX8_image_10 : decode cX8_image 10 = .ok (.aload_n 0, 1) := by decide +kernel
theorem dX8_image_11 : decode cX8_image 11 = .ok (.bipush (-2), 2) := by decide +kernel
theorem dX8_image_13 : decode cX8_image 13 = .ok (.invokevirtual 116, 3) := by decide +kernel
theorem dX8_image_16 : decode cX8_image 16 = .ok (.ireturn, 1) := by decide +kernel
theorem dX8_image_17 : decode cX8_image 17 = .ok (.iconst 0, 1) := by decide +kernel
theorem dX8_image_18 : decode cX8_image 18 = .ok (.istore_n 2, 1) := by decide +kernel
theorem dX8_image_19 : decode cX8_image 19 = .ok (.iload_n 2, 1) := by decide +kernel
theorem dX8_image_20 : decode cX8_image 20 = .ok (.sipush 188, 3) := by decide +kernel
theorem dX8_image_23 : decode cX8_image 23 = .ok (.if_icmp .ge 27, 3) := by decide +kernel
theorem dX8_image_26 : decode cX8_image 26 = .ok (.aload_n 0, 1) := by decide +kernel
theorem dX8_image_27 : decode cX8_image 27 = .ok (.getfield 13, 3) := by decide +kernel
theorem dX8_image_30 : decode cX8_image 30 = .ok (.sipush 188, 3) := by decide +kernel
theorem dX8_image_33 : decode cX8_image 33 = .ok (.iload_n 1, 1) := by decide +kernel
theorem dX8_image_34 : decode cX8_image 34 = .ok (.imul, 1) := by decide +kernel
theorem dX8_image_35 : decode cX8_image 35 = .ok (.iload_n 2, 1) := by decide +kernel
theorem dX8_image_36 : decode cX8_image 36 = .ok (.iadd, 1) := by decide +kernel
theorem dX8_image_37 : decode cX8_image 37 = .ok (.aload_n 0, 1) := by decide +kernel
theorem dX8_image_38 : decode cX8_image 38 = .ok (.getfield 7, 3) := by decide +kernel
theorem dX8_image_41 : decode cX8_image 41 = .ok (.iload_n 2, 1) := by decide +kernel
theorem dX8_image_42 : decode cX8_image 42 = .ok (.iaload, 1) := by decide +kernel
theorem dX8_image_43 : decode cX8_image 43 = .ok (.iastore, 1) := by decide +kernel
theorem dX8_image_44 : decode cX8_image 44 = .ok (.iinc 2 1, 3) := by decide +kernel
theorem dX8_image_47 : decode cX8_image 47 = .ok (.goto (-28), 3) := by decide +kernel
theorem dX8_image_50 : decode cX8_image 50 = .ok (.iconst 0, 1) := by decide +kernel
theorem dX8_image_51 : decode cX8_image 51 = .ok (.istore_n 2, 1) := by decide +kernel
theorem dX8_image_52 : decode cX8_image 52 = .ok (.iload_n 2, 1) := by decide +kernel
theorem dX8_image_53 : decode cX8_image 53 = .ok (.bipush 20, 2) := by decide +kernel
theorem dX8_image_55 : decode cX8_image 55 = .ok (.if_icmp .ge 26, 3) := by decide +kernel
theorem dX8_image_58 : decode cX8_image 58 = .ok (.aload_n 0, 1) := by decide +kernel
theorem dX8_image_59 : decode cX8_image 59 = .ok (.getfield 20, 3) := by decide +kernel
theorem dX8_image_62 : decode cX8_image 62 = .ok (.bipush 20, 2) := by decide +kernel
theorem dX8_image_64 : decode cX8_image 64 = .ok (.iload_n 1, 1) := by decide +kernel
theorem dX8_image_65 : decode cX8_image 65 = .ok (.imul, 1) := by decide +kernel
theorem dX8_image_66 : decode cX8_image 66 = .ok (.iload_n 2, 1) := by decide +kernel
theorem dX8_image_67 : decode cX8_image 67 = .ok (.iadd, 1) := by decide +kernel
theorem dX8_image_68 : decode cX8_image 68 = .ok (.aload_n 0, 1) := by decide +kernel
theorem dX8_image_69 : decode cX8_image 69 = .ok (.getfield 16, 3) := by decide +kernel
theorem dX8_image_72 : decode cX8_image 72 = .ok (.iload_n 2, 1) := by decide +kernel
theorem dX8_image_73 : decode cX8_image 73 = .ok (.laload, 1) := by decide +kernel
theorem dX8_image_74 : decode cX8_image 74 = .ok (.lastore, 1) := by decide +kernel
theorem dX8_image_75 : decode cX8_image 75 = .ok (.iinc 2 1, 3) := by decide +kernel
theorem dX8_image_78 : decode cX8_image 78 = .ok (.goto (-26), 3) := by decide +kernel
theorem dX8_image_81 : decode cX8_image 81 = .ok (.aload_n 0, 1) := by decide +kernel
theorem dX8_image_82 : decode cX8_image 82 = .ok (.getfield 23, 3) := by decide +kernel
theorem dX8_image_85 : decode cX8_image 85 = .ok (.iload_n 1, 1) := by decide +kernel
theorem dX8_image_86 : decode cX8_image 86 = .ok (.iconst 1, 1) := by decide +kernel
theorem dX8_image_87 : decode cX8_image 87 = .ok (.bastore, 1) := by decide +kernel
theorem dX8_image_88 : decode cX8_image 88 = .ok (.iconst 1, 1) := by decide +kernel
theorem dX8_image_89 : decode cX8_image 89 = .ok (.ireturn, 1) := by decide +kernel
theorem dX8_from_0 : decode cX8_from 0 = .ok (.iload_n 1, 1) := by decide +kernel
theorem dX8_from_1 : decode cX8_from 1 = .ok (.i2l, 1) := by decide +kernel
theorem dX8_from_2 : decode cX8_from 2 = .ok (.lconst 0, 1) := by decide +kernel
theorem dX8_from_3 : decode cX8_from 3 = .ok (.lconst 1, 1) := by decide +kernel
theorem dX8_from_4 : decode cX8_from 4 = .ok (.invokestatic 106, 3) := by decide +kernel
theorem dX8_from_7 : decode cX8_from 7 = .ok (.ifCond .ne 10, 3) := by decide +kernel
theorem dX8_from_10 : decode cX8_from 10 = .ok (.aload_n 0, 1) := by decide +kernel
theorem dX8_from_11 : decode cX8_from 11 = .ok (.bipush (-2), 2) := by decide +kernel
theorem dX8_from_13 : decode cX8_from 13 = .ok (.invokevirtual 116, 3) := by decide +kernel
theorem dX8_from_16 : decode cX8_from 16 = .ok (.ireturn, 1) := by decide +kernel
theorem dX8_from_17 : decode cX8_from 17 = .ok (.aload_n 0, 1) := by decide +kernel
theorem dX8_from_18 : decode cX8_from 18 = .ok (.getfield 23, 3) := by decide +kernel
theorem dX8_from_21 : decode cX8_from 21 = .ok (.iload_n 1, 1) := by decide +kernel
theorem dX8_from_22 : decode cX8_from 22 = .ok (.baload, 1) := by decide +kernel
theorem dX8_from_23 : decode cX8_from 23 = .ok (.ifCond .ne 8, 3) := by decide +kernel
theorem dX8_from_26 : decode cX8_from 26 = .ok (.aload_n 0, 1) := by decide +kernel
theorem dX8_from_27 : decode cX8_from 27 = .ok (.invokevirtual 145, 3) := by decide +kernel
theorem dX8_from_30 : decode cX8_from 30 = .ok (.ireturn, 1) := by decide +kernel
theorem dX8_from_31 : decode cX8_from 31 = .ok (.iconst 0, 1) := by decide +kernel
theorem dX8_from_32 : decode cX8_from 32 = .ok (.istore_n 2, 1) := by decide +kernel
theorem dX8_from_33 : decode cX8_from 33 = .ok (.iload_n 2, 1) := by decide +kernel
theorem dX8_from_34 : decode cX8_from 34 = .ok (.sipush 188, 3) := by decide +kernel
theorem dX8_from_37 : decode cX8_from 37 = .ok (.if_icmp .ge 27, 3) := by decide +kernel
theorem dX8_from_40 : decode cX8_from 40 = .ok (.aload_n 0, 1) := by decide +kernel
theorem dX8_from_41 : decode cX8_from 41 = .ok (.getfield 7, 3) := by decide +kernel
theorem dX8_from_44 : decode cX8_from 44 = .ok (.iload_n 2, 1) := by decide +kernel
theorem dX8_from_45 : decode cX8_from 45 = .ok (.aload_n 0, 1) := by decide +kernel
theorem dX8_from_46 : decode cX8_from 46 = .ok (.getfield 13, 3) := by decide +kernel
theorem dX8_from_49 : decode cX8_from 49 = .ok (.sipush 188, 3) := by decide +kernel
theorem dX8_from_52 : decode cX8_from 52 = .ok (.iload_n 1, 1) := by decide +kernel
theorem dX8_from_53 : decode cX8_from 53 = .ok (.imul, 1) := by decide +kernel
theorem dX8_from_54 : decode cX8_from 54 = .ok (.iload_n 2, 1) := by decide +kernel
theorem dX8_from_55 : decode cX8_from 55 = .ok (.iadd, 1) := by decide +kernel
theorem dX8_from_56 : decode cX8_from 56 = .ok (.iaload, 1) := by decide +kernel
theorem dX8_from_57 : decode cX8_from 57 = .ok (.iastore, 1) := by decide +kernel
theorem dX8_from_58 : decode cX8_from 58 = .ok (.iinc 2 1, 3) := by decide +kernel
theorem dX8_from_61 : decode cX8_from 61 = .ok (.goto (-28), 3) := by decide +kernel
theorem dX8_from_64 : decode cX8_from 64 = .ok (.iconst 0, 1) := by decide +kernel
theorem dX8_from_65 : decode cX8_from 65 = .ok (.istore_n 2, 1) := by decide +kernel
theorem dX8_from_66 : decode cX8_from 66 = .ok (.iload_n 2, 1) := by decide +kernel
theorem dX8_from_67 : decode cX8_from 67 = .ok (.bipush 20, 2) := by decide +kernel
theorem dX8_from_69 : decode cX8_from 69 = .ok (.if_icmp .ge 26, 3) := by decide +kernel
theorem dX8_from_72 : decode cX8_from 72 = .ok (.aload_n 0, 1) := by decide +kernel
theorem dX8_from_73 : decode cX8_from 73 = .ok (.getfield 16, 3) := by decide +kernel
theorem dX8_from_76 : decode cX8_from 76 = .ok (.iload_n 2, 1) := by decide +kernel
theorem dX8_from_77 : decode cX8_from 77 = .ok (.aload_n 0, 1) := by decide +kernel
theorem dX8_from_78 : decode cX8_from 78 = .ok (.getfield 20, 3) := by decide +kernel
theorem dX8_from_81 : decode cX8_from 81 = .ok (.bipush 20, 2) := by decide +kernel
theorem dX8_from_83 : decode cX8_from 83 = .ok (.iload_n 1, 1) := by decide +kernel
theorem dX8_from_84 : decode cX8_from 84 = .ok (.imul, 1) := by decide +kernel
theorem dX8_from_85 : decode cX8_from 85 = .ok (.iload_n 2, 1) := by decide +kernel
theorem dX8_from_86 : decode cX8_from 86 = .ok (.iadd, 1) := by decide +kernel
theorem dX8_from_87 : decode cX8_from 87 = .ok (.laload, 1) := by decide +kernel
theorem dX8_from_88 : decode cX8_from 88 = .ok (.lastore, 1) := by decide +kernel
theorem dX8_from_89 : decode cX8_from 89 = .ok (.iinc 2 1, 3) := by decide +kernel
theorem dX8_from_92 : decode cX8_from 92 = .ok (.goto (-26), 3) := by decide +kernel
theorem dX8_from_95 : decode cX8_from 95 = .ok (.iconst 1, 1) := by decide +kernel
theorem dX8_from_96 : decode cX8_from 96 = .ok (.ireturn, 1) := by decide +kernel
theorem dX8_status_0 : decode cX8_status 0 = .ok (.iload_n 1, 1) := by decide +kernel
theorem dX8_status_1 : decode cX8_status 1 = .ok (.i2l, 1) := by decide +kernel
theorem dX8_status_2 : decode cX8_status 2 = .ok (.lconst 0, 1) := by decide +kernel
theorem dX8_status_3 : decode cX8_status 3 = .ok (.ldc2_w 309, 3) := by decide +kernel
theorem dX8_status_6 : decode cX8_status 6 = .ok (.invokestatic 106, 3) := by decide +kernel
theorem dX8_status_9 : decode cX8_status 9 = .ok (.ifCond .eq 12, 3) := by decide +kernel
theorem dX8_status_12 : decode cX8_status 12 = .ok (.aload_n 0, 1) := by decide +kernel
theorem dX8_status_13 : decode cX8_status 13 = .ok (.getfield 27, 3) := by decide +kernel
theorem dX8_status_16 : decode cX8_status 16 = .ok (.iload_n 1, 1) := by decide +kernel
theorem dX8_status_17 : decode cX8_status 17 = .ok (.iaload, 1) := by decide +kernel
theorem dX8_status_18 : decode cX8_status 18 = .ok (.goto 8, 3) := by decide +kernel
theorem dX8_status_21 : decode cX8_status 21 = .ok (.aload_n 0, 1) := by decide +kernel
theorem dX8_status_22 : decode cX8_status 22 = .ok (.iconst (-1), 1) := by decide +kernel
theorem dX8_status_23 : decode cX8_status 23 = .ok (.invokevirtual 116, 3) := by decide +kernel
theorem dX8_status_26 : decode cX8_status 26 = .ok (.ireturn, 1) := by decide +kernel
theorem dX8_counted_0 : decode cX8_counted 0 = .ok (.iload_n 1, 1) := by decide +kernel
theorem dX8_counted_1 : decode cX8_counted 1 = .ok (.iconst 4, 1) := by decide +kernel
theorem dX8_counted_2 : decode cX8_counted 2 = .ok (.if_icmp .ge 12, 3) := by decide +kernel
theorem dX8_counted_5 : decode cX8_counted 5 = .ok (.aload_n 0, 1) := by decide +kernel
theorem dX8_counted_6 : decode cX8_counted 6 = .ok (.getfield 7, 3) := by decide +kernel
theorem dX8_counted_9 : decode cX8_counted 9 = .ok (.iload_n 1, 1) := by decide +kernel
theorem dX8_counted_10 : decode cX8_counted 10 = .ok (.iaload, 1) := by decide +kernel
theorem dX8_counted_11 : decode cX8_counted 11 = .ok (.goto 7, 3) := by decide +kernel
theorem dX8_counted_14 : decode cX8_counted 14 = .ok (.aload_n 0, 1) := by decide +kernel
theorem dX8_counted_15 : decode cX8_counted 15 = .ok (.getfield 253, 3) := by decide +kernel
theorem dX8_counted_18 : decode cX8_counted 18 = .ok (.ireturn, 1) := by decide +kernel
theorem dX8_count_0 : decode cX8_count 0 = .ok (.iload_n 1, 1) := by decide +kernel
theorem dX8_count_1 : decode cX8_count 1 = .ok (.i2l, 1) := by decide +kernel
theorem dX8_count_2 : decode cX8_count 2 = .ok (.lconst 0, 1) := by decide +kernel
theorem dX8_count_3 : decode cX8_count 3 = .ok (.ldc2_w 311, 3) := by decide +kernel
theorem dX8_count_6 : decode cX8_count 6 = .ok (.invokestatic 106, 3) := by decide +kernel
theorem dX8_count_9 : decode cX8_count 9 = .ok (.ifCond .eq 11, 3) := by decide +kernel
theorem dX8_count_12 : decode cX8_count 12 = .ok (.aload_n 0, 1) := by decide +kernel
theorem dX8_count_13 : decode cX8_count 13 = .ok (.iload_n 1, 1) := by decide +kernel
theorem dX8_count_14 : decode cX8_count 14 = .ok (.invokevirtual 313, 3) := by decide +kernel
theorem dX8_count_17 : decode cX8_count 17 = .ok (.goto 9, 3) := by decide +kernel
theorem dX8_count_20 : decode cX8_count 20 = .ok (.aload_n 0, 1) := by decide +kernel
theorem dX8_count_21 : decode cX8_count 21 = .ok (.bipush (-2), 2) := by decide +kernel
theorem dX8_count_23 : decode cX8_count 23 = .ok (.invokevirtual 116, 3) := by decide +kernel
theorem dX8_count_26 : decode cX8_count 26 = .ok (.ireturn, 1) := by decide +kernel
theorem dX8_nameIn_0 : decode cX8_nameIn 0 = .ok (.ldc2_w 316, 3) := by decide +kernel
theorem dX8_nameIn_3 : decode cX8_nameIn 3 = .ok (.lload_n 0, 1) := by decide +kernel
theorem dX8_nameIn_4 : decode cX8_nameIn 4 = .ok (.lmul, 1) := by decide +kernel
theorem dX8_nameIn_5 : decode cX8_nameIn 5 = .ok (.lload_n 2, 1) := by decide +kernel
theorem dX8_nameIn_6 : decode cX8_nameIn 6 = .ok (.invokestatic 71, 3) := by decide +kernel
theorem dX8_nameIn_9 : decode cX8_nameIn 9 = .ok (.i2l, 1) := by decide +kernel
theorem dX8_nameIn_10 : decode cX8_nameIn 10 = .ok (.ladd, 1) := by decide +kernel
theorem dX8_nameIn_11 : decode cX8_nameIn 11 = .ok (.lstore 4, 2) := by decide +kernel
theorem dX8_nameIn_13 : decode cX8_nameIn 13 = .ok (.iconst 0, 1) := by decide +kernel
theorem dX8_nameIn_14 : decode cX8_nameIn 14 = .ok (.istore 6, 2) := by decide +kernel
theorem dX8_nameIn_16 : decode cX8_nameIn 16 = .ok (.iload 6, 2) := by decide +kernel
theorem dX8_nameIn_18 : decode cX8_nameIn 18 = .ok (.lload_n 2, 1) := by decide +kernel
theorem dX8_nameIn_19 : decode cX8_nameIn 19 = .ok (.invokestatic 71, 3) := by decide +kernel
theorem dX8_nameIn_22 : decode cX8_nameIn 22 = .ok (.if_icmp .ge 25, 3) := by decide +kernel
theorem dX8_nameIn_25 : decode cX8_nameIn 25 = .ok (.ldc2_w 316, 3) := by decide +kernel
theorem dX8_nameIn_28 : decode cX8_nameIn 28 = .ok (.lload 4, 2) := by decide +kernel
theorem dX8_nameIn_30 : decode cX8_nameIn 30 = .ok (.lmul, 1) := by decide +kernel
theorem dX8_nameIn_31 : decode cX8_nameIn 31 = .ok (.lload_n 2, 1) := by decide +kernel
theorem dX8_nameIn_32 : decode cX8_nameIn 32 = .ok (.iload 6, 2) := by decide +kernel
theorem dX8_nameIn_34 : decode cX8_nameIn 34 = .ok (.invokestatic 82, 3) := by decide +kernel
theorem dX8_nameIn_37 : decode cX8_nameIn 37 = .ok (.i2l, 1) := by decide +kernel
theorem dX8_nameIn_38 : decode cX8_nameIn 38 = .ok (.ladd, 1) := by decide +kernel
theorem dX8_nameIn_39 : decode cX8_nameIn 39 = .ok (.lstore 4, 2) := by decide +kernel
theorem dX8_nameIn_41 : decode cX8_nameIn 41 = .ok (.iinc 6 1, 3) := by decide +kernel
theorem dX8_nameIn_44 : decode cX8_nameIn 44 = .ok (.goto (-28), 3) := by decide +kernel
theorem dX8_nameIn_47 : decode cX8_nameIn 47 = .ok (.lload 4, 2) := by decide +kernel
theorem dX8_nameIn_49 : decode cX8_nameIn 49 = .ok (.lreturn, 1) := by decide +kernel
theorem dX8_digest_0 : decode cX8_digest 0 = .ok (.ldc2_w 318, 3) := by decide +kernel
theorem dX8_digest_3 : decode cX8_digest 3 = .ok (.lstore_n 1, 1) := by decide +kernel
theorem dX8_digest_4 : decode cX8_digest 4 = .ok (.iconst 0, 1) := by decide +kernel
theorem dX8_digest_5 : decode cX8_digest 5 = .ok (.istore_n 3, 1) := by decide +kernel
theorem dX8_digest_6 : decode cX8_digest 6 = .ok (.iload_n 3, 1) := by decide +kernel
theorem dX8_digest_7 : decode cX8_digest 7 = .ok (.iconst 5, 1) := by decide +kernel
theorem dX8_digest_8 : decode cX8_digest 8 = .ok (.if_icmp .ge 22, 3) := by decide +kernel
theorem dX8_digest_11 : decode cX8_digest 11 = .ok (.ldc2_w 316, 3) := by decide +kernel
theorem dX8_digest_14 : decode cX8_digest 14 = .ok (.lload_n 1, 1) := by decide +kernel
theorem dX8_digest_15 : decode cX8_digest 15 = .ok (.lmul, 1) := by decide +kernel
theorem dX8_digest_16 : decode cX8_digest 16 = .ok (.aload_n 0, 1) := by decide +kernel
theorem dX8_digest_17 : decode cX8_digest 17 = .ok (.iload_n 3, 1) := by decide +kernel
theorem dX8_digest_18 : decode cX8_digest 18 = .ok (.invokevirtual 313, 3) := by decide +kernel
theorem dX8_digest_21 : decode cX8_digest 21 = .ok (.i2l, 1) := by decide +kernel
theorem dX8_digest_22 : decode cX8_digest 22 = .ok (.ladd, 1) := by decide +kernel
theorem dX8_digest_23 : decode cX8_digest 23 = .ok (.lstore_n 1, 1) := by decide +kernel
theorem dX8_digest_24 : decode cX8_digest 24 = .ok (.iinc 3 1, 3) := by decide +kernel
theorem dX8_digest_27 : decode cX8_digest 27 = .ok (.goto (-21), 3) := by decide +kernel
theorem dX8_digest_30 : decode cX8_digest 30 = .ok (.iconst 0, 1) := by decide +kernel
theorem dX8_digest_31 : decode cX8_digest 31 = .ok (.istore_n 3, 1) := by decide +kernel
theorem dX8_digest_32 : decode cX8_digest 32 = .ok (.iload_n 3, 1) := by decide +kernel
theorem dX8_digest_33 : decode cX8_digest 33 = .ok (.iconst 4, 1) := by decide +kernel
theorem dX8_digest_34 : decode cX8_digest 34 = .ok (.aload_n 0, 1) := by decide +kernel
theorem dX8_digest_35 : decode cX8_digest 35 = .ok (.invokevirtual 102, 3) := by decide +kernel
theorem dX8_digest_38 : decode cX8_digest 38 = .ok (.imul, 1) := by decide +kernel
theorem dX8_digest_39 : decode cX8_digest 39 = .ok (.if_icmp .ge 25, 3) := by decide +kernel
theorem dX8_digest_42 : decode cX8_digest 42 = .ok (.ldc2_w 316, 3) := by decide +kernel
theorem dX8_digest_45 : decode cX8_digest 45 = .ok (.lload_n 1, 1) := by decide +kernel
theorem dX8_digest_46 : decode cX8_digest 46 = .ok (.lmul, 1) := by decide +kernel
theorem dX8_digest_47 : decode cX8_digest 47 = .ok (.aload_n 0, 1) := by decide +kernel
theorem dX8_digest_48 : decode cX8_digest 48 = .ok (.getfield 7, 3) := by decide +kernel
theorem dX8_digest_51 : decode cX8_digest 51 = .ok (.iconst 4, 1) := by decide +kernel
theorem dX8_digest_52 : decode cX8_digest 52 = .ok (.iload_n 3, 1) := by decide +kernel
theorem dX8_digest_53 : decode cX8_digest 53 = .ok (.iadd, 1) := by decide +kernel
theorem dX8_digest_54 : decode cX8_digest 54 = .ok (.iaload, 1) := by decide +kernel
theorem dX8_digest_55 : decode cX8_digest 55 = .ok (.i2l, 1) := by decide +kernel
theorem dX8_digest_56 : decode cX8_digest 56 = .ok (.ladd, 1) := by decide +kernel
theorem dX8_digest_57 : decode cX8_digest 57 = .ok (.lstore_n 1, 1) := by decide +kernel
theorem dX8_digest_58 : decode cX8_digest 58 = .ok (.iinc 3 1, 3) := by decide +kernel
theorem dX8_digest_61 : decode cX8_digest 61 = .ok (.goto (-29), 3) := by decide +kernel
theorem dX8_digest_64 : decode cX8_digest 64 = .ok (.iconst 0, 1) := by decide +kernel
theorem dX8_digest_65 : decode cX8_digest 65 = .ok (.istore_n 3, 1) := by decide +kernel
theorem dX8_digest_66 : decode cX8_digest 66 = .ok (.iload_n 3, 1) := by decide +kernel
theorem dX8_digest_67 : decode cX8_digest 67 = .ok (.iconst 4, 1) := by decide +kernel
theorem dX8_digest_68 : decode cX8_digest 68 = .ok (.if_icmp .ge 20, 3) := by decide +kernel
theorem dX8_digest_71 : decode cX8_digest 71 = .ok (.lload_n 1, 1) := by decide +kernel
theorem dX8_digest_72 : decode cX8_digest 72 = .ok (.aload_n 0, 1) := by decide +kernel
theorem dX8_digest_73 : decode cX8_digest 73 = .ok (.getfield 16, 3) := by decide +kernel
theorem dX8_digest_76 : decode cX8_digest 76 = .ok (.iload_n 3, 1) := by decide +kernel
theorem dX8_digest_77 : decode cX8_digest 77 = .ok (.laload, 1) := by decide +kernel
theorem dX8_digest_78 : decode cX8_digest 78 = .ok (.invokestatic 320, 3) := by decide +kernel
theorem dX8_digest_81 : decode cX8_digest 81 = .ok (.lstore_n 1, 1) := by decide +kernel
theorem dX8_digest_82 : decode cX8_digest 82 = .ok (.iinc 3 1, 3) := by decide +kernel
theorem dX8_digest_85 : decode cX8_digest 85 = .ok (.goto (-19), 3) := by decide +kernel
theorem dX8_digest_88 : decode cX8_digest 88 = .ok (.iconst 0, 1) := by decide +kernel
theorem dX8_digest_89 : decode cX8_digest 89 = .ok (.istore_n 3, 1) := by decide +kernel
theorem dX8_digest_90 : decode cX8_digest 90 = .ok (.iload_n 3, 1) := by decide +kernel
theorem dX8_digest_91 : decode cX8_digest 91 = .ok (.aload_n 0, 1) := by decide +kernel
theorem dX8_digest_92 : decode cX8_digest 92 = .ok (.getfield 7, 3) := by decide +kernel
theorem dX8_digest_95 : decode cX8_digest 95 = .ok (.iconst 2, 1) := by decide +kernel
theorem dX8_digest_96 : decode cX8_digest 96 = .ok (.iaload, 1) := by decide +kernel
theorem dX8_digest_97 : decode cX8_digest 97 = .ok (.if_icmp .ge 77, 3) := by decide +kernel
theorem dX8_digest_100 : decode cX8_digest 100 = .ok (.ldc2_w 316, 3) := by decide +kernel
theorem dX8_digest_103 : decode cX8_digest 103 = .ok (.ldc2_w 316, 3) := by decide +kernel
theorem dX8_digest_106 : decode cX8_digest 106 = .ok (.lload_n 1, 1) := by decide +kernel
theorem dX8_digest_107 : decode cX8_digest 107 = .ok (.lmul, 1) := by decide +kernel
theorem dX8_digest_108 : decode cX8_digest 108 = .ok (.aload_n 0, 1) := by decide +kernel
theorem dX8_digest_109 : decode cX8_digest 109 = .ok (.getfield 7, 3) := by decide +kernel
theorem dX8_digest_112 : decode cX8_digest 112 = .ok (.bipush 36, 2) := by decide +kernel
theorem dX8_digest_114 : decode cX8_digest 114 = .ok (.iconst 2, 1) := by decide +kernel
theorem dX8_digest_115 : decode cX8_digest 115 = .ok (.iload_n 3, 1) := by decide +kernel
theorem dX8_digest_116 : decode cX8_digest 116 = .ok (.imul, 1) := by decide +kernel
theorem dX8_digest_117 : decode cX8_digest 117 = .ok (.iadd, 1) := by decide +kernel
theorem dX8_digest_118 : decode cX8_digest 118 = .ok (.iaload, 1) := by decide +kernel
theorem dX8_digest_119 : decode cX8_digest 119 = .ok (.i2l, 1) := by decide +kernel
theorem dX8_digest_120 : decode cX8_digest 120 = .ok (.ladd, 1) := by decide +kernel
theorem dX8_digest_121 : decode cX8_digest 121 = .ok (.lmul, 1) := by decide +kernel
theorem dX8_digest_122 : decode cX8_digest 122 = .ok (.aload_n 0, 1) := by decide +kernel
theorem dX8_digest_123 : decode cX8_digest 123 = .ok (.getfield 7, 3) := by decide +kernel
theorem dX8_digest_126 : decode cX8_digest 126 = .ok (.bipush 36, 2) := by decide +kernel
theorem dX8_digest_128 : decode cX8_digest 128 = .ok (.iconst 2, 1) := by decide +kernel
theorem dX8_digest_129 : decode cX8_digest 129 = .ok (.iload_n 3, 1) := by decide +kernel
theorem dX8_digest_130 : decode cX8_digest 130 = .ok (.imul, 1) := by decide +kernel
theorem dX8_digest_131 : decode cX8_digest 131 = .ok (.iadd, 1) := by decide +kernel
theorem dX8_digest_132 : decode cX8_digest 132 = .ok (.iconst 1, 1) := by decide +kernel
theorem dX8_digest_133 : decode cX8_digest 133 = .ok (.iadd, 1) := by decide +kernel
theorem dX8_digest_134 : decode cX8_digest 134 = .ok (.iaload, 1) := by decide +kernel
theorem dX8_digest_135 : decode cX8_digest 135 = .ok (.i2l, 1) := by decide +kernel
theorem dX8_digest_136 : decode cX8_digest 136 = .ok (.ladd, 1) := by decide +kernel
theorem dX8_digest_137 : decode cX8_digest 137 = .ok (.lstore_n 1, 1) := by decide +kernel
theorem dX8_digest_138 : decode cX8_digest 138 = .ok (.lload_n 1, 1) := by decide +kernel
theorem dX8_digest_139 : decode cX8_digest 139 = .ok (.aload_n 0, 1) := by decide +kernel
theorem dX8_digest_140 : decode cX8_digest 140 = .ok (.getfield 16, 3) := by decide +kernel
theorem dX8_digest_143 : decode cX8_digest 143 = .ok (.iconst 4, 1) := by decide +kernel
theorem dX8_digest_144 : decode cX8_digest 144 = .ok (.iconst 2, 1) := by decide +kernel
theorem dX8_digest_145 : decode cX8_digest 145 = .ok (.iload_n 3, 1) := by decide +kernel
theorem dX8_digest_146 : decode cX8_digest 146 = .ok (.imul, 1) := by decide +kernel
theorem dX8_digest_147 : decode cX8_digest 147 = .ok (.iadd, 1) := by decide +kernel
theorem dX8_digest_148 : decode cX8_digest 148 = .ok (.laload, 1) := by decide +kernel
theorem dX8_digest_149 : decode cX8_digest 149 = .ok (.invokestatic 320, 3) := by decide +kernel
theorem dX8_digest_152 : decode cX8_digest 152 = .ok (.aload_n 0, 1) := by decide +kernel
theorem dX8_digest_153 : decode cX8_digest 153 = .ok (.getfield 16, 3) := by decide +kernel
theorem dX8_digest_156 : decode cX8_digest 156 = .ok (.iconst 4, 1) := by decide +kernel
theorem dX8_digest_157 : decode cX8_digest 157 = .ok (.iconst 2, 1) := by decide +kernel
theorem dX8_digest_158 : decode cX8_digest 158 = .ok (.iload_n 3, 1) := by decide +kernel
theorem dX8_digest_159 : decode cX8_digest 159 = .ok (.imul, 1) := by decide +kernel
theorem dX8_digest_160 : decode cX8_digest 160 = .ok (.iadd, 1) := by decide +kernel
theorem dX8_digest_161 : decode cX8_digest 161 = .ok (.iconst 1, 1) := by decide +kernel
theorem dX8_digest_162 : decode cX8_digest 162 = .ok (.iadd, 1) := by decide +kernel
theorem dX8_digest_163 : decode cX8_digest 163 = .ok (.laload, 1) := by decide +kernel
theorem dX8_digest_164 : decode cX8_digest 164 = .ok (.invokestatic 320, 3) := by decide +kernel
theorem dX8_digest_167 : decode cX8_digest 167 = .ok (.lstore_n 1, 1) := by decide +kernel
theorem dX8_digest_168 : decode cX8_digest 168 = .ok (.iinc 3 1, 3) := by decide +kernel
theorem dX8_digest_171 : decode cX8_digest 171 = .ok (.goto (-81), 3) := by decide +kernel
theorem dX8_digest_174 : decode cX8_digest 174 = .ok (.ldc2_w 316, 3) := by decide +kernel
theorem dX8_digest_177 : decode cX8_digest 177 = .ok (.ldc2_w 316, 3) := by decide +kernel
theorem dX8_digest_180 : decode cX8_digest 180 = .ok (.lload_n 1, 1) := by decide +kernel
theorem dX8_digest_181 : decode cX8_digest 181 = .ok (.lmul, 1) := by decide +kernel
theorem dX8_digest_182 : decode cX8_digest 182 = .ok (.aload_n 0, 1) := by decide +kernel
theorem dX8_digest_183 : decode cX8_digest 183 = .ok (.getfield 215, 3) := by decide +kernel
theorem dX8_digest_186 : decode cX8_digest 186 = .ok (.ladd, 1) := by decide +kernel
theorem dX8_digest_187 : decode cX8_digest 187 = .ok (.lmul, 1) := by decide +kernel
theorem dX8_digest_188 : decode cX8_digest 188 = .ok (.aload_n 0, 1) := by decide +kernel
theorem dX8_digest_189 : decode cX8_digest 189 = .ok (.getfield 30, 3) := by decide +kernel
theorem dX8_digest_192 : decode cX8_digest 192 = .ok (.ladd, 1) := by decide +kernel
theorem dX8_digest_193 : decode cX8_digest 193 = .ok (.lreturn, 1) := by decide +kernel
