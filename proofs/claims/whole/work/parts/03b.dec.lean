theorem dX6_fewest_107 : decode cX6_fewest 107 = .ok (.goto 5, 3) := by decide +kernel
theorem dX6_fewest_110 : decode cX6_fewest 110 = .ok (.iload 8, 2) := by decide +kernel
theorem dX6_fewest_112 : decode cX6_fewest 112 = .ok (.istore 8, 2) := by decide +kernel
theorem dX6_fewest_114 : decode cX6_fewest 114 = .ok (.iinc 9 1, 3) := by decide +kernel
theorem dX6_fewest_117 : decode cX6_fewest 117 = .ok (.goto (-89), 3) := by decide +kernel
theorem dX6_fewest_120 : decode cX6_fewest 120 = .ok (.iload 8, 2) := by decide +kernel
theorem dX6_fewest_122 : decode cX6_fewest 122 = .ok (.ireturn, 1) := by decide +kernel
theorem dX6_isOpen_0 : decode cX6_isOpen 0 = .ok (.aload_n 0, 1) := by decide +kernel
theorem dX6_isOpen_1 : decode cX6_isOpen 1 = .ok (.getfield 75, 3) := by decide +kernel
theorem dX6_isOpen_4 : decode cX6_isOpen 4 = .ok (.iload_n 1, 1) := by decide +kernel
theorem dX6_isOpen_5 : decode cX6_isOpen 5 = .ok (.iaload, 1) := by decide +kernel
theorem dX6_isOpen_6 : decode cX6_isOpen 6 = .ok (.iload_n 2, 1) := by decide +kernel
theorem dX6_isOpen_7 : decode cX6_isOpen 7 = .ok (.if_icmp .ne 15, 3) := by decide +kernel
theorem dX6_isOpen_10 : decode cX6_isOpen 10 = .ok (.iload_n 3, 1) := by decide +kernel
theorem dX6_isOpen_11 : decode cX6_isOpen 11 = .ok (.iload_n 1, 1) := by decide +kernel
theorem dX6_isOpen_12 : decode cX6_isOpen 12 = .ok (.ishr, 1) := by decide +kernel
theorem dX6_isOpen_13 : decode cX6_isOpen 13 = .ok (.iconst 1, 1) := by decide +kernel
theorem dX6_isOpen_14 : decode cX6_isOpen 14 = .ok (.iand, 1) := by decide +kernel
theorem dX6_isOpen_15 : decode cX6_isOpen 15 = .ok (.ifCond .ne 7, 3) := by decide +kernel
theorem dX6_isOpen_18 : decode cX6_isOpen 18 = .ok (.iconst 1, 1) := by decide +kernel
theorem dX6_isOpen_19 : decode cX6_isOpen 19 = .ok (.goto 4, 3) := by decide +kernel
theorem dX6_isOpen_22 : decode cX6_isOpen 22 = .ok (.iconst 0, 1) := by decide +kernel
theorem dX6_isOpen_23 : decode cX6_isOpen 23 = .ok (.ireturn, 1) := by decide +kernel
theorem dX7_init_0 : decode cX7_init 0 = .ok (.aload_n 0, 1) := by decide +kernel
theorem dX7_init_1 : decode cX7_init 1 = .ok (.invokespecial 1, 3) := by decide +kernel
theorem dX7_init_4 : decode cX7_init 4 = .ok (.aload_n 0, 1) := by decide +kernel
theorem dX7_init_5 : decode cX7_init 5 = .ok (.new 7, 3) := by decide +kernel
theorem dX7_init_8 : decode cX7_init 8 = .ok (.dup, 1) := by decide +kernel
theorem dX7_init_9 : decode cX7_init 9 = .ok (.invokespecial 9, 3) := by decide +kernel
theorem dX7_init_12 : decode cX7_init 12 = .ok (.putfield 10, 3) := by decide +kernel
theorem dX7_init_15 : decode cX7_init 15 = .ok (.aload_n 0, 1) := by decide +kernel
theorem dX7_init_16 : decode cX7_init 16 = .ok (.new 7, 3) := by decide +kernel
theorem dX7_init_19 : decode cX7_init 19 = .ok (.dup, 1) := by decide +kernel
theorem dX7_init_20 : decode cX7_init 20 = .ok (.invokespecial 9, 3) := by decide +kernel
theorem dX7_init_23 : decode cX7_init 23 = .ok (.putfield 16, 3) := by decide +kernel
theorem dX7_init_26 : decode cX7_init 26 = .ok (.aload_n 0, 1) := by decide +kernel
theorem dX7_init_27 : decode cX7_init 27 = .ok (.iconst 2, 1) := by decide +kernel
theorem dX7_init_28 : decode cX7_init 28 = .ok (.anewarray 7, 3) := by decide +kernel
theorem dX7_init_31 : decode cX7_init 31 = .ok (.dup, 1) := by decide +kernel
theorem dX7_init_32 : decode cX7_init 32 = .ok (.iconst 0, 1) := by decide +kernel
theorem dX7_init_33 : decode cX7_init 33 = .ok (.new 7, 3) := by decide +kernel
theorem dX7_init_36 : decode cX7_init 36 = .ok (.dup, 1) := by decide +kernel
theorem dX7_init_37 : decode cX7_init 37 = .ok (.invokespecial 9, 3) := by decide +kernel
theorem dX7_init_40 : decode cX7_init 40 = .ok (.aastore, 1) := by decide +kernel
theorem dX7_init_41 : decode cX7_init 41 = .ok (.dup, 1) := by decide +kernel
theorem dX7_init_42 : decode cX7_init 42 = .ok (.iconst 1, 1) := by decide +kernel
theorem dX7_init_43 : decode cX7_init 43 = .ok (.new 7, 3) := by decide +kernel
theorem dX7_init_46 : decode cX7_init 46 = .ok (.dup, 1) := by decide +kernel
theorem dX7_init_47 : decode cX7_init 47 = .ok (.invokespecial 9, 3) := by decide +kernel
theorem dX7_init_50 : decode cX7_init 50 = .ok (.aastore, 1) := by decide +kernel
theorem dX7_init_51 : decode cX7_init 51 = .ok (.putfield 19, 3) := by decide +kernel
theorem dX7_init_54 : decode cX7_init 54 = .ok (.aload_n 0, 1) := by decide +kernel
theorem dX7_init_55 : decode cX7_init 55 = .ok (.iconst 2, 1) := by decide +kernel
theorem dX7_init_56 : decode cX7_init 56 = .ok (.newarray .boolean, 2) := by decide +kernel
theorem dX7_init_58 : decode cX7_init 58 = .ok (.putfield 23, 3) := by decide +kernel
theorem dX7_init_61 : decode cX7_init 61 = .ok (.aload_n 0, 1) := by decide +kernel
theorem dX7_init_62 : decode cX7_init 62 = .ok (.new 27, 3) := by decide +kernel
theorem dX7_init_65 : decode cX7_init 65 = .ok (.dup, 1) := by decide +kernel
theorem dX7_init_66 : decode cX7_init 66 = .ok (.invokespecial 29, 3) := by decide +kernel
theorem dX7_init_69 : decode cX7_init 69 = .ok (.putfield 30, 3) := by decide +kernel
theorem dX7_init_72 : decode cX7_init 72 = .ok (.aload_n 0, 1) := by decide +kernel
theorem dX7_init_73 : decode cX7_init 73 = .ok (.new 34, 3) := by decide +kernel
theorem dX7_init_76 : decode cX7_init 76 = .ok (.dup, 1) := by decide +kernel
theorem dX7_init_77 : decode cX7_init 77 = .ok (.invokespecial 36, 3) := by decide +kernel
theorem dX7_init_80 : decode cX7_init 80 = .ok (.putfield 37, 3) := by decide +kernel
theorem dX7_init_83 : decode cX7_init 83 = .ok (.aload_n 0, 1) := by decide +kernel
theorem dX7_init_84 : decode cX7_init 84 = .ok (.new 41, 3) := by decide +kernel
theorem dX7_init_87 : decode cX7_init 87 = .ok (.dup, 1) := by decide +kernel
theorem dX7_init_88 : decode cX7_init 88 = .ok (.invokespecial 43, 3) := by decide +kernel
theorem dX7_init_91 : decode cX7_init 91 = .ok (.putfield 44, 3) := by decide +kernel
theorem dX7_init_94 : decode cX7_init 94 = .ok (.aload_n 0, 1) := by decide +kernel
theorem dX7_init_95 : decode cX7_init 95 = .ok (.bipush 96, 2) := by decide +kernel
theorem dX7_init_97 : decode cX7_init 97 = .ok (.newarray .int, 2) := by decide +kernel
theorem dX7_init_99 : decode cX7_init 99 = .ok (.putfield 48, 3) := by decide +kernel
theorem dX7_init_102 : decode cX7_init 102 = .ok (.aload_n 0, 1) := by decide +kernel
theorem dX7_init_103 : decode cX7_init 103 = .ok (.bipush 96, 2) := by decide +kernel
theorem dX7_init_105 : decode cX7_init 105 = .ok (.newarray .long, 2) := by decide +kernel
theorem dX7_init_107 : decode cX7_init 107 = .ok (.putfield 52, 3) := by decide +kernel
theorem dX7_init_110 : decode cX7_init 110 = .ok (.return_, 1) := by decide +kernel
theorem dX7_river_0 : decode cX7_river 0 = .ok (.iload_n 1, 1) := by decide +kernel
theorem dX7_river_1 : decode cX7_river 1 = .ok (.bipush 12, 2) := by decide +kernel
theorem dX7_river_3 : decode cX7_river 3 = .ok (.invokestatic 56, 3) := by decide +kernel
theorem dX7_river_6 : decode cX7_river 6 = .ok (.ifCond .ne 10, 3) := by decide +kernel
theorem dX7_river_9 : decode cX7_river 9 = .ok (.aload_n 0, 1) := by decide +kernel
theorem dX7_river_10 : decode cX7_river 10 = .ok (.bipush (-2), 2) := by decide +kernel
theorem dX7_river_12 : decode cX7_river 12 = .ok (.invokevirtual 60, 3) := by decide +kernel
theorem dX7_river_15 : decode cX7_river 15 = .ok (.ireturn, 1) := by decide +kernel
theorem dX7_river_16 : decode cX7_river 16 = .ok (.aload_n 0, 1) := by decide +kernel
theorem dX7_river_17 : decode cX7_river 17 = .ok (.getfield 10, 3) := by decide +kernel
theorem dX7_river_20 : decode cX7_river 20 = .ok (.getfield 64, 3) := by decide +kernel
theorem dX7_river_23 : decode cX7_river 23 = .ok (.istore_n 2, 1) := by decide +kernel
theorem dX7_river_24 : decode cX7_river 24 = .ok (.aload_n 0, 1) := by decide +kernel
theorem dX7_river_25 : decode cX7_river 25 = .ok (.getfield 10, 3) := by decide +kernel
theorem dX7_river_28 : decode cX7_river 28 = .ok (.iload_n 1, 1) := by decide +kernel
theorem dX7_river_29 : decode cX7_river 29 = .ok (.invokevirtual 68, 3) := by decide +kernel
theorem dX7_river_32 : decode cX7_river 32 = .ok (.iload_n 2, 1) := by decide +kernel
theorem dX7_river_33 : decode cX7_river 33 = .ok (.ireturn, 1) := by decide +kernel
theorem dX7_bridge_0 : decode cX7_bridge 0 = .ok (.iload_n 1, 1) := by decide +kernel
theorem dX7_bridge_1 : decode cX7_bridge 1 = .ok (.bipush 6, 2) := by decide +kernel
theorem dX7_bridge_3 : decode cX7_bridge 3 = .ok (.invokestatic 56, 3) := by decide +kernel
theorem dX7_bridge_6 : decode cX7_bridge 6 = .ok (.ifCond .eq 26, 3) := by decide +kernel
theorem dX7_bridge_9 : decode cX7_bridge 9 = .ok (.iload_n 2, 1) := by decide +kernel
theorem dX7_bridge_10 : decode cX7_bridge 10 = .ok (.bipush 6, 2) := by decide +kernel
theorem dX7_bridge_12 : decode cX7_bridge 12 = .ok (.invokestatic 56, 3) := by decide +kernel
theorem dX7_bridge_15 : decode cX7_bridge 15 = .ok (.ifCond .eq 17, 3) := by decide +kernel
theorem dX7_bridge_18 : decode cX7_bridge 18 = .ok (.iload_n 1, 1) := by decide +kernel
theorem dX7_bridge_19 : decode cX7_bridge 19 = .ok (.iload_n 2, 1) := by decide +kernel
theorem dX7_bridge_20 : decode cX7_bridge 20 = .ok (.if_icmp .eq 12, 3) := by decide +kernel
theorem dX7_bridge_23 : decode cX7_bridge 23 = .ok (.iload_n 3, 1) := by decide +kernel
theorem dX7_bridge_24 : decode cX7_bridge 24 = .ok (.iload 4, 2) := by decide +kernel
theorem dX7_bridge_26 : decode cX7_bridge 26 = .ok (.invokestatic 72, 3) := by decide +kernel
theorem dX7_bridge_29 : decode cX7_bridge 29 = .ok (.ifCond .ne 10, 3) := by decide +kernel
theorem dX7_bridge_32 : decode cX7_bridge 32 = .ok (.aload_n 0, 1) := by decide +kernel
theorem dX7_bridge_33 : decode cX7_bridge 33 = .ok (.bipush (-2), 2) := by decide +kernel
theorem dX7_bridge_35 : decode cX7_bridge 35 = .ok (.invokevirtual 60, 3) := by decide +kernel
theorem dX7_bridge_38 : decode cX7_bridge 38 = .ok (.ireturn, 1) := by decide +kernel
theorem dX7_bridge_39 : decode cX7_bridge 39 = .ok (.aload_n 0, 1) := by decide +kernel
theorem dX7_bridge_40 : decode cX7_bridge 40 = .ok (.getfield 10, 3) := by decide +kernel
theorem dX7_bridge_43 : decode cX7_bridge 43 = .ok (.getfield 64, 3) := by decide +kernel
theorem dX7_bridge_46 : decode cX7_bridge 46 = .ok (.bipush 8, 2) := by decide +kernel
theorem dX7_bridge_48 : decode cX7_bridge 48 = .ok (.if_icmp .lt 8, 3) := by decide +kernel
theorem dX7_bridge_51 : decode cX7_bridge 51 = .ok (.aload_n 0, 1) := by decide +kernel
theorem dX7_bridge_52 : decode cX7_bridge 52 = .ok (.invokevirtual 75, 3) := by decide +kernel
theorem dX7_bridge_55 : decode cX7_bridge 55 = .ok (.ireturn, 1) := by decide +kernel
theorem dX7_bridge_56 : decode cX7_bridge 56 = .ok (.aload_n 0, 1) := by decide +kernel
theorem dX7_bridge_57 : decode cX7_bridge 57 = .ok (.getfield 10, 3) := by decide +kernel
theorem dX7_bridge_60 : decode cX7_bridge 60 = .ok (.iload_n 1, 1) := by decide +kernel
theorem dX7_bridge_61 : decode cX7_bridge 61 = .ok (.iload_n 2, 1) := by decide +kernel
theorem dX7_bridge_62 : decode cX7_bridge 62 = .ok (.iload_n 3, 1) := by decide +kernel
theorem dX7_bridge_63 : decode cX7_bridge 63 = .ok (.iload 4, 2) := by decide +kernel
theorem dX7_bridge_65 : decode cX7_bridge 65 = .ok (.invokevirtual 79, 3) := by decide +kernel
theorem dX7_bridge_68 : decode cX7_bridge 68 = .ok (.ireturn, 1) := by decide +kernel
theorem dX7_rule_0 : decode cX7_rule 0 = .ok (.aload_n 0, 1) := by decide +kernel
theorem dX7_rule_1 : decode cX7_rule 1 = .ok (.iload_n 1, 1) := by decide +kernel
theorem dX7_rule_2 : decode cX7_rule 2 = .ok (.invokevirtual 83, 3) := by decide +kernel
theorem dX7_rule_5 : decode cX7_rule 5 = .ok (.ifCond .eq 11, 3) := by decide +kernel
theorem dX7_rule_8 : decode cX7_rule 8 = .ok (.iload_n 2, 1) := by decide +kernel
theorem dX7_rule_9 : decode cX7_rule 9 = .ok (.iload_n 3, 1) := by decide +kernel
theorem dX7_rule_10 : decode cX7_rule 10 = .ok (.invokestatic 72, 3) := by decide +kernel
theorem dX7_rule_13 : decode cX7_rule 13 = .ok (.ifCond .ne 10, 3) := by decide +kernel
theorem dX7_rule_16 : decode cX7_rule 16 = .ok (.aload_n 0, 1) := by decide +kernel
theorem dX7_rule_17 : decode cX7_rule 17 = .ok (.bipush (-2), 2) := by decide +kernel
theorem dX7_rule_19 : decode cX7_rule 19 = .ok (.invokevirtual 60, 3) := by decide +kernel
theorem dX7_rule_22 : decode cX7_rule 22 = .ok (.ireturn, 1) := by decide +kernel
theorem dX7_rule_23 : decode cX7_rule 23 = .ok (.aload_n 0, 1) := by decide +kernel
theorem dX7_rule_24 : decode cX7_rule 24 = .ok (.getfield 10, 3) := by decide +kernel
theorem dX7_rule_27 : decode cX7_rule 27 = .ok (.iload_n 1, 1) := by decide +kernel
theorem dX7_rule_28 : decode cX7_rule 28 = .ok (.iload_n 2, 1) := by decide +kernel
theorem dX7_rule_29 : decode cX7_rule 29 = .ok (.iload_n 3, 1) := by decide +kernel
theorem dX7_rule_30 : decode cX7_rule 30 = .ok (.invokevirtual 87, 3) := by decide +kernel
theorem dX7_rule_33 : decode cX7_rule 33 = .ok (.ireturn, 1) := by decide +kernel
theorem dX7_month_0 : decode cX7_month 0 = .ok (.iload_n 1, 1) := by decide +kernel
theorem dX7_month_1 : decode cX7_month 1 = .ok (.iconst 1, 1) := by decide +kernel
theorem dX7_month_2 : decode cX7_month 2 = .ok (.if_icmp .lt 9, 3) := by decide +kernel
theorem dX7_month_5 : decode cX7_month 5 = .ok (.iload_n 1, 1) := by decide +kernel
theorem dX7_month_6 : decode cX7_month 6 = .ok (.bipush 12, 2) := by decide +kernel
theorem dX7_month_8 : decode cX7_month 8 = .ok (.if_icmp .lt 10, 3) := by decide +kernel
theorem dX7_month_11 : decode cX7_month 11 = .ok (.aload_n 0, 1) := by decide +kernel
theorem dX7_month_12 : decode cX7_month 12 = .ok (.bipush (-2), 2) := by decide +kernel
theorem dX7_month_14 : decode cX7_month 14 = .ok (.invokevirtual 60, 3) := by decide +kernel
theorem dX7_month_17 : decode cX7_month 17 = .ok (.ireturn, 1) := by decide +kernel
theorem dX7_month_18 : decode cX7_month 18 = .ok (.aload_n 0, 1) := by decide +kernel
theorem dX7_month_19 : decode cX7_month 19 = .ok (.getfield 10, 3) := by decide +kernel
theorem dX7_month_22 : decode cX7_month 22 = .ok (.iload_n 1, 1) := by decide +kernel
theorem dX7_month_23 : decode cX7_month 23 = .ok (.invokevirtual 91, 3) := by decide +kernel
theorem dX7_month_26 : decode cX7_month 26 = .ok (.aload_n 0, 1) := by decide +kernel
theorem dX7_month_27 : decode cX7_month 27 = .ok (.getfield 10, 3) := by decide +kernel
theorem dX7_month_30 : decode cX7_month 30 = .ok (.getfield 94, 3) := by decide +kernel
theorem dX7_month_33 : decode cX7_month 33 = .ok (.ireturn, 1) := by decide +kernel
theorem dX7_undo_0 : decode cX7_undo 0 = .ok (.aload_n 0, 1) := by decide +kernel
theorem dX7_undo_1 : decode cX7_undo 1 = .ok (.getfield 10, 3) := by decide +kernel
theorem dX7_undo_4 : decode cX7_undo 4 = .ok (.getfield 97, 3) := by decide +kernel
theorem dX7_undo_7 : decode cX7_undo 7 = .ok (.ifCond .gt 8, 3) := by decide +kernel
theorem dX7_undo_10 : decode cX7_undo 10 = .ok (.aload_n 0, 1) := by decide +kernel
theorem dX7_undo_11 : decode cX7_undo 11 = .ok (.invokevirtual 100, 3) := by decide +kernel
theorem dX7_undo_14 : decode cX7_undo 14 = .ok (.ireturn, 1) := by decide +kernel
theorem dX7_undo_15 : decode cX7_undo 15 = .ok (.aload_n 0, 1) := by decide +kernel
theorem dX7_undo_16 : decode cX7_undo 16 = .ok (.getfield 10, 3) := by decide +kernel
theorem dX7_undo_19 : decode cX7_undo 19 = .ok (.invokevirtual 103, 3) := by decide +kernel
theorem dX7_undo_22 : decode cX7_undo 22 = .ok (.aload_n 0, 1) := by decide +kernel
theorem dX7_undo_23 : decode cX7_undo 23 = .ok (.getfield 10, 3) := by decide +kernel
theorem dX7_undo_26 : decode cX7_undo 26 = .ok (.getfield 94, 3) := by decide +kernel
theorem dX7_undo_29 : decode cX7_undo 29 = .ok (.ireturn, 1) := by decide +kernel
theorem dX7_say_0 : decode cX7_say 0 = .ok (.iload_n 1, 1) := by decide +kernel
theorem dX7_say_1 : decode cX7_say 1 = .ok (.invokestatic 106, 3) := by decide +kernel
theorem dX7_say_4 : decode cX7_say 4 = .ok (.ifCond .eq 12, 3) := by decide +kernel
theorem dX7_say_7 : decode cX7_say 7 = .ok (.iload_n 2, 1) := by decide +kernel
theorem dX7_say_8 : decode cX7_say 8 = .ok (.bipush 16, 2) := by decide +kernel
theorem dX7_say_10 : decode cX7_say 10 = .ok (.invokestatic 56, 3) := by decide +kernel
theorem dX7_say_13 : decode cX7_say 13 = .ok (.ifCond .ne 10, 3) := by decide +kernel
theorem dX7_say_16 : decode cX7_say 16 = .ok (.aload_n 0, 1) := by decide +kernel
theorem dX7_say_17 : decode cX7_say 17 = .ok (.bipush (-2), 2) := by decide +kernel
theorem dX7_say_19 : decode cX7_say 19 = .ok (.invokevirtual 60, 3) := by decide +kernel
theorem dX7_say_22 : decode cX7_say 22 = .ok (.ireturn, 1) := by decide +kernel
theorem dX7_say_23 : decode cX7_say 23 = .ok (.aload_n 0, 1) := by decide +kernel
theorem dX7_say_24 : decode cX7_say 24 = .ok (.getfield 10, 3) := by decide +kernel
theorem dX7_say_27 : decode cX7_say 27 = .ok (.getfield 109, 3) := by decide +kernel
theorem dX7_say_30 : decode cX7_say 30 = .ok (.iload_n 1, 1) := by decide +kernel
theorem dX7_say_31 : decode cX7_say 31 = .ok (.laload, 1) := by decide +kernel
theorem dX7_say_32 : decode cX7_say 32 = .ok (.lstore_n 3, 1) := by decide +kernel
theorem dX7_say_33 : decode cX7_say 33 = .ok (.lload_n 3, 1) := by decide +kernel
theorem dX7_say_34 : decode cX7_say 34 = .ok (.invokestatic 112, 3) := by decide +kernel
theorem dX7_say_37 : decode cX7_say 37 = .ok (.bipush 12, 2) := by decide +kernel
theorem dX7_say_39 : decode cX7_say 39 = .ok (.if_icmp .lt 8, 3) := by decide +kernel
theorem dX7_say_42 : decode cX7_say 42 = .ok (.aload_n 0, 1) := by decide +kernel
theorem dX7_say_43 : decode cX7_say 43 = .ok (.invokevirtual 75, 3) := by decide +kernel
theorem dX7_say_46 : decode cX7_say 46 = .ok (.ireturn, 1) := by decide +kernel
theorem dX7_say_47 : decode cX7_say 47 = .ok (.aload_n 0, 1) := by decide +kernel
theorem dX7_say_48 : decode cX7_say 48 = .ok (.getfield 10, 3) := by decide +kernel
theorem dX7_say_51 : decode cX7_say 51 = .ok (.getfield 109, 3) := by decide +kernel
theorem dX7_say_54 : decode cX7_say 54 = .ok (.iload_n 1, 1) := by decide +kernel
theorem dX7_say_55 : decode cX7_say 55 = .ok (.lload_n 3, 1) := by decide +kernel
theorem dX7_say_56 : decode cX7_say 56 = .ok (.iload_n 2, 1) := by decide +kernel
theorem dX7_say_57 : decode cX7_say 57 = .ok (.invokestatic 118, 3) := by decide +kernel
theorem dX7_say_60 : decode cX7_say 60 = .ok (.lastore, 1) := by decide +kernel
theorem dX7_say_61 : decode cX7_say 61 = .ok (.aload_n 0, 1) := by decide +kernel
theorem dX7_say_62 : decode cX7_say 62 = .ok (.getfield 10, 3) := by decide +kernel
theorem dX7_say_65 : decode cX7_say 65 = .ok (.getfield 109, 3) := by decide +kernel
theorem dX7_say_68 : decode cX7_say 68 = .ok (.iload_n 1, 1) := by decide +kernel
theorem dX7_say_69 : decode cX7_say 69 = .ok (.laload, 1) := by decide +kernel
theorem dX7_say_70 : decode cX7_say 70 = .ok (.invokestatic 112, 3) := by decide +kernel
theorem dX7_say_73 : decode cX7_say 73 = .ok (.ireturn, 1) := by decide +kernel
theorem dX7_hush_0 : decode cX7_hush 0 = .ok (.iload_n 1, 1) := by decide +kernel
theorem dX7_hush_1 : decode cX7_hush 1 = .ok (.invokestatic 106, 3) := by decide +kernel
theorem dX7_hush_4 : decode cX7_hush 4 = .ok (.ifCond .ne 10, 3) := by decide +kernel
theorem dX7_hush_7 : decode cX7_hush 7 = .ok (.aload_n 0, 1) := by decide +kernel
theorem dX7_hush_8 : decode cX7_hush 8 = .ok (.bipush (-2), 2) := by decide +kernel
theorem dX7_hush_10 : decode cX7_hush 10 = .ok (.invokevirtual 60, 3) := by decide +kernel
theorem dX7_hush_13 : decode cX7_hush 13 = .ok (.ireturn, 1) := by decide +kernel
theorem dX7_hush_14 : decode cX7_hush 14 = .ok (.aload_n 0, 1) := by decide +kernel
theorem dX7_hush_15 : decode cX7_hush 15 = .ok (.getfield 10, 3) := by decide +kernel
theorem dX7_hush_18 : decode cX7_hush 18 = .ok (.getfield 109, 3) := by decide +kernel
theorem dX7_hush_21 : decode cX7_hush 21 = .ok (.iload_n 1, 1) := by decide +kernel
theorem dX7_hush_22 : decode cX7_hush 22 = .ok (.laload, 1) := by decide +kernel
theorem dX7_hush_23 : decode cX7_hush 23 = .ok (.invokestatic 112, 3) := by decide +kernel
theorem dX7_hush_26 : decode cX7_hush 26 = .ok (.istore_n 2, 1) := by decide +kernel
theorem dX7_hush_27 : decode cX7_hush 27 = .ok (.aload_n 0, 1) := by decide +kernel
theorem dX7_hush_28 : decode cX7_hush 28 = .ok (.getfield 10, 3) := by decide +kernel
theorem dX7_hush_31 : decode cX7_hush 31 = .ok (.getfield 109, 3) := by decide +kernel
theorem dX7_hush_34 : decode cX7_hush 34 = .ok (.iload_n 1, 1) := by decide +kernel
theorem dX7_hush_35 : decode cX7_hush 35 = .ok (.lconst 0, 1) := by decide +kernel
theorem dX7_hush_36 : decode cX7_hush 36 = .ok (.lastore, 1) := by decide +kernel
theorem dX7_hush_37 : decode cX7_hush 37 = .ok (.iload_n 2, 1) := by decide +kernel
theorem dX7_hush_38 : decode cX7_hush 38 = .ok (.ireturn, 1) := by decide +kernel
theorem dX7_type_0 : decode cX7_type 0 = .ok (.iload_n 1, 1) := by decide +kernel
theorem dX7_type_1 : decode cX7_type 1 = .ok (.sipush 128, 3) := by decide +kernel
theorem dX7_type_4 : decode cX7_type 4 = .ok (.invokestatic 56, 3) := by decide +kernel
theorem dX7_type_7 : decode cX7_type 7 = .ok (.ifCond .ne 10, 3) := by decide +kernel
theorem dX7_type_10 : decode cX7_type 10 = .ok (.aload_n 0, 1) := by decide +kernel
theorem dX7_type_11 : decode cX7_type 11 = .ok (.bipush (-2), 2) := by decide +kernel
theorem dX7_type_13 : decode cX7_type 13 = .ok (.invokevirtual 60, 3) := by decide +kernel
theorem dX7_type_16 : decode cX7_type 16 = .ok (.ireturn, 1) := by decide +kernel
theorem dX7_type_17 : decode cX7_type 17 = .ok (.aload_n 0, 1) := by decide +kernel
theorem dX7_type_18 : decode cX7_type 18 = .ok (.getfield 30, 3) := by decide +kernel
theorem dX7_type_21 : decode cX7_type 21 = .ok (.getfield 122, 3) := by decide +kernel
theorem dX7_type_24 : decode cX7_type 24 = .ok (.sipush 150, 3) := by decide +kernel
theorem dX7_type_27 : decode cX7_type 27 = .ok (.if_icmp .lt 8, 3) := by decide +kernel
theorem dX7_type_30 : decode cX7_type 30 = .ok (.aload_n 0, 1) := by decide +kernel
theorem dX7_type_31 : decode cX7_type 31 = .ok (.invokevirtual 75, 3) := by decide +kernel
theorem dX7_type_34 : decode cX7_type 34 = .ok (.ireturn, 1) := by decide +kernel
theorem dX7_type_35 : decode cX7_type 35 = .ok (.aload_n 0, 1) := by decide +kernel
theorem dX7_type_36 : decode cX7_type 36 = .ok (.getfield 30, 3) := by decide +kernel
theorem dX7_type_39 : decode cX7_type 39 = .ok (.iload_n 1, 1) := by decide +kernel
theorem dX7_type_40 : decode cX7_type 40 = .ok (.invokevirtual 124, 3) := by decide +kernel
theorem dX7_type_43 : decode cX7_type 43 = .ok (.aload_n 0, 1) := by decide +kernel
theorem dX7_type_44 : decode cX7_type 44 = .ok (.getfield 30, 3) := by decide +kernel
theorem dX7_type_47 : decode cX7_type 47 = .ok (.getfield 122, 3) := by decide +kernel
theorem dX7_type_50 : decode cX7_type 50 = .ok (.ireturn, 1) := by decide +kernel
theorem dX7_clear_0 : decode cX7_clear 0 = .ok (.aload_n 0, 1) := by decide +kernel
theorem dX7_clear_1 : decode cX7_clear 1 = .ok (.getfield 30, 3) := by decide +kernel
theorem dX7_clear_4 : decode cX7_clear 4 = .ok (.getfield 122, 3) := by decide +kernel
theorem dX7_clear_7 : decode cX7_clear 7 = .ok (.istore_n 1, 1) := by decide +kernel
theorem dX7_clear_8 : decode cX7_clear 8 = .ok (.aload_n 0, 1) := by decide +kernel
theorem dX7_clear_9 : decode cX7_clear 9 = .ok (.getfield 30, 3) := by decide +kernel
theorem dX7_clear_12 : decode cX7_clear 12 = .ok (.iconst 0, 1) := by decide +kernel
theorem dX7_clear_13 : decode cX7_clear 13 = .ok (.putfield 122, 3) := by decide +kernel
theorem dX7_clear_16 : decode cX7_clear 16 = .ok (.iload_n 1, 1) := by decide +kernel
theorem dX7_clear_17 : decode cX7_clear 17 = .ok (.ireturn, 1) := by decide +kernel
theorem dX7_read_0 : decode cX7_read 0 = .ok (.aload_n 0, 1) := by decide +kernel
theorem dX7_read_1 : decode cX7_read 1 = .ok (.getfield 30, 3) := by decide +kernel
theorem dX7_read_4 : decode cX7_read 4 = .ok (.aload_n 0, 1) := by decide +kernel
theorem dX7_read_5 : decode cX7_read 5 = .ok (.getfield 16, 3) := by decide +kernel
theorem dX7_read_8 : decode cX7_read 8 = .ok (.invokevirtual 127, 3) := by decide +kernel
theorem dX7_read_11 : decode cX7_read 11 = .ok (.istore_n 1, 1) := by decide +kernel
theorem dX7_read_12 : decode cX7_read 12 = .ok (.iload_n 1, 1) := by decide +kernel
theorem dX7_read_13 : decode cX7_read 13 = .ok (.iconst (-1), 1) := by decide +kernel
theorem dX7_read_14 : decode cX7_read 14 = .ok (.if_icmp .ne 14, 3) := by decide +kernel
theorem dX7_read_17 : decode cX7_read 17 = .ok (.bipush (-10), 2) := by decide +kernel
theorem dX7_read_19 : decode cX7_read 19 = .ok (.aload_n 0, 1) := by decide +kernel
theorem dX7_read_20 : decode cX7_read 20 = .ok (.getfield 30, 3) := by decide +kernel
theorem dX7_read_23 : decode cX7_read 23 = .ok (.invokevirtual 131, 3) := by decide +kernel
theorem dX7_read_26 : decode cX7_read 26 = .ok (.isub, 1) := by decide +kernel
theorem dX7_read_27 : decode cX7_read 27 = .ok (.ireturn, 1) := by decide +kernel
theorem dX7_read_28 : decode cX7_read 28 = .ok (.aload_n 0, 1) := by decide +kernel
theorem dX7_read_29 : decode cX7_read 29 = .ok (.getfield 10, 3) := by decide +kernel
theorem dX7_read_32 : decode cX7_read 32 = .ok (.aload_n 0, 1) := by decide +kernel
theorem dX7_read_33 : decode cX7_read 33 = .ok (.getfield 16, 3) := by decide +kernel
theorem dX7_read_36 : decode cX7_read 36 = .ok (.invokevirtual 134, 3) := by decide +kernel
theorem dX7_read_39 : decode cX7_read 39 = .ok (.iload_n 1, 1) := by decide +kernel
theorem dX7_read_40 : decode cX7_read 40 = .ok (.ireturn, 1) := by decide +kernel
theorem dX7_of_0 : decode cX7_of 0 = .ok (.aload_n 0, 1) := by decide +kernel
theorem dX7_of_1 : decode cX7_of 1 = .ok (.iload_n 1, 1) := by decide +kernel
theorem dX7_of_2 : decode cX7_of 2 = .ok (.invokevirtual 83, 3) := by decide +kernel
theorem dX7_of_5 : decode cX7_of 5 = .ok (.ifCond .ne 10, 3) := by decide +kernel
theorem dX7_of_8 : decode cX7_of 8 = .ok (.aload_n 0, 1) := by decide +kernel
theorem dX7_of_9 : decode cX7_of 9 = .ok (.bipush (-2), 2) := by decide +kernel
theorem dX7_of_11 : decode cX7_of 11 = .ok (.invokevirtual 60, 3) := by decide +kernel
theorem dX7_of_14 : decode cX7_of 14 = .ok (.ireturn, 1) := by decide +kernel
theorem dX7_of_15 : decode cX7_of 15 = .ok (.iload_n 2, 1) := by decide +kernel
theorem dX7_of_16 : decode cX7_of 16 = .ok (.tableswitch 72 0 3 #[32, 42, 52, 62], 32) := by decide +kernel
theorem dX7_of_48 : decode cX7_of 48 = .ok (.aload_n 0, 1) := by decide +kernel
theorem dX7_of_49 : decode cX7_of 49 = .ok (.getfield 10, 3) := by decide +kernel
theorem dX7_of_52 : decode cX7_of 52 = .ok (.getfield 138, 3) := by decide +kernel
theorem dX7_of_55 : decode cX7_of 55 = .ok (.iload_n 1, 1) := by decide +kernel
theorem dX7_of_56 : decode cX7_of 56 = .ok (.iaload, 1) := by decide +kernel
theorem dX7_of_57 : decode cX7_of 57 = .ok (.ireturn, 1) := by decide +kernel
theorem dX7_of_58 : decode cX7_of 58 = .ok (.aload_n 0, 1) := by decide +kernel
theorem dX7_of_59 : decode cX7_of 59 = .ok (.getfield 10, 3) := by decide +kernel
theorem dX7_of_62 : decode cX7_of 62 = .ok (.getfield 141, 3) := by decide +kernel
theorem dX7_of_65 : decode cX7_of 65 = .ok (.iload_n 1, 1) := by decide +kernel
theorem dX7_of_66 : decode cX7_of 66 = .ok (.iaload, 1) := by decide +kernel
theorem dX7_of_67 : decode cX7_of 67 = .ok (.ireturn, 1) := by decide +kernel
theorem dX7_of_68 : decode cX7_of 68 = .ok (.aload_n 0, 1) := by decide +kernel
theorem dX7_of_69 : decode cX7_of 69 = .ok (.getfield 10, 3) := by decide +kernel
theorem dX7_of_72 : decode cX7_of 72 = .ok (.getfield 144, 3) := by decide +kernel
theorem dX7_of_75 : decode cX7_of 75 = .ok (.iload_n 1, 1) := by decide +kernel
theorem dX7_of_76 : decode cX7_of 76 = .ok (.iaload, 1) := by decide +kernel
theorem dX7_of_77 : decode cX7_of 77 = .ok (.ireturn, 1) := by decide +kernel
theorem dX7_of_78 : decode cX7_of 78 = .ok (.aload_n 0, 1) := by decide +kernel
theorem dX7_of_79 : decode cX7_of 79 = .ok (.getfield 10, 3) := by decide +kernel
theorem dX7_of_82 : decode cX7_of 82 = .ok (.getfield 147, 3) := by decide +kernel
theorem dX7_of_85 : decode cX7_of 85 = .ok (.iload_n 1, 1) := by decide +kernel
theorem dX7_of_86 : decode cX7_of 86 = .ok (.iaload, 1) := by decide +kernel
theorem dX7_of_87 : decode cX7_of 87 = .ok (.ireturn, 1) := by decide +kernel
theorem dX7_of_88 : decode cX7_of 88 = .ok (.aload_n 0, 1) := by decide +kernel
theorem dX7_of_89 : decode cX7_of 89 = .ok (.bipush (-2), 2) := by decide +kernel
theorem dX7_of_91 : decode cX7_of 91 = .ok (.invokevirtual 60, 3) := by decide +kernel
theorem dX7_of_94 : decode cX7_of 94 = .ok (.ireturn, 1) := by decide +kernel
theorem dX7_at_0 : decode cX7_at 0 = .ok (.iload_n 1, 1) := by decide +kernel
theorem dX7_at_1 : decode cX7_at 1 = .ok (.invokestatic 106, 3) := by decide +kernel
theorem dX7_at_4 : decode cX7_at 4 = .ok (.ifCond .eq 8, 3) := by decide +kernel
theorem dX7_at_7 : decode cX7_at 7 = .ok (.iload_n 2, 1) := by decide +kernel
theorem dX7_at_8 : decode cX7_at 8 = .ok (.iconst (-1), 1) := by decide +kernel
theorem dX7_at_9 : decode cX7_at 9 = .ok (.if_icmp .ge 10, 3) := by decide +kernel
theorem dX7_at_12 : decode cX7_at 12 = .ok (.aload_n 0, 1) := by decide +kernel
theorem dX7_at_13 : decode cX7_at 13 = .ok (.bipush (-10), 2) := by decide +kernel
theorem dX7_at_15 : decode cX7_at 15 = .ok (.invokevirtual 60, 3) := by decide +kernel
theorem dX7_at_18 : decode cX7_at 18 = .ok (.ireturn, 1) := by decide +kernel
theorem dX7_at_19 : decode cX7_at 19 = .ok (.aload_n 0, 1) := by decide +kernel
theorem dX7_at_20 : decode cX7_at 20 = .ok (.getfield 10, 3) := by decide +kernel
theorem dX7_at_23 : decode cX7_at 23 = .ok (.getfield 109, 3) := by decide +kernel
theorem dX7_at_26 : decode cX7_at 26 = .ok (.iload_n 1, 1) := by decide +kernel
theorem dX7_at_27 : decode cX7_at 27 = .ok (.laload, 1) := by decide +kernel
theorem dX7_at_28 : decode cX7_at 28 = .ok (.iload_n 2, 1) := by decide +kernel
theorem dX7_at_29 : decode cX7_at 29 = .ok (.invokestatic 150, 3) := by decide +kernel
theorem dX7_at_32 : decode cX7_at 32 = .ok (.ireturn, 1) := by decide +kernel
theorem dX7_called_0 : decode cX7_called 0 = .ok (.iload_n 1, 1) := by decide +kernel
theorem dX7_called_1 : decode cX7_called 1 = .ok (.invokestatic 106, 3) := by decide +kernel
theorem dX7_called_4 : decode cX7_called 4 = .ok (.ifCond .eq 25, 3) := by decide +kernel
theorem dX7_called_7 : decode cX7_called 7 = .ok (.aload_n 0, 1) := by decide +kernel
theorem dX7_called_8 : decode cX7_called 8 = .ok (.iload_n 2, 1) := by decide +kernel
theorem dX7_called_9 : decode cX7_called 9 = .ok (.invokevirtual 83, 3) := by decide +kernel
theorem dX7_called_12 : decode cX7_called 12 = .ok (.ifCond .eq 17, 3) := by decide +kernel
theorem dX7_called_15 : decode cX7_called 15 = .ok (.aload_n 0, 1) := by decide +kernel
theorem dX7_called_16 : decode cX7_called 16 = .ok (.iload_n 3, 1) := by decide +kernel
theorem dX7_called_17 : decode cX7_called 17 = .ok (.invokevirtual 83, 3) := by decide +kernel
theorem dX7_called_20 : decode cX7_called 20 = .ok (.ifCond .eq 9, 3) := by decide +kernel
theorem dX7_called_23 : decode cX7_called 23 = .ok (.iload 4, 2) := by decide +kernel
theorem dX7_called_25 : decode cX7_called 25 = .ok (.iconst (-1), 1) := by decide +kernel
theorem dX7_called_26 : decode cX7_called 26 = .ok (.if_icmp .ge 10, 3) := by decide +kernel
theorem dX7_called_29 : decode cX7_called 29 = .ok (.aload_n 0, 1) := by decide +kernel
theorem dX7_called_30 : decode cX7_called 30 = .ok (.bipush (-10), 2) := by decide +kernel
theorem dX7_called_32 : decode cX7_called 32 = .ok (.invokevirtual 60, 3) := by decide +kernel
theorem dX7_called_35 : decode cX7_called 35 = .ok (.ireturn, 1) := by decide +kernel
theorem dX7_called_36 : decode cX7_called 36 = .ok (.aload_n 0, 1) := by decide +kernel
theorem dX7_called_37 : decode cX7_called 37 = .ok (.getfield 10, 3) := by decide +kernel
theorem dX7_called_40 : decode cX7_called 40 = .ok (.getfield 109, 3) := by decide +kernel
theorem dX7_called_43 : decode cX7_called 43 = .ok (.iload_n 1, 1) := by decide +kernel
theorem dX7_called_44 : decode cX7_called 44 = .ok (.laload, 1) := by decide +kernel
theorem dX7_called_45 : decode cX7_called 45 = .ok (.lstore 5, 2) := by decide +kernel
theorem dX7_called_47 : decode cX7_called 47 = .ok (.iload_n 2, 1) := by decide +kernel
theorem dX7_called_48 : decode cX7_called 48 = .ok (.istore 7, 2) := by decide +kernel
theorem dX7_called_50 : decode cX7_called 50 = .ok (.iload 7, 2) := by decide +kernel
theorem dX7_called_52 : decode cX7_called 52 = .ok (.iload_n 3, 1) := by decide +kernel
theorem dX7_called_53 : decode cX7_called 53 = .ok (.if_icmp .gt 22, 3) := by decide +kernel
theorem dX7_called_56 : decode cX7_called 56 = .ok (.aload_n 0, 1) := by decide +kernel
theorem dX7_called_57 : decode cX7_called 57 = .ok (.getfield 10, 3) := by decide +kernel
theorem dX7_called_60 : decode cX7_called 60 = .ok (.iload 7, 2) := by decide +kernel
theorem dX7_called_62 : decode cX7_called 62 = .ok (.lload 5, 2) := by decide +kernel
theorem dX7_called_64 : decode cX7_called 64 = .ok (.invokevirtual 154, 3) := by decide +kernel
theorem dX7_called_67 : decode cX7_called 67 = .ok (.lstore 5, 2) := by decide +kernel
theorem dX7_called_69 : decode cX7_called 69 = .ok (.iinc 7 1, 3) := by decide +kernel
theorem dX7_called_72 : decode cX7_called 72 = .ok (.goto (-22), 3) := by decide +kernel
theorem dX7_called_75 : decode cX7_called 75 = .ok (.lload 5, 2) := by decide +kernel
theorem dX7_called_77 : decode cX7_called 77 = .ok (.iload 4, 2) := by decide +kernel
theorem dX7_called_79 : decode cX7_called 79 = .ok (.invokestatic 150, 3) := by decide +kernel
theorem dX7_called_82 : decode cX7_called 82 = .ok (.ireturn, 1) := by decide +kernel
theorem dX7_nothing_0 : decode cX7_nothing 0 = .ok (.iload_n 1, 1) := by decide +kernel
theorem dX7_nothing_1 : decode cX7_nothing 1 = .ok (.invokestatic 106, 3) := by decide +kernel
theorem dX7_nothing_4 : decode cX7_nothing 4 = .ok (.ifCond .eq 11, 3) := by decide +kernel
theorem dX7_nothing_7 : decode cX7_nothing 7 = .ok (.aload_n 0, 1) := by decide +kernel
theorem dX7_nothing_8 : decode cX7_nothing 8 = .ok (.iload_n 2, 1) := by decide +kernel
theorem dX7_nothing_9 : decode cX7_nothing 9 = .ok (.invokevirtual 83, 3) := by decide +kernel
theorem dX7_nothing_12 : decode cX7_nothing 12 = .ok (.ifCond .ne 10, 3) := by decide +kernel
theorem dX7_nothing_15 : decode cX7_nothing 15 = .ok (.aload_n 0, 1) := by decide +kernel
theorem dX7_nothing_16 : decode cX7_nothing 16 = .ok (.bipush (-2), 2) := by decide +kernel
theorem dX7_nothing_18 : decode cX7_nothing 18 = .ok (.invokevirtual 60, 3) := by decide +kernel
theorem dX7_nothing_21 : decode cX7_nothing 21 = .ok (.ireturn, 1) := by decide +kernel
theorem dX7_nothing_22 : decode cX7_nothing 22 = .ok (.aload_n 0, 1) := by decide +kernel
theorem dX7_nothing_23 : decode cX7_nothing 23 = .ok (.getfield 10, 3) := by decide +kernel
theorem dX7_nothing_26 : decode cX7_nothing 26 = .ok (.getfield 109, 3) := by decide +kernel
theorem dX7_nothing_29 : decode cX7_nothing 29 = .ok (.iload_n 1, 1) := by decide +kernel
theorem dX7_nothing_30 : decode cX7_nothing 30 = .ok (.laload, 1) := by decide +kernel
theorem dX7_nothing_31 : decode cX7_nothing 31 = .ok (.lstore_n 3, 1) := by decide +kernel
theorem dX7_nothing_32 : decode cX7_nothing 32 = .ok (.iload_n 2, 1) := by decide +kernel
theorem dX7_nothing_33 : decode cX7_nothing 33 = .ok (.istore 5, 2) := by decide +kernel
theorem dX7_nothing_35 : decode cX7_nothing 35 = .ok (.iload 5, 2) := by decide +kernel
theorem dX7_nothing_37 : decode cX7_nothing 37 = .ok (.aload_n 0, 1) := by decide +kernel
theorem dX7_nothing_38 : decode cX7_nothing 38 = .ok (.getfield 10, 3) := by decide +kernel
theorem dX7_nothing_41 : decode cX7_nothing 41 = .ok (.getfield 64, 3) := by decide +kernel
theorem dX7_nothing_44 : decode cX7_nothing 44 = .ok (.if_icmp .ge 30, 3) := by decide +kernel
theorem dX7_nothing_47 : decode cX7_nothing 47 = .ok (.aload_n 0, 1) := by decide +kernel
theorem dX7_nothing_48 : decode cX7_nothing 48 = .ok (.getfield 10, 3) := by decide +kernel
theorem dX7_nothing_51 : decode cX7_nothing 51 = .ok (.iload 5, 2) := by decide +kernel
theorem dX7_nothing_53 : decode cX7_nothing 53 = .ok (.lload_n 3, 1) := by decide +kernel
theorem dX7_nothing_54 : decode cX7_nothing 54 = .ok (.invokevirtual 154, 3) := by decide +kernel
theorem dX7_nothing_57 : decode cX7_nothing 57 = .ok (.lstore_n 3, 1) := by decide +kernel
theorem dX7_nothing_58 : decode cX7_nothing 58 = .ok (.lload_n 3, 1) := by decide +kernel
theorem dX7_nothing_59 : decode cX7_nothing 59 = .ok (.invokestatic 112, 3) := by decide +kernel
theorem dX7_nothing_62 : decode cX7_nothing 62 = .ok (.ifCond .ne 6, 3) := by decide +kernel
theorem dX7_nothing_65 : decode cX7_nothing 65 = .ok (.iload 5, 2) := by decide +kernel
theorem dX7_nothing_67 : decode cX7_nothing 67 = .ok (.ireturn, 1) := by decide +kernel
theorem dX7_nothing_68 : decode cX7_nothing 68 = .ok (.iinc 5 1, 3) := by decide +kernel
theorem dX7_nothing_71 : decode cX7_nothing 71 = .ok (.goto (-36), 3) := by decide +kernel
theorem dX7_nothing_74 : decode cX7_nothing 74 = .ok (.iconst (-1), 1) := by decide +kernel
theorem dX7_nothing_75 : decode cX7_nothing 75 = .ok (.ireturn, 1) := by decide +kernel
theorem dX7_boat_0 : decode cX7_boat 0 = .ok (.iload_n 1, 1) := by decide +kernel
theorem dX7_boat_1 : decode cX7_boat 1 = .ok (.invokestatic 106, 3) := by decide +kernel
theorem dX7_boat_4 : decode cX7_boat 4 = .ok (.ifCond .eq 39, 3) := by decide +kernel
theorem dX7_boat_7 : decode cX7_boat 7 = .ok (.iload_n 2, 1) := by decide +kernel
theorem dX7_boat_8 : decode cX7_boat 8 = .ok (.ifCond .lt 35, 3) := by decide +kernel
theorem dX7_boat_11 : decode cX7_boat 11 = .ok (.iload_n 2, 1) := by decide +kernel
theorem dX7_boat_12 : decode cX7_boat 12 = .ok (.ldc 158, 2) := by decide +kernel
theorem dX7_boat_14 : decode cX7_boat 14 = .ok (.if_icmp .gt 29, 3) := by decide +kernel
theorem dX7_boat_17 : decode cX7_boat 17 = .ok (.aload_n 0, 1) := by decide +kernel
theorem dX7_boat_18 : decode cX7_boat 18 = .ok (.iload_n 3, 1) := by decide +kernel
theorem dX7_boat_19 : decode cX7_boat 19 = .ok (.invokevirtual 83, 3) := by decide +kernel
theorem dX7_boat_22 : decode cX7_boat 22 = .ok (.ifCond .eq 21, 3) := by decide +kernel
theorem dX7_boat_25 : decode cX7_boat 25 = .ok (.aload_n 0, 1) := by decide +kernel
theorem dX7_boat_26 : decode cX7_boat 26 = .ok (.iload 4, 2) := by decide +kernel
theorem dX7_boat_28 : decode cX7_boat 28 = .ok (.invokevirtual 83, 3) := by decide +kernel
theorem dX7_boat_31 : decode cX7_boat 31 = .ok (.ifCond .eq 12, 3) := by decide +kernel
theorem dX7_boat_34 : decode cX7_boat 34 = .ok (.iload 5, 2) := by decide +kernel
theorem dX7_boat_36 : decode cX7_boat 36 = .ok (.iconst 2, 1) := by decide +kernel
theorem dX7_boat_37 : decode cX7_boat 37 = .ok (.invokestatic 56, 3) := by decide +kernel
theorem dX7_boat_40 : decode cX7_boat 40 = .ok (.ifCond .ne 10, 3) := by decide +kernel
theorem dX7_boat_43 : decode cX7_boat 43 = .ok (.aload_n 0, 1) := by decide +kernel
theorem dX7_boat_44 : decode cX7_boat 44 = .ok (.bipush (-10), 2) := by decide +kernel
theorem dX7_boat_46 : decode cX7_boat 46 = .ok (.invokevirtual 60, 3) := by decide +kernel
theorem dX7_boat_49 : decode cX7_boat 49 = .ok (.ireturn, 1) := by decide +kernel
theorem dX7_boat_50 : decode cX7_boat 50 = .ok (.aload_n 0, 1) := by decide +kernel
theorem dX7_boat_51 : decode cX7_boat 51 = .ok (.getfield 10, 3) := by decide +kernel
theorem dX7_boat_54 : decode cX7_boat 54 = .ok (.getfield 109, 3) := by decide +kernel
theorem dX7_boat_57 : decode cX7_boat 57 = .ok (.iload_n 1, 1) := by decide +kernel
theorem dX7_boat_58 : decode cX7_boat 58 = .ok (.laload, 1) := by decide +kernel
theorem dX7_boat_59 : decode cX7_boat 59 = .ok (.lstore 6, 2) := by decide +kernel
theorem dX7_boat_61 : decode cX7_boat 61 = .ok (.iconst 0, 1) := by decide +kernel
theorem dX7_boat_62 : decode cX7_boat 62 = .ok (.istore 8, 2) := by decide +kernel
theorem dX7_boat_64 : decode cX7_boat 64 = .ok (.iconst (-1), 1) := by decide +kernel
theorem dX7_boat_65 : decode cX7_boat 65 = .ok (.istore 9, 2) := by decide +kernel
theorem dX7_boat_67 : decode cX7_boat 67 = .ok (.iload_n 3, 1) := by decide +kernel
theorem dX7_boat_68 : decode cX7_boat 68 = .ok (.istore 10, 2) := by decide +kernel
theorem dX7_boat_70 : decode cX7_boat 70 = .ok (.iload 10, 2) := by decide +kernel
theorem dX7_boat_72 : decode cX7_boat 72 = .ok (.iload 4, 2) := by decide +kernel
theorem dX7_boat_74 : decode cX7_boat 74 = .ok (.if_icmp .gt 57, 3) := by decide +kernel
theorem dX7_boat_77 : decode cX7_boat 77 = .ok (.iload 9, 2) := by decide +kernel
theorem dX7_boat_79 : decode cX7_boat 79 = .ok (.iconst (-1), 1) := by decide +kernel
theorem dX7_boat_80 : decode cX7_boat 80 = .ok (.if_icmp .ne 51, 3) := by decide +kernel
theorem dX7_boat_83 : decode cX7_boat 83 = .ok (.aload_n 0, 1) := by decide +kernel
theorem dX7_boat_84 : decode cX7_boat 84 = .ok (.getfield 10, 3) := by decide +kernel
theorem dX7_boat_87 : decode cX7_boat 87 = .ok (.iload 10, 2) := by decide +kernel
theorem dX7_boat_89 : decode cX7_boat 89 = .ok (.lload 6, 2) := by decide +kernel
theorem dX7_boat_91 : decode cX7_boat 91 = .ok (.invokevirtual 154, 3) := by decide +kernel
theorem dX7_boat_94 : decode cX7_boat 94 = .ok (.lstore 6, 2) := by decide +kernel
theorem dX7_boat_96 : decode cX7_boat 96 = .ok (.iload_n 2, 1) := by decide +kernel
theorem dX7_boat_97 : decode cX7_boat 97 = .ok (.lload 6, 2) := by decide +kernel
theorem dX7_boat_99 : decode cX7_boat 99 = .ok (.invokestatic 159, 3) := by decide +kernel
theorem dX7_boat_102 : decode cX7_boat 102 = .ok (.invokestatic 162, 3) := by decide +kernel
theorem dX7_boat_105 : decode cX7_boat 105 = .ok (.ifCond .eq 16, 3) := by decide +kernel
theorem dX7_boat_108 : decode cX7_boat 108 = .ok (.iload 8, 2) := by decide +kernel
theorem dX7_boat_110 : decode cX7_boat 110 = .ok (.lload 6, 2) := by decide +kernel
theorem dX7_boat_112 : decode cX7_boat 112 = .ok (.invokestatic 112, 3) := by decide +kernel
theorem dX7_boat_115 : decode cX7_boat 115 = .ok (.iadd, 1) := by decide +kernel
theorem dX7_boat_116 : decode cX7_boat 116 = .ok (.istore 8, 2) := by decide +kernel
theorem dX7_boat_118 : decode cX7_boat 118 = .ok (.goto 7, 3) := by decide +kernel
theorem dX7_boat_121 : decode cX7_boat 121 = .ok (.iload 10, 2) := by decide +kernel
theorem dX7_boat_123 : decode cX7_boat 123 = .ok (.istore 9, 2) := by decide +kernel
theorem dX7_boat_125 : decode cX7_boat 125 = .ok (.iinc 10 1, 3) := by decide +kernel
theorem dX7_boat_128 : decode cX7_boat 128 = .ok (.goto (-58), 3) := by decide +kernel
theorem dX7_boat_131 : decode cX7_boat 131 = .ok (.iload 5, 2) := by decide +kernel
theorem dX7_boat_133 : decode cX7_boat 133 = .ok (.ifCond .ne 8, 3) := by decide +kernel
theorem dX7_boat_136 : decode cX7_boat 136 = .ok (.iload 9, 2) := by decide +kernel
theorem dX7_boat_138 : decode cX7_boat 138 = .ok (.goto 5, 3) := by decide +kernel
theorem dX7_boat_141 : decode cX7_boat 141 = .ok (.iload 8, 2) := by decide +kernel
theorem dX7_boat_143 : decode cX7_boat 143 = .ok (.ireturn, 1) := by decide +kernel
theorem dX7_way_0 : decode cX7_way 0 = .ok (.iload_n 1, 1) := by decide +kernel
theorem dX7_way_1 : decode cX7_way 1 = .ok (.invokestatic 106, 3) := by decide +kernel
theorem dX7_way_4 : decode cX7_way 4 = .ok (.ifCond .eq 27, 3) := by decide +kernel
theorem dX7_way_7 : decode cX7_way 7 = .ok (.iload_n 2, 1) := by decide +kernel
theorem dX7_way_8 : decode cX7_way 8 = .ok (.bipush 6, 2) := by decide +kernel
theorem dX7_way_10 : decode cX7_way 10 = .ok (.invokestatic 56, 3) := by decide +kernel
theorem dX7_way_13 : decode cX7_way 13 = .ok (.ifCond .eq 18, 3) := by decide +kernel
theorem dX7_way_16 : decode cX7_way 16 = .ok (.iload_n 3, 1) := by decide +kernel
theorem dX7_way_17 : decode cX7_way 17 = .ok (.bipush 6, 2) := by decide +kernel
theorem dX7_way_19 : decode cX7_way 19 = .ok (.invokestatic 56, 3) := by decide +kernel
theorem dX7_way_22 : decode cX7_way 22 = .ok (.ifCond .eq 9, 3) := by decide +kernel
theorem dX7_way_25 : decode cX7_way 25 = .ok (.iload 4, 2) := by decide +kernel
theorem dX7_way_27 : decode cX7_way 27 = .ok (.iconst (-1), 1) := by decide +kernel
theorem dX7_way_28 : decode cX7_way 28 = .ok (.if_icmp .ge 10, 3) := by decide +kernel
theorem dX7_way_31 : decode cX7_way 31 = .ok (.aload_n 0, 1) := by decide +kernel
theorem dX7_way_32 : decode cX7_way 32 = .ok (.bipush (-10), 2) := by decide +kernel
theorem dX7_way_34 : decode cX7_way 34 = .ok (.invokevirtual 60, 3) := by decide +kernel
theorem dX7_way_37 : decode cX7_way 37 = .ok (.ireturn, 1) := by decide +kernel
theorem dX7_way_38 : decode cX7_way 38 = .ok (.aload_n 0, 1) := by decide +kernel
theorem dX7_way_39 : decode cX7_way 39 = .ok (.getfield 37, 3) := by decide +kernel
theorem dX7_way_42 : decode cX7_way 42 = .ok (.aload_n 0, 1) := by decide +kernel
theorem dX7_way_43 : decode cX7_way 43 = .ok (.getfield 10, 3) := by decide +kernel
theorem dX7_way_46 : decode cX7_way 46 = .ok (.aload_n 0, 1) := by decide +kernel
theorem dX7_way_47 : decode cX7_way 47 = .ok (.getfield 10, 3) := by decide +kernel
theorem dX7_way_50 : decode cX7_way 50 = .ok (.getfield 109, 3) := by decide +kernel
theorem dX7_way_53 : decode cX7_way 53 = .ok (.iload_n 1, 1) := by decide +kernel
theorem dX7_way_54 : decode cX7_way 54 = .ok (.laload, 1) := by decide +kernel
theorem dX7_way_55 : decode cX7_way 55 = .ok (.iload_n 2, 1) := by decide +kernel
theorem dX7_way_56 : decode cX7_way 56 = .ok (.iload_n 3, 1) := by decide +kernel
theorem dX7_way_57 : decode cX7_way 57 = .ok (.invokevirtual 165, 3) := by decide +kernel
theorem dX7_way_60 : decode cX7_way 60 = .ok (.aload_n 0, 1) := by decide +kernel
theorem dX7_way_61 : decode cX7_way 61 = .ok (.getfield 37, 3) := by decide +kernel
theorem dX7_way_64 : decode cX7_way 64 = .ok (.getfield 169, 3) := by decide +kernel
theorem dX7_way_67 : decode cX7_way 67 = .ok (.ifCond .ne 5, 3) := by decide +kernel
theorem dX7_way_70 : decode cX7_way 70 = .ok (.iconst (-1), 1) := by decide +kernel
theorem dX7_way_71 : decode cX7_way 71 = .ok (.ireturn, 1) := by decide +kernel
theorem dX7_way_72 : decode cX7_way 72 = .ok (.iload 4, 2) := by decide +kernel
theorem dX7_way_74 : decode cX7_way 74 = .ok (.iconst (-1), 1) := by decide +kernel
theorem dX7_way_75 : decode cX7_way 75 = .ok (.if_icmp .ne 11, 3) := by decide +kernel
theorem dX7_way_78 : decode cX7_way 78 = .ok (.aload_n 0, 1) := by decide +kernel
theorem dX7_way_79 : decode cX7_way 79 = .ok (.getfield 37, 3) := by decide +kernel
theorem dX7_way_82 : decode cX7_way 82 = .ok (.getfield 172, 3) := by decide +kernel
theorem dX7_way_85 : decode cX7_way 85 = .ok (.ireturn, 1) := by decide +kernel
theorem dX7_way_86 : decode cX7_way 86 = .ok (.iload 4, 2) := by decide +kernel
theorem dX7_way_88 : decode cX7_way 88 = .ok (.aload_n 0, 1) := by decide +kernel
theorem dX7_way_89 : decode cX7_way 89 = .ok (.getfield 37, 3) := by decide +kernel
theorem dX7_way_92 : decode cX7_way 92 = .ok (.getfield 175, 3) := by decide +kernel
theorem dX7_way_95 : decode cX7_way 95 = .ok (.if_icmp .ge 16, 3) := by decide +kernel
theorem dX7_way_98 : decode cX7_way 98 = .ok (.aload_n 0, 1) := by decide +kernel
theorem dX7_way_99 : decode cX7_way 99 = .ok (.getfield 37, 3) := by decide +kernel
theorem dX7_way_102 : decode cX7_way 102 = .ok (.getfield 178, 3) := by decide +kernel
theorem dX7_way_105 : decode cX7_way 105 = .ok (.iload 4, 2) := by decide +kernel
theorem dX7_way_107 : decode cX7_way 107 = .ok (.iaload, 1) := by decide +kernel
theorem dX7_way_108 : decode cX7_way 108 = .ok (.goto 5, 3) := by decide +kernel
theorem dX7_way_111 : decode cX7_way 111 = .ok (.bipush (-5), 2) := by decide +kernel
theorem dX7_way_113 : decode cX7_way 113 = .ok (.ireturn, 1) := by decide +kernel
theorem dX7_ways_0 : decode cX7_ways 0 = .ok (.iload_n 1, 1) := by decide +kernel
theorem dX7_ways_1 : decode cX7_ways 1 = .ok (.invokestatic 106, 3) := by decide +kernel
theorem dX7_ways_4 : decode cX7_ways 4 = .ok (.ifCond .eq 30, 3) := by decide +kernel
theorem dX7_ways_7 : decode cX7_ways 7 = .ok (.iload_n 2, 1) := by decide +kernel
theorem dX7_ways_8 : decode cX7_ways 8 = .ok (.bipush 6, 2) := by decide +kernel
theorem dX7_ways_10 : decode cX7_ways 10 = .ok (.invokestatic 56, 3) := by decide +kernel
theorem dX7_ways_13 : decode cX7_ways 13 = .ok (.ifCond .eq 21, 3) := by decide +kernel
theorem dX7_ways_16 : decode cX7_ways 16 = .ok (.iload_n 3, 1) := by decide +kernel
theorem dX7_ways_17 : decode cX7_ways 17 = .ok (.bipush 6, 2) := by decide +kernel
theorem dX7_ways_19 : decode cX7_ways 19 = .ok (.invokestatic 56, 3) := by decide +kernel
theorem dX7_ways_22 : decode cX7_ways 22 = .ok (.ifCond .eq 12, 3) := by decide +kernel
theorem dX7_ways_25 : decode cX7_ways 25 = .ok (.iload 4, 2) := by decide +kernel
theorem dX7_ways_27 : decode cX7_ways 27 = .ok (.iconst 2, 1) := by decide +kernel
theorem dX7_ways_28 : decode cX7_ways 28 = .ok (.invokestatic 56, 3) := by decide +kernel
theorem dX7_ways_31 : decode cX7_ways 31 = .ok (.ifCond .ne 10, 3) := by decide +kernel
theorem dX7_ways_34 : decode cX7_ways 34 = .ok (.aload_n 0, 1) := by decide +kernel
theorem dX7_ways_35 : decode cX7_ways 35 = .ok (.bipush (-2), 2) := by decide +kernel
theorem dX7_ways_37 : decode cX7_ways 37 = .ok (.invokevirtual 60, 3) := by decide +kernel
theorem dX7_ways_40 : decode cX7_ways 40 = .ok (.ireturn, 1) := by decide +kernel
theorem dX7_ways_41 : decode cX7_ways 41 = .ok (.aload_n 0, 1) := by decide +kernel
theorem dX7_ways_42 : decode cX7_ways 42 = .ok (.getfield 37, 3) := by decide +kernel
theorem dX7_ways_45 : decode cX7_ways 45 = .ok (.aload_n 0, 1) := by decide +kernel
theorem dX7_ways_46 : decode cX7_ways 46 = .ok (.getfield 10, 3) := by decide +kernel
theorem dX7_ways_49 : decode cX7_ways 49 = .ok (.aload_n 0, 1) := by decide +kernel
theorem dX7_ways_50 : decode cX7_ways 50 = .ok (.getfield 10, 3) := by decide +kernel
theorem dX7_ways_53 : decode cX7_ways 53 = .ok (.getfield 109, 3) := by decide +kernel
theorem dX7_ways_56 : decode cX7_ways 56 = .ok (.iload_n 1, 1) := by decide +kernel
theorem dX7_ways_57 : decode cX7_ways 57 = .ok (.laload, 1) := by decide +kernel
theorem dX7_ways_58 : decode cX7_ways 58 = .ok (.iload_n 2, 1) := by decide +kernel
theorem dX7_ways_59 : decode cX7_ways 59 = .ok (.iload_n 3, 1) := by decide +kernel
theorem dX7_ways_60 : decode cX7_ways 60 = .ok (.invokevirtual 165, 3) := by decide +kernel
theorem dX7_ways_63 : decode cX7_ways 63 = .ok (.iload 4, 2) := by decide +kernel
theorem dX7_ways_65 : decode cX7_ways 65 = .ok (.ifCond .ne 11, 3) := by decide +kernel
theorem dX7_ways_68 : decode cX7_ways 68 = .ok (.aload_n 0, 1) := by decide +kernel
theorem dX7_ways_69 : decode cX7_ways 69 = .ok (.getfield 37, 3) := by decide +kernel
theorem dX7_ways_72 : decode cX7_ways 72 = .ok (.getfield 169, 3) := by decide +kernel
theorem dX7_ways_75 : decode cX7_ways 75 = .ok (.ireturn, 1) := by decide +kernel
theorem dX7_ways_76 : decode cX7_ways 76 = .ok (.aload_n 0, 1) := by decide +kernel
theorem dX7_ways_77 : decode cX7_ways 77 = .ok (.getfield 37, 3) := by decide +kernel
theorem dX7_ways_80 : decode cX7_ways 80 = .ok (.getfield 169, 3) := by decide +kernel
theorem dX7_ways_83 : decode cX7_ways 83 = .ok (.ifCond .ne 7, 3) := by decide +kernel
theorem dX7_ways_86 : decode cX7_ways 86 = .ok (.iconst (-1), 1) := by decide +kernel
theorem dX7_ways_87 : decode cX7_ways 87 = .ok (.goto 10, 3) := by decide +kernel
theorem dX7_ways_90 : decode cX7_ways 90 = .ok (.aload_n 0, 1) := by decide +kernel
theorem dX7_ways_91 : decode cX7_ways 91 = .ok (.getfield 37, 3) := by decide +kernel
theorem dX7_ways_94 : decode cX7_ways 94 = .ok (.getfield 175, 3) := by decide +kernel
theorem dX7_ways_97 : decode cX7_ways 97 = .ok (.ireturn, 1) := by decide +kernel
theorem dX7_curse_0 : decode cX7_curse 0 = .ok (.iload_n 1, 1) := by decide +kernel
theorem dX7_curse_1 : decode cX7_curse 1 = .ok (.invokestatic 106, 3) := by decide +kernel
theorem dX7_curse_4 : decode cX7_curse 4 = .ok (.ifCond .eq 19, 3) := by decide +kernel
theorem dX7_curse_7 : decode cX7_curse 7 = .ok (.iload_n 2, 1) := by decide +kernel
theorem dX7_curse_8 : decode cX7_curse 8 = .ok (.invokestatic 106, 3) := by decide +kernel
theorem dX7_curse_11 : decode cX7_curse 11 = .ok (.ifCond .eq 12, 3) := by decide +kernel
theorem dX7_curse_14 : decode cX7_curse 14 = .ok (.iload_n 3, 1) := by decide +kernel
theorem dX7_curse_15 : decode cX7_curse 15 = .ok (.bipush 6, 2) := by decide +kernel
theorem dX7_curse_17 : decode cX7_curse 17 = .ok (.invokestatic 56, 3) := by decide +kernel
theorem dX7_curse_20 : decode cX7_curse 20 = .ok (.ifCond .ne 10, 3) := by decide +kernel
theorem dX7_curse_23 : decode cX7_curse 23 = .ok (.aload_n 0, 1) := by decide +kernel
theorem dX7_curse_24 : decode cX7_curse 24 = .ok (.bipush (-2), 2) := by decide +kernel
theorem dX7_curse_26 : decode cX7_curse 26 = .ok (.invokevirtual 60, 3) := by decide +kernel
theorem dX7_curse_29 : decode cX7_curse 29 = .ok (.ireturn, 1) := by decide +kernel
theorem dX7_curse_30 : decode cX7_curse 30 = .ok (.aload_n 0, 1) := by decide +kernel
theorem dX7_curse_31 : decode cX7_curse 31 = .ok (.getfield 10, 3) := by decide +kernel
theorem dX7_curse_34 : decode cX7_curse 34 = .ok (.aload_n 0, 1) := by decide +kernel
theorem dX7_curse_35 : decode cX7_curse 35 = .ok (.getfield 10, 3) := by decide +kernel
theorem dX7_curse_38 : decode cX7_curse 38 = .ok (.getfield 109, 3) := by decide +kernel
theorem dX7_curse_41 : decode cX7_curse 41 = .ok (.iload_n 1, 1) := by decide +kernel
theorem dX7_curse_42 : decode cX7_curse 42 = .ok (.laload, 1) := by decide +kernel
theorem dX7_curse_43 : decode cX7_curse 43 = .ok (.aload_n 0, 1) := by decide +kernel
theorem dX7_curse_44 : decode cX7_curse 44 = .ok (.getfield 10, 3) := by decide +kernel
theorem dX7_curse_47 : decode cX7_curse 47 = .ok (.getfield 109, 3) := by decide +kernel
theorem dX7_curse_50 : decode cX7_curse 50 = .ok (.iload_n 2, 1) := by decide +kernel
theorem dX7_curse_51 : decode cX7_curse 51 = .ok (.laload, 1) := by decide +kernel
theorem dX7_curse_52 : decode cX7_curse 52 = .ok (.iload_n 3, 1) := by decide +kernel
theorem dX7_curse_53 : decode cX7_curse 53 = .ok (.invokestatic 181, 3) := by decide +kernel
theorem dX7_curse_56 : decode cX7_curse 56 = .ok (.ireturn, 1) := by decide +kernel
theorem dX7_above_0 : decode cX7_above 0 = .ok (.aload_n 0, 1) := by decide +kernel
theorem dX7_above_1 : decode cX7_above 1 = .ok (.iload_n 1, 1) := by decide +kernel
theorem dX7_above_2 : decode cX7_above 2 = .ok (.invokevirtual 83, 3) := by decide +kernel
theorem dX7_above_5 : decode cX7_above 5 = .ok (.ifCond .eq 18, 3) := by decide +kernel
theorem dX7_above_8 : decode cX7_above 8 = .ok (.iload_n 2, 1) := by decide +kernel
theorem dX7_above_9 : decode cX7_above 9 = .ok (.invokestatic 106, 3) := by decide +kernel
theorem dX7_above_12 : decode cX7_above 12 = .ok (.ifCond .eq 11, 3) := by decide +kernel
theorem dX7_above_15 : decode cX7_above 15 = .ok (.iload_n 3, 1) := by decide +kernel
theorem dX7_above_16 : decode cX7_above 16 = .ok (.iconst 2, 1) := by decide +kernel
theorem dX7_above_17 : decode cX7_above 17 = .ok (.invokestatic 56, 3) := by decide +kernel
theorem dX7_above_20 : decode cX7_above 20 = .ok (.ifCond .ne 10, 3) := by decide +kernel
theorem dX7_above_23 : decode cX7_above 23 = .ok (.aload_n 0, 1) := by decide +kernel
theorem dX7_above_24 : decode cX7_above 24 = .ok (.bipush (-10), 2) := by decide +kernel
theorem dX7_above_26 : decode cX7_above 26 = .ok (.invokevirtual 60, 3) := by decide +kernel
theorem dX7_above_29 : decode cX7_above 29 = .ok (.ireturn, 1) := by decide +kernel
theorem dX7_above_30 : decode cX7_above 30 = .ok (.aload_n 0, 1) := by decide +kernel
theorem dX7_above_31 : decode cX7_above 31 = .ok (.getfield 10, 3) := by decide +kernel
theorem dX7_above_34 : decode cX7_above 34 = .ok (.getfield 109, 3) := by decide +kernel
theorem dX7_above_37 : decode cX7_above 37 = .ok (.iload_n 2, 1) := by decide +kernel
theorem dX7_above_38 : decode cX7_above 38 = .ok (.laload, 1) := by decide +kernel
theorem dX7_above_39 : decode cX7_above 39 = .ok (.lstore 4, 2) := by decide +kernel
theorem dX7_above_41 : decode cX7_above 41 = .ok (.iconst 0, 1) := by decide +kernel
theorem dX7_above_42 : decode cX7_above 42 = .ok (.istore 6, 2) := by decide +kernel
theorem dX7_above_44 : decode cX7_above 44 = .ok (.iconst (-1), 1) := by decide +kernel
theorem dX7_above_45 : decode cX7_above 45 = .ok (.istore 7, 2) := by decide +kernel
theorem dX7_above_47 : decode cX7_above 47 = .ok (.iconst 0, 1) := by decide +kernel
theorem dX7_above_48 : decode cX7_above 48 = .ok (.istore 8, 2) := by decide +kernel
theorem dX7_above_50 : decode cX7_above 50 = .ok (.iload 8, 2) := by decide +kernel
theorem dX7_above_52 : decode cX7_above 52 = .ok (.sipush 288, 3) := by decide +kernel
theorem dX7_above_55 : decode cX7_above 55 = .ok (.if_icmp .gt 54, 3) := by decide +kernel
theorem dX7_above_58 : decode cX7_above 58 = .ok (.iload 8, 2) := by decide +kernel
theorem dX7_above_60 : decode cX7_above 60 = .ok (.invokestatic 185, 3) := by decide +kernel
theorem dX7_above_63 : decode cX7_above 63 = .ok (.ifCond .eq 40, 3) := by decide +kernel
theorem dX7_above_66 : decode cX7_above 66 = .ok (.aload_n 0, 1) := by decide +kernel
theorem dX7_above_67 : decode cX7_above 67 = .ok (.getfield 10, 3) := by decide +kernel
theorem dX7_above_70 : decode cX7_above 70 = .ok (.iload_n 1, 1) := by decide +kernel
theorem dX7_above_71 : decode cX7_above 71 = .ok (.iload 8, 2) := by decide +kernel
theorem dX7_above_73 : decode cX7_above 73 = .ok (.invokestatic 188, 3) := by decide +kernel
theorem dX7_above_76 : decode cX7_above 76 = .ok (.invokevirtual 154, 3) := by decide +kernel
theorem dX7_above_79 : decode cX7_above 79 = .ok (.lload 4, 2) := by decide +kernel
theorem dX7_above_81 : decode cX7_above 81 = .ok (.lcmp, 1) := by decide +kernel
theorem dX7_above_82 : decode cX7_above 82 = .ok (.ifCond .ne 21, 3) := by decide +kernel
theorem dX7_above_85 : decode cX7_above 85 = .ok (.iinc 6 1, 3) := by decide +kernel
theorem dX7_above_88 : decode cX7_above 88 = .ok (.iload 7, 2) := by decide +kernel
theorem dX7_above_90 : decode cX7_above 90 = .ok (.iconst (-1), 1) := by decide +kernel
theorem dX7_above_91 : decode cX7_above 91 = .ok (.if_icmp .ne 8, 3) := by decide +kernel
theorem dX7_above_94 : decode cX7_above 94 = .ok (.iload 8, 2) := by decide +kernel
theorem dX7_above_96 : decode cX7_above 96 = .ok (.goto 5, 3) := by decide +kernel
theorem dX7_above_99 : decode cX7_above 99 = .ok (.iload 7, 2) := by decide +kernel
theorem dX7_above_101 : decode cX7_above 101 = .ok (.istore 7, 2) := by decide +kernel
theorem dX7_above_103 : decode cX7_above 103 = .ok (.iinc 8 1, 3) := by decide +kernel
theorem dX7_above_106 : decode cX7_above 106 = .ok (.goto (-56), 3) := by decide +kernel
theorem dX7_above_109 : decode cX7_above 109 = .ok (.iload_n 3, 1) := by decide +kernel
theorem dX7_above_110 : decode cX7_above 110 = .ok (.ifCond .ne 8, 3) := by decide +kernel
theorem dX7_above_113 : decode cX7_above 113 = .ok (.iload 6, 2) := by decide +kernel
theorem dX7_above_115 : decode cX7_above 115 = .ok (.goto 5, 3) := by decide +kernel
theorem dX7_above_118 : decode cX7_above 118 = .ok (.iload 7, 2) := by decide +kernel
theorem dX7_above_120 : decode cX7_above 120 = .ok (.ireturn, 1) := by decide +kernel
theorem dX7_note_0 : decode cX7_note 0 = .ok (.aload_n 0, 1) := by decide +kernel
theorem dX7_note_1 : decode cX7_note 1 = .ok (.iload_n 1, 1) := by decide +kernel
theorem dX7_note_2 : decode cX7_note 2 = .ok (.invokevirtual 83, 3) := by decide +kernel
theorem dX7_note_5 : decode cX7_note 5 = .ok (.ifCond .eq 17, 3) := by decide +kernel
theorem dX7_note_8 : decode cX7_note 8 = .ok (.iload_n 2, 1) := by decide +kernel
theorem dX7_note_9 : decode cX7_note 9 = .ok (.invokestatic 106, 3) := by decide +kernel
theorem dX7_note_12 : decode cX7_note 12 = .ok (.ifCond .eq 10, 3) := by decide +kernel
theorem dX7_note_15 : decode cX7_note 15 = .ok (.iload_n 3, 1) := by decide +kernel
theorem dX7_note_16 : decode cX7_note 16 = .ok (.invokestatic 106, 3) := by decide +kernel
theorem dX7_note_19 : decode cX7_note 19 = .ok (.ifCond .ne 10, 3) := by decide +kernel
theorem dX7_note_22 : decode cX7_note 22 = .ok (.aload_n 0, 1) := by decide +kernel
theorem dX7_note_23 : decode cX7_note 23 = .ok (.bipush (-2), 2) := by decide +kernel
theorem dX7_note_25 : decode cX7_note 25 = .ok (.invokevirtual 60, 3) := by decide +kernel
theorem dX7_note_28 : decode cX7_note 28 = .ok (.ireturn, 1) := by decide +kernel
theorem dX7_note_29 : decode cX7_note 29 = .ok (.aload_n 0, 1) := by decide +kernel
theorem dX7_note_30 : decode cX7_note 30 = .ok (.getfield 10, 3) := by decide +kernel
theorem dX7_note_33 : decode cX7_note 33 = .ok (.getfield 192, 3) := by decide +kernel
theorem dX7_note_36 : decode cX7_note 36 = .ok (.getfield 196, 3) := by decide +kernel
theorem dX7_note_39 : decode cX7_note 39 = .ok (.bipush 8, 2) := by decide +kernel
theorem dX7_note_41 : decode cX7_note 41 = .ok (.if_icmp .lt 8, 3) := by decide +kernel
theorem dX7_note_44 : decode cX7_note 44 = .ok (.aload_n 0, 1) := by decide +kernel
theorem dX7_note_45 : decode cX7_note 45 = .ok (.invokevirtual 75, 3) := by decide +kernel
theorem dX7_note_48 : decode cX7_note 48 = .ok (.ireturn, 1) := by decide +kernel
theorem dX7_note_49 : decode cX7_note 49 = .ok (.aload_n 0, 1) := by decide +kernel
theorem dX7_note_50 : decode cX7_note 50 = .ok (.getfield 10, 3) := by decide +kernel
theorem dX7_note_53 : decode cX7_note 53 = .ok (.getfield 192, 3) := by decide +kernel
theorem dX7_note_56 : decode cX7_note 56 = .ok (.iload_n 1, 1) := by decide +kernel
theorem dX7_note_57 : decode cX7_note 57 = .ok (.aload_n 0, 1) := by decide +kernel
theorem dX7_note_58 : decode cX7_note 58 = .ok (.getfield 10, 3) := by decide +kernel
theorem dX7_note_61 : decode cX7_note 61 = .ok (.getfield 94, 3) := by decide +kernel
theorem dX7_note_64 : decode cX7_note 64 = .ok (.aload_n 0, 1) := by decide +kernel
theorem dX7_note_65 : decode cX7_note 65 = .ok (.getfield 10, 3) := by decide +kernel
theorem dX7_note_68 : decode cX7_note 68 = .ok (.getfield 109, 3) := by decide +kernel
theorem dX7_note_71 : decode cX7_note 71 = .ok (.iload_n 2, 1) := by decide +kernel
theorem dX7_note_72 : decode cX7_note 72 = .ok (.laload, 1) := by decide +kernel
theorem dX7_note_73 : decode cX7_note 73 = .ok (.aload_n 0, 1) := by decide +kernel
theorem dX7_note_74 : decode cX7_note 74 = .ok (.getfield 10, 3) := by decide +kernel
theorem dX7_note_77 : decode cX7_note 77 = .ok (.getfield 109, 3) := by decide +kernel
theorem dX7_note_80 : decode cX7_note 80 = .ok (.iload_n 3, 1) := by decide +kernel
theorem dX7_note_81 : decode cX7_note 81 = .ok (.laload, 1) := by decide +kernel
theorem dX7_note_82 : decode cX7_note 82 = .ok (.invokevirtual 201, 3) := by decide +kernel
theorem dX7_note_85 : decode cX7_note 85 = .ok (.aload_n 0, 1) := by decide +kernel
theorem dX7_note_86 : decode cX7_note 86 = .ok (.getfield 10, 3) := by decide +kernel
theorem dX7_note_89 : decode cX7_note 89 = .ok (.getfield 192, 3) := by decide +kernel
theorem dX7_note_92 : decode cX7_note 92 = .ok (.getfield 196, 3) := by decide +kernel
theorem dX7_note_95 : decode cX7_note 95 = .ok (.ireturn, 1) := by decide +kernel
theorem dX7_forget_0 : decode cX7_forget 0 = .ok (.aload_n 0, 1) := by decide +kernel
theorem dX7_forget_1 : decode cX7_forget 1 = .ok (.getfield 10, 3) := by decide +kernel
theorem dX7_forget_4 : decode cX7_forget 4 = .ok (.getfield 192, 3) := by decide +kernel
theorem dX7_forget_7 : decode cX7_forget 7 = .ok (.getfield 196, 3) := by decide +kernel
theorem dX7_forget_10 : decode cX7_forget 10 = .ok (.istore_n 1, 1) := by decide +kernel
theorem dX7_forget_11 : decode cX7_forget 11 = .ok (.aload_n 0, 1) := by decide +kernel
theorem dX7_forget_12 : decode cX7_forget 12 = .ok (.getfield 10, 3) := by decide +kernel
theorem dX7_forget_15 : decode cX7_forget 15 = .ok (.getfield 192, 3) := by decide +kernel
theorem dX7_forget_18 : decode cX7_forget 18 = .ok (.iconst 0, 1) := by decide +kernel
theorem dX7_forget_19 : decode cX7_forget 19 = .ok (.putfield 196, 3) := by decide +kernel
theorem dX7_forget_22 : decode cX7_forget 22 = .ok (.iload_n 1, 1) := by decide +kernel
theorem dX7_forget_23 : decode cX7_forget 23 = .ok (.ireturn, 1) := by decide +kernel
theorem dX7_fits_0 : decode cX7_fits 0 = .ok (.aload_n 0, 1) := by decide +kernel
theorem dX7_fits_1 : decode cX7_fits 1 = .ok (.iload_n 1, 1) := by decide +kernel
theorem dX7_fits_2 : decode cX7_fits 2 = .ok (.invokevirtual 83, 3) := by decide +kernel
theorem dX7_fits_5 : decode cX7_fits 5 = .ok (.ifCond .eq 11, 3) := by decide +kernel
theorem dX7_fits_8 : decode cX7_fits 8 = .ok (.iload_n 2, 1) := by decide +kernel
theorem dX7_fits_9 : decode cX7_fits 9 = .ok (.iconst 2, 1) := by decide +kernel
theorem dX7_fits_10 : decode cX7_fits 10 = .ok (.invokestatic 56, 3) := by decide +kernel
theorem dX7_fits_13 : decode cX7_fits 13 = .ok (.ifCond .ne 10, 3) := by decide +kernel
theorem dX7_fits_16 : decode cX7_fits 16 = .ok (.aload_n 0, 1) := by decide +kernel
theorem dX7_fits_17 : decode cX7_fits 17 = .ok (.bipush (-10), 2) := by decide +kernel
theorem dX7_fits_19 : decode cX7_fits 19 = .ok (.invokevirtual 60, 3) := by decide +kernel
theorem dX7_fits_22 : decode cX7_fits 22 = .ok (.ireturn, 1) := by decide +kernel
theorem dX7_fits_23 : decode cX7_fits 23 = .ok (.aload_n 0, 1) := by decide +kernel
theorem dX7_fits_24 : decode cX7_fits 24 = .ok (.iload_n 1, 1) := by decide +kernel
theorem dX7_fits_25 : decode cX7_fits 25 = .ok (.invokevirtual 204, 3) := by decide +kernel
theorem dX7_fits_28 : decode cX7_fits 28 = .ok (.istore_n 3, 1) := by decide +kernel
theorem dX7_fits_29 : decode cX7_fits 29 = .ok (.iload_n 2, 1) := by decide +kernel
theorem dX7_fits_30 : decode cX7_fits 30 = .ok (.ifCond .ne 5, 3) := by decide +kernel
theorem dX7_fits_33 : decode cX7_fits 33 = .ok (.iload_n 3, 1) := by decide +kernel
theorem dX7_fits_34 : decode cX7_fits 34 = .ok (.ireturn, 1) := by decide +kernel
theorem dX7_fits_35 : decode cX7_fits 35 = .ok (.iload_n 3, 1) := by decide +kernel
theorem dX7_fits_36 : decode cX7_fits 36 = .ok (.ifCond .ne 7, 3) := by decide +kernel
theorem dX7_fits_39 : decode cX7_fits 39 = .ok (.iconst (-1), 1) := by decide +kernel
theorem dX7_fits_40 : decode cX7_fits 40 = .ok (.goto 9, 3) := by decide +kernel
theorem dX7_fits_43 : decode cX7_fits 43 = .ok (.aload_n 0, 1) := by decide +kernel
theorem dX7_fits_44 : decode cX7_fits 44 = .ok (.getfield 48, 3) := by decide +kernel
theorem dX7_fits_47 : decode cX7_fits 47 = .ok (.iconst 0, 1) := by decide +kernel
theorem dX7_fits_48 : decode cX7_fits 48 = .ok (.iaload, 1) := by decide +kernel
theorem dX7_fits_49 : decode cX7_fits 49 = .ok (.ireturn, 1) := by decide +kernel
theorem dX7_tries_0 : decode cX7_tries 0 = .ok (.aload_n 0, 1) := by decide +kernel
theorem dX7_tries_1 : decode cX7_tries 1 = .ok (.iload_n 1, 1) := by decide +kernel
theorem dX7_tries_2 : decode cX7_tries 2 = .ok (.invokevirtual 83, 3) := by decide +kernel
theorem dX7_tries_5 : decode cX7_tries 5 = .ok (.ifCond .ne 10, 3) := by decide +kernel
theorem dX7_tries_8 : decode cX7_tries 8 = .ok (.aload_n 0, 1) := by decide +kernel
theorem dX7_tries_9 : decode cX7_tries 9 = .ok (.bipush (-2), 2) := by decide +kernel
theorem dX7_tries_11 : decode cX7_tries 11 = .ok (.invokevirtual 60, 3) := by decide +kernel
theorem dX7_tries_14 : decode cX7_tries 14 = .ok (.ireturn, 1) := by decide +kernel
theorem dX7_tries_15 : decode cX7_tries 15 = .ok (.aload_n 0, 1) := by decide +kernel
theorem dX7_tries_16 : decode cX7_tries 16 = .ok (.iload_n 1, 1) := by decide +kernel
theorem dX7_tries_17 : decode cX7_tries 17 = .ok (.invokevirtual 204, 3) := by decide +kernel
theorem dX7_tries_20 : decode cX7_tries 20 = .ok (.istore_n 2, 1) := by decide +kernel
theorem dX7_tries_21 : decode cX7_tries 21 = .ok (.iconst (-1), 1) := by decide +kernel
theorem dX7_tries_22 : decode cX7_tries 22 = .ok (.istore_n 3, 1) := by decide +kernel
theorem dX7_tries_23 : decode cX7_tries 23 = .ok (.iload_n 2, 1) := by decide +kernel
theorem dX7_tries_24 : decode cX7_tries 24 = .ok (.iconst 1, 1) := by decide +kernel
theorem dX7_tries_25 : decode cX7_tries 25 = .ok (.iadd, 1) := by decide +kernel
theorem dX7_tries_26 : decode cX7_tries 26 = .ok (.istore 4, 2) := by decide +kernel
theorem dX7_tries_28 : decode cX7_tries 28 = .ok (.iconst 0, 1) := by decide +kernel
theorem dX7_tries_29 : decode cX7_tries 29 = .ok (.istore 5, 2) := by decide +kernel
theorem dX7_tries_31 : decode cX7_tries 31 = .ok (.iload 5, 2) := by decide +kernel
theorem dX7_tries_33 : decode cX7_tries 33 = .ok (.iconst 4, 1) := by decide +kernel
theorem dX7_tries_34 : decode cX7_tries 34 = .ok (.if_icmp .ge 44, 3) := by decide +kernel
theorem dX7_tries_37 : decode cX7_tries 37 = .ok (.iload_n 2, 1) := by decide +kernel
theorem dX7_tries_38 : decode cX7_tries 38 = .ok (.ifCond .le 40, 3) := by decide +kernel
theorem dX7_tries_41 : decode cX7_tries 41 = .ok (.aload_n 0, 1) := by decide +kernel
theorem dX7_tries_42 : decode cX7_tries 42 = .ok (.aload_n 0, 1) := by decide +kernel
theorem dX7_tries_43 : decode cX7_tries 43 = .ok (.getfield 10, 3) := by decide +kernel
theorem dX7_tries_46 : decode cX7_tries 46 = .ok (.getfield 109, 3) := by decide +kernel
theorem dX7_tries_49 : decode cX7_tries 49 = .ok (.iload 5, 2) := by decide +kernel
theorem dX7_tries_51 : decode cX7_tries 51 = .ok (.laload, 1) := by decide +kernel
theorem dX7_tries_52 : decode cX7_tries 52 = .ok (.iload_n 2, 1) := by decide +kernel
theorem dX7_tries_53 : decode cX7_tries 53 = .ok (.invokevirtual 207, 3) := by decide +kernel
theorem dX7_tries_56 : decode cX7_tries 56 = .ok (.istore 6, 2) := by decide +kernel
theorem dX7_tries_58 : decode cX7_tries 58 = .ok (.iload 6, 2) := by decide +kernel
theorem dX7_tries_60 : decode cX7_tries 60 = .ok (.iload 4, 2) := by decide +kernel
theorem dX7_tries_62 : decode cX7_tries 62 = .ok (.if_icmp .ge 10, 3) := by decide +kernel
theorem dX7_tries_65 : decode cX7_tries 65 = .ok (.iload 5, 2) := by decide +kernel
theorem dX7_tries_67 : decode cX7_tries 67 = .ok (.istore_n 3, 1) := by decide +kernel
theorem dX7_tries_68 : decode cX7_tries 68 = .ok (.iload 6, 2) := by decide +kernel
theorem dX7_tries_70 : decode cX7_tries 70 = .ok (.istore 4, 2) := by decide +kernel
theorem dX7_tries_72 : decode cX7_tries 72 = .ok (.iinc 5 1, 3) := by decide +kernel
theorem dX7_tries_75 : decode cX7_tries 75 = .ok (.goto (-44), 3) := by decide +kernel
theorem dX7_tries_78 : decode cX7_tries 78 = .ok (.iload_n 3, 1) := by decide +kernel
theorem dX7_tries_79 : decode cX7_tries 79 = .ok (.ireturn, 1) := by decide +kernel
theorem dX7_renamed_0 : decode cX7_renamed 0 = .ok (.iload_n 1, 1) := by decide +kernel
theorem dX7_renamed_1 : decode cX7_renamed 1 = .ok (.invokestatic 106, 3) := by decide +kernel
theorem dX7_renamed_4 : decode cX7_renamed 4 = .ok (.ifCond .eq 11, 3) := by decide +kernel
theorem dX7_renamed_7 : decode cX7_renamed 7 = .ok (.aload_n 0, 1) := by decide +kernel
theorem dX7_renamed_8 : decode cX7_renamed 8 = .ok (.iload_n 2, 1) := by decide +kernel
theorem dX7_renamed_9 : decode cX7_renamed 9 = .ok (.invokevirtual 83, 3) := by decide +kernel
theorem dX7_renamed_12 : decode cX7_renamed 12 = .ok (.ifCond .ne 10, 3) := by decide +kernel
theorem dX7_renamed_15 : decode cX7_renamed 15 = .ok (.aload_n 0, 1) := by decide +kernel
theorem dX7_renamed_16 : decode cX7_renamed 16 = .ok (.bipush (-2), 2) := by decide +kernel
theorem dX7_renamed_18 : decode cX7_renamed 18 = .ok (.invokevirtual 60, 3) := by decide +kernel
theorem dX7_renamed_21 : decode cX7_renamed 21 = .ok (.ireturn, 1) := by decide +kernel
theorem dX7_renamed_22 : decode cX7_renamed 22 = .ok (.aload_n 0, 1) := by decide +kernel
theorem dX7_renamed_23 : decode cX7_renamed 23 = .ok (.getfield 10, 3) := by decide +kernel
theorem dX7_renamed_26 : decode cX7_renamed 26 = .ok (.getfield 109, 3) := by decide +kernel
theorem dX7_renamed_29 : decode cX7_renamed 29 = .ok (.iload_n 1, 1) := by decide +kernel
theorem dX7_renamed_30 : decode cX7_renamed 30 = .ok (.laload, 1) := by decide +kernel
theorem dX7_renamed_31 : decode cX7_renamed 31 = .ok (.lstore_n 3, 1) := by decide +kernel
theorem dX7_renamed_32 : decode cX7_renamed 32 = .ok (.lload_n 3, 1) := by decide +kernel
theorem dX7_renamed_33 : decode cX7_renamed 33 = .ok (.lstore 5, 2) := by decide +kernel
theorem dX7_renamed_35 : decode cX7_renamed 35 = .ok (.iconst 0, 1) := by decide +kernel
theorem dX7_renamed_36 : decode cX7_renamed 36 = .ok (.istore 7, 2) := by decide +kernel
theorem dX7_renamed_38 : decode cX7_renamed 38 = .ok (.iload 7, 2) := by decide +kernel
theorem dX7_renamed_40 : decode cX7_renamed 40 = .ok (.bipush 60, 2) := by decide +kernel
theorem dX7_renamed_42 : decode cX7_renamed 42 = .ok (.if_icmp .ge 63, 3) := by decide +kernel
theorem dX7_renamed_45 : decode cX7_renamed 45 = .ok (.aload_n 0, 1) := by decide +kernel
theorem dX7_renamed_46 : decode cX7_renamed 46 = .ok (.getfield 10, 3) := by decide +kernel
theorem dX7_renamed_49 : decode cX7_renamed 49 = .ok (.getfield 94, 3) := by decide +kernel
theorem dX7_renamed_52 : decode cX7_renamed 52 = .ok (.iload 7, 2) := by decide +kernel
theorem dX7_renamed_54 : decode cX7_renamed 54 = .ok (.iadd, 1) := by decide +kernel
theorem dX7_renamed_55 : decode cX7_renamed 55 = .ok (.bipush 12, 2) := by decide +kernel
theorem dX7_renamed_57 : decode cX7_renamed 57 = .ok (.irem, 1) := by decide +kernel
theorem dX7_renamed_58 : decode cX7_renamed 58 = .ok (.istore 8, 2) := by decide +kernel
theorem dX7_renamed_60 : decode cX7_renamed 60 = .ok (.lload 5, 2) := by decide +kernel
theorem dX7_renamed_62 : decode cX7_renamed 62 = .ok (.aload_n 0, 1) := by decide +kernel
theorem dX7_renamed_63 : decode cX7_renamed 63 = .ok (.getfield 10, 3) := by decide +kernel
theorem dX7_renamed_66 : decode cX7_renamed 66 = .ok (.getfield 144, 3) := by decide +kernel
theorem dX7_renamed_69 : decode cX7_renamed 69 = .ok (.iload_n 2, 1) := by decide +kernel
theorem dX7_renamed_70 : decode cX7_renamed 70 = .ok (.iaload, 1) := by decide +kernel
theorem dX7_renamed_71 : decode cX7_renamed 71 = .ok (.aload_n 0, 1) := by decide +kernel
theorem dX7_renamed_72 : decode cX7_renamed 72 = .ok (.getfield 10, 3) := by decide +kernel
theorem dX7_renamed_75 : decode cX7_renamed 75 = .ok (.getfield 147, 3) := by decide +kernel
theorem dX7_renamed_78 : decode cX7_renamed 78 = .ok (.iload_n 2, 1) := by decide +kernel
theorem dX7_renamed_79 : decode cX7_renamed 79 = .ok (.iaload, 1) := by decide +kernel
theorem dX7_renamed_80 : decode cX7_renamed 80 = .ok (.iload 8, 2) := by decide +kernel
theorem dX7_renamed_82 : decode cX7_renamed 82 = .ok (.invokestatic 210, 3) := by decide +kernel
theorem dX7_renamed_85 : decode cX7_renamed 85 = .ok (.lstore 5, 2) := by decide +kernel
theorem dX7_renamed_87 : decode cX7_renamed 87 = .ok (.lload 5, 2) := by decide +kernel
theorem dX7_renamed_89 : decode cX7_renamed 89 = .ok (.lload_n 3, 1) := by decide +kernel
theorem dX7_renamed_90 : decode cX7_renamed 90 = .ok (.lcmp, 1) := by decide +kernel
theorem dX7_renamed_91 : decode cX7_renamed 91 = .ok (.ifCond .ne 8, 3) := by decide +kernel
theorem dX7_renamed_94 : decode cX7_renamed 94 = .ok (.iload 7, 2) := by decide +kernel
theorem dX7_renamed_96 : decode cX7_renamed 96 = .ok (.iconst 1, 1) := by decide +kernel
theorem dX7_renamed_97 : decode cX7_renamed 97 = .ok (.iadd, 1) := by decide +kernel
theorem dX7_renamed_98 : decode cX7_renamed 98 = .ok (.ireturn, 1) := by decide +kernel
theorem dX7_renamed_99 : decode cX7_renamed 99 = .ok (.iinc 7 1, 3) := by decide +kernel
theorem dX7_renamed_102 : decode cX7_renamed 102 = .ok (.goto (-64), 3) := by decide +kernel
theorem dX7_renamed_105 : decode cX7_renamed 105 = .ok (.iconst (-1), 1) := by decide +kernel
theorem dX7_renamed_106 : decode cX7_renamed 106 = .ok (.ireturn, 1) := by decide +kernel
theorem dX7_stammer_0 : decode cX7_stammer 0 = .ok (.iload_n 1, 1) := by decide +kernel
theorem dX7_stammer_1 : decode cX7_stammer 1 = .ok (.invokestatic 106, 3) := by decide +kernel
theorem dX7_stammer_4 : decode cX7_stammer 4 = .ok (.ifCond .eq 33, 3) := by decide +kernel
theorem dX7_stammer_7 : decode cX7_stammer 7 = .ok (.aload_n 0, 1) := by decide +kernel
theorem dX7_stammer_8 : decode cX7_stammer 8 = .ok (.iload_n 2, 1) := by decide +kernel
theorem dX7_stammer_9 : decode cX7_stammer 9 = .ok (.invokevirtual 83, 3) := by decide +kernel
theorem dX7_stammer_12 : decode cX7_stammer 12 = .ok (.ifCond .eq 25, 3) := by decide +kernel
theorem dX7_stammer_15 : decode cX7_stammer 15 = .ok (.iload_n 3, 1) := by decide +kernel
theorem dX7_stammer_16 : decode cX7_stammer 16 = .ok (.ifCond .lt 21, 3) := by decide +kernel
theorem dX7_stammer_19 : decode cX7_stammer 19 = .ok (.iload_n 3, 1) := by decide +kernel
theorem dX7_stammer_20 : decode cX7_stammer 20 = .ok (.bipush 10, 2) := by decide +kernel
theorem dX7_stammer_22 : decode cX7_stammer 22 = .ok (.if_icmp .gt 15, 3) := by decide +kernel
theorem dX7_stammer_25 : decode cX7_stammer 25 = .ok (.iload 4, 2) := by decide +kernel
theorem dX7_stammer_27 : decode cX7_stammer 27 = .ok (.ifCond .lt 10, 3) := by decide +kernel
theorem dX7_stammer_30 : decode cX7_stammer 30 = .ok (.iload 4, 2) := by decide +kernel
theorem dX7_stammer_32 : decode cX7_stammer 32 = .ok (.bipush 24, 2) := by decide +kernel
theorem dX7_stammer_34 : decode cX7_stammer 34 = .ok (.if_icmp .le 10, 3) := by decide +kernel
theorem dX7_stammer_37 : decode cX7_stammer 37 = .ok (.aload_n 0, 1) := by decide +kernel
theorem dX7_stammer_38 : decode cX7_stammer 38 = .ok (.bipush (-2), 2) := by decide +kernel
theorem dX7_stammer_40 : decode cX7_stammer 40 = .ok (.invokevirtual 60, 3) := by decide +kernel
theorem dX7_stammer_43 : decode cX7_stammer 43 = .ok (.ireturn, 1) := by decide +kernel
theorem dX7_stammer_44 : decode cX7_stammer 44 = .ok (.aload_n 0, 1) := by decide +kernel
theorem dX7_stammer_45 : decode cX7_stammer 45 = .ok (.getfield 10, 3) := by decide +kernel
theorem dX7_stammer_48 : decode cX7_stammer 48 = .ok (.iload_n 2, 1) := by decide +kernel
theorem dX7_stammer_49 : decode cX7_stammer 49 = .ok (.aload_n 0, 1) := by decide +kernel
theorem dX7_stammer_50 : decode cX7_stammer 50 = .ok (.getfield 10, 3) := by decide +kernel
theorem dX7_stammer_53 : decode cX7_stammer 53 = .ok (.getfield 109, 3) := by decide +kernel
theorem dX7_stammer_56 : decode cX7_stammer 56 = .ok (.iload_n 1, 1) := by decide +kernel
theorem dX7_stammer_57 : decode cX7_stammer 57 = .ok (.laload, 1) := by decide +kernel
theorem dX7_stammer_58 : decode cX7_stammer 58 = .ok (.invokevirtual 154, 3) := by decide +kernel
theorem dX7_stammer_61 : decode cX7_stammer 61 = .ok (.invokestatic 112, 3) := by decide +kernel
theorem dX7_stammer_64 : decode cX7_stammer 64 = .ok (.istore 5, 2) := by decide +kernel
theorem dX7_stammer_66 : decode cX7_stammer 66 = .ok (.aload_n 0, 1) := by decide +kernel
theorem dX7_stammer_67 : decode cX7_stammer 67 = .ok (.getfield 44, 3) := by decide +kernel
theorem dX7_stammer_70 : decode cX7_stammer 70 = .ok (.iload 5, 2) := by decide +kernel
theorem dX7_stammer_72 : decode cX7_stammer 72 = .ok (.iload 4, 2) := by decide +kernel
theorem dX7_stammer_74 : decode cX7_stammer 74 = .ok (.iload 5, 2) := by decide +kernel
theorem dX7_stammer_76 : decode cX7_stammer 76 = .ok (.isub, 1) := by decide +kernel
theorem dX7_stammer_77 : decode cX7_stammer 77 = .ok (.iload_n 3, 1) := by decide +kernel
theorem dX7_stammer_78 : decode cX7_stammer 78 = .ok (.bipush 10, 2) := by decide +kernel
theorem dX7_stammer_80 : decode cX7_stammer 80 = .ok (.invokevirtual 216, 3) := by decide +kernel
theorem dX7_stammer_83 : decode cX7_stammer 83 = .ok (.iconst 1, 1) := by decide +kernel
theorem dX7_stammer_84 : decode cX7_stammer 84 = .ok (.ireturn, 1) := by decide +kernel
theorem dX7_boats_0 : decode cX7_boats 0 = .ok (.iload_n 1, 1) := by decide +kernel
theorem dX7_boats_1 : decode cX7_boats 1 = .ok (.invokestatic 106, 3) := by decide +kernel
theorem dX7_boats_4 : decode cX7_boats 4 = .ok (.ifCond .eq 11, 3) := by decide +kernel
theorem dX7_boats_7 : decode cX7_boats 7 = .ok (.iload_n 2, 1) := by decide +kernel
theorem dX7_boats_8 : decode cX7_boats 8 = .ok (.iload_n 3, 1) := by decide +kernel
theorem dX7_boats_9 : decode cX7_boats 9 = .ok (.invokestatic 220, 3) := by decide +kernel
theorem dX7_boats_12 : decode cX7_boats 12 = .ok (.ifCond .ne 10, 3) := by decide +kernel
theorem dX7_boats_15 : decode cX7_boats 15 = .ok (.aload_n 0, 1) := by decide +kernel
theorem dX7_boats_16 : decode cX7_boats 16 = .ok (.bipush (-2), 2) := by decide +kernel
theorem dX7_boats_18 : decode cX7_boats 18 = .ok (.invokevirtual 60, 3) := by decide +kernel
theorem dX7_boats_21 : decode cX7_boats 21 = .ok (.ireturn, 1) := by decide +kernel
theorem dX7_boats_22 : decode cX7_boats 22 = .ok (.aload_n 0, 1) := by decide +kernel
theorem dX7_boats_23 : decode cX7_boats 23 = .ok (.getfield 10, 3) := by decide +kernel
theorem dX7_boats_26 : decode cX7_boats 26 = .ok (.aload_n 0, 1) := by decide +kernel
theorem dX7_boats_27 : decode cX7_boats 27 = .ok (.getfield 10, 3) := by decide +kernel
theorem dX7_boats_30 : decode cX7_boats 30 = .ok (.getfield 109, 3) := by decide +kernel
theorem dX7_boats_33 : decode cX7_boats 33 = .ok (.iload_n 1, 1) := by decide +kernel
theorem dX7_boats_34 : decode cX7_boats 34 = .ok (.laload, 1) := by decide +kernel
theorem dX7_boats_35 : decode cX7_boats 35 = .ok (.iconst 0, 1) := by decide +kernel
theorem dX7_boats_36 : decode cX7_boats 36 = .ok (.iconst 0, 1) := by decide +kernel
theorem dX7_boats_37 : decode cX7_boats 37 = .ok (.invokevirtual 223, 3) := by decide +kernel
theorem dX7_boats_40 : decode cX7_boats 40 = .ok (.iload_n 2, 1) := by decide +kernel
theorem dX7_boats_41 : decode cX7_boats 41 = .ok (.iload_n 3, 1) := by decide +kernel
theorem dX7_boats_42 : decode cX7_boats 42 = .ok (.invokestatic 227, 3) := by decide +kernel
theorem dX7_boats_45 : decode cX7_boats 45 = .ok (.ireturn, 1) := by decide +kernel
theorem dX7_flood_0 : decode cX7_flood 0 = .ok (.iload_n 1, 1) := by decide +kernel
theorem dX7_flood_1 : decode cX7_flood 1 = .ok (.invokestatic 106, 3) := by decide +kernel
theorem dX7_flood_4 : decode cX7_flood 4 = .ok (.ifCond .eq 29, 3) := by decide +kernel
theorem dX7_flood_7 : decode cX7_flood 7 = .ok (.iload_n 2, 1) := by decide +kernel
theorem dX7_flood_8 : decode cX7_flood 8 = .ok (.iload_n 3, 1) := by decide +kernel
theorem dX7_flood_9 : decode cX7_flood 9 = .ok (.invokestatic 220, 3) := by decide +kernel
theorem dX7_flood_12 : decode cX7_flood 12 = .ok (.ifCond .eq 21, 3) := by decide +kernel
theorem dX7_flood_15 : decode cX7_flood 15 = .ok (.aload_n 0, 1) := by decide +kernel
theorem dX7_flood_16 : decode cX7_flood 16 = .ok (.iload 4, 2) := by decide +kernel
theorem dX7_flood_18 : decode cX7_flood 18 = .ok (.invokevirtual 83, 3) := by decide +kernel
theorem dX7_flood_21 : decode cX7_flood 21 = .ok (.ifCond .eq 12, 3) := by decide +kernel
theorem dX7_flood_24 : decode cX7_flood 24 = .ok (.aload_n 0, 1) := by decide +kernel
theorem dX7_flood_25 : decode cX7_flood 25 = .ok (.iload 5, 2) := by decide +kernel
theorem dX7_flood_27 : decode cX7_flood 27 = .ok (.invokevirtual 83, 3) := by decide +kernel
theorem dX7_flood_30 : decode cX7_flood 30 = .ok (.ifCond .ne 10, 3) := by decide +kernel
theorem dX7_flood_33 : decode cX7_flood 33 = .ok (.aload_n 0, 1) := by decide +kernel
theorem dX7_flood_34 : decode cX7_flood 34 = .ok (.bipush (-100), 2) := by decide +kernel
theorem dX7_flood_36 : decode cX7_flood 36 = .ok (.invokevirtual 60, 3) := by decide +kernel
theorem dX7_flood_39 : decode cX7_flood 39 = .ok (.ireturn, 1) := by decide +kernel
theorem dX7_flood_40 : decode cX7_flood 40 = .ok (.aload_n 0, 1) := by decide +kernel
theorem dX7_flood_41 : decode cX7_flood 41 = .ok (.getfield 10, 3) := by decide +kernel
theorem dX7_flood_44 : decode cX7_flood 44 = .ok (.aload_n 0, 1) := by decide +kernel
theorem dX7_flood_45 : decode cX7_flood 45 = .ok (.getfield 10, 3) := by decide +kernel
theorem dX7_flood_48 : decode cX7_flood 48 = .ok (.getfield 109, 3) := by decide +kernel
theorem dX7_flood_51 : decode cX7_flood 51 = .ok (.iload_n 1, 1) := by decide +kernel
theorem dX7_flood_52 : decode cX7_flood 52 = .ok (.laload, 1) := by decide +kernel
theorem dX7_flood_53 : decode cX7_flood 53 = .ok (.iconst 0, 1) := by decide +kernel
theorem dX7_flood_54 : decode cX7_flood 54 = .ok (.iconst 0, 1) := by decide +kernel
theorem dX7_flood_55 : decode cX7_flood 55 = .ok (.invokevirtual 223, 3) := by decide +kernel
theorem dX7_flood_58 : decode cX7_flood 58 = .ok (.iload_n 2, 1) := by decide +kernel
theorem dX7_flood_59 : decode cX7_flood 59 = .ok (.iload_n 3, 1) := by decide +kernel
theorem dX7_flood_60 : decode cX7_flood 60 = .ok (.invokestatic 227, 3) := by decide +kernel
theorem dX7_flood_63 : decode cX7_flood 63 = .ok (.istore 6, 2) := by decide +kernel
theorem dX7_flood_65 : decode cX7_flood 65 = .ok (.aload_n 0, 1) := by decide +kernel
theorem dX7_flood_66 : decode cX7_flood 66 = .ok (.getfield 10, 3) := by decide +kernel
theorem dX7_flood_69 : decode cX7_flood 69 = .ok (.aload_n 0, 1) := by decide +kernel
theorem dX7_flood_70 : decode cX7_flood 70 = .ok (.getfield 10, 3) := by decide +kernel
theorem dX7_flood_73 : decode cX7_flood 73 = .ok (.getfield 109, 3) := by decide +kernel
theorem dX7_flood_76 : decode cX7_flood 76 = .ok (.iload_n 1, 1) := by decide +kernel
theorem dX7_flood_77 : decode cX7_flood 77 = .ok (.laload, 1) := by decide +kernel
theorem dX7_flood_78 : decode cX7_flood 78 = .ok (.iload 4, 2) := by decide +kernel
theorem dX7_flood_80 : decode cX7_flood 80 = .ok (.iload 5, 2) := by decide +kernel
theorem dX7_flood_82 : decode cX7_flood 82 = .ok (.invokevirtual 223, 3) := by decide +kernel
theorem dX7_flood_85 : decode cX7_flood 85 = .ok (.iload_n 2, 1) := by decide +kernel
theorem dX7_flood_86 : decode cX7_flood 86 = .ok (.iload_n 3, 1) := by decide +kernel
theorem dX7_flood_87 : decode cX7_flood 87 = .ok (.invokestatic 227, 3) := by decide +kernel
theorem dX7_flood_90 : decode cX7_flood 90 = .ok (.istore 7, 2) := by decide +kernel
theorem dX7_flood_92 : decode cX7_flood 92 = .ok (.iload 7, 2) := by decide +kernel
theorem dX7_flood_94 : decode cX7_flood 94 = .ok (.iload 6, 2) := by decide +kernel
theorem dX7_flood_96 : decode cX7_flood 96 = .ok (.isub, 1) := by decide +kernel
theorem dX7_flood_97 : decode cX7_flood 97 = .ok (.ireturn, 1) := by decide +kernel
theorem dX7_part_0 : decode cX7_part 0 = .ok (.iload_n 1, 1) := by decide +kernel
theorem dX7_part_1 : decode cX7_part 1 = .ok (.lookupswitch 43 #[(0, 27), (1, 35)], 27) := by decide +kernel
theorem dX7_part_28 : decode cX7_part 28 = .ok (.aload_n 0, 1) := by decide +kernel
theorem dX7_part_29 : decode cX7_part 29 = .ok (.getfield 44, 3) := by decide +kernel
theorem dX7_part_32 : decode cX7_part 32 = .ok (.getfield 230, 3) := by decide +kernel
theorem dX7_part_35 : decode cX7_part 35 = .ok (.lreturn, 1) := by decide +kernel
theorem dX7_part_36 : decode cX7_part 36 = .ok (.aload_n 0, 1) := by decide +kernel
theorem dX7_part_37 : decode cX7_part 37 = .ok (.getfield 44, 3) := by decide +kernel
theorem dX7_part_40 : decode cX7_part 40 = .ok (.getfield 234, 3) := by decide +kernel
theorem dX7_part_43 : decode cX7_part 43 = .ok (.lreturn, 1) := by decide +kernel
theorem dX7_part_44 : decode cX7_part 44 = .ok (.aload_n 0, 1) := by decide +kernel
theorem dX7_part_45 : decode cX7_part 45 = .ok (.bipush (-2), 2) := by decide +kernel
theorem dX7_part_47 : decode cX7_part 47 = .ok (.invokevirtual 60, 3) := by decide +kernel
theorem dX7_part_50 : decode cX7_part 50 = .ok (.i2l, 1) := by decide +kernel
theorem dX7_part_51 : decode cX7_part 51 = .ok (.lreturn, 1) := by decide +kernel
theorem dX7_image_0 : decode cX7_image 0 = .ok (.iload_n 1, 1) := by decide +kernel
theorem dX7_image_1 : decode cX7_image 1 = .ok (.iconst 2, 1) := by decide +kernel
theorem dX7_image_2 : decode cX7_image 2 = .ok (.invokestatic 56, 3) := by decide +kernel
theorem dX7_image_5 : decode cX7_image 5 = .ok (.ifCond .ne 10, 3) := by decide +kernel
theorem dX7_image_8 : decode cX7_image 8 = .ok (.aload_n 0, 1) := by decide +kernel
theorem dX7_image_9 : decode cX7_image 9 = .ok (.bipush (-2), 2) := by decide +kernel
theorem dX7_image_11 : decode cX7_image 11 = .ok (.invokevirtual 60, 3) := by decide +kernel
theorem dX7_image_14 : decode cX7_image 14 = .ok (.ireturn, 1) := by decide +kernel
theorem dX7_image_15 : decode cX7_image 15 = .ok (.aload_n 0, 1) := by decide +kernel
theorem dX7_image_16 : decode cX7_image 16 = .ok (.getfield 19, 3) := by decide +kernel
theorem dX7_image_19 : decode cX7_image 19 = .ok (.iload_n 1, 1) := by decide +kernel
theorem dX7_image_20 : decode cX7_image 20 = .ok (.aaload, 1) := by decide +kernel
theorem dX7_image_21 : decode cX7_image 21 = .ok (.aload_n 0, 1) := by decide +kernel
theorem dX7_image_22 : decode cX7_image 22 = .ok (.getfield 10, 3) := by decide +kernel
theorem dX7_image_25 : decode cX7_image 25 = .ok (.invokevirtual 134, 3) := by decide +kernel
theorem dX7_image_28 : decode cX7_image 28 = .ok (.aload_n 0, 1) := by decide +kernel
theorem dX7_image_29 : decode cX7_image 29 = .ok (.getfield 23, 3) := by decide +kernel
theorem dX7_image_32 : decode cX7_image 32 = .ok (.iload_n 1, 1) := by decide +kernel
theorem dX7_image_33 : decode cX7_image 33 = .ok (.iconst 1, 1) := by decide +kernel
theorem dX7_image_34 : decode cX7_image 34 = .ok (.bastore, 1) := by decide +kernel
theorem dX7_image_35 : decode cX7_image 35 = .ok (.iconst 1, 1) := by decide +kernel
theorem dX7_image_36 : decode cX7_image 36 = .ok (.ireturn, 1) := by decide +kernel
theorem dX7_from_0 : decode cX7_from 0 = .ok (.iload_n 1, 1) := by decide +kernel
theorem dX7_from_1 : decode cX7_from 1 = .ok (.iconst 2, 1) := by decide +kernel
theorem dX7_from_2 : decode cX7_from 2 = .ok (.invokestatic 56, 3) := by decide +kernel
theorem dX7_from_5 : decode cX7_from 5 = .ok (.ifCond .ne 10, 3) := by decide +kernel
theorem dX7_from_8 : decode cX7_from 8 = .ok (.aload_n 0, 1) := by decide +kernel
theorem dX7_from_9 : decode cX7_from 9 = .ok (.bipush (-2), 2) := by decide +kernel
theorem dX7_from_11 : decode cX7_from 11 = .ok (.invokevirtual 60, 3) := by decide +kernel
theorem dX7_from_14 : decode cX7_from 14 = .ok (.ireturn, 1) := by decide +kernel
theorem dX7_from_15 : decode cX7_from 15 = .ok (.aload_n 0, 1) := by decide +kernel
theorem dX7_from_16 : decode cX7_from 16 = .ok (.getfield 23, 3) := by decide +kernel
theorem dX7_from_19 : decode cX7_from 19 = .ok (.iload_n 1, 1) := by decide +kernel
theorem dX7_from_20 : decode cX7_from 20 = .ok (.baload, 1) := by decide +kernel
theorem dX7_from_21 : decode cX7_from 21 = .ok (.ifCond .ne 8, 3) := by decide +kernel
theorem dX7_from_24 : decode cX7_from 24 = .ok (.aload_n 0, 1) := by decide +kernel
theorem dX7_from_25 : decode cX7_from 25 = .ok (.invokevirtual 100, 3) := by decide +kernel
theorem dX7_from_28 : decode cX7_from 28 = .ok (.ireturn, 1) := by decide +kernel
theorem dX7_from_29 : decode cX7_from 29 = .ok (.aload_n 0, 1) := by decide +kernel
theorem dX7_from_30 : decode cX7_from 30 = .ok (.getfield 10, 3) := by decide +kernel
theorem dX7_from_33 : decode cX7_from 33 = .ok (.aload_n 0, 1) := by decide +kernel
theorem dX7_from_34 : decode cX7_from 34 = .ok (.getfield 19, 3) := by decide +kernel
theorem dX7_from_37 : decode cX7_from 37 = .ok (.iload_n 1, 1) := by decide +kernel
theorem dX7_from_38 : decode cX7_from 38 = .ok (.aaload, 1) := by decide +kernel
theorem dX7_from_39 : decode cX7_from 39 = .ok (.invokevirtual 134, 3) := by decide +kernel
theorem dX7_from_42 : decode cX7_from 42 = .ok (.iconst 1, 1) := by decide +kernel
theorem dX7_from_43 : decode cX7_from 43 = .ok (.ireturn, 1) := by decide +kernel
theorem dX7_status_0 : decode cX7_status 0 = .ok (.iload_n 1, 1) := by decide +kernel
theorem dX7_status_1 : decode cX7_status 1 = .ok (.tableswitch 42 0 2 #[27, 32, 37], 27) := by decide +kernel
theorem dX7_status_28 : decode cX7_status 28 = .ok (.aload_n 0, 1) := by decide +kernel
theorem dX7_status_29 : decode cX7_status 29 = .ok (.getfield 237, 3) := by decide +kernel
theorem dX7_status_32 : decode cX7_status 32 = .ok (.ireturn, 1) := by decide +kernel
theorem dX7_status_33 : decode cX7_status 33 = .ok (.aload_n 0, 1) := by decide +kernel
theorem dX7_status_34 : decode cX7_status 34 = .ok (.getfield 240, 3) := by decide +kernel
theorem dX7_status_37 : decode cX7_status 37 = .ok (.ireturn, 1) := by decide +kernel
theorem dX7_status_38 : decode cX7_status 38 = .ok (.aload_n 0, 1) := by decide +kernel
theorem dX7_status_39 : decode cX7_status 39 = .ok (.getfield 243, 3) := by decide +kernel
theorem dX7_status_42 : decode cX7_status 42 = .ok (.ireturn, 1) := by decide +kernel
theorem dX7_status_43 : decode cX7_status 43 = .ok (.aload_n 0, 1) := by decide +kernel
theorem dX7_status_44 : decode cX7_status 44 = .ok (.iconst (-1), 1) := by decide +kernel
theorem dX7_status_45 : decode cX7_status 45 = .ok (.invokevirtual 60, 3) := by decide +kernel
theorem dX7_status_48 : decode cX7_status 48 = .ok (.ireturn, 1) := by decide +kernel
theorem dX7_count_0 : decode cX7_count 0 = .ok (.iload_n 1, 1) := by decide +kernel
theorem dX7_count_1 : decode cX7_count 1 = .ok (.tableswitch 78 0 4 #[35, 43, 51, 62, 70], 35) := by decide +kernel
theorem dX7_count_36 : decode cX7_count 36 = .ok (.aload_n 0, 1) := by decide +kernel
theorem dX7_count_37 : decode cX7_count 37 = .ok (.getfield 10, 3) := by decide +kernel
theorem dX7_count_40 : decode cX7_count 40 = .ok (.getfield 64, 3) := by decide +kernel
theorem dX7_count_43 : decode cX7_count 43 = .ok (.ireturn, 1) := by decide +kernel
theorem dX7_count_44 : decode cX7_count 44 = .ok (.aload_n 0, 1) := by decide +kernel
theorem dX7_count_45 : decode cX7_count 45 = .ok (.getfield 10, 3) := by decide +kernel
theorem dX7_count_48 : decode cX7_count 48 = .ok (.getfield 94, 3) := by decide +kernel
theorem dX7_count_51 : decode cX7_count 51 = .ok (.ireturn, 1) := by decide +kernel
theorem dX7_count_52 : decode cX7_count 52 = .ok (.aload_n 0, 1) := by decide +kernel
theorem dX7_count_53 : decode cX7_count 53 = .ok (.getfield 10, 3) := by decide +kernel
theorem dX7_count_56 : decode cX7_count 56 = .ok (.getfield 192, 3) := by decide +kernel
theorem dX7_count_59 : decode cX7_count 59 = .ok (.getfield 196, 3) := by decide +kernel
theorem dX7_count_62 : decode cX7_count 62 = .ok (.ireturn, 1) := by decide +kernel
theorem dX7_count_63 : decode cX7_count 63 = .ok (.aload_n 0, 1) := by decide +kernel
theorem dX7_count_64 : decode cX7_count 64 = .ok (.getfield 10, 3) := by decide +kernel
theorem dX7_count_67 : decode cX7_count 67 = .ok (.getfield 97, 3) := by decide +kernel
theorem dX7_count_70 : decode cX7_count 70 = .ok (.ireturn, 1) := by decide +kernel
theorem dX7_count_71 : decode cX7_count 71 = .ok (.aload_n 0, 1) := by decide +kernel
theorem dX7_count_72 : decode cX7_count 72 = .ok (.getfield 30, 3) := by decide +kernel
theorem dX7_count_75 : decode cX7_count 75 = .ok (.getfield 122, 3) := by decide +kernel
theorem dX7_count_78 : decode cX7_count 78 = .ok (.ireturn, 1) := by decide +kernel
theorem dX7_count_79 : decode cX7_count 79 = .ok (.aload_n 0, 1) := by decide +kernel
theorem dX7_count_80 : decode cX7_count 80 = .ok (.bipush (-2), 2) := by decide +kernel
theorem dX7_count_82 : decode cX7_count 82 = .ok (.invokevirtual 60, 3) := by decide +kernel
theorem dX7_count_85 : decode cX7_count 85 = .ok (.ireturn, 1) := by decide +kernel
theorem dX7_digest_0 : decode cX7_digest 0 = .ok (.ldc2_w 246, 3) := by decide +kernel
theorem dX7_digest_3 : decode cX7_digest 3 = .ok (.lstore_n 1, 1) := by decide +kernel
theorem dX7_digest_4 : decode cX7_digest 4 = .ok (.iconst 0, 1) := by decide +kernel
theorem dX7_digest_5 : decode cX7_digest 5 = .ok (.istore_n 3, 1) := by decide +kernel
theorem dX7_digest_6 : decode cX7_digest 6 = .ok (.iload_n 3, 1) := by decide +kernel
theorem dX7_digest_7 : decode cX7_digest 7 = .ok (.iconst 5, 1) := by decide +kernel
theorem dX7_digest_8 : decode cX7_digest 8 = .ok (.if_icmp .ge 20, 3) := by decide +kernel
theorem dX7_digest_11 : decode cX7_digest 11 = .ok (.lload_n 1, 1) := by decide +kernel
theorem dX7_digest_12 : decode cX7_digest 12 = .ok (.aload_n 0, 1) := by decide +kernel
theorem dX7_digest_13 : decode cX7_digest 13 = .ok (.iload_n 3, 1) := by decide +kernel
theorem dX7_digest_14 : decode cX7_digest 14 = .ok (.invokevirtual 248, 3) := by decide +kernel
theorem dX7_digest_17 : decode cX7_digest 17 = .ok (.i2l, 1) := by decide +kernel
theorem dX7_digest_18 : decode cX7_digest 18 = .ok (.invokestatic 251, 3) := by decide +kernel
theorem dX7_digest_21 : decode cX7_digest 21 = .ok (.lstore_n 1, 1) := by decide +kernel
theorem dX7_digest_22 : decode cX7_digest 22 = .ok (.iinc 3 1, 3) := by decide +kernel
theorem dX7_digest_25 : decode cX7_digest 25 = .ok (.goto (-19), 3) := by decide +kernel
theorem dX7_digest_28 : decode cX7_digest 28 = .ok (.iconst 0, 1) := by decide +kernel
theorem dX7_digest_29 : decode cX7_digest 29 = .ok (.istore_n 3, 1) := by decide +kernel
theorem dX7_digest_30 : decode cX7_digest 30 = .ok (.iload_n 3, 1) := by decide +kernel
theorem dX7_digest_31 : decode cX7_digest 31 = .ok (.aload_n 0, 1) := by decide +kernel
theorem dX7_digest_32 : decode cX7_digest 32 = .ok (.getfield 10, 3) := by decide +kernel
theorem dX7_digest_35 : decode cX7_digest 35 = .ok (.getfield 64, 3) := by decide +kernel
theorem dX7_digest_38 : decode cX7_digest 38 = .ok (.if_icmp .ge 69, 3) := by decide +kernel
theorem dX7_digest_41 : decode cX7_digest 41 = .ok (.lload_n 1, 1) := by decide +kernel
theorem dX7_digest_42 : decode cX7_digest 42 = .ok (.aload_n 0, 1) := by decide +kernel
theorem dX7_digest_43 : decode cX7_digest 43 = .ok (.getfield 10, 3) := by decide +kernel
theorem dX7_digest_46 : decode cX7_digest 46 = .ok (.getfield 138, 3) := by decide +kernel
theorem dX7_digest_49 : decode cX7_digest 49 = .ok (.iload_n 3, 1) := by decide +kernel
theorem dX7_digest_50 : decode cX7_digest 50 = .ok (.iaload, 1) := by decide +kernel
theorem dX7_digest_51 : decode cX7_digest 51 = .ok (.i2l, 1) := by decide +kernel
theorem dX7_digest_52 : decode cX7_digest 52 = .ok (.invokestatic 251, 3) := by decide +kernel
theorem dX7_digest_55 : decode cX7_digest 55 = .ok (.lstore_n 1, 1) := by decide +kernel
theorem dX7_digest_56 : decode cX7_digest 56 = .ok (.lload_n 1, 1) := by decide +kernel
theorem dX7_digest_57 : decode cX7_digest 57 = .ok (.aload_n 0, 1) := by decide +kernel
theorem dX7_digest_58 : decode cX7_digest 58 = .ok (.getfield 10, 3) := by decide +kernel
theorem dX7_digest_61 : decode cX7_digest 61 = .ok (.getfield 141, 3) := by decide +kernel
theorem dX7_digest_64 : decode cX7_digest 64 = .ok (.iload_n 3, 1) := by decide +kernel
theorem dX7_digest_65 : decode cX7_digest 65 = .ok (.iaload, 1) := by decide +kernel
theorem dX7_digest_66 : decode cX7_digest 66 = .ok (.i2l, 1) := by decide +kernel
theorem dX7_digest_67 : decode cX7_digest 67 = .ok (.invokestatic 251, 3) := by decide +kernel
theorem dX7_digest_70 : decode cX7_digest 70 = .ok (.lstore_n 1, 1) := by decide +kernel
theorem dX7_digest_71 : decode cX7_digest 71 = .ok (.lload_n 1, 1) := by decide +kernel
theorem dX7_digest_72 : decode cX7_digest 72 = .ok (.aload_n 0, 1) := by decide +kernel
theorem dX7_digest_73 : decode cX7_digest 73 = .ok (.getfield 10, 3) := by decide +kernel
theorem dX7_digest_76 : decode cX7_digest 76 = .ok (.getfield 144, 3) := by decide +kernel
theorem dX7_digest_79 : decode cX7_digest 79 = .ok (.iload_n 3, 1) := by decide +kernel
theorem dX7_digest_80 : decode cX7_digest 80 = .ok (.iaload, 1) := by decide +kernel
theorem dX7_digest_81 : decode cX7_digest 81 = .ok (.i2l, 1) := by decide +kernel
theorem dX7_digest_82 : decode cX7_digest 82 = .ok (.invokestatic 251, 3) := by decide +kernel
theorem dX7_digest_85 : decode cX7_digest 85 = .ok (.lstore_n 1, 1) := by decide +kernel
theorem dX7_digest_86 : decode cX7_digest 86 = .ok (.lload_n 1, 1) := by decide +kernel
theorem dX7_digest_87 : decode cX7_digest 87 = .ok (.aload_n 0, 1) := by decide +kernel
theorem dX7_digest_88 : decode cX7_digest 88 = .ok (.getfield 10, 3) := by decide +kernel
theorem dX7_digest_91 : decode cX7_digest 91 = .ok (.getfield 147, 3) := by decide +kernel
theorem dX7_digest_94 : decode cX7_digest 94 = .ok (.iload_n 3, 1) := by decide +kernel
theorem dX7_digest_95 : decode cX7_digest 95 = .ok (.iaload, 1) := by decide +kernel
theorem dX7_digest_96 : decode cX7_digest 96 = .ok (.i2l, 1) := by decide +kernel
theorem dX7_digest_97 : decode cX7_digest 97 = .ok (.invokestatic 251, 3) := by decide +kernel
theorem dX7_digest_100 : decode cX7_digest 100 = .ok (.lstore_n 1, 1) := by decide +kernel
theorem dX7_digest_101 : decode cX7_digest 101 = .ok (.iinc 3 1, 3) := by decide +kernel
theorem dX7_digest_104 : decode cX7_digest 104 = .ok (.goto (-74), 3) := by decide +kernel
theorem dX7_digest_107 : decode cX7_digest 107 = .ok (.iconst 0, 1) := by decide +kernel
theorem dX7_digest_108 : decode cX7_digest 108 = .ok (.istore_n 3, 1) := by decide +kernel
theorem dX7_digest_109 : decode cX7_digest 109 = .ok (.iload_n 3, 1) := by decide +kernel
theorem dX7_digest_110 : decode cX7_digest 110 = .ok (.iconst 4, 1) := by decide +kernel
theorem dX7_digest_111 : decode cX7_digest 111 = .ok (.if_icmp .ge 23, 3) := by decide +kernel
theorem dX7_digest_114 : decode cX7_digest 114 = .ok (.lload_n 1, 1) := by decide +kernel
theorem dX7_digest_115 : decode cX7_digest 115 = .ok (.aload_n 0, 1) := by decide +kernel
theorem dX7_digest_116 : decode cX7_digest 116 = .ok (.getfield 10, 3) := by decide +kernel
theorem dX7_digest_119 : decode cX7_digest 119 = .ok (.getfield 109, 3) := by decide +kernel
theorem dX7_digest_122 : decode cX7_digest 122 = .ok (.iload_n 3, 1) := by decide +kernel
theorem dX7_digest_123 : decode cX7_digest 123 = .ok (.laload, 1) := by decide +kernel
theorem dX7_digest_124 : decode cX7_digest 124 = .ok (.invokestatic 255, 3) := by decide +kernel
theorem dX7_digest_127 : decode cX7_digest 127 = .ok (.lstore_n 1, 1) := by decide +kernel
theorem dX7_digest_128 : decode cX7_digest 128 = .ok (.iinc 3 1, 3) := by decide +kernel
theorem dX7_digest_131 : decode cX7_digest 131 = .ok (.goto (-22), 3) := by decide +kernel
theorem dX7_digest_134 : decode cX7_digest 134 = .ok (.iconst 0, 1) := by decide +kernel
theorem dX7_digest_135 : decode cX7_digest 135 = .ok (.istore_n 3, 1) := by decide +kernel
theorem dX7_digest_136 : decode cX7_digest 136 = .ok (.iload_n 3, 1) := by decide +kernel
theorem dX7_digest_137 : decode cX7_digest 137 = .ok (.aload_n 0, 1) := by decide +kernel
theorem dX7_digest_138 : decode cX7_digest 138 = .ok (.getfield 10, 3) := by decide +kernel
theorem dX7_digest_141 : decode cX7_digest 141 = .ok (.getfield 192, 3) := by decide +kernel
theorem dX7_digest_144 : decode cX7_digest 144 = .ok (.getfield 196, 3) := by decide +kernel
theorem dX7_digest_147 : decode cX7_digest 147 = .ok (.if_icmp .ge 79, 3) := by decide +kernel
theorem dX7_digest_150 : decode cX7_digest 150 = .ok (.lload_n 1, 1) := by decide +kernel
theorem dX7_digest_151 : decode cX7_digest 151 = .ok (.aload_n 0, 1) := by decide +kernel
theorem dX7_digest_152 : decode cX7_digest 152 = .ok (.getfield 10, 3) := by decide +kernel
theorem dX7_digest_155 : decode cX7_digest 155 = .ok (.getfield 192, 3) := by decide +kernel
theorem dX7_digest_158 : decode cX7_digest 158 = .ok (.getfield 258, 3) := by decide +kernel
theorem dX7_digest_161 : decode cX7_digest 161 = .ok (.iload_n 3, 1) := by decide +kernel
theorem dX7_digest_162 : decode cX7_digest 162 = .ok (.iaload, 1) := by decide +kernel
theorem dX7_digest_163 : decode cX7_digest 163 = .ok (.i2l, 1) := by decide +kernel
theorem dX7_digest_164 : decode cX7_digest 164 = .ok (.invokestatic 251, 3) := by decide +kernel
theorem dX7_digest_167 : decode cX7_digest 167 = .ok (.lstore_n 1, 1) := by decide +kernel
theorem dX7_digest_168 : decode cX7_digest 168 = .ok (.lload_n 1, 1) := by decide +kernel
theorem dX7_digest_169 : decode cX7_digest 169 = .ok (.aload_n 0, 1) := by decide +kernel
theorem dX7_digest_170 : decode cX7_digest 170 = .ok (.getfield 10, 3) := by decide +kernel
theorem dX7_digest_173 : decode cX7_digest 173 = .ok (.getfield 192, 3) := by decide +kernel
theorem dX7_digest_176 : decode cX7_digest 176 = .ok (.getfield 261, 3) := by decide +kernel
theorem dX7_digest_179 : decode cX7_digest 179 = .ok (.iload_n 3, 1) := by decide +kernel
theorem dX7_digest_180 : decode cX7_digest 180 = .ok (.iaload, 1) := by decide +kernel
theorem dX7_digest_181 : decode cX7_digest 181 = .ok (.i2l, 1) := by decide +kernel
theorem dX7_digest_182 : decode cX7_digest 182 = .ok (.invokestatic 251, 3) := by decide +kernel
theorem dX7_digest_185 : decode cX7_digest 185 = .ok (.lstore_n 1, 1) := by decide +kernel
theorem dX7_digest_186 : decode cX7_digest 186 = .ok (.lload_n 1, 1) := by decide +kernel
theorem dX7_digest_187 : decode cX7_digest 187 = .ok (.aload_n 0, 1) := by decide +kernel
theorem dX7_digest_188 : decode cX7_digest 188 = .ok (.getfield 10, 3) := by decide +kernel
theorem dX7_digest_191 : decode cX7_digest 191 = .ok (.getfield 192, 3) := by decide +kernel
theorem dX7_digest_194 : decode cX7_digest 194 = .ok (.getfield 264, 3) := by decide +kernel
theorem dX7_digest_197 : decode cX7_digest 197 = .ok (.iload_n 3, 1) := by decide +kernel
theorem dX7_digest_198 : decode cX7_digest 198 = .ok (.laload, 1) := by decide +kernel
theorem dX7_digest_199 : decode cX7_digest 199 = .ok (.invokestatic 255, 3) := by decide +kernel
theorem dX7_digest_202 : decode cX7_digest 202 = .ok (.lstore_n 1, 1) := by decide +kernel
theorem dX7_digest_203 : decode cX7_digest 203 = .ok (.lload_n 1, 1) := by decide +kernel
theorem dX7_digest_204 : decode cX7_digest 204 = .ok (.aload_n 0, 1) := by decide +kernel
theorem dX7_digest_205 : decode cX7_digest 205 = .ok (.getfield 10, 3) := by decide +kernel
theorem dX7_digest_208 : decode cX7_digest 208 = .ok (.getfield 192, 3) := by decide +kernel
theorem dX7_digest_211 : decode cX7_digest 211 = .ok (.getfield 267, 3) := by decide +kernel
theorem dX7_digest_214 : decode cX7_digest 214 = .ok (.iload_n 3, 1) := by decide +kernel
theorem dX7_digest_215 : decode cX7_digest 215 = .ok (.laload, 1) := by decide +kernel
theorem dX7_digest_216 : decode cX7_digest 216 = .ok (.invokestatic 255, 3) := by decide +kernel
theorem dX7_digest_219 : decode cX7_digest 219 = .ok (.lstore_n 1, 1) := by decide +kernel
theorem dX7_digest_220 : decode cX7_digest 220 = .ok (.iinc 3 1, 3) := by decide +kernel
theorem dX7_digest_223 : decode cX7_digest 223 = .ok (.goto (-87), 3) := by decide +kernel
theorem dX7_digest_226 : decode cX7_digest 226 = .ok (.lload_n 1, 1) := by decide +kernel
theorem dX7_digest_227 : decode cX7_digest 227 = .ok (.aload_n 0, 1) := by decide +kernel
theorem dX7_digest_228 : decode cX7_digest 228 = .ok (.getfield 44, 3) := by decide +kernel
theorem dX7_digest_231 : decode cX7_digest 231 = .ok (.getfield 230, 3) := by decide +kernel
theorem dX7_digest_234 : decode cX7_digest 234 = .ok (.invokestatic 251, 3) := by decide +kernel
theorem dX7_digest_237 : decode cX7_digest 237 = .ok (.aload_n 0, 1) := by decide +kernel
theorem dX7_digest_238 : decode cX7_digest 238 = .ok (.getfield 44, 3) := by decide +kernel
theorem dX7_digest_241 : decode cX7_digest 241 = .ok (.getfield 234, 3) := by decide +kernel
theorem dX7_digest_244 : decode cX7_digest 244 = .ok (.invokestatic 251, 3) := by decide +kernel
theorem dX7_digest_247 : decode cX7_digest 247 = .ok (.lreturn, 1) := by decide +kernel
theorem dX7_refuseBad_0 : decode cX7_refuseBad 0 = .ok (.aload_n 0, 1) := by decide +kernel
theorem dX7_refuseBad_1 : decode cX7_refuseBad 1 = .ok (.dup, 1) := by decide +kernel
theorem dX7_refuseBad_2 : decode cX7_refuseBad 2 = .ok (.getfield 237, 3) := by decide +kernel
theorem dX7_refuseBad_5 : decode cX7_refuseBad 5 = .ok (.iconst 1, 1) := by decide +kernel
theorem dX7_refuseBad_6 : decode cX7_refuseBad 6 = .ok (.iadd, 1) := by decide +kernel
theorem dX7_refuseBad_7 : decode cX7_refuseBad 7 = .ok (.putfield 237, 3) := by decide +kernel
theorem dX7_refuseBad_10 : decode cX7_refuseBad 10 = .ok (.iload_n 1, 1) := by decide +kernel
theorem dX7_refuseBad_11 : decode cX7_refuseBad 11 = .ok (.ireturn, 1) := by decide +kernel
theorem dX7_refuseNo_0 : decode cX7_refuseNo 0 = .ok (.aload_n 0, 1) := by decide +kernel
theorem dX7_refuseNo_1 : decode cX7_refuseNo 1 = .ok (.dup, 1) := by decide +kernel
theorem dX7_refuseNo_2 : decode cX7_refuseNo 2 = .ok (.getfield 240, 3) := by decide +kernel
theorem dX7_refuseNo_5 : decode cX7_refuseNo 5 = .ok (.iconst 1, 1) := by decide +kernel
theorem dX7_refuseNo_6 : decode cX7_refuseNo 6 = .ok (.iadd, 1) := by decide +kernel
theorem dX7_refuseNo_7 : decode cX7_refuseNo 7 = .ok (.putfield 240, 3) := by decide +kernel
theorem dX7_refuseNo_10 : decode cX7_refuseNo 10 = .ok (.bipush (-3), 2) := by decide +kernel
theorem dX7_refuseNo_12 : decode cX7_refuseNo 12 = .ok (.ireturn, 1) := by decide +kernel
theorem dX7_refuseFull_0 : decode cX7_refuseFull 0 = .ok (.aload_n 0, 1) := by decide +kernel
theorem dX7_refuseFull_1 : decode cX7_refuseFull 1 = .ok (.dup, 1) := by decide +kernel
theorem dX7_refuseFull_2 : decode cX7_refuseFull 2 = .ok (.getfield 243, 3) := by decide +kernel
theorem dX7_refuseFull_5 : decode cX7_refuseFull 5 = .ok (.iconst 1, 1) := by decide +kernel
theorem dX7_refuseFull_6 : decode cX7_refuseFull 6 = .ok (.iadd, 1) := by decide +kernel
theorem dX7_refuseFull_7 : decode cX7_refuseFull 7 = .ok (.putfield 243, 3) := by decide +kernel
theorem dX7_refuseFull_10 : decode cX7_refuseFull 10 = .ok (.bipush (-4), 2) := by decide +kernel
theorem dX7_refuseFull_12 : decode cX7_refuseFull 12 = .ok (.ireturn, 1) := by decide +kernel
theorem dX7_isBelow_0 : decode cX7_isBelow 0 = .ok (.iload_n 0, 1) := by decide +kernel
theorem dX7_isBelow_1 : decode cX7_isBelow 1 = .ok (.ifCond .lt 12, 3) := by decide +kernel
theorem dX7_isBelow_4 : decode cX7_isBelow 4 = .ok (.iload_n 0, 1) := by decide +kernel
theorem dX7_isBelow_5 : decode cX7_isBelow 5 = .ok (.iload_n 1, 1) := by decide +kernel
theorem dX7_isBelow_6 : decode cX7_isBelow 6 = .ok (.if_icmp .ge 7, 3) := by decide +kernel
theorem dX7_isBelow_9 : decode cX7_isBelow 9 = .ok (.iconst 1, 1) := by decide +kernel
theorem dX7_isBelow_10 : decode cX7_isBelow 10 = .ok (.goto 4, 3) := by decide +kernel
theorem dX7_isBelow_13 : decode cX7_isBelow 13 = .ok (.iconst 0, 1) := by decide +kernel
theorem dX7_isBelow_14 : decode cX7_isBelow 14 = .ok (.ireturn, 1) := by decide +kernel
theorem dX7_isRow_0 : decode cX7_isRow 0 = .ok (.iload_n 0, 1) := by decide +kernel
theorem dX7_isRow_1 : decode cX7_isRow 1 = .ok (.iconst 4, 1) := by decide +kernel
theorem dX7_isRow_2 : decode cX7_isRow 2 = .ok (.invokestatic 56, 3) := by decide +kernel
theorem dX7_isRow_5 : decode cX7_isRow 5 = .ok (.ireturn, 1) := by decide +kernel
theorem dX7_isRule_0 : decode cX7_isRule 0 = .ok (.iload_n 0, 1) := by decide +kernel
theorem dX7_isRule_1 : decode cX7_isRule 1 = .ok (.bipush 6, 2) := by decide +kernel
theorem dX7_isRule_3 : decode cX7_isRule 3 = .ok (.invokestatic 56, 3) := by decide +kernel
theorem dX7_isRule_6 : decode cX7_isRule 6 = .ok (.ifCond .eq 16, 3) := by decide +kernel
theorem dX7_isRule_9 : decode cX7_isRule 9 = .ok (.iload_n 1, 1) := by decide +kernel
theorem dX7_isRule_10 : decode cX7_isRule 10 = .ok (.bipush 16, 2) := by decide +kernel
theorem dX7_isRule_12 : decode cX7_isRule 12 = .ok (.invokestatic 56, 3) := by decide +kernel
theorem dX7_isRule_15 : decode cX7_isRule 15 = .ok (.ifCond .eq 7, 3) := by decide +kernel
theorem dX7_isRule_18 : decode cX7_isRule 18 = .ok (.iconst 1, 1) := by decide +kernel
theorem dX7_isRule_19 : decode cX7_isRule 19 = .ok (.goto 4, 3) := by decide +kernel
theorem dX7_isRule_22 : decode cX7_isRule 22 = .ok (.iconst 0, 1) := by decide +kernel
theorem dX7_isRule_23 : decode cX7_isRule 23 = .ok (.ireturn, 1) := by decide +kernel
theorem dX7_isFleet_0 : decode cX7_isFleet 0 = .ok (.iload_n 0, 1) := by decide +kernel
theorem dX7_isFleet_1 : decode cX7_isFleet 1 = .ok (.ldc_w 269, 3) := by decide +kernel
theorem dX7_isFleet_4 : decode cX7_isFleet 4 = .ok (.invokestatic 56, 3) := by decide +kernel
theorem dX7_isFleet_7 : decode cX7_isFleet 7 = .ok (.ifCond .eq 17, 3) := by decide +kernel
theorem dX7_isFleet_10 : decode cX7_isFleet 10 = .ok (.iload_n 1, 1) := by decide +kernel
theorem dX7_isFleet_11 : decode cX7_isFleet 11 = .ok (.ifCond .lt 13, 3) := by decide +kernel
theorem dX7_isFleet_14 : decode cX7_isFleet 14 = .ok (.iload_n 1, 1) := by decide +kernel
theorem dX7_isFleet_15 : decode cX7_isFleet 15 = .ok (.bipush 60, 2) := by decide +kernel
theorem dX7_isFleet_17 : decode cX7_isFleet 17 = .ok (.if_icmp .gt 7, 3) := by decide +kernel
theorem dX7_isFleet_20 : decode cX7_isFleet 20 = .ok (.iconst 1, 1) := by decide +kernel
theorem dX7_isFleet_21 : decode cX7_isFleet 21 = .ok (.goto 4, 3) := by decide +kernel
theorem dX7_isFleet_24 : decode cX7_isFleet 24 = .ok (.iconst 0, 1) := by decide +kernel
theorem dX7_isFleet_25 : decode cX7_isFleet 25 = .ok (.ireturn, 1) := by decide +kernel
theorem dX7_isBridge_0 : decode cX7_isBridge 0 = .ok (.iload_n 1, 1) := by decide +kernel
theorem dX7_isBridge_1 : decode cX7_isBridge 1 = .ok (.aload_n 0, 1) := by decide +kernel
theorem dX7_isBridge_2 : decode cX7_isBridge 2 = .ok (.getfield 10, 3) := by decide +kernel
theorem dX7_isBridge_5 : decode cX7_isBridge 5 = .ok (.getfield 64, 3) := by decide +kernel
theorem dX7_isBridge_8 : decode cX7_isBridge 8 = .ok (.invokestatic 56, 3) := by decide +kernel
theorem dX7_isBridge_11 : decode cX7_isBridge 11 = .ok (.ireturn, 1) := by decide +kernel
theorem dX7_lengthOrSyllable_0 : decode cX7_lengthOrSyllable 0 = .ok (.iload_n 2, 1) := by decide +kernel
theorem dX7_lengthOrSyllable_1 : decode cX7_lengthOrSyllable 1 = .ok (.iconst (-1), 1) := by decide +kernel
theorem dX7_lengthOrSyllable_2 : decode cX7_lengthOrSyllable 2 = .ok (.if_icmp .ne 8, 3) := by decide +kernel
theorem dX7_lengthOrSyllable_5 : decode cX7_lengthOrSyllable 5 = .ok (.lload_n 0, 1) := by decide +kernel
theorem dX7_lengthOrSyllable_6 : decode cX7_lengthOrSyllable 6 = .ok (.invokestatic 112, 3) := by decide +kernel
theorem dX7_lengthOrSyllable_9 : decode cX7_lengthOrSyllable 9 = .ok (.ireturn, 1) := by decide +kernel
theorem dX7_lengthOrSyllable_10 : decode cX7_lengthOrSyllable 10 = .ok (.iload_n 2, 1) := by decide +kernel
theorem dX7_lengthOrSyllable_11 : decode cX7_lengthOrSyllable 11 = .ok (.lload_n 0, 1) := by decide +kernel
theorem dX7_lengthOrSyllable_12 : decode cX7_lengthOrSyllable 12 = .ok (.invokestatic 112, 3) := by decide +kernel
theorem dX7_lengthOrSyllable_15 : decode cX7_lengthOrSyllable 15 = .ok (.if_icmp .ge 11, 3) := by decide +kernel
theorem dX7_lengthOrSyllable_18 : decode cX7_lengthOrSyllable 18 = .ok (.lload_n 0, 1) := by decide +kernel
theorem dX7_lengthOrSyllable_19 : decode cX7_lengthOrSyllable 19 = .ok (.iload_n 2, 1) := by decide +kernel
theorem dX7_lengthOrSyllable_20 : decode cX7_lengthOrSyllable 20 = .ok (.invokestatic 270, 3) := by decide +kernel
theorem dX7_lengthOrSyllable_23 : decode cX7_lengthOrSyllable 23 = .ok (.goto 5, 3) := by decide +kernel
theorem dX7_lengthOrSyllable_26 : decode cX7_lengthOrSyllable 26 = .ok (.bipush (-5), 2) := by decide +kernel
theorem dX7_lengthOrSyllable_28 : decode cX7_lengthOrSyllable 28 = .ok (.ireturn, 1) := by decide +kernel
theorem dX7_canSay_0 : decode cX7_canSay 0 = .ok (.iload_n 1, 1) := by decide +kernel
theorem dX7_canSay_1 : decode cX7_canSay 1 = .ok (.iload_n 0, 1) := by decide +kernel
theorem dX7_canSay_2 : decode cX7_canSay 2 = .ok (.iconst (-1), 1) := by decide +kernel
theorem dX7_canSay_3 : decode cX7_canSay 3 = .ok (.ixor, 1) := by decide +kernel
theorem dX7_canSay_4 : decode cX7_canSay 4 = .ok (.iand, 1) := by decide +kernel
theorem dX7_canSay_5 : decode cX7_canSay 5 = .ok (.ifCond .ne 7, 3) := by decide +kernel
theorem dX7_canSay_8 : decode cX7_canSay 8 = .ok (.iconst 1, 1) := by decide +kernel
theorem dX7_canSay_9 : decode cX7_canSay 9 = .ok (.goto 4, 3) := by decide +kernel
theorem dX7_canSay_12 : decode cX7_canSay 12 = .ok (.iconst 0, 1) := by decide +kernel
theorem dX7_canSay_13 : decode cX7_canSay 13 = .ok (.ireturn, 1) := by decide +kernel
theorem dX7_boatsSaying_0 : decode cX7_boatsSaying 0 = .ok (.iload_n 1, 1) := by decide +kernel
theorem dX7_boatsSaying_1 : decode cX7_boatsSaying 1 = .ok (.i2l, 1) := by decide +kernel
theorem dX7_boatsSaying_2 : decode cX7_boatsSaying 2 = .ok (.lstore_n 3, 1) := by decide +kernel
theorem dX7_boatsSaying_3 : decode cX7_boatsSaying 3 = .ok (.iconst 0, 1) := by decide +kernel
theorem dX7_boatsSaying_4 : decode cX7_boatsSaying 4 = .ok (.istore 5, 2) := by decide +kernel
theorem dX7_boatsSaying_6 : decode cX7_boatsSaying 6 = .ok (.iconst 0, 1) := by decide +kernel
theorem dX7_boatsSaying_7 : decode cX7_boatsSaying 7 = .ok (.istore 6, 2) := by decide +kernel
theorem dX7_boatsSaying_9 : decode cX7_boatsSaying 9 = .ok (.iload 6, 2) := by decide +kernel
theorem dX7_boatsSaying_11 : decode cX7_boatsSaying 11 = .ok (.iload_n 2, 1) := by decide +kernel
theorem dX7_boatsSaying_12 : decode cX7_boatsSaying 12 = .ok (.if_icmp .ge 54, 3) := by decide +kernel
theorem dX7_boatsSaying_15 : decode cX7_boatsSaying 15 = .ok (.lload_n 3, 1) := by decide +kernel
theorem dX7_boatsSaying_16 : decode cX7_boatsSaying 16 = .ok (.ldc2_w 273, 3) := by decide +kernel
theorem dX7_boatsSaying_19 : decode cX7_boatsSaying 19 = .ok (.lmul, 1) := by decide +kernel
theorem dX7_boatsSaying_20 : decode cX7_boatsSaying 20 = .ok (.ldc2_w 275, 3) := by decide +kernel
theorem dX7_boatsSaying_23 : decode cX7_boatsSaying 23 = .ok (.ladd, 1) := by decide +kernel
theorem dX7_boatsSaying_24 : decode cX7_boatsSaying 24 = .ok (.ldc2_w 277, 3) := by decide +kernel
theorem dX7_boatsSaying_27 : decode cX7_boatsSaying 27 = .ok (.lrem, 1) := by decide +kernel
theorem dX7_boatsSaying_28 : decode cX7_boatsSaying 28 = .ok (.lstore_n 3, 1) := by decide +kernel
theorem dX7_boatsSaying_29 : decode cX7_boatsSaying 29 = .ok (.lload_n 3, 1) := by decide +kernel
theorem dX7_boatsSaying_30 : decode cX7_boatsSaying 30 = .ok (.ldc2_w 279, 3) := by decide +kernel
theorem dX7_boatsSaying_33 : decode cX7_boatsSaying 33 = .ok (.ldiv, 1) := by decide +kernel
theorem dX7_boatsSaying_34 : decode cX7_boatsSaying 34 = .ok (.ldc2_w 281, 3) := by decide +kernel
theorem dX7_boatsSaying_37 : decode cX7_boatsSaying 37 = .ok (.lrem, 1) := by decide +kernel
theorem dX7_boatsSaying_38 : decode cX7_boatsSaying 38 = .ok (.l2i, 1) := by decide +kernel
theorem dX7_boatsSaying_39 : decode cX7_boatsSaying 39 = .ok (.istore 7, 2) := by decide +kernel
theorem dX7_boatsSaying_41 : decode cX7_boatsSaying 41 = .ok (.iload 5, 2) := by decide +kernel
theorem dX7_boatsSaying_43 : decode cX7_boatsSaying 43 = .ok (.iload 7, 2) := by decide +kernel
theorem dX7_boatsSaying_45 : decode cX7_boatsSaying 45 = .ok (.iload_n 0, 1) := by decide +kernel
theorem dX7_boatsSaying_46 : decode cX7_boatsSaying 46 = .ok (.invokestatic 162, 3) := by decide +kernel
theorem dX7_boatsSaying_49 : decode cX7_boatsSaying 49 = .ok (.ifCond .eq 7, 3) := by decide +kernel
theorem dX7_boatsSaying_52 : decode cX7_boatsSaying 52 = .ok (.iconst 1, 1) := by decide +kernel
theorem dX7_boatsSaying_53 : decode cX7_boatsSaying 53 = .ok (.goto 4, 3) := by decide +kernel
theorem dX7_boatsSaying_56 : decode cX7_boatsSaying 56 = .ok (.iconst 0, 1) := by decide +kernel
theorem dX7_boatsSaying_57 : decode cX7_boatsSaying 57 = .ok (.iadd, 1) := by decide +kernel
theorem dX7_boatsSaying_58 : decode cX7_boatsSaying 58 = .ok (.istore 5, 2) := by decide +kernel
theorem dX7_boatsSaying_60 : decode cX7_boatsSaying 60 = .ok (.iinc 6 1, 3) := by decide +kernel
theorem dX7_boatsSaying_63 : decode cX7_boatsSaying 63 = .ok (.goto (-54), 3) := by decide +kernel
theorem dX7_boatsSaying_66 : decode cX7_boatsSaying 66 = .ok (.iload 5, 2) := by decide +kernel
theorem dX7_boatsSaying_68 : decode cX7_boatsSaying 68 = .ok (.ireturn, 1) := by decide +kernel
theorem dX7_collectFitting_0 : decode cX7_collectFitting 0 = .ok (.iconst 0, 1) := by decide +kernel
theorem dX7_collectFitting_1 : decode cX7_collectFitting 1 = .ok (.istore_n 2, 1) := by decide +kernel
theorem dX7_collectFitting_2 : decode cX7_collectFitting 2 = .ok (.iconst 0, 1) := by decide +kernel
theorem dX7_collectFitting_3 : decode cX7_collectFitting 3 = .ok (.istore_n 3, 1) := by decide +kernel
theorem dX7_collectFitting_4 : decode cX7_collectFitting 4 = .ok (.iload_n 3, 1) := by decide +kernel
theorem dX7_collectFitting_5 : decode cX7_collectFitting 5 = .ok (.bipush 96, 2) := by decide +kernel
theorem dX7_collectFitting_7 : decode cX7_collectFitting 7 = .ok (.if_icmp .ge 34, 3) := by decide +kernel
theorem dX7_collectFitting_10 : decode cX7_collectFitting 10 = .ok (.aload_n 0, 1) := by decide +kernel
theorem dX7_collectFitting_11 : decode cX7_collectFitting 11 = .ok (.getfield 10, 3) := by decide +kernel
theorem dX7_collectFitting_14 : decode cX7_collectFitting 14 = .ok (.getfield 192, 3) := by decide +kernel
theorem dX7_collectFitting_17 : decode cX7_collectFitting 17 = .ok (.iload_n 1, 1) := by decide +kernel
theorem dX7_collectFitting_18 : decode cX7_collectFitting 18 = .ok (.iload_n 3, 1) := by decide +kernel
theorem dX7_collectFitting_19 : decode cX7_collectFitting 19 = .ok (.invokevirtual 283, 3) := by decide +kernel
theorem dX7_collectFitting_22 : decode cX7_collectFitting 22 = .ok (.ifCond .eq 13, 3) := by decide +kernel
theorem dX7_collectFitting_25 : decode cX7_collectFitting 25 = .ok (.aload_n 0, 1) := by decide +kernel
theorem dX7_collectFitting_26 : decode cX7_collectFitting 26 = .ok (.getfield 48, 3) := by decide +kernel
theorem dX7_collectFitting_29 : decode cX7_collectFitting 29 = .ok (.iload_n 2, 1) := by decide +kernel
theorem dX7_collectFitting_30 : decode cX7_collectFitting 30 = .ok (.iload_n 3, 1) := by decide +kernel
theorem dX7_collectFitting_31 : decode cX7_collectFitting 31 = .ok (.iastore, 1) := by decide +kernel
theorem dX7_collectFitting_32 : decode cX7_collectFitting 32 = .ok (.iinc 2 1, 3) := by decide +kernel
theorem dX7_collectFitting_35 : decode cX7_collectFitting 35 = .ok (.iinc 3 1, 3) := by decide +kernel
theorem dX7_collectFitting_38 : decode cX7_collectFitting 38 = .ok (.goto (-34), 3) := by decide +kernel
theorem dX7_collectFitting_41 : decode cX7_collectFitting 41 = .ok (.iload_n 2, 1) := by decide +kernel
theorem dX7_collectFitting_42 : decode cX7_collectFitting 42 = .ok (.ireturn, 1) := by decide +kernel
theorem dX7_mostAlike_0 : decode cX7_mostAlike 0 = .ok (.iconst 0, 1) := by decide +kernel
theorem dX7_mostAlike_1 : decode cX7_mostAlike 1 = .ok (.istore 4, 2) := by decide +kernel
theorem dX7_mostAlike_3 : decode cX7_mostAlike 3 = .ok (.iconst 0, 1) := by decide +kernel
theorem dX7_mostAlike_4 : decode cX7_mostAlike 4 = .ok (.istore 5, 2) := by decide +kernel
theorem dX7_mostAlike_6 : decode cX7_mostAlike 6 = .ok (.iload 5, 2) := by decide +kernel
theorem dX7_mostAlike_8 : decode cX7_mostAlike 8 = .ok (.iload_n 3, 1) := by decide +kernel
theorem dX7_mostAlike_9 : decode cX7_mostAlike 9 = .ok (.if_icmp .ge 90, 3) := by decide +kernel
theorem dX7_mostAlike_12 : decode cX7_mostAlike 12 = .ok (.aload_n 0, 1) := by decide +kernel
theorem dX7_mostAlike_13 : decode cX7_mostAlike 13 = .ok (.getfield 52, 3) := by decide +kernel
theorem dX7_mostAlike_16 : decode cX7_mostAlike 16 = .ok (.iload 5, 2) := by decide +kernel
theorem dX7_mostAlike_18 : decode cX7_mostAlike 18 = .ok (.lload_n 1, 1) := by decide +kernel
theorem dX7_mostAlike_19 : decode cX7_mostAlike 19 = .ok (.aload_n 0, 1) := by decide +kernel
theorem dX7_mostAlike_20 : decode cX7_mostAlike 20 = .ok (.getfield 48, 3) := by decide +kernel
theorem dX7_mostAlike_23 : decode cX7_mostAlike 23 = .ok (.iload 5, 2) := by decide +kernel
theorem dX7_mostAlike_25 : decode cX7_mostAlike 25 = .ok (.iaload, 1) := by decide +kernel
theorem dX7_mostAlike_26 : decode cX7_mostAlike 26 = .ok (.aload_n 0, 1) := by decide +kernel
theorem dX7_mostAlike_27 : decode cX7_mostAlike 27 = .ok (.getfield 10, 3) := by decide +kernel
theorem dX7_mostAlike_30 : decode cX7_mostAlike 30 = .ok (.getfield 94, 3) := by decide +kernel
theorem dX7_mostAlike_33 : decode cX7_mostAlike 33 = .ok (.invokestatic 286, 3) := by decide +kernel
theorem dX7_mostAlike_36 : decode cX7_mostAlike 36 = .ok (.lastore, 1) := by decide +kernel
theorem dX7_mostAlike_37 : decode cX7_mostAlike 37 = .ok (.iconst 0, 1) := by decide +kernel
theorem dX7_mostAlike_38 : decode cX7_mostAlike 38 = .ok (.istore 6, 2) := by decide +kernel
theorem dX7_mostAlike_40 : decode cX7_mostAlike 40 = .ok (.iconst 0, 1) := by decide +kernel
theorem dX7_mostAlike_41 : decode cX7_mostAlike 41 = .ok (.istore 7, 2) := by decide +kernel
theorem dX7_mostAlike_43 : decode cX7_mostAlike 43 = .ok (.iload 7, 2) := by decide +kernel
theorem dX7_mostAlike_45 : decode cX7_mostAlike 45 = .ok (.iload 5, 2) := by decide +kernel
theorem dX7_mostAlike_47 : decode cX7_mostAlike 47 = .ok (.if_icmp .gt 37, 3) := by decide +kernel
theorem dX7_mostAlike_50 : decode cX7_mostAlike 50 = .ok (.iload 6, 2) := by decide +kernel
theorem dX7_mostAlike_52 : decode cX7_mostAlike 52 = .ok (.aload_n 0, 1) := by decide +kernel
theorem dX7_mostAlike_53 : decode cX7_mostAlike 53 = .ok (.getfield 52, 3) := by decide +kernel
theorem dX7_mostAlike_56 : decode cX7_mostAlike 56 = .ok (.iload 7, 2) := by decide +kernel
theorem dX7_mostAlike_58 : decode cX7_mostAlike 58 = .ok (.laload, 1) := by decide +kernel
theorem dX7_mostAlike_59 : decode cX7_mostAlike 59 = .ok (.aload_n 0, 1) := by decide +kernel
theorem dX7_mostAlike_60 : decode cX7_mostAlike 60 = .ok (.getfield 52, 3) := by decide +kernel
theorem dX7_mostAlike_63 : decode cX7_mostAlike 63 = .ok (.iload 5, 2) := by decide +kernel
theorem dX7_mostAlike_65 : decode cX7_mostAlike 65 = .ok (.laload, 1) := by decide +kernel
theorem dX7_mostAlike_66 : decode cX7_mostAlike 66 = .ok (.lcmp, 1) := by decide +kernel
theorem dX7_mostAlike_67 : decode cX7_mostAlike 67 = .ok (.ifCond .ne 7, 3) := by decide +kernel
theorem dX7_mostAlike_70 : decode cX7_mostAlike 70 = .ok (.iconst 1, 1) := by decide +kernel
theorem dX7_mostAlike_71 : decode cX7_mostAlike 71 = .ok (.goto 4, 3) := by decide +kernel
theorem dX7_mostAlike_74 : decode cX7_mostAlike 74 = .ok (.iconst 0, 1) := by decide +kernel
theorem dX7_mostAlike_75 : decode cX7_mostAlike 75 = .ok (.iadd, 1) := by decide +kernel
theorem dX7_mostAlike_76 : decode cX7_mostAlike 76 = .ok (.istore 6, 2) := by decide +kernel
theorem dX7_mostAlike_78 : decode cX7_mostAlike 78 = .ok (.iinc 7 1, 3) := by decide +kernel
theorem dX7_mostAlike_81 : decode cX7_mostAlike 81 = .ok (.goto (-38), 3) := by decide +kernel
theorem dX7_mostAlike_84 : decode cX7_mostAlike 84 = .ok (.iload 4, 2) := by decide +kernel
theorem dX7_mostAlike_86 : decode cX7_mostAlike 86 = .ok (.iload 6, 2) := by decide +kernel
theorem dX7_mostAlike_88 : decode cX7_mostAlike 88 = .ok (.invokestatic 290, 3) := by decide +kernel
theorem dX7_mostAlike_91 : decode cX7_mostAlike 91 = .ok (.istore 4, 2) := by decide +kernel
theorem dX7_mostAlike_93 : decode cX7_mostAlike 93 = .ok (.iinc 5 1, 3) := by decide +kernel
theorem dX7_mostAlike_96 : decode cX7_mostAlike 96 = .ok (.goto (-90), 3) := by decide +kernel
theorem dX7_mostAlike_99 : decode cX7_mostAlike 99 = .ok (.iload 4, 2) := by decide +kernel
theorem dX7_mostAlike_101 : decode cX7_mostAlike 101 = .ok (.ireturn, 1) := by decide +kernel
theorem dX7_mixed_0 : decode cX7_mixed 0 = .ok (.ldc2_w 296, 3) := by decide +kernel
theorem dX7_mixed_3 : decode cX7_mixed 3 = .ok (.lload_n 0, 1) := by decide +kernel
theorem dX7_mixed_4 : decode cX7_mixed 4 = .ok (.lmul, 1) := by decide +kernel
theorem dX7_mixed_5 : decode cX7_mixed 5 = .ok (.lload_n 2, 1) := by decide +kernel
theorem dX7_mixed_6 : decode cX7_mixed 6 = .ok (.ladd, 1) := by decide +kernel
theorem dX7_mixed_7 : decode cX7_mixed 7 = .ok (.lreturn, 1) := by decide +kernel
theorem dX7_mixedName_0 : decode cX7_mixedName 0 = .ok (.lload_n 2, 1) := by decide +kernel
theorem dX7_mixedName_1 : decode cX7_mixedName 1 = .ok (.invokestatic 112, 3) := by decide +kernel
theorem dX7_mixedName_4 : decode cX7_mixedName 4 = .ok (.istore 4, 2) := by decide +kernel
theorem dX7_mixedName_6 : decode cX7_mixedName 6 = .ok (.lload_n 0, 1) := by decide +kernel
theorem dX7_mixedName_7 : decode cX7_mixedName 7 = .ok (.iload 4, 2) := by decide +kernel
theorem dX7_mixedName_9 : decode cX7_mixedName 9 = .ok (.i2l, 1) := by decide +kernel
theorem dX7_mixedName_10 : decode cX7_mixedName 10 = .ok (.invokestatic 251, 3) := by decide +kernel
theorem dX7_mixedName_13 : decode cX7_mixedName 13 = .ok (.lstore 5, 2) := by decide +kernel
theorem dX7_mixedName_15 : decode cX7_mixedName 15 = .ok (.iconst 0, 1) := by decide +kernel
theorem dX7_mixedName_16 : decode cX7_mixedName 16 = .ok (.istore 7, 2) := by decide +kernel
theorem dX7_mixedName_18 : decode cX7_mixedName 18 = .ok (.iload 7, 2) := by decide +kernel
theorem dX7_mixedName_20 : decode cX7_mixedName 20 = .ok (.iload 4, 2) := by decide +kernel
theorem dX7_mixedName_22 : decode cX7_mixedName 22 = .ok (.if_icmp .ge 23, 3) := by decide +kernel
theorem dX7_mixedName_25 : decode cX7_mixedName 25 = .ok (.lload 5, 2) := by decide +kernel
theorem dX7_mixedName_27 : decode cX7_mixedName 27 = .ok (.lload_n 2, 1) := by decide +kernel
theorem dX7_mixedName_28 : decode cX7_mixedName 28 = .ok (.iload 7, 2) := by decide +kernel
theorem dX7_mixedName_30 : decode cX7_mixedName 30 = .ok (.invokestatic 270, 3) := by decide +kernel
theorem dX7_mixedName_33 : decode cX7_mixedName 33 = .ok (.i2l, 1) := by decide +kernel
theorem dX7_mixedName_34 : decode cX7_mixedName 34 = .ok (.invokestatic 251, 3) := by decide +kernel
theorem dX7_mixedName_37 : decode cX7_mixedName 37 = .ok (.lstore 5, 2) := by decide +kernel
theorem dX7_mixedName_39 : decode cX7_mixedName 39 = .ok (.iinc 7 1, 3) := by decide +kernel
theorem dX7_mixedName_42 : decode cX7_mixedName 42 = .ok (.goto (-24), 3) := by decide +kernel
theorem dX7_mixedName_45 : decode cX7_mixedName 45 = .ok (.lload 5, 2) := by decide +kernel
theorem dX7_mixedName_47 : decode cX7_mixedName 47 = .ok (.lreturn, 1) := by decide +kernel
theorem dJ9_max_7cf53_0 : decode cJ9_max_7cf53 0 = .ok (.iload_n 0, 1) := by decide +kernel
theorem dJ9_max_7cf53_1 : decode cJ9_max_7cf53 1 = .ok (.iload_n 1, 1) := by decide +kernel
theorem dJ9_max_7cf53_2 : decode cJ9_max_7cf53 2 = .ok (.if_icmp .lt 7, 3) := by decide +kernel
theorem dJ9_max_7cf53_5 : decode cJ9_max_7cf53 5 = .ok (.iload_n 0, 1) := by decide +kernel
theorem dJ9_max_7cf53_6 : decode cJ9_max_7cf53 6 = .ok (.goto 4, 3) := by decide +kernel
theorem dJ9_max_7cf53_9 : decode cJ9_max_7cf53 9 = .ok (.iload_n 1, 1) := by decide +kernel
theorem dJ9_max_7cf53_10 : decode cJ9_max_7cf53 10 = .ok (.ireturn, 1) := by decide +kernel
theorem dJ0_length_8abf5_0 : decode cJ0_length_8abf5 0 = .ok (.aload_n 0, 1) := by decide +kernel
theorem dJ0_length_8abf5_1 : decode cJ0_length_8abf5 1 = .ok (.getfield 9, 3) := by decide +kernel
theorem dJ0_length_8abf5_4 : decode cJ0_length_8abf5 4 = .ok (.arraylength, 1) := by decide +kernel
theorem dJ0_length_8abf5_5 : decode cJ0_length_8abf5 5 = .ok (.aload_n 0, 1) := by decide +kernel
theorem dJ0_length_8abf5_6 : decode cJ0_length_8abf5 6 = .ok (.invokevirtual 335, 3) := by decide +kernel
theorem dJ0_length_8abf5_9 : decode cJ0_length_8abf5 9 = .ok (.ishr, 1) := by decide +kernel
theorem dJ0_length_8abf5_10 : decode cJ0_length_8abf5 10 = .ok (.ireturn, 1) := by decide +kernel
theorem dJ0_charAt_5068e_0 : decode cJ0_charAt_5068e 0 = .ok (.aload_n 0, 1) := by decide +kernel
theorem dJ0_charAt_5068e_1 : decode cJ0_charAt_5068e 1 = .ok (.invokevirtual 492, 3) := by decide +kernel
theorem dJ0_charAt_5068e_4 : decode cJ0_charAt_5068e 4 = .ok (.ifCond .eq 12, 3) := by decide +kernel
theorem dJ0_charAt_5068e_7 : decode cJ0_charAt_5068e 7 = .ok (.aload_n 0, 1) := by decide +kernel
theorem dJ0_charAt_5068e_8 : decode cJ0_charAt_5068e 8 = .ok (.getfield 9, 3) := by decide +kernel
theorem dJ0_charAt_5068e_11 : decode cJ0_charAt_5068e 11 = .ok (.iload_n 1, 1) := by decide +kernel
theorem dJ0_charAt_5068e_12 : decode cJ0_charAt_5068e 12 = .ok (.invokestatic 495, 3) := by decide +kernel
theorem dJ0_charAt_5068e_15 : decode cJ0_charAt_5068e 15 = .ok (.ireturn, 1) := by decide +kernel
theorem dJ0_charAt_5068e_16 : decode cJ0_charAt_5068e 16 = .ok (.aload_n 0, 1) := by decide +kernel
theorem dJ0_charAt_5068e_17 : decode cJ0_charAt_5068e 17 = .ok (.getfield 9, 3) := by decide +kernel
theorem dJ0_charAt_5068e_20 : decode cJ0_charAt_5068e 20 = .ok (.iload_n 1, 1) := by decide +kernel
theorem dJ0_charAt_5068e_21 : decode cJ0_charAt_5068e 21 = .ok (.invokestatic 498, 3) := by decide +kernel
theorem dJ0_charAt_5068e_24 : decode cJ0_charAt_5068e 24 = .ok (.ireturn, 1) := by decide +kernel
theorem dJ0_coder_7d493_0 : decode cJ0_coder_7d493 0 = .ok (.getstatic 38, 3) := by decide +kernel
theorem dJ0_coder_7d493_3 : decode cJ0_coder_7d493 3 = .ok (.ifCond .eq 10, 3) := by decide +kernel
theorem dJ0_coder_7d493_6 : decode cJ0_coder_7d493 6 = .ok (.aload_n 0, 1) := by decide +kernel
theorem dJ0_coder_7d493_7 : decode cJ0_coder_7d493 7 = .ok (.getfield 15, 3) := by decide +kernel
theorem dJ0_coder_7d493_10 : decode cJ0_coder_7d493 10 = .ok (.goto 4, 3) := by decide +kernel
theorem dJ0_coder_7d493_13 : decode cJ0_coder_7d493 13 = .ok (.iconst 1, 1) := by decide +kernel
theorem dJ0_coder_7d493_14 : decode cJ0_coder_7d493 14 = .ok (.ireturn, 1) := by decide +kernel
theorem dJ0_isLatin1_aae02_0 : decode cJ0_isLatin1_aae02 0 = .ok (.getstatic 38, 3) := by decide +kernel
theorem dJ0_isLatin1_aae02_3 : decode cJ0_isLatin1_aae02 3 = .ok (.ifCond .eq 14, 3) := by decide +kernel
theorem dJ0_isLatin1_aae02_6 : decode cJ0_isLatin1_aae02 6 = .ok (.aload_n 0, 1) := by decide +kernel
theorem dJ0_isLatin1_aae02_7 : decode cJ0_isLatin1_aae02 7 = .ok (.getfield 15, 3) := by decide +kernel
theorem dJ0_isLatin1_aae02_10 : decode cJ0_isLatin1_aae02 10 = .ok (.ifCond .ne 7, 3) := by decide +kernel
theorem dJ0_isLatin1_aae02_13 : decode cJ0_isLatin1_aae02 13 = .ok (.iconst 1, 1) := by decide +kernel
theorem dJ0_isLatin1_aae02_14 : decode cJ0_isLatin1_aae02 14 = .ok (.goto 4, 3) := by decide +kernel
theorem dJ0_isLatin1_aae02_17 : decode cJ0_isLatin1_aae02 17 = .ok (.iconst 0, 1) := by decide +kernel
theorem dJ0_isLatin1_aae02_18 : decode cJ0_isLatin1_aae02 18 = .ok (.ireturn, 1) := by decide +kernel
theorem dJ0_checkIndex_df160_0 : decode cJ0_checkIndex_df160 0 = .ok (.iload_n 0, 1) := by decide +kernel
theorem dJ0_checkIndex_df160_1 : decode cJ0_checkIndex_df160 1 = .ok (.iload_n 1, 1) := by decide +kernel
theorem dJ0_checkIndex_df160_2 : decode cJ0_checkIndex_df160 2 = .ok (.getstatic 1053, 3) := by decide +kernel
theorem dJ0_checkIndex_df160_5 : decode cJ0_checkIndex_df160 5 = .ok (.invokestatic 1059, 3) := by decide +kernel
theorem dJ0_checkIndex_df160_8 : decode cJ0_checkIndex_df160 8 = .ok (.pop, 1) := by decide +kernel
theorem dJ0_checkIndex_df160_9 : decode cJ0_checkIndex_df160 9 = .ok (.return_, 1) := by decide +kernel
theorem dJ1_charAt_3b067_0 : decode cJ1_charAt_3b067 0 = .ok (.iload_n 1, 1) := by decide +kernel
theorem dJ1_charAt_3b067_1 : decode cJ1_charAt_3b067 1 = .ok (.aload_n 0, 1) := by decide +kernel
theorem dJ1_charAt_3b067_2 : decode cJ1_charAt_3b067 2 = .ok (.arraylength, 1) := by decide +kernel
theorem dJ1_charAt_3b067_3 : decode cJ1_charAt_3b067 3 = .ok (.invokestatic 9, 3) := by decide +kernel
theorem dJ1_charAt_3b067_6 : decode cJ1_charAt_3b067 6 = .ok (.aload_n 0, 1) := by decide +kernel
theorem dJ1_charAt_3b067_7 : decode cJ1_charAt_3b067 7 = .ok (.iload_n 1, 1) := by decide +kernel
theorem dJ1_charAt_3b067_8 : decode cJ1_charAt_3b067 8 = .ok (.baload, 1) := by decide +kernel
theorem dJ1_charAt_3b067_9 : decode cJ1_charAt_3b067 9 = .ok (.sipush 255, 3) := by decide +kernel
theorem dJ1_charAt_3b067_12 : decode cJ1_charAt_3b067 12 = .ok (.iand, 1) := by decide +kernel
theorem dJ1_charAt_3b067_13 : decode cJ1_charAt_3b067 13 = .ok (.i2c, 1) := by decide +kernel
theorem dJ1_charAt_3b067_14 : decode cJ1_charAt_3b067 14 = .ok (.ireturn, 1) := by decide +kernel
theorem dJ2_getChar_3b067_0 : decode cJ2_getChar_3b067 0 = .ok (.getstatic 44, 3) := by decide +kernel
theorem dJ2_getChar_3b067_3 : decode cJ2_getChar_3b067 3 = .ok (.ifCond .ne 25, 3) := by decide +kernel
theorem dJ2_getChar_3b067_6 : decode cJ2_getChar_3b067 6 = .ok (.iload_n 1, 1) := by decide +kernel
theorem dJ2_getChar_3b067_7 : decode cJ2_getChar_3b067 7 = .ok (.ifCond .lt 11, 3) := by decide +kernel
theorem dJ2_getChar_3b067_10 : decode cJ2_getChar_3b067 10 = .ok (.iload_n 1, 1) := by decide +kernel
theorem dJ2_getChar_3b067_11 : decode cJ2_getChar_3b067 11 = .ok (.aload_n 0, 1) := by decide +kernel
theorem dJ2_getChar_3b067_12 : decode cJ2_getChar_3b067 12 = .ok (.invokestatic 48, 3) := by decide +kernel
theorem dJ2_getChar_3b067_15 : decode cJ2_getChar_3b067 15 = .ok (.if_icmp .lt 13, 3) := by decide +kernel
theorem dJ2_getChar_3b067_18 : decode cJ2_getChar_3b067 18 = .ok (.new 52, 3) := by decide +kernel
theorem dJ2_getChar_3b067_21 : decode cJ2_getChar_3b067 21 = .ok (.dup, 1) := by decide +kernel
theorem dJ2_getChar_3b067_22 : decode cJ2_getChar_3b067 22 = .ok (.ldc 54, 2) := by decide +kernel
theorem dJ2_getChar_3b067_24 : decode cJ2_getChar_3b067 24 = .ok (.invokespecial 56, 3) := by decide +kernel
theorem dJ2_getChar_3b067_27 : decode cJ2_getChar_3b067 27 = .ok (.athrow, 1) := by decide +kernel
theorem dJ2_getChar_3b067_28 : decode cJ2_getChar_3b067 28 = .ok (.iload_n 1, 1) := by decide +kernel
theorem dJ2_getChar_3b067_29 : decode cJ2_getChar_3b067 29 = .ok (.iconst 1, 1) := by decide +kernel
theorem dJ2_getChar_3b067_30 : decode cJ2_getChar_3b067 30 = .ok (.ishl, 1) := by decide +kernel
theorem dJ2_getChar_3b067_31 : decode cJ2_getChar_3b067 31 = .ok (.istore_n 1, 1) := by decide +kernel
theorem dJ2_getChar_3b067_32 : decode cJ2_getChar_3b067 32 = .ok (.aload_n 0, 1) := by decide +kernel
theorem dJ2_getChar_3b067_33 : decode cJ2_getChar_3b067 33 = .ok (.iload_n 1, 1) := by decide +kernel
theorem dJ2_getChar_3b067_34 : decode cJ2_getChar_3b067 34 = .ok (.iinc 1 1, 3) := by decide +kernel
theorem dJ2_getChar_3b067_37 : decode cJ2_getChar_3b067 37 = .ok (.baload, 1) := by decide +kernel
theorem dJ2_getChar_3b067_38 : decode cJ2_getChar_3b067 38 = .ok (.sipush 255, 3) := by decide +kernel
theorem dJ2_getChar_3b067_41 : decode cJ2_getChar_3b067 41 = .ok (.iand, 1) := by decide +kernel
theorem dJ2_getChar_3b067_42 : decode cJ2_getChar_3b067 42 = .ok (.getstatic 59, 3) := by decide +kernel
theorem dJ2_getChar_3b067_45 : decode cJ2_getChar_3b067 45 = .ok (.ishl, 1) := by decide +kernel
theorem dJ2_getChar_3b067_46 : decode cJ2_getChar_3b067 46 = .ok (.aload_n 0, 1) := by decide +kernel
theorem dJ2_getChar_3b067_47 : decode cJ2_getChar_3b067 47 = .ok (.iload_n 1, 1) := by decide +kernel
theorem dJ2_getChar_3b067_48 : decode cJ2_getChar_3b067 48 = .ok (.baload, 1) := by decide +kernel
theorem dJ2_getChar_3b067_49 : decode cJ2_getChar_3b067 49 = .ok (.sipush 255, 3) := by decide +kernel
theorem dJ2_getChar_3b067_52 : decode cJ2_getChar_3b067 52 = .ok (.iand, 1) := by decide +kernel
theorem dJ2_getChar_3b067_53 : decode cJ2_getChar_3b067 53 = .ok (.getstatic 63, 3) := by decide +kernel
theorem dJ2_getChar_3b067_56 : decode cJ2_getChar_3b067 56 = .ok (.ishl, 1) := by decide +kernel
theorem dJ2_getChar_3b067_57 : decode cJ2_getChar_3b067 57 = .ok (.ior, 1) := by decide +kernel
theorem dJ2_getChar_3b067_58 : decode cJ2_getChar_3b067 58 = .ok (.i2c, 1) := by decide +kernel
theorem dJ2_getChar_3b067_59 : decode cJ2_getChar_3b067 59 = .ok (.ireturn, 1) := by decide +kernel
theorem dJ2_length_9d52b_0 : decode cJ2_length_9d52b 0 = .ok (.aload_n 0, 1) := by decide +kernel
theorem dJ2_length_9d52b_1 : decode cJ2_length_9d52b 1 = .ok (.arraylength, 1) := by decide +kernel
theorem dJ2_length_9d52b_2 : decode cJ2_length_9d52b 2 = .ok (.iconst 1, 1) := by decide +kernel
theorem dJ2_length_9d52b_3 : decode cJ2_length_9d52b 3 = .ok (.ishr, 1) := by decide +kernel
theorem dJ2_length_9d52b_4 : decode cJ2_length_9d52b 4 = .ok (.ireturn, 1) := by decide +kernel
theorem dJ2_charAt_3b067_0 : decode cJ2_charAt_3b067 0 = .ok (.iload_n 1, 1) := by decide +kernel
theorem dJ2_charAt_3b067_1 : decode cJ2_charAt_3b067 1 = .ok (.aload_n 0, 1) := by decide +kernel
theorem dJ2_charAt_3b067_2 : decode cJ2_charAt_3b067 2 = .ok (.invokestatic 67, 3) := by decide +kernel
theorem dJ2_charAt_3b067_5 : decode cJ2_charAt_3b067 5 = .ok (.aload_n 0, 1) := by decide +kernel
theorem dJ2_charAt_3b067_6 : decode cJ2_charAt_3b067 6 = .ok (.iload_n 1, 1) := by decide +kernel
theorem dJ2_charAt_3b067_7 : decode cJ2_charAt_3b067 7 = .ok (.invokestatic 71, 3) := by decide +kernel
theorem dJ2_charAt_3b067_10 : decode cJ2_charAt_3b067 10 = .ok (.ireturn, 1) := by decide +kernel
theorem dJ2_checkIndex_2214a_0 : decode cJ2_checkIndex_2214a 0 = .ok (.iload_n 0, 1) := by decide +kernel
theorem dJ2_checkIndex_2214a_1 : decode cJ2_checkIndex_2214a 1 = .ok (.aload_n 1, 1) := by decide +kernel
theorem dJ2_checkIndex_2214a_2 : decode cJ2_checkIndex_2214a 2 = .ok (.invokestatic 48, 3) := by decide +kernel
theorem dJ2_checkIndex_2214a_5 : decode cJ2_checkIndex_2214a 5 = .ok (.invokestatic 414, 3) := by decide +kernel
theorem dJ2_checkIndex_2214a_8 : decode cJ2_checkIndex_2214a 8 = .ok (.return_, 1) := by decide +kernel
theorem dJ3_checkIndex_8e157_0 : decode cJ3_checkIndex_8e157 0 = .ok (.iload_n 0, 1) := by decide +kernel
theorem dJ3_checkIndex_8e157_1 : decode cJ3_checkIndex_8e157 1 = .ok (.ifCond .lt 8, 3) := by decide +kernel
theorem dJ3_checkIndex_8e157_4 : decode cJ3_checkIndex_8e157 4 = .ok (.iload_n 0, 1) := by decide +kernel
theorem dJ3_checkIndex_8e157_5 : decode cJ3_checkIndex_8e157 5 = .ok (.iload_n 1, 1) := by decide +kernel
theorem dJ3_checkIndex_8e157_6 : decode cJ3_checkIndex_8e157 6 = .ok (.if_icmp .lt 10, 3) := by decide +kernel
theorem dJ3_checkIndex_8e157_9 : decode cJ3_checkIndex_8e157 9 = .ok (.aload_n 2, 1) := by decide +kernel
theorem dJ3_checkIndex_8e157_10 : decode cJ3_checkIndex_8e157 10 = .ok (.iload_n 0, 1) := by decide +kernel
theorem dJ3_checkIndex_8e157_11 : decode cJ3_checkIndex_8e157 11 = .ok (.iload_n 1, 1) := by decide +kernel
theorem dJ3_checkIndex_8e157_12 : decode cJ3_checkIndex_8e157 12 = .ok (.invokestatic 95, 3) := by decide +kernel
theorem dJ3_checkIndex_8e157_15 : decode cJ3_checkIndex_8e157 15 = .ok (.athrow, 1) := by decide +kernel
theorem dJ3_checkIndex_8e157_16 : decode cJ3_checkIndex_8e157 16 = .ok (.iload_n 0, 1) := by decide +kernel
theorem dJ3_checkIndex_8e157_17 : decode cJ3_checkIndex_8e157 17 = .ok (.ireturn, 1) := by decide +kernel
