theorem dX0_init_0 : decode cX0_init 0 = .ok (.aload_n 0, 1) := by decide +kernel
theorem dX0_init_1 : decode cX0_init 1 = .ok (.invokespecial 1, 3) := by decide +kernel
theorem dX0_init_4 : decode cX0_init 4 = .ok (.aload_n 0, 1) := by decide +kernel
theorem dX0_init_5 : decode cX0_init 5 = .ok (.lconst 0, 1) := by decide +kernel
theorem dX0_init_6 : decode cX0_init 6 = .ok (.putfield 7, 3) := by decide +kernel
theorem dX0_init_9 : decode cX0_init 9 = .ok (.aload_n 0, 1) := by decide +kernel
theorem dX0_init_10 : decode cX0_init 10 = .ok (.lconst 1, 1) := by decide +kernel
theorem dX0_init_11 : decode cX0_init 11 = .ok (.putfield 13, 3) := by decide +kernel
theorem dX0_init_14 : decode cX0_init 14 = .ok (.return_, 1) := by decide +kernel
theorem dX0_setChance_0 : decode cX0_setChance 0 = .ok (.iload_n 2, 1) := by decide +kernel
theorem dX0_setChance_1 : decode cX0_setChance 1 = .ok (.ifCond .lt 8, 3) := by decide +kernel
theorem dX0_setChance_4 : decode cX0_setChance 4 = .ok (.iload_n 2, 1) := by decide +kernel
theorem dX0_setChance_5 : decode cX0_setChance 5 = .ok (.iload_n 1, 1) := by decide +kernel
theorem dX0_setChance_6 : decode cX0_setChance 6 = .ok (.if_icmp .le 10, 3) := by decide +kernel
theorem dX0_setChance_9 : decode cX0_setChance 9 = .ok (.aload_n 0, 1) := by decide +kernel
theorem dX0_setChance_10 : decode cX0_setChance 10 = .ok (.lconst 0, 1) := by decide +kernel
theorem dX0_setChance_11 : decode cX0_setChance 11 = .ok (.lconst 1, 1) := by decide +kernel
theorem dX0_setChance_12 : decode cX0_setChance 12 = .ok (.invokevirtual 16, 3) := by decide +kernel
theorem dX0_setChance_15 : decode cX0_setChance 15 = .ok (.return_, 1) := by decide +kernel
theorem dX0_setChance_16 : decode cX0_setChance 16 = .ok (.iload_n 1, 1) := by decide +kernel
theorem dX0_setChance_17 : decode cX0_setChance 17 = .ok (.iload_n 2, 1) := by decide +kernel
theorem dX0_setChance_18 : decode cX0_setChance 18 = .ok (.invokestatic 20, 3) := by decide +kernel
theorem dX0_setChance_21 : decode cX0_setChance 21 = .ok (.lstore 5, 2) := by decide +kernel
theorem dX0_setChance_23 : decode cX0_setChance 23 = .ok (.aload_n 0, 1) := by decide +kernel
theorem dX0_setChance_24 : decode cX0_setChance 24 = .ok (.lload 5, 2) := by decide +kernel
theorem dX0_setChance_26 : decode cX0_setChance 26 = .ok (.iload_n 3, 1) := by decide +kernel
theorem dX0_setChance_27 : decode cX0_setChance 27 = .ok (.iload_n 2, 1) := by decide +kernel
theorem dX0_setChance_28 : decode cX0_setChance 28 = .ok (.invokestatic 24, 3) := by decide +kernel
theorem dX0_setChance_31 : decode cX0_setChance 31 = .ok (.lmul, 1) := by decide +kernel
theorem dX0_setChance_32 : decode cX0_setChance 32 = .ok (.iload 4, 2) := by decide +kernel
theorem dX0_setChance_34 : decode cX0_setChance 34 = .ok (.iload_n 3, 1) := by decide +kernel
theorem dX0_setChance_35 : decode cX0_setChance 35 = .ok (.isub, 1) := by decide +kernel
theorem dX0_setChance_36 : decode cX0_setChance 36 = .ok (.iload_n 1, 1) := by decide +kernel
theorem dX0_setChance_37 : decode cX0_setChance 37 = .ok (.iload_n 2, 1) := by decide +kernel
theorem dX0_setChance_38 : decode cX0_setChance 38 = .ok (.isub, 1) := by decide +kernel
theorem dX0_setChance_39 : decode cX0_setChance 39 = .ok (.invokestatic 24, 3) := by decide +kernel
theorem dX0_setChance_42 : decode cX0_setChance 42 = .ok (.lmul, 1) := by decide +kernel
theorem dX0_setChance_43 : decode cX0_setChance 43 = .ok (.iload 4, 2) := by decide +kernel
theorem dX0_setChance_45 : decode cX0_setChance 45 = .ok (.iload_n 1, 1) := by decide +kernel
theorem dX0_setChance_46 : decode cX0_setChance 46 = .ok (.invokestatic 24, 3) := by decide +kernel
theorem dX0_setChance_49 : decode cX0_setChance 49 = .ok (.invokevirtual 16, 3) := by decide +kernel
theorem dX0_setChance_52 : decode cX0_setChance 52 = .ok (.return_, 1) := by decide +kernel
theorem dX0_setLowest_0 : decode cX0_setLowest 0 = .ok (.lload_n 1, 1) := by decide +kernel
theorem dX0_setLowest_1 : decode cX0_setLowest 1 = .ok (.lload_n 3, 1) := by decide +kernel
theorem dX0_setLowest_2 : decode cX0_setLowest 2 = .ok (.invokestatic 27, 3) := by decide +kernel
theorem dX0_setLowest_5 : decode cX0_setLowest 5 = .ok (.lstore 5, 2) := by decide +kernel
theorem dX0_setLowest_7 : decode cX0_setLowest 7 = .ok (.lload 5, 2) := by decide +kernel
theorem dX0_setLowest_9 : decode cX0_setLowest 9 = .ok (.lconst 1, 1) := by decide +kernel
theorem dX0_setLowest_10 : decode cX0_setLowest 10 = .ok (.lcmp, 1) := by decide +kernel
theorem dX0_setLowest_11 : decode cX0_setLowest 11 = .ok (.ifCond .ge 4, 3) := by decide +kernel
theorem dX0_setLowest_14 : decode cX0_setLowest 14 = .ok (.return_, 1) := by decide +kernel
theorem dX0_setLowest_15 : decode cX0_setLowest 15 = .ok (.aload_n 0, 1) := by decide +kernel
theorem dX0_setLowest_16 : decode cX0_setLowest 16 = .ok (.lload_n 1, 1) := by decide +kernel
theorem dX0_setLowest_17 : decode cX0_setLowest 17 = .ok (.lload 5, 2) := by decide +kernel
theorem dX0_setLowest_19 : decode cX0_setLowest 19 = .ok (.ldiv, 1) := by decide +kernel
theorem dX0_setLowest_20 : decode cX0_setLowest 20 = .ok (.putfield 7, 3) := by decide +kernel
theorem dX0_setLowest_23 : decode cX0_setLowest 23 = .ok (.aload_n 0, 1) := by decide +kernel
theorem dX0_setLowest_24 : decode cX0_setLowest 24 = .ok (.lload_n 3, 1) := by decide +kernel
theorem dX0_setLowest_25 : decode cX0_setLowest 25 = .ok (.lload 5, 2) := by decide +kernel
theorem dX0_setLowest_27 : decode cX0_setLowest 27 = .ok (.ldiv, 1) := by decide +kernel
theorem dX0_setLowest_28 : decode cX0_setLowest 28 = .ok (.putfield 13, 3) := by decide +kernel
theorem dX0_setLowest_31 : decode cX0_setLowest 31 = .ok (.return_, 1) := by decide +kernel
theorem dX0_commonPart_0 : decode cX0_commonPart 0 = .ok (.lload_n 0, 1) := by decide +kernel
theorem dX0_commonPart_1 : decode cX0_commonPart 1 = .ok (.lstore 4, 2) := by decide +kernel
theorem dX0_commonPart_3 : decode cX0_commonPart 3 = .ok (.lload_n 2, 1) := by decide +kernel
theorem dX0_commonPart_4 : decode cX0_commonPart 4 = .ok (.lstore 6, 2) := by decide +kernel
theorem dX0_commonPart_6 : decode cX0_commonPart 6 = .ok (.iconst 0, 1) := by decide +kernel
theorem dX0_commonPart_7 : decode cX0_commonPart 7 = .ok (.istore 8, 2) := by decide +kernel
theorem dX0_commonPart_9 : decode cX0_commonPart 9 = .ok (.iload 8, 2) := by decide +kernel
theorem dX0_commonPart_11 : decode cX0_commonPart 11 = .ok (.bipush 100, 2) := by decide +kernel
theorem dX0_commonPart_13 : decode cX0_commonPart 13 = .ok (.if_icmp .ge 31, 3) := by decide +kernel
theorem dX0_commonPart_16 : decode cX0_commonPart 16 = .ok (.lload 6, 2) := by decide +kernel
theorem dX0_commonPart_18 : decode cX0_commonPart 18 = .ok (.lconst 0, 1) := by decide +kernel
theorem dX0_commonPart_19 : decode cX0_commonPart 19 = .ok (.lcmp, 1) := by decide +kernel
theorem dX0_commonPart_20 : decode cX0_commonPart 20 = .ok (.ifCond .eq 24, 3) := by decide +kernel
theorem dX0_commonPart_23 : decode cX0_commonPart 23 = .ok (.lload 4, 2) := by decide +kernel
theorem dX0_commonPart_25 : decode cX0_commonPart 25 = .ok (.lload 6, 2) := by decide +kernel
theorem dX0_commonPart_27 : decode cX0_commonPart 27 = .ok (.lrem, 1) := by decide +kernel
theorem dX0_commonPart_28 : decode cX0_commonPart 28 = .ok (.lstore 9, 2) := by decide +kernel
theorem dX0_commonPart_30 : decode cX0_commonPart 30 = .ok (.lload 6, 2) := by decide +kernel
theorem dX0_commonPart_32 : decode cX0_commonPart 32 = .ok (.lstore 4, 2) := by decide +kernel
theorem dX0_commonPart_34 : decode cX0_commonPart 34 = .ok (.lload 9, 2) := by decide +kernel
theorem dX0_commonPart_36 : decode cX0_commonPart 36 = .ok (.lstore 6, 2) := by decide +kernel
theorem dX0_commonPart_38 : decode cX0_commonPart 38 = .ok (.iinc 8 1, 3) := by decide +kernel
theorem dX0_commonPart_41 : decode cX0_commonPart 41 = .ok (.goto (-32), 3) := by decide +kernel
theorem dX0_commonPart_44 : decode cX0_commonPart 44 = .ok (.lload 4, 2) := by decide +kernel
theorem dX0_commonPart_46 : decode cX0_commonPart 46 = .ok (.lreturn, 1) := by decide +kernel
theorem dX0_power_0 : decode cX0_power 0 = .ok (.lconst 1, 1) := by decide +kernel
theorem dX0_power_1 : decode cX0_power 1 = .ok (.lstore_n 2, 1) := by decide +kernel
theorem dX0_power_2 : decode cX0_power 2 = .ok (.iconst 0, 1) := by decide +kernel
theorem dX0_power_3 : decode cX0_power 3 = .ok (.istore 4, 2) := by decide +kernel
theorem dX0_power_5 : decode cX0_power 5 = .ok (.iload 4, 2) := by decide +kernel
theorem dX0_power_7 : decode cX0_power 7 = .ok (.iload_n 1, 1) := by decide +kernel
theorem dX0_power_8 : decode cX0_power 8 = .ok (.if_icmp .ge 14, 3) := by decide +kernel
theorem dX0_power_11 : decode cX0_power 11 = .ok (.lload_n 2, 1) := by decide +kernel
theorem dX0_power_12 : decode cX0_power 12 = .ok (.iload_n 0, 1) := by decide +kernel
theorem dX0_power_13 : decode cX0_power 13 = .ok (.i2l, 1) := by decide +kernel
theorem dX0_power_14 : decode cX0_power 14 = .ok (.lmul, 1) := by decide +kernel
theorem dX0_power_15 : decode cX0_power 15 = .ok (.lstore_n 2, 1) := by decide +kernel
theorem dX0_power_16 : decode cX0_power 16 = .ok (.iinc 4 1, 3) := by decide +kernel
theorem dX0_power_19 : decode cX0_power 19 = .ok (.goto (-14), 3) := by decide +kernel
theorem dX0_power_22 : decode cX0_power 22 = .ok (.lload_n 2, 1) := by decide +kernel
theorem dX0_power_23 : decode cX0_power 23 = .ok (.lreturn, 1) := by decide +kernel
theorem dX0_chosen_0 : decode cX0_chosen 0 = .ok (.lconst 1, 1) := by decide +kernel
theorem dX0_chosen_1 : decode cX0_chosen 1 = .ok (.lstore_n 2, 1) := by decide +kernel
theorem dX0_chosen_2 : decode cX0_chosen 2 = .ok (.iconst 1, 1) := by decide +kernel
theorem dX0_chosen_3 : decode cX0_chosen 3 = .ok (.istore 4, 2) := by decide +kernel
theorem dX0_chosen_5 : decode cX0_chosen 5 = .ok (.iload 4, 2) := by decide +kernel
theorem dX0_chosen_7 : decode cX0_chosen 7 = .ok (.iload_n 1, 1) := by decide +kernel
theorem dX0_chosen_8 : decode cX0_chosen 8 = .ok (.if_icmp .gt 23, 3) := by decide +kernel
theorem dX0_chosen_11 : decode cX0_chosen 11 = .ok (.lload_n 2, 1) := by decide +kernel
theorem dX0_chosen_12 : decode cX0_chosen 12 = .ok (.iload_n 0, 1) := by decide +kernel
theorem dX0_chosen_13 : decode cX0_chosen 13 = .ok (.iload_n 1, 1) := by decide +kernel
theorem dX0_chosen_14 : decode cX0_chosen 14 = .ok (.isub, 1) := by decide +kernel
theorem dX0_chosen_15 : decode cX0_chosen 15 = .ok (.iload 4, 2) := by decide +kernel
theorem dX0_chosen_17 : decode cX0_chosen 17 = .ok (.iadd, 1) := by decide +kernel
theorem dX0_chosen_18 : decode cX0_chosen 18 = .ok (.i2l, 1) := by decide +kernel
theorem dX0_chosen_19 : decode cX0_chosen 19 = .ok (.lmul, 1) := by decide +kernel
theorem dX0_chosen_20 : decode cX0_chosen 20 = .ok (.iload 4, 2) := by decide +kernel
theorem dX0_chosen_22 : decode cX0_chosen 22 = .ok (.i2l, 1) := by decide +kernel
theorem dX0_chosen_23 : decode cX0_chosen 23 = .ok (.ldiv, 1) := by decide +kernel
theorem dX0_chosen_24 : decode cX0_chosen 24 = .ok (.lstore_n 2, 1) := by decide +kernel
theorem dX0_chosen_25 : decode cX0_chosen 25 = .ok (.iinc 4 1, 3) := by decide +kernel
theorem dX0_chosen_28 : decode cX0_chosen 28 = .ok (.goto (-23), 3) := by decide +kernel
theorem dX0_chosen_31 : decode cX0_chosen 31 = .ok (.lload_n 2, 1) := by decide +kernel
theorem dX0_chosen_32 : decode cX0_chosen 32 = .ok (.lreturn, 1) := by decide +kernel
theorem dX1_length_0 : decode cX1_length 0 = .ok (.lload_n 0, 1) := by decide +kernel
theorem dX1_length_1 : decode cX1_length 1 = .ok (.ldc2_w 11, 3) := by decide +kernel
theorem dX1_length_4 : decode cX1_length 4 = .ok (.land, 1) := by decide +kernel
theorem dX1_length_5 : decode cX1_length 5 = .ok (.l2i, 1) := by decide +kernel
theorem dX1_length_6 : decode cX1_length 6 = .ok (.ireturn, 1) := by decide +kernel
theorem dX1_syllable_0 : decode cX1_syllable 0 = .ok (.lload_n 0, 1) := by decide +kernel
theorem dX1_syllable_1 : decode cX1_syllable 1 = .ok (.iconst 4, 1) := by decide +kernel
theorem dX1_syllable_2 : decode cX1_syllable 2 = .ok (.iload_n 2, 1) := by decide +kernel
theorem dX1_syllable_3 : decode cX1_syllable 3 = .ok (.iconst 1, 1) := by decide +kernel
theorem dX1_syllable_4 : decode cX1_syllable 4 = .ok (.iadd, 1) := by decide +kernel
theorem dX1_syllable_5 : decode cX1_syllable 5 = .ok (.imul, 1) := by decide +kernel
theorem dX1_syllable_6 : decode cX1_syllable 6 = .ok (.lushr, 1) := by decide +kernel
theorem dX1_syllable_7 : decode cX1_syllable 7 = .ok (.ldc2_w 11, 3) := by decide +kernel
theorem dX1_syllable_10 : decode cX1_syllable 10 = .ok (.land, 1) := by decide +kernel
theorem dX1_syllable_11 : decode cX1_syllable 11 = .ok (.l2i, 1) := by decide +kernel
theorem dX1_syllable_12 : decode cX1_syllable 12 = .ok (.ireturn, 1) := by decide +kernel
theorem dX1_longer_0 : decode cX1_longer 0 = .ok (.lload_n 0, 1) := by decide +kernel
theorem dX1_longer_1 : decode cX1_longer 1 = .ok (.ldc2_w 11, 3) := by decide +kernel
theorem dX1_longer_4 : decode cX1_longer 4 = .ok (.land, 1) := by decide +kernel
theorem dX1_longer_5 : decode cX1_longer 5 = .ok (.l2i, 1) := by decide +kernel
theorem dX1_longer_6 : decode cX1_longer 6 = .ok (.istore_n 3, 1) := by decide +kernel
theorem dX1_longer_7 : decode cX1_longer 7 = .ok (.iload_n 3, 1) := by decide +kernel
theorem dX1_longer_8 : decode cX1_longer 8 = .ok (.bipush 12, 2) := by decide +kernel
theorem dX1_longer_10 : decode cX1_longer 10 = .ok (.if_icmp .lt 5, 3) := by decide +kernel
theorem dX1_longer_13 : decode cX1_longer 13 = .ok (.lload_n 0, 1) := by decide +kernel
theorem dX1_longer_14 : decode cX1_longer 14 = .ok (.lreturn, 1) := by decide +kernel
theorem dX1_longer_15 : decode cX1_longer 15 = .ok (.lload_n 0, 1) := by decide +kernel
theorem dX1_longer_16 : decode cX1_longer 16 = .ok (.iload_n 2, 1) := by decide +kernel
theorem dX1_longer_17 : decode cX1_longer 17 = .ok (.i2l, 1) := by decide +kernel
theorem dX1_longer_18 : decode cX1_longer 18 = .ok (.iconst 4, 1) := by decide +kernel
theorem dX1_longer_19 : decode cX1_longer 19 = .ok (.iload_n 3, 1) := by decide +kernel
theorem dX1_longer_20 : decode cX1_longer 20 = .ok (.iconst 1, 1) := by decide +kernel
theorem dX1_longer_21 : decode cX1_longer 21 = .ok (.iadd, 1) := by decide +kernel
theorem dX1_longer_22 : decode cX1_longer 22 = .ok (.imul, 1) := by decide +kernel
theorem dX1_longer_23 : decode cX1_longer 23 = .ok (.lshl, 1) := by decide +kernel
theorem dX1_longer_24 : decode cX1_longer 24 = .ok (.lor, 1) := by decide +kernel
theorem dX1_longer_25 : decode cX1_longer 25 = .ok (.lconst 1, 1) := by decide +kernel
theorem dX1_longer_26 : decode cX1_longer 26 = .ok (.ladd, 1) := by decide +kernel
theorem dX1_longer_27 : decode cX1_longer 27 = .ok (.lreturn, 1) := by decide +kernel
theorem dX1_cut_0 : decode cX1_cut 0 = .ok (.iload_n 2, 1) := by decide +kernel
theorem dX1_cut_1 : decode cX1_cut 1 = .ok (.i2l, 1) := by decide +kernel
theorem dX1_cut_2 : decode cX1_cut 2 = .ok (.lload_n 0, 1) := by decide +kernel
theorem dX1_cut_3 : decode cX1_cut 3 = .ok (.ldc2_w 11, 3) := by decide +kernel
theorem dX1_cut_6 : decode cX1_cut 6 = .ok (.land, 1) := by decide +kernel
theorem dX1_cut_7 : decode cX1_cut 7 = .ok (.lcmp, 1) := by decide +kernel
theorem dX1_cut_8 : decode cX1_cut 8 = .ok (.ifCond .lt 5, 3) := by decide +kernel
theorem dX1_cut_11 : decode cX1_cut 11 = .ok (.lload_n 0, 1) := by decide +kernel
theorem dX1_cut_12 : decode cX1_cut 12 = .ok (.lreturn, 1) := by decide +kernel
theorem dX1_cut_13 : decode cX1_cut 13 = .ok (.iload_n 2, 1) := by decide +kernel
theorem dX1_cut_14 : decode cX1_cut 14 = .ok (.ifCond .gt 5, 3) := by decide +kernel
theorem dX1_cut_17 : decode cX1_cut 17 = .ok (.lconst 0, 1) := by decide +kernel
theorem dX1_cut_18 : decode cX1_cut 18 = .ok (.lreturn, 1) := by decide +kernel
theorem dX1_cut_19 : decode cX1_cut 19 = .ok (.lconst 1, 1) := by decide +kernel
theorem dX1_cut_20 : decode cX1_cut 20 = .ok (.iconst 4, 1) := by decide +kernel
theorem dX1_cut_21 : decode cX1_cut 21 = .ok (.iload_n 2, 1) := by decide +kernel
theorem dX1_cut_22 : decode cX1_cut 22 = .ok (.iconst 1, 1) := by decide +kernel
theorem dX1_cut_23 : decode cX1_cut 23 = .ok (.iadd, 1) := by decide +kernel
theorem dX1_cut_24 : decode cX1_cut 24 = .ok (.imul, 1) := by decide +kernel
theorem dX1_cut_25 : decode cX1_cut 25 = .ok (.lshl, 1) := by decide +kernel
theorem dX1_cut_26 : decode cX1_cut 26 = .ok (.lconst 1, 1) := by decide +kernel
theorem dX1_cut_27 : decode cX1_cut 27 = .ok (.lsub, 1) := by decide +kernel
theorem dX1_cut_28 : decode cX1_cut 28 = .ok (.lstore_n 3, 1) := by decide +kernel
theorem dX1_cut_29 : decode cX1_cut 29 = .ok (.lload_n 0, 1) := by decide +kernel
theorem dX1_cut_30 : decode cX1_cut 30 = .ok (.lload_n 3, 1) := by decide +kernel
theorem dX1_cut_31 : decode cX1_cut 31 = .ok (.land, 1) := by decide +kernel
theorem dX1_cut_32 : decode cX1_cut 32 = .ok (.ldc2_w 13, 3) := by decide +kernel
theorem dX1_cut_35 : decode cX1_cut 35 = .ok (.land, 1) := by decide +kernel
theorem dX1_cut_36 : decode cX1_cut 36 = .ok (.iload_n 2, 1) := by decide +kernel
theorem dX1_cut_37 : decode cX1_cut 37 = .ok (.i2l, 1) := by decide +kernel
theorem dX1_cut_38 : decode cX1_cut 38 = .ok (.ladd, 1) := by decide +kernel
theorem dX1_cut_39 : decode cX1_cut 39 = .ok (.lreturn, 1) := by decide +kernel
theorem dX1_led_0 : decode cX1_led 0 = .ok (.lload_n 0, 1) := by decide +kernel
theorem dX1_led_1 : decode cX1_led 1 = .ok (.bipush 11, 2) := by decide +kernel
theorem dX1_led_3 : decode cX1_led 3 = .ok (.invokestatic 15, 3) := by decide +kernel
theorem dX1_led_6 : decode cX1_led 6 = .ok (.lstore_n 3, 1) := by decide +kernel
theorem dX1_led_7 : decode cX1_led 7 = .ok (.lload_n 3, 1) := by decide +kernel
theorem dX1_led_8 : decode cX1_led 8 = .ok (.ldc2_w 13, 3) := by decide +kernel
theorem dX1_led_11 : decode cX1_led 11 = .ok (.land, 1) := by decide +kernel
theorem dX1_led_12 : decode cX1_led 12 = .ok (.iconst 4, 1) := by decide +kernel
theorem dX1_led_13 : decode cX1_led 13 = .ok (.lshl, 1) := by decide +kernel
theorem dX1_led_14 : decode cX1_led 14 = .ok (.lstore 5, 2) := by decide +kernel
theorem dX1_led_16 : decode cX1_led 16 = .ok (.lload 5, 2) := by decide +kernel
theorem dX1_led_18 : decode cX1_led 18 = .ok (.iload_n 2, 1) := by decide +kernel
theorem dX1_led_19 : decode cX1_led 19 = .ok (.i2l, 1) := by decide +kernel
theorem dX1_led_20 : decode cX1_led 20 = .ok (.iconst 4, 1) := by decide +kernel
theorem dX1_led_21 : decode cX1_led 21 = .ok (.lshl, 1) := by decide +kernel
theorem dX1_led_22 : decode cX1_led 22 = .ok (.lor, 1) := by decide +kernel
theorem dX1_led_23 : decode cX1_led 23 = .ok (.lload_n 3, 1) := by decide +kernel
theorem dX1_led_24 : decode cX1_led 24 = .ok (.invokestatic 19, 3) := by decide +kernel
theorem dX1_led_27 : decode cX1_led 27 = .ok (.i2l, 1) := by decide +kernel
theorem dX1_led_28 : decode cX1_led 28 = .ok (.ladd, 1) := by decide +kernel
theorem dX1_led_29 : decode cX1_led 29 = .ok (.lconst 1, 1) := by decide +kernel
theorem dX1_led_30 : decode cX1_led 30 = .ok (.ladd, 1) := by decide +kernel
theorem dX1_led_31 : decode cX1_led 31 = .ok (.lreturn, 1) := by decide +kernel
theorem dX1_turned_0 : decode cX1_turned 0 = .ok (.lconst 0, 1) := by decide +kernel
theorem dX1_turned_1 : decode cX1_turned 1 = .ok (.lstore_n 2, 1) := by decide +kernel
theorem dX1_turned_2 : decode cX1_turned 2 = .ok (.lload_n 0, 1) := by decide +kernel
theorem dX1_turned_3 : decode cX1_turned 3 = .ok (.invokestatic 19, 3) := by decide +kernel
theorem dX1_turned_6 : decode cX1_turned 6 = .ok (.iconst 1, 1) := by decide +kernel
theorem dX1_turned_7 : decode cX1_turned 7 = .ok (.isub, 1) := by decide +kernel
theorem dX1_turned_8 : decode cX1_turned 8 = .ok (.istore 4, 2) := by decide +kernel
theorem dX1_turned_10 : decode cX1_turned 10 = .ok (.iload 4, 2) := by decide +kernel
theorem dX1_turned_12 : decode cX1_turned 12 = .ok (.ifCond .lt 20, 3) := by decide +kernel
theorem dX1_turned_15 : decode cX1_turned 15 = .ok (.lload_n 2, 1) := by decide +kernel
theorem dX1_turned_16 : decode cX1_turned 16 = .ok (.lload_n 0, 1) := by decide +kernel
theorem dX1_turned_17 : decode cX1_turned 17 = .ok (.iload 4, 2) := by decide +kernel
theorem dX1_turned_19 : decode cX1_turned 19 = .ok (.invokestatic 23, 3) := by decide +kernel
theorem dX1_turned_22 : decode cX1_turned 22 = .ok (.invokestatic 27, 3) := by decide +kernel
theorem dX1_turned_25 : decode cX1_turned 25 = .ok (.lstore_n 2, 1) := by decide +kernel
theorem dX1_turned_26 : decode cX1_turned 26 = .ok (.iinc 4 (-1), 3) := by decide +kernel
theorem dX1_turned_29 : decode cX1_turned 29 = .ok (.goto (-19), 3) := by decide +kernel
theorem dX1_turned_32 : decode cX1_turned 32 = .ok (.lload_n 2, 1) := by decide +kernel
theorem dX1_turned_33 : decode cX1_turned 33 = .ok (.lreturn, 1) := by decide +kernel
theorem dX1_raised_0 : decode cX1_raised 0 = .ok (.lconst 0, 1) := by decide +kernel
theorem dX1_raised_1 : decode cX1_raised 1 = .ok (.lstore_n 3, 1) := by decide +kernel
theorem dX1_raised_2 : decode cX1_raised 2 = .ok (.lload_n 0, 1) := by decide +kernel
theorem dX1_raised_3 : decode cX1_raised 3 = .ok (.invokestatic 19, 3) := by decide +kernel
theorem dX1_raised_6 : decode cX1_raised 6 = .ok (.istore 5, 2) := by decide +kernel
theorem dX1_raised_8 : decode cX1_raised 8 = .ok (.iconst 0, 1) := by decide +kernel
theorem dX1_raised_9 : decode cX1_raised 9 = .ok (.istore 6, 2) := by decide +kernel
theorem dX1_raised_11 : decode cX1_raised 11 = .ok (.iload 6, 2) := by decide +kernel
theorem dX1_raised_13 : decode cX1_raised 13 = .ok (.iload 5, 2) := by decide +kernel
theorem dX1_raised_15 : decode cX1_raised 15 = .ok (.if_icmp .ge 25, 3) := by decide +kernel
theorem dX1_raised_18 : decode cX1_raised 18 = .ok (.lload_n 3, 1) := by decide +kernel
theorem dX1_raised_19 : decode cX1_raised 19 = .ok (.lload_n 0, 1) := by decide +kernel
theorem dX1_raised_20 : decode cX1_raised 20 = .ok (.iload 6, 2) := by decide +kernel
theorem dX1_raised_22 : decode cX1_raised 22 = .ok (.invokestatic 23, 3) := by decide +kernel
theorem dX1_raised_25 : decode cX1_raised 25 = .ok (.iload_n 2, 1) := by decide +kernel
theorem dX1_raised_26 : decode cX1_raised 26 = .ok (.iadd, 1) := by decide +kernel
theorem dX1_raised_27 : decode cX1_raised 27 = .ok (.bipush 16, 2) := by decide +kernel
theorem dX1_raised_29 : decode cX1_raised 29 = .ok (.irem, 1) := by decide +kernel
theorem dX1_raised_30 : decode cX1_raised 30 = .ok (.invokestatic 27, 3) := by decide +kernel
theorem dX1_raised_33 : decode cX1_raised 33 = .ok (.lstore_n 3, 1) := by decide +kernel
theorem dX1_raised_34 : decode cX1_raised 34 = .ok (.iinc 6 1, 3) := by decide +kernel
theorem dX1_raised_37 : decode cX1_raised 37 = .ok (.goto (-26), 3) := by decide +kernel
theorem dX1_raised_40 : decode cX1_raised 40 = .ok (.lload_n 3, 1) := by decide +kernel
theorem dX1_raised_41 : decode cX1_raised 41 = .ok (.lreturn, 1) := by decide +kernel
theorem dX1_sounds_0 : decode cX1_sounds 0 = .ok (.iconst 0, 1) := by decide +kernel
theorem dX1_sounds_1 : decode cX1_sounds 1 = .ok (.istore_n 2, 1) := by decide +kernel
theorem dX1_sounds_2 : decode cX1_sounds 2 = .ok (.lload_n 0, 1) := by decide +kernel
theorem dX1_sounds_3 : decode cX1_sounds 3 = .ok (.invokestatic 19, 3) := by decide +kernel
theorem dX1_sounds_6 : decode cX1_sounds 6 = .ok (.istore_n 3, 1) := by decide +kernel
theorem dX1_sounds_7 : decode cX1_sounds 7 = .ok (.iconst 0, 1) := by decide +kernel
theorem dX1_sounds_8 : decode cX1_sounds 8 = .ok (.istore 4, 2) := by decide +kernel
theorem dX1_sounds_10 : decode cX1_sounds 10 = .ok (.iload 4, 2) := by decide +kernel
theorem dX1_sounds_12 : decode cX1_sounds 12 = .ok (.iload_n 3, 1) := by decide +kernel
theorem dX1_sounds_13 : decode cX1_sounds 13 = .ok (.if_icmp .ge 20, 3) := by decide +kernel
theorem dX1_sounds_16 : decode cX1_sounds 16 = .ok (.iload_n 2, 1) := by decide +kernel
theorem dX1_sounds_17 : decode cX1_sounds 17 = .ok (.iconst 1, 1) := by decide +kernel
theorem dX1_sounds_18 : decode cX1_sounds 18 = .ok (.lload_n 0, 1) := by decide +kernel
theorem dX1_sounds_19 : decode cX1_sounds 19 = .ok (.iload 4, 2) := by decide +kernel
theorem dX1_sounds_21 : decode cX1_sounds 21 = .ok (.invokestatic 23, 3) := by decide +kernel
theorem dX1_sounds_24 : decode cX1_sounds 24 = .ok (.ishl, 1) := by decide +kernel
theorem dX1_sounds_25 : decode cX1_sounds 25 = .ok (.ior, 1) := by decide +kernel
theorem dX1_sounds_26 : decode cX1_sounds 26 = .ok (.istore_n 2, 1) := by decide +kernel
theorem dX1_sounds_27 : decode cX1_sounds 27 = .ok (.iinc 4 1, 3) := by decide +kernel
theorem dX1_sounds_30 : decode cX1_sounds 30 = .ok (.goto (-20), 3) := by decide +kernel
theorem dX1_sounds_33 : decode cX1_sounds 33 = .ok (.iload_n 2, 1) := by decide +kernel
theorem dX1_sounds_34 : decode cX1_sounds 34 = .ok (.ireturn, 1) := by decide +kernel
theorem dX1_holds_0 : decode cX1_holds 0 = .ok (.lload_n 0, 1) := by decide +kernel
theorem dX1_holds_1 : decode cX1_holds 1 = .ok (.invokestatic 19, 3) := by decide +kernel
theorem dX1_holds_4 : decode cX1_holds 4 = .ok (.lload_n 2, 1) := by decide +kernel
theorem dX1_holds_5 : decode cX1_holds 5 = .ok (.invokestatic 19, 3) := by decide +kernel
theorem dX1_holds_8 : decode cX1_holds 8 = .ok (.isub, 1) := by decide +kernel
theorem dX1_holds_9 : decode cX1_holds 9 = .ok (.istore 4, 2) := by decide +kernel
theorem dX1_holds_11 : decode cX1_holds 11 = .ok (.iconst 0, 1) := by decide +kernel
theorem dX1_holds_12 : decode cX1_holds 12 = .ok (.istore 5, 2) := by decide +kernel
theorem dX1_holds_14 : decode cX1_holds 14 = .ok (.iload 5, 2) := by decide +kernel
theorem dX1_holds_16 : decode cX1_holds 16 = .ok (.iload 4, 2) := by decide +kernel
theorem dX1_holds_18 : decode cX1_holds 18 = .ok (.if_icmp .gt 21, 3) := by decide +kernel
theorem dX1_holds_21 : decode cX1_holds 21 = .ok (.lload_n 0, 1) := by decide +kernel
theorem dX1_holds_22 : decode cX1_holds 22 = .ok (.iload 5, 2) := by decide +kernel
theorem dX1_holds_24 : decode cX1_holds 24 = .ok (.lload_n 2, 1) := by decide +kernel
theorem dX1_holds_25 : decode cX1_holds 25 = .ok (.invokestatic 30, 3) := by decide +kernel
theorem dX1_holds_28 : decode cX1_holds 28 = .ok (.ifCond .eq 5, 3) := by decide +kernel
theorem dX1_holds_31 : decode cX1_holds 31 = .ok (.iconst 1, 1) := by decide +kernel
theorem dX1_holds_32 : decode cX1_holds 32 = .ok (.ireturn, 1) := by decide +kernel
theorem dX1_holds_33 : decode cX1_holds 33 = .ok (.iinc 5 1, 3) := by decide +kernel
theorem dX1_holds_36 : decode cX1_holds 36 = .ok (.goto (-22), 3) := by decide +kernel
theorem dX1_holds_39 : decode cX1_holds 39 = .ok (.iconst 0, 1) := by decide +kernel
theorem dX1_holds_40 : decode cX1_holds 40 = .ok (.ireturn, 1) := by decide +kernel
theorem dX1_ofCode_0 : decode cX1_ofCode 0 = .ok (.iload_n 0, 1) := by decide +kernel
theorem dX1_ofCode_1 : decode cX1_ofCode 1 = .ok (.ifCond .gt 5, 3) := by decide +kernel
theorem dX1_ofCode_4 : decode cX1_ofCode 4 = .ok (.lconst 0, 1) := by decide +kernel
theorem dX1_ofCode_5 : decode cX1_ofCode 5 = .ok (.lreturn, 1) := by decide +kernel
theorem dX1_ofCode_6 : decode cX1_ofCode 6 = .ok (.iload_n 0, 1) := by decide +kernel
theorem dX1_ofCode_7 : decode cX1_ofCode 7 = .ok (.bipush 16, 2) := by decide +kernel
theorem dX1_ofCode_9 : decode cX1_ofCode 9 = .ok (.if_icmp .gt 11, 3) := by decide +kernel
theorem dX1_ofCode_12 : decode cX1_ofCode 12 = .ok (.lconst 0, 1) := by decide +kernel
theorem dX1_ofCode_13 : decode cX1_ofCode 13 = .ok (.iload_n 0, 1) := by decide +kernel
theorem dX1_ofCode_14 : decode cX1_ofCode 14 = .ok (.iconst 1, 1) := by decide +kernel
theorem dX1_ofCode_15 : decode cX1_ofCode 15 = .ok (.isub, 1) := by decide +kernel
theorem dX1_ofCode_16 : decode cX1_ofCode 16 = .ok (.invokestatic 27, 3) := by decide +kernel
theorem dX1_ofCode_19 : decode cX1_ofCode 19 = .ok (.lreturn, 1) := by decide +kernel
theorem dX1_ofCode_20 : decode cX1_ofCode 20 = .ok (.lconst 0, 1) := by decide +kernel
theorem dX1_ofCode_21 : decode cX1_ofCode 21 = .ok (.iload_n 0, 1) := by decide +kernel
theorem dX1_ofCode_22 : decode cX1_ofCode 22 = .ok (.bipush 17, 2) := by decide +kernel
theorem dX1_ofCode_24 : decode cX1_ofCode 24 = .ok (.idiv, 1) := by decide +kernel
theorem dX1_ofCode_25 : decode cX1_ofCode 25 = .ok (.iconst 1, 1) := by decide +kernel
theorem dX1_ofCode_26 : decode cX1_ofCode 26 = .ok (.isub, 1) := by decide +kernel
theorem dX1_ofCode_27 : decode cX1_ofCode 27 = .ok (.invokestatic 27, 3) := by decide +kernel
theorem dX1_ofCode_30 : decode cX1_ofCode 30 = .ok (.iload_n 0, 1) := by decide +kernel
theorem dX1_ofCode_31 : decode cX1_ofCode 31 = .ok (.bipush 17, 2) := by decide +kernel
theorem dX1_ofCode_33 : decode cX1_ofCode 33 = .ok (.irem, 1) := by decide +kernel
theorem dX1_ofCode_34 : decode cX1_ofCode 34 = .ok (.iconst 1, 1) := by decide +kernel
theorem dX1_ofCode_35 : decode cX1_ofCode 35 = .ok (.isub, 1) := by decide +kernel
theorem dX1_ofCode_36 : decode cX1_ofCode 36 = .ok (.invokestatic 27, 3) := by decide +kernel
theorem dX1_ofCode_39 : decode cX1_ofCode 39 = .ok (.lreturn, 1) := by decide +kernel
theorem dX1_isCode_0 : decode cX1_isCode 0 = .ok (.iload_n 0, 1) := by decide +kernel
theorem dX1_isCode_1 : decode cX1_isCode 1 = .ok (.ifCond .eq 10, 3) := by decide +kernel
theorem dX1_isCode_4 : decode cX1_isCode 4 = .ok (.iload_n 0, 1) := by decide +kernel
theorem dX1_isCode_5 : decode cX1_isCode 5 = .ok (.bipush 17, 2) := by decide +kernel
theorem dX1_isCode_7 : decode cX1_isCode 7 = .ok (.irem, 1) := by decide +kernel
theorem dX1_isCode_8 : decode cX1_isCode 8 = .ok (.ifCond .eq 7, 3) := by decide +kernel
theorem dX1_isCode_11 : decode cX1_isCode 11 = .ok (.iconst 1, 1) := by decide +kernel
theorem dX1_isCode_12 : decode cX1_isCode 12 = .ok (.goto 4, 3) := by decide +kernel
theorem dX1_isCode_15 : decode cX1_isCode 15 = .ok (.iconst 0, 1) := by decide +kernel
theorem dX1_isCode_16 : decode cX1_isCode 16 = .ok (.ireturn, 1) := by decide +kernel
theorem dX1_isAt_0 : decode cX1_isAt 0 = .ok (.lconst 1, 1) := by decide +kernel
theorem dX1_isAt_1 : decode cX1_isAt 1 = .ok (.iconst 4, 1) := by decide +kernel
theorem dX1_isAt_2 : decode cX1_isAt 2 = .ok (.lload_n 3, 1) := by decide +kernel
theorem dX1_isAt_3 : decode cX1_isAt 3 = .ok (.invokestatic 19, 3) := by decide +kernel
theorem dX1_isAt_6 : decode cX1_isAt 6 = .ok (.imul, 1) := by decide +kernel
theorem dX1_isAt_7 : decode cX1_isAt 7 = .ok (.lshl, 1) := by decide +kernel
theorem dX1_isAt_8 : decode cX1_isAt 8 = .ok (.lconst 1, 1) := by decide +kernel
theorem dX1_isAt_9 : decode cX1_isAt 9 = .ok (.lsub, 1) := by decide +kernel
theorem dX1_isAt_10 : decode cX1_isAt 10 = .ok (.lstore 5, 2) := by decide +kernel
theorem dX1_isAt_12 : decode cX1_isAt 12 = .ok (.lload_n 0, 1) := by decide +kernel
theorem dX1_isAt_13 : decode cX1_isAt 13 = .ok (.iconst 4, 1) := by decide +kernel
theorem dX1_isAt_14 : decode cX1_isAt 14 = .ok (.iload_n 2, 1) := by decide +kernel
theorem dX1_isAt_15 : decode cX1_isAt 15 = .ok (.iconst 1, 1) := by decide +kernel
theorem dX1_isAt_16 : decode cX1_isAt 16 = .ok (.iadd, 1) := by decide +kernel
theorem dX1_isAt_17 : decode cX1_isAt 17 = .ok (.imul, 1) := by decide +kernel
theorem dX1_isAt_18 : decode cX1_isAt 18 = .ok (.lushr, 1) := by decide +kernel
theorem dX1_isAt_19 : decode cX1_isAt 19 = .ok (.lload 5, 2) := by decide +kernel
theorem dX1_isAt_21 : decode cX1_isAt 21 = .ok (.land, 1) := by decide +kernel
theorem dX1_isAt_22 : decode cX1_isAt 22 = .ok (.lload_n 3, 1) := by decide +kernel
theorem dX1_isAt_23 : decode cX1_isAt 23 = .ok (.iconst 4, 1) := by decide +kernel
theorem dX1_isAt_24 : decode cX1_isAt 24 = .ok (.lushr, 1) := by decide +kernel
theorem dX1_isAt_25 : decode cX1_isAt 25 = .ok (.lcmp, 1) := by decide +kernel
theorem dX1_isAt_26 : decode cX1_isAt 26 = .ok (.ifCond .ne 7, 3) := by decide +kernel
theorem dX1_isAt_29 : decode cX1_isAt 29 = .ok (.iconst 1, 1) := by decide +kernel
theorem dX1_isAt_30 : decode cX1_isAt 30 = .ok (.goto 4, 3) := by decide +kernel
theorem dX1_isAt_33 : decode cX1_isAt 33 = .ok (.iconst 0, 1) := by decide +kernel
theorem dX1_isAt_34 : decode cX1_isAt 34 = .ok (.ireturn, 1) := by decide +kernel
theorem dX2_init_0 : decode cX2_init 0 = .ok (.aload_n 0, 1) := by decide +kernel
theorem dX2_init_1 : decode cX2_init 1 = .ok (.invokespecial 3, 3) := by decide +kernel
theorem dX2_init_4 : decode cX2_init 4 = .ok (.aload_n 0, 1) := by decide +kernel
theorem dX2_init_5 : decode cX2_init 5 = .ok (.bipush 8, 2) := by decide +kernel
theorem dX2_init_7 : decode cX2_init 7 = .ok (.newarray .int, 2) := by decide +kernel
theorem dX2_init_9 : decode cX2_init 9 = .ok (.putfield 9, 3) := by decide +kernel
theorem dX2_init_12 : decode cX2_init 12 = .ok (.aload_n 0, 1) := by decide +kernel
theorem dX2_init_13 : decode cX2_init 13 = .ok (.bipush 8, 2) := by decide +kernel
theorem dX2_init_15 : decode cX2_init 15 = .ok (.newarray .int, 2) := by decide +kernel
theorem dX2_init_17 : decode cX2_init 17 = .ok (.putfield 15, 3) := by decide +kernel
theorem dX2_init_20 : decode cX2_init 20 = .ok (.aload_n 0, 1) := by decide +kernel
theorem dX2_init_21 : decode cX2_init 21 = .ok (.bipush 8, 2) := by decide +kernel
theorem dX2_init_23 : decode cX2_init 23 = .ok (.newarray .long, 2) := by decide +kernel
theorem dX2_init_25 : decode cX2_init 25 = .ok (.putfield 18, 3) := by decide +kernel
theorem dX2_init_28 : decode cX2_init 28 = .ok (.aload_n 0, 1) := by decide +kernel
theorem dX2_init_29 : decode cX2_init 29 = .ok (.bipush 8, 2) := by decide +kernel
theorem dX2_init_31 : decode cX2_init 31 = .ok (.newarray .long, 2) := by decide +kernel
theorem dX2_init_33 : decode cX2_init 33 = .ok (.putfield 22, 3) := by decide +kernel
theorem dX2_init_36 : decode cX2_init 36 = .ok (.return_, 1) := by decide +kernel
theorem dX2_put_0 : decode cX2_put 0 = .ok (.aload_n 0, 1) := by decide +kernel
theorem dX2_put_1 : decode cX2_put 1 = .ok (.getfield 25, 3) := by decide +kernel
theorem dX2_put_4 : decode cX2_put 4 = .ok (.bipush 8, 2) := by decide +kernel
theorem dX2_put_6 : decode cX2_put 6 = .ok (.if_icmp .lt 4, 3) := by decide +kernel
theorem dX2_put_9 : decode cX2_put 9 = .ok (.return_, 1) := by decide +kernel
theorem dX2_put_10 : decode cX2_put 10 = .ok (.aload_n 0, 1) := by decide +kernel
theorem dX2_put_11 : decode cX2_put 11 = .ok (.getfield 9, 3) := by decide +kernel
theorem dX2_put_14 : decode cX2_put 14 = .ok (.aload_n 0, 1) := by decide +kernel
theorem dX2_put_15 : decode cX2_put 15 = .ok (.getfield 25, 3) := by decide +kernel
theorem dX2_put_18 : decode cX2_put 18 = .ok (.iload_n 1, 1) := by decide +kernel
theorem dX2_put_19 : decode cX2_put 19 = .ok (.iastore, 1) := by decide +kernel
theorem dX2_put_20 : decode cX2_put 20 = .ok (.aload_n 0, 1) := by decide +kernel
theorem dX2_put_21 : decode cX2_put 21 = .ok (.getfield 15, 3) := by decide +kernel
theorem dX2_put_24 : decode cX2_put 24 = .ok (.aload_n 0, 1) := by decide +kernel
theorem dX2_put_25 : decode cX2_put 25 = .ok (.getfield 25, 3) := by decide +kernel
theorem dX2_put_28 : decode cX2_put 28 = .ok (.iload_n 2, 1) := by decide +kernel
theorem dX2_put_29 : decode cX2_put 29 = .ok (.iastore, 1) := by decide +kernel
theorem dX2_put_30 : decode cX2_put 30 = .ok (.aload_n 0, 1) := by decide +kernel
theorem dX2_put_31 : decode cX2_put 31 = .ok (.getfield 18, 3) := by decide +kernel
theorem dX2_put_34 : decode cX2_put 34 = .ok (.aload_n 0, 1) := by decide +kernel
theorem dX2_put_35 : decode cX2_put 35 = .ok (.getfield 25, 3) := by decide +kernel
theorem dX2_put_38 : decode cX2_put 38 = .ok (.lload_n 3, 1) := by decide +kernel
theorem dX2_put_39 : decode cX2_put 39 = .ok (.lastore, 1) := by decide +kernel
theorem dX2_put_40 : decode cX2_put 40 = .ok (.aload_n 0, 1) := by decide +kernel
theorem dX2_put_41 : decode cX2_put 41 = .ok (.getfield 22, 3) := by decide +kernel
theorem dX2_put_44 : decode cX2_put 44 = .ok (.aload_n 0, 1) := by decide +kernel
theorem dX2_put_45 : decode cX2_put 45 = .ok (.getfield 25, 3) := by decide +kernel
theorem dX2_put_48 : decode cX2_put 48 = .ok (.lload 5, 2) := by decide +kernel
theorem dX2_put_50 : decode cX2_put 50 = .ok (.lastore, 1) := by decide +kernel
theorem dX2_put_51 : decode cX2_put 51 = .ok (.aload_n 0, 1) := by decide +kernel
theorem dX2_put_52 : decode cX2_put 52 = .ok (.dup, 1) := by decide +kernel
theorem dX2_put_53 : decode cX2_put 53 = .ok (.getfield 25, 3) := by decide +kernel
theorem dX2_put_56 : decode cX2_put 56 = .ok (.iconst 1, 1) := by decide +kernel
theorem dX2_put_57 : decode cX2_put 57 = .ok (.iadd, 1) := by decide +kernel
theorem dX2_put_58 : decode cX2_put 58 = .ok (.putfield 25, 3) := by decide +kernel
theorem dX2_put_61 : decode cX2_put 61 = .ok (.return_, 1) := by decide +kernel
theorem dX2_copyOf_0 : decode cX2_copyOf 0 = .ok (.aload_n 1, 1) := by decide +kernel
theorem dX2_copyOf_1 : decode cX2_copyOf 1 = .ok (.getfield 9, 3) := by decide +kernel
theorem dX2_copyOf_4 : decode cX2_copyOf 4 = .ok (.iconst 0, 1) := by decide +kernel
theorem dX2_copyOf_5 : decode cX2_copyOf 5 = .ok (.aload_n 0, 1) := by decide +kernel
theorem dX2_copyOf_6 : decode cX2_copyOf 6 = .ok (.getfield 9, 3) := by decide +kernel
theorem dX2_copyOf_9 : decode cX2_copyOf 9 = .ok (.iconst 0, 1) := by decide +kernel
theorem dX2_copyOf_10 : decode cX2_copyOf 10 = .ok (.bipush 8, 2) := by decide +kernel
theorem dX2_copyOf_12 : decode cX2_copyOf 12 = .ok (.invokestatic 29, 3) := by decide +kernel
theorem dX2_copyOf_15 : decode cX2_copyOf 15 = .ok (.aload_n 1, 1) := by decide +kernel
theorem dX2_copyOf_16 : decode cX2_copyOf 16 = .ok (.getfield 15, 3) := by decide +kernel
theorem dX2_copyOf_19 : decode cX2_copyOf 19 = .ok (.iconst 0, 1) := by decide +kernel
theorem dX2_copyOf_20 : decode cX2_copyOf 20 = .ok (.aload_n 0, 1) := by decide +kernel
theorem dX2_copyOf_21 : decode cX2_copyOf 21 = .ok (.getfield 15, 3) := by decide +kernel
theorem dX2_copyOf_24 : decode cX2_copyOf 24 = .ok (.iconst 0, 1) := by decide +kernel
theorem dX2_copyOf_25 : decode cX2_copyOf 25 = .ok (.bipush 8, 2) := by decide +kernel
theorem dX2_copyOf_27 : decode cX2_copyOf 27 = .ok (.invokestatic 29, 3) := by decide +kernel
theorem dX2_copyOf_30 : decode cX2_copyOf 30 = .ok (.aload_n 1, 1) := by decide +kernel
theorem dX2_copyOf_31 : decode cX2_copyOf 31 = .ok (.getfield 18, 3) := by decide +kernel
theorem dX2_copyOf_34 : decode cX2_copyOf 34 = .ok (.iconst 0, 1) := by decide +kernel
theorem dX2_copyOf_35 : decode cX2_copyOf 35 = .ok (.aload_n 0, 1) := by decide +kernel
theorem dX2_copyOf_36 : decode cX2_copyOf 36 = .ok (.getfield 18, 3) := by decide +kernel
theorem dX2_copyOf_39 : decode cX2_copyOf 39 = .ok (.iconst 0, 1) := by decide +kernel
theorem dX2_copyOf_40 : decode cX2_copyOf 40 = .ok (.bipush 8, 2) := by decide +kernel
theorem dX2_copyOf_42 : decode cX2_copyOf 42 = .ok (.invokestatic 29, 3) := by decide +kernel
theorem dX2_copyOf_45 : decode cX2_copyOf 45 = .ok (.aload_n 1, 1) := by decide +kernel
theorem dX2_copyOf_46 : decode cX2_copyOf 46 = .ok (.getfield 22, 3) := by decide +kernel
theorem dX2_copyOf_49 : decode cX2_copyOf 49 = .ok (.iconst 0, 1) := by decide +kernel
theorem dX2_copyOf_50 : decode cX2_copyOf 50 = .ok (.aload_n 0, 1) := by decide +kernel
theorem dX2_copyOf_51 : decode cX2_copyOf 51 = .ok (.getfield 22, 3) := by decide +kernel
theorem dX2_copyOf_54 : decode cX2_copyOf 54 = .ok (.iconst 0, 1) := by decide +kernel
theorem dX2_copyOf_55 : decode cX2_copyOf 55 = .ok (.bipush 8, 2) := by decide +kernel
theorem dX2_copyOf_57 : decode cX2_copyOf 57 = .ok (.invokestatic 29, 3) := by decide +kernel
theorem dX2_copyOf_60 : decode cX2_copyOf 60 = .ok (.aload_n 0, 1) := by decide +kernel
theorem dX2_copyOf_61 : decode cX2_copyOf 61 = .ok (.aload_n 1, 1) := by decide +kernel
theorem dX2_copyOf_62 : decode cX2_copyOf 62 = .ok (.getfield 25, 3) := by decide +kernel
theorem dX2_copyOf_65 : decode cX2_copyOf 65 = .ok (.putfield 25, 3) := by decide +kernel
theorem dX2_copyOf_68 : decode cX2_copyOf 68 = .ok (.return_, 1) := by decide +kernel
theorem dX2_agreeWith_0 : decode cX2_agreeWith 0 = .ok (.iconst 0, 1) := by decide +kernel
theorem dX2_agreeWith_1 : decode cX2_agreeWith 1 = .ok (.istore_n 3, 1) := by decide +kernel
theorem dX2_agreeWith_2 : decode cX2_agreeWith 2 = .ok (.iload_n 3, 1) := by decide +kernel
theorem dX2_agreeWith_3 : decode cX2_agreeWith 3 = .ok (.aload_n 0, 1) := by decide +kernel
theorem dX2_agreeWith_4 : decode cX2_agreeWith 4 = .ok (.getfield 25, 3) := by decide +kernel
theorem dX2_agreeWith_7 : decode cX2_agreeWith 7 = .ok (.if_icmp .ge 47, 3) := by decide +kernel
theorem dX2_agreeWith_10 : decode cX2_agreeWith 10 = .ok (.aload_n 0, 1) := by decide +kernel
theorem dX2_agreeWith_11 : decode cX2_agreeWith 11 = .ok (.getfield 9, 3) := by decide +kernel
theorem dX2_agreeWith_14 : decode cX2_agreeWith 14 = .ok (.iload_n 3, 1) := by decide +kernel
theorem dX2_agreeWith_15 : decode cX2_agreeWith 15 = .ok (.iaload, 1) := by decide +kernel
theorem dX2_agreeWith_16 : decode cX2_agreeWith 16 = .ok (.iload_n 1, 1) := by decide +kernel
theorem dX2_agreeWith_17 : decode cX2_agreeWith 17 = .ok (.if_icmp .ne 31, 3) := by decide +kernel
theorem dX2_agreeWith_20 : decode cX2_agreeWith 20 = .ok (.aload_n 0, 1) := by decide +kernel
theorem dX2_agreeWith_21 : decode cX2_agreeWith 21 = .ok (.getfield 18, 3) := by decide +kernel
theorem dX2_agreeWith_24 : decode cX2_agreeWith 24 = .ok (.iload_n 3, 1) := by decide +kernel
theorem dX2_agreeWith_25 : decode cX2_agreeWith 25 = .ok (.laload, 1) := by decide +kernel
theorem dX2_agreeWith_26 : decode cX2_agreeWith 26 = .ok (.iload_n 2, 1) := by decide +kernel
theorem dX2_agreeWith_27 : decode cX2_agreeWith 27 = .ok (.aload_n 0, 1) := by decide +kernel
theorem dX2_agreeWith_28 : decode cX2_agreeWith 28 = .ok (.getfield 15, 3) := by decide +kernel
theorem dX2_agreeWith_31 : decode cX2_agreeWith 31 = .ok (.iload_n 3, 1) := by decide +kernel
theorem dX2_agreeWith_32 : decode cX2_agreeWith 32 = .ok (.iaload, 1) := by decide +kernel
theorem dX2_agreeWith_33 : decode cX2_agreeWith 33 = .ok (.invokestatic 35, 3) := by decide +kernel
theorem dX2_agreeWith_36 : decode cX2_agreeWith 36 = .ok (.aload_n 0, 1) := by decide +kernel
theorem dX2_agreeWith_37 : decode cX2_agreeWith 37 = .ok (.getfield 22, 3) := by decide +kernel
theorem dX2_agreeWith_40 : decode cX2_agreeWith 40 = .ok (.iload_n 3, 1) := by decide +kernel
theorem dX2_agreeWith_41 : decode cX2_agreeWith 41 = .ok (.laload, 1) := by decide +kernel
theorem dX2_agreeWith_42 : decode cX2_agreeWith 42 = .ok (.lcmp, 1) := by decide +kernel
theorem dX2_agreeWith_43 : decode cX2_agreeWith 43 = .ok (.ifCond .eq 5, 3) := by decide +kernel
theorem dX2_agreeWith_46 : decode cX2_agreeWith 46 = .ok (.iconst 0, 1) := by decide +kernel
theorem dX2_agreeWith_47 : decode cX2_agreeWith 47 = .ok (.ireturn, 1) := by decide +kernel
theorem dX2_agreeWith_48 : decode cX2_agreeWith 48 = .ok (.iinc 3 1, 3) := by decide +kernel
theorem dX2_agreeWith_51 : decode cX2_agreeWith 51 = .ok (.goto (-49), 3) := by decide +kernel
theorem dX2_agreeWith_54 : decode cX2_agreeWith 54 = .ok (.iconst 1, 1) := by decide +kernel
theorem dX2_agreeWith_55 : decode cX2_agreeWith 55 = .ok (.ireturn, 1) := by decide +kernel
theorem dX3_init_0 : decode cX3_init 0 = .ok (.aload_n 0, 1) := by decide +kernel
theorem dX3_init_1 : decode cX3_init 1 = .ok (.invokespecial 3, 3) := by decide +kernel
theorem dX3_init_4 : decode cX3_init 4 = .ok (.aload_n 0, 1) := by decide +kernel
theorem dX3_init_5 : decode cX3_init 5 = .ok (.sipush 150, 3) := by decide +kernel
theorem dX3_init_8 : decode cX3_init 8 = .ok (.newarray .int, 2) := by decide +kernel
theorem dX3_init_10 : decode cX3_init 10 = .ok (.putfield 9, 3) := by decide +kernel
theorem dX3_init_13 : decode cX3_init 13 = .ok (.return_, 1) := by decide +kernel
theorem dX3_put_0 : decode cX3_put 0 = .ok (.aload_n 0, 1) := by decide +kernel
theorem dX3_put_1 : decode cX3_put 1 = .ok (.getfield 15, 3) := by decide +kernel
theorem dX3_put_4 : decode cX3_put 4 = .ok (.sipush 150, 3) := by decide +kernel
theorem dX3_put_7 : decode cX3_put 7 = .ok (.if_icmp .ge 23, 3) := by decide +kernel
theorem dX3_put_10 : decode cX3_put 10 = .ok (.aload_n 0, 1) := by decide +kernel
theorem dX3_put_11 : decode cX3_put 11 = .ok (.getfield 9, 3) := by decide +kernel
theorem dX3_put_14 : decode cX3_put 14 = .ok (.aload_n 0, 1) := by decide +kernel
theorem dX3_put_15 : decode cX3_put 15 = .ok (.getfield 15, 3) := by decide +kernel
theorem dX3_put_18 : decode cX3_put 18 = .ok (.iload_n 1, 1) := by decide +kernel
theorem dX3_put_19 : decode cX3_put 19 = .ok (.iastore, 1) := by decide +kernel
theorem dX3_put_20 : decode cX3_put 20 = .ok (.aload_n 0, 1) := by decide +kernel
theorem dX3_put_21 : decode cX3_put 21 = .ok (.dup, 1) := by decide +kernel
theorem dX3_put_22 : decode cX3_put 22 = .ok (.getfield 15, 3) := by decide +kernel
theorem dX3_put_25 : decode cX3_put 25 = .ok (.iconst 1, 1) := by decide +kernel
theorem dX3_put_26 : decode cX3_put 26 = .ok (.iadd, 1) := by decide +kernel
theorem dX3_put_27 : decode cX3_put 27 = .ok (.putfield 15, 3) := by decide +kernel
theorem dX3_put_30 : decode cX3_put 30 = .ok (.return_, 1) := by decide +kernel
theorem dX3_readInto_0 : decode cX3_readInto 0 = .ok (.aload_n 0, 1) := by decide +kernel
theorem dX3_readInto_1 : decode cX3_readInto 1 = .ok (.iconst 0, 1) := by decide +kernel
theorem dX3_readInto_2 : decode cX3_readInto 2 = .ok (.putfield 19, 3) := by decide +kernel
theorem dX3_readInto_5 : decode cX3_readInto 5 = .ok (.aload_n 0, 1) := by decide +kernel
theorem dX3_readInto_6 : decode cX3_readInto 6 = .ok (.invokevirtual 22, 3) := by decide +kernel
theorem dX3_readInto_9 : decode cX3_readInto 9 = .ok (.aload_n 0, 1) := by decide +kernel
theorem dX3_readInto_10 : decode cX3_readInto 10 = .ok (.aload_n 1, 1) := by decide +kernel
theorem dX3_readInto_11 : decode cX3_readInto 11 = .ok (.invokevirtual 25, 3) := by decide +kernel
theorem dX3_readInto_14 : decode cX3_readInto 14 = .ok (.ifCond .ne 5, 3) := by decide +kernel
theorem dX3_readInto_17 : decode cX3_readInto 17 = .ok (.iconst (-1), 1) := by decide +kernel
theorem dX3_readInto_18 : decode cX3_readInto 18 = .ok (.ireturn, 1) := by decide +kernel
theorem dX3_readInto_19 : decode cX3_readInto 19 = .ok (.iconst 1, 1) := by decide +kernel
theorem dX3_readInto_20 : decode cX3_readInto 20 = .ok (.istore_n 2, 1) := by decide +kernel
theorem dX3_readInto_21 : decode cX3_readInto 21 = .ok (.iconst 0, 1) := by decide +kernel
theorem dX3_readInto_22 : decode cX3_readInto 22 = .ok (.istore_n 3, 1) := by decide +kernel
theorem dX3_readInto_23 : decode cX3_readInto 23 = .ok (.iload_n 3, 1) := by decide +kernel
theorem dX3_readInto_24 : decode cX3_readInto 24 = .ok (.aload_n 0, 1) := by decide +kernel
theorem dX3_readInto_25 : decode cX3_readInto 25 = .ok (.getfield 15, 3) := by decide +kernel
theorem dX3_readInto_28 : decode cX3_readInto 28 = .ok (.if_icmp .ge 65, 3) := by decide +kernel
theorem dX3_readInto_31 : decode cX3_readInto 31 = .ok (.aload_n 0, 1) := by decide +kernel
theorem dX3_readInto_32 : decode cX3_readInto 32 = .ok (.getfield 29, 3) := by decide +kernel
theorem dX3_readInto_35 : decode cX3_readInto 35 = .ok (.ifCond .eq 58, 3) := by decide +kernel
theorem dX3_readInto_38 : decode cX3_readInto 38 = .ok (.aload_n 0, 1) := by decide +kernel
theorem dX3_readInto_39 : decode cX3_readInto 39 = .ok (.getfield 29, 3) := by decide +kernel
theorem dX3_readInto_42 : decode cX3_readInto 42 = .ok (.iconst 4, 1) := by decide +kernel
theorem dX3_readInto_43 : decode cX3_readInto 43 = .ok (.if_icmp .ne 11, 3) := by decide +kernel
theorem dX3_readInto_46 : decode cX3_readInto 46 = .ok (.aload_n 0, 1) := by decide +kernel
theorem dX3_readInto_47 : decode cX3_readInto 47 = .ok (.aload_n 1, 1) := by decide +kernel
theorem dX3_readInto_48 : decode cX3_readInto 48 = .ok (.invokevirtual 32, 3) := by decide +kernel
theorem dX3_readInto_51 : decode cX3_readInto 51 = .ok (.goto 24, 3) := by decide +kernel
theorem dX3_readInto_54 : decode cX3_readInto 54 = .ok (.aload_n 0, 1) := by decide +kernel
theorem dX3_readInto_55 : decode cX3_readInto 55 = .ok (.getfield 29, 3) := by decide +kernel
theorem dX3_readInto_58 : decode cX3_readInto 58 = .ok (.iconst 5, 1) := by decide +kernel
theorem dX3_readInto_59 : decode cX3_readInto 59 = .ok (.if_icmp .ne 15, 3) := by decide +kernel
theorem dX3_readInto_62 : decode cX3_readInto 62 = .ok (.aload_n 0, 1) := by decide +kernel
theorem dX3_readInto_63 : decode cX3_readInto 63 = .ok (.aload_n 1, 1) := by decide +kernel
theorem dX3_readInto_64 : decode cX3_readInto 64 = .ok (.invokevirtual 35, 3) := by decide +kernel
theorem dX3_readInto_67 : decode cX3_readInto 67 = .ok (.ifCond .eq 7, 3) := by decide +kernel
theorem dX3_readInto_70 : decode cX3_readInto 70 = .ok (.iconst 1, 1) := by decide +kernel
theorem dX3_readInto_71 : decode cX3_readInto 71 = .ok (.goto 4, 3) := by decide +kernel
theorem dX3_readInto_74 : decode cX3_readInto 74 = .ok (.iconst 0, 1) := by decide +kernel
theorem dX3_readInto_75 : decode cX3_readInto 75 = .ok (.istore 4, 2) := by decide +kernel
theorem dX3_readInto_77 : decode cX3_readInto 77 = .ok (.iload 4, 2) := by decide +kernel
theorem dX3_readInto_79 : decode cX3_readInto 79 = .ok (.ifCond .ne 5, 3) := by decide +kernel
theorem dX3_readInto_82 : decode cX3_readInto 82 = .ok (.iconst (-1), 1) := by decide +kernel
theorem dX3_readInto_83 : decode cX3_readInto 83 = .ok (.ireturn, 1) := by decide +kernel
theorem dX3_readInto_84 : decode cX3_readInto 84 = .ok (.iinc 2 1, 3) := by decide +kernel
theorem dX3_readInto_87 : decode cX3_readInto 87 = .ok (.iinc 3 1, 3) := by decide +kernel
theorem dX3_readInto_90 : decode cX3_readInto 90 = .ok (.goto (-67), 3) := by decide +kernel
theorem dX3_readInto_93 : decode cX3_readInto 93 = .ok (.iload_n 2, 1) := by decide +kernel
theorem dX3_readInto_94 : decode cX3_readInto 94 = .ok (.ireturn, 1) := by decide +kernel
theorem dX3_faultPlace_0 : decode cX3_faultPlace 0 = .ok (.aload_n 0, 1) := by decide +kernel
theorem dX3_faultPlace_1 : decode cX3_faultPlace 1 = .ok (.getfield 38, 3) := by decide +kernel
theorem dX3_faultPlace_4 : decode cX3_faultPlace 4 = .ok (.ireturn, 1) := by decide +kernel
theorem dX3_readRiver_0 : decode cX3_readRiver 0 = .ok (.aload_n 0, 1) := by decide +kernel
theorem dX3_readRiver_1 : decode cX3_readRiver 1 = .ok (.getfield 29, 3) := by decide +kernel
theorem dX3_readRiver_4 : decode cX3_readRiver 4 = .ok (.iconst 3, 1) := by decide +kernel
theorem dX3_readRiver_5 : decode cX3_readRiver 5 = .ok (.if_icmp .eq 5, 3) := by decide +kernel
theorem dX3_readRiver_8 : decode cX3_readRiver 8 = .ok (.iconst 0, 1) := by decide +kernel
theorem dX3_readRiver_9 : decode cX3_readRiver 9 = .ok (.ireturn, 1) := by decide +kernel
theorem dX3_readRiver_10 : decode cX3_readRiver 10 = .ok (.aload_n 0, 1) := by decide +kernel
theorem dX3_readRiver_11 : decode cX3_readRiver 11 = .ok (.invokevirtual 22, 3) := by decide +kernel
theorem dX3_readRiver_14 : decode cX3_readRiver 14 = .ok (.aload_n 0, 1) := by decide +kernel
theorem dX3_readRiver_15 : decode cX3_readRiver 15 = .ok (.bipush 12, 2) := by decide +kernel
theorem dX3_readRiver_17 : decode cX3_readRiver 17 = .ok (.iconst (-1), 1) := by decide +kernel
theorem dX3_readRiver_18 : decode cX3_readRiver 18 = .ok (.invokevirtual 41, 3) := by decide +kernel
theorem dX3_readRiver_21 : decode cX3_readRiver 21 = .ok (.istore_n 2, 1) := by decide +kernel
theorem dX3_readRiver_22 : decode cX3_readRiver 22 = .ok (.iload_n 2, 1) := by decide +kernel
theorem dX3_readRiver_23 : decode cX3_readRiver 23 = .ok (.iconst (-1), 1) := by decide +kernel
theorem dX3_readRiver_24 : decode cX3_readRiver 24 = .ok (.if_icmp .ne 5, 3) := by decide +kernel
theorem dX3_readRiver_27 : decode cX3_readRiver 27 = .ok (.iconst 0, 1) := by decide +kernel
theorem dX3_readRiver_28 : decode cX3_readRiver 28 = .ok (.ireturn, 1) := by decide +kernel
theorem dX3_readRiver_29 : decode cX3_readRiver 29 = .ok (.aload_n 1, 1) := by decide +kernel
theorem dX3_readRiver_30 : decode cX3_readRiver 30 = .ok (.iload_n 2, 1) := by decide +kernel
theorem dX3_readRiver_31 : decode cX3_readRiver 31 = .ok (.invokevirtual 45, 3) := by decide +kernel
theorem dX3_readRiver_34 : decode cX3_readRiver 34 = .ok (.aload_n 0, 1) := by decide +kernel
theorem dX3_readRiver_35 : decode cX3_readRiver 35 = .ok (.invokevirtual 51, 3) := by decide +kernel
theorem dX3_readRiver_38 : decode cX3_readRiver 38 = .ok (.ireturn, 1) := by decide +kernel
theorem dX3_readBridge_0 : decode cX3_readBridge 0 = .ok (.aload_n 1, 1) := by decide +kernel
theorem dX3_readBridge_1 : decode cX3_readBridge 1 = .ok (.getfield 55, 3) := by decide +kernel
theorem dX3_readBridge_4 : decode cX3_readBridge 4 = .ok (.bipush 8, 2) := by decide +kernel
theorem dX3_readBridge_6 : decode cX3_readBridge 6 = .ok (.if_icmp .lt 5, 3) := by decide +kernel
theorem dX3_readBridge_9 : decode cX3_readBridge 9 = .ok (.iconst 0, 1) := by decide +kernel
theorem dX3_readBridge_10 : decode cX3_readBridge 10 = .ok (.ireturn, 1) := by decide +kernel
theorem dX3_readBridge_11 : decode cX3_readBridge 11 = .ok (.aload_n 0, 1) := by decide +kernel
theorem dX3_readBridge_12 : decode cX3_readBridge 12 = .ok (.invokevirtual 22, 3) := by decide +kernel
theorem dX3_readBridge_15 : decode cX3_readBridge 15 = .ok (.aload_n 0, 1) := by decide +kernel
theorem dX3_readBridge_16 : decode cX3_readBridge 16 = .ok (.bipush 6, 2) := by decide +kernel
theorem dX3_readBridge_18 : decode cX3_readBridge 18 = .ok (.iconst (-1), 1) := by decide +kernel
theorem dX3_readBridge_19 : decode cX3_readBridge 19 = .ok (.invokevirtual 41, 3) := by decide +kernel
theorem dX3_readBridge_22 : decode cX3_readBridge 22 = .ok (.istore_n 2, 1) := by decide +kernel
theorem dX3_readBridge_23 : decode cX3_readBridge 23 = .ok (.iload_n 2, 1) := by decide +kernel
theorem dX3_readBridge_24 : decode cX3_readBridge 24 = .ok (.iconst (-1), 1) := by decide +kernel
theorem dX3_readBridge_25 : decode cX3_readBridge 25 = .ok (.if_icmp .ne 7, 3) := by decide +kernel
theorem dX3_readBridge_28 : decode cX3_readBridge 28 = .ok (.iconst (-1), 1) := by decide +kernel
theorem dX3_readBridge_29 : decode cX3_readBridge 29 = .ok (.goto 10, 3) := by decide +kernel
theorem dX3_readBridge_32 : decode cX3_readBridge 32 = .ok (.aload_n 0, 1) := by decide +kernel
theorem dX3_readBridge_33 : decode cX3_readBridge 33 = .ok (.bipush 6, 2) := by decide +kernel
theorem dX3_readBridge_35 : decode cX3_readBridge 35 = .ok (.iload_n 2, 1) := by decide +kernel
theorem dX3_readBridge_36 : decode cX3_readBridge 36 = .ok (.invokevirtual 41, 3) := by decide +kernel
theorem dX3_readBridge_39 : decode cX3_readBridge 39 = .ok (.istore_n 3, 1) := by decide +kernel
theorem dX3_readBridge_40 : decode cX3_readBridge 40 = .ok (.iload_n 3, 1) := by decide +kernel
theorem dX3_readBridge_41 : decode cX3_readBridge 41 = .ok (.iconst (-1), 1) := by decide +kernel
theorem dX3_readBridge_42 : decode cX3_readBridge 42 = .ok (.if_icmp .ne 7, 3) := by decide +kernel
theorem dX3_readBridge_45 : decode cX3_readBridge 45 = .ok (.iconst (-1), 1) := by decide +kernel
theorem dX3_readBridge_46 : decode cX3_readBridge 46 = .ok (.goto 10, 3) := by decide +kernel
theorem dX3_readBridge_49 : decode cX3_readBridge 49 = .ok (.aload_n 0, 1) := by decide +kernel
theorem dX3_readBridge_50 : decode cX3_readBridge 50 = .ok (.bipush 6, 2) := by decide +kernel
theorem dX3_readBridge_52 : decode cX3_readBridge 52 = .ok (.iconst (-1), 1) := by decide +kernel
theorem dX3_readBridge_53 : decode cX3_readBridge 53 = .ok (.invokevirtual 41, 3) := by decide +kernel
theorem dX3_readBridge_56 : decode cX3_readBridge 56 = .ok (.istore 4, 2) := by decide +kernel
theorem dX3_readBridge_58 : decode cX3_readBridge 58 = .ok (.iload 4, 2) := by decide +kernel
theorem dX3_readBridge_60 : decode cX3_readBridge 60 = .ok (.iconst (-1), 1) := by decide +kernel
theorem dX3_readBridge_61 : decode cX3_readBridge 61 = .ok (.if_icmp .ne 7, 3) := by decide +kernel
theorem dX3_readBridge_64 : decode cX3_readBridge 64 = .ok (.iconst (-1), 1) := by decide +kernel
theorem dX3_readBridge_65 : decode cX3_readBridge 65 = .ok (.goto 10, 3) := by decide +kernel
theorem dX3_readBridge_68 : decode cX3_readBridge 68 = .ok (.aload_n 0, 1) := by decide +kernel
theorem dX3_readBridge_69 : decode cX3_readBridge 69 = .ok (.bipush 16, 2) := by decide +kernel
theorem dX3_readBridge_71 : decode cX3_readBridge 71 = .ok (.iconst (-1), 1) := by decide +kernel
theorem dX3_readBridge_72 : decode cX3_readBridge 72 = .ok (.invokevirtual 41, 3) := by decide +kernel
theorem dX3_readBridge_75 : decode cX3_readBridge 75 = .ok (.istore 5, 2) := by decide +kernel
theorem dX3_readBridge_77 : decode cX3_readBridge 77 = .ok (.iload 5, 2) := by decide +kernel
theorem dX3_readBridge_79 : decode cX3_readBridge 79 = .ok (.iconst (-1), 1) := by decide +kernel
theorem dX3_readBridge_80 : decode cX3_readBridge 80 = .ok (.if_icmp .ne 5, 3) := by decide +kernel
theorem dX3_readBridge_83 : decode cX3_readBridge 83 = .ok (.iconst 0, 1) := by decide +kernel
theorem dX3_readBridge_84 : decode cX3_readBridge 84 = .ok (.ireturn, 1) := by decide +kernel
theorem dX3_readBridge_85 : decode cX3_readBridge 85 = .ok (.aload_n 1, 1) := by decide +kernel
theorem dX3_readBridge_86 : decode cX3_readBridge 86 = .ok (.iload_n 2, 1) := by decide +kernel
theorem dX3_readBridge_87 : decode cX3_readBridge 87 = .ok (.iload_n 3, 1) := by decide +kernel
theorem dX3_readBridge_88 : decode cX3_readBridge 88 = .ok (.iload 4, 2) := by decide +kernel
theorem dX3_readBridge_90 : decode cX3_readBridge 90 = .ok (.iload 5, 2) := by decide +kernel
theorem dX3_readBridge_92 : decode cX3_readBridge 92 = .ok (.invokevirtual 58, 3) := by decide +kernel
theorem dX3_readBridge_95 : decode cX3_readBridge 95 = .ok (.pop, 1) := by decide +kernel
theorem dX3_readBridge_96 : decode cX3_readBridge 96 = .ok (.aload_n 0, 1) := by decide +kernel
theorem dX3_readBridge_97 : decode cX3_readBridge 97 = .ok (.invokevirtual 51, 3) := by decide +kernel
theorem dX3_readBridge_100 : decode cX3_readBridge 100 = .ok (.ireturn, 1) := by decide +kernel
theorem dX3_readRow_0 : decode cX3_readRow 0 = .ok (.aload_n 0, 1) := by decide +kernel
theorem dX3_readRow_1 : decode cX3_readRow 1 = .ok (.invokevirtual 22, 3) := by decide +kernel
theorem dX3_readRow_4 : decode cX3_readRow 4 = .ok (.aload_n 0, 1) := by decide +kernel
theorem dX3_readRow_5 : decode cX3_readRow 5 = .ok (.iconst 4, 1) := by decide +kernel
theorem dX3_readRow_6 : decode cX3_readRow 6 = .ok (.iconst (-1), 1) := by decide +kernel
theorem dX3_readRow_7 : decode cX3_readRow 7 = .ok (.invokevirtual 41, 3) := by decide +kernel
theorem dX3_readRow_10 : decode cX3_readRow 10 = .ok (.istore_n 2, 1) := by decide +kernel
theorem dX3_readRow_11 : decode cX3_readRow 11 = .ok (.iload_n 2, 1) := by decide +kernel
theorem dX3_readRow_12 : decode cX3_readRow 12 = .ok (.iconst (-1), 1) := by decide +kernel
theorem dX3_readRow_13 : decode cX3_readRow 13 = .ok (.if_icmp .ne 5, 3) := by decide +kernel
theorem dX3_readRow_16 : decode cX3_readRow 16 = .ok (.iconst 0, 1) := by decide +kernel
theorem dX3_readRow_17 : decode cX3_readRow 17 = .ok (.ireturn, 1) := by decide +kernel
theorem dX3_readRow_18 : decode cX3_readRow 18 = .ok (.lconst 0, 1) := by decide +kernel
theorem dX3_readRow_19 : decode cX3_readRow 19 = .ok (.lstore_n 3, 1) := by decide +kernel
theorem dX3_readRow_20 : decode cX3_readRow 20 = .ok (.iconst 0, 1) := by decide +kernel
theorem dX3_readRow_21 : decode cX3_readRow 21 = .ok (.istore 5, 2) := by decide +kernel
theorem dX3_readRow_23 : decode cX3_readRow 23 = .ok (.iload 5, 2) := by decide +kernel
theorem dX3_readRow_25 : decode cX3_readRow 25 = .ok (.bipush 12, 2) := by decide +kernel
theorem dX3_readRow_27 : decode cX3_readRow 27 = .ok (.if_icmp .ge 41, 3) := by decide +kernel
theorem dX3_readRow_30 : decode cX3_readRow 30 = .ok (.aload_n 0, 1) := by decide +kernel
theorem dX3_readRow_31 : decode cX3_readRow 31 = .ok (.getfield 29, 3) := by decide +kernel
theorem dX3_readRow_34 : decode cX3_readRow 34 = .ok (.iconst 2, 1) := by decide +kernel
theorem dX3_readRow_35 : decode cX3_readRow 35 = .ok (.if_icmp .ne 33, 3) := by decide +kernel
theorem dX3_readRow_38 : decode cX3_readRow 38 = .ok (.aload_n 0, 1) := by decide +kernel
theorem dX3_readRow_39 : decode cX3_readRow 39 = .ok (.bipush 16, 2) := by decide +kernel
theorem dX3_readRow_41 : decode cX3_readRow 41 = .ok (.iconst (-1), 1) := by decide +kernel
theorem dX3_readRow_42 : decode cX3_readRow 42 = .ok (.invokevirtual 41, 3) := by decide +kernel
theorem dX3_readRow_45 : decode cX3_readRow 45 = .ok (.istore 6, 2) := by decide +kernel
theorem dX3_readRow_47 : decode cX3_readRow 47 = .ok (.iload 6, 2) := by decide +kernel
theorem dX3_readRow_49 : decode cX3_readRow 49 = .ok (.iconst (-1), 1) := by decide +kernel
theorem dX3_readRow_50 : decode cX3_readRow 50 = .ok (.if_icmp .ne 5, 3) := by decide +kernel
theorem dX3_readRow_53 : decode cX3_readRow 53 = .ok (.iconst 0, 1) := by decide +kernel
theorem dX3_readRow_54 : decode cX3_readRow 54 = .ok (.ireturn, 1) := by decide +kernel
theorem dX3_readRow_55 : decode cX3_readRow 55 = .ok (.lload_n 3, 1) := by decide +kernel
theorem dX3_readRow_56 : decode cX3_readRow 56 = .ok (.iload 6, 2) := by decide +kernel
theorem dX3_readRow_58 : decode cX3_readRow 58 = .ok (.invokestatic 64, 3) := by decide +kernel
theorem dX3_readRow_61 : decode cX3_readRow 61 = .ok (.lstore_n 3, 1) := by decide +kernel
theorem dX3_readRow_62 : decode cX3_readRow 62 = .ok (.iinc 5 1, 3) := by decide +kernel
theorem dX3_readRow_65 : decode cX3_readRow 65 = .ok (.goto (-42), 3) := by decide +kernel
theorem dX3_readRow_68 : decode cX3_readRow 68 = .ok (.aload_n 1, 1) := by decide +kernel
theorem dX3_readRow_69 : decode cX3_readRow 69 = .ok (.getfield 68, 3) := by decide +kernel
theorem dX3_readRow_72 : decode cX3_readRow 72 = .ok (.iload_n 2, 1) := by decide +kernel
theorem dX3_readRow_73 : decode cX3_readRow 73 = .ok (.lload_n 3, 1) := by decide +kernel
theorem dX3_readRow_74 : decode cX3_readRow 74 = .ok (.lastore, 1) := by decide +kernel
theorem dX3_readRow_75 : decode cX3_readRow 75 = .ok (.aload_n 0, 1) := by decide +kernel
theorem dX3_readRow_76 : decode cX3_readRow 76 = .ok (.invokevirtual 51, 3) := by decide +kernel
theorem dX3_readRow_79 : decode cX3_readRow 79 = .ok (.ireturn, 1) := by decide +kernel
theorem dX3_takeNumber_0 : decode cX3_takeNumber 0 = .ok (.aload_n 0, 1) := by decide +kernel
theorem dX3_takeNumber_1 : decode cX3_takeNumber 1 = .ok (.getfield 29, 3) := by decide +kernel
theorem dX3_takeNumber_4 : decode cX3_takeNumber 4 = .ok (.iconst 2, 1) := by decide +kernel
theorem dX3_takeNumber_5 : decode cX3_takeNumber 5 = .ok (.if_icmp .ne 19, 3) := by decide +kernel
theorem dX3_takeNumber_8 : decode cX3_takeNumber 8 = .ok (.aload_n 0, 1) := by decide +kernel
theorem dX3_takeNumber_9 : decode cX3_takeNumber 9 = .ok (.getfield 72, 3) := by decide +kernel
theorem dX3_takeNumber_12 : decode cX3_takeNumber 12 = .ok (.iload_n 1, 1) := by decide +kernel
theorem dX3_takeNumber_13 : decode cX3_takeNumber 13 = .ok (.if_icmp .ge 11, 3) := by decide +kernel
theorem dX3_takeNumber_16 : decode cX3_takeNumber 16 = .ok (.aload_n 0, 1) := by decide +kernel
theorem dX3_takeNumber_17 : decode cX3_takeNumber 17 = .ok (.getfield 72, 3) := by decide +kernel
theorem dX3_takeNumber_20 : decode cX3_takeNumber 20 = .ok (.iload_n 2, 1) := by decide +kernel
theorem dX3_takeNumber_21 : decode cX3_takeNumber 21 = .ok (.if_icmp .ne 5, 3) := by decide +kernel
theorem dX3_takeNumber_24 : decode cX3_takeNumber 24 = .ok (.iconst (-1), 1) := by decide +kernel
theorem dX3_takeNumber_25 : decode cX3_takeNumber 25 = .ok (.ireturn, 1) := by decide +kernel
theorem dX3_takeNumber_26 : decode cX3_takeNumber 26 = .ok (.aload_n 0, 1) := by decide +kernel
theorem dX3_takeNumber_27 : decode cX3_takeNumber 27 = .ok (.getfield 72, 3) := by decide +kernel
theorem dX3_takeNumber_30 : decode cX3_takeNumber 30 = .ok (.istore_n 3, 1) := by decide +kernel
theorem dX3_takeNumber_31 : decode cX3_takeNumber 31 = .ok (.aload_n 0, 1) := by decide +kernel
theorem dX3_takeNumber_32 : decode cX3_takeNumber 32 = .ok (.invokevirtual 22, 3) := by decide +kernel
theorem dX3_takeNumber_35 : decode cX3_takeNumber 35 = .ok (.iload_n 3, 1) := by decide +kernel
theorem dX3_takeNumber_36 : decode cX3_takeNumber 36 = .ok (.ireturn, 1) := by decide +kernel
theorem dX3_takeStop_0 : decode cX3_takeStop 0 = .ok (.aload_n 0, 1) := by decide +kernel
theorem dX3_takeStop_1 : decode cX3_takeStop 1 = .ok (.getfield 29, 3) := by decide +kernel
theorem dX3_takeStop_4 : decode cX3_takeStop 4 = .ok (.iconst 1, 1) := by decide +kernel
theorem dX3_takeStop_5 : decode cX3_takeStop 5 = .ok (.if_icmp .eq 5, 3) := by decide +kernel
theorem dX3_takeStop_8 : decode cX3_takeStop 8 = .ok (.iconst 0, 1) := by decide +kernel
theorem dX3_takeStop_9 : decode cX3_takeStop 9 = .ok (.ireturn, 1) := by decide +kernel
theorem dX3_takeStop_10 : decode cX3_takeStop 10 = .ok (.aload_n 0, 1) := by decide +kernel
theorem dX3_takeStop_11 : decode cX3_takeStop 11 = .ok (.invokevirtual 22, 3) := by decide +kernel
theorem dX3_takeStop_14 : decode cX3_takeStop 14 = .ok (.iconst 1, 1) := by decide +kernel
theorem dX3_takeStop_15 : decode cX3_takeStop 15 = .ok (.ireturn, 1) := by decide +kernel
theorem dX3_step_0 : decode cX3_step 0 = .ok (.aload_n 0, 1) := by decide +kernel
theorem dX3_step_1 : decode cX3_step 1 = .ok (.aload_n 0, 1) := by decide +kernel
theorem dX3_step_2 : decode cX3_step 2 = .ok (.getfield 19, 3) := by decide +kernel
theorem dX3_step_5 : decode cX3_step 5 = .ok (.putfield 38, 3) := by decide +kernel
theorem dX3_step_8 : decode cX3_step 8 = .ok (.aload_n 0, 1) := by decide +kernel
theorem dX3_step_9 : decode cX3_step 9 = .ok (.getfield 38, 3) := by decide +kernel
theorem dX3_step_12 : decode cX3_step 12 = .ok (.aload_n 0, 1) := by decide +kernel
theorem dX3_step_13 : decode cX3_step 13 = .ok (.getfield 15, 3) := by decide +kernel
theorem dX3_step_16 : decode cX3_step 16 = .ok (.if_icmp .ge 30, 3) := by decide +kernel
theorem dX3_step_19 : decode cX3_step 19 = .ok (.aload_n 0, 1) := by decide +kernel
theorem dX3_step_20 : decode cX3_step 20 = .ok (.getfield 9, 3) := by decide +kernel
theorem dX3_step_23 : decode cX3_step 23 = .ok (.aload_n 0, 1) := by decide +kernel
theorem dX3_step_24 : decode cX3_step 24 = .ok (.getfield 38, 3) := by decide +kernel
theorem dX3_step_27 : decode cX3_step 27 = .ok (.iaload, 1) := by decide +kernel
theorem dX3_step_28 : decode cX3_step 28 = .ok (.bipush 32, 2) := by decide +kernel
theorem dX3_step_30 : decode cX3_step 30 = .ok (.if_icmp .ne 16, 3) := by decide +kernel
theorem dX3_step_33 : decode cX3_step 33 = .ok (.aload_n 0, 1) := by decide +kernel
theorem dX3_step_34 : decode cX3_step 34 = .ok (.dup, 1) := by decide +kernel
theorem dX3_step_35 : decode cX3_step 35 = .ok (.getfield 38, 3) := by decide +kernel
theorem dX3_step_38 : decode cX3_step 38 = .ok (.iconst 1, 1) := by decide +kernel
theorem dX3_step_39 : decode cX3_step 39 = .ok (.iadd, 1) := by decide +kernel
theorem dX3_step_40 : decode cX3_step 40 = .ok (.putfield 38, 3) := by decide +kernel
theorem dX3_step_43 : decode cX3_step 43 = .ok (.goto (-35), 3) := by decide +kernel
theorem dX3_step_46 : decode cX3_step 46 = .ok (.aload_n 0, 1) := by decide +kernel
theorem dX3_step_47 : decode cX3_step 47 = .ok (.aload_n 0, 1) := by decide +kernel
theorem dX3_step_48 : decode cX3_step 48 = .ok (.getfield 38, 3) := by decide +kernel
theorem dX3_step_51 : decode cX3_step 51 = .ok (.putfield 19, 3) := by decide +kernel
theorem dX3_step_54 : decode cX3_step 54 = .ok (.aload_n 0, 1) := by decide +kernel
theorem dX3_step_55 : decode cX3_step 55 = .ok (.getfield 38, 3) := by decide +kernel
theorem dX3_step_58 : decode cX3_step 58 = .ok (.aload_n 0, 1) := by decide +kernel
theorem dX3_step_59 : decode cX3_step 59 = .ok (.getfield 15, 3) := by decide +kernel
theorem dX3_step_62 : decode cX3_step 62 = .ok (.if_icmp .lt 11, 3) := by decide +kernel
theorem dX3_step_65 : decode cX3_step 65 = .ok (.aload_n 0, 1) := by decide +kernel
theorem dX3_step_66 : decode cX3_step 66 = .ok (.iconst 0, 1) := by decide +kernel
theorem dX3_step_67 : decode cX3_step 67 = .ok (.putfield 29, 3) := by decide +kernel
theorem dX3_step_70 : decode cX3_step 70 = .ok (.goto 73, 3) := by decide +kernel
theorem dX3_step_73 : decode cX3_step 73 = .ok (.aload_n 0, 1) := by decide +kernel
theorem dX3_step_74 : decode cX3_step 74 = .ok (.aload_n 0, 1) := by decide +kernel
theorem dX3_step_75 : decode cX3_step 75 = .ok (.getfield 38, 3) := by decide +kernel
theorem dX3_step_78 : decode cX3_step 78 = .ok (.invokevirtual 75, 3) := by decide +kernel
theorem dX3_step_81 : decode cX3_step 81 = .ok (.ifCond .eq 10, 3) := by decide +kernel
theorem dX3_step_84 : decode cX3_step 84 = .ok (.aload_n 0, 1) := by decide +kernel
theorem dX3_step_85 : decode cX3_step 85 = .ok (.invokevirtual 79, 3) := by decide +kernel
theorem dX3_step_88 : decode cX3_step 88 = .ok (.goto 55, 3) := by decide +kernel
theorem dX3_step_91 : decode cX3_step 91 = .ok (.aload_n 0, 1) := by decide +kernel
theorem dX3_step_92 : decode cX3_step 92 = .ok (.aload_n 0, 1) := by decide +kernel
theorem dX3_step_93 : decode cX3_step 93 = .ok (.getfield 38, 3) := by decide +kernel
theorem dX3_step_96 : decode cX3_step 96 = .ok (.invokevirtual 82, 3) := by decide +kernel
theorem dX3_step_99 : decode cX3_step 99 = .ok (.ifCond .eq 10, 3) := by decide +kernel
theorem dX3_step_102 : decode cX3_step 102 = .ok (.aload_n 0, 1) := by decide +kernel
theorem dX3_step_103 : decode cX3_step 103 = .ok (.invokevirtual 85, 3) := by decide +kernel
theorem dX3_step_106 : decode cX3_step 106 = .ok (.goto 37, 3) := by decide +kernel
theorem dX3_step_109 : decode cX3_step 109 = .ok (.aload_n 0, 1) := by decide +kernel
theorem dX3_step_110 : decode cX3_step 110 = .ok (.dup, 1) := by decide +kernel
theorem dX3_step_111 : decode cX3_step 111 = .ok (.getfield 19, 3) := by decide +kernel
theorem dX3_step_114 : decode cX3_step 114 = .ok (.iconst 1, 1) := by decide +kernel
theorem dX3_step_115 : decode cX3_step 115 = .ok (.iadd, 1) := by decide +kernel
theorem dX3_step_116 : decode cX3_step 116 = .ok (.putfield 19, 3) := by decide +kernel
theorem dX3_step_119 : decode cX3_step 119 = .ok (.aload_n 0, 1) := by decide +kernel
theorem dX3_step_120 : decode cX3_step 120 = .ok (.aload_n 0, 1) := by decide +kernel
theorem dX3_step_121 : decode cX3_step 121 = .ok (.getfield 9, 3) := by decide +kernel
theorem dX3_step_124 : decode cX3_step 124 = .ok (.aload_n 0, 1) := by decide +kernel
theorem dX3_step_125 : decode cX3_step 125 = .ok (.getfield 38, 3) := by decide +kernel
theorem dX3_step_128 : decode cX3_step 128 = .ok (.iaload, 1) := by decide +kernel
theorem dX3_step_129 : decode cX3_step 129 = .ok (.bipush 59, 2) := by decide +kernel
theorem dX3_step_131 : decode cX3_step 131 = .ok (.if_icmp .ne 7, 3) := by decide +kernel
theorem dX3_step_134 : decode cX3_step 134 = .ok (.iconst 1, 1) := by decide +kernel
theorem dX3_step_135 : decode cX3_step 135 = .ok (.goto 5, 3) := by decide +kernel
theorem dX3_step_138 : decode cX3_step 138 = .ok (.bipush 6, 2) := by decide +kernel
theorem dX3_step_140 : decode cX3_step 140 = .ok (.putfield 29, 3) := by decide +kernel
theorem dX3_step_143 : decode cX3_step 143 = .ok (.return_, 1) := by decide +kernel
theorem dX3_stepWord_0 : decode cX3_stepWord 0 = .ok (.aload_n 0, 1) := by decide +kernel
theorem dX3_stepWord_1 : decode cX3_stepWord 1 = .ok (.getfield 19, 3) := by decide +kernel
theorem dX3_stepWord_4 : decode cX3_stepWord 4 = .ok (.aload_n 0, 1) := by decide +kernel
theorem dX3_stepWord_5 : decode cX3_stepWord 5 = .ok (.getfield 15, 3) := by decide +kernel
theorem dX3_stepWord_8 : decode cX3_stepWord 8 = .ok (.if_icmp .ge 27, 3) := by decide +kernel
theorem dX3_stepWord_11 : decode cX3_stepWord 11 = .ok (.aload_n 0, 1) := by decide +kernel
theorem dX3_stepWord_12 : decode cX3_stepWord 12 = .ok (.aload_n 0, 1) := by decide +kernel
theorem dX3_stepWord_13 : decode cX3_stepWord 13 = .ok (.getfield 19, 3) := by decide +kernel
theorem dX3_stepWord_16 : decode cX3_stepWord 16 = .ok (.invokevirtual 75, 3) := by decide +kernel
theorem dX3_stepWord_19 : decode cX3_stepWord 19 = .ok (.ifCond .eq 16, 3) := by decide +kernel
theorem dX3_stepWord_22 : decode cX3_stepWord 22 = .ok (.aload_n 0, 1) := by decide +kernel
theorem dX3_stepWord_23 : decode cX3_stepWord 23 = .ok (.dup, 1) := by decide +kernel
theorem dX3_stepWord_24 : decode cX3_stepWord 24 = .ok (.getfield 19, 3) := by decide +kernel
theorem dX3_stepWord_27 : decode cX3_stepWord 27 = .ok (.iconst 1, 1) := by decide +kernel
theorem dX3_stepWord_28 : decode cX3_stepWord 28 = .ok (.iadd, 1) := by decide +kernel
theorem dX3_stepWord_29 : decode cX3_stepWord 29 = .ok (.putfield 19, 3) := by decide +kernel
theorem dX3_stepWord_32 : decode cX3_stepWord 32 = .ok (.goto (-32), 3) := by decide +kernel
theorem dX3_stepWord_35 : decode cX3_stepWord 35 = .ok (.aload_n 0, 1) := by decide +kernel
theorem dX3_stepWord_36 : decode cX3_stepWord 36 = .ok (.aload_n 0, 1) := by decide +kernel
theorem dX3_stepWord_37 : decode cX3_stepWord 37 = .ok (.ldc 88, 2) := by decide +kernel
theorem dX3_stepWord_39 : decode cX3_stepWord 39 = .ok (.invokevirtual 90, 3) := by decide +kernel
theorem dX3_stepWord_42 : decode cX3_stepWord 42 = .ok (.ifCond .eq 7, 3) := by decide +kernel
theorem dX3_stepWord_45 : decode cX3_stepWord 45 = .ok (.iconst 3, 1) := by decide +kernel
theorem dX3_stepWord_46 : decode cX3_stepWord 46 = .ok (.goto 31, 3) := by decide +kernel
theorem dX3_stepWord_49 : decode cX3_stepWord 49 = .ok (.aload_n 0, 1) := by decide +kernel
theorem dX3_stepWord_50 : decode cX3_stepWord 50 = .ok (.ldc 94, 2) := by decide +kernel
theorem dX3_stepWord_52 : decode cX3_stepWord 52 = .ok (.invokevirtual 90, 3) := by decide +kernel
theorem dX3_stepWord_55 : decode cX3_stepWord 55 = .ok (.ifCond .eq 7, 3) := by decide +kernel
theorem dX3_stepWord_58 : decode cX3_stepWord 58 = .ok (.iconst 4, 1) := by decide +kernel
theorem dX3_stepWord_59 : decode cX3_stepWord 59 = .ok (.goto 18, 3) := by decide +kernel
theorem dX3_stepWord_62 : decode cX3_stepWord 62 = .ok (.aload_n 0, 1) := by decide +kernel
theorem dX3_stepWord_63 : decode cX3_stepWord 63 = .ok (.ldc 96, 2) := by decide +kernel
theorem dX3_stepWord_65 : decode cX3_stepWord 65 = .ok (.invokevirtual 90, 3) := by decide +kernel
theorem dX3_stepWord_68 : decode cX3_stepWord 68 = .ok (.ifCond .eq 7, 3) := by decide +kernel
theorem dX3_stepWord_71 : decode cX3_stepWord 71 = .ok (.iconst 5, 1) := by decide +kernel
theorem dX3_stepWord_72 : decode cX3_stepWord 72 = .ok (.goto 5, 3) := by decide +kernel
theorem dX3_stepWord_75 : decode cX3_stepWord 75 = .ok (.bipush 6, 2) := by decide +kernel
theorem dX3_stepWord_77 : decode cX3_stepWord 77 = .ok (.putfield 29, 3) := by decide +kernel
theorem dX3_stepWord_80 : decode cX3_stepWord 80 = .ok (.return_, 1) := by decide +kernel
theorem dX3_stepNumber_0 : decode cX3_stepNumber 0 = .ok (.aload_n 0, 1) := by decide +kernel
theorem dX3_stepNumber_1 : decode cX3_stepNumber 1 = .ok (.iconst 0, 1) := by decide +kernel
theorem dX3_stepNumber_2 : decode cX3_stepNumber 2 = .ok (.putfield 72, 3) := by decide +kernel
theorem dX3_stepNumber_5 : decode cX3_stepNumber 5 = .ok (.aload_n 0, 1) := by decide +kernel
theorem dX3_stepNumber_6 : decode cX3_stepNumber 6 = .ok (.getfield 19, 3) := by decide +kernel
theorem dX3_stepNumber_9 : decode cX3_stepNumber 9 = .ok (.aload_n 0, 1) := by decide +kernel
theorem dX3_stepNumber_10 : decode cX3_stepNumber 10 = .ok (.getfield 15, 3) := by decide +kernel
theorem dX3_stepNumber_13 : decode cX3_stepNumber 13 = .ok (.if_icmp .ge 71, 3) := by decide +kernel
theorem dX3_stepNumber_16 : decode cX3_stepNumber 16 = .ok (.aload_n 0, 1) := by decide +kernel
theorem dX3_stepNumber_17 : decode cX3_stepNumber 17 = .ok (.aload_n 0, 1) := by decide +kernel
theorem dX3_stepNumber_18 : decode cX3_stepNumber 18 = .ok (.getfield 19, 3) := by decide +kernel
theorem dX3_stepNumber_21 : decode cX3_stepNumber 21 = .ok (.invokevirtual 82, 3) := by decide +kernel
theorem dX3_stepNumber_24 : decode cX3_stepNumber 24 = .ok (.ifCond .eq 60, 3) := by decide +kernel
theorem dX3_stepNumber_27 : decode cX3_stepNumber 27 = .ok (.aload_n 0, 1) := by decide +kernel
theorem dX3_stepNumber_28 : decode cX3_stepNumber 28 = .ok (.aload_n 0, 1) := by decide +kernel
theorem dX3_stepNumber_29 : decode cX3_stepNumber 29 = .ok (.getfield 19, 3) := by decide +kernel
theorem dX3_stepNumber_32 : decode cX3_stepNumber 32 = .ok (.aload_n 0, 1) := by decide +kernel
theorem dX3_stepNumber_33 : decode cX3_stepNumber 33 = .ok (.getfield 38, 3) := by decide +kernel
theorem dX3_stepNumber_36 : decode cX3_stepNumber 36 = .ok (.isub, 1) := by decide +kernel
theorem dX3_stepNumber_37 : decode cX3_stepNumber 37 = .ok (.iconst 2, 1) := by decide +kernel
theorem dX3_stepNumber_38 : decode cX3_stepNumber 38 = .ok (.if_icmp .ge 26, 3) := by decide +kernel
theorem dX3_stepNumber_41 : decode cX3_stepNumber 41 = .ok (.bipush 10, 2) := by decide +kernel
theorem dX3_stepNumber_43 : decode cX3_stepNumber 43 = .ok (.aload_n 0, 1) := by decide +kernel
theorem dX3_stepNumber_44 : decode cX3_stepNumber 44 = .ok (.getfield 72, 3) := by decide +kernel
theorem dX3_stepNumber_47 : decode cX3_stepNumber 47 = .ok (.imul, 1) := by decide +kernel
theorem dX3_stepNumber_48 : decode cX3_stepNumber 48 = .ok (.aload_n 0, 1) := by decide +kernel
theorem dX3_stepNumber_49 : decode cX3_stepNumber 49 = .ok (.getfield 9, 3) := by decide +kernel
theorem dX3_stepNumber_52 : decode cX3_stepNumber 52 = .ok (.aload_n 0, 1) := by decide +kernel
theorem dX3_stepNumber_53 : decode cX3_stepNumber 53 = .ok (.getfield 19, 3) := by decide +kernel
theorem dX3_stepNumber_56 : decode cX3_stepNumber 56 = .ok (.iaload, 1) := by decide +kernel
theorem dX3_stepNumber_57 : decode cX3_stepNumber 57 = .ok (.iadd, 1) := by decide +kernel
theorem dX3_stepNumber_58 : decode cX3_stepNumber 58 = .ok (.bipush 48, 2) := by decide +kernel
theorem dX3_stepNumber_60 : decode cX3_stepNumber 60 = .ok (.isub, 1) := by decide +kernel
theorem dX3_stepNumber_61 : decode cX3_stepNumber 61 = .ok (.goto 7, 3) := by decide +kernel
theorem dX3_stepNumber_64 : decode cX3_stepNumber 64 = .ok (.aload_n 0, 1) := by decide +kernel
theorem dX3_stepNumber_65 : decode cX3_stepNumber 65 = .ok (.getfield 72, 3) := by decide +kernel
theorem dX3_stepNumber_68 : decode cX3_stepNumber 68 = .ok (.putfield 72, 3) := by decide +kernel
theorem dX3_stepNumber_71 : decode cX3_stepNumber 71 = .ok (.aload_n 0, 1) := by decide +kernel
theorem dX3_stepNumber_72 : decode cX3_stepNumber 72 = .ok (.dup, 1) := by decide +kernel
theorem dX3_stepNumber_73 : decode cX3_stepNumber 73 = .ok (.getfield 19, 3) := by decide +kernel
theorem dX3_stepNumber_76 : decode cX3_stepNumber 76 = .ok (.iconst 1, 1) := by decide +kernel
theorem dX3_stepNumber_77 : decode cX3_stepNumber 77 = .ok (.iadd, 1) := by decide +kernel
theorem dX3_stepNumber_78 : decode cX3_stepNumber 78 = .ok (.putfield 19, 3) := by decide +kernel
theorem dX3_stepNumber_81 : decode cX3_stepNumber 81 = .ok (.goto (-76), 3) := by decide +kernel
theorem dX3_stepNumber_84 : decode cX3_stepNumber 84 = .ok (.aload_n 0, 1) := by decide +kernel
theorem dX3_stepNumber_85 : decode cX3_stepNumber 85 = .ok (.aload_n 0, 1) := by decide +kernel
theorem dX3_stepNumber_86 : decode cX3_stepNumber 86 = .ok (.getfield 19, 3) := by decide +kernel
theorem dX3_stepNumber_89 : decode cX3_stepNumber 89 = .ok (.aload_n 0, 1) := by decide +kernel
theorem dX3_stepNumber_90 : decode cX3_stepNumber 90 = .ok (.getfield 38, 3) := by decide +kernel
theorem dX3_stepNumber_93 : decode cX3_stepNumber 93 = .ok (.isub, 1) := by decide +kernel
theorem dX3_stepNumber_94 : decode cX3_stepNumber 94 = .ok (.iconst 2, 1) := by decide +kernel
theorem dX3_stepNumber_95 : decode cX3_stepNumber 95 = .ok (.if_icmp .gt 7, 3) := by decide +kernel
theorem dX3_stepNumber_98 : decode cX3_stepNumber 98 = .ok (.iconst 2, 1) := by decide +kernel
theorem dX3_stepNumber_99 : decode cX3_stepNumber 99 = .ok (.goto 5, 3) := by decide +kernel
theorem dX3_stepNumber_102 : decode cX3_stepNumber 102 = .ok (.bipush 6, 2) := by decide +kernel
theorem dX3_stepNumber_104 : decode cX3_stepNumber 104 = .ok (.putfield 29, 3) := by decide +kernel
theorem dX3_stepNumber_107 : decode cX3_stepNumber 107 = .ok (.return_, 1) := by decide +kernel
theorem dX3_isWord_0 : decode cX3_isWord 0 = .ok (.aload_n 1, 1) := by decide +kernel
theorem dX3_isWord_1 : decode cX3_isWord 1 = .ok (.invokevirtual 98, 3) := by decide +kernel
theorem dX3_isWord_4 : decode cX3_isWord 4 = .ok (.aload_n 0, 1) := by decide +kernel
theorem dX3_isWord_5 : decode cX3_isWord 5 = .ok (.getfield 19, 3) := by decide +kernel
theorem dX3_isWord_8 : decode cX3_isWord 8 = .ok (.aload_n 0, 1) := by decide +kernel
theorem dX3_isWord_9 : decode cX3_isWord 9 = .ok (.getfield 38, 3) := by decide +kernel
theorem dX3_isWord_12 : decode cX3_isWord 12 = .ok (.isub, 1) := by decide +kernel
theorem dX3_isWord_13 : decode cX3_isWord 13 = .ok (.if_icmp .eq 5, 3) := by decide +kernel
theorem dX3_isWord_16 : decode cX3_isWord 16 = .ok (.iconst 0, 1) := by decide +kernel
theorem dX3_isWord_17 : decode cX3_isWord 17 = .ok (.ireturn, 1) := by decide +kernel
theorem dX3_isWord_18 : decode cX3_isWord 18 = .ok (.iconst 0, 1) := by decide +kernel
theorem dX3_isWord_19 : decode cX3_isWord 19 = .ok (.istore_n 2, 1) := by decide +kernel
theorem dX3_isWord_20 : decode cX3_isWord 20 = .ok (.iload_n 2, 1) := by decide +kernel
theorem dX3_isWord_21 : decode cX3_isWord 21 = .ok (.aload_n 1, 1) := by decide +kernel
theorem dX3_isWord_22 : decode cX3_isWord 22 = .ok (.invokevirtual 98, 3) := by decide +kernel
theorem dX3_isWord_25 : decode cX3_isWord 25 = .ok (.if_icmp .ge 30, 3) := by decide +kernel
theorem dX3_isWord_28 : decode cX3_isWord 28 = .ok (.aload_n 0, 1) := by decide +kernel
theorem dX3_isWord_29 : decode cX3_isWord 29 = .ok (.getfield 9, 3) := by decide +kernel
theorem dX3_isWord_32 : decode cX3_isWord 32 = .ok (.aload_n 0, 1) := by decide +kernel
theorem dX3_isWord_33 : decode cX3_isWord 33 = .ok (.getfield 38, 3) := by decide +kernel
theorem dX3_isWord_36 : decode cX3_isWord 36 = .ok (.iload_n 2, 1) := by decide +kernel
theorem dX3_isWord_37 : decode cX3_isWord 37 = .ok (.iadd, 1) := by decide +kernel
theorem dX3_isWord_38 : decode cX3_isWord 38 = .ok (.iaload, 1) := by decide +kernel
theorem dX3_isWord_39 : decode cX3_isWord 39 = .ok (.aload_n 1, 1) := by decide +kernel
theorem dX3_isWord_40 : decode cX3_isWord 40 = .ok (.iload_n 2, 1) := by decide +kernel
theorem dX3_isWord_41 : decode cX3_isWord 41 = .ok (.invokevirtual 103, 3) := by decide +kernel
theorem dX3_isWord_44 : decode cX3_isWord 44 = .ok (.if_icmp .eq 5, 3) := by decide +kernel
theorem dX3_isWord_47 : decode cX3_isWord 47 = .ok (.iconst 0, 1) := by decide +kernel
theorem dX3_isWord_48 : decode cX3_isWord 48 = .ok (.ireturn, 1) := by decide +kernel
theorem dX3_isWord_49 : decode cX3_isWord 49 = .ok (.iinc 2 1, 3) := by decide +kernel
theorem dX3_isWord_52 : decode cX3_isWord 52 = .ok (.goto (-32), 3) := by decide +kernel
theorem dX3_isWord_55 : decode cX3_isWord 55 = .ok (.iconst 1, 1) := by decide +kernel
theorem dX3_isWord_56 : decode cX3_isWord 56 = .ok (.ireturn, 1) := by decide +kernel
theorem dX3_isLetter_0 : decode cX3_isLetter 0 = .ok (.aload_n 0, 1) := by decide +kernel
theorem dX3_isLetter_1 : decode cX3_isLetter 1 = .ok (.getfield 9, 3) := by decide +kernel
theorem dX3_isLetter_4 : decode cX3_isLetter 4 = .ok (.iload_n 1, 1) := by decide +kernel
theorem dX3_isLetter_5 : decode cX3_isLetter 5 = .ok (.iaload, 1) := by decide +kernel
theorem dX3_isLetter_6 : decode cX3_isLetter 6 = .ok (.bipush 97, 2) := by decide +kernel
theorem dX3_isLetter_8 : decode cX3_isLetter 8 = .ok (.if_icmp .lt 18, 3) := by decide +kernel
theorem dX3_isLetter_11 : decode cX3_isLetter 11 = .ok (.aload_n 0, 1) := by decide +kernel
theorem dX3_isLetter_12 : decode cX3_isLetter 12 = .ok (.getfield 9, 3) := by decide +kernel
theorem dX3_isLetter_15 : decode cX3_isLetter 15 = .ok (.iload_n 1, 1) := by decide +kernel
theorem dX3_isLetter_16 : decode cX3_isLetter 16 = .ok (.iaload, 1) := by decide +kernel
theorem dX3_isLetter_17 : decode cX3_isLetter 17 = .ok (.bipush 122, 2) := by decide +kernel
theorem dX3_isLetter_19 : decode cX3_isLetter 19 = .ok (.if_icmp .gt 7, 3) := by decide +kernel
theorem dX3_isLetter_22 : decode cX3_isLetter 22 = .ok (.iconst 1, 1) := by decide +kernel
theorem dX3_isLetter_23 : decode cX3_isLetter 23 = .ok (.goto 4, 3) := by decide +kernel
theorem dX3_isLetter_26 : decode cX3_isLetter 26 = .ok (.iconst 0, 1) := by decide +kernel
theorem dX3_isLetter_27 : decode cX3_isLetter 27 = .ok (.ireturn, 1) := by decide +kernel
theorem dX3_isFigure_0 : decode cX3_isFigure 0 = .ok (.aload_n 0, 1) := by decide +kernel
theorem dX3_isFigure_1 : decode cX3_isFigure 1 = .ok (.getfield 9, 3) := by decide +kernel
theorem dX3_isFigure_4 : decode cX3_isFigure 4 = .ok (.iload_n 1, 1) := by decide +kernel
theorem dX3_isFigure_5 : decode cX3_isFigure 5 = .ok (.iaload, 1) := by decide +kernel
theorem dX3_isFigure_6 : decode cX3_isFigure 6 = .ok (.bipush 48, 2) := by decide +kernel
theorem dX3_isFigure_8 : decode cX3_isFigure 8 = .ok (.if_icmp .lt 18, 3) := by decide +kernel
theorem dX3_isFigure_11 : decode cX3_isFigure 11 = .ok (.aload_n 0, 1) := by decide +kernel
theorem dX3_isFigure_12 : decode cX3_isFigure 12 = .ok (.getfield 9, 3) := by decide +kernel
theorem dX3_isFigure_15 : decode cX3_isFigure 15 = .ok (.iload_n 1, 1) := by decide +kernel
theorem dX3_isFigure_16 : decode cX3_isFigure 16 = .ok (.iaload, 1) := by decide +kernel
theorem dX3_isFigure_17 : decode cX3_isFigure 17 = .ok (.bipush 57, 2) := by decide +kernel
theorem dX3_isFigure_19 : decode cX3_isFigure 19 = .ok (.if_icmp .gt 7, 3) := by decide +kernel
theorem dX3_isFigure_22 : decode cX3_isFigure 22 = .ok (.iconst 1, 1) := by decide +kernel
theorem dX3_isFigure_23 : decode cX3_isFigure 23 = .ok (.goto 4, 3) := by decide +kernel
theorem dX3_isFigure_26 : decode cX3_isFigure 26 = .ok (.iconst 0, 1) := by decide +kernel
theorem dX3_isFigure_27 : decode cX3_isFigure 27 = .ok (.ireturn, 1) := by decide +kernel
theorem dX4_init_0 : decode cX4_init 0 = .ok (.aload_n 0, 1) := by decide +kernel
theorem dX4_init_1 : decode cX4_init 1 = .ok (.invokespecial 3, 3) := by decide +kernel
theorem dX4_init_4 : decode cX4_init 4 = .ok (.aload_n 0, 1) := by decide +kernel
theorem dX4_init_5 : decode cX4_init 5 = .ok (.bipush 8, 2) := by decide +kernel
theorem dX4_init_7 : decode cX4_init 7 = .ok (.newarray .int, 2) := by decide +kernel
theorem dX4_init_9 : decode cX4_init 9 = .ok (.putfield 9, 3) := by decide +kernel
theorem dX4_init_12 : decode cX4_init 12 = .ok (.aload_n 0, 1) := by decide +kernel
theorem dX4_init_13 : decode cX4_init 13 = .ok (.bipush 8, 2) := by decide +kernel
theorem dX4_init_15 : decode cX4_init 15 = .ok (.newarray .int, 2) := by decide +kernel
theorem dX4_init_17 : decode cX4_init 17 = .ok (.putfield 15, 3) := by decide +kernel
theorem dX4_init_20 : decode cX4_init 20 = .ok (.aload_n 0, 1) := by decide +kernel
theorem dX4_init_21 : decode cX4_init 21 = .ok (.bipush 8, 2) := by decide +kernel
theorem dX4_init_23 : decode cX4_init 23 = .ok (.newarray .int, 2) := by decide +kernel
theorem dX4_init_25 : decode cX4_init 25 = .ok (.putfield 18, 3) := by decide +kernel
theorem dX4_init_28 : decode cX4_init 28 = .ok (.aload_n 0, 1) := by decide +kernel
theorem dX4_init_29 : decode cX4_init 29 = .ok (.bipush 8, 2) := by decide +kernel
theorem dX4_init_31 : decode cX4_init 31 = .ok (.newarray .int, 2) := by decide +kernel
theorem dX4_init_33 : decode cX4_init 33 = .ok (.putfield 21, 3) := by decide +kernel
theorem dX4_init_36 : decode cX4_init 36 = .ok (.aload_n 0, 1) := by decide +kernel
theorem dX4_init_37 : decode cX4_init 37 = .ok (.iconst 4, 1) := by decide +kernel
theorem dX4_init_38 : decode cX4_init 38 = .ok (.newarray .long, 2) := by decide +kernel
theorem dX4_init_40 : decode cX4_init 40 = .ok (.putfield 24, 3) := by decide +kernel
theorem dX4_init_43 : decode cX4_init 43 = .ok (.aload_n 0, 1) := by decide +kernel
theorem dX4_init_44 : decode cX4_init 44 = .ok (.new 28, 3) := by decide +kernel
theorem dX4_init_47 : decode cX4_init 47 = .ok (.dup, 1) := by decide +kernel
theorem dX4_init_48 : decode cX4_init 48 = .ok (.invokespecial 30, 3) := by decide +kernel
theorem dX4_init_51 : decode cX4_init 51 = .ok (.putfield 31, 3) := by decide +kernel
theorem dX4_init_54 : decode cX4_init 54 = .ok (.aload_n 0, 1) := by decide +kernel
theorem dX4_init_55 : decode cX4_init 55 = .ok (.bipush 8, 2) := by decide +kernel
theorem dX4_init_57 : decode cX4_init 57 = .ok (.newarray .int, 2) := by decide +kernel
theorem dX4_init_59 : decode cX4_init 59 = .ok (.putfield 35, 3) := by decide +kernel
theorem dX4_init_62 : decode cX4_init 62 = .ok (.aload_n 0, 1) := by decide +kernel
theorem dX4_init_63 : decode cX4_init 63 = .ok (.bipush 8, 2) := by decide +kernel
theorem dX4_init_65 : decode cX4_init 65 = .ok (.newarray .int, 2) := by decide +kernel
theorem dX4_init_67 : decode cX4_init 67 = .ok (.putfield 38, 3) := by decide +kernel
theorem dX4_init_70 : decode cX4_init 70 = .ok (.return_, 1) := by decide +kernel
theorem dX4_restart_0 : decode cX4_restart 0 = .ok (.iconst 0, 1) := by decide +kernel
theorem dX4_restart_1 : decode cX4_restart 1 = .ok (.istore_n 2, 1) := by decide +kernel
theorem dX4_restart_2 : decode cX4_restart 2 = .ok (.iload_n 2, 1) := by decide +kernel
theorem dX4_restart_3 : decode cX4_restart 3 = .ok (.iconst 4, 1) := by decide +kernel
theorem dX4_restart_4 : decode cX4_restart 4 = .ok (.if_icmp .ge 16, 3) := by decide +kernel
theorem dX4_restart_7 : decode cX4_restart 7 = .ok (.aload_n 0, 1) := by decide +kernel
theorem dX4_restart_8 : decode cX4_restart 8 = .ok (.getfield 24, 3) := by decide +kernel
theorem dX4_restart_11 : decode cX4_restart 11 = .ok (.iload_n 2, 1) := by decide +kernel
theorem dX4_restart_12 : decode cX4_restart 12 = .ok (.lconst 0, 1) := by decide +kernel
theorem dX4_restart_13 : decode cX4_restart 13 = .ok (.lastore, 1) := by decide +kernel
theorem dX4_restart_14 : decode cX4_restart 14 = .ok (.iinc 2 1, 3) := by decide +kernel
theorem dX4_restart_17 : decode cX4_restart 17 = .ok (.goto (-15), 3) := by decide +kernel
theorem dX4_restart_20 : decode cX4_restart 20 = .ok (.aload_n 0, 1) := by decide +kernel
theorem dX4_restart_21 : decode cX4_restart 21 = .ok (.getfield 31, 3) := by decide +kernel
theorem dX4_restart_24 : decode cX4_restart 24 = .ok (.iconst 0, 1) := by decide +kernel
theorem dX4_restart_25 : decode cX4_restart 25 = .ok (.putfield 43, 3) := by decide +kernel
theorem dX4_restart_28 : decode cX4_restart 28 = .ok (.aload_n 0, 1) := by decide +kernel
theorem dX4_restart_29 : decode cX4_restart 29 = .ok (.iconst 0, 1) := by decide +kernel
theorem dX4_restart_30 : decode cX4_restart 30 = .ok (.putfield 47, 3) := by decide +kernel
theorem dX4_restart_33 : decode cX4_restart 33 = .ok (.aload_n 0, 1) := by decide +kernel
theorem dX4_restart_34 : decode cX4_restart 34 = .ok (.iload_n 1, 1) := by decide +kernel
theorem dX4_restart_35 : decode cX4_restart 35 = .ok (.putfield 50, 3) := by decide +kernel
theorem dX4_restart_38 : decode cX4_restart 38 = .ok (.aload_n 0, 1) := by decide +kernel
theorem dX4_restart_39 : decode cX4_restart 39 = .ok (.iconst 0, 1) := by decide +kernel
theorem dX4_restart_40 : decode cX4_restart 40 = .ok (.putfield 53, 3) := by decide +kernel
theorem dX4_restart_43 : decode cX4_restart 43 = .ok (.return_, 1) := by decide +kernel
theorem dX4_copyOf_0 : decode cX4_copyOf 0 = .ok (.aload_n 1, 1) := by decide +kernel
theorem dX4_copyOf_1 : decode cX4_copyOf 1 = .ok (.getfield 9, 3) := by decide +kernel
theorem dX4_copyOf_4 : decode cX4_copyOf 4 = .ok (.iconst 0, 1) := by decide +kernel
theorem dX4_copyOf_5 : decode cX4_copyOf 5 = .ok (.aload_n 0, 1) := by decide +kernel
theorem dX4_copyOf_6 : decode cX4_copyOf 6 = .ok (.getfield 9, 3) := by decide +kernel
theorem dX4_copyOf_9 : decode cX4_copyOf 9 = .ok (.iconst 0, 1) := by decide +kernel
theorem dX4_copyOf_10 : decode cX4_copyOf 10 = .ok (.bipush 8, 2) := by decide +kernel
theorem dX4_copyOf_12 : decode cX4_copyOf 12 = .ok (.invokestatic 56, 3) := by decide +kernel
theorem dX4_copyOf_15 : decode cX4_copyOf 15 = .ok (.aload_n 1, 1) := by decide +kernel
theorem dX4_copyOf_16 : decode cX4_copyOf 16 = .ok (.getfield 15, 3) := by decide +kernel
theorem dX4_copyOf_19 : decode cX4_copyOf 19 = .ok (.iconst 0, 1) := by decide +kernel
theorem dX4_copyOf_20 : decode cX4_copyOf 20 = .ok (.aload_n 0, 1) := by decide +kernel
theorem dX4_copyOf_21 : decode cX4_copyOf 21 = .ok (.getfield 15, 3) := by decide +kernel
theorem dX4_copyOf_24 : decode cX4_copyOf 24 = .ok (.iconst 0, 1) := by decide +kernel
theorem dX4_copyOf_25 : decode cX4_copyOf 25 = .ok (.bipush 8, 2) := by decide +kernel
theorem dX4_copyOf_27 : decode cX4_copyOf 27 = .ok (.invokestatic 56, 3) := by decide +kernel
theorem dX4_copyOf_30 : decode cX4_copyOf 30 = .ok (.aload_n 1, 1) := by decide +kernel
theorem dX4_copyOf_31 : decode cX4_copyOf 31 = .ok (.getfield 18, 3) := by decide +kernel
theorem dX4_copyOf_34 : decode cX4_copyOf 34 = .ok (.iconst 0, 1) := by decide +kernel
theorem dX4_copyOf_35 : decode cX4_copyOf 35 = .ok (.aload_n 0, 1) := by decide +kernel
theorem dX4_copyOf_36 : decode cX4_copyOf 36 = .ok (.getfield 18, 3) := by decide +kernel
theorem dX4_copyOf_39 : decode cX4_copyOf 39 = .ok (.iconst 0, 1) := by decide +kernel
theorem dX4_copyOf_40 : decode cX4_copyOf 40 = .ok (.bipush 8, 2) := by decide +kernel
theorem dX4_copyOf_42 : decode cX4_copyOf 42 = .ok (.invokestatic 56, 3) := by decide +kernel
theorem dX4_copyOf_45 : decode cX4_copyOf 45 = .ok (.aload_n 1, 1) := by decide +kernel
theorem dX4_copyOf_46 : decode cX4_copyOf 46 = .ok (.getfield 21, 3) := by decide +kernel
theorem dX4_copyOf_49 : decode cX4_copyOf 49 = .ok (.iconst 0, 1) := by decide +kernel
theorem dX4_copyOf_50 : decode cX4_copyOf 50 = .ok (.aload_n 0, 1) := by decide +kernel
theorem dX4_copyOf_51 : decode cX4_copyOf 51 = .ok (.getfield 21, 3) := by decide +kernel
theorem dX4_copyOf_54 : decode cX4_copyOf 54 = .ok (.iconst 0, 1) := by decide +kernel
theorem dX4_copyOf_55 : decode cX4_copyOf 55 = .ok (.bipush 8, 2) := by decide +kernel
theorem dX4_copyOf_57 : decode cX4_copyOf 57 = .ok (.invokestatic 56, 3) := by decide +kernel
theorem dX4_copyOf_60 : decode cX4_copyOf 60 = .ok (.aload_n 1, 1) := by decide +kernel
theorem dX4_copyOf_61 : decode cX4_copyOf 61 = .ok (.getfield 24, 3) := by decide +kernel
theorem dX4_copyOf_64 : decode cX4_copyOf 64 = .ok (.iconst 0, 1) := by decide +kernel
theorem dX4_copyOf_65 : decode cX4_copyOf 65 = .ok (.aload_n 0, 1) := by decide +kernel
theorem dX4_copyOf_66 : decode cX4_copyOf 66 = .ok (.getfield 24, 3) := by decide +kernel
theorem dX4_copyOf_69 : decode cX4_copyOf 69 = .ok (.iconst 0, 1) := by decide +kernel
theorem dX4_copyOf_70 : decode cX4_copyOf 70 = .ok (.iconst 4, 1) := by decide +kernel
theorem dX4_copyOf_71 : decode cX4_copyOf 71 = .ok (.invokestatic 56, 3) := by decide +kernel
theorem dX4_copyOf_74 : decode cX4_copyOf 74 = .ok (.aload_n 0, 1) := by decide +kernel
theorem dX4_copyOf_75 : decode cX4_copyOf 75 = .ok (.getfield 31, 3) := by decide +kernel
theorem dX4_copyOf_78 : decode cX4_copyOf 78 = .ok (.aload_n 1, 1) := by decide +kernel
theorem dX4_copyOf_79 : decode cX4_copyOf 79 = .ok (.getfield 31, 3) := by decide +kernel
theorem dX4_copyOf_82 : decode cX4_copyOf 82 = .ok (.invokevirtual 62, 3) := by decide +kernel
theorem dX4_copyOf_85 : decode cX4_copyOf 85 = .ok (.aload_n 0, 1) := by decide +kernel
theorem dX4_copyOf_86 : decode cX4_copyOf 86 = .ok (.aload_n 1, 1) := by decide +kernel
theorem dX4_copyOf_87 : decode cX4_copyOf 87 = .ok (.getfield 47, 3) := by decide +kernel
theorem dX4_copyOf_90 : decode cX4_copyOf 90 = .ok (.putfield 47, 3) := by decide +kernel
theorem dX4_copyOf_93 : decode cX4_copyOf 93 = .ok (.aload_n 0, 1) := by decide +kernel
theorem dX4_copyOf_94 : decode cX4_copyOf 94 = .ok (.aload_n 1, 1) := by decide +kernel
theorem dX4_copyOf_95 : decode cX4_copyOf 95 = .ok (.getfield 50, 3) := by decide +kernel
theorem dX4_copyOf_98 : decode cX4_copyOf 98 = .ok (.putfield 50, 3) := by decide +kernel
theorem dX4_copyOf_101 : decode cX4_copyOf 101 = .ok (.aload_n 0, 1) := by decide +kernel
theorem dX4_copyOf_102 : decode cX4_copyOf 102 = .ok (.aload_n 1, 1) := by decide +kernel
theorem dX4_copyOf_103 : decode cX4_copyOf 103 = .ok (.getfield 53, 3) := by decide +kernel
theorem dX4_copyOf_106 : decode cX4_copyOf 106 = .ok (.putfield 53, 3) := by decide +kernel
theorem dX4_copyOf_109 : decode cX4_copyOf 109 = .ok (.aload_n 1, 1) := by decide +kernel
theorem dX4_copyOf_110 : decode cX4_copyOf 110 = .ok (.getfield 35, 3) := by decide +kernel
theorem dX4_copyOf_113 : decode cX4_copyOf 113 = .ok (.iconst 0, 1) := by decide +kernel
theorem dX4_copyOf_114 : decode cX4_copyOf 114 = .ok (.aload_n 0, 1) := by decide +kernel
theorem dX4_copyOf_115 : decode cX4_copyOf 115 = .ok (.getfield 35, 3) := by decide +kernel
theorem dX4_copyOf_118 : decode cX4_copyOf 118 = .ok (.iconst 0, 1) := by decide +kernel
theorem dX4_copyOf_119 : decode cX4_copyOf 119 = .ok (.bipush 8, 2) := by decide +kernel
theorem dX4_copyOf_121 : decode cX4_copyOf 121 = .ok (.invokestatic 56, 3) := by decide +kernel
theorem dX4_copyOf_124 : decode cX4_copyOf 124 = .ok (.aload_n 1, 1) := by decide +kernel
theorem dX4_copyOf_125 : decode cX4_copyOf 125 = .ok (.getfield 38, 3) := by decide +kernel
theorem dX4_copyOf_128 : decode cX4_copyOf 128 = .ok (.iconst 0, 1) := by decide +kernel
theorem dX4_copyOf_129 : decode cX4_copyOf 129 = .ok (.aload_n 0, 1) := by decide +kernel
theorem dX4_copyOf_130 : decode cX4_copyOf 130 = .ok (.getfield 38, 3) := by decide +kernel
theorem dX4_copyOf_133 : decode cX4_copyOf 133 = .ok (.iconst 0, 1) := by decide +kernel
theorem dX4_copyOf_134 : decode cX4_copyOf 134 = .ok (.bipush 8, 2) := by decide +kernel
theorem dX4_copyOf_136 : decode cX4_copyOf 136 = .ok (.invokestatic 56, 3) := by decide +kernel
theorem dX4_copyOf_139 : decode cX4_copyOf 139 = .ok (.return_, 1) := by decide +kernel
theorem dX4_build_0 : decode cX4_build 0 = .ok (.aload_n 0, 1) := by decide +kernel
theorem dX4_build_1 : decode cX4_build 1 = .ok (.getfield 47, 3) := by decide +kernel
theorem dX4_build_4 : decode cX4_build 4 = .ok (.bipush 8, 2) := by decide +kernel
theorem dX4_build_6 : decode cX4_build 6 = .ok (.if_icmp .lt 5, 3) := by decide +kernel
theorem dX4_build_9 : decode cX4_build 9 = .ok (.iconst (-1), 1) := by decide +kernel
theorem dX4_build_10 : decode cX4_build 10 = .ok (.ireturn, 1) := by decide +kernel
theorem dX4_build_11 : decode cX4_build 11 = .ok (.aload_n 0, 1) := by decide +kernel
theorem dX4_build_12 : decode cX4_build 12 = .ok (.getfield 47, 3) := by decide +kernel
theorem dX4_build_15 : decode cX4_build 15 = .ok (.istore 5, 2) := by decide +kernel
theorem dX4_build_17 : decode cX4_build 17 = .ok (.aload_n 0, 1) := by decide +kernel
theorem dX4_build_18 : decode cX4_build 18 = .ok (.getfield 9, 3) := by decide +kernel
theorem dX4_build_21 : decode cX4_build 21 = .ok (.iload 5, 2) := by decide +kernel
theorem dX4_build_23 : decode cX4_build 23 = .ok (.iload_n 1, 1) := by decide +kernel
theorem dX4_build_24 : decode cX4_build 24 = .ok (.iastore, 1) := by decide +kernel
theorem dX4_build_25 : decode cX4_build 25 = .ok (.aload_n 0, 1) := by decide +kernel
theorem dX4_build_26 : decode cX4_build 26 = .ok (.getfield 15, 3) := by decide +kernel
theorem dX4_build_29 : decode cX4_build 29 = .ok (.iload 5, 2) := by decide +kernel
theorem dX4_build_31 : decode cX4_build 31 = .ok (.iload_n 2, 1) := by decide +kernel
theorem dX4_build_32 : decode cX4_build 32 = .ok (.iastore, 1) := by decide +kernel
theorem dX4_build_33 : decode cX4_build 33 = .ok (.aload_n 0, 1) := by decide +kernel
theorem dX4_build_34 : decode cX4_build 34 = .ok (.getfield 18, 3) := by decide +kernel
theorem dX4_build_37 : decode cX4_build 37 = .ok (.iload 5, 2) := by decide +kernel
theorem dX4_build_39 : decode cX4_build 39 = .ok (.iload_n 3, 1) := by decide +kernel
theorem dX4_build_40 : decode cX4_build 40 = .ok (.iastore, 1) := by decide +kernel
theorem dX4_build_41 : decode cX4_build 41 = .ok (.aload_n 0, 1) := by decide +kernel
theorem dX4_build_42 : decode cX4_build 42 = .ok (.getfield 21, 3) := by decide +kernel
theorem dX4_build_45 : decode cX4_build 45 = .ok (.iload 5, 2) := by decide +kernel
theorem dX4_build_47 : decode cX4_build 47 = .ok (.iload 4, 2) := by decide +kernel
theorem dX4_build_49 : decode cX4_build 49 = .ok (.iastore, 1) := by decide +kernel
theorem dX4_build_50 : decode cX4_build 50 = .ok (.aload_n 0, 1) := by decide +kernel
theorem dX4_build_51 : decode cX4_build 51 = .ok (.dup, 1) := by decide +kernel
theorem dX4_build_52 : decode cX4_build 52 = .ok (.getfield 47, 3) := by decide +kernel
theorem dX4_build_55 : decode cX4_build 55 = .ok (.iconst 1, 1) := by decide +kernel
theorem dX4_build_56 : decode cX4_build 56 = .ok (.iadd, 1) := by decide +kernel
theorem dX4_build_57 : decode cX4_build 57 = .ok (.putfield 47, 3) := by decide +kernel
theorem dX4_build_60 : decode cX4_build 60 = .ok (.aload_n 0, 1) := by decide +kernel
theorem dX4_build_61 : decode cX4_build 61 = .ok (.iconst 0, 1) := by decide +kernel
theorem dX4_build_62 : decode cX4_build 62 = .ok (.putfield 53, 3) := by decide +kernel
theorem dX4_build_65 : decode cX4_build 65 = .ok (.iload 5, 2) := by decide +kernel
theorem dX4_build_67 : decode cX4_build 67 = .ok (.ireturn, 1) := by decide +kernel
theorem dX4_retell_0 : decode cX4_retell 0 = .ok (.bipush 16, 2) := by decide +kernel
theorem dX4_retell_2 : decode cX4_retell 2 = .ok (.aload_n 0, 1) := by decide +kernel
theorem dX4_retell_3 : decode cX4_retell 3 = .ok (.getfield 18, 3) := by decide +kernel
theorem dX4_retell_6 : decode cX4_retell 6 = .ok (.iload_n 1, 1) := by decide +kernel
theorem dX4_retell_7 : decode cX4_retell 7 = .ok (.iaload, 1) := by decide +kernel
theorem dX4_retell_8 : decode cX4_retell 8 = .ok (.imul, 1) := by decide +kernel
theorem dX4_retell_9 : decode cX4_retell 9 = .ok (.aload_n 0, 1) := by decide +kernel
theorem dX4_retell_10 : decode cX4_retell 10 = .ok (.getfield 21, 3) := by decide +kernel
theorem dX4_retell_13 : decode cX4_retell 13 = .ok (.iload_n 1, 1) := by decide +kernel
theorem dX4_retell_14 : decode cX4_retell 14 = .ok (.iaload, 1) := by decide +kernel
theorem dX4_retell_15 : decode cX4_retell 15 = .ok (.iadd, 1) := by decide +kernel
theorem dX4_retell_16 : decode cX4_retell 16 = .ok (.istore 4, 2) := by decide +kernel
theorem dX4_retell_18 : decode cX4_retell 18 = .ok (.aload_n 0, 1) := by decide +kernel
theorem dX4_retell_19 : decode cX4_retell 19 = .ok (.iload_n 1, 1) := by decide +kernel
theorem dX4_retell_20 : decode cX4_retell 20 = .ok (.iload 4, 2) := by decide +kernel
theorem dX4_retell_22 : decode cX4_retell 22 = .ok (.invokevirtual 66, 3) := by decide +kernel
theorem dX4_retell_25 : decode cX4_retell 25 = .ok (.aload_n 0, 1) := by decide +kernel
theorem dX4_retell_26 : decode cX4_retell 26 = .ok (.getfield 18, 3) := by decide +kernel
theorem dX4_retell_29 : decode cX4_retell 29 = .ok (.iload_n 1, 1) := by decide +kernel
theorem dX4_retell_30 : decode cX4_retell 30 = .ok (.iload_n 2, 1) := by decide +kernel
theorem dX4_retell_31 : decode cX4_retell 31 = .ok (.iastore, 1) := by decide +kernel
theorem dX4_retell_32 : decode cX4_retell 32 = .ok (.aload_n 0, 1) := by decide +kernel
theorem dX4_retell_33 : decode cX4_retell 33 = .ok (.getfield 21, 3) := by decide +kernel
theorem dX4_retell_36 : decode cX4_retell 36 = .ok (.iload_n 1, 1) := by decide +kernel
theorem dX4_retell_37 : decode cX4_retell 37 = .ok (.iload_n 3, 1) := by decide +kernel
theorem dX4_retell_38 : decode cX4_retell 38 = .ok (.iastore, 1) := by decide +kernel
theorem dX4_retell_39 : decode cX4_retell 39 = .ok (.iload 4, 2) := by decide +kernel
theorem dX4_retell_41 : decode cX4_retell 41 = .ok (.ireturn, 1) := by decide +kernel
theorem dX4_letPass_0 : decode cX4_letPass 0 = .ok (.aload_n 0, 1) := by decide +kernel
theorem dX4_letPass_1 : decode cX4_letPass 1 = .ok (.iconst (-1), 1) := by decide +kernel
theorem dX4_letPass_2 : decode cX4_letPass 2 = .ok (.aload_n 0, 1) := by decide +kernel
theorem dX4_letPass_3 : decode cX4_letPass 3 = .ok (.getfield 50, 3) := by decide +kernel
theorem dX4_letPass_6 : decode cX4_letPass 6 = .ok (.invokevirtual 66, 3) := by decide +kernel
theorem dX4_letPass_9 : decode cX4_letPass 9 = .ok (.aload_n 0, 1) := by decide +kernel
theorem dX4_letPass_10 : decode cX4_letPass 10 = .ok (.aload_n 0, 1) := by decide +kernel
theorem dX4_letPass_11 : decode cX4_letPass 11 = .ok (.getfield 50, 3) := by decide +kernel
theorem dX4_letPass_14 : decode cX4_letPass 14 = .ok (.iload_n 1, 1) := by decide +kernel
theorem dX4_letPass_15 : decode cX4_letPass 15 = .ok (.iadd, 1) := by decide +kernel
theorem dX4_letPass_16 : decode cX4_letPass 16 = .ok (.bipush 12, 2) := by decide +kernel
theorem dX4_letPass_18 : decode cX4_letPass 18 = .ok (.irem, 1) := by decide +kernel
theorem dX4_letPass_19 : decode cX4_letPass 19 = .ok (.putfield 50, 3) := by decide +kernel
theorem dX4_letPass_22 : decode cX4_letPass 22 = .ok (.return_, 1) := by decide +kernel
theorem dX4_takeBack_0 : decode cX4_takeBack 0 = .ok (.aload_n 0, 1) := by decide +kernel
theorem dX4_takeBack_1 : decode cX4_takeBack 1 = .ok (.getfield 53, 3) := by decide +kernel
theorem dX4_takeBack_4 : decode cX4_takeBack 4 = .ok (.ifCond .gt 4, 3) := by decide +kernel
theorem dX4_takeBack_7 : decode cX4_takeBack 7 = .ok (.return_, 1) := by decide +kernel
theorem dX4_takeBack_8 : decode cX4_takeBack 8 = .ok (.aload_n 0, 1) := by decide +kernel
theorem dX4_takeBack_9 : decode cX4_takeBack 9 = .ok (.dup, 1) := by decide +kernel
theorem dX4_takeBack_10 : decode cX4_takeBack 10 = .ok (.getfield 53, 3) := by decide +kernel
theorem dX4_takeBack_13 : decode cX4_takeBack 13 = .ok (.iconst 1, 1) := by decide +kernel
theorem dX4_takeBack_14 : decode cX4_takeBack 14 = .ok (.isub, 1) := by decide +kernel
theorem dX4_takeBack_15 : decode cX4_takeBack 15 = .ok (.putfield 53, 3) := by decide +kernel
theorem dX4_takeBack_18 : decode cX4_takeBack 18 = .ok (.aload_n 0, 1) := by decide +kernel
theorem dX4_takeBack_19 : decode cX4_takeBack 19 = .ok (.getfield 35, 3) := by decide +kernel
theorem dX4_takeBack_22 : decode cX4_takeBack 22 = .ok (.aload_n 0, 1) := by decide +kernel
theorem dX4_takeBack_23 : decode cX4_takeBack 23 = .ok (.getfield 53, 3) := by decide +kernel
theorem dX4_takeBack_26 : decode cX4_takeBack 26 = .ok (.iaload, 1) := by decide +kernel
theorem dX4_takeBack_27 : decode cX4_takeBack 27 = .ok (.istore_n 1, 1) := by decide +kernel
theorem dX4_takeBack_28 : decode cX4_takeBack 28 = .ok (.aload_n 0, 1) := by decide +kernel
theorem dX4_takeBack_29 : decode cX4_takeBack 29 = .ok (.getfield 38, 3) := by decide +kernel
theorem dX4_takeBack_32 : decode cX4_takeBack 32 = .ok (.aload_n 0, 1) := by decide +kernel
theorem dX4_takeBack_33 : decode cX4_takeBack 33 = .ok (.getfield 53, 3) := by decide +kernel
theorem dX4_takeBack_36 : decode cX4_takeBack 36 = .ok (.iaload, 1) := by decide +kernel
theorem dX4_takeBack_37 : decode cX4_takeBack 37 = .ok (.istore_n 2, 1) := by decide +kernel
theorem dX4_takeBack_38 : decode cX4_takeBack 38 = .ok (.iload_n 1, 1) := by decide +kernel
theorem dX4_takeBack_39 : decode cX4_takeBack 39 = .ok (.iconst (-1), 1) := by decide +kernel
theorem dX4_takeBack_40 : decode cX4_takeBack 40 = .ok (.if_icmp .ne 11, 3) := by decide +kernel
theorem dX4_takeBack_43 : decode cX4_takeBack 43 = .ok (.aload_n 0, 1) := by decide +kernel
theorem dX4_takeBack_44 : decode cX4_takeBack 44 = .ok (.iload_n 2, 1) := by decide +kernel
theorem dX4_takeBack_45 : decode cX4_takeBack 45 = .ok (.putfield 50, 3) := by decide +kernel
theorem dX4_takeBack_48 : decode cX4_takeBack 48 = .ok (.goto 23, 3) := by decide +kernel
theorem dX4_takeBack_51 : decode cX4_takeBack 51 = .ok (.aload_n 0, 1) := by decide +kernel
theorem dX4_takeBack_52 : decode cX4_takeBack 52 = .ok (.getfield 18, 3) := by decide +kernel
theorem dX4_takeBack_55 : decode cX4_takeBack 55 = .ok (.iload_n 1, 1) := by decide +kernel
theorem dX4_takeBack_56 : decode cX4_takeBack 56 = .ok (.iload_n 2, 1) := by decide +kernel
theorem dX4_takeBack_57 : decode cX4_takeBack 57 = .ok (.bipush 16, 2) := by decide +kernel
theorem dX4_takeBack_59 : decode cX4_takeBack 59 = .ok (.idiv, 1) := by decide +kernel
theorem dX4_takeBack_60 : decode cX4_takeBack 60 = .ok (.iastore, 1) := by decide +kernel
theorem dX4_takeBack_61 : decode cX4_takeBack 61 = .ok (.aload_n 0, 1) := by decide +kernel
theorem dX4_takeBack_62 : decode cX4_takeBack 62 = .ok (.getfield 21, 3) := by decide +kernel
theorem dX4_takeBack_65 : decode cX4_takeBack 65 = .ok (.iload_n 1, 1) := by decide +kernel
theorem dX4_takeBack_66 : decode cX4_takeBack 66 = .ok (.iload_n 2, 1) := by decide +kernel
theorem dX4_takeBack_67 : decode cX4_takeBack 67 = .ok (.bipush 16, 2) := by decide +kernel
theorem dX4_takeBack_69 : decode cX4_takeBack 69 = .ok (.irem, 1) := by decide +kernel
theorem dX4_takeBack_70 : decode cX4_takeBack 70 = .ok (.iastore, 1) := by decide +kernel
theorem dX4_takeBack_71 : decode cX4_takeBack 71 = .ok (.return_, 1) := by decide +kernel
theorem dX4_remember_0 : decode cX4_remember 0 = .ok (.aload_n 0, 1) := by decide +kernel
theorem dX4_remember_1 : decode cX4_remember 1 = .ok (.getfield 53, 3) := by decide +kernel
theorem dX4_remember_4 : decode cX4_remember 4 = .ok (.bipush 8, 2) := by decide +kernel
theorem dX4_remember_6 : decode cX4_remember 6 = .ok (.if_icmp .lt 39, 3) := by decide +kernel
theorem dX4_remember_9 : decode cX4_remember 9 = .ok (.aload_n 0, 1) := by decide +kernel
theorem dX4_remember_10 : decode cX4_remember 10 = .ok (.getfield 35, 3) := by decide +kernel
theorem dX4_remember_13 : decode cX4_remember 13 = .ok (.iconst 1, 1) := by decide +kernel
theorem dX4_remember_14 : decode cX4_remember 14 = .ok (.aload_n 0, 1) := by decide +kernel
theorem dX4_remember_15 : decode cX4_remember 15 = .ok (.getfield 35, 3) := by decide +kernel
theorem dX4_remember_18 : decode cX4_remember 18 = .ok (.iconst 0, 1) := by decide +kernel
theorem dX4_remember_19 : decode cX4_remember 19 = .ok (.bipush 7, 2) := by decide +kernel
theorem dX4_remember_21 : decode cX4_remember 21 = .ok (.invokestatic 56, 3) := by decide +kernel
theorem dX4_remember_24 : decode cX4_remember 24 = .ok (.aload_n 0, 1) := by decide +kernel
theorem dX4_remember_25 : decode cX4_remember 25 = .ok (.getfield 38, 3) := by decide +kernel
theorem dX4_remember_28 : decode cX4_remember 28 = .ok (.iconst 1, 1) := by decide +kernel
theorem dX4_remember_29 : decode cX4_remember 29 = .ok (.aload_n 0, 1) := by decide +kernel
theorem dX4_remember_30 : decode cX4_remember 30 = .ok (.getfield 38, 3) := by decide +kernel
theorem dX4_remember_33 : decode cX4_remember 33 = .ok (.iconst 0, 1) := by decide +kernel
theorem dX4_remember_34 : decode cX4_remember 34 = .ok (.bipush 7, 2) := by decide +kernel
theorem dX4_remember_36 : decode cX4_remember 36 = .ok (.invokestatic 56, 3) := by decide +kernel
theorem dX4_remember_39 : decode cX4_remember 39 = .ok (.aload_n 0, 1) := by decide +kernel
theorem dX4_remember_40 : decode cX4_remember 40 = .ok (.bipush 7, 2) := by decide +kernel
theorem dX4_remember_42 : decode cX4_remember 42 = .ok (.putfield 53, 3) := by decide +kernel
theorem dX4_remember_45 : decode cX4_remember 45 = .ok (.aload_n 0, 1) := by decide +kernel
theorem dX4_remember_46 : decode cX4_remember 46 = .ok (.getfield 35, 3) := by decide +kernel
theorem dX4_remember_49 : decode cX4_remember 49 = .ok (.aload_n 0, 1) := by decide +kernel
theorem dX4_remember_50 : decode cX4_remember 50 = .ok (.getfield 53, 3) := by decide +kernel
theorem dX4_remember_53 : decode cX4_remember 53 = .ok (.iload_n 1, 1) := by decide +kernel
theorem dX4_remember_54 : decode cX4_remember 54 = .ok (.iastore, 1) := by decide +kernel
theorem dX4_remember_55 : decode cX4_remember 55 = .ok (.aload_n 0, 1) := by decide +kernel
theorem dX4_remember_56 : decode cX4_remember 56 = .ok (.getfield 38, 3) := by decide +kernel
theorem dX4_remember_59 : decode cX4_remember 59 = .ok (.aload_n 0, 1) := by decide +kernel
theorem dX4_remember_60 : decode cX4_remember 60 = .ok (.getfield 53, 3) := by decide +kernel
theorem dX4_remember_63 : decode cX4_remember 63 = .ok (.iload_n 2, 1) := by decide +kernel
theorem dX4_remember_64 : decode cX4_remember 64 = .ok (.iastore, 1) := by decide +kernel
theorem dX4_remember_65 : decode cX4_remember 65 = .ok (.aload_n 0, 1) := by decide +kernel
theorem dX4_remember_66 : decode cX4_remember 66 = .ok (.dup, 1) := by decide +kernel
theorem dX4_remember_67 : decode cX4_remember 67 = .ok (.getfield 53, 3) := by decide +kernel
theorem dX4_remember_70 : decode cX4_remember 70 = .ok (.iconst 1, 1) := by decide +kernel
theorem dX4_remember_71 : decode cX4_remember 71 = .ok (.iadd, 1) := by decide +kernel
theorem dX4_remember_72 : decode cX4_remember 72 = .ok (.putfield 53, 3) := by decide +kernel
theorem dX4_remember_75 : decode cX4_remember 75 = .ok (.return_, 1) := by decide +kernel
theorem dX4_behind_0 : decode cX4_behind 0 = .ok (.lload_n 2, 1) := by decide +kernel
theorem dX4_behind_1 : decode cX4_behind 1 = .ok (.aload_n 0, 1) := by decide +kernel
theorem dX4_behind_2 : decode cX4_behind 2 = .ok (.getfield 18, 3) := by decide +kernel
theorem dX4_behind_5 : decode cX4_behind 5 = .ok (.iload_n 1, 1) := by decide +kernel
theorem dX4_behind_6 : decode cX4_behind 6 = .ok (.iaload, 1) := by decide +kernel
theorem dX4_behind_7 : decode cX4_behind 7 = .ok (.aload_n 0, 1) := by decide +kernel
theorem dX4_behind_8 : decode cX4_behind 8 = .ok (.getfield 21, 3) := by decide +kernel
theorem dX4_behind_11 : decode cX4_behind 11 = .ok (.iload_n 1, 1) := by decide +kernel
theorem dX4_behind_12 : decode cX4_behind 12 = .ok (.iaload, 1) := by decide +kernel
theorem dX4_behind_13 : decode cX4_behind 13 = .ok (.aload_n 0, 1) := by decide +kernel
theorem dX4_behind_14 : decode cX4_behind 14 = .ok (.getfield 50, 3) := by decide +kernel
theorem dX4_behind_17 : decode cX4_behind 17 = .ok (.invokestatic 70, 3) := by decide +kernel
theorem dX4_behind_20 : decode cX4_behind 20 = .ok (.lreturn, 1) := by decide +kernel
theorem dX4_allSounds_0 : decode cX4_allSounds 0 = .ok (.lload_n 1, 1) := by decide +kernel
theorem dX4_allSounds_1 : decode cX4_allSounds 1 = .ok (.lstore 5, 2) := by decide +kernel
theorem dX4_allSounds_3 : decode cX4_allSounds 3 = .ok (.iconst 0, 1) := by decide +kernel
theorem dX4_allSounds_4 : decode cX4_allSounds 4 = .ok (.istore 7, 2) := by decide +kernel
theorem dX4_allSounds_6 : decode cX4_allSounds 6 = .ok (.iconst 0, 1) := by decide +kernel
theorem dX4_allSounds_7 : decode cX4_allSounds 7 = .ok (.istore 8, 2) := by decide +kernel
theorem dX4_allSounds_9 : decode cX4_allSounds 9 = .ok (.iload 8, 2) := by decide +kernel
theorem dX4_allSounds_11 : decode cX4_allSounds 11 = .ok (.aload_n 0, 1) := by decide +kernel
theorem dX4_allSounds_12 : decode cX4_allSounds 12 = .ok (.getfield 47, 3) := by decide +kernel
theorem dX4_allSounds_15 : decode cX4_allSounds 15 = .ok (.if_icmp .ge 55, 3) := by decide +kernel
theorem dX4_allSounds_18 : decode cX4_allSounds 18 = .ok (.iload 8, 2) := by decide +kernel
theorem dX4_allSounds_20 : decode cX4_allSounds 20 = .ok (.iload_n 3, 1) := by decide +kernel
theorem dX4_allSounds_21 : decode cX4_allSounds 21 = .ok (.if_icmp .ne 8, 3) := by decide +kernel
theorem dX4_allSounds_24 : decode cX4_allSounds 24 = .ok (.iload 4, 2) := by decide +kernel
theorem dX4_allSounds_26 : decode cX4_allSounds 26 = .ok (.goto 16, 3) := by decide +kernel
theorem dX4_allSounds_29 : decode cX4_allSounds 29 = .ok (.iload 8, 2) := by decide +kernel
theorem dX4_allSounds_31 : decode cX4_allSounds 31 = .ok (.iload 4, 2) := by decide +kernel
theorem dX4_allSounds_33 : decode cX4_allSounds 33 = .ok (.if_icmp .ne 7, 3) := by decide +kernel
theorem dX4_allSounds_36 : decode cX4_allSounds 36 = .ok (.iload_n 3, 1) := by decide +kernel
theorem dX4_allSounds_37 : decode cX4_allSounds 37 = .ok (.goto 5, 3) := by decide +kernel
theorem dX4_allSounds_40 : decode cX4_allSounds 40 = .ok (.iload 8, 2) := by decide +kernel
theorem dX4_allSounds_42 : decode cX4_allSounds 42 = .ok (.istore 9, 2) := by decide +kernel
theorem dX4_allSounds_44 : decode cX4_allSounds 44 = .ok (.aload_n 0, 1) := by decide +kernel
theorem dX4_allSounds_45 : decode cX4_allSounds 45 = .ok (.iload 9, 2) := by decide +kernel
theorem dX4_allSounds_47 : decode cX4_allSounds 47 = .ok (.lload 5, 2) := by decide +kernel
theorem dX4_allSounds_49 : decode cX4_allSounds 49 = .ok (.invokevirtual 76, 3) := by decide +kernel
theorem dX4_allSounds_52 : decode cX4_allSounds 52 = .ok (.lstore 5, 2) := by decide +kernel
theorem dX4_allSounds_54 : decode cX4_allSounds 54 = .ok (.iload 7, 2) := by decide +kernel
theorem dX4_allSounds_56 : decode cX4_allSounds 56 = .ok (.lload 5, 2) := by decide +kernel
theorem dX4_allSounds_58 : decode cX4_allSounds 58 = .ok (.invokestatic 80, 3) := by decide +kernel
theorem dX4_allSounds_61 : decode cX4_allSounds 61 = .ok (.ior, 1) := by decide +kernel
theorem dX4_allSounds_62 : decode cX4_allSounds 62 = .ok (.istore 7, 2) := by decide +kernel
theorem dX4_allSounds_64 : decode cX4_allSounds 64 = .ok (.iinc 8 1, 3) := by decide +kernel
theorem dX4_allSounds_67 : decode cX4_allSounds 67 = .ok (.goto (-58), 3) := by decide +kernel
theorem dX4_allSounds_70 : decode cX4_allSounds 70 = .ok (.iload 7, 2) := by decide +kernel
theorem dX4_allSounds_72 : decode cX4_allSounds 72 = .ok (.ireturn, 1) := by decide +kernel
theorem dX5_applied_0 : decode cX5_applied 0 = .ok (.iload_n 2, 1) := by decide +kernel
theorem dX5_applied_1 : decode cX5_applied 1 = .ok (.tableswitch 66 1 5 #[35, 41, 47, 52, 58], 35) := by decide +kernel
theorem dX5_applied_36 : decode cX5_applied 36 = .ok (.lload_n 0, 1) := by decide +kernel
theorem dX5_applied_37 : decode cX5_applied 37 = .ok (.iload_n 3, 1) := by decide +kernel
theorem dX5_applied_38 : decode cX5_applied 38 = .ok (.invokestatic 9, 3) := by decide +kernel
theorem dX5_applied_41 : decode cX5_applied 41 = .ok (.lreturn, 1) := by decide +kernel
theorem dX5_applied_42 : decode cX5_applied 42 = .ok (.lload_n 0, 1) := by decide +kernel
theorem dX5_applied_43 : decode cX5_applied 43 = .ok (.iload_n 3, 1) := by decide +kernel
theorem dX5_applied_44 : decode cX5_applied 44 = .ok (.invokestatic 15, 3) := by decide +kernel
theorem dX5_applied_47 : decode cX5_applied 47 = .ok (.lreturn, 1) := by decide +kernel
theorem dX5_applied_48 : decode cX5_applied 48 = .ok (.lload_n 0, 1) := by decide +kernel
theorem dX5_applied_49 : decode cX5_applied 49 = .ok (.invokestatic 18, 3) := by decide +kernel
theorem dX5_applied_52 : decode cX5_applied 52 = .ok (.lreturn, 1) := by decide +kernel
theorem dX5_applied_53 : decode cX5_applied 53 = .ok (.lload_n 0, 1) := by decide +kernel
theorem dX5_applied_54 : decode cX5_applied 54 = .ok (.iload_n 3, 1) := by decide +kernel
theorem dX5_applied_55 : decode cX5_applied 55 = .ok (.invokestatic 22, 3) := by decide +kernel
theorem dX5_applied_58 : decode cX5_applied 58 = .ok (.lreturn, 1) := by decide +kernel
theorem dX5_applied_59 : decode cX5_applied 59 = .ok (.lload_n 0, 1) := by decide +kernel
theorem dX5_applied_60 : decode cX5_applied 60 = .ok (.iload_n 3, 1) := by decide +kernel
theorem dX5_applied_61 : decode cX5_applied 61 = .ok (.iload 4, 2) := by decide +kernel
theorem dX5_applied_63 : decode cX5_applied 63 = .ok (.invokestatic 25, 3) := by decide +kernel
theorem dX5_applied_66 : decode cX5_applied 66 = .ok (.lreturn, 1) := by decide +kernel
theorem dX5_applied_67 : decode cX5_applied 67 = .ok (.lload_n 0, 1) := by decide +kernel
theorem dX5_applied_68 : decode cX5_applied 68 = .ok (.invokestatic 29, 3) := by decide +kernel
theorem dX5_applied_71 : decode cX5_applied 71 = .ok (.lreturn, 1) := by decide +kernel
theorem dX5_appliedPair_0 : decode cX5_appliedPair 0 = .ok (.lload_n 0, 1) := by decide +kernel
theorem dX5_appliedPair_1 : decode cX5_appliedPair 1 = .ok (.iload_n 2, 1) := by decide +kernel
theorem dX5_appliedPair_2 : decode cX5_appliedPair 2 = .ok (.bipush 16, 2) := by decide +kernel
theorem dX5_appliedPair_4 : decode cX5_appliedPair 4 = .ok (.idiv, 1) := by decide +kernel
theorem dX5_appliedPair_5 : decode cX5_appliedPair 5 = .ok (.iload_n 2, 1) := by decide +kernel
theorem dX5_appliedPair_6 : decode cX5_appliedPair 6 = .ok (.bipush 16, 2) := by decide +kernel
theorem dX5_appliedPair_8 : decode cX5_appliedPair 8 = .ok (.irem, 1) := by decide +kernel
theorem dX5_appliedPair_9 : decode cX5_appliedPair 9 = .ok (.iload_n 3, 1) := by decide +kernel
theorem dX5_appliedPair_10 : decode cX5_appliedPair 10 = .ok (.invokestatic 32, 3) := by decide +kernel
theorem dX5_appliedPair_13 : decode cX5_appliedPair 13 = .ok (.lreturn, 1) := by decide +kernel
theorem dX5_plain_0 : decode cX5_plain 0 = .ok (.lload_n 0, 1) := by decide +kernel
theorem dX5_plain_1 : decode cX5_plain 1 = .ok (.lreturn, 1) := by decide +kernel
theorem dX5_sweet_0 : decode cX5_sweet 0 = .ok (.lload_n 0, 1) := by decide +kernel
theorem dX5_sweet_1 : decode cX5_sweet 1 = .ok (.invokestatic 29, 3) := by decide +kernel
theorem dX5_sweet_4 : decode cX5_sweet 4 = .ok (.bipush 11, 2) := by decide +kernel
theorem dX5_sweet_6 : decode cX5_sweet 6 = .ok (.invokestatic 38, 3) := by decide +kernel
theorem dX5_sweet_9 : decode cX5_sweet 9 = .ok (.iload_n 2, 1) := by decide +kernel
theorem dX5_sweet_10 : decode cX5_sweet 10 = .ok (.invokestatic 41, 3) := by decide +kernel
theorem dX5_sweet_13 : decode cX5_sweet 13 = .ok (.lreturn, 1) := by decide +kernel
theorem dX5_drop_0 : decode cX5_drop 0 = .ok (.lload_n 0, 1) := by decide +kernel
theorem dX5_drop_1 : decode cX5_drop 1 = .ok (.invokestatic 29, 3) := by decide +kernel
theorem dX5_drop_4 : decode cX5_drop 4 = .ok (.lstore_n 3, 1) := by decide +kernel
theorem dX5_drop_5 : decode cX5_drop 5 = .ok (.lload_n 3, 1) := by decide +kernel
theorem dX5_drop_6 : decode cX5_drop 6 = .ok (.lload_n 3, 1) := by decide +kernel
theorem dX5_drop_7 : decode cX5_drop 7 = .ok (.invokestatic 44, 3) := by decide +kernel
theorem dX5_drop_10 : decode cX5_drop 10 = .ok (.iload_n 2, 1) := by decide +kernel
theorem dX5_drop_11 : decode cX5_drop 11 = .ok (.iconst 3, 1) := by decide +kernel
theorem dX5_drop_12 : decode cX5_drop 12 = .ok (.irem, 1) := by decide +kernel
theorem dX5_drop_13 : decode cX5_drop 13 = .ok (.iconst 1, 1) := by decide +kernel
theorem dX5_drop_14 : decode cX5_drop 14 = .ok (.iadd, 1) := by decide +kernel
theorem dX5_drop_15 : decode cX5_drop 15 = .ok (.isub, 1) := by decide +kernel
theorem dX5_drop_16 : decode cX5_drop 16 = .ok (.invokestatic 38, 3) := by decide +kernel
theorem dX5_drop_19 : decode cX5_drop 19 = .ok (.lreturn, 1) := by decide +kernel
theorem dX5_turn_0 : decode cX5_turn 0 = .ok (.lload_n 0, 1) := by decide +kernel
theorem dX5_turn_1 : decode cX5_turn 1 = .ok (.invokestatic 29, 3) := by decide +kernel
theorem dX5_turn_4 : decode cX5_turn 4 = .ok (.invokestatic 48, 3) := by decide +kernel
theorem dX5_turn_7 : decode cX5_turn 7 = .ok (.lreturn, 1) := by decide +kernel
theorem dX5_twice_0 : decode cX5_twice 0 = .ok (.lload_n 0, 1) := by decide +kernel
theorem dX5_twice_1 : decode cX5_twice 1 = .ok (.iload_n 2, 1) := by decide +kernel
theorem dX5_twice_2 : decode cX5_twice 2 = .ok (.invokestatic 9, 3) := by decide +kernel
theorem dX5_twice_5 : decode cX5_twice 5 = .ok (.lstore_n 3, 1) := by decide +kernel
theorem dX5_twice_6 : decode cX5_twice 6 = .ok (.lload_n 3, 1) := by decide +kernel
theorem dX5_twice_7 : decode cX5_twice 7 = .ok (.lload_n 3, 1) := by decide +kernel
theorem dX5_twice_8 : decode cX5_twice 8 = .ok (.iconst 0, 1) := by decide +kernel
theorem dX5_twice_9 : decode cX5_twice 9 = .ok (.invokestatic 51, 3) := by decide +kernel
theorem dX5_twice_12 : decode cX5_twice 12 = .ok (.invokestatic 55, 3) := by decide +kernel
theorem dX5_twice_15 : decode cX5_twice 15 = .ok (.lreturn, 1) := by decide +kernel
theorem dX5_feast_0 : decode cX5_feast 0 = .ok (.iload_n 3, 1) := by decide +kernel
theorem dX5_feast_1 : decode cX5_feast 1 = .ok (.iconst 4, 1) := by decide +kernel
theorem dX5_feast_2 : decode cX5_feast 2 = .ok (.irem, 1) := by decide +kernel
theorem dX5_feast_3 : decode cX5_feast 3 = .ok (.ifCond .ne 7, 3) := by decide +kernel
theorem dX5_feast_6 : decode cX5_feast 6 = .ok (.iconst 1, 1) := by decide +kernel
theorem dX5_feast_7 : decode cX5_feast 7 = .ok (.goto 4, 3) := by decide +kernel
theorem dX5_feast_10 : decode cX5_feast 10 = .ok (.iconst 0, 1) := by decide +kernel
theorem dX5_feast_11 : decode cX5_feast 11 = .ok (.istore 4, 2) := by decide +kernel
theorem dX5_feast_13 : decode cX5_feast 13 = .ok (.iload 4, 2) := by decide +kernel
theorem dX5_feast_15 : decode cX5_feast 15 = .ok (.ifCond .eq 11, 3) := by decide +kernel
theorem dX5_feast_18 : decode cX5_feast 18 = .ok (.lload_n 0, 1) := by decide +kernel
theorem dX5_feast_19 : decode cX5_feast 19 = .ok (.iload_n 2, 1) := by decide +kernel
theorem dX5_feast_20 : decode cX5_feast 20 = .ok (.invokestatic 15, 3) := by decide +kernel
theorem dX5_feast_23 : decode cX5_feast 23 = .ok (.goto 8, 3) := by decide +kernel
theorem dX5_feast_26 : decode cX5_feast 26 = .ok (.lload_n 0, 1) := by decide +kernel
theorem dX5_feast_27 : decode cX5_feast 27 = .ok (.iload_n 2, 1) := by decide +kernel
theorem dX5_feast_28 : decode cX5_feast 28 = .ok (.invokestatic 58, 3) := by decide +kernel
theorem dX5_feast_31 : decode cX5_feast 31 = .ok (.lreturn, 1) := by decide +kernel
theorem dX6_init_0 : decode cX6_init 0 = .ok (.aload_n 0, 1) := by decide +kernel
theorem dX6_init_1 : decode cX6_init 1 = .ok (.invokespecial 3, 3) := by decide +kernel
theorem dX6_init_4 : decode cX6_init 4 = .ok (.aload_n 0, 1) := by decide +kernel
theorem dX6_init_5 : decode cX6_init 5 = .ok (.bipush 6, 2) := by decide +kernel
theorem dX6_init_7 : decode cX6_init 7 = .ok (.newarray .int, 2) := by decide +kernel
theorem dX6_init_9 : decode cX6_init 9 = .ok (.putfield 9, 3) := by decide +kernel
theorem dX6_init_12 : decode cX6_init 12 = .ok (.aload_n 0, 1) := by decide +kernel
theorem dX6_init_13 : decode cX6_init 13 = .ok (.bipush 6, 2) := by decide +kernel
theorem dX6_init_15 : decode cX6_init 15 = .ok (.newarray .int, 2) := by decide +kernel
theorem dX6_init_17 : decode cX6_init 17 = .ok (.putfield 15, 3) := by decide +kernel
theorem dX6_init_20 : decode cX6_init 20 = .ok (.return_, 1) := by decide +kernel
theorem dX6_findWays_0 : decode cX6_findWays 0 = .ok (.aload_n 0, 1) := by decide +kernel
theorem dX6_findWays_1 : decode cX6_findWays 1 = .ok (.iload 5, 2) := by decide +kernel
theorem dX6_findWays_3 : decode cX6_findWays 3 = .ok (.putfield 18, 3) := by decide +kernel
theorem dX6_findWays_6 : decode cX6_findWays 6 = .ok (.aload_n 0, 1) := by decide +kernel
theorem dX6_findWays_7 : decode cX6_findWays 7 = .ok (.iconst 0, 1) := by decide +kernel
theorem dX6_findWays_8 : decode cX6_findWays 8 = .ok (.putfield 22, 3) := by decide +kernel
theorem dX6_findWays_11 : decode cX6_findWays 11 = .ok (.aload_n 0, 1) := by decide +kernel
theorem dX6_findWays_12 : decode cX6_findWays 12 = .ok (.aload_n 1, 1) := by decide +kernel
theorem dX6_findWays_13 : decode cX6_findWays 13 = .ok (.iload 4, 2) := by decide +kernel
theorem dX6_findWays_15 : decode cX6_findWays 15 = .ok (.lload_n 2, 1) := by decide +kernel
theorem dX6_findWays_16 : decode cX6_findWays 16 = .ok (.iconst 0, 1) := by decide +kernel
theorem dX6_findWays_17 : decode cX6_findWays 17 = .ok (.iconst 0, 1) := by decide +kernel
theorem dX6_findWays_18 : decode cX6_findWays 18 = .ok (.iconst 0, 1) := by decide +kernel
theorem dX6_findWays_19 : decode cX6_findWays 19 = .ok (.invokevirtual 25, 3) := by decide +kernel
theorem dX6_findWays_22 : decode cX6_findWays 22 = .ok (.return_, 1) := by decide +kernel
theorem dX6_goOn_0 : decode cX6_goOn 0 = .ok (.iload_n 2, 1) := by decide +kernel
theorem dX6_goOn_1 : decode cX6_goOn 1 = .ok (.aload_n 0, 1) := by decide +kernel
theorem dX6_goOn_2 : decode cX6_goOn 2 = .ok (.getfield 18, 3) := by decide +kernel
theorem dX6_goOn_5 : decode cX6_goOn 5 = .ok (.if_icmp .ne 11, 3) := by decide +kernel
theorem dX6_goOn_8 : decode cX6_goOn 8 = .ok (.aload_n 0, 1) := by decide +kernel
theorem dX6_goOn_9 : decode cX6_goOn 9 = .ok (.iload 6, 2) := by decide +kernel
theorem dX6_goOn_11 : decode cX6_goOn 11 = .ok (.iload 7, 2) := by decide +kernel
theorem dX6_goOn_13 : decode cX6_goOn 13 = .ok (.invokevirtual 29, 3) := by decide +kernel
theorem dX6_goOn_16 : decode cX6_goOn 16 = .ok (.iload 6, 2) := by decide +kernel
theorem dX6_goOn_18 : decode cX6_goOn 18 = .ok (.bipush 6, 2) := by decide +kernel
theorem dX6_goOn_20 : decode cX6_goOn 20 = .ok (.if_icmp .lt 4, 3) := by decide +kernel
theorem dX6_goOn_23 : decode cX6_goOn 23 = .ok (.return_, 1) := by decide +kernel
theorem dX6_goOn_24 : decode cX6_goOn 24 = .ok (.iconst 0, 1) := by decide +kernel
theorem dX6_goOn_25 : decode cX6_goOn 25 = .ok (.istore 8, 2) := by decide +kernel
theorem dX6_goOn_27 : decode cX6_goOn 27 = .ok (.iload 8, 2) := by decide +kernel
theorem dX6_goOn_29 : decode cX6_goOn 29 = .ok (.aload_n 1, 1) := by decide +kernel
theorem dX6_goOn_30 : decode cX6_goOn 30 = .ok (.getfield 33, 3) := by decide +kernel
theorem dX6_goOn_33 : decode cX6_goOn 33 = .ok (.if_icmp .ge 72, 3) := by decide +kernel
theorem dX6_goOn_36 : decode cX6_goOn 36 = .ok (.aload_n 1, 1) := by decide +kernel
theorem dX6_goOn_37 : decode cX6_goOn 37 = .ok (.iload 8, 2) := by decide +kernel
theorem dX6_goOn_39 : decode cX6_goOn 39 = .ok (.iload_n 2, 1) := by decide +kernel
theorem dX6_goOn_40 : decode cX6_goOn 40 = .ok (.iload 5, 2) := by decide +kernel
theorem dX6_goOn_42 : decode cX6_goOn 42 = .ok (.invokestatic 38, 3) := by decide +kernel
theorem dX6_goOn_45 : decode cX6_goOn 45 = .ok (.ifCond .eq 54, 3) := by decide +kernel
theorem dX6_goOn_48 : decode cX6_goOn 48 = .ok (.aload_n 0, 1) := by decide +kernel
theorem dX6_goOn_49 : decode cX6_goOn 49 = .ok (.getfield 15, 3) := by decide +kernel
theorem dX6_goOn_52 : decode cX6_goOn 52 = .ok (.iload 6, 2) := by decide +kernel
theorem dX6_goOn_54 : decode cX6_goOn 54 = .ok (.iload 8, 2) := by decide +kernel
theorem dX6_goOn_56 : decode cX6_goOn 56 = .ok (.iastore, 1) := by decide +kernel
theorem dX6_goOn_57 : decode cX6_goOn 57 = .ok (.aload_n 1, 1) := by decide +kernel
theorem dX6_goOn_58 : decode cX6_goOn 58 = .ok (.iload 8, 2) := by decide +kernel
theorem dX6_goOn_60 : decode cX6_goOn 60 = .ok (.lload_n 3, 1) := by decide +kernel
theorem dX6_goOn_61 : decode cX6_goOn 61 = .ok (.invokevirtual 42, 3) := by decide +kernel
theorem dX6_goOn_64 : decode cX6_goOn 64 = .ok (.lstore 9, 2) := by decide +kernel
theorem dX6_goOn_66 : decode cX6_goOn 66 = .ok (.aload_n 0, 1) := by decide +kernel
theorem dX6_goOn_67 : decode cX6_goOn 67 = .ok (.aload_n 1, 1) := by decide +kernel
theorem dX6_goOn_68 : decode cX6_goOn 68 = .ok (.aload_n 1, 1) := by decide +kernel
theorem dX6_goOn_69 : decode cX6_goOn 69 = .ok (.getfield 46, 3) := by decide +kernel
theorem dX6_goOn_72 : decode cX6_goOn 72 = .ok (.iload 8, 2) := by decide +kernel
theorem dX6_goOn_74 : decode cX6_goOn 74 = .ok (.iaload, 1) := by decide +kernel
theorem dX6_goOn_75 : decode cX6_goOn 75 = .ok (.lload 9, 2) := by decide +kernel
theorem dX6_goOn_77 : decode cX6_goOn 77 = .ok (.iload 5, 2) := by decide +kernel
theorem dX6_goOn_79 : decode cX6_goOn 79 = .ok (.iconst 1, 1) := by decide +kernel
theorem dX6_goOn_80 : decode cX6_goOn 80 = .ok (.iload 8, 2) := by decide +kernel
theorem dX6_goOn_82 : decode cX6_goOn 82 = .ok (.ishl, 1) := by decide +kernel
theorem dX6_goOn_83 : decode cX6_goOn 83 = .ok (.ior, 1) := by decide +kernel
theorem dX6_goOn_84 : decode cX6_goOn 84 = .ok (.iload 6, 2) := by decide +kernel
theorem dX6_goOn_86 : decode cX6_goOn 86 = .ok (.iconst 1, 1) := by decide +kernel
theorem dX6_goOn_87 : decode cX6_goOn 87 = .ok (.iadd, 1) := by decide +kernel
theorem dX6_goOn_88 : decode cX6_goOn 88 = .ok (.iload 7, 2) := by decide +kernel
theorem dX6_goOn_90 : decode cX6_goOn 90 = .ok (.lload 9, 2) := by decide +kernel
theorem dX6_goOn_92 : decode cX6_goOn 92 = .ok (.invokestatic 49, 3) := by decide +kernel
theorem dX6_goOn_95 : decode cX6_goOn 95 = .ok (.iadd, 1) := by decide +kernel
theorem dX6_goOn_96 : decode cX6_goOn 96 = .ok (.invokevirtual 25, 3) := by decide +kernel
theorem dX6_goOn_99 : decode cX6_goOn 99 = .ok (.iinc 8 1, 3) := by decide +kernel
theorem dX6_goOn_102 : decode cX6_goOn 102 = .ok (.goto (-75), 3) := by decide +kernel
theorem dX6_goOn_105 : decode cX6_goOn 105 = .ok (.return_, 1) := by decide +kernel
theorem dX6_arrive_0 : decode cX6_arrive 0 = .ok (.iload_n 2, 1) := by decide +kernel
theorem dX6_arrive_1 : decode cX6_arrive 1 = .ok (.aload_n 0, 1) := by decide +kernel
theorem dX6_arrive_2 : decode cX6_arrive 2 = .ok (.getfield 55, 3) := by decide +kernel
theorem dX6_arrive_5 : decode cX6_arrive 5 = .ok (.if_icmp .lt 19, 3) := by decide +kernel
theorem dX6_arrive_8 : decode cX6_arrive 8 = .ok (.iload_n 2, 1) := by decide +kernel
theorem dX6_arrive_9 : decode cX6_arrive 9 = .ok (.aload_n 0, 1) := by decide +kernel
theorem dX6_arrive_10 : decode cX6_arrive 10 = .ok (.getfield 55, 3) := by decide +kernel
theorem dX6_arrive_13 : decode cX6_arrive 13 = .ok (.if_icmp .ne 15, 3) := by decide +kernel
theorem dX6_arrive_16 : decode cX6_arrive 16 = .ok (.iload_n 1, 1) := by decide +kernel
theorem dX6_arrive_17 : decode cX6_arrive 17 = .ok (.aload_n 0, 1) := by decide +kernel
theorem dX6_arrive_18 : decode cX6_arrive 18 = .ok (.getfield 58, 3) := by decide +kernel
theorem dX6_arrive_21 : decode cX6_arrive 21 = .ok (.if_icmp .ge 7, 3) := by decide +kernel
theorem dX6_arrive_24 : decode cX6_arrive 24 = .ok (.iconst 1, 1) := by decide +kernel
theorem dX6_arrive_25 : decode cX6_arrive 25 = .ok (.goto 4, 3) := by decide +kernel
theorem dX6_arrive_28 : decode cX6_arrive 28 = .ok (.iconst 0, 1) := by decide +kernel
theorem dX6_arrive_29 : decode cX6_arrive 29 = .ok (.istore_n 3, 1) := by decide +kernel
theorem dX6_arrive_30 : decode cX6_arrive 30 = .ok (.aload_n 0, 1) := by decide +kernel
theorem dX6_arrive_31 : decode cX6_arrive 31 = .ok (.getfield 22, 3) := by decide +kernel
theorem dX6_arrive_34 : decode cX6_arrive 34 = .ok (.ifCond .eq 7, 3) := by decide +kernel
theorem dX6_arrive_37 : decode cX6_arrive 37 = .ok (.iload_n 3, 1) := by decide +kernel
theorem dX6_arrive_38 : decode cX6_arrive 38 = .ok (.ifCond .eq 28, 3) := by decide +kernel
theorem dX6_arrive_41 : decode cX6_arrive 41 = .ok (.aload_n 0, 1) := by decide +kernel
theorem dX6_arrive_42 : decode cX6_arrive 42 = .ok (.iload_n 2, 1) := by decide +kernel
theorem dX6_arrive_43 : decode cX6_arrive 43 = .ok (.putfield 55, 3) := by decide +kernel
theorem dX6_arrive_46 : decode cX6_arrive 46 = .ok (.aload_n 0, 1) := by decide +kernel
theorem dX6_arrive_47 : decode cX6_arrive 47 = .ok (.iload_n 1, 1) := by decide +kernel
theorem dX6_arrive_48 : decode cX6_arrive 48 = .ok (.putfield 58, 3) := by decide +kernel
theorem dX6_arrive_51 : decode cX6_arrive 51 = .ok (.aload_n 0, 1) := by decide +kernel
theorem dX6_arrive_52 : decode cX6_arrive 52 = .ok (.getfield 15, 3) := by decide +kernel
theorem dX6_arrive_55 : decode cX6_arrive 55 = .ok (.iconst 0, 1) := by decide +kernel
theorem dX6_arrive_56 : decode cX6_arrive 56 = .ok (.aload_n 0, 1) := by decide +kernel
theorem dX6_arrive_57 : decode cX6_arrive 57 = .ok (.getfield 9, 3) := by decide +kernel
theorem dX6_arrive_60 : decode cX6_arrive 60 = .ok (.iconst 0, 1) := by decide +kernel
theorem dX6_arrive_61 : decode cX6_arrive 61 = .ok (.bipush 6, 2) := by decide +kernel
theorem dX6_arrive_63 : decode cX6_arrive 63 = .ok (.invokestatic 61, 3) := by decide +kernel
theorem dX6_arrive_66 : decode cX6_arrive 66 = .ok (.aload_n 0, 1) := by decide +kernel
theorem dX6_arrive_67 : decode cX6_arrive 67 = .ok (.dup, 1) := by decide +kernel
theorem dX6_arrive_68 : decode cX6_arrive 68 = .ok (.getfield 22, 3) := by decide +kernel
theorem dX6_arrive_71 : decode cX6_arrive 71 = .ok (.iconst 1, 1) := by decide +kernel
theorem dX6_arrive_72 : decode cX6_arrive 72 = .ok (.iadd, 1) := by decide +kernel
theorem dX6_arrive_73 : decode cX6_arrive 73 = .ok (.putfield 22, 3) := by decide +kernel
theorem dX6_arrive_76 : decode cX6_arrive 76 = .ok (.return_, 1) := by decide +kernel
theorem dX6_fewestToCurse_0 : decode cX6_fewestToCurse 0 = .ok (.aload_n 0, 1) := by decide +kernel
theorem dX6_fewestToCurse_1 : decode cX6_fewestToCurse 1 = .ok (.iload 5, 2) := by decide +kernel
theorem dX6_fewestToCurse_3 : decode cX6_fewestToCurse 3 = .ok (.lload_n 1, 1) := by decide +kernel
theorem dX6_fewestToCurse_4 : decode cX6_fewestToCurse 4 = .ok (.lload_n 3, 1) := by decide +kernel
theorem dX6_fewestToCurse_5 : decode cX6_fewestToCurse 5 = .ok (.iconst 0, 1) := by decide +kernel
theorem dX6_fewestToCurse_6 : decode cX6_fewestToCurse 6 = .ok (.iconst 0, 1) := by decide +kernel
theorem dX6_fewestToCurse_7 : decode cX6_fewestToCurse 7 = .ok (.invokestatic 67, 3) := by decide +kernel
theorem dX6_fewestToCurse_10 : decode cX6_fewestToCurse 10 = .ok (.ireturn, 1) := by decide +kernel
theorem dX6_fewest_0 : decode cX6_fewest 0 = .ok (.lload_n 2, 1) := by decide +kernel
theorem dX6_fewest_1 : decode cX6_fewest 1 = .ok (.lload 4, 2) := by decide +kernel
theorem dX6_fewest_3 : decode cX6_fewest 3 = .ok (.invokestatic 71, 3) := by decide +kernel
theorem dX6_fewest_6 : decode cX6_fewest 6 = .ok (.ifCond .eq 6, 3) := by decide +kernel
theorem dX6_fewest_9 : decode cX6_fewest 9 = .ok (.iload 7, 2) := by decide +kernel
theorem dX6_fewest_11 : decode cX6_fewest 11 = .ok (.ireturn, 1) := by decide +kernel
theorem dX6_fewest_12 : decode cX6_fewest 12 = .ok (.iconst (-1), 1) := by decide +kernel
theorem dX6_fewest_13 : decode cX6_fewest 13 = .ok (.istore 8, 2) := by decide +kernel
theorem dX6_fewest_15 : decode cX6_fewest 15 = .ok (.iload 7, 2) := by decide +kernel
theorem dX6_fewest_17 : decode cX6_fewest 17 = .ok (.bipush 6, 2) := by decide +kernel
theorem dX6_fewest_19 : decode cX6_fewest 19 = .ok (.if_icmp .lt 6, 3) := by decide +kernel
theorem dX6_fewest_22 : decode cX6_fewest 22 = .ok (.iload 8, 2) := by decide +kernel
theorem dX6_fewest_24 : decode cX6_fewest 24 = .ok (.ireturn, 1) := by decide +kernel
theorem dX6_fewest_25 : decode cX6_fewest 25 = .ok (.iconst 0, 1) := by decide +kernel
theorem dX6_fewest_26 : decode cX6_fewest 26 = .ok (.istore 9, 2) := by decide +kernel
theorem dX6_fewest_28 : decode cX6_fewest 28 = .ok (.iload 9, 2) := by decide +kernel
theorem dX6_fewest_30 : decode cX6_fewest 30 = .ok (.aload_n 0, 1) := by decide +kernel
theorem dX6_fewest_31 : decode cX6_fewest 31 = .ok (.getfield 33, 3) := by decide +kernel
theorem dX6_fewest_34 : decode cX6_fewest 34 = .ok (.if_icmp .ge 86, 3) := by decide +kernel
theorem dX6_fewest_37 : decode cX6_fewest 37 = .ok (.aload_n 0, 1) := by decide +kernel
theorem dX6_fewest_38 : decode cX6_fewest 38 = .ok (.iload 9, 2) := by decide +kernel
theorem dX6_fewest_40 : decode cX6_fewest 40 = .ok (.iload_n 1, 1) := by decide +kernel
theorem dX6_fewest_41 : decode cX6_fewest 41 = .ok (.iload 6, 2) := by decide +kernel
theorem dX6_fewest_43 : decode cX6_fewest 43 = .ok (.invokestatic 38, 3) := by decide +kernel
theorem dX6_fewest_46 : decode cX6_fewest 46 = .ok (.ifCond .eq 68, 3) := by decide +kernel
theorem dX6_fewest_49 : decode cX6_fewest 49 = .ok (.aload_n 0, 1) := by decide +kernel
theorem dX6_fewest_50 : decode cX6_fewest 50 = .ok (.iload 9, 2) := by decide +kernel
theorem dX6_fewest_52 : decode cX6_fewest 52 = .ok (.lload_n 2, 1) := by decide +kernel
theorem dX6_fewest_53 : decode cX6_fewest 53 = .ok (.invokevirtual 42, 3) := by decide +kernel
theorem dX6_fewest_56 : decode cX6_fewest 56 = .ok (.lstore 10, 2) := by decide +kernel
theorem dX6_fewest_58 : decode cX6_fewest 58 = .ok (.aload_n 0, 1) := by decide +kernel
theorem dX6_fewest_59 : decode cX6_fewest 59 = .ok (.aload_n 0, 1) := by decide +kernel
theorem dX6_fewest_60 : decode cX6_fewest 60 = .ok (.getfield 46, 3) := by decide +kernel
theorem dX6_fewest_63 : decode cX6_fewest 63 = .ok (.iload 9, 2) := by decide +kernel
theorem dX6_fewest_65 : decode cX6_fewest 65 = .ok (.iaload, 1) := by decide +kernel
theorem dX6_fewest_66 : decode cX6_fewest 66 = .ok (.lload 10, 2) := by decide +kernel
theorem dX6_fewest_68 : decode cX6_fewest 68 = .ok (.lload 4, 2) := by decide +kernel
theorem dX6_fewest_70 : decode cX6_fewest 70 = .ok (.iload 6, 2) := by decide +kernel
theorem dX6_fewest_72 : decode cX6_fewest 72 = .ok (.iconst 1, 1) := by decide +kernel
theorem dX6_fewest_73 : decode cX6_fewest 73 = .ok (.iload 9, 2) := by decide +kernel
theorem dX6_fewest_75 : decode cX6_fewest 75 = .ok (.ishl, 1) := by decide +kernel
theorem dX6_fewest_76 : decode cX6_fewest 76 = .ok (.ior, 1) := by decide +kernel
theorem dX6_fewest_77 : decode cX6_fewest 77 = .ok (.iload 7, 2) := by decide +kernel
theorem dX6_fewest_79 : decode cX6_fewest 79 = .ok (.iconst 1, 1) := by decide +kernel
theorem dX6_fewest_80 : decode cX6_fewest 80 = .ok (.iadd, 1) := by decide +kernel
theorem dX6_fewest_81 : decode cX6_fewest 81 = .ok (.invokestatic 67, 3) := by decide +kernel
theorem dX6_fewest_84 : decode cX6_fewest 84 = .ok (.istore 12, 2) := by decide +kernel
theorem dX6_fewest_86 : decode cX6_fewest 86 = .ok (.iload 12, 2) := by decide +kernel
theorem dX6_fewest_88 : decode cX6_fewest 88 = .ok (.iconst (-1), 1) := by decide +kernel
theorem dX6_fewest_89 : decode cX6_fewest 89 = .ok (.if_icmp .eq 21, 3) := by decide +kernel
theorem dX6_fewest_92 : decode cX6_fewest 92 = .ok (.iload 8, 2) := by decide +kernel
theorem dX6_fewest_94 : decode cX6_fewest 94 = .ok (.iconst (-1), 1) := by decide +kernel
theorem dX6_fewest_95 : decode cX6_fewest 95 = .ok (.if_icmp .eq 10, 3) := by decide +kernel
theorem dX6_fewest_98 : decode cX6_fewest 98 = .ok (.iload 12, 2) := by decide +kernel
theorem dX6_fewest_100 : decode cX6_fewest 100 = .ok (.iload 8, 2) := by decide +kernel
theorem dX6_fewest_102 : decode cX6_fewest 102 = .ok (.if_icmp .ge 8, 3) := by decide +kernel
theorem dX6_fewest_105 : decode cX6_fewest 105 = .ok (.iload 12, 2) := by decide +kernel
