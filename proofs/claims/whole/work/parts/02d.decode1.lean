theorem dX0_entry_0 : decode cX0_entry 0 = .ok (.aload_n 0, 1) := by decide +kernel
theorem dX0_entry_1 : decode cX0_entry 1 = .ok (.getfield 9, 3) := by decide +kernel
theorem dX0_entry_4 : decode cX0_entry 4 = .ok (.iload_n 1, 1) := by decide +kernel
theorem dX0_entry_5 : decode cX0_entry 5 = .ok (.bipush 24, 2) := by decide +kernel
theorem dX0_entry_7 : decode cX0_entry 7 = .ok (.imul, 1) := by decide +kernel
theorem dX0_entry_8 : decode cX0_entry 8 = .ok (.iload_n 2, 1) := by decide +kernel
theorem dX0_entry_9 : decode cX0_entry 9 = .ok (.iadd, 1) := by decide +kernel
theorem dX0_entry_10 : decode cX0_entry 10 = .ok (.iaload, 1) := by decide +kernel
theorem dX0_entry_11 : decode cX0_entry 11 = .ok (.ireturn, 1) := by decide +kernel
theorem dX0_enter_0 : decode cX0_enter 0 = .ok (.aload_n 0, 1) := by decide +kernel
theorem dX0_enter_1 : decode cX0_enter 1 = .ok (.getfield 9, 3) := by decide +kernel
theorem dX0_enter_4 : decode cX0_enter 4 = .ok (.iload_n 1, 1) := by decide +kernel
theorem dX0_enter_5 : decode cX0_enter 5 = .ok (.bipush 24, 2) := by decide +kernel
theorem dX0_enter_7 : decode cX0_enter 7 = .ok (.imul, 1) := by decide +kernel
theorem dX0_enter_8 : decode cX0_enter 8 = .ok (.iload_n 2, 1) := by decide +kernel
theorem dX0_enter_9 : decode cX0_enter 9 = .ok (.iadd, 1) := by decide +kernel
theorem dX0_enter_10 : decode cX0_enter 10 = .ok (.iload_n 3, 1) := by decide +kernel
theorem dX0_enter_11 : decode cX0_enter 11 = .ok (.iastore, 1) := by decide +kernel
theorem dX0_enter_12 : decode cX0_enter 12 = .ok (.return_, 1) := by decide +kernel
theorem dX0_isPaired_0 : decode cX0_isPaired 0 = .ok (.aload_n 0, 1) := by decide +kernel
theorem dX0_isPaired_1 : decode cX0_isPaired 1 = .ok (.iload_n 1, 1) := by decide +kernel
theorem dX0_isPaired_2 : decode cX0_isPaired 2 = .ok (.iload_n 2, 1) := by decide +kernel
theorem dX0_isPaired_3 : decode cX0_isPaired 3 = .ok (.invokevirtual 21, 3) := by decide +kernel
theorem dX0_isPaired_6 : decode cX0_isPaired 6 = .ok (.ifCond .lt 7, 3) := by decide +kernel
theorem dX0_isPaired_9 : decode cX0_isPaired 9 = .ok (.iconst 1, 1) := by decide +kernel
theorem dX0_isPaired_10 : decode cX0_isPaired 10 = .ok (.goto 4, 3) := by decide +kernel
theorem dX0_isPaired_13 : decode cX0_isPaired 13 = .ok (.iconst 0, 1) := by decide +kernel
theorem dX0_isPaired_14 : decode cX0_isPaired 14 = .ok (.ireturn, 1) := by decide +kernel
theorem dX0_isTaken_0 : decode cX0_isTaken 0 = .ok (.aload_n 0, 1) := by decide +kernel
theorem dX0_isTaken_1 : decode cX0_isTaken 1 = .ok (.iload_n 1, 1) := by decide +kernel
theorem dX0_isTaken_2 : decode cX0_isTaken 2 = .ok (.iload_n 2, 1) := by decide +kernel
theorem dX0_isTaken_3 : decode cX0_isTaken 3 = .ok (.invokevirtual 21, 3) := by decide +kernel
theorem dX0_isTaken_6 : decode cX0_isTaken 6 = .ok (.bipush (-4), 2) := by decide +kernel
theorem dX0_isTaken_8 : decode cX0_isTaken 8 = .ok (.if_icmp .eq 7, 3) := by decide +kernel
theorem dX0_isTaken_11 : decode cX0_isTaken 11 = .ok (.iconst 1, 1) := by decide +kernel
theorem dX0_isTaken_12 : decode cX0_isTaken 12 = .ok (.goto 4, 3) := by decide +kernel
theorem dX0_isTaken_15 : decode cX0_isTaken 15 = .ok (.iconst 0, 1) := by decide +kernel
theorem dX0_isTaken_16 : decode cX0_isTaken 16 = .ok (.ireturn, 1) := by decide +kernel
theorem dX0_join_0 : decode cX0_join 0 = .ok (.aload_n 0, 1) := by decide +kernel
theorem dX0_join_1 : decode cX0_join 1 = .ok (.iload_n 1, 1) := by decide +kernel
theorem dX0_join_2 : decode cX0_join 2 = .ok (.iload_n 3, 1) := by decide +kernel
theorem dX0_join_3 : decode cX0_join 3 = .ok (.iload_n 2, 1) := by decide +kernel
theorem dX0_join_4 : decode cX0_join 4 = .ok (.invokevirtual 25, 3) := by decide +kernel
theorem dX0_join_7 : decode cX0_join 7 = .ok (.aload_n 0, 1) := by decide +kernel
theorem dX0_join_8 : decode cX0_join 8 = .ok (.iload_n 2, 1) := by decide +kernel
theorem dX0_join_9 : decode cX0_join 9 = .ok (.iload_n 3, 1) := by decide +kernel
theorem dX0_join_10 : decode cX0_join 10 = .ok (.iload_n 1, 1) := by decide +kernel
theorem dX0_join_11 : decode cX0_join 11 = .ok (.invokevirtual 25, 3) := by decide +kernel
theorem dX0_join_14 : decode cX0_join 14 = .ok (.return_, 1) := by decide +kernel
theorem dX0_separate_0 : decode cX0_separate 0 = .ok (.aload_n 0, 1) := by decide +kernel
theorem dX0_separate_1 : decode cX0_separate 1 = .ok (.iload_n 1, 1) := by decide +kernel
theorem dX0_separate_2 : decode cX0_separate 2 = .ok (.iload_n 3, 1) := by decide +kernel
theorem dX0_separate_3 : decode cX0_separate 3 = .ok (.bipush (-4), 2) := by decide +kernel
theorem dX0_separate_5 : decode cX0_separate 5 = .ok (.invokevirtual 25, 3) := by decide +kernel
theorem dX0_separate_8 : decode cX0_separate 8 = .ok (.aload_n 0, 1) := by decide +kernel
theorem dX0_separate_9 : decode cX0_separate 9 = .ok (.iload_n 2, 1) := by decide +kernel
theorem dX0_separate_10 : decode cX0_separate 10 = .ok (.iload_n 3, 1) := by decide +kernel
theorem dX0_separate_11 : decode cX0_separate 11 = .ok (.bipush (-4), 2) := by decide +kernel
theorem dX0_separate_13 : decode cX0_separate 13 = .ok (.invokevirtual 25, 3) := by decide +kernel
theorem dX0_separate_16 : decode cX0_separate 16 = .ok (.return_, 1) := by decide +kernel
theorem dX0_sitOut_0 : decode cX0_sitOut 0 = .ok (.aload_n 0, 1) := by decide +kernel
theorem dX0_sitOut_1 : decode cX0_sitOut 1 = .ok (.iload_n 1, 1) := by decide +kernel
theorem dX0_sitOut_2 : decode cX0_sitOut 2 = .ok (.iload_n 2, 1) := by decide +kernel
theorem dX0_sitOut_3 : decode cX0_sitOut 3 = .ok (.bipush (-5), 2) := by decide +kernel
theorem dX0_sitOut_5 : decode cX0_sitOut 5 = .ok (.invokevirtual 25, 3) := by decide +kernel
theorem dX0_sitOut_8 : decode cX0_sitOut 8 = .ok (.return_, 1) := by decide +kernel
theorem dX0_separateAll_0 : decode cX0_separateAll 0 = .ok (.iconst 0, 1) := by decide +kernel
theorem dX0_separateAll_1 : decode cX0_separateAll 1 = .ok (.istore_n 2, 1) := by decide +kernel
theorem dX0_separateAll_2 : decode cX0_separateAll 2 = .ok (.iconst 0, 1) := by decide +kernel
theorem dX0_separateAll_3 : decode cX0_separateAll 3 = .ok (.istore_n 3, 1) := by decide +kernel
theorem dX0_separateAll_4 : decode cX0_separateAll 4 = .ok (.iload_n 3, 1) := by decide +kernel
theorem dX0_separateAll_5 : decode cX0_separateAll 5 = .ok (.bipush 24, 2) := by decide +kernel
theorem dX0_separateAll_7 : decode cX0_separateAll 7 = .ok (.if_icmp .ge 36, 3) := by decide +kernel
theorem dX0_separateAll_10 : decode cX0_separateAll 10 = .ok (.aload_n 0, 1) := by decide +kernel
theorem dX0_separateAll_11 : decode cX0_separateAll 11 = .ok (.iload_n 1, 1) := by decide +kernel
theorem dX0_separateAll_12 : decode cX0_separateAll 12 = .ok (.iload_n 3, 1) := by decide +kernel
theorem dX0_separateAll_13 : decode cX0_separateAll 13 = .ok (.invokevirtual 29, 3) := by decide +kernel
theorem dX0_separateAll_16 : decode cX0_separateAll 16 = .ok (.ifCond .ne 6, 3) := by decide +kernel
theorem dX0_separateAll_19 : decode cX0_separateAll 19 = .ok (.goto 18, 3) := by decide +kernel
theorem dX0_separateAll_22 : decode cX0_separateAll 22 = .ok (.aload_n 0, 1) := by decide +kernel
theorem dX0_separateAll_23 : decode cX0_separateAll 23 = .ok (.iload_n 1, 1) := by decide +kernel
theorem dX0_separateAll_24 : decode cX0_separateAll 24 = .ok (.aload_n 0, 1) := by decide +kernel
theorem dX0_separateAll_25 : decode cX0_separateAll 25 = .ok (.iload_n 1, 1) := by decide +kernel
theorem dX0_separateAll_26 : decode cX0_separateAll 26 = .ok (.iload_n 3, 1) := by decide +kernel
theorem dX0_separateAll_27 : decode cX0_separateAll 27 = .ok (.invokevirtual 21, 3) := by decide +kernel
theorem dX0_separateAll_30 : decode cX0_separateAll 30 = .ok (.iload_n 3, 1) := by decide +kernel
theorem dX0_separateAll_31 : decode cX0_separateAll 31 = .ok (.invokevirtual 33, 3) := by decide +kernel
theorem dX0_separateAll_34 : decode cX0_separateAll 34 = .ok (.iinc 2 1, 3) := by decide +kernel
theorem dX0_separateAll_37 : decode cX0_separateAll 37 = .ok (.iinc 3 1, 3) := by decide +kernel
theorem dX0_separateAll_40 : decode cX0_separateAll 40 = .ok (.goto (-36), 3) := by decide +kernel
theorem dX0_separateAll_43 : decode cX0_separateAll 43 = .ok (.iload_n 2, 1) := by decide +kernel
theorem dX0_separateAll_44 : decode cX0_separateAll 44 = .ok (.ireturn, 1) := by decide +kernel
theorem dX7_toInt_0 : decode cX7_toInt 0 = .ok (.iload_n 0, 1) := by decide +kernel
theorem dX7_toInt_1 : decode cX7_toInt 1 = .ok (.ifCond .eq 7, 3) := by decide +kernel
theorem dX7_toInt_4 : decode cX7_toInt 4 = .ok (.iconst 1, 1) := by decide +kernel
theorem dX7_toInt_5 : decode cX7_toInt 5 = .ok (.goto 4, 3) := by decide +kernel
theorem dX7_toInt_8 : decode cX7_toInt 8 = .ok (.iconst 0, 1) := by decide +kernel
theorem dX7_toInt_9 : decode cX7_toInt 9 = .ok (.ireturn, 1) := by decide +kernel
theorem dX0_together_0 : decode cX0_together 0 = .ok (.iconst 0, 1) := by decide +kernel
theorem dX0_together_1 : decode cX0_together 1 = .ok (.istore_n 3, 1) := by decide +kernel
theorem dX0_together_2 : decode cX0_together 2 = .ok (.iconst 0, 1) := by decide +kernel
theorem dX0_together_3 : decode cX0_together 3 = .ok (.istore 4, 2) := by decide +kernel
theorem dX0_together_5 : decode cX0_together 5 = .ok (.iload 4, 2) := by decide +kernel
theorem dX0_together_7 : decode cX0_together 7 = .ok (.bipush 24, 2) := by decide +kernel
theorem dX0_together_9 : decode cX0_together 9 = .ok (.if_icmp .ge 31, 3) := by decide +kernel
theorem dX0_together_12 : decode cX0_together 12 = .ok (.iload_n 3, 1) := by decide +kernel
theorem dX0_together_13 : decode cX0_together 13 = .ok (.aload_n 0, 1) := by decide +kernel
theorem dX0_together_14 : decode cX0_together 14 = .ok (.iload_n 1, 1) := by decide +kernel
theorem dX0_together_15 : decode cX0_together 15 = .ok (.iload 4, 2) := by decide +kernel
theorem dX0_together_17 : decode cX0_together 17 = .ok (.invokevirtual 21, 3) := by decide +kernel
theorem dX0_together_20 : decode cX0_together 20 = .ok (.iload_n 2, 1) := by decide +kernel
theorem dX0_together_21 : decode cX0_together 21 = .ok (.if_icmp .ne 7, 3) := by decide +kernel
theorem dX0_together_24 : decode cX0_together 24 = .ok (.iconst 1, 1) := by decide +kernel
theorem dX0_together_25 : decode cX0_together 25 = .ok (.goto 4, 3) := by decide +kernel
theorem dX0_together_28 : decode cX0_together 28 = .ok (.iconst 0, 1) := by decide +kernel
theorem dX0_together_29 : decode cX0_together 29 = .ok (.invokestatic 36, 3) := by decide +kernel
theorem dX0_together_32 : decode cX0_together 32 = .ok (.iadd, 1) := by decide +kernel
theorem dX0_together_33 : decode cX0_together 33 = .ok (.istore_n 3, 1) := by decide +kernel
theorem dX0_together_34 : decode cX0_together 34 = .ok (.iinc 4 1, 3) := by decide +kernel
theorem dX0_together_37 : decode cX0_together 37 = .ok (.goto (-32), 3) := by decide +kernel
theorem dX0_together_40 : decode cX0_together 40 = .ok (.iload_n 3, 1) := by decide +kernel
theorem dX0_together_41 : decode cX0_together 41 = .ok (.ireturn, 1) := by decide +kernel
theorem dX0_pairedDances_0 : decode cX0_pairedDances 0 = .ok (.iconst 0, 1) := by decide +kernel
theorem dX0_pairedDances_1 : decode cX0_pairedDances 1 = .ok (.istore_n 2, 1) := by decide +kernel
theorem dX0_pairedDances_2 : decode cX0_pairedDances 2 = .ok (.iconst 0, 1) := by decide +kernel
theorem dX0_pairedDances_3 : decode cX0_pairedDances 3 = .ok (.istore_n 3, 1) := by decide +kernel
theorem dX0_pairedDances_4 : decode cX0_pairedDances 4 = .ok (.iload_n 3, 1) := by decide +kernel
theorem dX0_pairedDances_5 : decode cX0_pairedDances 5 = .ok (.bipush 24, 2) := by decide +kernel
theorem dX0_pairedDances_7 : decode cX0_pairedDances 7 = .ok (.if_icmp .ge 21, 3) := by decide +kernel
theorem dX0_pairedDances_10 : decode cX0_pairedDances 10 = .ok (.iload_n 2, 1) := by decide +kernel
theorem dX0_pairedDances_11 : decode cX0_pairedDances 11 = .ok (.aload_n 0, 1) := by decide +kernel
theorem dX0_pairedDances_12 : decode cX0_pairedDances 12 = .ok (.iload_n 1, 1) := by decide +kernel
theorem dX0_pairedDances_13 : decode cX0_pairedDances 13 = .ok (.iload_n 3, 1) := by decide +kernel
theorem dX0_pairedDances_14 : decode cX0_pairedDances 14 = .ok (.invokevirtual 29, 3) := by decide +kernel
theorem dX0_pairedDances_17 : decode cX0_pairedDances 17 = .ok (.invokestatic 36, 3) := by decide +kernel
theorem dX0_pairedDances_20 : decode cX0_pairedDances 20 = .ok (.iadd, 1) := by decide +kernel
theorem dX0_pairedDances_21 : decode cX0_pairedDances 21 = .ok (.istore_n 2, 1) := by decide +kernel
theorem dX0_pairedDances_22 : decode cX0_pairedDances 22 = .ok (.iinc 3 1, 3) := by decide +kernel
theorem dX0_pairedDances_25 : decode cX0_pairedDances 25 = .ok (.goto (-21), 3) := by decide +kernel
theorem dX0_pairedDances_28 : decode cX0_pairedDances 28 = .ok (.iload_n 2, 1) := by decide +kernel
theorem dX0_pairedDances_29 : decode cX0_pairedDances 29 = .ok (.ireturn, 1) := by decide +kernel
theorem dJ6_bitCount_0f7a4_0 : decode cJ6_bitCount_0f7a4 0 = .ok (.iload_n 0, 1) := by decide +kernel
theorem dJ6_bitCount_0f7a4_1 : decode cJ6_bitCount_0f7a4 1 = .ok (.iload_n 0, 1) := by decide +kernel
theorem dJ6_bitCount_0f7a4_2 : decode cJ6_bitCount_0f7a4 2 = .ok (.iconst 1, 1) := by decide +kernel
theorem dJ6_bitCount_0f7a4_3 : decode cJ6_bitCount_0f7a4 3 = .ok (.iushr, 1) := by decide +kernel
theorem dJ6_bitCount_0f7a4_4 : decode cJ6_bitCount_0f7a4 4 = .ok (.ldc_w 265, 3) := by decide +kernel
theorem dJ6_bitCount_0f7a4_7 : decode cJ6_bitCount_0f7a4 7 = .ok (.iand, 1) := by decide +kernel
theorem dJ6_bitCount_0f7a4_8 : decode cJ6_bitCount_0f7a4 8 = .ok (.isub, 1) := by decide +kernel
theorem dJ6_bitCount_0f7a4_9 : decode cJ6_bitCount_0f7a4 9 = .ok (.istore_n 0, 1) := by decide +kernel
theorem dJ6_bitCount_0f7a4_10 : decode cJ6_bitCount_0f7a4 10 = .ok (.iload_n 0, 1) := by decide +kernel
theorem dJ6_bitCount_0f7a4_11 : decode cJ6_bitCount_0f7a4 11 = .ok (.ldc_w 266, 3) := by decide +kernel
theorem dJ6_bitCount_0f7a4_14 : decode cJ6_bitCount_0f7a4 14 = .ok (.iand, 1) := by decide +kernel
theorem dJ6_bitCount_0f7a4_15 : decode cJ6_bitCount_0f7a4 15 = .ok (.iload_n 0, 1) := by decide +kernel
theorem dJ6_bitCount_0f7a4_16 : decode cJ6_bitCount_0f7a4 16 = .ok (.iconst 2, 1) := by decide +kernel
theorem dJ6_bitCount_0f7a4_17 : decode cJ6_bitCount_0f7a4 17 = .ok (.iushr, 1) := by decide +kernel
theorem dJ6_bitCount_0f7a4_18 : decode cJ6_bitCount_0f7a4 18 = .ok (.ldc_w 266, 3) := by decide +kernel
theorem dJ6_bitCount_0f7a4_21 : decode cJ6_bitCount_0f7a4 21 = .ok (.iand, 1) := by decide +kernel
theorem dJ6_bitCount_0f7a4_22 : decode cJ6_bitCount_0f7a4 22 = .ok (.iadd, 1) := by decide +kernel
theorem dJ6_bitCount_0f7a4_23 : decode cJ6_bitCount_0f7a4 23 = .ok (.istore_n 0, 1) := by decide +kernel
theorem dJ6_bitCount_0f7a4_24 : decode cJ6_bitCount_0f7a4 24 = .ok (.iload_n 0, 1) := by decide +kernel
theorem dJ6_bitCount_0f7a4_25 : decode cJ6_bitCount_0f7a4 25 = .ok (.iload_n 0, 1) := by decide +kernel
theorem dJ6_bitCount_0f7a4_26 : decode cJ6_bitCount_0f7a4 26 = .ok (.iconst 4, 1) := by decide +kernel
theorem dJ6_bitCount_0f7a4_27 : decode cJ6_bitCount_0f7a4 27 = .ok (.iushr, 1) := by decide +kernel
theorem dJ6_bitCount_0f7a4_28 : decode cJ6_bitCount_0f7a4 28 = .ok (.iadd, 1) := by decide +kernel
theorem dJ6_bitCount_0f7a4_29 : decode cJ6_bitCount_0f7a4 29 = .ok (.ldc_w 267, 3) := by decide +kernel
theorem dJ6_bitCount_0f7a4_32 : decode cJ6_bitCount_0f7a4 32 = .ok (.iand, 1) := by decide +kernel
theorem dJ6_bitCount_0f7a4_33 : decode cJ6_bitCount_0f7a4 33 = .ok (.istore_n 0, 1) := by decide +kernel
theorem dJ6_bitCount_0f7a4_34 : decode cJ6_bitCount_0f7a4 34 = .ok (.iload_n 0, 1) := by decide +kernel
theorem dJ6_bitCount_0f7a4_35 : decode cJ6_bitCount_0f7a4 35 = .ok (.iload_n 0, 1) := by decide +kernel
theorem dJ6_bitCount_0f7a4_36 : decode cJ6_bitCount_0f7a4 36 = .ok (.bipush 8, 2) := by decide +kernel
theorem dJ6_bitCount_0f7a4_38 : decode cJ6_bitCount_0f7a4 38 = .ok (.iushr, 1) := by decide +kernel
theorem dJ6_bitCount_0f7a4_39 : decode cJ6_bitCount_0f7a4 39 = .ok (.iadd, 1) := by decide +kernel
theorem dJ6_bitCount_0f7a4_40 : decode cJ6_bitCount_0f7a4 40 = .ok (.istore_n 0, 1) := by decide +kernel
theorem dJ6_bitCount_0f7a4_41 : decode cJ6_bitCount_0f7a4 41 = .ok (.iload_n 0, 1) := by decide +kernel
theorem dJ6_bitCount_0f7a4_42 : decode cJ6_bitCount_0f7a4 42 = .ok (.iload_n 0, 1) := by decide +kernel
theorem dJ6_bitCount_0f7a4_43 : decode cJ6_bitCount_0f7a4 43 = .ok (.bipush 16, 2) := by decide +kernel
theorem dJ6_bitCount_0f7a4_45 : decode cJ6_bitCount_0f7a4 45 = .ok (.iushr, 1) := by decide +kernel
theorem dJ6_bitCount_0f7a4_46 : decode cJ6_bitCount_0f7a4 46 = .ok (.iadd, 1) := by decide +kernel
theorem dJ6_bitCount_0f7a4_47 : decode cJ6_bitCount_0f7a4 47 = .ok (.istore_n 0, 1) := by decide +kernel
theorem dJ6_bitCount_0f7a4_48 : decode cJ6_bitCount_0f7a4 48 = .ok (.iload_n 0, 1) := by decide +kernel
theorem dJ6_bitCount_0f7a4_49 : decode cJ6_bitCount_0f7a4 49 = .ok (.bipush 63, 2) := by decide +kernel
theorem dJ6_bitCount_0f7a4_51 : decode cJ6_bitCount_0f7a4 51 = .ok (.iand, 1) := by decide +kernel
theorem dJ6_bitCount_0f7a4_52 : decode cJ6_bitCount_0f7a4 52 = .ok (.ireturn, 1) := by decide +kernel
theorem dX0_others_0 : decode cX0_others 0 = .ok (.iconst 0, 1) := by decide +kernel
theorem dX0_others_1 : decode cX0_others 1 = .ok (.istore_n 2, 1) := by decide +kernel
theorem dX0_others_2 : decode cX0_others 2 = .ok (.iconst 0, 1) := by decide +kernel
theorem dX0_others_3 : decode cX0_others 3 = .ok (.istore_n 3, 1) := by decide +kernel
theorem dX0_others_4 : decode cX0_others 4 = .ok (.iload_n 3, 1) := by decide +kernel
theorem dX0_others_5 : decode cX0_others 5 = .ok (.bipush 24, 2) := by decide +kernel
theorem dX0_others_7 : decode cX0_others 7 = .ok (.if_icmp .ge 29, 3) := by decide +kernel
theorem dX0_others_10 : decode cX0_others 10 = .ok (.aload_n 0, 1) := by decide +kernel
theorem dX0_others_11 : decode cX0_others 11 = .ok (.iload_n 1, 1) := by decide +kernel
theorem dX0_others_12 : decode cX0_others 12 = .ok (.iload_n 3, 1) := by decide +kernel
theorem dX0_others_13 : decode cX0_others 13 = .ok (.invokevirtual 29, 3) := by decide +kernel
theorem dX0_others_16 : decode cX0_others 16 = .ok (.ifCond .eq 14, 3) := by decide +kernel
theorem dX0_others_19 : decode cX0_others 19 = .ok (.iload_n 2, 1) := by decide +kernel
theorem dX0_others_20 : decode cX0_others 20 = .ok (.iconst 1, 1) := by decide +kernel
theorem dX0_others_21 : decode cX0_others 21 = .ok (.aload_n 0, 1) := by decide +kernel
theorem dX0_others_22 : decode cX0_others 22 = .ok (.iload_n 1, 1) := by decide +kernel
theorem dX0_others_23 : decode cX0_others 23 = .ok (.iload_n 3, 1) := by decide +kernel
theorem dX0_others_24 : decode cX0_others 24 = .ok (.invokevirtual 21, 3) := by decide +kernel
theorem dX0_others_27 : decode cX0_others 27 = .ok (.ishl, 1) := by decide +kernel
theorem dX0_others_28 : decode cX0_others 28 = .ok (.ior, 1) := by decide +kernel
theorem dX0_others_29 : decode cX0_others 29 = .ok (.istore_n 2, 1) := by decide +kernel
theorem dX0_others_30 : decode cX0_others 30 = .ok (.iinc 3 1, 3) := by decide +kernel
theorem dX0_others_33 : decode cX0_others 33 = .ok (.goto (-29), 3) := by decide +kernel
theorem dX0_others_36 : decode cX0_others 36 = .ok (.iload_n 2, 1) := by decide +kernel
theorem dX0_others_37 : decode cX0_others 37 = .ok (.invokestatic 40, 3) := by decide +kernel
theorem dX0_others_40 : decode cX0_others 40 = .ok (.ireturn, 1) := by decide +kernel
theorem dX0_longestRow_0 : decode cX0_longestRow 0 = .ok (.iconst 0, 1) := by decide +kernel
theorem dX0_longestRow_1 : decode cX0_longestRow 1 = .ok (.istore_n 2, 1) := by decide +kernel
theorem dX0_longestRow_2 : decode cX0_longestRow 2 = .ok (.iconst 0, 1) := by decide +kernel
theorem dX0_longestRow_3 : decode cX0_longestRow 3 = .ok (.istore_n 3, 1) := by decide +kernel
theorem dX0_longestRow_4 : decode cX0_longestRow 4 = .ok (.iconst 0, 1) := by decide +kernel
theorem dX0_longestRow_5 : decode cX0_longestRow 5 = .ok (.istore 4, 2) := by decide +kernel
theorem dX0_longestRow_7 : decode cX0_longestRow 7 = .ok (.iload 4, 2) := by decide +kernel
theorem dX0_longestRow_9 : decode cX0_longestRow 9 = .ok (.bipush 24, 2) := by decide +kernel
theorem dX0_longestRow_11 : decode cX0_longestRow 11 = .ok (.if_icmp .ge 33, 3) := by decide +kernel
theorem dX0_longestRow_14 : decode cX0_longestRow 14 = .ok (.aload_n 0, 1) := by decide +kernel
theorem dX0_longestRow_15 : decode cX0_longestRow 15 = .ok (.iload_n 1, 1) := by decide +kernel
theorem dX0_longestRow_16 : decode cX0_longestRow 16 = .ok (.iload 4, 2) := by decide +kernel
theorem dX0_longestRow_18 : decode cX0_longestRow 18 = .ok (.invokevirtual 29, 3) := by decide +kernel
theorem dX0_longestRow_21 : decode cX0_longestRow 21 = .ok (.ifCond .eq 9, 3) := by decide +kernel
theorem dX0_longestRow_24 : decode cX0_longestRow 24 = .ok (.iload_n 3, 1) := by decide +kernel
theorem dX0_longestRow_25 : decode cX0_longestRow 25 = .ok (.iconst 1, 1) := by decide +kernel
theorem dX0_longestRow_26 : decode cX0_longestRow 26 = .ok (.iadd, 1) := by decide +kernel
theorem dX0_longestRow_27 : decode cX0_longestRow 27 = .ok (.goto 4, 3) := by decide +kernel
theorem dX0_longestRow_30 : decode cX0_longestRow 30 = .ok (.iconst 0, 1) := by decide +kernel
theorem dX0_longestRow_31 : decode cX0_longestRow 31 = .ok (.istore_n 3, 1) := by decide +kernel
theorem dX0_longestRow_32 : decode cX0_longestRow 32 = .ok (.iload_n 2, 1) := by decide +kernel
theorem dX0_longestRow_33 : decode cX0_longestRow 33 = .ok (.iload_n 3, 1) := by decide +kernel
theorem dX0_longestRow_34 : decode cX0_longestRow 34 = .ok (.invokestatic 46, 3) := by decide +kernel
theorem dX0_longestRow_37 : decode cX0_longestRow 37 = .ok (.istore_n 2, 1) := by decide +kernel
theorem dX0_longestRow_38 : decode cX0_longestRow 38 = .ok (.iinc 4 1, 3) := by decide +kernel
theorem dX0_longestRow_41 : decode cX0_longestRow 41 = .ok (.goto (-34), 3) := by decide +kernel
theorem dX0_longestRow_44 : decode cX0_longestRow 44 = .ok (.iload_n 2, 1) := by decide +kernel
theorem dX0_longestRow_45 : decode cX0_longestRow 45 = .ok (.ireturn, 1) := by decide +kernel
theorem dX0_sittings_0 : decode cX0_sittings 0 = .ok (.iconst 0, 1) := by decide +kernel
theorem dX0_sittings_1 : decode cX0_sittings 1 = .ok (.istore_n 2, 1) := by decide +kernel
theorem dX0_sittings_2 : decode cX0_sittings 2 = .ok (.iconst 0, 1) := by decide +kernel
theorem dX0_sittings_3 : decode cX0_sittings 3 = .ok (.istore_n 3, 1) := by decide +kernel
theorem dX0_sittings_4 : decode cX0_sittings 4 = .ok (.iload_n 3, 1) := by decide +kernel
theorem dX0_sittings_5 : decode cX0_sittings 5 = .ok (.bipush 24, 2) := by decide +kernel
theorem dX0_sittings_7 : decode cX0_sittings 7 = .ok (.if_icmp .ge 31, 3) := by decide +kernel
theorem dX0_sittings_10 : decode cX0_sittings 10 = .ok (.iload_n 2, 1) := by decide +kernel
theorem dX0_sittings_11 : decode cX0_sittings 11 = .ok (.aload_n 0, 1) := by decide +kernel
theorem dX0_sittings_12 : decode cX0_sittings 12 = .ok (.iload_n 1, 1) := by decide +kernel
theorem dX0_sittings_13 : decode cX0_sittings 13 = .ok (.iload_n 3, 1) := by decide +kernel
theorem dX0_sittings_14 : decode cX0_sittings 14 = .ok (.invokevirtual 21, 3) := by decide +kernel
theorem dX0_sittings_17 : decode cX0_sittings 17 = .ok (.bipush (-5), 2) := by decide +kernel
theorem dX0_sittings_19 : decode cX0_sittings 19 = .ok (.if_icmp .ne 7, 3) := by decide +kernel
theorem dX0_sittings_22 : decode cX0_sittings 22 = .ok (.iconst 1, 1) := by decide +kernel
theorem dX0_sittings_23 : decode cX0_sittings 23 = .ok (.goto 4, 3) := by decide +kernel
theorem dX0_sittings_26 : decode cX0_sittings 26 = .ok (.iconst 0, 1) := by decide +kernel
theorem dX0_sittings_27 : decode cX0_sittings 27 = .ok (.invokestatic 36, 3) := by decide +kernel
theorem dX0_sittings_30 : decode cX0_sittings 30 = .ok (.iadd, 1) := by decide +kernel
theorem dX0_sittings_31 : decode cX0_sittings 31 = .ok (.istore_n 2, 1) := by decide +kernel
theorem dX0_sittings_32 : decode cX0_sittings 32 = .ok (.iinc 3 1, 3) := by decide +kernel
theorem dX0_sittings_35 : decode cX0_sittings 35 = .ok (.goto (-31), 3) := by decide +kernel
theorem dX0_sittings_38 : decode cX0_sittings 38 = .ok (.iload_n 2, 1) := by decide +kernel
theorem dX0_sittings_39 : decode cX0_sittings 39 = .ok (.ireturn, 1) := by decide +kernel
theorem dX0_rowThrough_0 : decode cX0_rowThrough 0 = .ok (.iload_n 2, 1) := by decide +kernel
theorem dX0_rowThrough_1 : decode cX0_rowThrough 1 = .ok (.istore_n 3, 1) := by decide +kernel
theorem dX0_rowThrough_2 : decode cX0_rowThrough 2 = .ok (.iload_n 3, 1) := by decide +kernel
theorem dX0_rowThrough_3 : decode cX0_rowThrough 3 = .ok (.ifCond .le 20, 3) := by decide +kernel
theorem dX0_rowThrough_6 : decode cX0_rowThrough 6 = .ok (.aload_n 0, 1) := by decide +kernel
theorem dX0_rowThrough_7 : decode cX0_rowThrough 7 = .ok (.iload_n 1, 1) := by decide +kernel
theorem dX0_rowThrough_8 : decode cX0_rowThrough 8 = .ok (.iload_n 3, 1) := by decide +kernel
theorem dX0_rowThrough_9 : decode cX0_rowThrough 9 = .ok (.iconst 1, 1) := by decide +kernel
theorem dX0_rowThrough_10 : decode cX0_rowThrough 10 = .ok (.isub, 1) := by decide +kernel
theorem dX0_rowThrough_11 : decode cX0_rowThrough 11 = .ok (.invokevirtual 29, 3) := by decide +kernel
theorem dX0_rowThrough_14 : decode cX0_rowThrough 14 = .ok (.ifCond .eq 9, 3) := by decide +kernel
theorem dX0_rowThrough_17 : decode cX0_rowThrough 17 = .ok (.iinc 3 (-1), 3) := by decide +kernel
theorem dX0_rowThrough_20 : decode cX0_rowThrough 20 = .ok (.goto (-18), 3) := by decide +kernel
theorem dX0_rowThrough_23 : decode cX0_rowThrough 23 = .ok (.iload_n 2, 1) := by decide +kernel
theorem dX0_rowThrough_24 : decode cX0_rowThrough 24 = .ok (.istore 4, 2) := by decide +kernel
theorem dX0_rowThrough_26 : decode cX0_rowThrough 26 = .ok (.iload 4, 2) := by decide +kernel
theorem dX0_rowThrough_28 : decode cX0_rowThrough 28 = .ok (.bipush 23, 2) := by decide +kernel
theorem dX0_rowThrough_30 : decode cX0_rowThrough 30 = .ok (.if_icmp .ge 21, 3) := by decide +kernel
theorem dX0_rowThrough_33 : decode cX0_rowThrough 33 = .ok (.aload_n 0, 1) := by decide +kernel
theorem dX0_rowThrough_34 : decode cX0_rowThrough 34 = .ok (.iload_n 1, 1) := by decide +kernel
theorem dX0_rowThrough_35 : decode cX0_rowThrough 35 = .ok (.iload 4, 2) := by decide +kernel
theorem dX0_rowThrough_37 : decode cX0_rowThrough 37 = .ok (.iconst 1, 1) := by decide +kernel
theorem dX0_rowThrough_38 : decode cX0_rowThrough 38 = .ok (.iadd, 1) := by decide +kernel
theorem dX0_rowThrough_39 : decode cX0_rowThrough 39 = .ok (.invokevirtual 29, 3) := by decide +kernel
theorem dX0_rowThrough_42 : decode cX0_rowThrough 42 = .ok (.ifCond .eq 9, 3) := by decide +kernel
theorem dX0_rowThrough_45 : decode cX0_rowThrough 45 = .ok (.iinc 4 1, 3) := by decide +kernel
theorem dX0_rowThrough_48 : decode cX0_rowThrough 48 = .ok (.goto (-22), 3) := by decide +kernel
theorem dX0_rowThrough_51 : decode cX0_rowThrough 51 = .ok (.iload 4, 2) := by decide +kernel
theorem dX0_rowThrough_53 : decode cX0_rowThrough 53 = .ok (.iload_n 3, 1) := by decide +kernel
theorem dX0_rowThrough_54 : decode cX0_rowThrough 54 = .ok (.isub, 1) := by decide +kernel
theorem dX0_rowThrough_55 : decode cX0_rowThrough 55 = .ok (.iconst 1, 1) := by decide +kernel
theorem dX0_rowThrough_56 : decode cX0_rowThrough 56 = .ok (.iadd, 1) := by decide +kernel
theorem dX0_rowThrough_57 : decode cX0_rowThrough 57 = .ok (.ireturn, 1) := by decide +kernel
theorem dX0_couples_0 : decode cX0_couples 0 = .ok (.iconst 0, 1) := by decide +kernel
theorem dX0_couples_1 : decode cX0_couples 1 = .ok (.istore_n 1, 1) := by decide +kernel
theorem dX0_couples_2 : decode cX0_couples 2 = .ok (.iconst 0, 1) := by decide +kernel
theorem dX0_couples_3 : decode cX0_couples 3 = .ok (.istore_n 2, 1) := by decide +kernel
theorem dX0_couples_4 : decode cX0_couples 4 = .ok (.iload_n 2, 1) := by decide +kernel
theorem dX0_couples_5 : decode cX0_couples 5 = .ok (.bipush 16, 2) := by decide +kernel
theorem dX0_couples_7 : decode cX0_couples 7 = .ok (.if_icmp .ge 17, 3) := by decide +kernel
theorem dX0_couples_10 : decode cX0_couples 10 = .ok (.iload_n 1, 1) := by decide +kernel
theorem dX0_couples_11 : decode cX0_couples 11 = .ok (.aload_n 0, 1) := by decide +kernel
theorem dX0_couples_12 : decode cX0_couples 12 = .ok (.iload_n 2, 1) := by decide +kernel
theorem dX0_couples_13 : decode cX0_couples 13 = .ok (.invokevirtual 51, 3) := by decide +kernel
theorem dX0_couples_16 : decode cX0_couples 16 = .ok (.iadd, 1) := by decide +kernel
theorem dX0_couples_17 : decode cX0_couples 17 = .ok (.istore_n 1, 1) := by decide +kernel
theorem dX0_couples_18 : decode cX0_couples 18 = .ok (.iinc 2 1, 3) := by decide +kernel
theorem dX0_couples_21 : decode cX0_couples 21 = .ok (.goto (-17), 3) := by decide +kernel
theorem dX0_couples_24 : decode cX0_couples 24 = .ok (.iload_n 1, 1) := by decide +kernel
theorem dX0_couples_25 : decode cX0_couples 25 = .ok (.iconst 2, 1) := by decide +kernel
theorem dX0_couples_26 : decode cX0_couples 26 = .ok (.idiv, 1) := by decide +kernel
theorem dX0_couples_27 : decode cX0_couples 27 = .ok (.ireturn, 1) := by decide +kernel
theorem dX1_forget_0 : decode cX1_forget 0 = .ok (.aload_n 0, 1) := by decide +kernel
theorem dX1_forget_1 : decode cX1_forget 1 = .ok (.iconst 0, 1) := by decide +kernel
theorem dX1_forget_2 : decode cX1_forget 2 = .ok (.putfield 27, 3) := by decide +kernel
theorem dX1_forget_5 : decode cX1_forget 5 = .ok (.return_, 1) := by decide +kernel
theorem dX1_addCouple_0 : decode cX1_addCouple 0 = .ok (.aload_n 0, 1) := by decide +kernel
theorem dX1_addCouple_1 : decode cX1_addCouple 1 = .ok (.getfield 27, 3) := by decide +kernel
theorem dX1_addCouple_4 : decode cX1_addCouple 4 = .ok (.bipush 8, 2) := by decide +kernel
theorem dX1_addCouple_6 : decode cX1_addCouple 6 = .ok (.if_icmp .lt 4, 3) := by decide +kernel
theorem dX1_addCouple_9 : decode cX1_addCouple 9 = .ok (.return_, 1) := by decide +kernel
theorem dX1_addCouple_10 : decode cX1_addCouple 10 = .ok (.aload_n 0, 1) := by decide +kernel
theorem dX1_addCouple_11 : decode cX1_addCouple 11 = .ok (.getfield 11, 3) := by decide +kernel
theorem dX1_addCouple_14 : decode cX1_addCouple 14 = .ok (.aload_n 0, 1) := by decide +kernel
theorem dX1_addCouple_15 : decode cX1_addCouple 15 = .ok (.getfield 27, 3) := by decide +kernel
theorem dX1_addCouple_18 : decode cX1_addCouple 18 = .ok (.iload_n 1, 1) := by decide +kernel
theorem dX1_addCouple_19 : decode cX1_addCouple 19 = .ok (.iastore, 1) := by decide +kernel
theorem dX1_addCouple_20 : decode cX1_addCouple 20 = .ok (.aload_n 0, 1) := by decide +kernel
theorem dX1_addCouple_21 : decode cX1_addCouple 21 = .ok (.getfield 15, 3) := by decide +kernel
theorem dX1_addCouple_24 : decode cX1_addCouple 24 = .ok (.aload_n 0, 1) := by decide +kernel
theorem dX1_addCouple_25 : decode cX1_addCouple 25 = .ok (.getfield 27, 3) := by decide +kernel
theorem dX1_addCouple_28 : decode cX1_addCouple 28 = .ok (.iload_n 2, 1) := by decide +kernel
theorem dX1_addCouple_29 : decode cX1_addCouple 29 = .ok (.iastore, 1) := by decide +kernel
theorem dX1_addCouple_30 : decode cX1_addCouple 30 = .ok (.aload_n 0, 1) := by decide +kernel
theorem dX1_addCouple_31 : decode cX1_addCouple 31 = .ok (.dup, 1) := by decide +kernel
theorem dX1_addCouple_32 : decode cX1_addCouple 32 = .ok (.getfield 27, 3) := by decide +kernel
theorem dX1_addCouple_35 : decode cX1_addCouple 35 = .ok (.iconst 1, 1) := by decide +kernel
theorem dX1_addCouple_36 : decode cX1_addCouple 36 = .ok (.iadd, 1) := by decide +kernel
theorem dX1_addCouple_37 : decode cX1_addCouple 37 = .ok (.putfield 27, 3) := by decide +kernel
theorem dX1_addCouple_40 : decode cX1_addCouple 40 = .ok (.return_, 1) := by decide +kernel
theorem dJ7_fill_53178_0 : decode cJ7_fill_53178 0 = .ok (.iconst 0, 1) := by decide +kernel
theorem dJ7_fill_53178_1 : decode cJ7_fill_53178 1 = .ok (.istore_n 2, 1) := by decide +kernel
theorem dJ7_fill_53178_2 : decode cJ7_fill_53178 2 = .ok (.aload_n 0, 1) := by decide +kernel
theorem dJ7_fill_53178_3 : decode cJ7_fill_53178 3 = .ok (.arraylength, 1) := by decide +kernel
theorem dJ7_fill_53178_4 : decode cJ7_fill_53178 4 = .ok (.istore_n 3, 1) := by decide +kernel
theorem dJ7_fill_53178_5 : decode cJ7_fill_53178 5 = .ok (.iload_n 2, 1) := by decide +kernel
theorem dJ7_fill_53178_6 : decode cJ7_fill_53178 6 = .ok (.iload_n 3, 1) := by decide +kernel
theorem dJ7_fill_53178_7 : decode cJ7_fill_53178 7 = .ok (.if_icmp .ge 13, 3) := by decide +kernel
theorem dJ7_fill_53178_10 : decode cJ7_fill_53178 10 = .ok (.aload_n 0, 1) := by decide +kernel
theorem dJ7_fill_53178_11 : decode cJ7_fill_53178 11 = .ok (.iload_n 2, 1) := by decide +kernel
theorem dJ7_fill_53178_12 : decode cJ7_fill_53178 12 = .ok (.iload_n 1, 1) := by decide +kernel
theorem dJ7_fill_53178_13 : decode cJ7_fill_53178 13 = .ok (.iastore, 1) := by decide +kernel
theorem dJ7_fill_53178_14 : decode cJ7_fill_53178 14 = .ok (.iinc 2 1, 3) := by decide +kernel
theorem dJ7_fill_53178_17 : decode cJ7_fill_53178 17 = .ok (.goto (-12), 3) := by decide +kernel
theorem dJ7_fill_53178_20 : decode cJ7_fill_53178 20 = .ok (.return_, 1) := by decide +kernel
theorem dX1_isOpenFor_0 : decode cX1_isOpenFor 0 = .ok (.aload_n 0, 1) := by decide +kernel
theorem dX1_isOpenFor_1 : decode cX1_isOpenFor 1 = .ok (.getfield 21, 3) := by decide +kernel
theorem dX1_isOpenFor_4 : decode cX1_isOpenFor 4 = .ok (.iload_n 1, 1) := by decide +kernel
theorem dX1_isOpenFor_5 : decode cX1_isOpenFor 5 = .ok (.iaload, 1) := by decide +kernel
theorem dX1_isOpenFor_6 : decode cX1_isOpenFor 6 = .ok (.iconst 4, 1) := by decide +kernel
theorem dX1_isOpenFor_7 : decode cX1_isOpenFor 7 = .ok (.if_icmp .ge 23, 3) := by decide +kernel
theorem dX1_isOpenFor_10 : decode cX1_isOpenFor 10 = .ok (.aload_n 0, 1) := by decide +kernel
theorem dX1_isOpenFor_11 : decode cX1_isOpenFor 11 = .ok (.getfield 24, 3) := by decide +kernel
theorem dX1_isOpenFor_14 : decode cX1_isOpenFor 14 = .ok (.iload_n 1, 1) := by decide +kernel
theorem dX1_isOpenFor_15 : decode cX1_isOpenFor 15 = .ok (.iaload, 1) := by decide +kernel
theorem dX1_isOpenFor_16 : decode cX1_isOpenFor 16 = .ok (.aload_n 0, 1) := by decide +kernel
theorem dX1_isOpenFor_17 : decode cX1_isOpenFor 17 = .ok (.getfield 15, 3) := by decide +kernel
theorem dX1_isOpenFor_20 : decode cX1_isOpenFor 20 = .ok (.iload_n 2, 1) := by decide +kernel
theorem dX1_isOpenFor_21 : decode cX1_isOpenFor 21 = .ok (.iaload, 1) := by decide +kernel
theorem dX1_isOpenFor_22 : decode cX1_isOpenFor 22 = .ok (.iand, 1) := by decide +kernel
theorem dX1_isOpenFor_23 : decode cX1_isOpenFor 23 = .ok (.ifCond .ne 7, 3) := by decide +kernel
theorem dX1_isOpenFor_26 : decode cX1_isOpenFor 26 = .ok (.iconst 1, 1) := by decide +kernel
theorem dX1_isOpenFor_27 : decode cX1_isOpenFor 27 = .ok (.goto 4, 3) := by decide +kernel
theorem dX1_isOpenFor_30 : decode cX1_isOpenFor 30 = .ok (.iconst 0, 1) := by decide +kernel
theorem dX1_isOpenFor_31 : decode cX1_isOpenFor 31 = .ok (.ireturn, 1) := by decide +kernel
theorem dX1_canPlace_0 : decode cX1_canPlace 0 = .ok (.iload_n 1, 1) := by decide +kernel
theorem dX1_canPlace_1 : decode cX1_canPlace 1 = .ok (.aload_n 0, 1) := by decide +kernel
theorem dX1_canPlace_2 : decode cX1_canPlace 2 = .ok (.getfield 27, 3) := by decide +kernel
theorem dX1_canPlace_5 : decode cX1_canPlace 5 = .ok (.if_icmp .lt 5, 3) := by decide +kernel
theorem dX1_canPlace_8 : decode cX1_canPlace 8 = .ok (.iconst 1, 1) := by decide +kernel
theorem dX1_canPlace_9 : decode cX1_canPlace 9 = .ok (.ireturn, 1) := by decide +kernel
theorem dX1_canPlace_10 : decode cX1_canPlace 10 = .ok (.iconst 0, 1) := by decide +kernel
theorem dX1_canPlace_11 : decode cX1_canPlace 11 = .ok (.istore_n 3, 1) := by decide +kernel
theorem dX1_canPlace_12 : decode cX1_canPlace 12 = .ok (.iload_n 3, 1) := by decide +kernel
theorem dX1_canPlace_13 : decode cX1_canPlace 13 = .ok (.iload_n 2, 1) := by decide +kernel
theorem dX1_canPlace_14 : decode cX1_canPlace 14 = .ok (.if_icmp .ge 104, 3) := by decide +kernel
theorem dX1_canPlace_17 : decode cX1_canPlace 17 = .ok (.aload_n 0, 1) := by decide +kernel
theorem dX1_canPlace_18 : decode cX1_canPlace 18 = .ok (.iload_n 3, 1) := by decide +kernel
theorem dX1_canPlace_19 : decode cX1_canPlace 19 = .ok (.iload_n 1, 1) := by decide +kernel
theorem dX1_canPlace_20 : decode cX1_canPlace 20 = .ok (.invokevirtual 41, 3) := by decide +kernel
theorem dX1_canPlace_23 : decode cX1_canPlace 23 = .ok (.ifCond .ne 6, 3) := by decide +kernel
theorem dX1_canPlace_26 : decode cX1_canPlace 26 = .ok (.goto 86, 3) := by decide +kernel
theorem dX1_canPlace_29 : decode cX1_canPlace 29 = .ok (.aload_n 0, 1) := by decide +kernel
theorem dX1_canPlace_30 : decode cX1_canPlace 30 = .ok (.getfield 21, 3) := by decide +kernel
theorem dX1_canPlace_33 : decode cX1_canPlace 33 = .ok (.iload_n 3, 1) := by decide +kernel
theorem dX1_canPlace_34 : decode cX1_canPlace 34 = .ok (.dup2, 1) := by decide +kernel
theorem dX1_canPlace_35 : decode cX1_canPlace 35 = .ok (.iaload, 1) := by decide +kernel
theorem dX1_canPlace_36 : decode cX1_canPlace 36 = .ok (.iconst 1, 1) := by decide +kernel
theorem dX1_canPlace_37 : decode cX1_canPlace 37 = .ok (.iadd, 1) := by decide +kernel
theorem dX1_canPlace_38 : decode cX1_canPlace 38 = .ok (.iastore, 1) := by decide +kernel
theorem dX1_canPlace_39 : decode cX1_canPlace 39 = .ok (.aload_n 0, 1) := by decide +kernel
theorem dX1_canPlace_40 : decode cX1_canPlace 40 = .ok (.getfield 24, 3) := by decide +kernel
theorem dX1_canPlace_43 : decode cX1_canPlace 43 = .ok (.iload_n 3, 1) := by decide +kernel
theorem dX1_canPlace_44 : decode cX1_canPlace 44 = .ok (.dup2, 1) := by decide +kernel
theorem dX1_canPlace_45 : decode cX1_canPlace 45 = .ok (.iaload, 1) := by decide +kernel
theorem dX1_canPlace_46 : decode cX1_canPlace 46 = .ok (.aload_n 0, 1) := by decide +kernel
theorem dX1_canPlace_47 : decode cX1_canPlace 47 = .ok (.getfield 11, 3) := by decide +kernel
theorem dX1_canPlace_50 : decode cX1_canPlace 50 = .ok (.iload_n 1, 1) := by decide +kernel
theorem dX1_canPlace_51 : decode cX1_canPlace 51 = .ok (.iaload, 1) := by decide +kernel
theorem dX1_canPlace_52 : decode cX1_canPlace 52 = .ok (.ior, 1) := by decide +kernel
theorem dX1_canPlace_53 : decode cX1_canPlace 53 = .ok (.iastore, 1) := by decide +kernel
theorem dX1_canPlace_54 : decode cX1_canPlace 54 = .ok (.aload_n 0, 1) := by decide +kernel
theorem dX1_canPlace_55 : decode cX1_canPlace 55 = .ok (.getfield 18, 3) := by decide +kernel
theorem dX1_canPlace_58 : decode cX1_canPlace 58 = .ok (.iload_n 1, 1) := by decide +kernel
theorem dX1_canPlace_59 : decode cX1_canPlace 59 = .ok (.iload_n 3, 1) := by decide +kernel
theorem dX1_canPlace_60 : decode cX1_canPlace 60 = .ok (.iastore, 1) := by decide +kernel
theorem dX1_canPlace_61 : decode cX1_canPlace 61 = .ok (.aload_n 0, 1) := by decide +kernel
theorem dX1_canPlace_62 : decode cX1_canPlace 62 = .ok (.iload_n 1, 1) := by decide +kernel
theorem dX1_canPlace_63 : decode cX1_canPlace 63 = .ok (.iconst 1, 1) := by decide +kernel
theorem dX1_canPlace_64 : decode cX1_canPlace 64 = .ok (.iadd, 1) := by decide +kernel
theorem dX1_canPlace_65 : decode cX1_canPlace 65 = .ok (.iload_n 2, 1) := by decide +kernel
theorem dX1_canPlace_66 : decode cX1_canPlace 66 = .ok (.invokestatic 37, 3) := by decide +kernel
theorem dX1_canPlace_69 : decode cX1_canPlace 69 = .ok (.ifCond .eq 5, 3) := by decide +kernel
theorem dX1_canPlace_72 : decode cX1_canPlace 72 = .ok (.iconst 1, 1) := by decide +kernel
theorem dX1_canPlace_73 : decode cX1_canPlace 73 = .ok (.ireturn, 1) := by decide +kernel
theorem dX1_canPlace_74 : decode cX1_canPlace 74 = .ok (.aload_n 0, 1) := by decide +kernel
theorem dX1_canPlace_75 : decode cX1_canPlace 75 = .ok (.getfield 21, 3) := by decide +kernel
theorem dX1_canPlace_78 : decode cX1_canPlace 78 = .ok (.iload_n 3, 1) := by decide +kernel
theorem dX1_canPlace_79 : decode cX1_canPlace 79 = .ok (.dup2, 1) := by decide +kernel
theorem dX1_canPlace_80 : decode cX1_canPlace 80 = .ok (.iaload, 1) := by decide +kernel
theorem dX1_canPlace_81 : decode cX1_canPlace 81 = .ok (.iconst 1, 1) := by decide +kernel
theorem dX1_canPlace_82 : decode cX1_canPlace 82 = .ok (.isub, 1) := by decide +kernel
theorem dX1_canPlace_83 : decode cX1_canPlace 83 = .ok (.iastore, 1) := by decide +kernel
theorem dX1_canPlace_84 : decode cX1_canPlace 84 = .ok (.aload_n 0, 1) := by decide +kernel
theorem dX1_canPlace_85 : decode cX1_canPlace 85 = .ok (.getfield 24, 3) := by decide +kernel
theorem dX1_canPlace_88 : decode cX1_canPlace 88 = .ok (.iload_n 3, 1) := by decide +kernel
theorem dX1_canPlace_89 : decode cX1_canPlace 89 = .ok (.dup2, 1) := by decide +kernel
theorem dX1_canPlace_90 : decode cX1_canPlace 90 = .ok (.iaload, 1) := by decide +kernel
theorem dX1_canPlace_91 : decode cX1_canPlace 91 = .ok (.aload_n 0, 1) := by decide +kernel
theorem dX1_canPlace_92 : decode cX1_canPlace 92 = .ok (.getfield 11, 3) := by decide +kernel
theorem dX1_canPlace_95 : decode cX1_canPlace 95 = .ok (.iload_n 1, 1) := by decide +kernel
theorem dX1_canPlace_96 : decode cX1_canPlace 96 = .ok (.iaload, 1) := by decide +kernel
theorem dX1_canPlace_97 : decode cX1_canPlace 97 = .ok (.iconst (-1), 1) := by decide +kernel
theorem dX1_canPlace_98 : decode cX1_canPlace 98 = .ok (.ixor, 1) := by decide +kernel
theorem dX1_canPlace_99 : decode cX1_canPlace 99 = .ok (.iand, 1) := by decide +kernel
theorem dX1_canPlace_100 : decode cX1_canPlace 100 = .ok (.iastore, 1) := by decide +kernel
theorem dX1_canPlace_101 : decode cX1_canPlace 101 = .ok (.aload_n 0, 1) := by decide +kernel
theorem dX1_canPlace_102 : decode cX1_canPlace 102 = .ok (.getfield 21, 3) := by decide +kernel
theorem dX1_canPlace_105 : decode cX1_canPlace 105 = .ok (.iload_n 3, 1) := by decide +kernel
theorem dX1_canPlace_106 : decode cX1_canPlace 106 = .ok (.iaload, 1) := by decide +kernel
theorem dX1_canPlace_107 : decode cX1_canPlace 107 = .ok (.ifCond .ne 5, 3) := by decide +kernel
theorem dX1_canPlace_110 : decode cX1_canPlace 110 = .ok (.iconst 0, 1) := by decide +kernel
theorem dX1_canPlace_111 : decode cX1_canPlace 111 = .ok (.ireturn, 1) := by decide +kernel
theorem dX1_canPlace_112 : decode cX1_canPlace 112 = .ok (.iinc 3 1, 3) := by decide +kernel
theorem dX1_canPlace_115 : decode cX1_canPlace 115 = .ok (.goto (-103), 3) := by decide +kernel
theorem dX1_canPlace_118 : decode cX1_canPlace 118 = .ok (.iconst 0, 1) := by decide +kernel
theorem dX1_canPlace_119 : decode cX1_canPlace 119 = .ok (.ireturn, 1) := by decide +kernel
theorem dX1_group_0 : decode cX1_group 0 = .ok (.iconst 0, 1) := by decide +kernel
theorem dX1_group_1 : decode cX1_group 1 = .ok (.istore_n 1, 1) := by decide +kernel
theorem dX1_group_2 : decode cX1_group 2 = .ok (.iload_n 1, 1) := by decide +kernel
theorem dX1_group_3 : decode cX1_group 3 = .ok (.aload_n 0, 1) := by decide +kernel
theorem dX1_group_4 : decode cX1_group 4 = .ok (.getfield 27, 3) := by decide +kernel
theorem dX1_group_7 : decode cX1_group 7 = .ok (.if_icmp .ge 36, 3) := by decide +kernel
theorem dX1_group_10 : decode cX1_group 10 = .ok (.aload_n 0, 1) := by decide +kernel
theorem dX1_group_11 : decode cX1_group 11 = .ok (.getfield 21, 3) := by decide +kernel
theorem dX1_group_14 : decode cX1_group 14 = .ok (.iconst 0, 1) := by decide +kernel
theorem dX1_group_15 : decode cX1_group 15 = .ok (.invokestatic 31, 3) := by decide +kernel
theorem dX1_group_18 : decode cX1_group 18 = .ok (.aload_n 0, 1) := by decide +kernel
theorem dX1_group_19 : decode cX1_group 19 = .ok (.getfield 24, 3) := by decide +kernel
theorem dX1_group_22 : decode cX1_group 22 = .ok (.iconst 0, 1) := by decide +kernel
theorem dX1_group_23 : decode cX1_group 23 = .ok (.invokestatic 31, 3) := by decide +kernel
theorem dX1_group_26 : decode cX1_group 26 = .ok (.aload_n 0, 1) := by decide +kernel
theorem dX1_group_27 : decode cX1_group 27 = .ok (.iconst 0, 1) := by decide +kernel
theorem dX1_group_28 : decode cX1_group 28 = .ok (.iload_n 1, 1) := by decide +kernel
theorem dX1_group_29 : decode cX1_group 29 = .ok (.invokestatic 37, 3) := by decide +kernel
theorem dX1_group_32 : decode cX1_group 32 = .ok (.ifCond .eq 5, 3) := by decide +kernel
theorem dX1_group_35 : decode cX1_group 35 = .ok (.iload_n 1, 1) := by decide +kernel
theorem dX1_group_36 : decode cX1_group 36 = .ok (.ireturn, 1) := by decide +kernel
theorem dX1_group_37 : decode cX1_group 37 = .ok (.iinc 1 1, 3) := by decide +kernel
theorem dX1_group_40 : decode cX1_group 40 = .ok (.goto (-38), 3) := by decide +kernel
theorem dX1_group_43 : decode cX1_group 43 = .ok (.iconst 0, 1) := by decide +kernel
theorem dX1_group_44 : decode cX1_group 44 = .ok (.istore_n 1, 1) := by decide +kernel
theorem dX1_group_45 : decode cX1_group 45 = .ok (.iload_n 1, 1) := by decide +kernel
theorem dX1_group_46 : decode cX1_group 46 = .ok (.aload_n 0, 1) := by decide +kernel
theorem dX1_group_47 : decode cX1_group 47 = .ok (.getfield 27, 3) := by decide +kernel
theorem dX1_group_50 : decode cX1_group 50 = .ok (.if_icmp .ge 16, 3) := by decide +kernel
theorem dX1_group_53 : decode cX1_group 53 = .ok (.aload_n 0, 1) := by decide +kernel
theorem dX1_group_54 : decode cX1_group 54 = .ok (.getfield 18, 3) := by decide +kernel
theorem dX1_group_57 : decode cX1_group 57 = .ok (.iload_n 1, 1) := by decide +kernel
theorem dX1_group_58 : decode cX1_group 58 = .ok (.iload_n 1, 1) := by decide +kernel
theorem dX1_group_59 : decode cX1_group 59 = .ok (.iastore, 1) := by decide +kernel
theorem dX1_group_60 : decode cX1_group 60 = .ok (.iinc 1 1, 3) := by decide +kernel
theorem dX1_group_63 : decode cX1_group 63 = .ok (.goto (-18), 3) := by decide +kernel
theorem dX1_group_66 : decode cX1_group 66 = .ok (.aload_n 0, 1) := by decide +kernel
theorem dX1_group_67 : decode cX1_group 67 = .ok (.getfield 27, 3) := by decide +kernel
theorem dX1_group_70 : decode cX1_group 70 = .ok (.ireturn, 1) := by decide +kernel
theorem dX1_groupOf_0 : decode cX1_groupOf 0 = .ok (.iconst 0, 1) := by decide +kernel
theorem dX1_groupOf_1 : decode cX1_groupOf 1 = .ok (.istore_n 2, 1) := by decide +kernel
theorem dX1_groupOf_2 : decode cX1_groupOf 2 = .ok (.iload_n 2, 1) := by decide +kernel
theorem dX1_groupOf_3 : decode cX1_groupOf 3 = .ok (.aload_n 0, 1) := by decide +kernel
theorem dX1_groupOf_4 : decode cX1_groupOf 4 = .ok (.getfield 27, 3) := by decide +kernel
theorem dX1_groupOf_7 : decode cX1_groupOf 7 = .ok (.if_icmp .ge 29, 3) := by decide +kernel
theorem dX1_groupOf_10 : decode cX1_groupOf 10 = .ok (.aload_n 0, 1) := by decide +kernel
theorem dX1_groupOf_11 : decode cX1_groupOf 11 = .ok (.getfield 11, 3) := by decide +kernel
theorem dX1_groupOf_14 : decode cX1_groupOf 14 = .ok (.iload_n 2, 1) := by decide +kernel
theorem dX1_groupOf_15 : decode cX1_groupOf 15 = .ok (.iaload, 1) := by decide +kernel
theorem dX1_groupOf_16 : decode cX1_groupOf 16 = .ok (.iconst 1, 1) := by decide +kernel
theorem dX1_groupOf_17 : decode cX1_groupOf 17 = .ok (.iload_n 1, 1) := by decide +kernel
theorem dX1_groupOf_18 : decode cX1_groupOf 18 = .ok (.ishl, 1) := by decide +kernel
theorem dX1_groupOf_19 : decode cX1_groupOf 19 = .ok (.iand, 1) := by decide +kernel
theorem dX1_groupOf_20 : decode cX1_groupOf 20 = .ok (.ifCond .eq 10, 3) := by decide +kernel
theorem dX1_groupOf_23 : decode cX1_groupOf 23 = .ok (.aload_n 0, 1) := by decide +kernel
theorem dX1_groupOf_24 : decode cX1_groupOf 24 = .ok (.getfield 18, 3) := by decide +kernel
theorem dX1_groupOf_27 : decode cX1_groupOf 27 = .ok (.iload_n 2, 1) := by decide +kernel
theorem dX1_groupOf_28 : decode cX1_groupOf 28 = .ok (.iaload, 1) := by decide +kernel
theorem dX1_groupOf_29 : decode cX1_groupOf 29 = .ok (.ireturn, 1) := by decide +kernel
theorem dX1_groupOf_30 : decode cX1_groupOf 30 = .ok (.iinc 2 1, 3) := by decide +kernel
theorem dX1_groupOf_33 : decode cX1_groupOf 33 = .ok (.goto (-31), 3) := by decide +kernel
theorem dX1_groupOf_36 : decode cX1_groupOf 36 = .ok (.bipush (-4), 2) := by decide +kernel
theorem dX1_groupOf_38 : decode cX1_groupOf 38 = .ok (.ireturn, 1) := by decide +kernel
theorem dX2_welcome_0 : decode cX2_welcome 0 = .ok (.aload_n 0, 1) := by decide +kernel
theorem dX2_welcome_1 : decode cX2_welcome 1 = .ok (.getfield 9, 3) := by decide +kernel
theorem dX2_welcome_4 : decode cX2_welcome 4 = .ok (.aload_n 0, 1) := by decide +kernel
theorem dX2_welcome_5 : decode cX2_welcome 5 = .ok (.getfield 28, 3) := by decide +kernel
theorem dX2_welcome_8 : decode cX2_welcome 8 = .ok (.iload_n 1, 1) := by decide +kernel
theorem dX2_welcome_9 : decode cX2_welcome 9 = .ok (.bastore, 1) := by decide +kernel
theorem dX2_welcome_10 : decode cX2_welcome 10 = .ok (.aload_n 0, 1) := by decide +kernel
theorem dX2_welcome_11 : decode cX2_welcome 11 = .ok (.getfield 18, 3) := by decide +kernel
theorem dX2_welcome_14 : decode cX2_welcome 14 = .ok (.aload_n 0, 1) := by decide +kernel
theorem dX2_welcome_15 : decode cX2_welcome 15 = .ok (.getfield 28, 3) := by decide +kernel
theorem dX2_welcome_18 : decode cX2_welcome 18 = .ok (.iload_n 2, 1) := by decide +kernel
theorem dX2_welcome_19 : decode cX2_welcome 19 = .ok (.iastore, 1) := by decide +kernel
theorem dX2_welcome_20 : decode cX2_welcome 20 = .ok (.aload_n 0, 1) := by decide +kernel
theorem dX2_welcome_21 : decode cX2_welcome 21 = .ok (.dup, 1) := by decide +kernel
theorem dX2_welcome_22 : decode cX2_welcome 22 = .ok (.getfield 28, 3) := by decide +kernel
theorem dX2_welcome_25 : decode cX2_welcome 25 = .ok (.iconst 1, 1) := by decide +kernel
theorem dX2_welcome_26 : decode cX2_welcome 26 = .ok (.iadd, 1) := by decide +kernel
theorem dX2_welcome_27 : decode cX2_welcome 27 = .ok (.putfield 28, 3) := by decide +kernel
theorem dX2_welcome_30 : decode cX2_welcome 30 = .ok (.aload_n 0, 1) := by decide +kernel
theorem dX2_welcome_31 : decode cX2_welcome 31 = .ok (.getfield 28, 3) := by decide +kernel
theorem dX2_welcome_34 : decode cX2_welcome 34 = .ok (.iconst 1, 1) := by decide +kernel
theorem dX2_welcome_35 : decode cX2_welcome 35 = .ok (.isub, 1) := by decide +kernel
theorem dX2_welcome_36 : decode cX2_welcome 36 = .ok (.ireturn, 1) := by decide +kernel
theorem dX2_isThere_0 : decode cX2_isThere 0 = .ok (.iload_n 1, 1) := by decide +kernel
theorem dX2_isThere_1 : decode cX2_isThere 1 = .ok (.ifCond .lt 15, 3) := by decide +kernel
theorem dX2_isThere_4 : decode cX2_isThere 4 = .ok (.iload_n 1, 1) := by decide +kernel
theorem dX2_isThere_5 : decode cX2_isThere 5 = .ok (.aload_n 0, 1) := by decide +kernel
theorem dX2_isThere_6 : decode cX2_isThere 6 = .ok (.getfield 28, 3) := by decide +kernel
theorem dX2_isThere_9 : decode cX2_isThere 9 = .ok (.if_icmp .ge 7, 3) := by decide +kernel
theorem dX2_isThere_12 : decode cX2_isThere 12 = .ok (.iconst 1, 1) := by decide +kernel
theorem dX2_isThere_13 : decode cX2_isThere 13 = .ok (.goto 4, 3) := by decide +kernel
theorem dX2_isThere_16 : decode cX2_isThere 16 = .ok (.iconst 0, 1) := by decide +kernel
theorem dX2_isThere_17 : decode cX2_isThere 17 = .ok (.ireturn, 1) := by decide +kernel
theorem dX2_isLady_0 : decode cX2_isLady 0 = .ok (.aload_n 0, 1) := by decide +kernel
theorem dX2_isLady_1 : decode cX2_isLady 1 = .ok (.iload_n 1, 1) := by decide +kernel
theorem dX2_isLady_2 : decode cX2_isLady 2 = .ok (.invokevirtual 32, 3) := by decide +kernel
theorem dX2_isLady_5 : decode cX2_isLady 5 = .ok (.ifCond .eq 16, 3) := by decide +kernel
theorem dX2_isLady_8 : decode cX2_isLady 8 = .ok (.aload_n 0, 1) := by decide +kernel
theorem dX2_isLady_9 : decode cX2_isLady 9 = .ok (.getfield 9, 3) := by decide +kernel
theorem dX2_isLady_12 : decode cX2_isLady 12 = .ok (.iload_n 1, 1) := by decide +kernel
theorem dX2_isLady_13 : decode cX2_isLady 13 = .ok (.baload, 1) := by decide +kernel
theorem dX2_isLady_14 : decode cX2_isLady 14 = .ok (.ifCond .eq 7, 3) := by decide +kernel
theorem dX2_isLady_17 : decode cX2_isLady 17 = .ok (.iconst 1, 1) := by decide +kernel
theorem dX2_isLady_18 : decode cX2_isLady 18 = .ok (.goto 4, 3) := by decide +kernel
theorem dX2_isLady_21 : decode cX2_isLady 21 = .ok (.iconst 0, 1) := by decide +kernel
theorem dX2_isLady_22 : decode cX2_isLady 22 = .ok (.ireturn, 1) := by decide +kernel
theorem dX2_isGentleman_0 : decode cX2_isGentleman 0 = .ok (.aload_n 0, 1) := by decide +kernel
theorem dX2_isGentleman_1 : decode cX2_isGentleman 1 = .ok (.iload_n 1, 1) := by decide +kernel
theorem dX2_isGentleman_2 : decode cX2_isGentleman 2 = .ok (.invokevirtual 32, 3) := by decide +kernel
theorem dX2_isGentleman_5 : decode cX2_isGentleman 5 = .ok (.ifCond .eq 16, 3) := by decide +kernel
theorem dX2_isGentleman_8 : decode cX2_isGentleman 8 = .ok (.aload_n 0, 1) := by decide +kernel
theorem dX2_isGentleman_9 : decode cX2_isGentleman 9 = .ok (.getfield 9, 3) := by decide +kernel
theorem dX2_isGentleman_12 : decode cX2_isGentleman 12 = .ok (.iload_n 1, 1) := by decide +kernel
theorem dX2_isGentleman_13 : decode cX2_isGentleman 13 = .ok (.baload, 1) := by decide +kernel
theorem dX2_isGentleman_14 : decode cX2_isGentleman 14 = .ok (.ifCond .ne 7, 3) := by decide +kernel
theorem dX2_isGentleman_17 : decode cX2_isGentleman 17 = .ok (.iconst 1, 1) := by decide +kernel
theorem dX2_isGentleman_18 : decode cX2_isGentleman 18 = .ok (.goto 4, 3) := by decide +kernel
theorem dX2_isGentleman_21 : decode cX2_isGentleman 21 = .ok (.iconst 0, 1) := by decide +kernel
theorem dX2_isGentleman_22 : decode cX2_isGentleman 22 = .ok (.ireturn, 1) := by decide +kernel
theorem dX2_isIll_0 : decode cX2_isIll 0 = .ok (.aload_n 0, 1) := by decide +kernel
theorem dX2_isIll_1 : decode cX2_isIll 1 = .ok (.getfield 15, 3) := by decide +kernel
theorem dX2_isIll_4 : decode cX2_isIll 4 = .ok (.iload_n 1, 1) := by decide +kernel
theorem dX2_isIll_5 : decode cX2_isIll 5 = .ok (.baload, 1) := by decide +kernel
theorem dX2_isIll_6 : decode cX2_isIll 6 = .ok (.ireturn, 1) := by decide +kernel
theorem dX2_makeIll_0 : decode cX2_makeIll 0 = .ok (.aload_n 0, 1) := by decide +kernel
theorem dX2_makeIll_1 : decode cX2_makeIll 1 = .ok (.getfield 15, 3) := by decide +kernel
theorem dX2_makeIll_4 : decode cX2_makeIll 4 = .ok (.iload_n 1, 1) := by decide +kernel
theorem dX2_makeIll_5 : decode cX2_makeIll 5 = .ok (.iload_n 2, 1) := by decide +kernel
theorem dX2_makeIll_6 : decode cX2_makeIll 6 = .ok (.bastore, 1) := by decide +kernel
theorem dX2_makeIll_7 : decode cX2_makeIll 7 = .ok (.return_, 1) := by decide +kernel
theorem dX2_areKnown_0 : decode cX2_areKnown 0 = .ok (.aload_n 0, 1) := by decide +kernel
theorem dX2_areKnown_1 : decode cX2_areKnown 1 = .ok (.getfield 22, 3) := by decide +kernel
theorem dX2_areKnown_4 : decode cX2_areKnown 4 = .ok (.iload_n 1, 1) := by decide +kernel
theorem dX2_areKnown_5 : decode cX2_areKnown 5 = .ok (.iaload, 1) := by decide +kernel
theorem dX2_areKnown_6 : decode cX2_areKnown 6 = .ok (.iconst 1, 1) := by decide +kernel
theorem dX2_areKnown_7 : decode cX2_areKnown 7 = .ok (.iload_n 2, 1) := by decide +kernel
theorem dX2_areKnown_8 : decode cX2_areKnown 8 = .ok (.ishl, 1) := by decide +kernel
theorem dX2_areKnown_9 : decode cX2_areKnown 9 = .ok (.iand, 1) := by decide +kernel
theorem dX2_areKnown_10 : decode cX2_areKnown 10 = .ok (.ifCond .eq 7, 3) := by decide +kernel
theorem dX2_areKnown_13 : decode cX2_areKnown 13 = .ok (.iconst 1, 1) := by decide +kernel
theorem dX2_areKnown_14 : decode cX2_areKnown 14 = .ok (.goto 4, 3) := by decide +kernel
theorem dX2_areKnown_17 : decode cX2_areKnown 17 = .ok (.iconst 0, 1) := by decide +kernel
theorem dX2_areKnown_18 : decode cX2_areKnown 18 = .ok (.ireturn, 1) := by decide +kernel
theorem dX2_makeKnown_0 : decode cX2_makeKnown 0 = .ok (.aload_n 0, 1) := by decide +kernel
theorem dX2_makeKnown_1 : decode cX2_makeKnown 1 = .ok (.getfield 22, 3) := by decide +kernel
theorem dX2_makeKnown_4 : decode cX2_makeKnown 4 = .ok (.iload_n 1, 1) := by decide +kernel
theorem dX2_makeKnown_5 : decode cX2_makeKnown 5 = .ok (.dup2, 1) := by decide +kernel
theorem dX2_makeKnown_6 : decode cX2_makeKnown 6 = .ok (.iaload, 1) := by decide +kernel
theorem dX2_makeKnown_7 : decode cX2_makeKnown 7 = .ok (.iconst 1, 1) := by decide +kernel
theorem dX2_makeKnown_8 : decode cX2_makeKnown 8 = .ok (.iload_n 2, 1) := by decide +kernel
theorem dX2_makeKnown_9 : decode cX2_makeKnown 9 = .ok (.ishl, 1) := by decide +kernel
theorem dX2_makeKnown_10 : decode cX2_makeKnown 10 = .ok (.ior, 1) := by decide +kernel
theorem dX2_makeKnown_11 : decode cX2_makeKnown 11 = .ok (.iastore, 1) := by decide +kernel
theorem dX2_makeKnown_12 : decode cX2_makeKnown 12 = .ok (.aload_n 0, 1) := by decide +kernel
theorem dX2_makeKnown_13 : decode cX2_makeKnown 13 = .ok (.getfield 22, 3) := by decide +kernel
theorem dX2_makeKnown_16 : decode cX2_makeKnown 16 = .ok (.iload_n 2, 1) := by decide +kernel
theorem dX2_makeKnown_17 : decode cX2_makeKnown 17 = .ok (.dup2, 1) := by decide +kernel
theorem dX2_makeKnown_18 : decode cX2_makeKnown 18 = .ok (.iaload, 1) := by decide +kernel
theorem dX2_makeKnown_19 : decode cX2_makeKnown 19 = .ok (.iconst 1, 1) := by decide +kernel
theorem dX2_makeKnown_20 : decode cX2_makeKnown 20 = .ok (.iload_n 1, 1) := by decide +kernel
theorem dX2_makeKnown_21 : decode cX2_makeKnown 21 = .ok (.ishl, 1) := by decide +kernel
theorem dX2_makeKnown_22 : decode cX2_makeKnown 22 = .ok (.ior, 1) := by decide +kernel
theorem dX2_makeKnown_23 : decode cX2_makeKnown 23 = .ok (.iastore, 1) := by decide +kernel
theorem dX2_makeKnown_24 : decode cX2_makeKnown 24 = .ok (.return_, 1) := by decide +kernel
theorem dX2_areAtFeud_0 : decode cX2_areAtFeud 0 = .ok (.aload_n 0, 1) := by decide +kernel
theorem dX2_areAtFeud_1 : decode cX2_areAtFeud 1 = .ok (.getfield 25, 3) := by decide +kernel
theorem dX2_areAtFeud_4 : decode cX2_areAtFeud 4 = .ok (.iload_n 1, 1) := by decide +kernel
theorem dX2_areAtFeud_5 : decode cX2_areAtFeud 5 = .ok (.iaload, 1) := by decide +kernel
theorem dX2_areAtFeud_6 : decode cX2_areAtFeud 6 = .ok (.iconst 1, 1) := by decide +kernel
theorem dX2_areAtFeud_7 : decode cX2_areAtFeud 7 = .ok (.iload_n 2, 1) := by decide +kernel
theorem dX2_areAtFeud_8 : decode cX2_areAtFeud 8 = .ok (.ishl, 1) := by decide +kernel
theorem dX2_areAtFeud_9 : decode cX2_areAtFeud 9 = .ok (.iand, 1) := by decide +kernel
theorem dX2_areAtFeud_10 : decode cX2_areAtFeud 10 = .ok (.ifCond .eq 7, 3) := by decide +kernel
theorem dX2_areAtFeud_13 : decode cX2_areAtFeud 13 = .ok (.iconst 1, 1) := by decide +kernel
theorem dX2_areAtFeud_14 : decode cX2_areAtFeud 14 = .ok (.goto 4, 3) := by decide +kernel
theorem dX2_areAtFeud_17 : decode cX2_areAtFeud 17 = .ok (.iconst 0, 1) := by decide +kernel
theorem dX2_areAtFeud_18 : decode cX2_areAtFeud 18 = .ok (.ireturn, 1) := by decide +kernel
theorem dX2_putAtFeud_0 : decode cX2_putAtFeud 0 = .ok (.aload_n 0, 1) := by decide +kernel
theorem dX2_putAtFeud_1 : decode cX2_putAtFeud 1 = .ok (.getfield 25, 3) := by decide +kernel
theorem dX2_putAtFeud_4 : decode cX2_putAtFeud 4 = .ok (.iload_n 1, 1) := by decide +kernel
theorem dX2_putAtFeud_5 : decode cX2_putAtFeud 5 = .ok (.dup2, 1) := by decide +kernel
theorem dX2_putAtFeud_6 : decode cX2_putAtFeud 6 = .ok (.iaload, 1) := by decide +kernel
theorem dX2_putAtFeud_7 : decode cX2_putAtFeud 7 = .ok (.iconst 1, 1) := by decide +kernel
theorem dX2_putAtFeud_8 : decode cX2_putAtFeud 8 = .ok (.iload_n 2, 1) := by decide +kernel
theorem dX2_putAtFeud_9 : decode cX2_putAtFeud 9 = .ok (.ishl, 1) := by decide +kernel
theorem dX2_putAtFeud_10 : decode cX2_putAtFeud 10 = .ok (.iconst (-1), 1) := by decide +kernel
theorem dX2_putAtFeud_11 : decode cX2_putAtFeud 11 = .ok (.ixor, 1) := by decide +kernel
theorem dX2_putAtFeud_12 : decode cX2_putAtFeud 12 = .ok (.iand, 1) := by decide +kernel
theorem dX2_putAtFeud_13 : decode cX2_putAtFeud 13 = .ok (.iastore, 1) := by decide +kernel
theorem dX2_putAtFeud_14 : decode cX2_putAtFeud 14 = .ok (.aload_n 0, 1) := by decide +kernel
theorem dX2_putAtFeud_15 : decode cX2_putAtFeud 15 = .ok (.getfield 25, 3) := by decide +kernel
theorem dX2_putAtFeud_18 : decode cX2_putAtFeud 18 = .ok (.iload_n 2, 1) := by decide +kernel
theorem dX2_putAtFeud_19 : decode cX2_putAtFeud 19 = .ok (.dup2, 1) := by decide +kernel
theorem dX2_putAtFeud_20 : decode cX2_putAtFeud 20 = .ok (.iaload, 1) := by decide +kernel
theorem dX2_putAtFeud_21 : decode cX2_putAtFeud 21 = .ok (.iconst 1, 1) := by decide +kernel
theorem dX2_putAtFeud_22 : decode cX2_putAtFeud 22 = .ok (.iload_n 1, 1) := by decide +kernel
theorem dX2_putAtFeud_23 : decode cX2_putAtFeud 23 = .ok (.ishl, 1) := by decide +kernel
theorem dX2_putAtFeud_24 : decode cX2_putAtFeud 24 = .ok (.iconst (-1), 1) := by decide +kernel
theorem dX2_putAtFeud_25 : decode cX2_putAtFeud 25 = .ok (.ixor, 1) := by decide +kernel
theorem dX2_putAtFeud_26 : decode cX2_putAtFeud 26 = .ok (.iand, 1) := by decide +kernel
theorem dX2_putAtFeud_27 : decode cX2_putAtFeud 27 = .ok (.iastore, 1) := by decide +kernel
theorem dX2_putAtFeud_28 : decode cX2_putAtFeud 28 = .ok (.iload_n 3, 1) := by decide +kernel
theorem dX2_putAtFeud_29 : decode cX2_putAtFeud 29 = .ok (.ifCond .eq 27, 3) := by decide +kernel
theorem dX2_putAtFeud_32 : decode cX2_putAtFeud 32 = .ok (.aload_n 0, 1) := by decide +kernel
theorem dX2_putAtFeud_33 : decode cX2_putAtFeud 33 = .ok (.getfield 25, 3) := by decide +kernel
theorem dX2_putAtFeud_36 : decode cX2_putAtFeud 36 = .ok (.iload_n 1, 1) := by decide +kernel
theorem dX2_putAtFeud_37 : decode cX2_putAtFeud 37 = .ok (.dup2, 1) := by decide +kernel
theorem dX2_putAtFeud_38 : decode cX2_putAtFeud 38 = .ok (.iaload, 1) := by decide +kernel
theorem dX2_putAtFeud_39 : decode cX2_putAtFeud 39 = .ok (.iconst 1, 1) := by decide +kernel
theorem dX2_putAtFeud_40 : decode cX2_putAtFeud 40 = .ok (.iload_n 2, 1) := by decide +kernel
theorem dX2_putAtFeud_41 : decode cX2_putAtFeud 41 = .ok (.ishl, 1) := by decide +kernel
theorem dX2_putAtFeud_42 : decode cX2_putAtFeud 42 = .ok (.ior, 1) := by decide +kernel
theorem dX2_putAtFeud_43 : decode cX2_putAtFeud 43 = .ok (.iastore, 1) := by decide +kernel
theorem dX2_putAtFeud_44 : decode cX2_putAtFeud 44 = .ok (.aload_n 0, 1) := by decide +kernel
theorem dX2_putAtFeud_45 : decode cX2_putAtFeud 45 = .ok (.getfield 25, 3) := by decide +kernel
theorem dX2_putAtFeud_48 : decode cX2_putAtFeud 48 = .ok (.iload_n 2, 1) := by decide +kernel
theorem dX2_putAtFeud_49 : decode cX2_putAtFeud 49 = .ok (.dup2, 1) := by decide +kernel
theorem dX2_putAtFeud_50 : decode cX2_putAtFeud 50 = .ok (.iaload, 1) := by decide +kernel
theorem dX2_putAtFeud_51 : decode cX2_putAtFeud 51 = .ok (.iconst 1, 1) := by decide +kernel
theorem dX2_putAtFeud_52 : decode cX2_putAtFeud 52 = .ok (.iload_n 1, 1) := by decide +kernel
theorem dX2_putAtFeud_53 : decode cX2_putAtFeud 53 = .ok (.ishl, 1) := by decide +kernel
theorem dX2_putAtFeud_54 : decode cX2_putAtFeud 54 = .ok (.ior, 1) := by decide +kernel
theorem dX2_putAtFeud_55 : decode cX2_putAtFeud 55 = .ok (.iastore, 1) := by decide +kernel
theorem dX2_putAtFeud_56 : decode cX2_putAtFeud 56 = .ok (.return_, 1) := by decide +kernel
theorem dX2_rankGap_0 : decode cX2_rankGap 0 = .ok (.aload_n 0, 1) := by decide +kernel
theorem dX2_rankGap_1 : decode cX2_rankGap 1 = .ok (.getfield 18, 3) := by decide +kernel
theorem dX2_rankGap_4 : decode cX2_rankGap 4 = .ok (.iload_n 1, 1) := by decide +kernel
theorem dX2_rankGap_5 : decode cX2_rankGap 5 = .ok (.iaload, 1) := by decide +kernel
theorem dX2_rankGap_6 : decode cX2_rankGap 6 = .ok (.aload_n 0, 1) := by decide +kernel
theorem dX2_rankGap_7 : decode cX2_rankGap 7 = .ok (.getfield 18, 3) := by decide +kernel
theorem dX2_rankGap_10 : decode cX2_rankGap 10 = .ok (.iload_n 2, 1) := by decide +kernel
theorem dX2_rankGap_11 : decode cX2_rankGap 11 = .ok (.iaload, 1) := by decide +kernel
theorem dX2_rankGap_12 : decode cX2_rankGap 12 = .ok (.isub, 1) := by decide +kernel
theorem dX2_rankGap_13 : decode cX2_rankGap 13 = .ok (.invokestatic 36, 3) := by decide +kernel
theorem dX2_rankGap_16 : decode cX2_rankGap 16 = .ok (.ireturn, 1) := by decide +kernel
theorem dX2_bitsOf_0 : decode cX2_bitsOf 0 = .ok (.iconst 1, 1) := by decide +kernel
theorem dX2_bitsOf_1 : decode cX2_bitsOf 1 = .ok (.iload_n 1, 1) := by decide +kernel
theorem dX2_bitsOf_2 : decode cX2_bitsOf 2 = .ok (.ishl, 1) := by decide +kernel
theorem dX2_bitsOf_3 : decode cX2_bitsOf 3 = .ok (.iconst 1, 1) := by decide +kernel
theorem dX2_bitsOf_4 : decode cX2_bitsOf 4 = .ok (.iload_n 2, 1) := by decide +kernel
theorem dX2_bitsOf_5 : decode cX2_bitsOf 5 = .ok (.ishl, 1) := by decide +kernel
theorem dX2_bitsOf_6 : decode cX2_bitsOf 6 = .ok (.ior, 1) := by decide +kernel
theorem dX2_bitsOf_7 : decode cX2_bitsOf 7 = .ok (.ireturn, 1) := by decide +kernel
theorem dX2_foesOf_0 : decode cX2_foesOf 0 = .ok (.aload_n 0, 1) := by decide +kernel
theorem dX2_foesOf_1 : decode cX2_foesOf 1 = .ok (.getfield 25, 3) := by decide +kernel
theorem dX2_foesOf_4 : decode cX2_foesOf 4 = .ok (.iload_n 1, 1) := by decide +kernel
theorem dX2_foesOf_5 : decode cX2_foesOf 5 = .ok (.iaload, 1) := by decide +kernel
theorem dX2_foesOf_6 : decode cX2_foesOf 6 = .ok (.aload_n 0, 1) := by decide +kernel
theorem dX2_foesOf_7 : decode cX2_foesOf 7 = .ok (.getfield 25, 3) := by decide +kernel
theorem dX2_foesOf_10 : decode cX2_foesOf 10 = .ok (.iload_n 2, 1) := by decide +kernel
theorem dX2_foesOf_11 : decode cX2_foesOf 11 = .ok (.iaload, 1) := by decide +kernel
theorem dX2_foesOf_12 : decode cX2_foesOf 12 = .ok (.ior, 1) := by decide +kernel
theorem dX2_foesOf_13 : decode cX2_foesOf 13 = .ok (.ireturn, 1) := by decide +kernel
theorem dX2_ladies_0 : decode cX2_ladies 0 = .ok (.iconst 0, 1) := by decide +kernel
theorem dX2_ladies_1 : decode cX2_ladies 1 = .ok (.istore_n 1, 1) := by decide +kernel
theorem dX2_ladies_2 : decode cX2_ladies 2 = .ok (.iconst 0, 1) := by decide +kernel
theorem dX2_ladies_3 : decode cX2_ladies 3 = .ok (.istore_n 2, 1) := by decide +kernel
theorem dX2_ladies_4 : decode cX2_ladies 4 = .ok (.iload_n 2, 1) := by decide +kernel
theorem dX2_ladies_5 : decode cX2_ladies 5 = .ok (.aload_n 0, 1) := by decide +kernel
theorem dX2_ladies_6 : decode cX2_ladies 6 = .ok (.getfield 28, 3) := by decide +kernel
theorem dX2_ladies_9 : decode cX2_ladies 9 = .ok (.if_icmp .ge 21, 3) := by decide +kernel
theorem dX2_ladies_12 : decode cX2_ladies 12 = .ok (.iload_n 1, 1) := by decide +kernel
theorem dX2_ladies_13 : decode cX2_ladies 13 = .ok (.aload_n 0, 1) := by decide +kernel
theorem dX2_ladies_14 : decode cX2_ladies 14 = .ok (.getfield 9, 3) := by decide +kernel
theorem dX2_ladies_17 : decode cX2_ladies 17 = .ok (.iload_n 2, 1) := by decide +kernel
theorem dX2_ladies_18 : decode cX2_ladies 18 = .ok (.baload, 1) := by decide +kernel
theorem dX2_ladies_19 : decode cX2_ladies 19 = .ok (.invokestatic 42, 3) := by decide +kernel
theorem dX2_ladies_22 : decode cX2_ladies 22 = .ok (.iadd, 1) := by decide +kernel
theorem dX2_ladies_23 : decode cX2_ladies 23 = .ok (.istore_n 1, 1) := by decide +kernel
theorem dX2_ladies_24 : decode cX2_ladies 24 = .ok (.iinc 2 1, 3) := by decide +kernel
theorem dX2_ladies_27 : decode cX2_ladies 27 = .ok (.goto (-23), 3) := by decide +kernel
theorem dX2_ladies_30 : decode cX2_ladies 30 = .ok (.iload_n 1, 1) := by decide +kernel
theorem dX2_ladies_31 : decode cX2_ladies 31 = .ok (.ireturn, 1) := by decide +kernel
theorem dX2_illOnes_0 : decode cX2_illOnes 0 = .ok (.iconst 0, 1) := by decide +kernel
theorem dX2_illOnes_1 : decode cX2_illOnes 1 = .ok (.istore_n 1, 1) := by decide +kernel
theorem dX2_illOnes_2 : decode cX2_illOnes 2 = .ok (.iconst 0, 1) := by decide +kernel
theorem dX2_illOnes_3 : decode cX2_illOnes 3 = .ok (.istore_n 2, 1) := by decide +kernel
theorem dX2_illOnes_4 : decode cX2_illOnes 4 = .ok (.iload_n 2, 1) := by decide +kernel
theorem dX2_illOnes_5 : decode cX2_illOnes 5 = .ok (.aload_n 0, 1) := by decide +kernel
theorem dX2_illOnes_6 : decode cX2_illOnes 6 = .ok (.getfield 28, 3) := by decide +kernel
theorem dX2_illOnes_9 : decode cX2_illOnes 9 = .ok (.if_icmp .ge 21, 3) := by decide +kernel
theorem dX2_illOnes_12 : decode cX2_illOnes 12 = .ok (.iload_n 1, 1) := by decide +kernel
theorem dX2_illOnes_13 : decode cX2_illOnes 13 = .ok (.aload_n 0, 1) := by decide +kernel
theorem dX2_illOnes_14 : decode cX2_illOnes 14 = .ok (.getfield 15, 3) := by decide +kernel
theorem dX2_illOnes_17 : decode cX2_illOnes 17 = .ok (.iload_n 2, 1) := by decide +kernel
theorem dX2_illOnes_18 : decode cX2_illOnes 18 = .ok (.baload, 1) := by decide +kernel
theorem dX2_illOnes_19 : decode cX2_illOnes 19 = .ok (.invokestatic 42, 3) := by decide +kernel
theorem dX2_illOnes_22 : decode cX2_illOnes 22 = .ok (.iadd, 1) := by decide +kernel
theorem dX2_illOnes_23 : decode cX2_illOnes 23 = .ok (.istore_n 1, 1) := by decide +kernel
theorem dX2_illOnes_24 : decode cX2_illOnes 24 = .ok (.iinc 2 1, 3) := by decide +kernel
theorem dX2_illOnes_27 : decode cX2_illOnes 27 = .ok (.goto (-23), 3) := by decide +kernel
theorem dX2_illOnes_30 : decode cX2_illOnes 30 = .ok (.iload_n 1, 1) := by decide +kernel
theorem dX2_illOnes_31 : decode cX2_illOnes 31 = .ok (.ireturn, 1) := by decide +kernel
theorem dX2_knownPairs_0 : decode cX2_knownPairs 0 = .ok (.iconst 0, 1) := by decide +kernel
theorem dX2_knownPairs_1 : decode cX2_knownPairs 1 = .ok (.istore_n 1, 1) := by decide +kernel
theorem dX2_knownPairs_2 : decode cX2_knownPairs 2 = .ok (.iconst 0, 1) := by decide +kernel
theorem dX2_knownPairs_3 : decode cX2_knownPairs 3 = .ok (.istore_n 2, 1) := by decide +kernel
theorem dX2_knownPairs_4 : decode cX2_knownPairs 4 = .ok (.iload_n 2, 1) := by decide +kernel
theorem dX2_knownPairs_5 : decode cX2_knownPairs 5 = .ok (.aload_n 0, 1) := by decide +kernel
theorem dX2_knownPairs_6 : decode cX2_knownPairs 6 = .ok (.getfield 28, 3) := by decide +kernel
theorem dX2_knownPairs_9 : decode cX2_knownPairs 9 = .ok (.if_icmp .ge 21, 3) := by decide +kernel
theorem dX2_knownPairs_12 : decode cX2_knownPairs 12 = .ok (.iload_n 1, 1) := by decide +kernel
theorem dX2_knownPairs_13 : decode cX2_knownPairs 13 = .ok (.aload_n 0, 1) := by decide +kernel
theorem dX2_knownPairs_14 : decode cX2_knownPairs 14 = .ok (.getfield 22, 3) := by decide +kernel
theorem dX2_knownPairs_17 : decode cX2_knownPairs 17 = .ok (.iload_n 2, 1) := by decide +kernel
theorem dX2_knownPairs_18 : decode cX2_knownPairs 18 = .ok (.iaload, 1) := by decide +kernel
theorem dX2_knownPairs_19 : decode cX2_knownPairs 19 = .ok (.invokestatic 46, 3) := by decide +kernel
theorem dX2_knownPairs_22 : decode cX2_knownPairs 22 = .ok (.iadd, 1) := by decide +kernel
theorem dX2_knownPairs_23 : decode cX2_knownPairs 23 = .ok (.istore_n 1, 1) := by decide +kernel
theorem dX2_knownPairs_24 : decode cX2_knownPairs 24 = .ok (.iinc 2 1, 3) := by decide +kernel
theorem dX2_knownPairs_27 : decode cX2_knownPairs 27 = .ok (.goto (-23), 3) := by decide +kernel
theorem dX2_knownPairs_30 : decode cX2_knownPairs 30 = .ok (.iload_n 1, 1) := by decide +kernel
theorem dX2_knownPairs_31 : decode cX2_knownPairs 31 = .ok (.iconst 2, 1) := by decide +kernel
theorem dX2_knownPairs_32 : decode cX2_knownPairs 32 = .ok (.idiv, 1) := by decide +kernel
theorem dX2_knownPairs_33 : decode cX2_knownPairs 33 = .ok (.ireturn, 1) := by decide +kernel
theorem dX3_forget_0 : decode cX3_forget 0 = .ok (.aload_n 0, 1) := by decide +kernel
theorem dX3_forget_1 : decode cX3_forget 1 = .ok (.getfield 9, 3) := by decide +kernel
theorem dX3_forget_4 : decode cX3_forget 4 = .ok (.iconst 0, 1) := by decide +kernel
theorem dX3_forget_5 : decode cX3_forget 5 = .ok (.invokestatic 21, 3) := by decide +kernel
theorem dX3_forget_8 : decode cX3_forget 8 = .ok (.return_, 1) := by decide +kernel
theorem dX3_allow_0 : decode cX3_allow 0 = .ok (.aload_n 0, 1) := by decide +kernel
theorem dX3_allow_1 : decode cX3_allow 1 = .ok (.getfield 9, 3) := by decide +kernel
theorem dX3_allow_4 : decode cX3_allow 4 = .ok (.iload_n 1, 1) := by decide +kernel
theorem dX3_allow_5 : decode cX3_allow 5 = .ok (.dup2, 1) := by decide +kernel
theorem dX3_allow_6 : decode cX3_allow 6 = .ok (.iaload, 1) := by decide +kernel
theorem dX3_allow_7 : decode cX3_allow 7 = .ok (.iconst 1, 1) := by decide +kernel
theorem dX3_allow_8 : decode cX3_allow 8 = .ok (.iload_n 2, 1) := by decide +kernel
theorem dX3_allow_9 : decode cX3_allow 9 = .ok (.ishl, 1) := by decide +kernel
theorem dX3_allow_10 : decode cX3_allow 10 = .ok (.ior, 1) := by decide +kernel
theorem dX3_allow_11 : decode cX3_allow 11 = .ok (.iastore, 1) := by decide +kernel
theorem dX3_allow_12 : decode cX3_allow 12 = .ok (.return_, 1) := by decide +kernel
theorem dX3_canHold_0 : decode cX3_canHold 0 = .ok (.iload_n 2, 1) := by decide +kernel
theorem dX3_canHold_1 : decode cX3_canHold 1 = .ok (.bipush 16, 2) := by decide +kernel
theorem dX3_canHold_3 : decode cX3_canHold 3 = .ok (.if_icmp .lt 5, 3) := by decide +kernel
theorem dX3_canHold_6 : decode cX3_canHold 6 = .ok (.iconst 0, 1) := by decide +kernel
theorem dX3_canHold_7 : decode cX3_canHold 7 = .ok (.ireturn, 1) := by decide +kernel
theorem dX3_canHold_8 : decode cX3_canHold 8 = .ok (.iconst 0, 1) := by decide +kernel
theorem dX3_canHold_9 : decode cX3_canHold 9 = .ok (.istore_n 3, 1) := by decide +kernel
theorem dX3_canHold_10 : decode cX3_canHold 10 = .ok (.iload_n 3, 1) := by decide +kernel
theorem dX3_canHold_11 : decode cX3_canHold 11 = .ok (.bipush 16, 2) := by decide +kernel
theorem dX3_canHold_13 : decode cX3_canHold 13 = .ok (.if_icmp .ge 80, 3) := by decide +kernel
theorem dX3_canHold_16 : decode cX3_canHold 16 = .ok (.aload_n 0, 1) := by decide +kernel
theorem dX3_canHold_17 : decode cX3_canHold 17 = .ok (.getfield 9, 3) := by decide +kernel
theorem dX3_canHold_20 : decode cX3_canHold 20 = .ok (.iload_n 1, 1) := by decide +kernel
theorem dX3_canHold_21 : decode cX3_canHold 21 = .ok (.iaload, 1) := by decide +kernel
theorem dX3_canHold_22 : decode cX3_canHold 22 = .ok (.aload_n 0, 1) := by decide +kernel
theorem dX3_canHold_23 : decode cX3_canHold 23 = .ok (.getfield 32, 3) := by decide +kernel
theorem dX3_canHold_26 : decode cX3_canHold 26 = .ok (.iand, 1) := by decide +kernel
theorem dX3_canHold_27 : decode cX3_canHold 27 = .ok (.iconst 1, 1) := by decide +kernel
theorem dX3_canHold_28 : decode cX3_canHold 28 = .ok (.iload_n 3, 1) := by decide +kernel
theorem dX3_canHold_29 : decode cX3_canHold 29 = .ok (.ishl, 1) := by decide +kernel
theorem dX3_canHold_30 : decode cX3_canHold 30 = .ok (.iand, 1) := by decide +kernel
theorem dX3_canHold_31 : decode cX3_canHold 31 = .ok (.ifCond .ne 6, 3) := by decide +kernel
theorem dX3_canHold_34 : decode cX3_canHold 34 = .ok (.goto 53, 3) := by decide +kernel
theorem dX3_canHold_37 : decode cX3_canHold 37 = .ok (.aload_n 0, 1) := by decide +kernel
theorem dX3_canHold_38 : decode cX3_canHold 38 = .ok (.dup, 1) := by decide +kernel
theorem dX3_canHold_39 : decode cX3_canHold 39 = .ok (.getfield 32, 3) := by decide +kernel
theorem dX3_canHold_42 : decode cX3_canHold 42 = .ok (.iconst 1, 1) := by decide +kernel
theorem dX3_canHold_43 : decode cX3_canHold 43 = .ok (.iload_n 3, 1) := by decide +kernel
theorem dX3_canHold_44 : decode cX3_canHold 44 = .ok (.ishl, 1) := by decide +kernel
theorem dX3_canHold_45 : decode cX3_canHold 45 = .ok (.iconst (-1), 1) := by decide +kernel
theorem dX3_canHold_46 : decode cX3_canHold 46 = .ok (.ixor, 1) := by decide +kernel
theorem dX3_canHold_47 : decode cX3_canHold 47 = .ok (.iand, 1) := by decide +kernel
theorem dX3_canHold_48 : decode cX3_canHold 48 = .ok (.putfield 32, 3) := by decide +kernel
theorem dX3_canHold_51 : decode cX3_canHold 51 = .ok (.aload_n 0, 1) := by decide +kernel
theorem dX3_canHold_52 : decode cX3_canHold 52 = .ok (.getfield 18, 3) := by decide +kernel
theorem dX3_canHold_55 : decode cX3_canHold 55 = .ok (.iload_n 3, 1) := by decide +kernel
theorem dX3_canHold_56 : decode cX3_canHold 56 = .ok (.iaload, 1) := by decide +kernel
theorem dX3_canHold_57 : decode cX3_canHold 57 = .ok (.istore 4, 2) := by decide +kernel
theorem dX3_canHold_59 : decode cX3_canHold 59 = .ok (.iload 4, 2) := by decide +kernel
theorem dX3_canHold_61 : decode cX3_canHold 61 = .ok (.bipush (-4), 2) := by decide +kernel
theorem dX3_canHold_63 : decode cX3_canHold 63 = .ok (.if_icmp .eq 15, 3) := by decide +kernel
theorem dX3_canHold_66 : decode cX3_canHold 66 = .ok (.aload_n 0, 1) := by decide +kernel
theorem dX3_canHold_67 : decode cX3_canHold 67 = .ok (.iload 4, 2) := by decide +kernel
theorem dX3_canHold_69 : decode cX3_canHold 69 = .ok (.iload_n 2, 1) := by decide +kernel
theorem dX3_canHold_70 : decode cX3_canHold 70 = .ok (.iconst 1, 1) := by decide +kernel
theorem dX3_canHold_71 : decode cX3_canHold 71 = .ok (.iadd, 1) := by decide +kernel
theorem dX3_canHold_72 : decode cX3_canHold 72 = .ok (.invokestatic 36, 3) := by decide +kernel
theorem dX3_canHold_75 : decode cX3_canHold 75 = .ok (.ifCond .eq 12, 3) := by decide +kernel
theorem dX3_canHold_78 : decode cX3_canHold 78 = .ok (.aload_n 0, 1) := by decide +kernel
theorem dX3_canHold_79 : decode cX3_canHold 79 = .ok (.getfield 18, 3) := by decide +kernel
theorem dX3_canHold_82 : decode cX3_canHold 82 = .ok (.iload_n 3, 1) := by decide +kernel
theorem dX3_canHold_83 : decode cX3_canHold 83 = .ok (.iload_n 1, 1) := by decide +kernel
theorem dX3_canHold_84 : decode cX3_canHold 84 = .ok (.iastore, 1) := by decide +kernel
theorem dX3_canHold_85 : decode cX3_canHold 85 = .ok (.iconst 1, 1) := by decide +kernel
theorem dX3_canHold_86 : decode cX3_canHold 86 = .ok (.ireturn, 1) := by decide +kernel
theorem dX3_canHold_87 : decode cX3_canHold 87 = .ok (.iinc 3 1, 3) := by decide +kernel
theorem dX3_canHold_90 : decode cX3_canHold 90 = .ok (.goto (-80), 3) := by decide +kernel
theorem dX3_canHold_93 : decode cX3_canHold 93 = .ok (.iconst 0, 1) := by decide +kernel
theorem dX3_canHold_94 : decode cX3_canHold 94 = .ok (.ireturn, 1) := by decide +kernel
theorem dX3_mostBehind_0 : decode cX3_mostBehind 0 = .ok (.aload_n 0, 1) := by decide +kernel
theorem dX3_mostBehind_1 : decode cX3_mostBehind 1 = .ok (.getfield 18, 3) := by decide +kernel
theorem dX3_mostBehind_4 : decode cX3_mostBehind 4 = .ok (.bipush (-4), 2) := by decide +kernel
theorem dX3_mostBehind_6 : decode cX3_mostBehind 6 = .ok (.invokestatic 21, 3) := by decide +kernel
theorem dX3_mostBehind_9 : decode cX3_mostBehind 9 = .ok (.iconst 0, 1) := by decide +kernel
theorem dX3_mostBehind_10 : decode cX3_mostBehind 10 = .ok (.istore_n 3, 1) := by decide +kernel
theorem dX3_mostBehind_11 : decode cX3_mostBehind 11 = .ok (.iload_n 1, 1) := by decide +kernel
theorem dX3_mostBehind_12 : decode cX3_mostBehind 12 = .ok (.istore 4, 2) := by decide +kernel
theorem dX3_mostBehind_14 : decode cX3_mostBehind 14 = .ok (.iload 4, 2) := by decide +kernel
theorem dX3_mostBehind_16 : decode cX3_mostBehind 16 = .ok (.bipush 16, 2) := by decide +kernel
theorem dX3_mostBehind_18 : decode cX3_mostBehind 18 = .ok (.if_icmp .ge 27, 3) := by decide +kernel
theorem dX3_mostBehind_21 : decode cX3_mostBehind 21 = .ok (.aload_n 0, 1) := by decide +kernel
theorem dX3_mostBehind_22 : decode cX3_mostBehind 22 = .ok (.iload_n 2, 1) := by decide +kernel
theorem dX3_mostBehind_23 : decode cX3_mostBehind 23 = .ok (.putfield 32, 3) := by decide +kernel
theorem dX3_mostBehind_26 : decode cX3_mostBehind 26 = .ok (.aload_n 0, 1) := by decide +kernel
theorem dX3_mostBehind_27 : decode cX3_mostBehind 27 = .ok (.iload 4, 2) := by decide +kernel
theorem dX3_mostBehind_29 : decode cX3_mostBehind 29 = .ok (.iconst 0, 1) := by decide +kernel
theorem dX3_mostBehind_30 : decode cX3_mostBehind 30 = .ok (.invokestatic 36, 3) := by decide +kernel
theorem dX3_mostBehind_33 : decode cX3_mostBehind 33 = .ok (.ifCond .eq 6, 3) := by decide +kernel
theorem dX3_mostBehind_36 : decode cX3_mostBehind 36 = .ok (.iinc 3 1, 3) := by decide +kernel
theorem dX3_mostBehind_39 : decode cX3_mostBehind 39 = .ok (.iinc 4 1, 3) := by decide +kernel
theorem dX3_mostBehind_42 : decode cX3_mostBehind 42 = .ok (.goto (-28), 3) := by decide +kernel
theorem dX3_mostBehind_45 : decode cX3_mostBehind 45 = .ok (.iload_n 3, 1) := by decide +kernel
theorem dX3_mostBehind_46 : decode cX3_mostBehind 46 = .ok (.ireturn, 1) := by decide +kernel
theorem dX3_mostOfAll_0 : decode cX3_mostOfAll 0 = .ok (.aload_n 0, 1) := by decide +kernel
theorem dX3_mostOfAll_1 : decode cX3_mostOfAll 1 = .ok (.iconst 0, 1) := by decide +kernel
theorem dX3_mostOfAll_2 : decode cX3_mostOfAll 2 = .ok (.ldc 27, 2) := by decide +kernel
theorem dX3_mostOfAll_4 : decode cX3_mostOfAll 4 = .ok (.invokevirtual 28, 3) := by decide +kernel
theorem dX3_mostOfAll_7 : decode cX3_mostOfAll 7 = .ok (.ireturn, 1) := by decide +kernel
theorem dX3_leastFor_0 : decode cX3_leastFor 0 = .ok (.iconst 0, 1) := by decide +kernel
theorem dX3_leastFor_1 : decode cX3_leastFor 1 = .ok (.istore 4, 2) := by decide +kernel
theorem dX3_leastFor_3 : decode cX3_leastFor 3 = .ok (.iload 4, 2) := by decide +kernel
theorem dX3_leastFor_5 : decode cX3_leastFor 5 = .ok (.bipush 16, 2) := by decide +kernel
theorem dX3_leastFor_7 : decode cX3_leastFor 7 = .ok (.if_icmp .ge 54, 3) := by decide +kernel
theorem dX3_leastFor_10 : decode cX3_leastFor 10 = .ok (.iconst 1, 1) := by decide +kernel
theorem dX3_leastFor_11 : decode cX3_leastFor 11 = .ok (.iload 4, 2) := by decide +kernel
theorem dX3_leastFor_13 : decode cX3_leastFor 13 = .ok (.ishl, 1) := by decide +kernel
theorem dX3_leastFor_14 : decode cX3_leastFor 14 = .ok (.istore 5, 2) := by decide +kernel
theorem dX3_leastFor_16 : decode cX3_leastFor 16 = .ok (.aload_n 0, 1) := by decide +kernel
theorem dX3_leastFor_17 : decode cX3_leastFor 17 = .ok (.getfield 9, 3) := by decide +kernel
theorem dX3_leastFor_20 : decode cX3_leastFor 20 = .ok (.iload_n 1, 1) := by decide +kernel
theorem dX3_leastFor_21 : decode cX3_leastFor 21 = .ok (.iaload, 1) := by decide +kernel
theorem dX3_leastFor_22 : decode cX3_leastFor 22 = .ok (.iload_n 2, 1) := by decide +kernel
theorem dX3_leastFor_23 : decode cX3_leastFor 23 = .ok (.iand, 1) := by decide +kernel
theorem dX3_leastFor_24 : decode cX3_leastFor 24 = .ok (.iload 5, 2) := by decide +kernel
theorem dX3_leastFor_26 : decode cX3_leastFor 26 = .ok (.iand, 1) := by decide +kernel
theorem dX3_leastFor_27 : decode cX3_leastFor 27 = .ok (.ifCond .ne 6, 3) := by decide +kernel
theorem dX3_leastFor_30 : decode cX3_leastFor 30 = .ok (.goto 25, 3) := by decide +kernel
theorem dX3_leastFor_33 : decode cX3_leastFor 33 = .ok (.iconst 1, 1) := by decide +kernel
theorem dX3_leastFor_34 : decode cX3_leastFor 34 = .ok (.aload_n 0, 1) := by decide +kernel
theorem dX3_leastFor_35 : decode cX3_leastFor 35 = .ok (.iload_n 1, 1) := by decide +kernel
theorem dX3_leastFor_36 : decode cX3_leastFor 36 = .ok (.iconst 1, 1) := by decide +kernel
theorem dX3_leastFor_37 : decode cX3_leastFor 37 = .ok (.iadd, 1) := by decide +kernel
theorem dX3_leastFor_38 : decode cX3_leastFor 38 = .ok (.iload_n 2, 1) := by decide +kernel
theorem dX3_leastFor_39 : decode cX3_leastFor 39 = .ok (.iload 5, 2) := by decide +kernel
theorem dX3_leastFor_41 : decode cX3_leastFor 41 = .ok (.iconst (-1), 1) := by decide +kernel
theorem dX3_leastFor_42 : decode cX3_leastFor 42 = .ok (.ixor, 1) := by decide +kernel
theorem dX3_leastFor_43 : decode cX3_leastFor 43 = .ok (.iand, 1) := by decide +kernel
theorem dX3_leastFor_44 : decode cX3_leastFor 44 = .ok (.invokevirtual 28, 3) := by decide +kernel
theorem dX3_leastFor_47 : decode cX3_leastFor 47 = .ok (.iadd, 1) := by decide +kernel
theorem dX3_leastFor_48 : decode cX3_leastFor 48 = .ok (.iload_n 3, 1) := by decide +kernel
theorem dX3_leastFor_49 : decode cX3_leastFor 49 = .ok (.if_icmp .ne 6, 3) := by decide +kernel
theorem dX3_leastFor_52 : decode cX3_leastFor 52 = .ok (.iload 4, 2) := by decide +kernel
theorem dX3_leastFor_54 : decode cX3_leastFor 54 = .ok (.ireturn, 1) := by decide +kernel
theorem dX3_leastFor_55 : decode cX3_leastFor 55 = .ok (.iinc 4 1, 3) := by decide +kernel
theorem dX3_leastFor_58 : decode cX3_leastFor 58 = .ok (.goto (-55), 3) := by decide +kernel
theorem dX3_leastFor_61 : decode cX3_leastFor 61 = .ok (.bipush (-4), 2) := by decide +kernel
theorem dX3_leastFor_63 : decode cX3_leastFor 63 = .ok (.ireturn, 1) := by decide +kernel
theorem dX3_chooseAll_0 : decode cX3_chooseAll 0 = .ok (.ldc 27, 2) := by decide +kernel
theorem dX3_chooseAll_2 : decode cX3_chooseAll 2 = .ok (.istore_n 1, 1) := by decide +kernel
theorem dX3_chooseAll_3 : decode cX3_chooseAll 3 = .ok (.aload_n 0, 1) := by decide +kernel
theorem dX3_chooseAll_4 : decode cX3_chooseAll 4 = .ok (.invokevirtual 40, 3) := by decide +kernel
theorem dX3_chooseAll_7 : decode cX3_chooseAll 7 = .ok (.istore_n 2, 1) := by decide +kernel
theorem dX3_chooseAll_8 : decode cX3_chooseAll 8 = .ok (.iconst 0, 1) := by decide +kernel
theorem dX3_chooseAll_9 : decode cX3_chooseAll 9 = .ok (.istore_n 3, 1) := by decide +kernel
theorem dX3_chooseAll_10 : decode cX3_chooseAll 10 = .ok (.iload_n 3, 1) := by decide +kernel
theorem dX3_chooseAll_11 : decode cX3_chooseAll 11 = .ok (.bipush 16, 2) := by decide +kernel
theorem dX3_chooseAll_13 : decode cX3_chooseAll 13 = .ok (.if_icmp .ge 52, 3) := by decide +kernel
theorem dX3_chooseAll_16 : decode cX3_chooseAll 16 = .ok (.aload_n 0, 1) := by decide +kernel
theorem dX3_chooseAll_17 : decode cX3_chooseAll 17 = .ok (.getfield 15, 3) := by decide +kernel
theorem dX3_chooseAll_20 : decode cX3_chooseAll 20 = .ok (.iload_n 3, 1) := by decide +kernel
theorem dX3_chooseAll_21 : decode cX3_chooseAll 21 = .ok (.aload_n 0, 1) := by decide +kernel
theorem dX3_chooseAll_22 : decode cX3_chooseAll 22 = .ok (.iload_n 3, 1) := by decide +kernel
theorem dX3_chooseAll_23 : decode cX3_chooseAll 23 = .ok (.iload_n 1, 1) := by decide +kernel
theorem dX3_chooseAll_24 : decode cX3_chooseAll 24 = .ok (.iload_n 2, 1) := by decide +kernel
theorem dX3_chooseAll_25 : decode cX3_chooseAll 25 = .ok (.invokevirtual 44, 3) := by decide +kernel
theorem dX3_chooseAll_28 : decode cX3_chooseAll 28 = .ok (.iastore, 1) := by decide +kernel
theorem dX3_chooseAll_29 : decode cX3_chooseAll 29 = .ok (.aload_n 0, 1) := by decide +kernel
theorem dX3_chooseAll_30 : decode cX3_chooseAll 30 = .ok (.getfield 15, 3) := by decide +kernel
theorem dX3_chooseAll_33 : decode cX3_chooseAll 33 = .ok (.iload_n 3, 1) := by decide +kernel
theorem dX3_chooseAll_34 : decode cX3_chooseAll 34 = .ok (.iaload, 1) := by decide +kernel
theorem dX3_chooseAll_35 : decode cX3_chooseAll 35 = .ok (.bipush (-4), 2) := by decide +kernel
theorem dX3_chooseAll_37 : decode cX3_chooseAll 37 = .ok (.if_icmp .ne 6, 3) := by decide +kernel
theorem dX3_chooseAll_40 : decode cX3_chooseAll 40 = .ok (.goto 19, 3) := by decide +kernel
theorem dX3_chooseAll_43 : decode cX3_chooseAll 43 = .ok (.iload_n 1, 1) := by decide +kernel
theorem dX3_chooseAll_44 : decode cX3_chooseAll 44 = .ok (.iconst 1, 1) := by decide +kernel
theorem dX3_chooseAll_45 : decode cX3_chooseAll 45 = .ok (.aload_n 0, 1) := by decide +kernel
theorem dX3_chooseAll_46 : decode cX3_chooseAll 46 = .ok (.getfield 15, 3) := by decide +kernel
theorem dX3_chooseAll_49 : decode cX3_chooseAll 49 = .ok (.iload_n 3, 1) := by decide +kernel
theorem dX3_chooseAll_50 : decode cX3_chooseAll 50 = .ok (.iaload, 1) := by decide +kernel
theorem dX3_chooseAll_51 : decode cX3_chooseAll 51 = .ok (.ishl, 1) := by decide +kernel
theorem dX3_chooseAll_52 : decode cX3_chooseAll 52 = .ok (.iconst (-1), 1) := by decide +kernel
theorem dX3_chooseAll_53 : decode cX3_chooseAll 53 = .ok (.ixor, 1) := by decide +kernel
theorem dX3_chooseAll_54 : decode cX3_chooseAll 54 = .ok (.iand, 1) := by decide +kernel
theorem dX3_chooseAll_55 : decode cX3_chooseAll 55 = .ok (.istore_n 1, 1) := by decide +kernel
theorem dX3_chooseAll_56 : decode cX3_chooseAll 56 = .ok (.iinc 2 (-1), 3) := by decide +kernel
theorem dX3_chooseAll_59 : decode cX3_chooseAll 59 = .ok (.iinc 3 1, 3) := by decide +kernel
theorem dX3_chooseAll_62 : decode cX3_chooseAll 62 = .ok (.goto (-52), 3) := by decide +kernel
theorem dX3_chooseAll_65 : decode cX3_chooseAll 65 = .ok (.return_, 1) := by decide +kernel
theorem dX4_isSomething_0 : decode cX4_isSomething 0 = .ok (.aload_n 0, 1) := by decide +kernel
theorem dX4_isSomething_1 : decode cX4_isSomething 1 = .ok (.getfield 15, 3) := by decide +kernel
theorem dX4_isSomething_4 : decode cX4_isSomething 4 = .ok (.iload_n 1, 1) := by decide +kernel
theorem dX4_isSomething_5 : decode cX4_isSomething 5 = .ok (.iaload, 1) := by decide +kernel
theorem dX4_isSomething_6 : decode cX4_isSomething 6 = .ok (.bipush (-4), 2) := by decide +kernel
theorem dX4_isSomething_8 : decode cX4_isSomething 8 = .ok (.if_icmp .eq 7, 3) := by decide +kernel
theorem dX4_isSomething_11 : decode cX4_isSomething 11 = .ok (.iconst 1, 1) := by decide +kernel
theorem dX4_isSomething_12 : decode cX4_isSomething 12 = .ok (.goto 4, 3) := by decide +kernel
theorem dX4_isSomething_15 : decode cX4_isSomething 15 = .ok (.iconst 0, 1) := by decide +kernel
theorem dX4_isSomething_16 : decode cX4_isSomething 16 = .ok (.ireturn, 1) := by decide +kernel
theorem dX4_renew_0 : decode cX4_renew 0 = .ok (.aload_n 0, 1) := by decide +kernel
theorem dX4_renew_1 : decode cX4_renew 1 = .ok (.getfield 9, 3) := by decide +kernel
theorem dX4_renew_4 : decode cX4_renew 4 = .ok (.iload_n 1, 1) := by decide +kernel
theorem dX4_renew_5 : decode cX4_renew 5 = .ok (.iload_n 2, 1) := by decide +kernel
theorem dX4_renew_6 : decode cX4_renew 6 = .ok (.iastore, 1) := by decide +kernel
theorem dX4_renew_7 : decode cX4_renew 7 = .ok (.aload_n 0, 1) := by decide +kernel
theorem dX4_renew_8 : decode cX4_renew 8 = .ok (.getfield 15, 3) := by decide +kernel
theorem dX4_renew_11 : decode cX4_renew 11 = .ok (.iload_n 1, 1) := by decide +kernel
theorem dX4_renew_12 : decode cX4_renew 12 = .ok (.iload_n 3, 1) := by decide +kernel
theorem dX4_renew_13 : decode cX4_renew 13 = .ok (.iastore, 1) := by decide +kernel
theorem dX4_renew_14 : decode cX4_renew 14 = .ok (.iconst 0, 1) := by decide +kernel
theorem dX4_renew_15 : decode cX4_renew 15 = .ok (.istore 4, 2) := by decide +kernel
theorem dX4_renew_17 : decode cX4_renew 17 = .ok (.iload 4, 2) := by decide +kernel
theorem dX4_renew_19 : decode cX4_renew 19 = .ok (.bipush 60, 2) := by decide +kernel
theorem dX4_renew_21 : decode cX4_renew 21 = .ok (.if_icmp .ge 22, 3) := by decide +kernel
theorem dX4_renew_24 : decode cX4_renew 24 = .ok (.aload_n 0, 1) := by decide +kernel
theorem dX4_renew_25 : decode cX4_renew 25 = .ok (.getfield 18, 3) := by decide +kernel
theorem dX4_renew_28 : decode cX4_renew 28 = .ok (.iload_n 1, 1) := by decide +kernel
theorem dX4_renew_29 : decode cX4_renew 29 = .ok (.bipush 60, 2) := by decide +kernel
theorem dX4_renew_31 : decode cX4_renew 31 = .ok (.imul, 1) := by decide +kernel
theorem dX4_renew_32 : decode cX4_renew 32 = .ok (.iload 4, 2) := by decide +kernel
theorem dX4_renew_34 : decode cX4_renew 34 = .ok (.iadd, 1) := by decide +kernel
theorem dX4_renew_35 : decode cX4_renew 35 = .ok (.iconst 0, 1) := by decide +kernel
theorem dX4_renew_36 : decode cX4_renew 36 = .ok (.iastore, 1) := by decide +kernel
theorem dX4_renew_37 : decode cX4_renew 37 = .ok (.iinc 4 1, 3) := by decide +kernel
theorem dX4_renew_40 : decode cX4_renew 40 = .ok (.goto (-23), 3) := by decide +kernel
theorem dX4_renew_43 : decode cX4_renew 43 = .ok (.return_, 1) := by decide +kernel
theorem dX4_hasCells_0 : decode cX4_hasCells 0 = .ok (.iload_n 2, 1) := by decide +kernel
theorem dX4_hasCells_1 : decode cX4_hasCells 1 = .ok (.ifCond .lt 19, 3) := by decide +kernel
theorem dX4_hasCells_4 : decode cX4_hasCells 4 = .ok (.iload_n 2, 1) := by decide +kernel
theorem dX4_hasCells_5 : decode cX4_hasCells 5 = .ok (.aload_n 0, 1) := by decide +kernel
theorem dX4_hasCells_6 : decode cX4_hasCells 6 = .ok (.getfield 15, 3) := by decide +kernel
theorem dX4_hasCells_9 : decode cX4_hasCells 9 = .ok (.iload_n 1, 1) := by decide +kernel
theorem dX4_hasCells_10 : decode cX4_hasCells 10 = .ok (.iaload, 1) := by decide +kernel
theorem dX4_hasCells_11 : decode cX4_hasCells 11 = .ok (.iload_n 3, 1) := by decide +kernel
theorem dX4_hasCells_12 : decode cX4_hasCells 12 = .ok (.isub, 1) := by decide +kernel
theorem dX4_hasCells_13 : decode cX4_hasCells 13 = .ok (.if_icmp .gt 7, 3) := by decide +kernel
theorem dX4_hasCells_16 : decode cX4_hasCells 16 = .ok (.iconst 1, 1) := by decide +kernel
theorem dX4_hasCells_17 : decode cX4_hasCells 17 = .ok (.goto 4, 3) := by decide +kernel
theorem dX4_hasCells_20 : decode cX4_hasCells 20 = .ok (.iconst 0, 1) := by decide +kernel
theorem dX4_hasCells_21 : decode cX4_hasCells 21 = .ok (.ireturn, 1) := by decide +kernel
theorem dX4_read_0 : decode cX4_read 0 = .ok (.aload_n 0, 1) := by decide +kernel
theorem dX4_read_1 : decode cX4_read 1 = .ok (.getfield 18, 3) := by decide +kernel
theorem dX4_read_4 : decode cX4_read 4 = .ok (.iload_n 1, 1) := by decide +kernel
theorem dX4_read_5 : decode cX4_read 5 = .ok (.bipush 60, 2) := by decide +kernel
theorem dX4_read_7 : decode cX4_read 7 = .ok (.imul, 1) := by decide +kernel
theorem dX4_read_8 : decode cX4_read 8 = .ok (.iload_n 2, 1) := by decide +kernel
theorem dX4_read_9 : decode cX4_read 9 = .ok (.iadd, 1) := by decide +kernel
theorem dX4_read_10 : decode cX4_read 10 = .ok (.iaload, 1) := by decide +kernel
theorem dX4_read_11 : decode cX4_read 11 = .ok (.ireturn, 1) := by decide +kernel
theorem dX4_lowestBits_0 : decode cX4_lowestBits 0 = .ok (.iload_n 0, 1) := by decide +kernel
theorem dX4_lowestBits_1 : decode cX4_lowestBits 1 = .ok (.lookupswitch 33 #[(0, 27), (1, 30)], 27) := by decide +kernel
theorem dX4_lowestBits_28 : decode cX4_lowestBits 28 = .ok (.iload_n 1, 1) := by decide +kernel
theorem dX4_lowestBits_29 : decode cX4_lowestBits 29 = .ok (.i2b, 1) := by decide +kernel
theorem dX4_lowestBits_30 : decode cX4_lowestBits 30 = .ok (.ireturn, 1) := by decide +kernel
theorem dX4_lowestBits_31 : decode cX4_lowestBits 31 = .ok (.iload_n 1, 1) := by decide +kernel
theorem dX4_lowestBits_32 : decode cX4_lowestBits 32 = .ok (.i2s, 1) := by decide +kernel
theorem dX4_lowestBits_33 : decode cX4_lowestBits 33 = .ok (.ireturn, 1) := by decide +kernel
theorem dX4_lowestBits_34 : decode cX4_lowestBits 34 = .ok (.iload_n 1, 1) := by decide +kernel
theorem dX4_lowestBits_35 : decode cX4_lowestBits 35 = .ok (.ireturn, 1) := by decide +kernel
theorem dX4_write_0 : decode cX4_write 0 = .ok (.aload_n 0, 1) := by decide +kernel
theorem dX4_write_1 : decode cX4_write 1 = .ok (.getfield 18, 3) := by decide +kernel
theorem dX4_write_4 : decode cX4_write 4 = .ok (.iload_n 1, 1) := by decide +kernel
theorem dX4_write_5 : decode cX4_write 5 = .ok (.bipush 60, 2) := by decide +kernel
theorem dX4_write_7 : decode cX4_write 7 = .ok (.imul, 1) := by decide +kernel
theorem dX4_write_8 : decode cX4_write 8 = .ok (.iload_n 2, 1) := by decide +kernel
theorem dX4_write_9 : decode cX4_write 9 = .ok (.iadd, 1) := by decide +kernel
theorem dX4_write_10 : decode cX4_write 10 = .ok (.aload_n 0, 1) := by decide +kernel
theorem dX4_write_11 : decode cX4_write 11 = .ok (.getfield 9, 3) := by decide +kernel
theorem dX4_write_14 : decode cX4_write 14 = .ok (.iload_n 1, 1) := by decide +kernel
theorem dX4_write_15 : decode cX4_write 15 = .ok (.iaload, 1) := by decide +kernel
theorem dX4_write_16 : decode cX4_write 16 = .ok (.iload_n 3, 1) := by decide +kernel
theorem dX4_write_17 : decode cX4_write 17 = .ok (.invokestatic 27, 3) := by decide +kernel
theorem dX4_write_20 : decode cX4_write 20 = .ok (.iastore, 1) := by decide +kernel
theorem dX4_write_21 : decode cX4_write 21 = .ok (.return_, 1) := by decide +kernel
theorem dX5_isTold_0 : decode cX5_isTold 0 = .ok (.aload_n 0, 1) := by decide +kernel
theorem dX5_isTold_1 : decode cX5_isTold 1 = .ok (.getfield 15, 3) := by decide +kernel
theorem dX5_isTold_4 : decode cX5_isTold 4 = .ok (.iload_n 1, 1) := by decide +kernel
theorem dX5_isTold_5 : decode cX5_isTold 5 = .ok (.iaload, 1) := by decide +kernel
theorem dX5_isTold_6 : decode cX5_isTold 6 = .ok (.bipush (-4), 2) := by decide +kernel
theorem dX5_isTold_8 : decode cX5_isTold 8 = .ok (.if_icmp .eq 7, 3) := by decide +kernel
theorem dX5_isTold_11 : decode cX5_isTold 11 = .ok (.iconst 1, 1) := by decide +kernel
theorem dX5_isTold_12 : decode cX5_isTold 12 = .ok (.goto 4, 3) := by decide +kernel
theorem dX5_isTold_15 : decode cX5_isTold 15 = .ok (.iconst 0, 1) := by decide +kernel
theorem dX5_isTold_16 : decode cX5_isTold 16 = .ok (.ireturn, 1) := by decide +kernel
theorem dX5_toldCustoms_0 : decode cX5_toldCustoms 0 = .ok (.iconst 0, 1) := by decide +kernel
theorem dX5_toldCustoms_1 : decode cX5_toldCustoms 1 = .ok (.istore_n 1, 1) := by decide +kernel
theorem dX5_toldCustoms_2 : decode cX5_toldCustoms 2 = .ok (.iconst 0, 1) := by decide +kernel
theorem dX5_toldCustoms_3 : decode cX5_toldCustoms 3 = .ok (.istore_n 2, 1) := by decide +kernel
theorem dX5_toldCustoms_4 : decode cX5_toldCustoms 4 = .ok (.iload_n 2, 1) := by decide +kernel
theorem dX5_toldCustoms_5 : decode cX5_toldCustoms 5 = .ok (.iconst 4, 1) := by decide +kernel
theorem dX5_toldCustoms_6 : decode cX5_toldCustoms 6 = .ok (.if_icmp .ge 20, 3) := by decide +kernel
theorem dX5_toldCustoms_9 : decode cX5_toldCustoms 9 = .ok (.iload_n 1, 1) := by decide +kernel
theorem dX5_toldCustoms_10 : decode cX5_toldCustoms 10 = .ok (.aload_n 0, 1) := by decide +kernel
theorem dX5_toldCustoms_11 : decode cX5_toldCustoms 11 = .ok (.iload_n 2, 1) := by decide +kernel
theorem dX5_toldCustoms_12 : decode cX5_toldCustoms 12 = .ok (.invokevirtual 28, 3) := by decide +kernel
theorem dX5_toldCustoms_15 : decode cX5_toldCustoms 15 = .ok (.invokestatic 32, 3) := by decide +kernel
theorem dX5_toldCustoms_18 : decode cX5_toldCustoms 18 = .ok (.iadd, 1) := by decide +kernel
theorem dX5_toldCustoms_19 : decode cX5_toldCustoms 19 = .ok (.istore_n 1, 1) := by decide +kernel
theorem dX5_toldCustoms_20 : decode cX5_toldCustoms 20 = .ok (.iinc 2 1, 3) := by decide +kernel
theorem dX5_toldCustoms_23 : decode cX5_toldCustoms 23 = .ok (.goto (-19), 3) := by decide +kernel
theorem dX5_toldCustoms_26 : decode cX5_toldCustoms 26 = .ok (.iload_n 1, 1) := by decide +kernel
theorem dX5_toldCustoms_27 : decode cX5_toldCustoms 27 = .ok (.ireturn, 1) := by decide +kernel
theorem dX5_takeEight_0 : decode cX5_takeEight 0 = .ok (.aload_n 0, 1) := by decide +kernel
theorem dX5_takeEight_1 : decode cX5_takeEight 1 = .ok (.getfield 36, 3) := by decide +kernel
theorem dX5_takeEight_4 : decode cX5_takeEight 4 = .ok (.bipush 92, 2) := by decide +kernel
theorem dX5_takeEight_6 : decode cX5_takeEight 6 = .ok (.if_icmp .le 6, 3) := by decide +kernel
theorem dX5_takeEight_9 : decode cX5_takeEight 9 = .ok (.bipush (-3), 2) := by decide +kernel
theorem dX5_takeEight_11 : decode cX5_takeEight 11 = .ok (.ireturn, 1) := by decide +kernel
theorem dX5_takeEight_12 : decode cX5_takeEight 12 = .ok (.iconst 0, 1) := by decide +kernel
theorem dX5_takeEight_13 : decode cX5_takeEight 13 = .ok (.istore_n 3, 1) := by decide +kernel
theorem dX5_takeEight_14 : decode cX5_takeEight 14 = .ok (.iload_n 3, 1) := by decide +kernel
theorem dX5_takeEight_15 : decode cX5_takeEight 15 = .ok (.bipush 8, 2) := by decide +kernel
theorem dX5_takeEight_17 : decode cX5_takeEight 17 = .ok (.if_icmp .ge 31, 3) := by decide +kernel
theorem dX5_takeEight_20 : decode cX5_takeEight 20 = .ok (.aload_n 0, 1) := by decide +kernel
theorem dX5_takeEight_21 : decode cX5_takeEight 21 = .ok (.getfield 11, 3) := by decide +kernel
theorem dX5_takeEight_24 : decode cX5_takeEight 24 = .ok (.aload_n 0, 1) := by decide +kernel
theorem dX5_takeEight_25 : decode cX5_takeEight 25 = .ok (.getfield 36, 3) := by decide +kernel
theorem dX5_takeEight_28 : decode cX5_takeEight 28 = .ok (.iload_n 3, 1) := by decide +kernel
theorem dX5_takeEight_29 : decode cX5_takeEight 29 = .ok (.iadd, 1) := by decide +kernel
theorem dX5_takeEight_30 : decode cX5_takeEight 30 = .ok (.lload_n 1, 1) := by decide +kernel
theorem dX5_takeEight_31 : decode cX5_takeEight 31 = .ok (.bipush 8, 2) := by decide +kernel
theorem dX5_takeEight_33 : decode cX5_takeEight 33 = .ok (.bipush 7, 2) := by decide +kernel
theorem dX5_takeEight_35 : decode cX5_takeEight 35 = .ok (.iload_n 3, 1) := by decide +kernel
theorem dX5_takeEight_36 : decode cX5_takeEight 36 = .ok (.isub, 1) := by decide +kernel
theorem dX5_takeEight_37 : decode cX5_takeEight 37 = .ok (.imul, 1) := by decide +kernel
theorem dX5_takeEight_38 : decode cX5_takeEight 38 = .ok (.lushr, 1) := by decide +kernel
theorem dX5_takeEight_39 : decode cX5_takeEight 39 = .ok (.l2i, 1) := by decide +kernel
theorem dX5_takeEight_40 : decode cX5_takeEight 40 = .ok (.i2b, 1) := by decide +kernel
theorem dX5_takeEight_41 : decode cX5_takeEight 41 = .ok (.bastore, 1) := by decide +kernel
theorem dX5_takeEight_42 : decode cX5_takeEight 42 = .ok (.iinc 3 1, 3) := by decide +kernel
theorem dX5_takeEight_45 : decode cX5_takeEight 45 = .ok (.goto (-31), 3) := by decide +kernel
theorem dX5_takeEight_48 : decode cX5_takeEight 48 = .ok (.aload_n 0, 1) := by decide +kernel
theorem dX5_takeEight_49 : decode cX5_takeEight 49 = .ok (.dup, 1) := by decide +kernel
theorem dX5_takeEight_50 : decode cX5_takeEight 50 = .ok (.getfield 36, 3) := by decide +kernel
theorem dX5_takeEight_53 : decode cX5_takeEight 53 = .ok (.bipush 8, 2) := by decide +kernel
theorem dX5_takeEight_55 : decode cX5_takeEight 55 = .ok (.iadd, 1) := by decide +kernel
theorem dX5_takeEight_56 : decode cX5_takeEight 56 = .ok (.putfield 36, 3) := by decide +kernel
theorem dX5_takeEight_59 : decode cX5_takeEight 59 = .ok (.aload_n 0, 1) := by decide +kernel
theorem dX5_takeEight_60 : decode cX5_takeEight 60 = .ok (.getfield 36, 3) := by decide +kernel
theorem dX5_takeEight_63 : decode cX5_takeEight 63 = .ok (.ireturn, 1) := by decide +kernel
theorem dX7_isWithin_0 : decode cX7_isWithin 0 = .ok (.iload_n 0, 1) := by decide +kernel
theorem dX7_isWithin_1 : decode cX7_isWithin 1 = .ok (.iload_n 1, 1) := by decide +kernel
theorem dX7_isWithin_2 : decode cX7_isWithin 2 = .ok (.if_icmp .lt 12, 3) := by decide +kernel
theorem dX7_isWithin_5 : decode cX7_isWithin 5 = .ok (.iload_n 0, 1) := by decide +kernel
theorem dX7_isWithin_6 : decode cX7_isWithin 6 = .ok (.iload_n 2, 1) := by decide +kernel
theorem dX7_isWithin_7 : decode cX7_isWithin 7 = .ok (.if_icmp .gt 7, 3) := by decide +kernel
theorem dX7_isWithin_10 : decode cX7_isWithin 10 = .ok (.iconst 1, 1) := by decide +kernel
theorem dX7_isWithin_11 : decode cX7_isWithin 11 = .ok (.goto 4, 3) := by decide +kernel
theorem dX7_isWithin_14 : decode cX7_isWithin 14 = .ok (.iconst 0, 1) := by decide +kernel
theorem dX7_isWithin_15 : decode cX7_isWithin 15 = .ok (.ireturn, 1) := by decide +kernel
theorem dX5_keepFirst_0 : decode cX5_keepFirst 0 = .ok (.iload_n 1, 1) := by decide +kernel
theorem dX5_keepFirst_1 : decode cX5_keepFirst 1 = .ok (.iconst 0, 1) := by decide +kernel
theorem dX5_keepFirst_2 : decode cX5_keepFirst 2 = .ok (.aload_n 0, 1) := by decide +kernel
theorem dX5_keepFirst_3 : decode cX5_keepFirst 3 = .ok (.getfield 36, 3) := by decide +kernel
theorem dX5_keepFirst_6 : decode cX5_keepFirst 6 = .ok (.invokestatic 40, 3) := by decide +kernel
theorem dX5_keepFirst_9 : decode cX5_keepFirst 9 = .ok (.ifCond .ne 5, 3) := by decide +kernel
theorem dX5_keepFirst_12 : decode cX5_keepFirst 12 = .ok (.iconst (-1), 1) := by decide +kernel
theorem dX5_keepFirst_13 : decode cX5_keepFirst 13 = .ok (.ireturn, 1) := by decide +kernel
theorem dX5_keepFirst_14 : decode cX5_keepFirst 14 = .ok (.aload_n 0, 1) := by decide +kernel
theorem dX5_keepFirst_15 : decode cX5_keepFirst 15 = .ok (.getfield 36, 3) := by decide +kernel
theorem dX5_keepFirst_18 : decode cX5_keepFirst 18 = .ok (.istore_n 2, 1) := by decide +kernel
theorem dX5_keepFirst_19 : decode cX5_keepFirst 19 = .ok (.aload_n 0, 1) := by decide +kernel
theorem dX5_keepFirst_20 : decode cX5_keepFirst 20 = .ok (.iload_n 1, 1) := by decide +kernel
theorem dX5_keepFirst_21 : decode cX5_keepFirst 21 = .ok (.putfield 36, 3) := by decide +kernel
theorem dX5_keepFirst_24 : decode cX5_keepFirst 24 = .ok (.iload_n 2, 1) := by decide +kernel
theorem dX5_keepFirst_25 : decode cX5_keepFirst 25 = .ok (.ireturn, 1) := by decide +kernel
theorem dX5_isLetter_0 : decode cX5_isLetter 0 = .ok (.aload_n 0, 1) := by decide +kernel
theorem dX5_isLetter_1 : decode cX5_isLetter 1 = .ok (.getfield 11, 3) := by decide +kernel
theorem dX5_isLetter_4 : decode cX5_isLetter 4 = .ok (.iload_n 1, 1) := by decide +kernel
theorem dX5_isLetter_5 : decode cX5_isLetter 5 = .ok (.baload, 1) := by decide +kernel
theorem dX5_isLetter_6 : decode cX5_isLetter 6 = .ok (.bipush 97, 2) := by decide +kernel
theorem dX5_isLetter_8 : decode cX5_isLetter 8 = .ok (.if_icmp .lt 18, 3) := by decide +kernel
theorem dX5_isLetter_11 : decode cX5_isLetter 11 = .ok (.aload_n 0, 1) := by decide +kernel
theorem dX5_isLetter_12 : decode cX5_isLetter 12 = .ok (.getfield 11, 3) := by decide +kernel
theorem dX5_isLetter_15 : decode cX5_isLetter 15 = .ok (.iload_n 1, 1) := by decide +kernel
theorem dX5_isLetter_16 : decode cX5_isLetter 16 = .ok (.baload, 1) := by decide +kernel
theorem dX5_isLetter_17 : decode cX5_isLetter 17 = .ok (.bipush 122, 2) := by decide +kernel
theorem dX5_isLetter_19 : decode cX5_isLetter 19 = .ok (.if_icmp .gt 7, 3) := by decide +kernel
theorem dX5_isLetter_22 : decode cX5_isLetter 22 = .ok (.iconst 1, 1) := by decide +kernel
theorem dX5_isLetter_23 : decode cX5_isLetter 23 = .ok (.goto 4, 3) := by decide +kernel
theorem dX5_isLetter_26 : decode cX5_isLetter 26 = .ok (.iconst 0, 1) := by decide +kernel
theorem dX5_isLetter_27 : decode cX5_isLetter 27 = .ok (.ireturn, 1) := by decide +kernel
theorem dX5_nameOf_0 : decode cX5_nameOf 0 = .ok (.iload_n 0, 1) := by decide +kernel
theorem dX5_nameOf_1 : decode cX5_nameOf 1 = .ok (.tableswitch 36 0 2 #[27, 30, 33], 27) := by decide +kernel
theorem dX5_nameOf_28 : decode cX5_nameOf 28 = .ok (.ldc 116, 2) := by decide +kernel
theorem dX5_nameOf_30 : decode cX5_nameOf 30 = .ok (.areturn, 1) := by decide +kernel
theorem dX5_nameOf_31 : decode cX5_nameOf 31 = .ok (.ldc 118, 2) := by decide +kernel
theorem dX5_nameOf_33 : decode cX5_nameOf 33 = .ok (.areturn, 1) := by decide +kernel
theorem dX5_nameOf_34 : decode cX5_nameOf 34 = .ok (.ldc 120, 2) := by decide +kernel
theorem dX5_nameOf_36 : decode cX5_nameOf 36 = .ok (.areturn, 1) := by decide +kernel
theorem dX5_nameOf_37 : decode cX5_nameOf 37 = .ok (.ldc 122, 2) := by decide +kernel
theorem dX5_nameOf_39 : decode cX5_nameOf 39 = .ok (.areturn, 1) := by decide +kernel
theorem dJ0_coder_7d493_0 : decode cJ0_coder_7d493 0 = .ok (.getstatic 38, 3) := by decide +kernel
theorem dJ0_coder_7d493_3 : decode cJ0_coder_7d493 3 = .ok (.ifCond .eq 10, 3) := by decide +kernel
theorem dJ0_coder_7d493_6 : decode cJ0_coder_7d493 6 = .ok (.aload_n 0, 1) := by decide +kernel
theorem dJ0_coder_7d493_7 : decode cJ0_coder_7d493 7 = .ok (.getfield 15, 3) := by decide +kernel
theorem dJ0_coder_7d493_10 : decode cJ0_coder_7d493 10 = .ok (.goto 4, 3) := by decide +kernel
theorem dJ0_coder_7d493_13 : decode cJ0_coder_7d493 13 = .ok (.iconst 1, 1) := by decide +kernel
theorem dJ0_coder_7d493_14 : decode cJ0_coder_7d493 14 = .ok (.ireturn, 1) := by decide +kernel
theorem dJ0_length_8abf5_0 : decode cJ0_length_8abf5 0 = .ok (.aload_n 0, 1) := by decide +kernel
theorem dJ0_length_8abf5_1 : decode cJ0_length_8abf5 1 = .ok (.getfield 9, 3) := by decide +kernel
theorem dJ0_length_8abf5_4 : decode cJ0_length_8abf5 4 = .ok (.arraylength, 1) := by decide +kernel
theorem dJ0_length_8abf5_5 : decode cJ0_length_8abf5 5 = .ok (.aload_n 0, 1) := by decide +kernel
theorem dJ0_length_8abf5_6 : decode cJ0_length_8abf5 6 = .ok (.invokevirtual 335, 3) := by decide +kernel
theorem dJ0_length_8abf5_9 : decode cJ0_length_8abf5 9 = .ok (.ishr, 1) := by decide +kernel
theorem dJ0_length_8abf5_10 : decode cJ0_length_8abf5 10 = .ok (.ireturn, 1) := by decide +kernel
theorem dJ0_isLatin1_aae02_0 : decode cJ0_isLatin1_aae02 0 = .ok (.getstatic 38, 3) := by decide +kernel
theorem dJ0_isLatin1_aae02_3 : decode cJ0_isLatin1_aae02 3 = .ok (.ifCond .eq 14, 3) := by decide +kernel
theorem dJ0_isLatin1_aae02_6 : decode cJ0_isLatin1_aae02 6 = .ok (.aload_n 0, 1) := by decide +kernel
theorem dJ0_isLatin1_aae02_7 : decode cJ0_isLatin1_aae02 7 = .ok (.getfield 15, 3) := by decide +kernel
theorem dJ0_isLatin1_aae02_10 : decode cJ0_isLatin1_aae02 10 = .ok (.ifCond .ne 7, 3) := by decide +kernel
theorem dJ0_isLatin1_aae02_13 : decode cJ0_isLatin1_aae02 13 = .ok (.iconst 1, 1) := by decide +kernel
theorem dJ0_isLatin1_aae02_14 : decode cJ0_isLatin1_aae02 14 = .ok (.goto 4, 3) := by decide +kernel
theorem dJ0_isLatin1_aae02_17 : decode cJ0_isLatin1_aae02 17 = .ok (.iconst 0, 1) := by decide +kernel
theorem dJ0_isLatin1_aae02_18 : decode cJ0_isLatin1_aae02 18 = .ok (.ireturn, 1) := by decide +kernel
theorem dJ3_checkIndex_8e157_0 : decode cJ3_checkIndex_8e157 0 = .ok (.iload_n 0, 1) := by decide +kernel
theorem dJ3_checkIndex_8e157_1 : decode cJ3_checkIndex_8e157 1 = .ok (.ifCond .lt 8, 3) := by decide +kernel
theorem dJ3_checkIndex_8e157_4 : decode cJ3_checkIndex_8e157 4 = .ok (.iload_n 0, 1) := by decide +kernel
theorem dJ3_checkIndex_8e157_5 : decode cJ3_checkIndex_8e157 5 = .ok (.iload_n 1, 1) := by decide +kernel
theorem dJ3_checkIndex_8e157_6 : decode cJ3_checkIndex_8e157 6 = .ok (.if_icmp .lt 10, 3) := by decide +kernel
theorem dJ3_checkIndex_8e157_9 : decode cJ3_checkIndex_8e157 9 = .ok (.aload_n 2, 1) := by decide +kernel
theorem dJ3_checkIndex_8e157_10 : decode cJ3_checkIndex_8e157 10 = .ok (.iload_n 0, 1) := by decide +kernel
theorem dJ3_checkIndex_8e157_11 : decode cJ3_checkIndex_8e157 11 = .ok (.iload_n 1, 1) := by decide +kernel
theorem dJ3_checkIndex_8e157_12 : decode cJ3_checkIndex_8e157 12 = .ok (.invokestatic 95, 3) := by decide +kernel
theorem dJ3_checkIndex_8e157_15 : decode cJ3_checkIndex_8e157 15 = .ok (.athrow, 1) := by decide +kernel
theorem dJ3_checkIndex_8e157_16 : decode cJ3_checkIndex_8e157 16 = .ok (.iload_n 0, 1) := by decide +kernel
theorem dJ3_checkIndex_8e157_17 : decode cJ3_checkIndex_8e157 17 = .ok (.ireturn, 1) := by decide +kernel
theorem dJ0_checkIndex_df160_0 : decode cJ0_checkIndex_df160 0 = .ok (.iload_n 0, 1) := by decide +kernel
theorem dJ0_checkIndex_df160_1 : decode cJ0_checkIndex_df160 1 = .ok (.iload_n 1, 1) := by decide +kernel
theorem dJ0_checkIndex_df160_2 : decode cJ0_checkIndex_df160 2 = .ok (.getstatic 1053, 3) := by decide +kernel
theorem dJ0_checkIndex_df160_5 : decode cJ0_checkIndex_df160 5 = .ok (.invokestatic 1059, 3) := by decide +kernel
theorem dJ0_checkIndex_df160_8 : decode cJ0_checkIndex_df160 8 = .ok (.pop, 1) := by decide +kernel
theorem dJ0_checkIndex_df160_9 : decode cJ0_checkIndex_df160 9 = .ok (.return_, 1) := by decide +kernel
theorem dJ1_charAt_3b067_0 : decode cJ1_charAt_3b067 0 = .ok (.iload_n 1, 1) := by decide +kernel
theorem dJ1_charAt_3b067_1 : decode cJ1_charAt_3b067 1 = .ok (.aload_n 0, 1) := by decide +kernel
theorem dJ1_charAt_3b067_2 : decode cJ1_charAt_3b067 2 = .ok (.arraylength, 1) := by decide +kernel
theorem dJ1_charAt_3b067_3 : decode cJ1_charAt_3b067 3 = .ok (.invokestatic 9, 3) := by decide +kernel
theorem dJ1_charAt_3b067_6 : decode cJ1_charAt_3b067 6 = .ok (.aload_n 0, 1) := by decide +kernel
theorem dJ1_charAt_3b067_7 : decode cJ1_charAt_3b067 7 = .ok (.iload_n 1, 1) := by decide +kernel
theorem dJ1_charAt_3b067_8 : decode cJ1_charAt_3b067 8 = .ok (.baload, 1) := by decide +kernel
theorem dJ1_charAt_3b067_9 : decode cJ1_charAt_3b067 9 = .ok (.sipush 255, 3) := by decide +kernel
theorem dJ1_charAt_3b067_12 : decode cJ1_charAt_3b067 12 = .ok (.iand, 1) := by decide +kernel
theorem dJ1_charAt_3b067_13 : decode cJ1_charAt_3b067 13 = .ok (.i2c, 1) := by decide +kernel
theorem dJ1_charAt_3b067_14 : decode cJ1_charAt_3b067 14 = .ok (.ireturn, 1) := by decide +kernel
theorem dJ0_charAt_5068e_0 : decode cJ0_charAt_5068e 0 = .ok (.aload_n 0, 1) := by decide +kernel
theorem dJ0_charAt_5068e_1 : decode cJ0_charAt_5068e 1 = .ok (.invokevirtual 492, 3) := by decide +kernel
theorem dJ0_charAt_5068e_4 : decode cJ0_charAt_5068e 4 = .ok (.ifCond .eq 12, 3) := by decide +kernel
theorem dJ0_charAt_5068e_7 : decode cJ0_charAt_5068e 7 = .ok (.aload_n 0, 1) := by decide +kernel
theorem dJ0_charAt_5068e_8 : decode cJ0_charAt_5068e 8 = .ok (.getfield 9, 3) := by decide +kernel
theorem dJ0_charAt_5068e_11 : decode cJ0_charAt_5068e 11 = .ok (.iload_n 1, 1) := by decide +kernel
theorem dJ0_charAt_5068e_12 : decode cJ0_charAt_5068e 12 = .ok (.invokestatic 495, 3) := by decide +kernel
theorem dJ0_charAt_5068e_15 : decode cJ0_charAt_5068e 15 = .ok (.ireturn, 1) := by decide +kernel
theorem dJ0_charAt_5068e_16 : decode cJ0_charAt_5068e 16 = .ok (.aload_n 0, 1) := by decide +kernel
theorem dJ0_charAt_5068e_17 : decode cJ0_charAt_5068e 17 = .ok (.getfield 9, 3) := by decide +kernel
theorem dJ0_charAt_5068e_20 : decode cJ0_charAt_5068e 20 = .ok (.iload_n 1, 1) := by decide +kernel
theorem dJ0_charAt_5068e_21 : decode cJ0_charAt_5068e 21 = .ok (.invokestatic 498, 3) := by decide +kernel
theorem dJ0_charAt_5068e_24 : decode cJ0_charAt_5068e 24 = .ok (.ireturn, 1) := by decide +kernel
theorem dX5_isTokenText_0 : decode cX5_isTokenText 0 = .ok (.aload_n 0, 1) := by decide +kernel
theorem dX5_isTokenText_1 : decode cX5_isTokenText 1 = .ok (.getfield 44, 3) := by decide +kernel
theorem dX5_isTokenText_4 : decode cX5_isTokenText 4 = .ok (.aload_n 0, 1) := by decide +kernel
theorem dX5_isTokenText_5 : decode cX5_isTokenText 5 = .ok (.getfield 54, 3) := by decide +kernel
theorem dX5_isTokenText_8 : decode cX5_isTokenText 8 = .ok (.isub, 1) := by decide +kernel
theorem dX5_isTokenText_9 : decode cX5_isTokenText 9 = .ok (.aload_n 1, 1) := by decide +kernel
theorem dX5_isTokenText_10 : decode cX5_isTokenText 10 = .ok (.invokevirtual 108, 3) := by decide +kernel
theorem dX5_isTokenText_13 : decode cX5_isTokenText 13 = .ok (.if_icmp .eq 5, 3) := by decide +kernel
theorem dX5_isTokenText_16 : decode cX5_isTokenText 16 = .ok (.iconst 0, 1) := by decide +kernel
theorem dX5_isTokenText_17 : decode cX5_isTokenText 17 = .ok (.ireturn, 1) := by decide +kernel
theorem dX5_isTokenText_18 : decode cX5_isTokenText 18 = .ok (.iconst 0, 1) := by decide +kernel
theorem dX5_isTokenText_19 : decode cX5_isTokenText 19 = .ok (.istore_n 2, 1) := by decide +kernel
theorem dX5_isTokenText_20 : decode cX5_isTokenText 20 = .ok (.iload_n 2, 1) := by decide +kernel
theorem dX5_isTokenText_21 : decode cX5_isTokenText 21 = .ok (.aload_n 1, 1) := by decide +kernel
theorem dX5_isTokenText_22 : decode cX5_isTokenText 22 = .ok (.invokevirtual 108, 3) := by decide +kernel
theorem dX5_isTokenText_25 : decode cX5_isTokenText 25 = .ok (.if_icmp .ge 30, 3) := by decide +kernel
theorem dX5_isTokenText_28 : decode cX5_isTokenText 28 = .ok (.aload_n 0, 1) := by decide +kernel
theorem dX5_isTokenText_29 : decode cX5_isTokenText 29 = .ok (.getfield 11, 3) := by decide +kernel
theorem dX5_isTokenText_32 : decode cX5_isTokenText 32 = .ok (.aload_n 0, 1) := by decide +kernel
theorem dX5_isTokenText_33 : decode cX5_isTokenText 33 = .ok (.getfield 54, 3) := by decide +kernel
theorem dX5_isTokenText_36 : decode cX5_isTokenText 36 = .ok (.iload_n 2, 1) := by decide +kernel
theorem dX5_isTokenText_37 : decode cX5_isTokenText 37 = .ok (.iadd, 1) := by decide +kernel
theorem dX5_isTokenText_38 : decode cX5_isTokenText 38 = .ok (.baload, 1) := by decide +kernel
theorem dX5_isTokenText_39 : decode cX5_isTokenText 39 = .ok (.aload_n 1, 1) := by decide +kernel
theorem dX5_isTokenText_40 : decode cX5_isTokenText 40 = .ok (.iload_n 2, 1) := by decide +kernel
theorem dX5_isTokenText_41 : decode cX5_isTokenText 41 = .ok (.invokevirtual 112, 3) := by decide +kernel
theorem dX5_isTokenText_44 : decode cX5_isTokenText 44 = .ok (.if_icmp .eq 5, 3) := by decide +kernel
theorem dX5_isTokenText_47 : decode cX5_isTokenText 47 = .ok (.iconst 0, 1) := by decide +kernel
theorem dX5_isTokenText_48 : decode cX5_isTokenText 48 = .ok (.ireturn, 1) := by decide +kernel
theorem dX5_isTokenText_49 : decode cX5_isTokenText 49 = .ok (.iinc 2 1, 3) := by decide +kernel
theorem dX5_isTokenText_52 : decode cX5_isTokenText 52 = .ok (.goto (-32), 3) := by decide +kernel
theorem dX5_isTokenText_55 : decode cX5_isTokenText 55 = .ok (.iconst 1, 1) := by decide +kernel
theorem dX5_isTokenText_56 : decode cX5_isTokenText 56 = .ok (.ireturn, 1) := by decide +kernel
theorem dX5_readName_0 : decode cX5_readName 0 = .ok (.aload_n 0, 1) := by decide +kernel
theorem dX5_readName_1 : decode cX5_readName 1 = .ok (.getfield 44, 3) := by decide +kernel
theorem dX5_readName_4 : decode cX5_readName 4 = .ok (.aload_n 0, 1) := by decide +kernel
theorem dX5_readName_5 : decode cX5_readName 5 = .ok (.getfield 36, 3) := by decide +kernel
theorem dX5_readName_8 : decode cX5_readName 8 = .ok (.if_icmp .ge 27, 3) := by decide +kernel
theorem dX5_readName_11 : decode cX5_readName 11 = .ok (.aload_n 0, 1) := by decide +kernel
theorem dX5_readName_12 : decode cX5_readName 12 = .ok (.aload_n 0, 1) := by decide +kernel
theorem dX5_readName_13 : decode cX5_readName 13 = .ok (.getfield 44, 3) := by decide +kernel
theorem dX5_readName_16 : decode cX5_readName 16 = .ok (.invokevirtual 88, 3) := by decide +kernel
theorem dX5_readName_19 : decode cX5_readName 19 = .ok (.ifCond .eq 16, 3) := by decide +kernel
theorem dX5_readName_22 : decode cX5_readName 22 = .ok (.aload_n 0, 1) := by decide +kernel
theorem dX5_readName_23 : decode cX5_readName 23 = .ok (.dup, 1) := by decide +kernel
theorem dX5_readName_24 : decode cX5_readName 24 = .ok (.getfield 44, 3) := by decide +kernel
theorem dX5_readName_27 : decode cX5_readName 27 = .ok (.iconst 1, 1) := by decide +kernel
theorem dX5_readName_28 : decode cX5_readName 28 = .ok (.iadd, 1) := by decide +kernel
theorem dX5_readName_29 : decode cX5_readName 29 = .ok (.putfield 44, 3) := by decide +kernel
theorem dX5_readName_32 : decode cX5_readName 32 = .ok (.goto (-32), 3) := by decide +kernel
theorem dX5_readName_35 : decode cX5_readName 35 = .ok (.aload_n 0, 1) := by decide +kernel
theorem dX5_readName_36 : decode cX5_readName 36 = .ok (.bipush (-4), 2) := by decide +kernel
theorem dX5_readName_38 : decode cX5_readName 38 = .ok (.putfield 79, 3) := by decide +kernel
theorem dX5_readName_41 : decode cX5_readName 41 = .ok (.iconst 0, 1) := by decide +kernel
theorem dX5_readName_42 : decode cX5_readName 42 = .ok (.istore_n 1, 1) := by decide +kernel
theorem dX5_readName_43 : decode cX5_readName 43 = .ok (.iload_n 1, 1) := by decide +kernel
theorem dX5_readName_44 : decode cX5_readName 44 = .ok (.iconst 4, 1) := by decide +kernel
theorem dX5_readName_45 : decode cX5_readName 45 = .ok (.if_icmp .ge 25, 3) := by decide +kernel
theorem dX5_readName_48 : decode cX5_readName 48 = .ok (.aload_n 0, 1) := by decide +kernel
theorem dX5_readName_49 : decode cX5_readName 49 = .ok (.iload_n 1, 1) := by decide +kernel
theorem dX5_readName_50 : decode cX5_readName 50 = .ok (.invokestatic 100, 3) := by decide +kernel
theorem dX5_readName_53 : decode cX5_readName 53 = .ok (.invokevirtual 104, 3) := by decide +kernel
theorem dX5_readName_56 : decode cX5_readName 56 = .ok (.ifCond .eq 8, 3) := by decide +kernel
theorem dX5_readName_59 : decode cX5_readName 59 = .ok (.aload_n 0, 1) := by decide +kernel
theorem dX5_readName_60 : decode cX5_readName 60 = .ok (.iload_n 1, 1) := by decide +kernel
theorem dX5_readName_61 : decode cX5_readName 61 = .ok (.putfield 79, 3) := by decide +kernel
theorem dX5_readName_64 : decode cX5_readName 64 = .ok (.iinc 1 1, 3) := by decide +kernel
theorem dX5_readName_67 : decode cX5_readName 67 = .ok (.goto (-24), 3) := by decide +kernel
theorem dX5_readName_70 : decode cX5_readName 70 = .ok (.aload_n 0, 1) := by decide +kernel
theorem dX5_readName_71 : decode cX5_readName 71 = .ok (.aload_n 0, 1) := by decide +kernel
theorem dX5_readName_72 : decode cX5_readName 72 = .ok (.getfield 79, 3) := by decide +kernel
theorem dX5_readName_75 : decode cX5_readName 75 = .ok (.bipush (-4), 2) := by decide +kernel
theorem dX5_readName_77 : decode cX5_readName 77 = .ok (.if_icmp .ne 7, 3) := by decide +kernel
theorem dX5_readName_80 : decode cX5_readName 80 = .ok (.iconst 4, 1) := by decide +kernel
theorem dX5_readName_81 : decode cX5_readName 81 = .ok (.goto 4, 3) := by decide +kernel
theorem dX5_readName_84 : decode cX5_readName 84 = .ok (.iconst 1, 1) := by decide +kernel
theorem dX5_readName_85 : decode cX5_readName 85 = .ok (.putfield 69, 3) := by decide +kernel
theorem dX5_readName_88 : decode cX5_readName 88 = .ok (.return_, 1) := by decide +kernel
theorem dX5_isFigure_0 : decode cX5_isFigure 0 = .ok (.aload_n 0, 1) := by decide +kernel
theorem dX5_isFigure_1 : decode cX5_isFigure 1 = .ok (.getfield 11, 3) := by decide +kernel
theorem dX5_isFigure_4 : decode cX5_isFigure 4 = .ok (.iload_n 1, 1) := by decide +kernel
theorem dX5_isFigure_5 : decode cX5_isFigure 5 = .ok (.baload, 1) := by decide +kernel
theorem dX5_isFigure_6 : decode cX5_isFigure 6 = .ok (.bipush 48, 2) := by decide +kernel
theorem dX5_isFigure_8 : decode cX5_isFigure 8 = .ok (.if_icmp .lt 18, 3) := by decide +kernel
theorem dX5_isFigure_11 : decode cX5_isFigure 11 = .ok (.aload_n 0, 1) := by decide +kernel
theorem dX5_isFigure_12 : decode cX5_isFigure 12 = .ok (.getfield 11, 3) := by decide +kernel
theorem dX5_isFigure_15 : decode cX5_isFigure 15 = .ok (.iload_n 1, 1) := by decide +kernel
theorem dX5_isFigure_16 : decode cX5_isFigure 16 = .ok (.baload, 1) := by decide +kernel
theorem dX5_isFigure_17 : decode cX5_isFigure 17 = .ok (.bipush 57, 2) := by decide +kernel
theorem dX5_isFigure_19 : decode cX5_isFigure 19 = .ok (.if_icmp .gt 7, 3) := by decide +kernel
theorem dX5_isFigure_22 : decode cX5_isFigure 22 = .ok (.iconst 1, 1) := by decide +kernel
theorem dX5_isFigure_23 : decode cX5_isFigure 23 = .ok (.goto 4, 3) := by decide +kernel
theorem dX5_isFigure_26 : decode cX5_isFigure 26 = .ok (.iconst 0, 1) := by decide +kernel
theorem dX5_isFigure_27 : decode cX5_isFigure 27 = .ok (.ireturn, 1) := by decide +kernel
theorem dX5_readNumber_0 : decode cX5_readNumber 0 = .ok (.aload_n 0, 1) := by decide +kernel
theorem dX5_readNumber_1 : decode cX5_readNumber 1 = .ok (.iconst 0, 1) := by decide +kernel
theorem dX5_readNumber_2 : decode cX5_readNumber 2 = .ok (.putfield 79, 3) := by decide +kernel
theorem dX5_readNumber_5 : decode cX5_readNumber 5 = .ok (.aload_n 0, 1) := by decide +kernel
theorem dX5_readNumber_6 : decode cX5_readNumber 6 = .ok (.getfield 44, 3) := by decide +kernel
theorem dX5_readNumber_9 : decode cX5_readNumber 9 = .ok (.aload_n 0, 1) := by decide +kernel
theorem dX5_readNumber_10 : decode cX5_readNumber 10 = .ok (.getfield 36, 3) := by decide +kernel
theorem dX5_readNumber_13 : decode cX5_readNumber 13 = .ok (.if_icmp .ge 51, 3) := by decide +kernel
theorem dX5_readNumber_16 : decode cX5_readNumber 16 = .ok (.aload_n 0, 1) := by decide +kernel
theorem dX5_readNumber_17 : decode cX5_readNumber 17 = .ok (.aload_n 0, 1) := by decide +kernel
theorem dX5_readNumber_18 : decode cX5_readNumber 18 = .ok (.getfield 44, 3) := by decide +kernel
theorem dX5_readNumber_21 : decode cX5_readNumber 21 = .ok (.invokevirtual 94, 3) := by decide +kernel
theorem dX5_readNumber_24 : decode cX5_readNumber 24 = .ok (.ifCond .eq 40, 3) := by decide +kernel
theorem dX5_readNumber_27 : decode cX5_readNumber 27 = .ok (.aload_n 0, 1) := by decide +kernel
theorem dX5_readNumber_28 : decode cX5_readNumber 28 = .ok (.bipush 10, 2) := by decide +kernel
theorem dX5_readNumber_30 : decode cX5_readNumber 30 = .ok (.aload_n 0, 1) := by decide +kernel
theorem dX5_readNumber_31 : decode cX5_readNumber 31 = .ok (.getfield 79, 3) := by decide +kernel
theorem dX5_readNumber_34 : decode cX5_readNumber 34 = .ok (.imul, 1) := by decide +kernel
theorem dX5_readNumber_35 : decode cX5_readNumber 35 = .ok (.aload_n 0, 1) := by decide +kernel
theorem dX5_readNumber_36 : decode cX5_readNumber 36 = .ok (.getfield 11, 3) := by decide +kernel
theorem dX5_readNumber_39 : decode cX5_readNumber 39 = .ok (.aload_n 0, 1) := by decide +kernel
theorem dX5_readNumber_40 : decode cX5_readNumber 40 = .ok (.getfield 44, 3) := by decide +kernel
theorem dX5_readNumber_43 : decode cX5_readNumber 43 = .ok (.baload, 1) := by decide +kernel
theorem dX5_readNumber_44 : decode cX5_readNumber 44 = .ok (.iadd, 1) := by decide +kernel
theorem dX5_readNumber_45 : decode cX5_readNumber 45 = .ok (.bipush 48, 2) := by decide +kernel
theorem dX5_readNumber_47 : decode cX5_readNumber 47 = .ok (.isub, 1) := by decide +kernel
theorem dX5_readNumber_48 : decode cX5_readNumber 48 = .ok (.putfield 79, 3) := by decide +kernel
theorem dX5_readNumber_51 : decode cX5_readNumber 51 = .ok (.aload_n 0, 1) := by decide +kernel
theorem dX5_readNumber_52 : decode cX5_readNumber 52 = .ok (.dup, 1) := by decide +kernel
theorem dX5_readNumber_53 : decode cX5_readNumber 53 = .ok (.getfield 44, 3) := by decide +kernel
theorem dX5_readNumber_56 : decode cX5_readNumber 56 = .ok (.iconst 1, 1) := by decide +kernel
theorem dX5_readNumber_57 : decode cX5_readNumber 57 = .ok (.iadd, 1) := by decide +kernel
theorem dX5_readNumber_58 : decode cX5_readNumber 58 = .ok (.putfield 44, 3) := by decide +kernel
theorem dX5_readNumber_61 : decode cX5_readNumber 61 = .ok (.goto (-56), 3) := by decide +kernel
theorem dX5_readNumber_64 : decode cX5_readNumber 64 = .ok (.aload_n 0, 1) := by decide +kernel
theorem dX5_readNumber_65 : decode cX5_readNumber 65 = .ok (.aload_n 0, 1) := by decide +kernel
theorem dX5_readNumber_66 : decode cX5_readNumber 66 = .ok (.getfield 44, 3) := by decide +kernel
theorem dX5_readNumber_69 : decode cX5_readNumber 69 = .ok (.aload_n 0, 1) := by decide +kernel
theorem dX5_readNumber_70 : decode cX5_readNumber 70 = .ok (.getfield 54, 3) := by decide +kernel
theorem dX5_readNumber_73 : decode cX5_readNumber 73 = .ok (.isub, 1) := by decide +kernel
theorem dX5_readNumber_74 : decode cX5_readNumber 74 = .ok (.iconst 3, 1) := by decide +kernel
theorem dX5_readNumber_75 : decode cX5_readNumber 75 = .ok (.if_icmp .le 7, 3) := by decide +kernel
theorem dX5_readNumber_78 : decode cX5_readNumber 78 = .ok (.iconst 4, 1) := by decide +kernel
theorem dX5_readNumber_79 : decode cX5_readNumber 79 = .ok (.goto 4, 3) := by decide +kernel
theorem dX5_readNumber_82 : decode cX5_readNumber 82 = .ok (.iconst 2, 1) := by decide +kernel
theorem dX5_readNumber_83 : decode cX5_readNumber 83 = .ok (.putfield 69, 3) := by decide +kernel
theorem dX5_readNumber_86 : decode cX5_readNumber 86 = .ok (.return_, 1) := by decide +kernel
theorem dX5_readToken_0 : decode cX5_readToken 0 = .ok (.aload_n 0, 1) := by decide +kernel
theorem dX5_readToken_1 : decode cX5_readToken 1 = .ok (.getfield 44, 3) := by decide +kernel
theorem dX5_readToken_4 : decode cX5_readToken 4 = .ok (.aload_n 0, 1) := by decide +kernel
theorem dX5_readToken_5 : decode cX5_readToken 5 = .ok (.getfield 36, 3) := by decide +kernel
theorem dX5_readToken_8 : decode cX5_readToken 8 = .ok (.if_icmp .ge 30, 3) := by decide +kernel
theorem dX5_readToken_11 : decode cX5_readToken 11 = .ok (.aload_n 0, 1) := by decide +kernel
theorem dX5_readToken_12 : decode cX5_readToken 12 = .ok (.getfield 11, 3) := by decide +kernel
theorem dX5_readToken_15 : decode cX5_readToken 15 = .ok (.aload_n 0, 1) := by decide +kernel
theorem dX5_readToken_16 : decode cX5_readToken 16 = .ok (.getfield 44, 3) := by decide +kernel
theorem dX5_readToken_19 : decode cX5_readToken 19 = .ok (.baload, 1) := by decide +kernel
theorem dX5_readToken_20 : decode cX5_readToken 20 = .ok (.bipush 32, 2) := by decide +kernel
theorem dX5_readToken_22 : decode cX5_readToken 22 = .ok (.if_icmp .ne 16, 3) := by decide +kernel
theorem dX5_readToken_25 : decode cX5_readToken 25 = .ok (.aload_n 0, 1) := by decide +kernel
theorem dX5_readToken_26 : decode cX5_readToken 26 = .ok (.dup, 1) := by decide +kernel
theorem dX5_readToken_27 : decode cX5_readToken 27 = .ok (.getfield 44, 3) := by decide +kernel
theorem dX5_readToken_30 : decode cX5_readToken 30 = .ok (.iconst 1, 1) := by decide +kernel
theorem dX5_readToken_31 : decode cX5_readToken 31 = .ok (.iadd, 1) := by decide +kernel
theorem dX5_readToken_32 : decode cX5_readToken 32 = .ok (.putfield 44, 3) := by decide +kernel
theorem dX5_readToken_35 : decode cX5_readToken 35 = .ok (.goto (-35), 3) := by decide +kernel
theorem dX5_readToken_38 : decode cX5_readToken 38 = .ok (.aload_n 0, 1) := by decide +kernel
theorem dX5_readToken_39 : decode cX5_readToken 39 = .ok (.aload_n 0, 1) := by decide +kernel
theorem dX5_readToken_40 : decode cX5_readToken 40 = .ok (.getfield 44, 3) := by decide +kernel
theorem dX5_readToken_43 : decode cX5_readToken 43 = .ok (.putfield 54, 3) := by decide +kernel
theorem dX5_readToken_46 : decode cX5_readToken 46 = .ok (.aload_n 0, 1) := by decide +kernel
theorem dX5_readToken_47 : decode cX5_readToken 47 = .ok (.getfield 44, 3) := by decide +kernel
theorem dX5_readToken_50 : decode cX5_readToken 50 = .ok (.aload_n 0, 1) := by decide +kernel
theorem dX5_readToken_51 : decode cX5_readToken 51 = .ok (.getfield 36, 3) := by decide +kernel
theorem dX5_readToken_54 : decode cX5_readToken 54 = .ok (.if_icmp .lt 11, 3) := by decide +kernel
theorem dX5_readToken_57 : decode cX5_readToken 57 = .ok (.aload_n 0, 1) := by decide +kernel
theorem dX5_readToken_58 : decode cX5_readToken 58 = .ok (.iconst 0, 1) := by decide +kernel
theorem dX5_readToken_59 : decode cX5_readToken 59 = .ok (.putfield 69, 3) := by decide +kernel
theorem dX5_readToken_62 : decode cX5_readToken 62 = .ok (.goto 72, 3) := by decide +kernel
theorem dX5_readToken_65 : decode cX5_readToken 65 = .ok (.aload_n 0, 1) := by decide +kernel
theorem dX5_readToken_66 : decode cX5_readToken 66 = .ok (.aload_n 0, 1) := by decide +kernel
theorem dX5_readToken_67 : decode cX5_readToken 67 = .ok (.getfield 44, 3) := by decide +kernel
theorem dX5_readToken_70 : decode cX5_readToken 70 = .ok (.invokevirtual 88, 3) := by decide +kernel
theorem dX5_readToken_73 : decode cX5_readToken 73 = .ok (.ifCond .eq 10, 3) := by decide +kernel
theorem dX5_readToken_76 : decode cX5_readToken 76 = .ok (.aload_n 0, 1) := by decide +kernel
theorem dX5_readToken_77 : decode cX5_readToken 77 = .ok (.invokevirtual 91, 3) := by decide +kernel
theorem dX5_readToken_80 : decode cX5_readToken 80 = .ok (.goto 54, 3) := by decide +kernel
theorem dX5_readToken_83 : decode cX5_readToken 83 = .ok (.aload_n 0, 1) := by decide +kernel
theorem dX5_readToken_84 : decode cX5_readToken 84 = .ok (.aload_n 0, 1) := by decide +kernel
theorem dX5_readToken_85 : decode cX5_readToken 85 = .ok (.getfield 44, 3) := by decide +kernel
theorem dX5_readToken_88 : decode cX5_readToken 88 = .ok (.invokevirtual 94, 3) := by decide +kernel
theorem dX5_readToken_91 : decode cX5_readToken 91 = .ok (.ifCond .eq 10, 3) := by decide +kernel
theorem dX5_readToken_94 : decode cX5_readToken 94 = .ok (.aload_n 0, 1) := by decide +kernel
theorem dX5_readToken_95 : decode cX5_readToken 95 = .ok (.invokevirtual 97, 3) := by decide +kernel
theorem dX5_readToken_98 : decode cX5_readToken 98 = .ok (.goto 36, 3) := by decide +kernel
theorem dX5_readToken_101 : decode cX5_readToken 101 = .ok (.aload_n 0, 1) := by decide +kernel
theorem dX5_readToken_102 : decode cX5_readToken 102 = .ok (.aload_n 0, 1) := by decide +kernel
theorem dX5_readToken_103 : decode cX5_readToken 103 = .ok (.getfield 11, 3) := by decide +kernel
theorem dX5_readToken_106 : decode cX5_readToken 106 = .ok (.aload_n 0, 1) := by decide +kernel
theorem dX5_readToken_107 : decode cX5_readToken 107 = .ok (.getfield 44, 3) := by decide +kernel
theorem dX5_readToken_110 : decode cX5_readToken 110 = .ok (.baload, 1) := by decide +kernel
theorem dX5_readToken_111 : decode cX5_readToken 111 = .ok (.bipush 59, 2) := by decide +kernel
theorem dX5_readToken_113 : decode cX5_readToken 113 = .ok (.if_icmp .ne 7, 3) := by decide +kernel
theorem dX5_readToken_116 : decode cX5_readToken 116 = .ok (.iconst 3, 1) := by decide +kernel
theorem dX5_readToken_117 : decode cX5_readToken 117 = .ok (.goto 4, 3) := by decide +kernel
theorem dX5_readToken_120 : decode cX5_readToken 120 = .ok (.iconst 4, 1) := by decide +kernel
theorem dX5_readToken_121 : decode cX5_readToken 121 = .ok (.putfield 69, 3) := by decide +kernel
theorem dX5_readToken_124 : decode cX5_readToken 124 = .ok (.aload_n 0, 1) := by decide +kernel
theorem dX5_readToken_125 : decode cX5_readToken 125 = .ok (.dup, 1) := by decide +kernel
theorem dX5_readToken_126 : decode cX5_readToken 126 = .ok (.getfield 44, 3) := by decide +kernel
theorem dX5_readToken_129 : decode cX5_readToken 129 = .ok (.iconst 1, 1) := by decide +kernel
theorem dX5_readToken_130 : decode cX5_readToken 130 = .ok (.iadd, 1) := by decide +kernel
theorem dX5_readToken_131 : decode cX5_readToken 131 = .ok (.putfield 44, 3) := by decide +kernel
theorem dX5_readToken_134 : decode cX5_readToken 134 = .ok (.return_, 1) := by decide +kernel
theorem dX5_faultUnless_0 : decode cX5_faultUnless 0 = .ok (.aload_n 0, 1) := by decide +kernel
theorem dX5_faultUnless_1 : decode cX5_faultUnless 1 = .ok (.getfield 69, 3) := by decide +kernel
theorem dX5_faultUnless_4 : decode cX5_faultUnless 4 = .ok (.iconst 4, 1) := by decide +kernel
theorem dX5_faultUnless_5 : decode cX5_faultUnless 5 = .ok (.if_icmp .ne 5, 3) := by decide +kernel
theorem dX5_faultUnless_8 : decode cX5_faultUnless 8 = .ok (.iconst 1, 1) := by decide +kernel
theorem dX5_faultUnless_9 : decode cX5_faultUnless 9 = .ok (.ireturn, 1) := by decide +kernel
theorem dX5_faultUnless_10 : decode cX5_faultUnless 10 = .ok (.aload_n 0, 1) := by decide +kernel
theorem dX5_faultUnless_11 : decode cX5_faultUnless 11 = .ok (.getfield 69, 3) := by decide +kernel
theorem dX5_faultUnless_14 : decode cX5_faultUnless 14 = .ok (.iload_n 1, 1) := by decide +kernel
theorem dX5_faultUnless_15 : decode cX5_faultUnless 15 = .ok (.if_icmp .ne 7, 3) := by decide +kernel
theorem dX5_faultUnless_18 : decode cX5_faultUnless 18 = .ok (.iconst 0, 1) := by decide +kernel
theorem dX5_faultUnless_19 : decode cX5_faultUnless 19 = .ok (.goto 4, 3) := by decide +kernel
theorem dX5_faultUnless_22 : decode cX5_faultUnless 22 = .ok (.iconst 2, 1) := by decide +kernel
theorem dX5_faultUnless_23 : decode cX5_faultUnless 23 = .ok (.ireturn, 1) := by decide +kernel
theorem dX5_readCustom_0 : decode cX5_readCustom 0 = .ok (.aload_n 0, 1) := by decide +kernel
theorem dX5_readCustom_1 : decode cX5_readCustom 1 = .ok (.iconst 1, 1) := by decide +kernel
theorem dX5_readCustom_2 : decode cX5_readCustom 2 = .ok (.invokevirtual 75, 3) := by decide +kernel
theorem dX5_readCustom_5 : decode cX5_readCustom 5 = .ok (.istore_n 1, 1) := by decide +kernel
theorem dX5_readCustom_6 : decode cX5_readCustom 6 = .ok (.iload_n 1, 1) := by decide +kernel
theorem dX5_readCustom_7 : decode cX5_readCustom 7 = .ok (.ifCond .eq 5, 3) := by decide +kernel
theorem dX5_readCustom_10 : decode cX5_readCustom 10 = .ok (.iload_n 1, 1) := by decide +kernel
theorem dX5_readCustom_11 : decode cX5_readCustom 11 = .ok (.ireturn, 1) := by decide +kernel
theorem dX5_readCustom_12 : decode cX5_readCustom 12 = .ok (.aload_n 0, 1) := by decide +kernel
theorem dX5_readCustom_13 : decode cX5_readCustom 13 = .ok (.getfield 79, 3) := by decide +kernel
theorem dX5_readCustom_16 : decode cX5_readCustom 16 = .ok (.istore_n 2, 1) := by decide +kernel
theorem dX5_readCustom_17 : decode cX5_readCustom 17 = .ok (.aload_n 0, 1) := by decide +kernel
theorem dX5_readCustom_18 : decode cX5_readCustom 18 = .ok (.getfield 19, 3) := by decide +kernel
theorem dX5_readCustom_21 : decode cX5_readCustom 21 = .ok (.iload_n 2, 1) := by decide +kernel
theorem dX5_readCustom_22 : decode cX5_readCustom 22 = .ok (.iaload, 1) := by decide +kernel
theorem dX5_readCustom_23 : decode cX5_readCustom 23 = .ok (.bipush (-4), 2) := by decide +kernel
theorem dX5_readCustom_25 : decode cX5_readCustom 25 = .ok (.if_icmp .eq 5, 3) := by decide +kernel
theorem dX5_readCustom_28 : decode cX5_readCustom 28 = .ok (.iconst 4, 1) := by decide +kernel
theorem dX5_readCustom_29 : decode cX5_readCustom 29 = .ok (.ireturn, 1) := by decide +kernel
theorem dX5_readCustom_30 : decode cX5_readCustom 30 = .ok (.aload_n 0, 1) := by decide +kernel
theorem dX5_readCustom_31 : decode cX5_readCustom 31 = .ok (.invokevirtual 66, 3) := by decide +kernel
theorem dX5_readCustom_34 : decode cX5_readCustom 34 = .ok (.aload_n 0, 1) := by decide +kernel
theorem dX5_readCustom_35 : decode cX5_readCustom 35 = .ok (.iconst 2, 1) := by decide +kernel
theorem dX5_readCustom_36 : decode cX5_readCustom 36 = .ok (.invokevirtual 75, 3) := by decide +kernel
theorem dX5_readCustom_39 : decode cX5_readCustom 39 = .ok (.istore_n 1, 1) := by decide +kernel
theorem dX5_readCustom_40 : decode cX5_readCustom 40 = .ok (.iload_n 1, 1) := by decide +kernel
theorem dX5_readCustom_41 : decode cX5_readCustom 41 = .ok (.ifCond .eq 5, 3) := by decide +kernel
theorem dX5_readCustom_44 : decode cX5_readCustom 44 = .ok (.iload_n 1, 1) := by decide +kernel
theorem dX5_readCustom_45 : decode cX5_readCustom 45 = .ok (.ireturn, 1) := by decide +kernel
theorem dX5_readCustom_46 : decode cX5_readCustom 46 = .ok (.aload_n 0, 1) := by decide +kernel
theorem dX5_readCustom_47 : decode cX5_readCustom 47 = .ok (.getfield 79, 3) := by decide +kernel
theorem dX5_readCustom_50 : decode cX5_readCustom 50 = .ok (.getstatic 82, 3) := by decide +kernel
theorem dX5_readCustom_53 : decode cX5_readCustom 53 = .ok (.iload_n 2, 1) := by decide +kernel
theorem dX5_readCustom_54 : decode cX5_readCustom 54 = .ok (.iaload, 1) := by decide +kernel
theorem dX5_readCustom_55 : decode cX5_readCustom 55 = .ok (.getstatic 85, 3) := by decide +kernel
theorem dX5_readCustom_58 : decode cX5_readCustom 58 = .ok (.iload_n 2, 1) := by decide +kernel
theorem dX5_readCustom_59 : decode cX5_readCustom 59 = .ok (.iaload, 1) := by decide +kernel
theorem dX5_readCustom_60 : decode cX5_readCustom 60 = .ok (.invokestatic 40, 3) := by decide +kernel
theorem dX5_readCustom_63 : decode cX5_readCustom 63 = .ok (.ifCond .ne 5, 3) := by decide +kernel
theorem dX5_readCustom_66 : decode cX5_readCustom 66 = .ok (.iconst 3, 1) := by decide +kernel
theorem dX5_readCustom_67 : decode cX5_readCustom 67 = .ok (.ireturn, 1) := by decide +kernel
theorem dX5_readCustom_68 : decode cX5_readCustom 68 = .ok (.aload_n 0, 1) := by decide +kernel
theorem dX5_readCustom_69 : decode cX5_readCustom 69 = .ok (.getfield 19, 3) := by decide +kernel
theorem dX5_readCustom_72 : decode cX5_readCustom 72 = .ok (.iload_n 2, 1) := by decide +kernel
theorem dX5_readCustom_73 : decode cX5_readCustom 73 = .ok (.aload_n 0, 1) := by decide +kernel
theorem dX5_readCustom_74 : decode cX5_readCustom 74 = .ok (.getfield 79, 3) := by decide +kernel
theorem dX5_readCustom_77 : decode cX5_readCustom 77 = .ok (.iastore, 1) := by decide +kernel
theorem dX5_readCustom_78 : decode cX5_readCustom 78 = .ok (.aload_n 0, 1) := by decide +kernel
theorem dX5_readCustom_79 : decode cX5_readCustom 79 = .ok (.invokevirtual 66, 3) := by decide +kernel
theorem dX5_readCustom_82 : decode cX5_readCustom 82 = .ok (.aload_n 0, 1) := by decide +kernel
