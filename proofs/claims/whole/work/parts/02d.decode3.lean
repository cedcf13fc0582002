theorem dX8_introduce_87 : decode cX8_introduce 87 = .ok (.bipush 16, 2) := by decide +kernel
theorem dX8_introduce_89 : decode cX8_introduce 89 = .ok (.iload_n 3, 1) := by decide +kernel
theorem dX8_introduce_90 : decode cX8_introduce 90 = .ok (.imul, 1) := by decide +kernel
theorem dX8_introduce_91 : decode cX8_introduce 91 = .ok (.iload_n 2, 1) := by decide +kernel
theorem dX8_introduce_92 : decode cX8_introduce 92 = .ok (.iadd, 1) := by decide +kernel
theorem dX8_introduce_93 : decode cX8_introduce 93 = .ok (.iconst 1, 1) := by decide +kernel
theorem dX8_introduce_94 : decode cX8_introduce 94 = .ok (.bastore, 1) := by decide +kernel
theorem dX8_introduce_95 : decode cX8_introduce 95 = .ok (.iconst 1, 1) := by decide +kernel
theorem dX8_introduce_96 : decode cX8_introduce 96 = .ok (.ireturn, 1) := by decide +kernel
theorem dX8_feud_0 : decode cX8_feud 0 = .ok (.aload_n 0, 1) := by decide +kernel
theorem dX8_feud_1 : decode cX8_feud 1 = .ok (.iload_n 1, 1) := by decide +kernel
theorem dX8_feud_2 : decode cX8_feud 2 = .ok (.iload_n 2, 1) := by decide +kernel
theorem dX8_feud_3 : decode cX8_feud 3 = .ok (.invokevirtual 88, 3) := by decide +kernel
theorem dX8_feud_6 : decode cX8_feud 6 = .ok (.ifCond .ne 5, 3) := by decide +kernel
theorem dX8_feud_9 : decode cX8_feud 9 = .ok (.iconst (-1), 1) := by decide +kernel
theorem dX8_feud_10 : decode cX8_feud 10 = .ok (.ireturn, 1) := by decide +kernel
theorem dX8_feud_11 : decode cX8_feud 11 = .ok (.aload_n 0, 1) := by decide +kernel
theorem dX8_feud_12 : decode cX8_feud 12 = .ok (.getfield 23, 3) := by decide +kernel
theorem dX8_feud_15 : decode cX8_feud 15 = .ok (.bipush 16, 2) := by decide +kernel
theorem dX8_feud_17 : decode cX8_feud 17 = .ok (.iload_n 1, 1) := by decide +kernel
theorem dX8_feud_18 : decode cX8_feud 18 = .ok (.imul, 1) := by decide +kernel
theorem dX8_feud_19 : decode cX8_feud 19 = .ok (.iload_n 2, 1) := by decide +kernel
theorem dX8_feud_20 : decode cX8_feud 20 = .ok (.iadd, 1) := by decide +kernel
theorem dX8_feud_21 : decode cX8_feud 21 = .ok (.baload, 1) := by decide +kernel
theorem dX8_feud_22 : decode cX8_feud 22 = .ok (.ifCond .eq 7, 3) := by decide +kernel
theorem dX8_feud_25 : decode cX8_feud 25 = .ok (.iconst 1, 1) := by decide +kernel
theorem dX8_feud_26 : decode cX8_feud 26 = .ok (.goto 4, 3) := by decide +kernel
theorem dX8_feud_29 : decode cX8_feud 29 = .ok (.iconst 0, 1) := by decide +kernel
theorem dX8_feud_30 : decode cX8_feud 30 = .ok (.istore 4, 2) := by decide +kernel
theorem dX8_feud_32 : decode cX8_feud 32 = .ok (.aload_n 0, 1) := by decide +kernel
theorem dX8_feud_33 : decode cX8_feud 33 = .ok (.getfield 23, 3) := by decide +kernel
theorem dX8_feud_36 : decode cX8_feud 36 = .ok (.bipush 16, 2) := by decide +kernel
theorem dX8_feud_38 : decode cX8_feud 38 = .ok (.iload_n 1, 1) := by decide +kernel
theorem dX8_feud_39 : decode cX8_feud 39 = .ok (.imul, 1) := by decide +kernel
theorem dX8_feud_40 : decode cX8_feud 40 = .ok (.iload_n 2, 1) := by decide +kernel
theorem dX8_feud_41 : decode cX8_feud 41 = .ok (.iadd, 1) := by decide +kernel
theorem dX8_feud_42 : decode cX8_feud 42 = .ok (.iload_n 3, 1) := by decide +kernel
theorem dX8_feud_43 : decode cX8_feud 43 = .ok (.bastore, 1) := by decide +kernel
theorem dX8_feud_44 : decode cX8_feud 44 = .ok (.aload_n 0, 1) := by decide +kernel
theorem dX8_feud_45 : decode cX8_feud 45 = .ok (.getfield 23, 3) := by decide +kernel
theorem dX8_feud_48 : decode cX8_feud 48 = .ok (.bipush 16, 2) := by decide +kernel
theorem dX8_feud_50 : decode cX8_feud 50 = .ok (.iload_n 2, 1) := by decide +kernel
theorem dX8_feud_51 : decode cX8_feud 51 = .ok (.imul, 1) := by decide +kernel
theorem dX8_feud_52 : decode cX8_feud 52 = .ok (.iload_n 1, 1) := by decide +kernel
theorem dX8_feud_53 : decode cX8_feud 53 = .ok (.iadd, 1) := by decide +kernel
theorem dX8_feud_54 : decode cX8_feud 54 = .ok (.iload_n 3, 1) := by decide +kernel
theorem dX8_feud_55 : decode cX8_feud 55 = .ok (.bastore, 1) := by decide +kernel
theorem dX8_feud_56 : decode cX8_feud 56 = .ok (.iload 4, 2) := by decide +kernel
theorem dX8_feud_58 : decode cX8_feud 58 = .ok (.ireturn, 1) := by decide +kernel
theorem dX8_knows_0 : decode cX8_knows 0 = .ok (.aload_n 0, 1) := by decide +kernel
theorem dX8_knows_1 : decode cX8_knows 1 = .ok (.iload_n 1, 1) := by decide +kernel
theorem dX8_knows_2 : decode cX8_knows 2 = .ok (.invokevirtual 84, 3) := by decide +kernel
theorem dX8_knows_5 : decode cX8_knows 5 = .ok (.ifCond .eq 28, 3) := by decide +kernel
theorem dX8_knows_8 : decode cX8_knows 8 = .ok (.aload_n 0, 1) := by decide +kernel
theorem dX8_knows_9 : decode cX8_knows 9 = .ok (.iload_n 2, 1) := by decide +kernel
theorem dX8_knows_10 : decode cX8_knows 10 = .ok (.invokevirtual 84, 3) := by decide +kernel
theorem dX8_knows_13 : decode cX8_knows 13 = .ok (.ifCond .eq 20, 3) := by decide +kernel
theorem dX8_knows_16 : decode cX8_knows 16 = .ok (.aload_n 0, 1) := by decide +kernel
theorem dX8_knows_17 : decode cX8_knows 17 = .ok (.iload_n 1, 1) := by decide +kernel
theorem dX8_knows_18 : decode cX8_knows 18 = .ok (.iload_n 2, 1) := by decide +kernel
theorem dX8_knows_19 : decode cX8_knows 19 = .ok (.invokevirtual 92, 3) := by decide +kernel
theorem dX8_knows_22 : decode cX8_knows 22 = .ok (.ifCond .eq 7, 3) := by decide +kernel
theorem dX8_knows_25 : decode cX8_knows 25 = .ok (.iconst 1, 1) := by decide +kernel
theorem dX8_knows_26 : decode cX8_knows 26 = .ok (.goto 8, 3) := by decide +kernel
theorem dX8_knows_29 : decode cX8_knows 29 = .ok (.iconst 0, 1) := by decide +kernel
theorem dX8_knows_30 : decode cX8_knows 30 = .ok (.goto 4, 3) := by decide +kernel
theorem dX8_knows_33 : decode cX8_knows 33 = .ok (.iconst (-1), 1) := by decide +kernel
theorem dX8_knows_34 : decode cX8_knows 34 = .ok (.ireturn, 1) := by decide +kernel
theorem dX8_feed_0 : decode cX8_feed 0 = .ok (.aload_n 0, 1) := by decide +kernel
theorem dX8_feed_1 : decode cX8_feed 1 = .ok (.getfield 95, 3) := by decide +kernel
theorem dX8_feed_4 : decode cX8_feed 4 = .ok (.bipush 8, 2) := by decide +kernel
theorem dX8_feed_6 : decode cX8_feed 6 = .ok (.iadd, 1) := by decide +kernel
theorem dX8_feed_7 : decode cX8_feed 7 = .ok (.bipush 100, 2) := by decide +kernel
theorem dX8_feed_9 : decode cX8_feed 9 = .ok (.if_icmp .le 6, 3) := by decide +kernel
theorem dX8_feed_12 : decode cX8_feed 12 = .ok (.bipush (-3), 2) := by decide +kernel
theorem dX8_feed_14 : decode cX8_feed 14 = .ok (.ireturn, 1) := by decide +kernel
theorem dX8_feed_15 : decode cX8_feed 15 = .ok (.bipush 56, 2) := by decide +kernel
theorem dX8_feed_17 : decode cX8_feed 17 = .ok (.istore_n 3, 1) := by decide +kernel
theorem dX8_feed_18 : decode cX8_feed 18 = .ok (.iload_n 3, 1) := by decide +kernel
theorem dX8_feed_19 : decode cX8_feed 19 = .ok (.ifCond .lt 36, 3) := by decide +kernel
theorem dX8_feed_22 : decode cX8_feed 22 = .ok (.aload_n 0, 1) := by decide +kernel
theorem dX8_feed_23 : decode cX8_feed 23 = .ok (.getfield 32, 3) := by decide +kernel
theorem dX8_feed_26 : decode cX8_feed 26 = .ok (.aload_n 0, 1) := by decide +kernel
theorem dX8_feed_27 : decode cX8_feed 27 = .ok (.getfield 95, 3) := by decide +kernel
theorem dX8_feed_30 : decode cX8_feed 30 = .ok (.lload_n 1, 1) := by decide +kernel
theorem dX8_feed_31 : decode cX8_feed 31 = .ok (.iload_n 3, 1) := by decide +kernel
theorem dX8_feed_32 : decode cX8_feed 32 = .ok (.lshr, 1) := by decide +kernel
theorem dX8_feed_33 : decode cX8_feed 33 = .ok (.l2i, 1) := by decide +kernel
theorem dX8_feed_34 : decode cX8_feed 34 = .ok (.sipush 255, 3) := by decide +kernel
theorem dX8_feed_37 : decode cX8_feed 37 = .ok (.iand, 1) := by decide +kernel
theorem dX8_feed_38 : decode cX8_feed 38 = .ok (.iastore, 1) := by decide +kernel
theorem dX8_feed_39 : decode cX8_feed 39 = .ok (.aload_n 0, 1) := by decide +kernel
theorem dX8_feed_40 : decode cX8_feed 40 = .ok (.dup, 1) := by decide +kernel
theorem dX8_feed_41 : decode cX8_feed 41 = .ok (.getfield 95, 3) := by decide +kernel
theorem dX8_feed_44 : decode cX8_feed 44 = .ok (.iconst 1, 1) := by decide +kernel
theorem dX8_feed_45 : decode cX8_feed 45 = .ok (.iadd, 1) := by decide +kernel
theorem dX8_feed_46 : decode cX8_feed 46 = .ok (.putfield 95, 3) := by decide +kernel
theorem dX8_feed_49 : decode cX8_feed 49 = .ok (.iinc 3 (-8), 3) := by decide +kernel
theorem dX8_feed_52 : decode cX8_feed 52 = .ok (.goto (-34), 3) := by decide +kernel
theorem dX8_feed_55 : decode cX8_feed 55 = .ok (.aload_n 0, 1) := by decide +kernel
theorem dX8_feed_56 : decode cX8_feed 56 = .ok (.getfield 95, 3) := by decide +kernel
theorem dX8_feed_59 : decode cX8_feed 59 = .ok (.ireturn, 1) := by decide +kernel
theorem dX8_end_0 : decode cX8_end 0 = .ok (.iload_n 1, 1) := by decide +kernel
theorem dX8_end_1 : decode cX8_end 1 = .ok (.i2l, 1) := by decide +kernel
theorem dX8_end_2 : decode cX8_end 2 = .ok (.lconst 0, 1) := by decide +kernel
theorem dX8_end_3 : decode cX8_end 3 = .ok (.aload_n 0, 1) := by decide +kernel
theorem dX8_end_4 : decode cX8_end 4 = .ok (.getfield 95, 3) := by decide +kernel
theorem dX8_end_7 : decode cX8_end 7 = .ok (.i2l, 1) := by decide +kernel
theorem dX8_end_8 : decode cX8_end 8 = .ok (.invokestatic 76, 3) := by decide +kernel
theorem dX8_end_11 : decode cX8_end 11 = .ok (.ifCond .ne 5, 3) := by decide +kernel
theorem dX8_end_14 : decode cX8_end 14 = .ok (.iconst (-1), 1) := by decide +kernel
theorem dX8_end_15 : decode cX8_end 15 = .ok (.ireturn, 1) := by decide +kernel
theorem dX8_end_16 : decode cX8_end 16 = .ok (.aload_n 0, 1) := by decide +kernel
theorem dX8_end_17 : decode cX8_end 17 = .ok (.getfield 95, 3) := by decide +kernel
theorem dX8_end_20 : decode cX8_end 20 = .ok (.istore_n 2, 1) := by decide +kernel
theorem dX8_end_21 : decode cX8_end 21 = .ok (.aload_n 0, 1) := by decide +kernel
theorem dX8_end_22 : decode cX8_end 22 = .ok (.iload_n 1, 1) := by decide +kernel
theorem dX8_end_23 : decode cX8_end 23 = .ok (.putfield 95, 3) := by decide +kernel
theorem dX8_end_26 : decode cX8_end 26 = .ok (.iload_n 2, 1) := by decide +kernel
theorem dX8_end_27 : decode cX8_end 27 = .ok (.ireturn, 1) := by decide +kernel
theorem dX8_byteAt_0 : decode cX8_byteAt 0 = .ok (.iload_n 1, 1) := by decide +kernel
theorem dX8_byteAt_1 : decode cX8_byteAt 1 = .ok (.aload_n 0, 1) := by decide +kernel
theorem dX8_byteAt_2 : decode cX8_byteAt 2 = .ok (.getfield 95, 3) := by decide +kernel
theorem dX8_byteAt_5 : decode cX8_byteAt 5 = .ok (.if_icmp .ge 12, 3) := by decide +kernel
theorem dX8_byteAt_8 : decode cX8_byteAt 8 = .ok (.aload_n 0, 1) := by decide +kernel
theorem dX8_byteAt_9 : decode cX8_byteAt 9 = .ok (.getfield 32, 3) := by decide +kernel
theorem dX8_byteAt_12 : decode cX8_byteAt 12 = .ok (.iload_n 1, 1) := by decide +kernel
theorem dX8_byteAt_13 : decode cX8_byteAt 13 = .ok (.iaload, 1) := by decide +kernel
theorem dX8_byteAt_14 : decode cX8_byteAt 14 = .ok (.goto 5, 3) := by decide +kernel
theorem dX8_byteAt_17 : decode cX8_byteAt 17 = .ok (.bipush (-4), 2) := by decide +kernel
theorem dX8_byteAt_19 : decode cX8_byteAt 19 = .ok (.ireturn, 1) := by decide +kernel
theorem dX8_fails_0 : decode cX8_fails 0 = .ok (.aload_n 0, 1) := by decide +kernel
theorem dX8_fails_1 : decode cX8_fails 1 = .ok (.getfield 98, 3) := by decide +kernel
theorem dX8_fails_4 : decode cX8_fails 4 = .ok (.ifCond .ne 16, 3) := by decide +kernel
theorem dX8_fails_7 : decode cX8_fails 7 = .ok (.aload_n 0, 1) := by decide +kernel
theorem dX8_fails_8 : decode cX8_fails 8 = .ok (.iload_n 1, 1) := by decide +kernel
theorem dX8_fails_9 : decode cX8_fails 9 = .ok (.putfield 98, 3) := by decide +kernel
theorem dX8_fails_12 : decode cX8_fails 12 = .ok (.aload_n 0, 1) := by decide +kernel
theorem dX8_fails_13 : decode cX8_fails 13 = .ok (.aload_n 0, 1) := by decide +kernel
theorem dX8_fails_14 : decode cX8_fails 14 = .ok (.getfield 101, 3) := by decide +kernel
theorem dX8_fails_17 : decode cX8_fails 17 = .ok (.putfield 104, 3) := by decide +kernel
theorem dX8_fails_20 : decode cX8_fails 20 = .ok (.return_, 1) := by decide +kernel
theorem dX8_nameOf_0 : decode cX8_nameOf 0 = .ok (.lload_n 0, 1) := by decide +kernel
theorem dX8_nameOf_1 : decode cX8_nameOf 1 = .ok (.ldc2_w 107, 3) := by decide +kernel
theorem dX8_nameOf_4 : decode cX8_nameOf 4 = .ok (.lcmp, 1) := by decide +kernel
theorem dX8_nameOf_5 : decode cX8_nameOf 5 = .ok (.ifCond .ne 7, 3) := by decide +kernel
theorem dX8_nameOf_8 : decode cX8_nameOf 8 = .ok (.iconst 0, 1) := by decide +kernel
theorem dX8_nameOf_9 : decode cX8_nameOf 9 = .ok (.goto 41, 3) := by decide +kernel
theorem dX8_nameOf_12 : decode cX8_nameOf 12 = .ok (.lload_n 0, 1) := by decide +kernel
theorem dX8_nameOf_13 : decode cX8_nameOf 13 = .ok (.ldc2_w 109, 3) := by decide +kernel
theorem dX8_nameOf_16 : decode cX8_nameOf 16 = .ok (.lcmp, 1) := by decide +kernel
theorem dX8_nameOf_17 : decode cX8_nameOf 17 = .ok (.ifCond .ne 7, 3) := by decide +kernel
theorem dX8_nameOf_20 : decode cX8_nameOf 20 = .ok (.iconst 1, 1) := by decide +kernel
theorem dX8_nameOf_21 : decode cX8_nameOf 21 = .ok (.goto 29, 3) := by decide +kernel
theorem dX8_nameOf_24 : decode cX8_nameOf 24 = .ok (.lload_n 0, 1) := by decide +kernel
theorem dX8_nameOf_25 : decode cX8_nameOf 25 = .ok (.ldc2_w 111, 3) := by decide +kernel
theorem dX8_nameOf_28 : decode cX8_nameOf 28 = .ok (.lcmp, 1) := by decide +kernel
theorem dX8_nameOf_29 : decode cX8_nameOf 29 = .ok (.ifCond .ne 7, 3) := by decide +kernel
theorem dX8_nameOf_32 : decode cX8_nameOf 32 = .ok (.iconst 2, 1) := by decide +kernel
theorem dX8_nameOf_33 : decode cX8_nameOf 33 = .ok (.goto 17, 3) := by decide +kernel
theorem dX8_nameOf_36 : decode cX8_nameOf 36 = .ok (.lload_n 0, 1) := by decide +kernel
theorem dX8_nameOf_37 : decode cX8_nameOf 37 = .ok (.ldc2_w 113, 3) := by decide +kernel
theorem dX8_nameOf_40 : decode cX8_nameOf 40 = .ok (.lcmp, 1) := by decide +kernel
theorem dX8_nameOf_41 : decode cX8_nameOf 41 = .ok (.ifCond .ne 7, 3) := by decide +kernel
theorem dX8_nameOf_44 : decode cX8_nameOf 44 = .ok (.iconst 3, 1) := by decide +kernel
theorem dX8_nameOf_45 : decode cX8_nameOf 45 = .ok (.goto 5, 3) := by decide +kernel
theorem dX8_nameOf_48 : decode cX8_nameOf 48 = .ok (.bipush (-4), 2) := by decide +kernel
theorem dX8_nameOf_50 : decode cX8_nameOf 50 = .ok (.ireturn, 1) := by decide +kernel
theorem dX8_next_0 : decode cX8_next 0 = .ok (.aload_n 0, 1) := by decide +kernel
theorem dX8_next_1 : decode cX8_next 1 = .ok (.getfield 98, 3) := by decide +kernel
theorem dX8_next_4 : decode cX8_next 4 = .ok (.ifCond .le 4, 3) := by decide +kernel
theorem dX8_next_7 : decode cX8_next 7 = .ok (.return_, 1) := by decide +kernel
theorem dX8_next_8 : decode cX8_next 8 = .ok (.aload_n 0, 1) := by decide +kernel
theorem dX8_next_9 : decode cX8_next 9 = .ok (.aload_n 0, 1) := by decide +kernel
theorem dX8_next_10 : decode cX8_next 10 = .ok (.getfield 115, 3) := by decide +kernel
theorem dX8_next_13 : decode cX8_next 13 = .ok (.invokevirtual 118, 3) := by decide +kernel
theorem dX8_next_16 : decode cX8_next 16 = .ok (.bipush 32, 2) := by decide +kernel
theorem dX8_next_18 : decode cX8_next 18 = .ok (.if_icmp .ne 16, 3) := by decide +kernel
theorem dX8_next_21 : decode cX8_next 21 = .ok (.aload_n 0, 1) := by decide +kernel
theorem dX8_next_22 : decode cX8_next 22 = .ok (.dup, 1) := by decide +kernel
theorem dX8_next_23 : decode cX8_next 23 = .ok (.getfield 115, 3) := by decide +kernel
theorem dX8_next_26 : decode cX8_next 26 = .ok (.iconst 1, 1) := by decide +kernel
theorem dX8_next_27 : decode cX8_next 27 = .ok (.iadd, 1) := by decide +kernel
theorem dX8_next_28 : decode cX8_next 28 = .ok (.putfield 115, 3) := by decide +kernel
theorem dX8_next_31 : decode cX8_next 31 = .ok (.goto (-23), 3) := by decide +kernel
theorem dX8_next_34 : decode cX8_next 34 = .ok (.aload_n 0, 1) := by decide +kernel
theorem dX8_next_35 : decode cX8_next 35 = .ok (.aload_n 0, 1) := by decide +kernel
theorem dX8_next_36 : decode cX8_next 36 = .ok (.getfield 115, 3) := by decide +kernel
theorem dX8_next_39 : decode cX8_next 39 = .ok (.putfield 101, 3) := by decide +kernel
theorem dX8_next_42 : decode cX8_next 42 = .ok (.aload_n 0, 1) := by decide +kernel
theorem dX8_next_43 : decode cX8_next 43 = .ok (.aload_n 0, 1) := by decide +kernel
theorem dX8_next_44 : decode cX8_next 44 = .ok (.getfield 115, 3) := by decide +kernel
theorem dX8_next_47 : decode cX8_next 47 = .ok (.invokevirtual 118, 3) := by decide +kernel
theorem dX8_next_50 : decode cX8_next 50 = .ok (.istore_n 1, 1) := by decide +kernel
theorem dX8_next_51 : decode cX8_next 51 = .ok (.iload_n 1, 1) := by decide +kernel
theorem dX8_next_52 : decode cX8_next 52 = .ok (.bipush (-4), 2) := by decide +kernel
theorem dX8_next_54 : decode cX8_next 54 = .ok (.if_icmp .ne 11, 3) := by decide +kernel
theorem dX8_next_57 : decode cX8_next 57 = .ok (.aload_n 0, 1) := by decide +kernel
theorem dX8_next_58 : decode cX8_next 58 = .ok (.iconst 0, 1) := by decide +kernel
theorem dX8_next_59 : decode cX8_next 59 = .ok (.putfield 122, 3) := by decide +kernel
theorem dX8_next_62 : decode cX8_next 62 = .ok (.goto 286, 3) := by decide +kernel
theorem dX8_next_65 : decode cX8_next 65 = .ok (.iload_n 1, 1) := by decide +kernel
theorem dX8_next_66 : decode cX8_next 66 = .ok (.i2l, 1) := by decide +kernel
theorem dX8_next_67 : decode cX8_next 67 = .ok (.ldc2_w 125, 3) := by decide +kernel
theorem dX8_next_70 : decode cX8_next 70 = .ok (.ldc2_w 127, 3) := by decide +kernel
theorem dX8_next_73 : decode cX8_next 73 = .ok (.invokestatic 76, 3) := by decide +kernel
theorem dX8_next_76 : decode cX8_next 76 = .ok (.ifCond .eq 121, 3) := by decide +kernel
theorem dX8_next_79 : decode cX8_next 79 = .ok (.lconst 0, 1) := by decide +kernel
theorem dX8_next_80 : decode cX8_next 80 = .ok (.lstore_n 2, 1) := by decide +kernel
theorem dX8_next_81 : decode cX8_next 81 = .ok (.aload_n 0, 1) := by decide +kernel
theorem dX8_next_82 : decode cX8_next 82 = .ok (.aload_n 0, 1) := by decide +kernel
theorem dX8_next_83 : decode cX8_next 83 = .ok (.getfield 115, 3) := by decide +kernel
theorem dX8_next_86 : decode cX8_next 86 = .ok (.invokevirtual 118, 3) := by decide +kernel
theorem dX8_next_89 : decode cX8_next 89 = .ok (.i2l, 1) := by decide +kernel
theorem dX8_next_90 : decode cX8_next 90 = .ok (.ldc2_w 125, 3) := by decide +kernel
theorem dX8_next_93 : decode cX8_next 93 = .ok (.ldc2_w 127, 3) := by decide +kernel
theorem dX8_next_96 : decode cX8_next 96 = .ok (.invokestatic 76, 3) := by decide +kernel
theorem dX8_next_99 : decode cX8_next 99 = .ok (.ifCond .eq 49, 3) := by decide +kernel
theorem dX8_next_102 : decode cX8_next 102 = .ok (.aload_n 0, 1) := by decide +kernel
theorem dX8_next_103 : decode cX8_next 103 = .ok (.getfield 115, 3) := by decide +kernel
theorem dX8_next_106 : decode cX8_next 106 = .ok (.aload_n 0, 1) := by decide +kernel
theorem dX8_next_107 : decode cX8_next 107 = .ok (.getfield 101, 3) := by decide +kernel
theorem dX8_next_110 : decode cX8_next 110 = .ok (.isub, 1) := by decide +kernel
theorem dX8_next_111 : decode cX8_next 111 = .ok (.bipush 7, 2) := by decide +kernel
theorem dX8_next_113 : decode cX8_next 113 = .ok (.if_icmp .ge 20, 3) := by decide +kernel
theorem dX8_next_116 : decode cX8_next 116 = .ok (.lload_n 2, 1) := by decide +kernel
theorem dX8_next_117 : decode cX8_next 117 = .ok (.bipush 8, 2) := by decide +kernel
theorem dX8_next_119 : decode cX8_next 119 = .ok (.lshl, 1) := by decide +kernel
theorem dX8_next_120 : decode cX8_next 120 = .ok (.aload_n 0, 1) := by decide +kernel
theorem dX8_next_121 : decode cX8_next 121 = .ok (.aload_n 0, 1) := by decide +kernel
theorem dX8_next_122 : decode cX8_next 122 = .ok (.getfield 115, 3) := by decide +kernel
theorem dX8_next_125 : decode cX8_next 125 = .ok (.invokevirtual 118, 3) := by decide +kernel
theorem dX8_next_128 : decode cX8_next 128 = .ok (.i2l, 1) := by decide +kernel
theorem dX8_next_129 : decode cX8_next 129 = .ok (.lor, 1) := by decide +kernel
theorem dX8_next_130 : decode cX8_next 130 = .ok (.goto 4, 3) := by decide +kernel
theorem dX8_next_133 : decode cX8_next 133 = .ok (.lconst 0, 1) := by decide +kernel
theorem dX8_next_134 : decode cX8_next 134 = .ok (.lstore_n 2, 1) := by decide +kernel
theorem dX8_next_135 : decode cX8_next 135 = .ok (.aload_n 0, 1) := by decide +kernel
theorem dX8_next_136 : decode cX8_next 136 = .ok (.dup, 1) := by decide +kernel
theorem dX8_next_137 : decode cX8_next 137 = .ok (.getfield 115, 3) := by decide +kernel
theorem dX8_next_140 : decode cX8_next 140 = .ok (.iconst 1, 1) := by decide +kernel
theorem dX8_next_141 : decode cX8_next 141 = .ok (.iadd, 1) := by decide +kernel
theorem dX8_next_142 : decode cX8_next 142 = .ok (.putfield 115, 3) := by decide +kernel
theorem dX8_next_145 : decode cX8_next 145 = .ok (.goto (-64), 3) := by decide +kernel
theorem dX8_next_148 : decode cX8_next 148 = .ok (.aload_n 0, 1) := by decide +kernel
theorem dX8_next_149 : decode cX8_next 149 = .ok (.iconst 1, 1) := by decide +kernel
theorem dX8_next_150 : decode cX8_next 150 = .ok (.putfield 122, 3) := by decide +kernel
theorem dX8_next_153 : decode cX8_next 153 = .ok (.aload_n 0, 1) := by decide +kernel
theorem dX8_next_154 : decode cX8_next 154 = .ok (.aload_n 0, 1) := by decide +kernel
theorem dX8_next_155 : decode cX8_next 155 = .ok (.getfield 115, 3) := by decide +kernel
theorem dX8_next_158 : decode cX8_next 158 = .ok (.aload_n 0, 1) := by decide +kernel
theorem dX8_next_159 : decode cX8_next 159 = .ok (.getfield 101, 3) := by decide +kernel
theorem dX8_next_162 : decode cX8_next 162 = .ok (.isub, 1) := by decide +kernel
theorem dX8_next_163 : decode cX8_next 163 = .ok (.bipush 7, 2) := by decide +kernel
theorem dX8_next_165 : decode cX8_next 165 = .ok (.if_icmp .le 8, 3) := by decide +kernel
theorem dX8_next_168 : decode cX8_next 168 = .ok (.bipush (-4), 2) := by decide +kernel
theorem dX8_next_170 : decode cX8_next 170 = .ok (.goto 7, 3) := by decide +kernel
theorem dX8_next_173 : decode cX8_next 173 = .ok (.lload_n 2, 1) := by decide +kernel
theorem dX8_next_174 : decode cX8_next 174 = .ok (.invokestatic 129, 3) := by decide +kernel
theorem dX8_next_177 : decode cX8_next 177 = .ok (.putfield 133, 3) := by decide +kernel
theorem dX8_next_180 : decode cX8_next 180 = .ok (.aload_n 0, 1) := by decide +kernel
theorem dX8_next_181 : decode cX8_next 181 = .ok (.getfield 133, 3) := by decide +kernel
theorem dX8_next_184 : decode cX8_next 184 = .ok (.bipush (-4), 2) := by decide +kernel
theorem dX8_next_186 : decode cX8_next 186 = .ok (.if_icmp .ne 8, 3) := by decide +kernel
theorem dX8_next_189 : decode cX8_next 189 = .ok (.aload_n 0, 1) := by decide +kernel
theorem dX8_next_190 : decode cX8_next 190 = .ok (.iconst 1, 1) := by decide +kernel
theorem dX8_next_191 : decode cX8_next 191 = .ok (.invokevirtual 136, 3) := by decide +kernel
theorem dX8_next_194 : decode cX8_next 194 = .ok (.goto 154, 3) := by decide +kernel
theorem dX8_next_197 : decode cX8_next 197 = .ok (.iload_n 1, 1) := by decide +kernel
theorem dX8_next_198 : decode cX8_next 198 = .ok (.i2l, 1) := by decide +kernel
theorem dX8_next_199 : decode cX8_next 199 = .ok (.ldc2_w 140, 3) := by decide +kernel
theorem dX8_next_202 : decode cX8_next 202 = .ok (.ldc2_w 142, 3) := by decide +kernel
theorem dX8_next_205 : decode cX8_next 205 = .ok (.invokestatic 76, 3) := by decide +kernel
theorem dX8_next_208 : decode cX8_next 208 = .ok (.ifCond .eq 111, 3) := by decide +kernel
theorem dX8_next_211 : decode cX8_next 211 = .ok (.aload_n 0, 1) := by decide +kernel
theorem dX8_next_212 : decode cX8_next 212 = .ok (.iconst 0, 1) := by decide +kernel
theorem dX8_next_213 : decode cX8_next 213 = .ok (.putfield 133, 3) := by decide +kernel
theorem dX8_next_216 : decode cX8_next 216 = .ok (.aload_n 0, 1) := by decide +kernel
theorem dX8_next_217 : decode cX8_next 217 = .ok (.aload_n 0, 1) := by decide +kernel
theorem dX8_next_218 : decode cX8_next 218 = .ok (.getfield 115, 3) := by decide +kernel
theorem dX8_next_221 : decode cX8_next 221 = .ok (.invokevirtual 118, 3) := by decide +kernel
theorem dX8_next_224 : decode cX8_next 224 = .ok (.i2l, 1) := by decide +kernel
theorem dX8_next_225 : decode cX8_next 225 = .ok (.ldc2_w 140, 3) := by decide +kernel
theorem dX8_next_228 : decode cX8_next 228 = .ok (.ldc2_w 142, 3) := by decide +kernel
theorem dX8_next_231 : decode cX8_next 231 = .ok (.invokestatic 76, 3) := by decide +kernel
theorem dX8_next_234 : decode cX8_next 234 = .ok (.ifCond .eq 59, 3) := by decide +kernel
theorem dX8_next_237 : decode cX8_next 237 = .ok (.aload_n 0, 1) := by decide +kernel
theorem dX8_next_238 : decode cX8_next 238 = .ok (.aload_n 0, 1) := by decide +kernel
theorem dX8_next_239 : decode cX8_next 239 = .ok (.getfield 115, 3) := by decide +kernel
theorem dX8_next_242 : decode cX8_next 242 = .ok (.aload_n 0, 1) := by decide +kernel
theorem dX8_next_243 : decode cX8_next 243 = .ok (.getfield 101, 3) := by decide +kernel
theorem dX8_next_246 : decode cX8_next 246 = .ok (.isub, 1) := by decide +kernel
theorem dX8_next_247 : decode cX8_next 247 = .ok (.iconst 3, 1) := by decide +kernel
theorem dX8_next_248 : decode cX8_next 248 = .ok (.if_icmp .ge 25, 3) := by decide +kernel
theorem dX8_next_251 : decode cX8_next 251 = .ok (.bipush 10, 2) := by decide +kernel
theorem dX8_next_253 : decode cX8_next 253 = .ok (.aload_n 0, 1) := by decide +kernel
theorem dX8_next_254 : decode cX8_next 254 = .ok (.getfield 133, 3) := by decide +kernel
theorem dX8_next_257 : decode cX8_next 257 = .ok (.imul, 1) := by decide +kernel
theorem dX8_next_258 : decode cX8_next 258 = .ok (.aload_n 0, 1) := by decide +kernel
theorem dX8_next_259 : decode cX8_next 259 = .ok (.aload_n 0, 1) := by decide +kernel
theorem dX8_next_260 : decode cX8_next 260 = .ok (.getfield 115, 3) := by decide +kernel
theorem dX8_next_263 : decode cX8_next 263 = .ok (.invokevirtual 118, 3) := by decide +kernel
theorem dX8_next_266 : decode cX8_next 266 = .ok (.iadd, 1) := by decide +kernel
theorem dX8_next_267 : decode cX8_next 267 = .ok (.bipush 48, 2) := by decide +kernel
theorem dX8_next_269 : decode cX8_next 269 = .ok (.isub, 1) := by decide +kernel
theorem dX8_next_270 : decode cX8_next 270 = .ok (.goto 7, 3) := by decide +kernel
theorem dX8_next_273 : decode cX8_next 273 = .ok (.aload_n 0, 1) := by decide +kernel
theorem dX8_next_274 : decode cX8_next 274 = .ok (.getfield 133, 3) := by decide +kernel
theorem dX8_next_277 : decode cX8_next 277 = .ok (.putfield 133, 3) := by decide +kernel
theorem dX8_next_280 : decode cX8_next 280 = .ok (.aload_n 0, 1) := by decide +kernel
theorem dX8_next_281 : decode cX8_next 281 = .ok (.dup, 1) := by decide +kernel
theorem dX8_next_282 : decode cX8_next 282 = .ok (.getfield 115, 3) := by decide +kernel
theorem dX8_next_285 : decode cX8_next 285 = .ok (.iconst 1, 1) := by decide +kernel
theorem dX8_next_286 : decode cX8_next 286 = .ok (.iadd, 1) := by decide +kernel
theorem dX8_next_287 : decode cX8_next 287 = .ok (.putfield 115, 3) := by decide +kernel
theorem dX8_next_290 : decode cX8_next 290 = .ok (.goto (-74), 3) := by decide +kernel
theorem dX8_next_293 : decode cX8_next 293 = .ok (.aload_n 0, 1) := by decide +kernel
theorem dX8_next_294 : decode cX8_next 294 = .ok (.iconst 2, 1) := by decide +kernel
theorem dX8_next_295 : decode cX8_next 295 = .ok (.putfield 122, 3) := by decide +kernel
theorem dX8_next_298 : decode cX8_next 298 = .ok (.aload_n 0, 1) := by decide +kernel
theorem dX8_next_299 : decode cX8_next 299 = .ok (.getfield 115, 3) := by decide +kernel
theorem dX8_next_302 : decode cX8_next 302 = .ok (.aload_n 0, 1) := by decide +kernel
theorem dX8_next_303 : decode cX8_next 303 = .ok (.getfield 101, 3) := by decide +kernel
theorem dX8_next_306 : decode cX8_next 306 = .ok (.isub, 1) := by decide +kernel
theorem dX8_next_307 : decode cX8_next 307 = .ok (.iconst 3, 1) := by decide +kernel
theorem dX8_next_308 : decode cX8_next 308 = .ok (.if_icmp .le 40, 3) := by decide +kernel
theorem dX8_next_311 : decode cX8_next 311 = .ok (.aload_n 0, 1) := by decide +kernel
theorem dX8_next_312 : decode cX8_next 312 = .ok (.iconst 1, 1) := by decide +kernel
theorem dX8_next_313 : decode cX8_next 313 = .ok (.invokevirtual 136, 3) := by decide +kernel
theorem dX8_next_316 : decode cX8_next 316 = .ok (.goto 32, 3) := by decide +kernel
theorem dX8_next_319 : decode cX8_next 319 = .ok (.iload_n 1, 1) := by decide +kernel
theorem dX8_next_320 : decode cX8_next 320 = .ok (.bipush 59, 2) := by decide +kernel
theorem dX8_next_322 : decode cX8_next 322 = .ok (.if_icmp .ne 21, 3) := by decide +kernel
theorem dX8_next_325 : decode cX8_next 325 = .ok (.aload_n 0, 1) := by decide +kernel
theorem dX8_next_326 : decode cX8_next 326 = .ok (.dup, 1) := by decide +kernel
theorem dX8_next_327 : decode cX8_next 327 = .ok (.getfield 115, 3) := by decide +kernel
theorem dX8_next_330 : decode cX8_next 330 = .ok (.iconst 1, 1) := by decide +kernel
theorem dX8_next_331 : decode cX8_next 331 = .ok (.iadd, 1) := by decide +kernel
theorem dX8_next_332 : decode cX8_next 332 = .ok (.putfield 115, 3) := by decide +kernel
theorem dX8_next_335 : decode cX8_next 335 = .ok (.aload_n 0, 1) := by decide +kernel
theorem dX8_next_336 : decode cX8_next 336 = .ok (.iconst 3, 1) := by decide +kernel
theorem dX8_next_337 : decode cX8_next 337 = .ok (.putfield 122, 3) := by decide +kernel
theorem dX8_next_340 : decode cX8_next 340 = .ok (.goto 8, 3) := by decide +kernel
theorem dX8_next_343 : decode cX8_next 343 = .ok (.aload_n 0, 1) := by decide +kernel
theorem dX8_next_344 : decode cX8_next 344 = .ok (.iconst 1, 1) := by decide +kernel
theorem dX8_next_345 : decode cX8_next 345 = .ok (.invokevirtual 136, 3) := by decide +kernel
theorem dX8_next_348 : decode cX8_next 348 = .ok (.return_, 1) := by decide +kernel
theorem dX8_wants_0 : decode cX8_wants 0 = .ok (.aload_n 0, 1) := by decide +kernel
theorem dX8_wants_1 : decode cX8_wants 1 = .ok (.getfield 122, 3) := by decide +kernel
theorem dX8_wants_4 : decode cX8_wants 4 = .ok (.iload_n 1, 1) := by decide +kernel
theorem dX8_wants_5 : decode cX8_wants 5 = .ok (.if_icmp .eq 8, 3) := by decide +kernel
theorem dX8_wants_8 : decode cX8_wants 8 = .ok (.aload_n 0, 1) := by decide +kernel
theorem dX8_wants_9 : decode cX8_wants 9 = .ok (.iconst 2, 1) := by decide +kernel
theorem dX8_wants_10 : decode cX8_wants 10 = .ok (.invokevirtual 136, 3) := by decide +kernel
theorem dX8_wants_13 : decode cX8_wants 13 = .ok (.return_, 1) := by decide +kernel
theorem dX8_custom_0 : decode cX8_custom 0 = .ok (.aload_n 0, 1) := by decide +kernel
theorem dX8_custom_1 : decode cX8_custom 1 = .ok (.iconst 1, 1) := by decide +kernel
theorem dX8_custom_2 : decode cX8_custom 2 = .ok (.invokevirtual 144, 3) := by decide +kernel
theorem dX8_custom_5 : decode cX8_custom 5 = .ok (.aload_n 0, 1) := by decide +kernel
theorem dX8_custom_6 : decode cX8_custom 6 = .ok (.getfield 133, 3) := by decide +kernel
theorem dX8_custom_9 : decode cX8_custom 9 = .ok (.istore_n 1, 1) := by decide +kernel
theorem dX8_custom_10 : decode cX8_custom 10 = .ok (.aload_n 0, 1) := by decide +kernel
theorem dX8_custom_11 : decode cX8_custom 11 = .ok (.getfield 98, 3) := by decide +kernel
theorem dX8_custom_14 : decode cX8_custom 14 = .ok (.ifCond .ne 19, 3) := by decide +kernel
theorem dX8_custom_17 : decode cX8_custom 17 = .ok (.aload_n 0, 1) := by decide +kernel
theorem dX8_custom_18 : decode cX8_custom 18 = .ok (.getfield 38, 3) := by decide +kernel
theorem dX8_custom_21 : decode cX8_custom 21 = .ok (.iload_n 1, 1) := by decide +kernel
theorem dX8_custom_22 : decode cX8_custom 22 = .ok (.iaload, 1) := by decide +kernel
theorem dX8_custom_23 : decode cX8_custom 23 = .ok (.bipush (-4), 2) := by decide +kernel
theorem dX8_custom_25 : decode cX8_custom 25 = .ok (.if_icmp .eq 8, 3) := by decide +kernel
theorem dX8_custom_28 : decode cX8_custom 28 = .ok (.aload_n 0, 1) := by decide +kernel
theorem dX8_custom_29 : decode cX8_custom 29 = .ok (.iconst 4, 1) := by decide +kernel
theorem dX8_custom_30 : decode cX8_custom 30 = .ok (.invokevirtual 136, 3) := by decide +kernel
theorem dX8_custom_33 : decode cX8_custom 33 = .ok (.aload_n 0, 1) := by decide +kernel
theorem dX8_custom_34 : decode cX8_custom 34 = .ok (.invokevirtual 147, 3) := by decide +kernel
theorem dX8_custom_37 : decode cX8_custom 37 = .ok (.aload_n 0, 1) := by decide +kernel
theorem dX8_custom_38 : decode cX8_custom 38 = .ok (.getfield 98, 3) := by decide +kernel
theorem dX8_custom_41 : decode cX8_custom 41 = .ok (.ifCond .le 4, 3) := by decide +kernel
theorem dX8_custom_44 : decode cX8_custom 44 = .ok (.return_, 1) := by decide +kernel
theorem dX8_custom_45 : decode cX8_custom 45 = .ok (.aload_n 0, 1) := by decide +kernel
theorem dX8_custom_46 : decode cX8_custom 46 = .ok (.iconst 2, 1) := by decide +kernel
theorem dX8_custom_47 : decode cX8_custom 47 = .ok (.invokevirtual 144, 3) := by decide +kernel
theorem dX8_custom_50 : decode cX8_custom 50 = .ok (.iload_n 1, 1) := by decide +kernel
theorem dX8_custom_51 : decode cX8_custom 51 = .ok (.ifCond .eq 8, 3) := by decide +kernel
theorem dX8_custom_54 : decode cX8_custom 54 = .ok (.iload_n 1, 1) := by decide +kernel
theorem dX8_custom_55 : decode cX8_custom 55 = .ok (.iconst 2, 1) := by decide +kernel
theorem dX8_custom_56 : decode cX8_custom 56 = .ok (.if_icmp .ne 7, 3) := by decide +kernel
theorem dX8_custom_59 : decode cX8_custom 59 = .ok (.iconst 1, 1) := by decide +kernel
theorem dX8_custom_60 : decode cX8_custom 60 = .ok (.goto 4, 3) := by decide +kernel
theorem dX8_custom_63 : decode cX8_custom 63 = .ok (.iconst 0, 1) := by decide +kernel
theorem dX8_custom_64 : decode cX8_custom 64 = .ok (.istore_n 2, 1) := by decide +kernel
theorem dX8_custom_65 : decode cX8_custom 65 = .ok (.iload_n 1, 1) := by decide +kernel
theorem dX8_custom_66 : decode cX8_custom 66 = .ok (.iconst 1, 1) := by decide +kernel
theorem dX8_custom_67 : decode cX8_custom 67 = .ok (.if_icmp .ne 8, 3) := by decide +kernel
theorem dX8_custom_70 : decode cX8_custom 70 = .ok (.bipush 9, 2) := by decide +kernel
theorem dX8_custom_72 : decode cX8_custom 72 = .ok (.goto 15, 3) := by decide +kernel
theorem dX8_custom_75 : decode cX8_custom 75 = .ok (.iload_n 1, 1) := by decide +kernel
theorem dX8_custom_76 : decode cX8_custom 76 = .ok (.iconst 3, 1) := by decide +kernel
theorem dX8_custom_77 : decode cX8_custom 77 = .ok (.if_icmp .ne 8, 3) := by decide +kernel
theorem dX8_custom_80 : decode cX8_custom 80 = .ok (.bipush 23, 2) := by decide +kernel
theorem dX8_custom_82 : decode cX8_custom 82 = .ok (.goto 5, 3) := by decide +kernel
theorem dX8_custom_85 : decode cX8_custom 85 = .ok (.bipush 24, 2) := by decide +kernel
theorem dX8_custom_87 : decode cX8_custom 87 = .ok (.istore_n 3, 1) := by decide +kernel
theorem dX8_custom_88 : decode cX8_custom 88 = .ok (.aload_n 0, 1) := by decide +kernel
theorem dX8_custom_89 : decode cX8_custom 89 = .ok (.getfield 133, 3) := by decide +kernel
theorem dX8_custom_92 : decode cX8_custom 92 = .ok (.i2l, 1) := by decide +kernel
theorem dX8_custom_93 : decode cX8_custom 93 = .ok (.iload_n 2, 1) := by decide +kernel
theorem dX8_custom_94 : decode cX8_custom 94 = .ok (.i2l, 1) := by decide +kernel
theorem dX8_custom_95 : decode cX8_custom 95 = .ok (.iload_n 3, 1) := by decide +kernel
theorem dX8_custom_96 : decode cX8_custom 96 = .ok (.i2l, 1) := by decide +kernel
theorem dX8_custom_97 : decode cX8_custom 97 = .ok (.invokestatic 76, 3) := by decide +kernel
theorem dX8_custom_100 : decode cX8_custom 100 = .ok (.ifCond .ne 8, 3) := by decide +kernel
theorem dX8_custom_103 : decode cX8_custom 103 = .ok (.aload_n 0, 1) := by decide +kernel
theorem dX8_custom_104 : decode cX8_custom 104 = .ok (.iconst 3, 1) := by decide +kernel
theorem dX8_custom_105 : decode cX8_custom 105 = .ok (.invokevirtual 136, 3) := by decide +kernel
theorem dX8_custom_108 : decode cX8_custom 108 = .ok (.aload_n 0, 1) := by decide +kernel
theorem dX8_custom_109 : decode cX8_custom 109 = .ok (.getfield 98, 3) := by decide +kernel
theorem dX8_custom_112 : decode cX8_custom 112 = .ok (.ifCond .ne 13, 3) := by decide +kernel
theorem dX8_custom_115 : decode cX8_custom 115 = .ok (.aload_n 0, 1) := by decide +kernel
theorem dX8_custom_116 : decode cX8_custom 116 = .ok (.getfield 38, 3) := by decide +kernel
theorem dX8_custom_119 : decode cX8_custom 119 = .ok (.iload_n 1, 1) := by decide +kernel
theorem dX8_custom_120 : decode cX8_custom 120 = .ok (.aload_n 0, 1) := by decide +kernel
theorem dX8_custom_121 : decode cX8_custom 121 = .ok (.getfield 133, 3) := by decide +kernel
theorem dX8_custom_124 : decode cX8_custom 124 = .ok (.iastore, 1) := by decide +kernel
theorem dX8_custom_125 : decode cX8_custom 125 = .ok (.aload_n 0, 1) := by decide +kernel
theorem dX8_custom_126 : decode cX8_custom 126 = .ok (.invokevirtual 147, 3) := by decide +kernel
theorem dX8_custom_129 : decode cX8_custom 129 = .ok (.aload_n 0, 1) := by decide +kernel
theorem dX8_custom_130 : decode cX8_custom 130 = .ok (.getfield 98, 3) := by decide +kernel
theorem dX8_custom_133 : decode cX8_custom 133 = .ok (.ifCond .ne 8, 3) := by decide +kernel
theorem dX8_custom_136 : decode cX8_custom 136 = .ok (.aload_n 0, 1) := by decide +kernel
theorem dX8_custom_137 : decode cX8_custom 137 = .ok (.iconst 3, 1) := by decide +kernel
theorem dX8_custom_138 : decode cX8_custom 138 = .ok (.invokevirtual 144, 3) := by decide +kernel
theorem dX8_custom_141 : decode cX8_custom 141 = .ok (.aload_n 0, 1) := by decide +kernel
theorem dX8_custom_142 : decode cX8_custom 142 = .ok (.invokevirtual 147, 3) := by decide +kernel
theorem dX8_custom_145 : decode cX8_custom 145 = .ok (.return_, 1) := by decide +kernel
theorem dX8_customs_0 : decode cX8_customs 0 = .ok (.aload_n 0, 1) := by decide +kernel
theorem dX8_customs_1 : decode cX8_customs 1 = .ok (.iconst 0, 1) := by decide +kernel
theorem dX8_customs_2 : decode cX8_customs 2 = .ok (.putfield 98, 3) := by decide +kernel
theorem dX8_customs_5 : decode cX8_customs 5 = .ok (.aload_n 0, 1) := by decide +kernel
theorem dX8_customs_6 : decode cX8_customs 6 = .ok (.iconst 0, 1) := by decide +kernel
theorem dX8_customs_7 : decode cX8_customs 7 = .ok (.putfield 115, 3) := by decide +kernel
theorem dX8_customs_10 : decode cX8_customs 10 = .ok (.iconst 0, 1) := by decide +kernel
theorem dX8_customs_11 : decode cX8_customs 11 = .ok (.istore_n 1, 1) := by decide +kernel
theorem dX8_customs_12 : decode cX8_customs 12 = .ok (.iload_n 1, 1) := by decide +kernel
theorem dX8_customs_13 : decode cX8_customs 13 = .ok (.iconst 4, 1) := by decide +kernel
theorem dX8_customs_14 : decode cX8_customs 14 = .ok (.if_icmp .ge 17, 3) := by decide +kernel
theorem dX8_customs_17 : decode cX8_customs 17 = .ok (.aload_n 0, 1) := by decide +kernel
theorem dX8_customs_18 : decode cX8_customs 18 = .ok (.getfield 38, 3) := by decide +kernel
theorem dX8_customs_21 : decode cX8_customs 21 = .ok (.iload_n 1, 1) := by decide +kernel
theorem dX8_customs_22 : decode cX8_customs 22 = .ok (.bipush (-4), 2) := by decide +kernel
theorem dX8_customs_24 : decode cX8_customs 24 = .ok (.iastore, 1) := by decide +kernel
theorem dX8_customs_25 : decode cX8_customs 25 = .ok (.iinc 1 1, 3) := by decide +kernel
theorem dX8_customs_28 : decode cX8_customs 28 = .ok (.goto (-16), 3) := by decide +kernel
theorem dX8_customs_31 : decode cX8_customs 31 = .ok (.aload_n 0, 1) := by decide +kernel
theorem dX8_customs_32 : decode cX8_customs 32 = .ok (.invokevirtual 147, 3) := by decide +kernel
theorem dX8_customs_35 : decode cX8_customs 35 = .ok (.aload_n 0, 1) := by decide +kernel
theorem dX8_customs_36 : decode cX8_customs 36 = .ok (.getfield 98, 3) := by decide +kernel
theorem dX8_customs_39 : decode cX8_customs 39 = .ok (.ifCond .ne 17, 3) := by decide +kernel
theorem dX8_customs_42 : decode cX8_customs 42 = .ok (.aload_n 0, 1) := by decide +kernel
theorem dX8_customs_43 : decode cX8_customs 43 = .ok (.getfield 122, 3) := by decide +kernel
theorem dX8_customs_46 : decode cX8_customs 46 = .ok (.ifCond .eq 10, 3) := by decide +kernel
theorem dX8_customs_49 : decode cX8_customs 49 = .ok (.aload_n 0, 1) := by decide +kernel
theorem dX8_customs_50 : decode cX8_customs 50 = .ok (.invokevirtual 150, 3) := by decide +kernel
theorem dX8_customs_53 : decode cX8_customs 53 = .ok (.goto (-18), 3) := by decide +kernel
theorem dX8_customs_56 : decode cX8_customs 56 = .ok (.aload_n 0, 1) := by decide +kernel
theorem dX8_customs_57 : decode cX8_customs 57 = .ok (.iconst 0, 1) := by decide +kernel
theorem dX8_customs_58 : decode cX8_customs 58 = .ok (.putfield 95, 3) := by decide +kernel
theorem dX8_customs_61 : decode cX8_customs 61 = .ok (.aload_n 0, 1) := by decide +kernel
theorem dX8_customs_62 : decode cX8_customs 62 = .ok (.aload_n 0, 1) := by decide +kernel
theorem dX8_customs_63 : decode cX8_customs 63 = .ok (.getfield 98, 3) := by decide +kernel
theorem dX8_customs_66 : decode cX8_customs 66 = .ok (.putfield 153, 3) := by decide +kernel
theorem dX8_customs_69 : decode cX8_customs 69 = .ok (.aload_n 0, 1) := by decide +kernel
theorem dX8_customs_70 : decode cX8_customs 70 = .ok (.getfield 98, 3) := by decide +kernel
theorem dX8_customs_73 : decode cX8_customs 73 = .ok (.ifCond .le 11, 3) := by decide +kernel
theorem dX8_customs_76 : decode cX8_customs 76 = .ok (.bipush (-10), 2) := by decide +kernel
theorem dX8_customs_78 : decode cX8_customs 78 = .ok (.aload_n 0, 1) := by decide +kernel
theorem dX8_customs_79 : decode cX8_customs 79 = .ok (.getfield 104, 3) := by decide +kernel
theorem dX8_customs_82 : decode cX8_customs 82 = .ok (.isub, 1) := by decide +kernel
theorem dX8_customs_83 : decode cX8_customs 83 = .ok (.ireturn, 1) := by decide +kernel
theorem dX8_customs_84 : decode cX8_customs 84 = .ok (.iconst 0, 1) := by decide +kernel
theorem dX8_customs_85 : decode cX8_customs 85 = .ok (.istore_n 1, 1) := by decide +kernel
theorem dX8_customs_86 : decode cX8_customs 86 = .ok (.iconst 0, 1) := by decide +kernel
theorem dX8_customs_87 : decode cX8_customs 87 = .ok (.istore_n 2, 1) := by decide +kernel
theorem dX8_customs_88 : decode cX8_customs 88 = .ok (.iload_n 2, 1) := by decide +kernel
theorem dX8_customs_89 : decode cX8_customs 89 = .ok (.iconst 4, 1) := by decide +kernel
theorem dX8_customs_90 : decode cX8_customs 90 = .ok (.if_icmp .ge 40, 3) := by decide +kernel
theorem dX8_customs_93 : decode cX8_customs 93 = .ok (.aload_n 0, 1) := by decide +kernel
theorem dX8_customs_94 : decode cX8_customs 94 = .ok (.getfield 35, 3) := by decide +kernel
theorem dX8_customs_97 : decode cX8_customs 97 = .ok (.iload_n 2, 1) := by decide +kernel
theorem dX8_customs_98 : decode cX8_customs 98 = .ok (.aload_n 0, 1) := by decide +kernel
theorem dX8_customs_99 : decode cX8_customs 99 = .ok (.getfield 38, 3) := by decide +kernel
theorem dX8_customs_102 : decode cX8_customs 102 = .ok (.iload_n 2, 1) := by decide +kernel
theorem dX8_customs_103 : decode cX8_customs 103 = .ok (.iaload, 1) := by decide +kernel
theorem dX8_customs_104 : decode cX8_customs 104 = .ok (.iastore, 1) := by decide +kernel
theorem dX8_customs_105 : decode cX8_customs 105 = .ok (.iload_n 1, 1) := by decide +kernel
theorem dX8_customs_106 : decode cX8_customs 106 = .ok (.aload_n 0, 1) := by decide +kernel
theorem dX8_customs_107 : decode cX8_customs 107 = .ok (.getfield 35, 3) := by decide +kernel
theorem dX8_customs_110 : decode cX8_customs 110 = .ok (.iload_n 2, 1) := by decide +kernel
theorem dX8_customs_111 : decode cX8_customs 111 = .ok (.iaload, 1) := by decide +kernel
theorem dX8_customs_112 : decode cX8_customs 112 = .ok (.bipush (-4), 2) := by decide +kernel
theorem dX8_customs_114 : decode cX8_customs 114 = .ok (.if_icmp .eq 7, 3) := by decide +kernel
theorem dX8_customs_117 : decode cX8_customs 117 = .ok (.iconst 1, 1) := by decide +kernel
theorem dX8_customs_118 : decode cX8_customs 118 = .ok (.goto 4, 3) := by decide +kernel
theorem dX8_customs_121 : decode cX8_customs 121 = .ok (.iconst 0, 1) := by decide +kernel
theorem dX8_customs_122 : decode cX8_customs 122 = .ok (.iadd, 1) := by decide +kernel
theorem dX8_customs_123 : decode cX8_customs 123 = .ok (.istore_n 1, 1) := by decide +kernel
theorem dX8_customs_124 : decode cX8_customs 124 = .ok (.iinc 2 1, 3) := by decide +kernel
theorem dX8_customs_127 : decode cX8_customs 127 = .ok (.goto (-39), 3) := by decide +kernel
theorem dX8_customs_130 : decode cX8_customs 130 = .ok (.iload_n 1, 1) := by decide +kernel
theorem dX8_customs_131 : decode cX8_customs 131 = .ok (.ireturn, 1) := by decide +kernel
theorem dX8_fault_0 : decode cX8_fault 0 = .ok (.aload_n 0, 1) := by decide +kernel
theorem dX8_fault_1 : decode cX8_fault 1 = .ok (.getfield 153, 3) := by decide +kernel
theorem dX8_fault_4 : decode cX8_fault 4 = .ok (.ireturn, 1) := by decide +kernel
theorem dX8_custom__0 : decode cX8_custom_ 0 = .ok (.iload_n 1, 1) := by decide +kernel
theorem dX8_custom__1 : decode cX8_custom_ 1 = .ok (.i2l, 1) := by decide +kernel
theorem dX8_custom__2 : decode cX8_custom_ 2 = .ok (.lconst 0, 1) := by decide +kernel
theorem dX8_custom__3 : decode cX8_custom_ 3 = .ok (.ldc2_w 156, 3) := by decide +kernel
theorem dX8_custom__6 : decode cX8_custom_ 6 = .ok (.invokestatic 76, 3) := by decide +kernel
theorem dX8_custom__9 : decode cX8_custom_ 9 = .ok (.ifCond .eq 12, 3) := by decide +kernel
theorem dX8_custom__12 : decode cX8_custom_ 12 = .ok (.aload_n 0, 1) := by decide +kernel
theorem dX8_custom__13 : decode cX8_custom_ 13 = .ok (.getfield 35, 3) := by decide +kernel
theorem dX8_custom__16 : decode cX8_custom_ 16 = .ok (.iload_n 1, 1) := by decide +kernel
theorem dX8_custom__17 : decode cX8_custom_ 17 = .ok (.iaload, 1) := by decide +kernel
theorem dX8_custom__18 : decode cX8_custom_ 18 = .ok (.goto 4, 3) := by decide +kernel
theorem dX8_custom__21 : decode cX8_custom_ 21 = .ok (.iconst (-1), 1) := by decide +kernel
theorem dX8_custom__22 : decode cX8_custom_ 22 = .ok (.ireturn, 1) := by decide +kernel
theorem dX8_cardOf_0 : decode cX8_cardOf 0 = .ok (.aload_n 0, 1) := by decide +kernel
theorem dX8_cardOf_1 : decode cX8_cardOf 1 = .ok (.getfield 29, 3) := by decide +kernel
theorem dX8_cardOf_4 : decode cX8_cardOf 4 = .ok (.bipush 24, 2) := by decide +kernel
theorem dX8_cardOf_6 : decode cX8_cardOf 6 = .ok (.iload_n 1, 1) := by decide +kernel
theorem dX8_cardOf_7 : decode cX8_cardOf 7 = .ok (.imul, 1) := by decide +kernel
theorem dX8_cardOf_8 : decode cX8_cardOf 8 = .ok (.iload_n 2, 1) := by decide +kernel
theorem dX8_cardOf_9 : decode cX8_cardOf 9 = .ok (.iadd, 1) := by decide +kernel
theorem dX8_cardOf_10 : decode cX8_cardOf 10 = .ok (.iaload, 1) := by decide +kernel
theorem dX8_cardOf_11 : decode cX8_cardOf 11 = .ok (.ireturn, 1) := by decide +kernel
theorem dX8_write_0 : decode cX8_write 0 = .ok (.aload_n 0, 1) := by decide +kernel
theorem dX8_write_1 : decode cX8_write 1 = .ok (.getfield 29, 3) := by decide +kernel
theorem dX8_write_4 : decode cX8_write 4 = .ok (.bipush 24, 2) := by decide +kernel
theorem dX8_write_6 : decode cX8_write 6 = .ok (.iload_n 1, 1) := by decide +kernel
theorem dX8_write_7 : decode cX8_write 7 = .ok (.imul, 1) := by decide +kernel
theorem dX8_write_8 : decode cX8_write 8 = .ok (.iload_n 2, 1) := by decide +kernel
theorem dX8_write_9 : decode cX8_write 9 = .ok (.iadd, 1) := by decide +kernel
theorem dX8_write_10 : decode cX8_write 10 = .ok (.iload_n 3, 1) := by decide +kernel
theorem dX8_write_11 : decode cX8_write 11 = .ok (.iastore, 1) := by decide +kernel
theorem dX8_write_12 : decode cX8_write 12 = .ok (.return_, 1) := by decide +kernel
theorem dX8_hasPartner_0 : decode cX8_hasPartner 0 = .ok (.iload_n 2, 1) := by decide +kernel
theorem dX8_hasPartner_1 : decode cX8_hasPartner 1 = .ok (.i2l, 1) := by decide +kernel
theorem dX8_hasPartner_2 : decode cX8_hasPartner 2 = .ok (.lconst 0, 1) := by decide +kernel
theorem dX8_hasPartner_3 : decode cX8_hasPartner 3 = .ok (.ldc2_w 158, 3) := by decide +kernel
theorem dX8_hasPartner_6 : decode cX8_hasPartner 6 = .ok (.invokestatic 76, 3) := by decide +kernel
theorem dX8_hasPartner_9 : decode cX8_hasPartner 9 = .ok (.ifCond .eq 16, 3) := by decide +kernel
theorem dX8_hasPartner_12 : decode cX8_hasPartner 12 = .ok (.aload_n 0, 1) := by decide +kernel
theorem dX8_hasPartner_13 : decode cX8_hasPartner 13 = .ok (.iload_n 1, 1) := by decide +kernel
theorem dX8_hasPartner_14 : decode cX8_hasPartner 14 = .ok (.iload_n 2, 1) := by decide +kernel
theorem dX8_hasPartner_15 : decode cX8_hasPartner 15 = .ok (.invokevirtual 160, 3) := by decide +kernel
theorem dX8_hasPartner_18 : decode cX8_hasPartner 18 = .ok (.ifCond .lt 7, 3) := by decide +kernel
theorem dX8_hasPartner_21 : decode cX8_hasPartner 21 = .ok (.iconst 1, 1) := by decide +kernel
theorem dX8_hasPartner_22 : decode cX8_hasPartner 22 = .ok (.goto 4, 3) := by decide +kernel
theorem dX8_hasPartner_25 : decode cX8_hasPartner 25 = .ok (.iconst 0, 1) := by decide +kernel
theorem dX8_hasPartner_26 : decode cX8_hasPartner 26 = .ok (.ireturn, 1) := by decide +kernel
theorem dX8_together_0 : decode cX8_together 0 = .ok (.iconst 0, 1) := by decide +kernel
theorem dX8_together_1 : decode cX8_together 1 = .ok (.istore_n 3, 1) := by decide +kernel
theorem dX8_together_2 : decode cX8_together 2 = .ok (.iconst 0, 1) := by decide +kernel
theorem dX8_together_3 : decode cX8_together 3 = .ok (.istore 4, 2) := by decide +kernel
theorem dX8_together_5 : decode cX8_together 5 = .ok (.iload 4, 2) := by decide +kernel
theorem dX8_together_7 : decode cX8_together 7 = .ok (.bipush 24, 2) := by decide +kernel
theorem dX8_together_9 : decode cX8_together 9 = .ok (.if_icmp .ge 28, 3) := by decide +kernel
theorem dX8_together_12 : decode cX8_together 12 = .ok (.iload_n 3, 1) := by decide +kernel
theorem dX8_together_13 : decode cX8_together 13 = .ok (.aload_n 0, 1) := by decide +kernel
theorem dX8_together_14 : decode cX8_together 14 = .ok (.iload_n 1, 1) := by decide +kernel
theorem dX8_together_15 : decode cX8_together 15 = .ok (.iload 4, 2) := by decide +kernel
theorem dX8_together_17 : decode cX8_together 17 = .ok (.invokevirtual 160, 3) := by decide +kernel
theorem dX8_together_20 : decode cX8_together 20 = .ok (.iload_n 2, 1) := by decide +kernel
theorem dX8_together_21 : decode cX8_together 21 = .ok (.if_icmp .ne 7, 3) := by decide +kernel
theorem dX8_together_24 : decode cX8_together 24 = .ok (.iconst 1, 1) := by decide +kernel
theorem dX8_together_25 : decode cX8_together 25 = .ok (.goto 4, 3) := by decide +kernel
theorem dX8_together_28 : decode cX8_together 28 = .ok (.iconst 0, 1) := by decide +kernel
theorem dX8_together_29 : decode cX8_together 29 = .ok (.iadd, 1) := by decide +kernel
theorem dX8_together_30 : decode cX8_together 30 = .ok (.istore_n 3, 1) := by decide +kernel
theorem dX8_together_31 : decode cX8_together 31 = .ok (.iinc 4 1, 3) := by decide +kernel
theorem dX8_together_34 : decode cX8_together 34 = .ok (.goto (-29), 3) := by decide +kernel
theorem dX8_together_37 : decode cX8_together 37 = .ok (.iload_n 3, 1) := by decide +kernel
theorem dX8_together_38 : decode cX8_together 38 = .ok (.ireturn, 1) := by decide +kernel
theorem dX8_runWith_0 : decode cX8_runWith 0 = .ok (.iconst 1, 1) := by decide +kernel
theorem dX8_runWith_1 : decode cX8_runWith 1 = .ok (.istore_n 3, 1) := by decide +kernel
theorem dX8_runWith_2 : decode cX8_runWith 2 = .ok (.iload_n 2, 1) := by decide +kernel
theorem dX8_runWith_3 : decode cX8_runWith 3 = .ok (.iconst 1, 1) := by decide +kernel
theorem dX8_runWith_4 : decode cX8_runWith 4 = .ok (.isub, 1) := by decide +kernel
theorem dX8_runWith_5 : decode cX8_runWith 5 = .ok (.istore 4, 2) := by decide +kernel
theorem dX8_runWith_7 : decode cX8_runWith 7 = .ok (.aload_n 0, 1) := by decide +kernel
theorem dX8_runWith_8 : decode cX8_runWith 8 = .ok (.iload_n 1, 1) := by decide +kernel
theorem dX8_runWith_9 : decode cX8_runWith 9 = .ok (.iload 4, 2) := by decide +kernel
theorem dX8_runWith_11 : decode cX8_runWith 11 = .ok (.invokevirtual 164, 3) := by decide +kernel
theorem dX8_runWith_14 : decode cX8_runWith 14 = .ok (.ifCond .eq 12, 3) := by decide +kernel
theorem dX8_runWith_17 : decode cX8_runWith 17 = .ok (.iinc 3 1, 3) := by decide +kernel
theorem dX8_runWith_20 : decode cX8_runWith 20 = .ok (.iinc 4 (-1), 3) := by decide +kernel
theorem dX8_runWith_23 : decode cX8_runWith 23 = .ok (.goto (-16), 3) := by decide +kernel
theorem dX8_runWith_26 : decode cX8_runWith 26 = .ok (.iload_n 2, 1) := by decide +kernel
theorem dX8_runWith_27 : decode cX8_runWith 27 = .ok (.iconst 1, 1) := by decide +kernel
theorem dX8_runWith_28 : decode cX8_runWith 28 = .ok (.iadd, 1) := by decide +kernel
theorem dX8_runWith_29 : decode cX8_runWith 29 = .ok (.istore 4, 2) := by decide +kernel
theorem dX8_runWith_31 : decode cX8_runWith 31 = .ok (.aload_n 0, 1) := by decide +kernel
theorem dX8_runWith_32 : decode cX8_runWith 32 = .ok (.iload_n 1, 1) := by decide +kernel
theorem dX8_runWith_33 : decode cX8_runWith 33 = .ok (.iload 4, 2) := by decide +kernel
theorem dX8_runWith_35 : decode cX8_runWith 35 = .ok (.invokevirtual 164, 3) := by decide +kernel
theorem dX8_runWith_38 : decode cX8_runWith 38 = .ok (.ifCond .eq 12, 3) := by decide +kernel
theorem dX8_runWith_41 : decode cX8_runWith 41 = .ok (.iinc 3 1, 3) := by decide +kernel
theorem dX8_runWith_44 : decode cX8_runWith 44 = .ok (.iinc 4 1, 3) := by decide +kernel
theorem dX8_runWith_47 : decode cX8_runWith 47 = .ok (.goto (-16), 3) := by decide +kernel
theorem dX8_runWith_50 : decode cX8_runWith 50 = .ok (.iload_n 3, 1) := by decide +kernel
theorem dX8_runWith_51 : decode cX8_runWith 51 = .ok (.ireturn, 1) := by decide +kernel
theorem dX8_whyNot_0 : decode cX8_whyNot 0 = .ok (.aload_n 0, 1) := by decide +kernel
theorem dX8_whyNot_1 : decode cX8_whyNot 1 = .ok (.getfield 13, 3) := by decide +kernel
theorem dX8_whyNot_4 : decode cX8_whyNot 4 = .ok (.iload_n 1, 1) := by decide +kernel
theorem dX8_whyNot_5 : decode cX8_whyNot 5 = .ok (.iaload, 1) := by decide +kernel
theorem dX8_whyNot_6 : decode cX8_whyNot 6 = .ok (.aload_n 0, 1) := by decide +kernel
theorem dX8_whyNot_7 : decode cX8_whyNot 7 = .ok (.getfield 13, 3) := by decide +kernel
theorem dX8_whyNot_10 : decode cX8_whyNot 10 = .ok (.iload_n 2, 1) := by decide +kernel
theorem dX8_whyNot_11 : decode cX8_whyNot 11 = .ok (.iaload, 1) := by decide +kernel
theorem dX8_whyNot_12 : decode cX8_whyNot 12 = .ok (.if_icmp .le 19, 3) := by decide +kernel
theorem dX8_whyNot_15 : decode cX8_whyNot 15 = .ok (.aload_n 0, 1) := by decide +kernel
theorem dX8_whyNot_16 : decode cX8_whyNot 16 = .ok (.getfield 13, 3) := by decide +kernel
theorem dX8_whyNot_19 : decode cX8_whyNot 19 = .ok (.iload_n 1, 1) := by decide +kernel
theorem dX8_whyNot_20 : decode cX8_whyNot 20 = .ok (.iaload, 1) := by decide +kernel
theorem dX8_whyNot_21 : decode cX8_whyNot 21 = .ok (.aload_n 0, 1) := by decide +kernel
theorem dX8_whyNot_22 : decode cX8_whyNot 22 = .ok (.getfield 13, 3) := by decide +kernel
theorem dX8_whyNot_25 : decode cX8_whyNot 25 = .ok (.iload_n 2, 1) := by decide +kernel
theorem dX8_whyNot_26 : decode cX8_whyNot 26 = .ok (.iaload, 1) := by decide +kernel
theorem dX8_whyNot_27 : decode cX8_whyNot 27 = .ok (.isub, 1) := by decide +kernel
theorem dX8_whyNot_28 : decode cX8_whyNot 28 = .ok (.goto 16, 3) := by decide +kernel
theorem dX8_whyNot_31 : decode cX8_whyNot 31 = .ok (.aload_n 0, 1) := by decide +kernel
theorem dX8_whyNot_32 : decode cX8_whyNot 32 = .ok (.getfield 13, 3) := by decide +kernel
theorem dX8_whyNot_35 : decode cX8_whyNot 35 = .ok (.iload_n 2, 1) := by decide +kernel
theorem dX8_whyNot_36 : decode cX8_whyNot 36 = .ok (.iaload, 1) := by decide +kernel
theorem dX8_whyNot_37 : decode cX8_whyNot 37 = .ok (.aload_n 0, 1) := by decide +kernel
theorem dX8_whyNot_38 : decode cX8_whyNot 38 = .ok (.getfield 13, 3) := by decide +kernel
theorem dX8_whyNot_41 : decode cX8_whyNot 41 = .ok (.iload_n 1, 1) := by decide +kernel
theorem dX8_whyNot_42 : decode cX8_whyNot 42 = .ok (.iaload, 1) := by decide +kernel
theorem dX8_whyNot_43 : decode cX8_whyNot 43 = .ok (.isub, 1) := by decide +kernel
theorem dX8_whyNot_44 : decode cX8_whyNot 44 = .ok (.istore 4, 2) := by decide +kernel
theorem dX8_whyNot_46 : decode cX8_whyNot 46 = .ok (.aload_n 0, 1) := by decide +kernel
theorem dX8_whyNot_47 : decode cX8_whyNot 47 = .ok (.iload_n 1, 1) := by decide +kernel
theorem dX8_whyNot_48 : decode cX8_whyNot 48 = .ok (.iload_n 2, 1) := by decide +kernel
theorem dX8_whyNot_49 : decode cX8_whyNot 49 = .ok (.invokevirtual 167, 3) := by decide +kernel
theorem dX8_whyNot_52 : decode cX8_whyNot 52 = .ok (.istore 5, 2) := by decide +kernel
theorem dX8_whyNot_54 : decode cX8_whyNot 54 = .ok (.aload_n 0, 1) := by decide +kernel
theorem dX8_whyNot_55 : decode cX8_whyNot 55 = .ok (.getfield 17, 3) := by decide +kernel
theorem dX8_whyNot_58 : decode cX8_whyNot 58 = .ok (.iload_n 1, 1) := by decide +kernel
theorem dX8_whyNot_59 : decode cX8_whyNot 59 = .ok (.baload, 1) := by decide +kernel
theorem dX8_whyNot_60 : decode cX8_whyNot 60 = .ok (.ifCond .ne 12, 3) := by decide +kernel
theorem dX8_whyNot_63 : decode cX8_whyNot 63 = .ok (.aload_n 0, 1) := by decide +kernel
theorem dX8_whyNot_64 : decode cX8_whyNot 64 = .ok (.getfield 17, 3) := by decide +kernel
theorem dX8_whyNot_67 : decode cX8_whyNot 67 = .ok (.iload_n 2, 1) := by decide +kernel
theorem dX8_whyNot_68 : decode cX8_whyNot 68 = .ok (.baload, 1) := by decide +kernel
theorem dX8_whyNot_69 : decode cX8_whyNot 69 = .ok (.ifCond .eq 5, 3) := by decide +kernel
theorem dX8_whyNot_72 : decode cX8_whyNot 72 = .ok (.iconst 1, 1) := by decide +kernel
theorem dX8_whyNot_73 : decode cX8_whyNot 73 = .ok (.ireturn, 1) := by decide +kernel
theorem dX8_whyNot_74 : decode cX8_whyNot 74 = .ok (.aload_n 0, 1) := by decide +kernel
theorem dX8_whyNot_75 : decode cX8_whyNot 75 = .ok (.iload_n 1, 1) := by decide +kernel
theorem dX8_whyNot_76 : decode cX8_whyNot 76 = .ok (.iload_n 2, 1) := by decide +kernel
theorem dX8_whyNot_77 : decode cX8_whyNot 77 = .ok (.invokevirtual 92, 3) := by decide +kernel
theorem dX8_whyNot_80 : decode cX8_whyNot 80 = .ok (.ifCond .ne 5, 3) := by decide +kernel
theorem dX8_whyNot_83 : decode cX8_whyNot 83 = .ok (.iconst 2, 1) := by decide +kernel
theorem dX8_whyNot_84 : decode cX8_whyNot 84 = .ok (.ireturn, 1) := by decide +kernel
theorem dX8_whyNot_85 : decode cX8_whyNot 85 = .ok (.aload_n 0, 1) := by decide +kernel
theorem dX8_whyNot_86 : decode cX8_whyNot 86 = .ok (.getfield 23, 3) := by decide +kernel
theorem dX8_whyNot_89 : decode cX8_whyNot 89 = .ok (.bipush 16, 2) := by decide +kernel
theorem dX8_whyNot_91 : decode cX8_whyNot 91 = .ok (.iload_n 1, 1) := by decide +kernel
theorem dX8_whyNot_92 : decode cX8_whyNot 92 = .ok (.imul, 1) := by decide +kernel
theorem dX8_whyNot_93 : decode cX8_whyNot 93 = .ok (.iload_n 2, 1) := by decide +kernel
theorem dX8_whyNot_94 : decode cX8_whyNot 94 = .ok (.iadd, 1) := by decide +kernel
theorem dX8_whyNot_95 : decode cX8_whyNot 95 = .ok (.baload, 1) := by decide +kernel
theorem dX8_whyNot_96 : decode cX8_whyNot 96 = .ok (.ifCond .eq 5, 3) := by decide +kernel
theorem dX8_whyNot_99 : decode cX8_whyNot 99 = .ok (.iconst 3, 1) := by decide +kernel
theorem dX8_whyNot_100 : decode cX8_whyNot 100 = .ok (.ireturn, 1) := by decide +kernel
theorem dX8_whyNot_101 : decode cX8_whyNot 101 = .ok (.aload_n 0, 1) := by decide +kernel
theorem dX8_whyNot_102 : decode cX8_whyNot 102 = .ok (.getfield 35, 3) := by decide +kernel
theorem dX8_whyNot_105 : decode cX8_whyNot 105 = .ok (.iconst 1, 1) := by decide +kernel
theorem dX8_whyNot_106 : decode cX8_whyNot 106 = .ok (.iaload, 1) := by decide +kernel
theorem dX8_whyNot_107 : decode cX8_whyNot 107 = .ok (.bipush (-4), 2) := by decide +kernel
theorem dX8_whyNot_109 : decode cX8_whyNot 109 = .ok (.if_icmp .eq 16, 3) := by decide +kernel
theorem dX8_whyNot_112 : decode cX8_whyNot 112 = .ok (.iload 4, 2) := by decide +kernel
theorem dX8_whyNot_114 : decode cX8_whyNot 114 = .ok (.aload_n 0, 1) := by decide +kernel
theorem dX8_whyNot_115 : decode cX8_whyNot 115 = .ok (.getfield 35, 3) := by decide +kernel
theorem dX8_whyNot_118 : decode cX8_whyNot 118 = .ok (.iconst 1, 1) := by decide +kernel
theorem dX8_whyNot_119 : decode cX8_whyNot 119 = .ok (.iaload, 1) := by decide +kernel
theorem dX8_whyNot_120 : decode cX8_whyNot 120 = .ok (.if_icmp .le 5, 3) := by decide +kernel
theorem dX8_whyNot_123 : decode cX8_whyNot 123 = .ok (.iconst 4, 1) := by decide +kernel
theorem dX8_whyNot_124 : decode cX8_whyNot 124 = .ok (.ireturn, 1) := by decide +kernel
theorem dX8_whyNot_125 : decode cX8_whyNot 125 = .ok (.aload_n 0, 1) := by decide +kernel
theorem dX8_whyNot_126 : decode cX8_whyNot 126 = .ok (.iload_n 1, 1) := by decide +kernel
theorem dX8_whyNot_127 : decode cX8_whyNot 127 = .ok (.iload_n 3, 1) := by decide +kernel
theorem dX8_whyNot_128 : decode cX8_whyNot 128 = .ok (.invokevirtual 160, 3) := by decide +kernel
theorem dX8_whyNot_131 : decode cX8_whyNot 131 = .ok (.bipush (-4), 2) := by decide +kernel
theorem dX8_whyNot_133 : decode cX8_whyNot 133 = .ok (.if_icmp .ne 14, 3) := by decide +kernel
theorem dX8_whyNot_136 : decode cX8_whyNot 136 = .ok (.aload_n 0, 1) := by decide +kernel
theorem dX8_whyNot_137 : decode cX8_whyNot 137 = .ok (.iload_n 2, 1) := by decide +kernel
theorem dX8_whyNot_138 : decode cX8_whyNot 138 = .ok (.iload_n 3, 1) := by decide +kernel
theorem dX8_whyNot_139 : decode cX8_whyNot 139 = .ok (.invokevirtual 160, 3) := by decide +kernel
theorem dX8_whyNot_142 : decode cX8_whyNot 142 = .ok (.bipush (-4), 2) := by decide +kernel
theorem dX8_whyNot_144 : decode cX8_whyNot 144 = .ok (.if_icmp .eq 5, 3) := by decide +kernel
theorem dX8_whyNot_147 : decode cX8_whyNot 147 = .ok (.iconst 5, 1) := by decide +kernel
theorem dX8_whyNot_148 : decode cX8_whyNot 148 = .ok (.ireturn, 1) := by decide +kernel
theorem dX8_whyNot_149 : decode cX8_whyNot 149 = .ok (.aload_n 0, 1) := by decide +kernel
theorem dX8_whyNot_150 : decode cX8_whyNot 150 = .ok (.getfield 35, 3) := by decide +kernel
theorem dX8_whyNot_153 : decode cX8_whyNot 153 = .ok (.iconst 0, 1) := by decide +kernel
theorem dX8_whyNot_154 : decode cX8_whyNot 154 = .ok (.iaload, 1) := by decide +kernel
theorem dX8_whyNot_155 : decode cX8_whyNot 155 = .ok (.bipush (-4), 2) := by decide +kernel
theorem dX8_whyNot_157 : decode cX8_whyNot 157 = .ok (.if_icmp .eq 17, 3) := by decide +kernel
theorem dX8_whyNot_160 : decode cX8_whyNot 160 = .ok (.iload 5, 2) := by decide +kernel
theorem dX8_whyNot_162 : decode cX8_whyNot 162 = .ok (.aload_n 0, 1) := by decide +kernel
theorem dX8_whyNot_163 : decode cX8_whyNot 163 = .ok (.getfield 35, 3) := by decide +kernel
theorem dX8_whyNot_166 : decode cX8_whyNot 166 = .ok (.iconst 0, 1) := by decide +kernel
theorem dX8_whyNot_167 : decode cX8_whyNot 167 = .ok (.iaload, 1) := by decide +kernel
theorem dX8_whyNot_168 : decode cX8_whyNot 168 = .ok (.if_icmp .lt 6, 3) := by decide +kernel
theorem dX8_whyNot_171 : decode cX8_whyNot 171 = .ok (.bipush 6, 2) := by decide +kernel
theorem dX8_whyNot_173 : decode cX8_whyNot 173 = .ok (.ireturn, 1) := by decide +kernel
theorem dX8_whyNot_174 : decode cX8_whyNot 174 = .ok (.aload_n 0, 1) := by decide +kernel
theorem dX8_whyNot_175 : decode cX8_whyNot 175 = .ok (.getfield 35, 3) := by decide +kernel
theorem dX8_whyNot_178 : decode cX8_whyNot 178 = .ok (.iconst 2, 1) := by decide +kernel
theorem dX8_whyNot_179 : decode cX8_whyNot 179 = .ok (.iaload, 1) := by decide +kernel
theorem dX8_whyNot_180 : decode cX8_whyNot 180 = .ok (.bipush (-4), 2) := by decide +kernel
theorem dX8_whyNot_182 : decode cX8_whyNot 182 = .ok (.if_icmp .eq 36, 3) := by decide +kernel
theorem dX8_whyNot_185 : decode cX8_whyNot 185 = .ok (.aload_n 0, 1) := by decide +kernel
theorem dX8_whyNot_186 : decode cX8_whyNot 186 = .ok (.iload_n 1, 1) := by decide +kernel
theorem dX8_whyNot_187 : decode cX8_whyNot 187 = .ok (.iload_n 3, 1) := by decide +kernel
theorem dX8_whyNot_188 : decode cX8_whyNot 188 = .ok (.invokevirtual 170, 3) := by decide +kernel
theorem dX8_whyNot_191 : decode cX8_whyNot 191 = .ok (.aload_n 0, 1) := by decide +kernel
theorem dX8_whyNot_192 : decode cX8_whyNot 192 = .ok (.getfield 35, 3) := by decide +kernel
theorem dX8_whyNot_195 : decode cX8_whyNot 195 = .ok (.iconst 2, 1) := by decide +kernel
theorem dX8_whyNot_196 : decode cX8_whyNot 196 = .ok (.iaload, 1) := by decide +kernel
theorem dX8_whyNot_197 : decode cX8_whyNot 197 = .ok (.if_icmp .gt 18, 3) := by decide +kernel
theorem dX8_whyNot_200 : decode cX8_whyNot 200 = .ok (.aload_n 0, 1) := by decide +kernel
theorem dX8_whyNot_201 : decode cX8_whyNot 201 = .ok (.iload_n 2, 1) := by decide +kernel
theorem dX8_whyNot_202 : decode cX8_whyNot 202 = .ok (.iload_n 3, 1) := by decide +kernel
theorem dX8_whyNot_203 : decode cX8_whyNot 203 = .ok (.invokevirtual 170, 3) := by decide +kernel
theorem dX8_whyNot_206 : decode cX8_whyNot 206 = .ok (.aload_n 0, 1) := by decide +kernel
theorem dX8_whyNot_207 : decode cX8_whyNot 207 = .ok (.getfield 35, 3) := by decide +kernel
theorem dX8_whyNot_210 : decode cX8_whyNot 210 = .ok (.iconst 2, 1) := by decide +kernel
theorem dX8_whyNot_211 : decode cX8_whyNot 211 = .ok (.iaload, 1) := by decide +kernel
theorem dX8_whyNot_212 : decode cX8_whyNot 212 = .ok (.if_icmp .le 6, 3) := by decide +kernel
theorem dX8_whyNot_215 : decode cX8_whyNot 215 = .ok (.bipush 7, 2) := by decide +kernel
theorem dX8_whyNot_217 : decode cX8_whyNot 217 = .ok (.ireturn, 1) := by decide +kernel
theorem dX8_whyNot_218 : decode cX8_whyNot 218 = .ok (.aload_n 0, 1) := by decide +kernel
theorem dX8_whyNot_219 : decode cX8_whyNot 219 = .ok (.getfield 35, 3) := by decide +kernel
theorem dX8_whyNot_222 : decode cX8_whyNot 222 = .ok (.iconst 3, 1) := by decide +kernel
theorem dX8_whyNot_223 : decode cX8_whyNot 223 = .ok (.iaload, 1) := by decide +kernel
theorem dX8_whyNot_224 : decode cX8_whyNot 224 = .ok (.iload_n 3, 1) := by decide +kernel
theorem dX8_whyNot_225 : decode cX8_whyNot 225 = .ok (.if_icmp .ne 13, 3) := by decide +kernel
theorem dX8_whyNot_228 : decode cX8_whyNot 228 = .ok (.iload 5, 2) := by decide +kernel
theorem dX8_whyNot_230 : decode cX8_whyNot 230 = .ok (.ifCond .ne 8, 3) := by decide +kernel
theorem dX8_whyNot_233 : decode cX8_whyNot 233 = .ok (.bipush 8, 2) := by decide +kernel
theorem dX8_whyNot_235 : decode cX8_whyNot 235 = .ok (.goto 4, 3) := by decide +kernel
theorem dX8_whyNot_238 : decode cX8_whyNot 238 = .ok (.iconst 0, 1) := by decide +kernel
theorem dX8_whyNot_239 : decode cX8_whyNot 239 = .ok (.ireturn, 1) := by decide +kernel
theorem dX8_areCouple_0 : decode cX8_areCouple 0 = .ok (.aload_n 0, 1) := by decide +kernel
theorem dX8_areCouple_1 : decode cX8_areCouple 1 = .ok (.iload_n 1, 1) := by decide +kernel
theorem dX8_areCouple_2 : decode cX8_areCouple 2 = .ok (.invokevirtual 84, 3) := by decide +kernel
theorem dX8_areCouple_5 : decode cX8_areCouple 5 = .ok (.ifCond .eq 45, 3) := by decide +kernel
theorem dX8_areCouple_8 : decode cX8_areCouple 8 = .ok (.aload_n 0, 1) := by decide +kernel
theorem dX8_areCouple_9 : decode cX8_areCouple 9 = .ok (.getfield 7, 3) := by decide +kernel
theorem dX8_areCouple_12 : decode cX8_areCouple 12 = .ok (.iload_n 1, 1) := by decide +kernel
theorem dX8_areCouple_13 : decode cX8_areCouple 13 = .ok (.baload, 1) := by decide +kernel
theorem dX8_areCouple_14 : decode cX8_areCouple 14 = .ok (.ifCond .ne 36, 3) := by decide +kernel
theorem dX8_areCouple_17 : decode cX8_areCouple 17 = .ok (.aload_n 0, 1) := by decide +kernel
theorem dX8_areCouple_18 : decode cX8_areCouple 18 = .ok (.iload_n 2, 1) := by decide +kernel
theorem dX8_areCouple_19 : decode cX8_areCouple 19 = .ok (.invokevirtual 84, 3) := by decide +kernel
theorem dX8_areCouple_22 : decode cX8_areCouple 22 = .ok (.ifCond .eq 28, 3) := by decide +kernel
theorem dX8_areCouple_25 : decode cX8_areCouple 25 = .ok (.aload_n 0, 1) := by decide +kernel
theorem dX8_areCouple_26 : decode cX8_areCouple 26 = .ok (.getfield 7, 3) := by decide +kernel
theorem dX8_areCouple_29 : decode cX8_areCouple 29 = .ok (.iload_n 2, 1) := by decide +kernel
theorem dX8_areCouple_30 : decode cX8_areCouple 30 = .ok (.baload, 1) := by decide +kernel
theorem dX8_areCouple_31 : decode cX8_areCouple 31 = .ok (.ifCond .eq 19, 3) := by decide +kernel
theorem dX8_areCouple_34 : decode cX8_areCouple 34 = .ok (.iload_n 3, 1) := by decide +kernel
theorem dX8_areCouple_35 : decode cX8_areCouple 35 = .ok (.i2l, 1) := by decide +kernel
theorem dX8_areCouple_36 : decode cX8_areCouple 36 = .ok (.lconst 0, 1) := by decide +kernel
theorem dX8_areCouple_37 : decode cX8_areCouple 37 = .ok (.ldc2_w 158, 3) := by decide +kernel
theorem dX8_areCouple_40 : decode cX8_areCouple 40 = .ok (.invokestatic 76, 3) := by decide +kernel
theorem dX8_areCouple_43 : decode cX8_areCouple 43 = .ok (.ifCond .eq 7, 3) := by decide +kernel
theorem dX8_areCouple_46 : decode cX8_areCouple 46 = .ok (.iconst 1, 1) := by decide +kernel
theorem dX8_areCouple_47 : decode cX8_areCouple 47 = .ok (.goto 4, 3) := by decide +kernel
theorem dX8_areCouple_50 : decode cX8_areCouple 50 = .ok (.iconst 0, 1) := by decide +kernel
theorem dX8_areCouple_51 : decode cX8_areCouple 51 = .ok (.ireturn, 1) := by decide +kernel
theorem dX8_couple_0 : decode cX8_couple 0 = .ok (.aload_n 0, 1) := by decide +kernel
theorem dX8_couple_1 : decode cX8_couple 1 = .ok (.iload_n 1, 1) := by decide +kernel
theorem dX8_couple_2 : decode cX8_couple 2 = .ok (.iload_n 3, 1) := by decide +kernel
theorem dX8_couple_3 : decode cX8_couple 3 = .ok (.iload_n 2, 1) := by decide +kernel
theorem dX8_couple_4 : decode cX8_couple 4 = .ok (.invokevirtual 173, 3) := by decide +kernel
theorem dX8_couple_7 : decode cX8_couple 7 = .ok (.aload_n 0, 1) := by decide +kernel
theorem dX8_couple_8 : decode cX8_couple 8 = .ok (.iload_n 2, 1) := by decide +kernel
theorem dX8_couple_9 : decode cX8_couple 9 = .ok (.iload_n 3, 1) := by decide +kernel
theorem dX8_couple_10 : decode cX8_couple 10 = .ok (.iload_n 1, 1) := by decide +kernel
theorem dX8_couple_11 : decode cX8_couple 11 = .ok (.invokevirtual 173, 3) := by decide +kernel
theorem dX8_couple_14 : decode cX8_couple 14 = .ok (.return_, 1) := by decide +kernel
theorem dX8_uncouple_0 : decode cX8_uncouple 0 = .ok (.aload_n 0, 1) := by decide +kernel
theorem dX8_uncouple_1 : decode cX8_uncouple 1 = .ok (.iload_n 1, 1) := by decide +kernel
theorem dX8_uncouple_2 : decode cX8_uncouple 2 = .ok (.iload_n 3, 1) := by decide +kernel
theorem dX8_uncouple_3 : decode cX8_uncouple 3 = .ok (.bipush (-4), 2) := by decide +kernel
theorem dX8_uncouple_5 : decode cX8_uncouple 5 = .ok (.invokevirtual 173, 3) := by decide +kernel
theorem dX8_uncouple_8 : decode cX8_uncouple 8 = .ok (.aload_n 0, 1) := by decide +kernel
theorem dX8_uncouple_9 : decode cX8_uncouple 9 = .ok (.iload_n 2, 1) := by decide +kernel
theorem dX8_uncouple_10 : decode cX8_uncouple 10 = .ok (.iload_n 3, 1) := by decide +kernel
theorem dX8_uncouple_11 : decode cX8_uncouple 11 = .ok (.bipush (-4), 2) := by decide +kernel
theorem dX8_uncouple_13 : decode cX8_uncouple 13 = .ok (.invokevirtual 173, 3) := by decide +kernel
theorem dX8_uncouple_16 : decode cX8_uncouple 16 = .ok (.return_, 1) := by decide +kernel
theorem dX8_ask_0 : decode cX8_ask 0 = .ok (.aload_n 0, 1) := by decide +kernel
theorem dX8_ask_1 : decode cX8_ask 1 = .ok (.iload_n 1, 1) := by decide +kernel
theorem dX8_ask_2 : decode cX8_ask 2 = .ok (.iload_n 2, 1) := by decide +kernel
theorem dX8_ask_3 : decode cX8_ask 3 = .ok (.iload_n 3, 1) := by decide +kernel
theorem dX8_ask_4 : decode cX8_ask 4 = .ok (.invokevirtual 177, 3) := by decide +kernel
theorem dX8_ask_7 : decode cX8_ask 7 = .ok (.ifCond .ne 5, 3) := by decide +kernel
theorem dX8_ask_10 : decode cX8_ask 10 = .ok (.iconst (-1), 1) := by decide +kernel
theorem dX8_ask_11 : decode cX8_ask 11 = .ok (.ireturn, 1) := by decide +kernel
theorem dX8_ask_12 : decode cX8_ask 12 = .ok (.aload_n 0, 1) := by decide +kernel
theorem dX8_ask_13 : decode cX8_ask 13 = .ok (.iload_n 1, 1) := by decide +kernel
theorem dX8_ask_14 : decode cX8_ask 14 = .ok (.iload_n 2, 1) := by decide +kernel
theorem dX8_ask_15 : decode cX8_ask 15 = .ok (.iload_n 3, 1) := by decide +kernel
theorem dX8_ask_16 : decode cX8_ask 16 = .ok (.invokevirtual 181, 3) := by decide +kernel
theorem dX8_ask_19 : decode cX8_ask 19 = .ok (.istore 4, 2) := by decide +kernel
theorem dX8_ask_21 : decode cX8_ask 21 = .ok (.iload 4, 2) := by decide +kernel
theorem dX8_ask_23 : decode cX8_ask 23 = .ok (.ifCond .le 9, 3) := by decide +kernel
theorem dX8_ask_26 : decode cX8_ask 26 = .ok (.bipush (-10), 2) := by decide +kernel
theorem dX8_ask_28 : decode cX8_ask 28 = .ok (.iload 4, 2) := by decide +kernel
theorem dX8_ask_30 : decode cX8_ask 30 = .ok (.isub, 1) := by decide +kernel
theorem dX8_ask_31 : decode cX8_ask 31 = .ok (.ireturn, 1) := by decide +kernel
theorem dX8_ask_32 : decode cX8_ask 32 = .ok (.aload_n 0, 1) := by decide +kernel
theorem dX8_ask_33 : decode cX8_ask 33 = .ok (.iload_n 1, 1) := by decide +kernel
theorem dX8_ask_34 : decode cX8_ask 34 = .ok (.iload_n 2, 1) := by decide +kernel
theorem dX8_ask_35 : decode cX8_ask 35 = .ok (.iload_n 3, 1) := by decide +kernel
theorem dX8_ask_36 : decode cX8_ask 36 = .ok (.invokevirtual 185, 3) := by decide +kernel
theorem dX8_ask_39 : decode cX8_ask 39 = .ok (.iconst 1, 1) := by decide +kernel
theorem dX8_ask_40 : decode cX8_ask 40 = .ok (.ireturn, 1) := by decide +kernel
theorem dX8_why_0 : decode cX8_why 0 = .ok (.aload_n 0, 1) := by decide +kernel
theorem dX8_why_1 : decode cX8_why 1 = .ok (.iload_n 1, 1) := by decide +kernel
theorem dX8_why_2 : decode cX8_why 2 = .ok (.iload_n 2, 1) := by decide +kernel
theorem dX8_why_3 : decode cX8_why 3 = .ok (.iload_n 3, 1) := by decide +kernel
theorem dX8_why_4 : decode cX8_why 4 = .ok (.invokevirtual 177, 3) := by decide +kernel
theorem dX8_why_7 : decode cX8_why 7 = .ok (.ifCond .eq 13, 3) := by decide +kernel
theorem dX8_why_10 : decode cX8_why 10 = .ok (.aload_n 0, 1) := by decide +kernel
theorem dX8_why_11 : decode cX8_why 11 = .ok (.iload_n 1, 1) := by decide +kernel
theorem dX8_why_12 : decode cX8_why 12 = .ok (.iload_n 2, 1) := by decide +kernel
theorem dX8_why_13 : decode cX8_why 13 = .ok (.iload_n 3, 1) := by decide +kernel
theorem dX8_why_14 : decode cX8_why 14 = .ok (.invokevirtual 181, 3) := by decide +kernel
theorem dX8_why_17 : decode cX8_why 17 = .ok (.goto 4, 3) := by decide +kernel
theorem dX8_why_20 : decode cX8_why 20 = .ok (.iconst (-1), 1) := by decide +kernel
theorem dX8_why_21 : decode cX8_why 21 = .ok (.ireturn, 1) := by decide +kernel
theorem dX8_refuse_0 : decode cX8_refuse 0 = .ok (.aload_n 0, 1) := by decide +kernel
theorem dX8_refuse_1 : decode cX8_refuse 1 = .ok (.iload_n 2, 1) := by decide +kernel
theorem dX8_refuse_2 : decode cX8_refuse 2 = .ok (.iload_n 1, 1) := by decide +kernel
theorem dX8_refuse_3 : decode cX8_refuse 3 = .ok (.iload_n 3, 1) := by decide +kernel
theorem dX8_refuse_4 : decode cX8_refuse 4 = .ok (.invokevirtual 177, 3) := by decide +kernel
theorem dX8_refuse_7 : decode cX8_refuse 7 = .ok (.ifCond .ne 5, 3) := by decide +kernel
theorem dX8_refuse_10 : decode cX8_refuse 10 = .ok (.iconst (-1), 1) := by decide +kernel
theorem dX8_refuse_11 : decode cX8_refuse 11 = .ok (.ireturn, 1) := by decide +kernel
theorem dX8_refuse_12 : decode cX8_refuse 12 = .ok (.aload_n 0, 1) := by decide +kernel
theorem dX8_refuse_13 : decode cX8_refuse 13 = .ok (.iload_n 2, 1) := by decide +kernel
theorem dX8_refuse_14 : decode cX8_refuse 14 = .ok (.iload_n 1, 1) := by decide +kernel
theorem dX8_refuse_15 : decode cX8_refuse 15 = .ok (.iload_n 3, 1) := by decide +kernel
theorem dX8_refuse_16 : decode cX8_refuse 16 = .ok (.invokevirtual 181, 3) := by decide +kernel
theorem dX8_refuse_19 : decode cX8_refuse 19 = .ok (.istore 4, 2) := by decide +kernel
theorem dX8_refuse_21 : decode cX8_refuse 21 = .ok (.iload 4, 2) := by decide +kernel
theorem dX8_refuse_23 : decode cX8_refuse 23 = .ok (.ifCond .le 9, 3) := by decide +kernel
theorem dX8_refuse_26 : decode cX8_refuse 26 = .ok (.bipush (-10), 2) := by decide +kernel
theorem dX8_refuse_28 : decode cX8_refuse 28 = .ok (.iload 4, 2) := by decide +kernel
theorem dX8_refuse_30 : decode cX8_refuse 30 = .ok (.isub, 1) := by decide +kernel
theorem dX8_refuse_31 : decode cX8_refuse 31 = .ok (.ireturn, 1) := by decide +kernel
theorem dX8_refuse_32 : decode cX8_refuse 32 = .ok (.aload_n 0, 1) := by decide +kernel
theorem dX8_refuse_33 : decode cX8_refuse 33 = .ok (.iload_n 1, 1) := by decide +kernel
theorem dX8_refuse_34 : decode cX8_refuse 34 = .ok (.iload_n 3, 1) := by decide +kernel
theorem dX8_refuse_35 : decode cX8_refuse 35 = .ok (.bipush (-5), 2) := by decide +kernel
theorem dX8_refuse_37 : decode cX8_refuse 37 = .ok (.invokevirtual 173, 3) := by decide +kernel
theorem dX8_refuse_40 : decode cX8_refuse 40 = .ok (.iconst 1, 1) := by decide +kernel
theorem dX8_refuse_41 : decode cX8_refuse 41 = .ok (.ireturn, 1) := by decide +kernel
theorem dX8_part_0 : decode cX8_part 0 = .ok (.aload_n 0, 1) := by decide +kernel
theorem dX8_part_1 : decode cX8_part 1 = .ok (.iload_n 1, 1) := by decide +kernel
theorem dX8_part_2 : decode cX8_part 2 = .ok (.iload_n 2, 1) := by decide +kernel
theorem dX8_part_3 : decode cX8_part 3 = .ok (.iload_n 3, 1) := by decide +kernel
theorem dX8_part_4 : decode cX8_part 4 = .ok (.invokevirtual 177, 3) := by decide +kernel
theorem dX8_part_7 : decode cX8_part 7 = .ok (.ifCond .ne 5, 3) := by decide +kernel
theorem dX8_part_10 : decode cX8_part 10 = .ok (.iconst (-1), 1) := by decide +kernel
theorem dX8_part_11 : decode cX8_part 11 = .ok (.ireturn, 1) := by decide +kernel
theorem dX8_part_12 : decode cX8_part 12 = .ok (.aload_n 0, 1) := by decide +kernel
theorem dX8_part_13 : decode cX8_part 13 = .ok (.iload_n 1, 1) := by decide +kernel
theorem dX8_part_14 : decode cX8_part 14 = .ok (.iload_n 3, 1) := by decide +kernel
theorem dX8_part_15 : decode cX8_part 15 = .ok (.invokevirtual 160, 3) := by decide +kernel
theorem dX8_part_18 : decode cX8_part 18 = .ok (.iload_n 2, 1) := by decide +kernel
theorem dX8_part_19 : decode cX8_part 19 = .ok (.if_icmp .eq 6, 3) := by decide +kernel
theorem dX8_part_22 : decode cX8_part 22 = .ok (.bipush (-2), 2) := by decide +kernel
theorem dX8_part_24 : decode cX8_part 24 = .ok (.ireturn, 1) := by decide +kernel
theorem dX8_part_25 : decode cX8_part 25 = .ok (.aload_n 0, 1) := by decide +kernel
theorem dX8_part_26 : decode cX8_part 26 = .ok (.iload_n 1, 1) := by decide +kernel
theorem dX8_part_27 : decode cX8_part 27 = .ok (.iload_n 2, 1) := by decide +kernel
theorem dX8_part_28 : decode cX8_part 28 = .ok (.iload_n 3, 1) := by decide +kernel
theorem dX8_part_29 : decode cX8_part 29 = .ok (.invokevirtual 188, 3) := by decide +kernel
theorem dX8_part_32 : decode cX8_part 32 = .ok (.iconst 1, 1) := by decide +kernel
theorem dX8_part_33 : decode cX8_part 33 = .ok (.ireturn, 1) := by decide +kernel
theorem dX8_swap_0 : decode cX8_swap 0 = .ok (.aload_n 0, 1) := by decide +kernel
theorem dX8_swap_1 : decode cX8_swap 1 = .ok (.iload_n 1, 1) := by decide +kernel
theorem dX8_swap_2 : decode cX8_swap 2 = .ok (.iload_n 2, 1) := by decide +kernel
theorem dX8_swap_3 : decode cX8_swap 3 = .ok (.invokevirtual 88, 3) := by decide +kernel
theorem dX8_swap_6 : decode cX8_swap 6 = .ok (.ifCond .eq 33, 3) := by decide +kernel
theorem dX8_swap_9 : decode cX8_swap 9 = .ok (.aload_n 0, 1) := by decide +kernel
theorem dX8_swap_10 : decode cX8_swap 10 = .ok (.getfield 7, 3) := by decide +kernel
theorem dX8_swap_13 : decode cX8_swap 13 = .ok (.iload_n 1, 1) := by decide +kernel
theorem dX8_swap_14 : decode cX8_swap 14 = .ok (.baload, 1) := by decide +kernel
theorem dX8_swap_15 : decode cX8_swap 15 = .ok (.ifCond .ne 24, 3) := by decide +kernel
theorem dX8_swap_18 : decode cX8_swap 18 = .ok (.aload_n 0, 1) := by decide +kernel
theorem dX8_swap_19 : decode cX8_swap 19 = .ok (.getfield 7, 3) := by decide +kernel
theorem dX8_swap_22 : decode cX8_swap 22 = .ok (.iload_n 2, 1) := by decide +kernel
theorem dX8_swap_23 : decode cX8_swap 23 = .ok (.baload, 1) := by decide +kernel
theorem dX8_swap_24 : decode cX8_swap 24 = .ok (.ifCond .ne 15, 3) := by decide +kernel
theorem dX8_swap_27 : decode cX8_swap 27 = .ok (.iload_n 3, 1) := by decide +kernel
theorem dX8_swap_28 : decode cX8_swap 28 = .ok (.i2l, 1) := by decide +kernel
theorem dX8_swap_29 : decode cX8_swap 29 = .ok (.lconst 0, 1) := by decide +kernel
theorem dX8_swap_30 : decode cX8_swap 30 = .ok (.ldc2_w 158, 3) := by decide +kernel
theorem dX8_swap_33 : decode cX8_swap 33 = .ok (.invokestatic 76, 3) := by decide +kernel
theorem dX8_swap_36 : decode cX8_swap 36 = .ok (.ifCond .ne 5, 3) := by decide +kernel
theorem dX8_swap_39 : decode cX8_swap 39 = .ok (.iconst (-1), 1) := by decide +kernel
theorem dX8_swap_40 : decode cX8_swap 40 = .ok (.ireturn, 1) := by decide +kernel
theorem dX8_swap_41 : decode cX8_swap 41 = .ok (.aload_n 0, 1) := by decide +kernel
theorem dX8_swap_42 : decode cX8_swap 42 = .ok (.iload_n 1, 1) := by decide +kernel
theorem dX8_swap_43 : decode cX8_swap 43 = .ok (.iload_n 3, 1) := by decide +kernel
theorem dX8_swap_44 : decode cX8_swap 44 = .ok (.invokevirtual 160, 3) := by decide +kernel
theorem dX8_swap_47 : decode cX8_swap 47 = .ok (.istore 4, 2) := by decide +kernel
theorem dX8_swap_49 : decode cX8_swap 49 = .ok (.aload_n 0, 1) := by decide +kernel
theorem dX8_swap_50 : decode cX8_swap 50 = .ok (.iload_n 2, 1) := by decide +kernel
theorem dX8_swap_51 : decode cX8_swap 51 = .ok (.iload_n 3, 1) := by decide +kernel
theorem dX8_swap_52 : decode cX8_swap 52 = .ok (.invokevirtual 160, 3) := by decide +kernel
theorem dX8_swap_55 : decode cX8_swap 55 = .ok (.istore 5, 2) := by decide +kernel
theorem dX8_swap_57 : decode cX8_swap 57 = .ok (.iload 4, 2) := by decide +kernel
theorem dX8_swap_59 : decode cX8_swap 59 = .ok (.ifCond .lt 8, 3) := by decide +kernel
theorem dX8_swap_62 : decode cX8_swap 62 = .ok (.iload 5, 2) := by decide +kernel
theorem dX8_swap_64 : decode cX8_swap 64 = .ok (.ifCond .ge 6, 3) := by decide +kernel
theorem dX8_swap_67 : decode cX8_swap 67 = .ok (.bipush (-2), 2) := by decide +kernel
theorem dX8_swap_69 : decode cX8_swap 69 = .ok (.ireturn, 1) := by decide +kernel
theorem dX8_swap_70 : decode cX8_swap 70 = .ok (.aload_n 0, 1) := by decide +kernel
theorem dX8_swap_71 : decode cX8_swap 71 = .ok (.iload_n 1, 1) := by decide +kernel
theorem dX8_swap_72 : decode cX8_swap 72 = .ok (.iload 4, 2) := by decide +kernel
theorem dX8_swap_74 : decode cX8_swap 74 = .ok (.iload_n 3, 1) := by decide +kernel
theorem dX8_swap_75 : decode cX8_swap 75 = .ok (.invokevirtual 188, 3) := by decide +kernel
theorem dX8_swap_78 : decode cX8_swap 78 = .ok (.aload_n 0, 1) := by decide +kernel
theorem dX8_swap_79 : decode cX8_swap 79 = .ok (.iload_n 2, 1) := by decide +kernel
theorem dX8_swap_80 : decode cX8_swap 80 = .ok (.iload 5, 2) := by decide +kernel
theorem dX8_swap_82 : decode cX8_swap 82 = .ok (.iload_n 3, 1) := by decide +kernel
theorem dX8_swap_83 : decode cX8_swap 83 = .ok (.invokevirtual 188, 3) := by decide +kernel
theorem dX8_swap_86 : decode cX8_swap 86 = .ok (.aload_n 0, 1) := by decide +kernel
theorem dX8_swap_87 : decode cX8_swap 87 = .ok (.iload_n 1, 1) := by decide +kernel
theorem dX8_swap_88 : decode cX8_swap 88 = .ok (.iload 5, 2) := by decide +kernel
theorem dX8_swap_90 : decode cX8_swap 90 = .ok (.iload_n 3, 1) := by decide +kernel
theorem dX8_swap_91 : decode cX8_swap 91 = .ok (.invokevirtual 181, 3) := by decide +kernel
theorem dX8_swap_94 : decode cX8_swap 94 = .ok (.istore 6, 2) := by decide +kernel
theorem dX8_swap_96 : decode cX8_swap 96 = .ok (.iload 6, 2) := by decide +kernel
theorem dX8_swap_98 : decode cX8_swap 98 = .ok (.ifCond .le 8, 3) := by decide +kernel
theorem dX8_swap_101 : decode cX8_swap 101 = .ok (.iload 6, 2) := by decide +kernel
theorem dX8_swap_103 : decode cX8_swap 103 = .ok (.goto 11, 3) := by decide +kernel
theorem dX8_swap_106 : decode cX8_swap 106 = .ok (.aload_n 0, 1) := by decide +kernel
theorem dX8_swap_107 : decode cX8_swap 107 = .ok (.iload_n 2, 1) := by decide +kernel
theorem dX8_swap_108 : decode cX8_swap 108 = .ok (.iload 4, 2) := by decide +kernel
theorem dX8_swap_110 : decode cX8_swap 110 = .ok (.iload_n 3, 1) := by decide +kernel
theorem dX8_swap_111 : decode cX8_swap 111 = .ok (.invokevirtual 181, 3) := by decide +kernel
theorem dX8_swap_114 : decode cX8_swap 114 = .ok (.istore 6, 2) := by decide +kernel
theorem dX8_swap_116 : decode cX8_swap 116 = .ok (.aload_n 0, 1) := by decide +kernel
theorem dX8_swap_117 : decode cX8_swap 117 = .ok (.iload_n 1, 1) := by decide +kernel
theorem dX8_swap_118 : decode cX8_swap 118 = .ok (.iload 6, 2) := by decide +kernel
theorem dX8_swap_120 : decode cX8_swap 120 = .ok (.ifCond .le 8, 3) := by decide +kernel
theorem dX8_swap_123 : decode cX8_swap 123 = .ok (.iload 4, 2) := by decide +kernel
theorem dX8_swap_125 : decode cX8_swap 125 = .ok (.goto 5, 3) := by decide +kernel
theorem dX8_swap_128 : decode cX8_swap 128 = .ok (.iload 5, 2) := by decide +kernel
theorem dX8_swap_130 : decode cX8_swap 130 = .ok (.iload_n 3, 1) := by decide +kernel
theorem dX8_swap_131 : decode cX8_swap 131 = .ok (.invokevirtual 185, 3) := by decide +kernel
theorem dX8_swap_134 : decode cX8_swap 134 = .ok (.aload_n 0, 1) := by decide +kernel
theorem dX8_swap_135 : decode cX8_swap 135 = .ok (.iload_n 2, 1) := by decide +kernel
theorem dX8_swap_136 : decode cX8_swap 136 = .ok (.iload 6, 2) := by decide +kernel
theorem dX8_swap_138 : decode cX8_swap 138 = .ok (.ifCond .le 8, 3) := by decide +kernel
theorem dX8_swap_141 : decode cX8_swap 141 = .ok (.iload 5, 2) := by decide +kernel
theorem dX8_swap_143 : decode cX8_swap 143 = .ok (.goto 5, 3) := by decide +kernel
theorem dX8_swap_146 : decode cX8_swap 146 = .ok (.iload 4, 2) := by decide +kernel
theorem dX8_swap_148 : decode cX8_swap 148 = .ok (.iload_n 3, 1) := by decide +kernel
theorem dX8_swap_149 : decode cX8_swap 149 = .ok (.invokevirtual 185, 3) := by decide +kernel
theorem dX8_swap_152 : decode cX8_swap 152 = .ok (.iload 6, 2) := by decide +kernel
theorem dX8_swap_154 : decode cX8_swap 154 = .ok (.ifCond .le 11, 3) := by decide +kernel
theorem dX8_swap_157 : decode cX8_swap 157 = .ok (.bipush (-10), 2) := by decide +kernel
theorem dX8_swap_159 : decode cX8_swap 159 = .ok (.iload 6, 2) := by decide +kernel
theorem dX8_swap_161 : decode cX8_swap 161 = .ok (.isub, 1) := by decide +kernel
theorem dX8_swap_162 : decode cX8_swap 162 = .ok (.goto 4, 3) := by decide +kernel
theorem dX8_swap_165 : decode cX8_swap 165 = .ok (.iconst 1, 1) := by decide +kernel
theorem dX8_swap_166 : decode cX8_swap 166 = .ok (.ireturn, 1) := by decide +kernel
theorem dX8_card_0 : decode cX8_card 0 = .ok (.aload_n 0, 1) := by decide +kernel
theorem dX8_card_1 : decode cX8_card 1 = .ok (.iload_n 1, 1) := by decide +kernel
theorem dX8_card_2 : decode cX8_card 2 = .ok (.invokevirtual 84, 3) := by decide +kernel
theorem dX8_card_5 : decode cX8_card 5 = .ok (.ifCond .eq 24, 3) := by decide +kernel
theorem dX8_card_8 : decode cX8_card 8 = .ok (.iload_n 2, 1) := by decide +kernel
theorem dX8_card_9 : decode cX8_card 9 = .ok (.i2l, 1) := by decide +kernel
theorem dX8_card_10 : decode cX8_card 10 = .ok (.lconst 0, 1) := by decide +kernel
theorem dX8_card_11 : decode cX8_card 11 = .ok (.ldc2_w 158, 3) := by decide +kernel
theorem dX8_card_14 : decode cX8_card 14 = .ok (.invokestatic 76, 3) := by decide +kernel
theorem dX8_card_17 : decode cX8_card 17 = .ok (.ifCond .eq 12, 3) := by decide +kernel
theorem dX8_card_20 : decode cX8_card 20 = .ok (.aload_n 0, 1) := by decide +kernel
theorem dX8_card_21 : decode cX8_card 21 = .ok (.iload_n 1, 1) := by decide +kernel
theorem dX8_card_22 : decode cX8_card 22 = .ok (.iload_n 2, 1) := by decide +kernel
theorem dX8_card_23 : decode cX8_card 23 = .ok (.invokevirtual 160, 3) := by decide +kernel
theorem dX8_card_26 : decode cX8_card 26 = .ok (.goto 4, 3) := by decide +kernel
theorem dX8_card_29 : decode cX8_card 29 = .ok (.iconst (-1), 1) := by decide +kernel
theorem dX8_card_30 : decode cX8_card 30 = .ok (.ireturn, 1) := by decide +kernel
theorem dX8_ill_0 : decode cX8_ill 0 = .ok (.aload_n 0, 1) := by decide +kernel
theorem dX8_ill_1 : decode cX8_ill 1 = .ok (.iload_n 1, 1) := by decide +kernel
theorem dX8_ill_2 : decode cX8_ill 2 = .ok (.invokevirtual 84, 3) := by decide +kernel
theorem dX8_ill_5 : decode cX8_ill 5 = .ok (.ifCond .ne 5, 3) := by decide +kernel
theorem dX8_ill_8 : decode cX8_ill 8 = .ok (.iconst (-1), 1) := by decide +kernel
theorem dX8_ill_9 : decode cX8_ill 9 = .ok (.ireturn, 1) := by decide +kernel
theorem dX8_ill_10 : decode cX8_ill 10 = .ok (.aload_n 0, 1) := by decide +kernel
theorem dX8_ill_11 : decode cX8_ill 11 = .ok (.getfield 17, 3) := by decide +kernel
theorem dX8_ill_14 : decode cX8_ill 14 = .ok (.iload_n 1, 1) := by decide +kernel
theorem dX8_ill_15 : decode cX8_ill 15 = .ok (.baload, 1) := by decide +kernel
theorem dX8_ill_16 : decode cX8_ill 16 = .ok (.ifCond .eq 6, 3) := by decide +kernel
theorem dX8_ill_19 : decode cX8_ill 19 = .ok (.bipush (-2), 2) := by decide +kernel
theorem dX8_ill_21 : decode cX8_ill 21 = .ok (.ireturn, 1) := by decide +kernel
theorem dX8_ill_22 : decode cX8_ill 22 = .ok (.aload_n 0, 1) := by decide +kernel
theorem dX8_ill_23 : decode cX8_ill 23 = .ok (.getfield 17, 3) := by decide +kernel
theorem dX8_ill_26 : decode cX8_ill 26 = .ok (.iload_n 1, 1) := by decide +kernel
theorem dX8_ill_27 : decode cX8_ill 27 = .ok (.iconst 1, 1) := by decide +kernel
theorem dX8_ill_28 : decode cX8_ill 28 = .ok (.bastore, 1) := by decide +kernel
theorem dX8_ill_29 : decode cX8_ill 29 = .ok (.iconst 0, 1) := by decide +kernel
theorem dX8_ill_30 : decode cX8_ill 30 = .ok (.istore_n 2, 1) := by decide +kernel
theorem dX8_ill_31 : decode cX8_ill 31 = .ok (.iconst 0, 1) := by decide +kernel
theorem dX8_ill_32 : decode cX8_ill 32 = .ok (.istore_n 3, 1) := by decide +kernel
theorem dX8_ill_33 : decode cX8_ill 33 = .ok (.iload_n 3, 1) := by decide +kernel
theorem dX8_ill_34 : decode cX8_ill 34 = .ok (.bipush 24, 2) := by decide +kernel
theorem dX8_ill_36 : decode cX8_ill 36 = .ok (.if_icmp .ge 33, 3) := by decide +kernel
theorem dX8_ill_39 : decode cX8_ill 39 = .ok (.aload_n 0, 1) := by decide +kernel
theorem dX8_ill_40 : decode cX8_ill 40 = .ok (.iload_n 1, 1) := by decide +kernel
theorem dX8_ill_41 : decode cX8_ill 41 = .ok (.iload_n 3, 1) := by decide +kernel
theorem dX8_ill_42 : decode cX8_ill 42 = .ok (.invokevirtual 160, 3) := by decide +kernel
theorem dX8_ill_45 : decode cX8_ill 45 = .ok (.ifCond .lt 18, 3) := by decide +kernel
theorem dX8_ill_48 : decode cX8_ill 48 = .ok (.aload_n 0, 1) := by decide +kernel
theorem dX8_ill_49 : decode cX8_ill 49 = .ok (.iload_n 1, 1) := by decide +kernel
theorem dX8_ill_50 : decode cX8_ill 50 = .ok (.aload_n 0, 1) := by decide +kernel
theorem dX8_ill_51 : decode cX8_ill 51 = .ok (.iload_n 1, 1) := by decide +kernel
theorem dX8_ill_52 : decode cX8_ill 52 = .ok (.iload_n 3, 1) := by decide +kernel
theorem dX8_ill_53 : decode cX8_ill 53 = .ok (.invokevirtual 160, 3) := by decide +kernel
theorem dX8_ill_56 : decode cX8_ill 56 = .ok (.iload_n 3, 1) := by decide +kernel
theorem dX8_ill_57 : decode cX8_ill 57 = .ok (.invokevirtual 188, 3) := by decide +kernel
theorem dX8_ill_60 : decode cX8_ill 60 = .ok (.iinc 2 1, 3) := by decide +kernel
theorem dX8_ill_63 : decode cX8_ill 63 = .ok (.iinc 3 1, 3) := by decide +kernel
theorem dX8_ill_66 : decode cX8_ill 66 = .ok (.goto (-33), 3) := by decide +kernel
theorem dX8_ill_69 : decode cX8_ill 69 = .ok (.iload_n 2, 1) := by decide +kernel
theorem dX8_ill_70 : decode cX8_ill 70 = .ok (.ireturn, 1) := by decide +kernel
theorem dX8_well_0 : decode cX8_well 0 = .ok (.aload_n 0, 1) := by decide +kernel
theorem dX8_well_1 : decode cX8_well 1 = .ok (.iload_n 1, 1) := by decide +kernel
theorem dX8_well_2 : decode cX8_well 2 = .ok (.invokevirtual 84, 3) := by decide +kernel
theorem dX8_well_5 : decode cX8_well 5 = .ok (.ifCond .ne 5, 3) := by decide +kernel
theorem dX8_well_8 : decode cX8_well 8 = .ok (.iconst (-1), 1) := by decide +kernel
theorem dX8_well_9 : decode cX8_well 9 = .ok (.ireturn, 1) := by decide +kernel
theorem dX8_well_10 : decode cX8_well 10 = .ok (.aload_n 0, 1) := by decide +kernel
theorem dX8_well_11 : decode cX8_well 11 = .ok (.getfield 17, 3) := by decide +kernel
theorem dX8_well_14 : decode cX8_well 14 = .ok (.iload_n 1, 1) := by decide +kernel
theorem dX8_well_15 : decode cX8_well 15 = .ok (.baload, 1) := by decide +kernel
theorem dX8_well_16 : decode cX8_well 16 = .ok (.ifCond .ne 6, 3) := by decide +kernel
theorem dX8_well_19 : decode cX8_well 19 = .ok (.bipush (-2), 2) := by decide +kernel
theorem dX8_well_21 : decode cX8_well 21 = .ok (.ireturn, 1) := by decide +kernel
theorem dX8_well_22 : decode cX8_well 22 = .ok (.aload_n 0, 1) := by decide +kernel
theorem dX8_well_23 : decode cX8_well 23 = .ok (.getfield 17, 3) := by decide +kernel
theorem dX8_well_26 : decode cX8_well 26 = .ok (.iload_n 1, 1) := by decide +kernel
theorem dX8_well_27 : decode cX8_well 27 = .ok (.iconst 0, 1) := by decide +kernel
theorem dX8_well_28 : decode cX8_well 28 = .ok (.bastore, 1) := by decide +kernel
theorem dX8_well_29 : decode cX8_well 29 = .ok (.iconst 1, 1) := by decide +kernel
theorem dX8_well_30 : decode cX8_well 30 = .ok (.ireturn, 1) := by decide +kernel
theorem dX8_layDance_0 : decode cX8_layDance 0 = .ok (.iconst 0, 1) := by decide +kernel
theorem dX8_layDance_1 : decode cX8_layDance 1 = .ok (.istore_n 2, 1) := by decide +kernel
theorem dX8_layDance_2 : decode cX8_layDance 2 = .ok (.iload_n 2, 1) := by decide +kernel
theorem dX8_layDance_3 : decode cX8_layDance 3 = .ok (.bipush 16, 2) := by decide +kernel
theorem dX8_layDance_5 : decode cX8_layDance 5 = .ok (.if_icmp .ge 74, 3) := by decide +kernel
theorem dX8_layDance_8 : decode cX8_layDance 8 = .ok (.aload_n 0, 1) := by decide +kernel
theorem dX8_layDance_9 : decode cX8_layDance 9 = .ok (.getfield 44, 3) := by decide +kernel
theorem dX8_layDance_12 : decode cX8_layDance 12 = .ok (.iload_n 2, 1) := by decide +kernel
theorem dX8_layDance_13 : decode cX8_layDance 13 = .ok (.bipush (-4), 2) := by decide +kernel
theorem dX8_layDance_15 : decode cX8_layDance 15 = .ok (.iastore, 1) := by decide +kernel
theorem dX8_layDance_16 : decode cX8_layDance 16 = .ok (.aload_n 0, 1) := by decide +kernel
theorem dX8_layDance_17 : decode cX8_layDance 17 = .ok (.getfield 47, 3) := by decide +kernel
theorem dX8_layDance_20 : decode cX8_layDance 20 = .ok (.iload_n 2, 1) := by decide +kernel
theorem dX8_layDance_21 : decode cX8_layDance 21 = .ok (.iconst 0, 1) := by decide +kernel
theorem dX8_layDance_22 : decode cX8_layDance 22 = .ok (.bastore, 1) := by decide +kernel
theorem dX8_layDance_23 : decode cX8_layDance 23 = .ok (.iconst 0, 1) := by decide +kernel
theorem dX8_layDance_24 : decode cX8_layDance 24 = .ok (.istore_n 3, 1) := by decide +kernel
theorem dX8_layDance_25 : decode cX8_layDance 25 = .ok (.iload_n 3, 1) := by decide +kernel
theorem dX8_layDance_26 : decode cX8_layDance 26 = .ok (.bipush 16, 2) := by decide +kernel
theorem dX8_layDance_28 : decode cX8_layDance 28 = .ok (.if_icmp .ge 45, 3) := by decide +kernel
theorem dX8_layDance_31 : decode cX8_layDance 31 = .ok (.aload_n 0, 1) := by decide +kernel
theorem dX8_layDance_32 : decode cX8_layDance 32 = .ok (.getfield 41, 3) := by decide +kernel
theorem dX8_layDance_35 : decode cX8_layDance 35 = .ok (.bipush 16, 2) := by decide +kernel
theorem dX8_layDance_37 : decode cX8_layDance 37 = .ok (.iload_n 2, 1) := by decide +kernel
theorem dX8_layDance_38 : decode cX8_layDance 38 = .ok (.imul, 1) := by decide +kernel
theorem dX8_layDance_39 : decode cX8_layDance 39 = .ok (.iload_n 3, 1) := by decide +kernel
theorem dX8_layDance_40 : decode cX8_layDance 40 = .ok (.iadd, 1) := by decide +kernel
theorem dX8_layDance_41 : decode cX8_layDance 41 = .ok (.aload_n 0, 1) := by decide +kernel
theorem dX8_layDance_42 : decode cX8_layDance 42 = .ok (.iload_n 3, 1) := by decide +kernel
theorem dX8_layDance_43 : decode cX8_layDance 43 = .ok (.iload_n 2, 1) := by decide +kernel
theorem dX8_layDance_44 : decode cX8_layDance 44 = .ok (.iload_n 1, 1) := by decide +kernel
theorem dX8_layDance_45 : decode cX8_layDance 45 = .ok (.invokevirtual 177, 3) := by decide +kernel
theorem dX8_layDance_48 : decode cX8_layDance 48 = .ok (.ifCond .eq 17, 3) := by decide +kernel
theorem dX8_layDance_51 : decode cX8_layDance 51 = .ok (.aload_n 0, 1) := by decide +kernel
theorem dX8_layDance_52 : decode cX8_layDance 52 = .ok (.iload_n 3, 1) := by decide +kernel
theorem dX8_layDance_53 : decode cX8_layDance 53 = .ok (.iload_n 2, 1) := by decide +kernel
theorem dX8_layDance_54 : decode cX8_layDance 54 = .ok (.iload_n 1, 1) := by decide +kernel
theorem dX8_layDance_55 : decode cX8_layDance 55 = .ok (.invokevirtual 181, 3) := by decide +kernel
theorem dX8_layDance_58 : decode cX8_layDance 58 = .ok (.ifCond .ne 7, 3) := by decide +kernel
theorem dX8_layDance_61 : decode cX8_layDance 61 = .ok (.iconst 1, 1) := by decide +kernel
theorem dX8_layDance_62 : decode cX8_layDance 62 = .ok (.goto 4, 3) := by decide +kernel
theorem dX8_layDance_65 : decode cX8_layDance 65 = .ok (.iconst 0, 1) := by decide +kernel
theorem dX8_layDance_66 : decode cX8_layDance 66 = .ok (.bastore, 1) := by decide +kernel
theorem dX8_layDance_67 : decode cX8_layDance 67 = .ok (.iinc 3 1, 3) := by decide +kernel
theorem dX8_layDance_70 : decode cX8_layDance 70 = .ok (.goto (-45), 3) := by decide +kernel
theorem dX8_layDance_73 : decode cX8_layDance 73 = .ok (.iinc 2 1, 3) := by decide +kernel
theorem dX8_layDance_76 : decode cX8_layDance 76 = .ok (.goto (-74), 3) := by decide +kernel
theorem dX8_layDance_79 : decode cX8_layDance 79 = .ok (.return_, 1) := by decide +kernel
theorem dX8_change_0 : decode cX8_change 0 = .ok (.iload_n 2, 1) := by decide +kernel
theorem dX8_change_1 : decode cX8_change 1 = .ok (.istore_n 3, 1) := by decide +kernel
theorem dX8_change_2 : decode cX8_change 2 = .ok (.iconst 1, 1) := by decide +kernel
theorem dX8_change_3 : decode cX8_change 3 = .ok (.istore 4, 2) := by decide +kernel
theorem dX8_change_5 : decode cX8_change 5 = .ok (.iload 4, 2) := by decide +kernel
theorem dX8_change_7 : decode cX8_change 7 = .ok (.ifCond .eq 55, 3) := by decide +kernel
theorem dX8_change_10 : decode cX8_change 10 = .ok (.aload_n 0, 1) := by decide +kernel
theorem dX8_change_11 : decode cX8_change 11 = .ok (.getfield 53, 3) := by decide +kernel
theorem dX8_change_14 : decode cX8_change 14 = .ok (.iload_n 3, 1) := by decide +kernel
theorem dX8_change_15 : decode cX8_change 15 = .ok (.iaload, 1) := by decide +kernel
theorem dX8_change_16 : decode cX8_change 16 = .ok (.istore 5, 2) := by decide +kernel
theorem dX8_change_18 : decode cX8_change 18 = .ok (.aload_n 0, 1) := by decide +kernel
theorem dX8_change_19 : decode cX8_change 19 = .ok (.getfield 44, 3) := by decide +kernel
theorem dX8_change_22 : decode cX8_change 22 = .ok (.iload 5, 2) := by decide +kernel
theorem dX8_change_24 : decode cX8_change 24 = .ok (.iaload, 1) := by decide +kernel
theorem dX8_change_25 : decode cX8_change 25 = .ok (.istore 6, 2) := by decide +kernel
theorem dX8_change_27 : decode cX8_change 27 = .ok (.aload_n 0, 1) := by decide +kernel
theorem dX8_change_28 : decode cX8_change 28 = .ok (.getfield 44, 3) := by decide +kernel
theorem dX8_change_31 : decode cX8_change 31 = .ok (.iload_n 3, 1) := by decide +kernel
theorem dX8_change_32 : decode cX8_change 32 = .ok (.iload 5, 2) := by decide +kernel
theorem dX8_change_34 : decode cX8_change 34 = .ok (.iastore, 1) := by decide +kernel
theorem dX8_change_35 : decode cX8_change 35 = .ok (.aload_n 0, 1) := by decide +kernel
theorem dX8_change_36 : decode cX8_change 36 = .ok (.getfield 44, 3) := by decide +kernel
theorem dX8_change_39 : decode cX8_change 39 = .ok (.iload 5, 2) := by decide +kernel
theorem dX8_change_41 : decode cX8_change 41 = .ok (.iload_n 3, 1) := by decide +kernel
theorem dX8_change_42 : decode cX8_change 42 = .ok (.iastore, 1) := by decide +kernel
theorem dX8_change_43 : decode cX8_change 43 = .ok (.iload 5, 2) := by decide +kernel
theorem dX8_change_45 : decode cX8_change 45 = .ok (.iload_n 1, 1) := by decide +kernel
theorem dX8_change_46 : decode cX8_change 46 = .ok (.if_icmp .eq 7, 3) := by decide +kernel
theorem dX8_change_49 : decode cX8_change 49 = .ok (.iconst 1, 1) := by decide +kernel
theorem dX8_change_50 : decode cX8_change 50 = .ok (.goto 4, 3) := by decide +kernel
theorem dX8_change_53 : decode cX8_change 53 = .ok (.iconst 0, 1) := by decide +kernel
theorem dX8_change_54 : decode cX8_change 54 = .ok (.istore 4, 2) := by decide +kernel
theorem dX8_change_56 : decode cX8_change 56 = .ok (.iload 6, 2) := by decide +kernel
theorem dX8_change_58 : decode cX8_change 58 = .ok (.istore_n 3, 1) := by decide +kernel
theorem dX8_change_59 : decode cX8_change 59 = .ok (.goto (-54), 3) := by decide +kernel
theorem dX8_change_62 : decode cX8_change 62 = .ok (.return_, 1) := by decide +kernel
theorem dX8_gets_0 : decode cX8_gets 0 = .ok (.iconst 0, 1) := by decide +kernel
theorem dX8_gets_1 : decode cX8_gets 1 = .ok (.istore_n 2, 1) := by decide +kernel
theorem dX8_gets_2 : decode cX8_gets 2 = .ok (.iload_n 2, 1) := by decide +kernel
theorem dX8_gets_3 : decode cX8_gets 3 = .ok (.bipush 16, 2) := by decide +kernel
theorem dX8_gets_5 : decode cX8_gets 5 = .ok (.if_icmp .ge 17, 3) := by decide +kernel
theorem dX8_gets_8 : decode cX8_gets 8 = .ok (.aload_n 0, 1) := by decide +kernel
theorem dX8_gets_9 : decode cX8_gets 9 = .ok (.getfield 53, 3) := by decide +kernel
theorem dX8_gets_12 : decode cX8_gets 12 = .ok (.iload_n 2, 1) := by decide +kernel
theorem dX8_gets_13 : decode cX8_gets 13 = .ok (.bipush (-4), 2) := by decide +kernel
theorem dX8_gets_15 : decode cX8_gets 15 = .ok (.iastore, 1) := by decide +kernel
theorem dX8_gets_16 : decode cX8_gets 16 = .ok (.iinc 2 1, 3) := by decide +kernel
theorem dX8_gets_19 : decode cX8_gets 19 = .ok (.goto (-17), 3) := by decide +kernel
theorem dX8_gets_22 : decode cX8_gets 22 = .ok (.iconst 1, 1) := by decide +kernel
theorem dX8_gets_23 : decode cX8_gets 23 = .ok (.istore_n 2, 1) := by decide +kernel
theorem dX8_gets_24 : decode cX8_gets 24 = .ok (.aload_n 0, 1) := by decide +kernel
theorem dX8_gets_25 : decode cX8_gets 25 = .ok (.getfield 50, 3) := by decide +kernel
theorem dX8_gets_28 : decode cX8_gets 28 = .ok (.iconst 0, 1) := by decide +kernel
theorem dX8_gets_29 : decode cX8_gets 29 = .ok (.iload_n 1, 1) := by decide +kernel
theorem dX8_gets_30 : decode cX8_gets 30 = .ok (.iastore, 1) := by decide +kernel
theorem dX8_gets_31 : decode cX8_gets 31 = .ok (.iconst 0, 1) := by decide +kernel
theorem dX8_gets_32 : decode cX8_gets 32 = .ok (.istore_n 3, 1) := by decide +kernel
theorem dX8_gets_33 : decode cX8_gets 33 = .ok (.iload_n 3, 1) := by decide +kernel
theorem dX8_gets_34 : decode cX8_gets 34 = .ok (.iload_n 2, 1) := by decide +kernel
theorem dX8_gets_35 : decode cX8_gets 35 = .ok (.if_icmp .ge 119, 3) := by decide +kernel
theorem dX8_gets_38 : decode cX8_gets 38 = .ok (.aload_n 0, 1) := by decide +kernel
theorem dX8_gets_39 : decode cX8_gets 39 = .ok (.getfield 50, 3) := by decide +kernel
theorem dX8_gets_42 : decode cX8_gets 42 = .ok (.iload_n 3, 1) := by decide +kernel
theorem dX8_gets_43 : decode cX8_gets 43 = .ok (.iaload, 1) := by decide +kernel
theorem dX8_gets_44 : decode cX8_gets 44 = .ok (.istore 4, 2) := by decide +kernel
theorem dX8_gets_46 : decode cX8_gets 46 = .ok (.iconst 0, 1) := by decide +kernel
theorem dX8_gets_47 : decode cX8_gets 47 = .ok (.istore 5, 2) := by decide +kernel
theorem dX8_gets_49 : decode cX8_gets 49 = .ok (.iload 5, 2) := by decide +kernel
theorem dX8_gets_51 : decode cX8_gets 51 = .ok (.aload_n 0, 1) := by decide +kernel
theorem dX8_gets_52 : decode cX8_gets 52 = .ok (.getfield 80, 3) := by decide +kernel
theorem dX8_gets_55 : decode cX8_gets 55 = .ok (.if_icmp .ge 93, 3) := by decide +kernel
theorem dX8_gets_58 : decode cX8_gets 58 = .ok (.aload_n 0, 1) := by decide +kernel
theorem dX8_gets_59 : decode cX8_gets 59 = .ok (.getfield 41, 3) := by decide +kernel
theorem dX8_gets_62 : decode cX8_gets 62 = .ok (.bipush 16, 2) := by decide +kernel
theorem dX8_gets_64 : decode cX8_gets 64 = .ok (.iload 4, 2) := by decide +kernel
theorem dX8_gets_66 : decode cX8_gets 66 = .ok (.imul, 1) := by decide +kernel
theorem dX8_gets_67 : decode cX8_gets 67 = .ok (.iload 5, 2) := by decide +kernel
theorem dX8_gets_69 : decode cX8_gets 69 = .ok (.iadd, 1) := by decide +kernel
theorem dX8_gets_70 : decode cX8_gets 70 = .ok (.baload, 1) := by decide +kernel
theorem dX8_gets_71 : decode cX8_gets 71 = .ok (.ifCond .eq 71, 3) := by decide +kernel
theorem dX8_gets_74 : decode cX8_gets 74 = .ok (.aload_n 0, 1) := by decide +kernel
theorem dX8_gets_75 : decode cX8_gets 75 = .ok (.getfield 53, 3) := by decide +kernel
theorem dX8_gets_78 : decode cX8_gets 78 = .ok (.iload 5, 2) := by decide +kernel
theorem dX8_gets_80 : decode cX8_gets 80 = .ok (.iaload, 1) := by decide +kernel
theorem dX8_gets_81 : decode cX8_gets 81 = .ok (.bipush (-4), 2) := by decide +kernel
theorem dX8_gets_83 : decode cX8_gets 83 = .ok (.if_icmp .ne 59, 3) := by decide +kernel
theorem dX8_gets_86 : decode cX8_gets 86 = .ok (.aload_n 0, 1) := by decide +kernel
theorem dX8_gets_87 : decode cX8_gets 87 = .ok (.getfield 47, 3) := by decide +kernel
theorem dX8_gets_90 : decode cX8_gets 90 = .ok (.iload 5, 2) := by decide +kernel
theorem dX8_gets_92 : decode cX8_gets 92 = .ok (.baload, 1) := by decide +kernel
theorem dX8_gets_93 : decode cX8_gets 93 = .ok (.ifCond .ne 49, 3) := by decide +kernel
theorem dX8_gets_96 : decode cX8_gets 96 = .ok (.aload_n 0, 1) := by decide +kernel
theorem dX8_gets_97 : decode cX8_gets 97 = .ok (.getfield 53, 3) := by decide +kernel
theorem dX8_gets_100 : decode cX8_gets 100 = .ok (.iload 5, 2) := by decide +kernel
theorem dX8_gets_102 : decode cX8_gets 102 = .ok (.iload 4, 2) := by decide +kernel
theorem dX8_gets_104 : decode cX8_gets 104 = .ok (.iastore, 1) := by decide +kernel
theorem dX8_gets_105 : decode cX8_gets 105 = .ok (.aload_n 0, 1) := by decide +kernel
theorem dX8_gets_106 : decode cX8_gets 106 = .ok (.getfield 44, 3) := by decide +kernel
theorem dX8_gets_109 : decode cX8_gets 109 = .ok (.iload 5, 2) := by decide +kernel
theorem dX8_gets_111 : decode cX8_gets 111 = .ok (.iaload, 1) := by decide +kernel
theorem dX8_gets_112 : decode cX8_gets 112 = .ok (.bipush (-4), 2) := by decide +kernel
theorem dX8_gets_114 : decode cX8_gets 114 = .ok (.if_icmp .ne 12, 3) := by decide +kernel
theorem dX8_gets_117 : decode cX8_gets 117 = .ok (.aload_n 0, 1) := by decide +kernel
theorem dX8_gets_118 : decode cX8_gets 118 = .ok (.iload_n 1, 1) := by decide +kernel
theorem dX8_gets_119 : decode cX8_gets 119 = .ok (.iload 5, 2) := by decide +kernel
theorem dX8_gets_121 : decode cX8_gets 121 = .ok (.invokevirtual 191, 3) := by decide +kernel
theorem dX8_gets_124 : decode cX8_gets 124 = .ok (.iconst 1, 1) := by decide +kernel
theorem dX8_gets_125 : decode cX8_gets 125 = .ok (.ireturn, 1) := by decide +kernel
theorem dX8_gets_126 : decode cX8_gets 126 = .ok (.aload_n 0, 1) := by decide +kernel
theorem dX8_gets_127 : decode cX8_gets 127 = .ok (.getfield 50, 3) := by decide +kernel
theorem dX8_gets_130 : decode cX8_gets 130 = .ok (.iload_n 2, 1) := by decide +kernel
theorem dX8_gets_131 : decode cX8_gets 131 = .ok (.aload_n 0, 1) := by decide +kernel
theorem dX8_gets_132 : decode cX8_gets 132 = .ok (.getfield 44, 3) := by decide +kernel
theorem dX8_gets_135 : decode cX8_gets 135 = .ok (.iload 5, 2) := by decide +kernel
theorem dX8_gets_137 : decode cX8_gets 137 = .ok (.iaload, 1) := by decide +kernel
theorem dX8_gets_138 : decode cX8_gets 138 = .ok (.iastore, 1) := by decide +kernel
theorem dX8_gets_139 : decode cX8_gets 139 = .ok (.iinc 2 1, 3) := by decide +kernel
theorem dX8_gets_142 : decode cX8_gets 142 = .ok (.iinc 5 1, 3) := by decide +kernel
theorem dX8_gets_145 : decode cX8_gets 145 = .ok (.goto (-96), 3) := by decide +kernel
theorem dX8_gets_148 : decode cX8_gets 148 = .ok (.iinc 3 1, 3) := by decide +kernel
theorem dX8_gets_151 : decode cX8_gets 151 = .ok (.goto (-118), 3) := by decide +kernel
theorem dX8_gets_154 : decode cX8_gets 154 = .ok (.iconst 0, 1) := by decide +kernel
theorem dX8_gets_155 : decode cX8_gets 155 = .ok (.ireturn, 1) := by decide +kernel
theorem dX8_mostFrom_0 : decode cX8_mostFrom 0 = .ok (.iconst 0, 1) := by decide +kernel
theorem dX8_mostFrom_1 : decode cX8_mostFrom 1 = .ok (.istore_n 2, 1) := by decide +kernel
theorem dX8_mostFrom_2 : decode cX8_mostFrom 2 = .ok (.iload_n 1, 1) := by decide +kernel
theorem dX8_mostFrom_3 : decode cX8_mostFrom 3 = .ok (.istore_n 3, 1) := by decide +kernel
theorem dX8_mostFrom_4 : decode cX8_mostFrom 4 = .ok (.iload_n 3, 1) := by decide +kernel
theorem dX8_mostFrom_5 : decode cX8_mostFrom 5 = .ok (.aload_n 0, 1) := by decide +kernel
theorem dX8_mostFrom_6 : decode cX8_mostFrom 6 = .ok (.getfield 80, 3) := by decide +kernel
theorem dX8_mostFrom_9 : decode cX8_mostFrom 9 = .ok (.if_icmp .ge 34, 3) := by decide +kernel
theorem dX8_mostFrom_12 : decode cX8_mostFrom 12 = .ok (.iload_n 2, 1) := by decide +kernel
theorem dX8_mostFrom_13 : decode cX8_mostFrom 13 = .ok (.aload_n 0, 1) := by decide +kernel
theorem dX8_mostFrom_14 : decode cX8_mostFrom 14 = .ok (.getfield 7, 3) := by decide +kernel
theorem dX8_mostFrom_17 : decode cX8_mostFrom 17 = .ok (.iload_n 3, 1) := by decide +kernel
theorem dX8_mostFrom_18 : decode cX8_mostFrom 18 = .ok (.baload, 1) := by decide +kernel
theorem dX8_mostFrom_19 : decode cX8_mostFrom 19 = .ok (.ifCond .eq 15, 3) := by decide +kernel
theorem dX8_mostFrom_22 : decode cX8_mostFrom 22 = .ok (.aload_n 0, 1) := by decide +kernel
theorem dX8_mostFrom_23 : decode cX8_mostFrom 23 = .ok (.iload_n 3, 1) := by decide +kernel
theorem dX8_mostFrom_24 : decode cX8_mostFrom 24 = .ok (.invokevirtual 195, 3) := by decide +kernel
theorem dX8_mostFrom_27 : decode cX8_mostFrom 27 = .ok (.ifCond .eq 7, 3) := by decide +kernel
theorem dX8_mostFrom_30 : decode cX8_mostFrom 30 = .ok (.iconst 1, 1) := by decide +kernel
theorem dX8_mostFrom_31 : decode cX8_mostFrom 31 = .ok (.goto 4, 3) := by decide +kernel
theorem dX8_mostFrom_34 : decode cX8_mostFrom 34 = .ok (.iconst 0, 1) := by decide +kernel
theorem dX8_mostFrom_35 : decode cX8_mostFrom 35 = .ok (.iadd, 1) := by decide +kernel
theorem dX8_mostFrom_36 : decode cX8_mostFrom 36 = .ok (.istore_n 2, 1) := by decide +kernel
theorem dX8_mostFrom_37 : decode cX8_mostFrom 37 = .ok (.iinc 3 1, 3) := by decide +kernel
theorem dX8_mostFrom_40 : decode cX8_mostFrom 40 = .ok (.goto (-36), 3) := by decide +kernel
theorem dX8_mostFrom_43 : decode cX8_mostFrom 43 = .ok (.iload_n 2, 1) := by decide +kernel
theorem dX8_mostFrom_44 : decode cX8_mostFrom 44 = .ok (.ireturn, 1) := by decide +kernel
theorem dX8_could_0 : decode cX8_could 0 = .ok (.iload_n 1, 1) := by decide +kernel
theorem dX8_could_1 : decode cX8_could 1 = .ok (.i2l, 1) := by decide +kernel
theorem dX8_could_2 : decode cX8_could 2 = .ok (.lconst 0, 1) := by decide +kernel
theorem dX8_could_3 : decode cX8_could 3 = .ok (.ldc2_w 158, 3) := by decide +kernel
theorem dX8_could_6 : decode cX8_could 6 = .ok (.invokestatic 76, 3) := by decide +kernel
theorem dX8_could_9 : decode cX8_could 9 = .ok (.ifCond .ne 5, 3) := by decide +kernel
theorem dX8_could_12 : decode cX8_could 12 = .ok (.iconst (-1), 1) := by decide +kernel
theorem dX8_could_13 : decode cX8_could 13 = .ok (.ireturn, 1) := by decide +kernel
theorem dX8_could_14 : decode cX8_could 14 = .ok (.aload_n 0, 1) := by decide +kernel
theorem dX8_could_15 : decode cX8_could 15 = .ok (.iload_n 1, 1) := by decide +kernel
theorem dX8_could_16 : decode cX8_could 16 = .ok (.invokevirtual 198, 3) := by decide +kernel
theorem dX8_could_19 : decode cX8_could 19 = .ok (.aload_n 0, 1) := by decide +kernel
theorem dX8_could_20 : decode cX8_could 20 = .ok (.iconst 0, 1) := by decide +kernel
theorem dX8_could_21 : decode cX8_could 21 = .ok (.invokevirtual 201, 3) := by decide +kernel
theorem dX8_could_24 : decode cX8_could 24 = .ok (.ireturn, 1) := by decide +kernel
theorem dX8_loosen_0 : decode cX8_loosen 0 = .ok (.iconst 0, 1) := by decide +kernel
theorem dX8_loosen_1 : decode cX8_loosen 1 = .ok (.istore_n 1, 1) := by decide +kernel
theorem dX8_loosen_2 : decode cX8_loosen 2 = .ok (.iload_n 1, 1) := by decide +kernel
theorem dX8_loosen_3 : decode cX8_loosen 3 = .ok (.bipush 16, 2) := by decide +kernel
theorem dX8_loosen_5 : decode cX8_loosen 5 = .ok (.if_icmp .ge 35, 3) := by decide +kernel
theorem dX8_loosen_8 : decode cX8_loosen 8 = .ok (.aload_n 0, 1) := by decide +kernel
theorem dX8_loosen_9 : decode cX8_loosen 9 = .ok (.getfield 44, 3) := by decide +kernel
theorem dX8_loosen_12 : decode cX8_loosen 12 = .ok (.iload_n 1, 1) := by decide +kernel
theorem dX8_loosen_13 : decode cX8_loosen 13 = .ok (.aload_n 0, 1) := by decide +kernel
theorem dX8_loosen_14 : decode cX8_loosen 14 = .ok (.getfield 47, 3) := by decide +kernel
theorem dX8_loosen_17 : decode cX8_loosen 17 = .ok (.iload_n 1, 1) := by decide +kernel
theorem dX8_loosen_18 : decode cX8_loosen 18 = .ok (.baload, 1) := by decide +kernel
theorem dX8_loosen_19 : decode cX8_loosen 19 = .ok (.ifCond .eq 12, 3) := by decide +kernel
theorem dX8_loosen_22 : decode cX8_loosen 22 = .ok (.aload_n 0, 1) := by decide +kernel
theorem dX8_loosen_23 : decode cX8_loosen 23 = .ok (.getfield 44, 3) := by decide +kernel
theorem dX8_loosen_26 : decode cX8_loosen 26 = .ok (.iload_n 1, 1) := by decide +kernel
theorem dX8_loosen_27 : decode cX8_loosen 27 = .ok (.iaload, 1) := by decide +kernel
theorem dX8_loosen_28 : decode cX8_loosen 28 = .ok (.goto 5, 3) := by decide +kernel
theorem dX8_loosen_31 : decode cX8_loosen 31 = .ok (.bipush (-4), 2) := by decide +kernel
theorem dX8_loosen_33 : decode cX8_loosen 33 = .ok (.iastore, 1) := by decide +kernel
theorem dX8_loosen_34 : decode cX8_loosen 34 = .ok (.iinc 1 1, 3) := by decide +kernel
theorem dX8_loosen_37 : decode cX8_loosen 37 = .ok (.goto (-35), 3) := by decide +kernel
theorem dX8_loosen_40 : decode cX8_loosen 40 = .ok (.return_, 1) := by decide +kernel
theorem dX8_fix_0 : decode cX8_fix 0 = .ok (.aload_n 0, 1) := by decide +kernel
theorem dX8_fix_1 : decode cX8_fix 1 = .ok (.getfield 47, 3) := by decide +kernel
theorem dX8_fix_4 : decode cX8_fix 4 = .ok (.iload_n 1, 1) := by decide +kernel
theorem dX8_fix_5 : decode cX8_fix 5 = .ok (.iload_n 3, 1) := by decide +kernel
theorem dX8_fix_6 : decode cX8_fix 6 = .ok (.bastore, 1) := by decide +kernel
theorem dX8_fix_7 : decode cX8_fix 7 = .ok (.aload_n 0, 1) := by decide +kernel
theorem dX8_fix_8 : decode cX8_fix 8 = .ok (.getfield 47, 3) := by decide +kernel
theorem dX8_fix_11 : decode cX8_fix 11 = .ok (.iload_n 2, 1) := by decide +kernel
theorem dX8_fix_12 : decode cX8_fix 12 = .ok (.iload_n 3, 1) := by decide +kernel
theorem dX8_fix_13 : decode cX8_fix 13 = .ok (.bastore, 1) := by decide +kernel
theorem dX8_fix_14 : decode cX8_fix 14 = .ok (.aload_n 0, 1) := by decide +kernel
theorem dX8_fix_15 : decode cX8_fix 15 = .ok (.getfield 44, 3) := by decide +kernel
theorem dX8_fix_18 : decode cX8_fix 18 = .ok (.iload_n 1, 1) := by decide +kernel
theorem dX8_fix_19 : decode cX8_fix 19 = .ok (.iload_n 3, 1) := by decide +kernel
theorem dX8_fix_20 : decode cX8_fix 20 = .ok (.ifCond .eq 7, 3) := by decide +kernel
theorem dX8_fix_23 : decode cX8_fix 23 = .ok (.iload_n 2, 1) := by decide +kernel
theorem dX8_fix_24 : decode cX8_fix 24 = .ok (.goto 5, 3) := by decide +kernel
theorem dX8_fix_27 : decode cX8_fix 27 = .ok (.bipush (-4), 2) := by decide +kernel
theorem dX8_fix_29 : decode cX8_fix 29 = .ok (.iastore, 1) := by decide +kernel
theorem dX8_fix_30 : decode cX8_fix 30 = .ok (.aload_n 0, 1) := by decide +kernel
theorem dX8_fix_31 : decode cX8_fix 31 = .ok (.getfield 44, 3) := by decide +kernel
theorem dX8_fix_34 : decode cX8_fix 34 = .ok (.iload_n 2, 1) := by decide +kernel
theorem dX8_fix_35 : decode cX8_fix 35 = .ok (.iload_n 3, 1) := by decide +kernel
theorem dX8_fix_36 : decode cX8_fix 36 = .ok (.ifCond .eq 7, 3) := by decide +kernel
theorem dX8_fix_39 : decode cX8_fix 39 = .ok (.iload_n 1, 1) := by decide +kernel
theorem dX8_fix_40 : decode cX8_fix 40 = .ok (.goto 5, 3) := by decide +kernel
theorem dX8_fix_43 : decode cX8_fix 43 = .ok (.bipush (-4), 2) := by decide +kernel
theorem dX8_fix_45 : decode cX8_fix 45 = .ok (.iastore, 1) := by decide +kernel
theorem dX8_fix_46 : decode cX8_fix 46 = .ok (.return_, 1) := by decide +kernel
theorem dX8_fill_0 : decode cX8_fill 0 = .ok (.iload_n 1, 1) := by decide +kernel
theorem dX8_fill_1 : decode cX8_fill 1 = .ok (.i2l, 1) := by decide +kernel
theorem dX8_fill_2 : decode cX8_fill 2 = .ok (.lconst 0, 1) := by decide +kernel
theorem dX8_fill_3 : decode cX8_fill 3 = .ok (.ldc2_w 158, 3) := by decide +kernel
theorem dX8_fill_6 : decode cX8_fill 6 = .ok (.invokestatic 76, 3) := by decide +kernel
theorem dX8_fill_9 : decode cX8_fill 9 = .ok (.ifCond .ne 5, 3) := by decide +kernel
theorem dX8_fill_12 : decode cX8_fill 12 = .ok (.iconst (-1), 1) := by decide +kernel
theorem dX8_fill_13 : decode cX8_fill 13 = .ok (.ireturn, 1) := by decide +kernel
theorem dX8_fill_14 : decode cX8_fill 14 = .ok (.aload_n 0, 1) := by decide +kernel
theorem dX8_fill_15 : decode cX8_fill 15 = .ok (.iload_n 1, 1) := by decide +kernel
theorem dX8_fill_16 : decode cX8_fill 16 = .ok (.invokevirtual 198, 3) := by decide +kernel
theorem dX8_fill_19 : decode cX8_fill 19 = .ok (.aload_n 0, 1) := by decide +kernel
theorem dX8_fill_20 : decode cX8_fill 20 = .ok (.iconst 0, 1) := by decide +kernel
theorem dX8_fill_21 : decode cX8_fill 21 = .ok (.invokevirtual 201, 3) := by decide +kernel
theorem dX8_fill_24 : decode cX8_fill 24 = .ok (.istore_n 2, 1) := by decide +kernel
theorem dX8_fill_25 : decode cX8_fill 25 = .ok (.iconst 0, 1) := by decide +kernel
theorem dX8_fill_26 : decode cX8_fill 26 = .ok (.istore_n 3, 1) := by decide +kernel
theorem dX8_fill_27 : decode cX8_fill 27 = .ok (.iconst 0, 1) := by decide +kernel
theorem dX8_fill_28 : decode cX8_fill 28 = .ok (.istore 4, 2) := by decide +kernel
theorem dX8_fill_30 : decode cX8_fill 30 = .ok (.iload 4, 2) := by decide +kernel
theorem dX8_fill_32 : decode cX8_fill 32 = .ok (.aload_n 0, 1) := by decide +kernel
theorem dX8_fill_33 : decode cX8_fill 33 = .ok (.getfield 80, 3) := by decide +kernel
theorem dX8_fill_36 : decode cX8_fill 36 = .ok (.if_icmp .ge 131, 3) := by decide +kernel
theorem dX8_fill_39 : decode cX8_fill 39 = .ok (.aload_n 0, 1) := by decide +kernel
theorem dX8_fill_40 : decode cX8_fill 40 = .ok (.getfield 7, 3) := by decide +kernel
theorem dX8_fill_43 : decode cX8_fill 43 = .ok (.iload 4, 2) := by decide +kernel
theorem dX8_fill_45 : decode cX8_fill 45 = .ok (.baload, 1) := by decide +kernel
theorem dX8_fill_46 : decode cX8_fill 46 = .ok (.ifCond .ne 7, 3) := by decide +kernel
theorem dX8_fill_49 : decode cX8_fill 49 = .ok (.iconst 1, 1) := by decide +kernel
theorem dX8_fill_50 : decode cX8_fill 50 = .ok (.goto 4, 3) := by decide +kernel
theorem dX8_fill_53 : decode cX8_fill 53 = .ok (.iconst 0, 1) := by decide +kernel
theorem dX8_fill_54 : decode cX8_fill 54 = .ok (.istore 5, 2) := by decide +kernel
theorem dX8_fill_56 : decode cX8_fill 56 = .ok (.iconst 0, 1) := by decide +kernel
theorem dX8_fill_57 : decode cX8_fill 57 = .ok (.istore 6, 2) := by decide +kernel
theorem dX8_fill_59 : decode cX8_fill 59 = .ok (.iload 6, 2) := by decide +kernel
theorem dX8_fill_61 : decode cX8_fill 61 = .ok (.aload_n 0, 1) := by decide +kernel
theorem dX8_fill_62 : decode cX8_fill 62 = .ok (.getfield 80, 3) := by decide +kernel
theorem dX8_fill_65 : decode cX8_fill 65 = .ok (.if_icmp .ge 96, 3) := by decide +kernel
theorem dX8_fill_68 : decode cX8_fill 68 = .ok (.iload 5, 2) := by decide +kernel
theorem dX8_fill_70 : decode cX8_fill 70 = .ok (.ifCond .ne 91, 3) := by decide +kernel
theorem dX8_fill_73 : decode cX8_fill 73 = .ok (.aload_n 0, 1) := by decide +kernel
theorem dX8_fill_74 : decode cX8_fill 74 = .ok (.getfield 41, 3) := by decide +kernel
theorem dX8_fill_77 : decode cX8_fill 77 = .ok (.bipush 16, 2) := by decide +kernel
theorem dX8_fill_79 : decode cX8_fill 79 = .ok (.iload 4, 2) := by decide +kernel
theorem dX8_fill_81 : decode cX8_fill 81 = .ok (.imul, 1) := by decide +kernel
theorem dX8_fill_82 : decode cX8_fill 82 = .ok (.iload 6, 2) := by decide +kernel
theorem dX8_fill_84 : decode cX8_fill 84 = .ok (.iadd, 1) := by decide +kernel
theorem dX8_fill_85 : decode cX8_fill 85 = .ok (.baload, 1) := by decide +kernel
theorem dX8_fill_86 : decode cX8_fill 86 = .ok (.ifCond .eq 69, 3) := by decide +kernel
theorem dX8_fill_89 : decode cX8_fill 89 = .ok (.aload_n 0, 1) := by decide +kernel
theorem dX8_fill_90 : decode cX8_fill 90 = .ok (.getfield 47, 3) := by decide +kernel
theorem dX8_fill_93 : decode cX8_fill 93 = .ok (.iload 6, 2) := by decide +kernel
theorem dX8_fill_95 : decode cX8_fill 95 = .ok (.baload, 1) := by decide +kernel
theorem dX8_fill_96 : decode cX8_fill 96 = .ok (.ifCond .ne 59, 3) := by decide +kernel
theorem dX8_fill_99 : decode cX8_fill 99 = .ok (.aload_n 0, 1) := by decide +kernel
theorem dX8_fill_100 : decode cX8_fill 100 = .ok (.invokevirtual 204, 3) := by decide +kernel
theorem dX8_fill_103 : decode cX8_fill 103 = .ok (.aload_n 0, 1) := by decide +kernel
theorem dX8_fill_104 : decode cX8_fill 104 = .ok (.iload 4, 2) := by decide +kernel
theorem dX8_fill_106 : decode cX8_fill 106 = .ok (.iload 6, 2) := by decide +kernel
theorem dX8_fill_108 : decode cX8_fill 108 = .ok (.iconst 1, 1) := by decide +kernel
theorem dX8_fill_109 : decode cX8_fill 109 = .ok (.invokevirtual 207, 3) := by decide +kernel
theorem dX8_fill_112 : decode cX8_fill 112 = .ok (.iload_n 3, 1) := by decide +kernel
theorem dX8_fill_113 : decode cX8_fill 113 = .ok (.iconst 1, 1) := by decide +kernel
theorem dX8_fill_114 : decode cX8_fill 114 = .ok (.iadd, 1) := by decide +kernel
theorem dX8_fill_115 : decode cX8_fill 115 = .ok (.aload_n 0, 1) := by decide +kernel
theorem dX8_fill_116 : decode cX8_fill 116 = .ok (.iload 4, 2) := by decide +kernel
theorem dX8_fill_118 : decode cX8_fill 118 = .ok (.iconst 1, 1) := by decide +kernel
theorem dX8_fill_119 : decode cX8_fill 119 = .ok (.iadd, 1) := by decide +kernel
theorem dX8_fill_120 : decode cX8_fill 120 = .ok (.invokevirtual 201, 3) := by decide +kernel
theorem dX8_fill_123 : decode cX8_fill 123 = .ok (.iadd, 1) := by decide +kernel
theorem dX8_fill_124 : decode cX8_fill 124 = .ok (.iload_n 2, 1) := by decide +kernel
theorem dX8_fill_125 : decode cX8_fill 125 = .ok (.if_icmp .ne 7, 3) := by decide +kernel
theorem dX8_fill_128 : decode cX8_fill 128 = .ok (.iconst 1, 1) := by decide +kernel
theorem dX8_fill_129 : decode cX8_fill 129 = .ok (.goto 4, 3) := by decide +kernel
theorem dX8_fill_132 : decode cX8_fill 132 = .ok (.iconst 0, 1) := by decide +kernel
theorem dX8_fill_133 : decode cX8_fill 133 = .ok (.istore 5, 2) := by decide +kernel
theorem dX8_fill_135 : decode cX8_fill 135 = .ok (.iload 5, 2) := by decide +kernel
theorem dX8_fill_137 : decode cX8_fill 137 = .ok (.ifCond .eq 9, 3) := by decide +kernel
theorem dX8_fill_140 : decode cX8_fill 140 = .ok (.iinc 3 1, 3) := by decide +kernel
theorem dX8_fill_143 : decode cX8_fill 143 = .ok (.goto 12, 3) := by decide +kernel
theorem dX8_fill_146 : decode cX8_fill 146 = .ok (.aload_n 0, 1) := by decide +kernel
theorem dX8_fill_147 : decode cX8_fill 147 = .ok (.iload 4, 2) := by decide +kernel
theorem dX8_fill_149 : decode cX8_fill 149 = .ok (.iload 6, 2) := by decide +kernel
theorem dX8_fill_151 : decode cX8_fill 151 = .ok (.iconst 0, 1) := by decide +kernel
theorem dX8_fill_152 : decode cX8_fill 152 = .ok (.invokevirtual 207, 3) := by decide +kernel
theorem dX8_fill_155 : decode cX8_fill 155 = .ok (.iinc 6 1, 3) := by decide +kernel
theorem dX8_fill_158 : decode cX8_fill 158 = .ok (.goto (-99), 3) := by decide +kernel
theorem dX8_fill_161 : decode cX8_fill 161 = .ok (.iinc 4 1, 3) := by decide +kernel
theorem dX8_fill_164 : decode cX8_fill 164 = .ok (.goto (-134), 3) := by decide +kernel
theorem dX8_fill_167 : decode cX8_fill 167 = .ok (.aload_n 0, 1) := by decide +kernel
theorem dX8_fill_168 : decode cX8_fill 168 = .ok (.invokevirtual 204, 3) := by decide +kernel
theorem dX8_fill_171 : decode cX8_fill 171 = .ok (.iconst 0, 1) := by decide +kernel
theorem dX8_fill_172 : decode cX8_fill 172 = .ok (.istore 4, 2) := by decide +kernel
theorem dX8_fill_174 : decode cX8_fill 174 = .ok (.iload 4, 2) := by decide +kernel
theorem dX8_fill_176 : decode cX8_fill 176 = .ok (.aload_n 0, 1) := by decide +kernel
theorem dX8_fill_177 : decode cX8_fill 177 = .ok (.getfield 80, 3) := by decide +kernel
theorem dX8_fill_180 : decode cX8_fill 180 = .ok (.if_icmp .ge 45, 3) := by decide +kernel
theorem dX8_fill_183 : decode cX8_fill 183 = .ok (.aload_n 0, 1) := by decide +kernel
theorem dX8_fill_184 : decode cX8_fill 184 = .ok (.getfield 7, 3) := by decide +kernel
theorem dX8_fill_187 : decode cX8_fill 187 = .ok (.iload 4, 2) := by decide +kernel
theorem dX8_fill_189 : decode cX8_fill 189 = .ok (.baload, 1) := by decide +kernel
theorem dX8_fill_190 : decode cX8_fill 190 = .ok (.ifCond .eq 29, 3) := by decide +kernel
theorem dX8_fill_193 : decode cX8_fill 193 = .ok (.aload_n 0, 1) := by decide +kernel
theorem dX8_fill_194 : decode cX8_fill 194 = .ok (.getfield 44, 3) := by decide +kernel
theorem dX8_fill_197 : decode cX8_fill 197 = .ok (.iload 4, 2) := by decide +kernel
theorem dX8_fill_199 : decode cX8_fill 199 = .ok (.iaload, 1) := by decide +kernel
theorem dX8_fill_200 : decode cX8_fill 200 = .ok (.bipush (-4), 2) := by decide +kernel
theorem dX8_fill_202 : decode cX8_fill 202 = .ok (.if_icmp .eq 17, 3) := by decide +kernel
theorem dX8_fill_205 : decode cX8_fill 205 = .ok (.aload_n 0, 1) := by decide +kernel
theorem dX8_fill_206 : decode cX8_fill 206 = .ok (.aload_n 0, 1) := by decide +kernel
theorem dX8_fill_207 : decode cX8_fill 207 = .ok (.getfield 44, 3) := by decide +kernel
theorem dX8_fill_210 : decode cX8_fill 210 = .ok (.iload 4, 2) := by decide +kernel
theorem dX8_fill_212 : decode cX8_fill 212 = .ok (.iaload, 1) := by decide +kernel
theorem dX8_fill_213 : decode cX8_fill 213 = .ok (.iload 4, 2) := by decide +kernel
theorem dX8_fill_215 : decode cX8_fill 215 = .ok (.iload_n 1, 1) := by decide +kernel
theorem dX8_fill_216 : decode cX8_fill 216 = .ok (.invokevirtual 185, 3) := by decide +kernel
theorem dX8_fill_219 : decode cX8_fill 219 = .ok (.iinc 4 1, 3) := by decide +kernel
theorem dX8_fill_222 : decode cX8_fill 222 = .ok (.goto (-48), 3) := by decide +kernel
theorem dX8_fill_225 : decode cX8_fill 225 = .ok (.iload_n 3, 1) := by decide +kernel
theorem dX8_fill_226 : decode cX8_fill 226 = .ok (.ireturn, 1) := by decide +kernel
theorem dX8_about_0 : decode cX8_about 0 = .ok (.aload_n 0, 1) := by decide +kernel
theorem dX8_about_1 : decode cX8_about 1 = .ok (.iload_n 1, 1) := by decide +kernel
theorem dX8_about_2 : decode cX8_about 2 = .ok (.invokevirtual 84, 3) := by decide +kernel
theorem dX8_about_5 : decode cX8_about 5 = .ok (.ifCond .eq 15, 3) := by decide +kernel
theorem dX8_about_8 : decode cX8_about 8 = .ok (.iload_n 2, 1) := by decide +kernel
theorem dX8_about_9 : decode cX8_about 9 = .ok (.i2l, 1) := by decide +kernel
theorem dX8_about_10 : decode cX8_about 10 = .ok (.lconst 0, 1) := by decide +kernel
theorem dX8_about_11 : decode cX8_about 11 = .ok (.ldc2_w 156, 3) := by decide +kernel
theorem dX8_about_14 : decode cX8_about 14 = .ok (.invokestatic 76, 3) := by decide +kernel
theorem dX8_about_17 : decode cX8_about 17 = .ok (.ifCond .ne 5, 3) := by decide +kernel
theorem dX8_about_20 : decode cX8_about 20 = .ok (.iconst (-1), 1) := by decide +kernel
theorem dX8_about_21 : decode cX8_about 21 = .ok (.ireturn, 1) := by decide +kernel
theorem dX8_about_22 : decode cX8_about 22 = .ok (.iconst 0, 1) := by decide +kernel
theorem dX8_about_23 : decode cX8_about 23 = .ok (.istore_n 3, 1) := by decide +kernel
theorem dX8_about_24 : decode cX8_about 24 = .ok (.iconst 0, 1) := by decide +kernel
theorem dX8_about_25 : decode cX8_about 25 = .ok (.istore 4, 2) := by decide +kernel
theorem dX8_about_27 : decode cX8_about 27 = .ok (.iconst 0, 1) := by decide +kernel
theorem dX8_about_28 : decode cX8_about 28 = .ok (.istore 5, 2) := by decide +kernel
theorem dX8_about_30 : decode cX8_about 30 = .ok (.iconst 0, 1) := by decide +kernel
theorem dX8_about_31 : decode cX8_about 31 = .ok (.istore 6, 2) := by decide +kernel
theorem dX8_about_33 : decode cX8_about 33 = .ok (.iconst 0, 1) := by decide +kernel
theorem dX8_about_34 : decode cX8_about 34 = .ok (.istore 7, 2) := by decide +kernel
theorem dX8_about_36 : decode cX8_about 36 = .ok (.iconst 0, 1) := by decide +kernel
theorem dX8_about_37 : decode cX8_about 37 = .ok (.istore 8, 2) := by decide +kernel
theorem dX8_about_39 : decode cX8_about 39 = .ok (.iload 8, 2) := by decide +kernel
theorem dX8_about_41 : decode cX8_about 41 = .ok (.bipush 24, 2) := by decide +kernel
theorem dX8_about_43 : decode cX8_about 43 = .ok (.if_icmp .ge 79, 3) := by decide +kernel
theorem dX8_about_46 : decode cX8_about 46 = .ok (.aload_n 0, 1) := by decide +kernel
theorem dX8_about_47 : decode cX8_about 47 = .ok (.iload_n 1, 1) := by decide +kernel
theorem dX8_about_48 : decode cX8_about 48 = .ok (.iload 8, 2) := by decide +kernel
theorem dX8_about_50 : decode cX8_about 50 = .ok (.invokevirtual 160, 3) := by decide +kernel
theorem dX8_about_53 : decode cX8_about 53 = .ok (.istore 9, 2) := by decide +kernel
theorem dX8_about_55 : decode cX8_about 55 = .ok (.iload_n 3, 1) := by decide +kernel
theorem dX8_about_56 : decode cX8_about 56 = .ok (.iload 9, 2) := by decide +kernel
theorem dX8_about_58 : decode cX8_about 58 = .ok (.ifCond .lt 7, 3) := by decide +kernel
theorem dX8_about_61 : decode cX8_about 61 = .ok (.iconst 1, 1) := by decide +kernel
theorem dX8_about_62 : decode cX8_about 62 = .ok (.goto 4, 3) := by decide +kernel
theorem dX8_about_65 : decode cX8_about 65 = .ok (.iconst 0, 1) := by decide +kernel
theorem dX8_about_66 : decode cX8_about 66 = .ok (.iadd, 1) := by decide +kernel
theorem dX8_about_67 : decode cX8_about 67 = .ok (.istore_n 3, 1) := by decide +kernel
theorem dX8_about_68 : decode cX8_about 68 = .ok (.iload 4, 2) := by decide +kernel
theorem dX8_about_70 : decode cX8_about 70 = .ok (.iload 9, 2) := by decide +kernel
theorem dX8_about_72 : decode cX8_about 72 = .ok (.bipush (-5), 2) := by decide +kernel
theorem dX8_about_74 : decode cX8_about 74 = .ok (.if_icmp .ne 7, 3) := by decide +kernel
theorem dX8_about_77 : decode cX8_about 77 = .ok (.iconst 1, 1) := by decide +kernel
theorem dX8_about_78 : decode cX8_about 78 = .ok (.goto 4, 3) := by decide +kernel
theorem dX8_about_81 : decode cX8_about 81 = .ok (.iconst 0, 1) := by decide +kernel
