theorem dX5_readCustom_83 : decode cX5_readCustom 83 = .ok (.iconst 3, 1) := by decide +kernel
theorem dX5_readCustom_84 : decode cX5_readCustom 84 = .ok (.invokevirtual 75, 3) := by decide +kernel
theorem dX5_readCustom_87 : decode cX5_readCustom 87 = .ok (.ireturn, 1) := by decide +kernel
theorem dX5_readText_0 : decode cX5_readText 0 = .ok (.iconst 0, 1) := by decide +kernel
theorem dX5_readText_1 : decode cX5_readText 1 = .ok (.istore_n 1, 1) := by decide +kernel
theorem dX5_readText_2 : decode cX5_readText 2 = .ok (.iload_n 1, 1) := by decide +kernel
theorem dX5_readText_3 : decode cX5_readText 3 = .ok (.iconst 4, 1) := by decide +kernel
theorem dX5_readText_4 : decode cX5_readText 4 = .ok (.if_icmp .gt 33, 3) := by decide +kernel
theorem dX5_readText_7 : decode cX5_readText 7 = .ok (.aload_n 0, 1) := by decide +kernel
theorem dX5_readText_8 : decode cX5_readText 8 = .ok (.invokevirtual 66, 3) := by decide +kernel
theorem dX5_readText_11 : decode cX5_readText 11 = .ok (.aload_n 0, 1) := by decide +kernel
theorem dX5_readText_12 : decode cX5_readText 12 = .ok (.getfield 69, 3) := by decide +kernel
theorem dX5_readText_15 : decode cX5_readText 15 = .ok (.ifCond .ne 5, 3) := by decide +kernel
theorem dX5_readText_18 : decode cX5_readText 18 = .ok (.iconst 0, 1) := by decide +kernel
theorem dX5_readText_19 : decode cX5_readText 19 = .ok (.ireturn, 1) := by decide +kernel
theorem dX5_readText_20 : decode cX5_readText 20 = .ok (.aload_n 0, 1) := by decide +kernel
theorem dX5_readText_21 : decode cX5_readText 21 = .ok (.invokevirtual 72, 3) := by decide +kernel
theorem dX5_readText_24 : decode cX5_readText 24 = .ok (.istore_n 2, 1) := by decide +kernel
theorem dX5_readText_25 : decode cX5_readText 25 = .ok (.iload_n 2, 1) := by decide +kernel
theorem dX5_readText_26 : decode cX5_readText 26 = .ok (.ifCond .eq 5, 3) := by decide +kernel
theorem dX5_readText_29 : decode cX5_readText 29 = .ok (.iload_n 2, 1) := by decide +kernel
theorem dX5_readText_30 : decode cX5_readText 30 = .ok (.ireturn, 1) := by decide +kernel
theorem dX5_readText_31 : decode cX5_readText 31 = .ok (.iinc 1 1, 3) := by decide +kernel
theorem dX5_readText_34 : decode cX5_readText 34 = .ok (.goto (-32), 3) := by decide +kernel
theorem dX5_readText_37 : decode cX5_readText 37 = .ok (.iconst 4, 1) := by decide +kernel
theorem dX5_readText_38 : decode cX5_readText 38 = .ok (.ireturn, 1) := by decide +kernel
theorem dX5_tellAll_0 : decode cX5_tellAll 0 = .ok (.aload_n 0, 1) := by decide +kernel
theorem dX5_tellAll_1 : decode cX5_tellAll 1 = .ok (.getfield 19, 3) := by decide +kernel
theorem dX5_tellAll_4 : decode cX5_tellAll 4 = .ok (.bipush (-4), 2) := by decide +kernel
theorem dX5_tellAll_6 : decode cX5_tellAll 6 = .ok (.invokestatic 22, 3) := by decide +kernel
theorem dX5_tellAll_9 : decode cX5_tellAll 9 = .ok (.aload_n 0, 1) := by decide +kernel
theorem dX5_tellAll_10 : decode cX5_tellAll 10 = .ok (.iconst 0, 1) := by decide +kernel
theorem dX5_tellAll_11 : decode cX5_tellAll 11 = .ok (.putfield 44, 3) := by decide +kernel
theorem dX5_tellAll_14 : decode cX5_tellAll 14 = .ok (.aload_n 0, 1) := by decide +kernel
theorem dX5_tellAll_15 : decode cX5_tellAll 15 = .ok (.aload_n 0, 1) := by decide +kernel
theorem dX5_tellAll_16 : decode cX5_tellAll 16 = .ok (.invokevirtual 47, 3) := by decide +kernel
theorem dX5_tellAll_19 : decode cX5_tellAll 19 = .ok (.putfield 51, 3) := by decide +kernel
theorem dX5_tellAll_22 : decode cX5_tellAll 22 = .ok (.aload_n 0, 1) := by decide +kernel
theorem dX5_tellAll_23 : decode cX5_tellAll 23 = .ok (.iconst 0, 1) := by decide +kernel
theorem dX5_tellAll_24 : decode cX5_tellAll 24 = .ok (.putfield 36, 3) := by decide +kernel
theorem dX5_tellAll_27 : decode cX5_tellAll 27 = .ok (.aload_n 0, 1) := by decide +kernel
theorem dX5_tellAll_28 : decode cX5_tellAll 28 = .ok (.getfield 51, 3) := by decide +kernel
theorem dX5_tellAll_31 : decode cX5_tellAll 31 = .ok (.ifCond .eq 11, 3) := by decide +kernel
theorem dX5_tellAll_34 : decode cX5_tellAll 34 = .ok (.bipush (-10), 2) := by decide +kernel
theorem dX5_tellAll_36 : decode cX5_tellAll 36 = .ok (.aload_n 0, 1) := by decide +kernel
theorem dX5_tellAll_37 : decode cX5_tellAll 37 = .ok (.getfield 54, 3) := by decide +kernel
theorem dX5_tellAll_40 : decode cX5_tellAll 40 = .ok (.isub, 1) := by decide +kernel
theorem dX5_tellAll_41 : decode cX5_tellAll 41 = .ok (.ireturn, 1) := by decide +kernel
theorem dX5_tellAll_42 : decode cX5_tellAll 42 = .ok (.aload_n 0, 1) := by decide +kernel
theorem dX5_tellAll_43 : decode cX5_tellAll 43 = .ok (.getfield 19, 3) := by decide +kernel
theorem dX5_tellAll_46 : decode cX5_tellAll 46 = .ok (.iconst 0, 1) := by decide +kernel
theorem dX5_tellAll_47 : decode cX5_tellAll 47 = .ok (.aload_n 0, 1) := by decide +kernel
theorem dX5_tellAll_48 : decode cX5_tellAll 48 = .ok (.getfield 15, 3) := by decide +kernel
theorem dX5_tellAll_51 : decode cX5_tellAll 51 = .ok (.iconst 0, 1) := by decide +kernel
theorem dX5_tellAll_52 : decode cX5_tellAll 52 = .ok (.iconst 4, 1) := by decide +kernel
theorem dX5_tellAll_53 : decode cX5_tellAll 53 = .ok (.invokestatic 57, 3) := by decide +kernel
theorem dX5_tellAll_56 : decode cX5_tellAll 56 = .ok (.aload_n 0, 1) := by decide +kernel
theorem dX5_tellAll_57 : decode cX5_tellAll 57 = .ok (.invokevirtual 63, 3) := by decide +kernel
theorem dX5_tellAll_60 : decode cX5_tellAll 60 = .ok (.ireturn, 1) := by decide +kernel
theorem dX6_change_0 : decode cX6_change 0 = .ok (.aload_n 0, 1) := by decide +kernel
theorem dX6_change_1 : decode cX6_change 1 = .ok (.getfield 9, 3) := by decide +kernel
theorem dX6_change_4 : decode cX6_change 4 = .ok (.iload_n 1, 1) := by decide +kernel
theorem dX6_change_5 : decode cX6_change 5 = .ok (.bipush 16, 2) := by decide +kernel
theorem dX6_change_7 : decode cX6_change 7 = .ok (.imul, 1) := by decide +kernel
theorem dX6_change_8 : decode cX6_change 8 = .ok (.iload_n 2, 1) := by decide +kernel
theorem dX6_change_9 : decode cX6_change 9 = .ok (.iadd, 1) := by decide +kernel
theorem dX6_change_10 : decode cX6_change 10 = .ok (.iaload, 1) := by decide +kernel
theorem dX6_change_11 : decode cX6_change 11 = .ok (.istore 4, 2) := by decide +kernel
theorem dX6_change_13 : decode cX6_change 13 = .ok (.aload_n 0, 1) := by decide +kernel
theorem dX6_change_14 : decode cX6_change 14 = .ok (.getfield 9, 3) := by decide +kernel
theorem dX6_change_17 : decode cX6_change 17 = .ok (.iload_n 1, 1) := by decide +kernel
theorem dX6_change_18 : decode cX6_change 18 = .ok (.bipush 16, 2) := by decide +kernel
theorem dX6_change_20 : decode cX6_change 20 = .ok (.imul, 1) := by decide +kernel
theorem dX6_change_21 : decode cX6_change 21 = .ok (.iload_n 2, 1) := by decide +kernel
theorem dX6_change_22 : decode cX6_change 22 = .ok (.iadd, 1) := by decide +kernel
theorem dX6_change_23 : decode cX6_change 23 = .ok (.iload_n 3, 1) := by decide +kernel
theorem dX6_change_24 : decode cX6_change 24 = .ok (.iastore, 1) := by decide +kernel
theorem dX6_change_25 : decode cX6_change 25 = .ok (.aload_n 0, 1) := by decide +kernel
theorem dX6_change_26 : decode cX6_change 26 = .ok (.iconst 0, 1) := by decide +kernel
theorem dX6_change_27 : decode cX6_change 27 = .ok (.putfield 18, 3) := by decide +kernel
theorem dX6_change_30 : decode cX6_change 30 = .ok (.iload 4, 2) := by decide +kernel
theorem dX6_change_32 : decode cX6_change 32 = .ok (.ireturn, 1) := by decide +kernel
theorem dX6_ofOne_0 : decode cX6_ofOne 0 = .ok (.iconst 0, 1) := by decide +kernel
theorem dX6_ofOne_1 : decode cX6_ofOne 1 = .ok (.istore_n 2, 1) := by decide +kernel
theorem dX6_ofOne_2 : decode cX6_ofOne 2 = .ok (.iconst 0, 1) := by decide +kernel
theorem dX6_ofOne_3 : decode cX6_ofOne 3 = .ok (.istore_n 3, 1) := by decide +kernel
theorem dX6_ofOne_4 : decode cX6_ofOne 4 = .ok (.iload_n 3, 1) := by decide +kernel
theorem dX6_ofOne_5 : decode cX6_ofOne 5 = .ok (.bipush 16, 2) := by decide +kernel
theorem dX6_ofOne_7 : decode cX6_ofOne 7 = .ok (.if_icmp .ge 35, 3) := by decide +kernel
theorem dX6_ofOne_10 : decode cX6_ofOne 10 = .ok (.iload_n 2, 1) := by decide +kernel
theorem dX6_ofOne_11 : decode cX6_ofOne 11 = .ok (.aload_n 0, 1) := by decide +kernel
theorem dX6_ofOne_12 : decode cX6_ofOne 12 = .ok (.getfield 9, 3) := by decide +kernel
theorem dX6_ofOne_15 : decode cX6_ofOne 15 = .ok (.iload_n 1, 1) := by decide +kernel
theorem dX6_ofOne_16 : decode cX6_ofOne 16 = .ok (.bipush 16, 2) := by decide +kernel
theorem dX6_ofOne_18 : decode cX6_ofOne 18 = .ok (.imul, 1) := by decide +kernel
theorem dX6_ofOne_19 : decode cX6_ofOne 19 = .ok (.iload_n 3, 1) := by decide +kernel
theorem dX6_ofOne_20 : decode cX6_ofOne 20 = .ok (.iadd, 1) := by decide +kernel
theorem dX6_ofOne_21 : decode cX6_ofOne 21 = .ok (.iaload, 1) := by decide +kernel
theorem dX6_ofOne_22 : decode cX6_ofOne 22 = .ok (.aload_n 0, 1) := by decide +kernel
theorem dX6_ofOne_23 : decode cX6_ofOne 23 = .ok (.getfield 9, 3) := by decide +kernel
theorem dX6_ofOne_26 : decode cX6_ofOne 26 = .ok (.iload_n 3, 1) := by decide +kernel
theorem dX6_ofOne_27 : decode cX6_ofOne 27 = .ok (.bipush 16, 2) := by decide +kernel
theorem dX6_ofOne_29 : decode cX6_ofOne 29 = .ok (.imul, 1) := by decide +kernel
theorem dX6_ofOne_30 : decode cX6_ofOne 30 = .ok (.iload_n 1, 1) := by decide +kernel
theorem dX6_ofOne_31 : decode cX6_ofOne 31 = .ok (.iadd, 1) := by decide +kernel
theorem dX6_ofOne_32 : decode cX6_ofOne 32 = .ok (.iaload, 1) := by decide +kernel
theorem dX6_ofOne_33 : decode cX6_ofOne 33 = .ok (.iadd, 1) := by decide +kernel
theorem dX6_ofOne_34 : decode cX6_ofOne 34 = .ok (.iadd, 1) := by decide +kernel
theorem dX6_ofOne_35 : decode cX6_ofOne 35 = .ok (.istore_n 2, 1) := by decide +kernel
theorem dX6_ofOne_36 : decode cX6_ofOne 36 = .ok (.iinc 3 1, 3) := by decide +kernel
theorem dX6_ofOne_39 : decode cX6_ofOne 39 = .ok (.goto (-35), 3) := by decide +kernel
theorem dX6_ofOne_42 : decode cX6_ofOne 42 = .ok (.iload_n 2, 1) := by decide +kernel
theorem dX6_ofOne_43 : decode cX6_ofOne 43 = .ok (.ireturn, 1) := by decide +kernel
theorem dX6_mostOfOne_0 : decode cX6_mostOfOne 0 = .ok (.iconst 0, 1) := by decide +kernel
theorem dX6_mostOfOne_1 : decode cX6_mostOfOne 1 = .ok (.istore_n 1, 1) := by decide +kernel
theorem dX6_mostOfOne_2 : decode cX6_mostOfOne 2 = .ok (.iconst 0, 1) := by decide +kernel
theorem dX6_mostOfOne_3 : decode cX6_mostOfOne 3 = .ok (.istore_n 2, 1) := by decide +kernel
theorem dX6_mostOfOne_4 : decode cX6_mostOfOne 4 = .ok (.iload_n 2, 1) := by decide +kernel
theorem dX6_mostOfOne_5 : decode cX6_mostOfOne 5 = .ok (.bipush 16, 2) := by decide +kernel
theorem dX6_mostOfOne_7 : decode cX6_mostOfOne 7 = .ok (.if_icmp .ge 19, 3) := by decide +kernel
theorem dX6_mostOfOne_10 : decode cX6_mostOfOne 10 = .ok (.iload_n 1, 1) := by decide +kernel
theorem dX6_mostOfOne_11 : decode cX6_mostOfOne 11 = .ok (.aload_n 0, 1) := by decide +kernel
theorem dX6_mostOfOne_12 : decode cX6_mostOfOne 12 = .ok (.iload_n 2, 1) := by decide +kernel
theorem dX6_mostOfOne_13 : decode cX6_mostOfOne 13 = .ok (.invokevirtual 22, 3) := by decide +kernel
theorem dX6_mostOfOne_16 : decode cX6_mostOfOne 16 = .ok (.invokestatic 26, 3) := by decide +kernel
theorem dX6_mostOfOne_19 : decode cX6_mostOfOne 19 = .ok (.istore_n 1, 1) := by decide +kernel
theorem dX6_mostOfOne_20 : decode cX6_mostOfOne 20 = .ok (.iinc 2 1, 3) := by decide +kernel
theorem dX6_mostOfOne_23 : decode cX6_mostOfOne 23 = .ok (.goto (-19), 3) := by decide +kernel
theorem dX6_mostOfOne_26 : decode cX6_mostOfOne 26 = .ok (.iload_n 1, 1) := by decide +kernel
theorem dX6_mostOfOne_27 : decode cX6_mostOfOne 27 = .ok (.ireturn, 1) := by decide +kernel
theorem dX6_planned_0 : decode cX6_planned 0 = .ok (.aload_n 0, 1) := by decide +kernel
theorem dX6_planned_1 : decode cX6_planned 1 = .ok (.getfield 15, 3) := by decide +kernel
theorem dX6_planned_4 : decode cX6_planned 4 = .ok (.iload_n 1, 1) := by decide +kernel
theorem dX6_planned_5 : decode cX6_planned 5 = .ok (.bipush 64, 2) := by decide +kernel
theorem dX6_planned_7 : decode cX6_planned 7 = .ok (.imul, 1) := by decide +kernel
theorem dX6_planned_8 : decode cX6_planned 8 = .ok (.iload_n 2, 1) := by decide +kernel
theorem dX6_planned_9 : decode cX6_planned 9 = .ok (.iadd, 1) := by decide +kernel
theorem dX6_planned_10 : decode cX6_planned 10 = .ok (.iaload, 1) := by decide +kernel
theorem dX6_planned_11 : decode cX6_planned 11 = .ok (.ireturn, 1) := by decide +kernel
theorem dX6_leastFree_0 : decode cX6_leastFree 0 = .ok (.iconst 0, 1) := by decide +kernel
theorem dX6_leastFree_1 : decode cX6_leastFree 1 = .ok (.istore_n 2, 1) := by decide +kernel
theorem dX6_leastFree_2 : decode cX6_leastFree 2 = .ok (.iload_n 2, 1) := by decide +kernel
theorem dX6_leastFree_3 : decode cX6_leastFree 3 = .ok (.bipush 64, 2) := by decide +kernel
theorem dX6_leastFree_5 : decode cX6_leastFree 5 = .ok (.if_icmp .ge 22, 3) := by decide +kernel
theorem dX6_leastFree_8 : decode cX6_leastFree 8 = .ok (.aload_n 0, 1) := by decide +kernel
theorem dX6_leastFree_9 : decode cX6_leastFree 9 = .ok (.iload_n 1, 1) := by decide +kernel
theorem dX6_leastFree_10 : decode cX6_leastFree 10 = .ok (.iload_n 2, 1) := by decide +kernel
theorem dX6_leastFree_11 : decode cX6_leastFree 11 = .ok (.invokevirtual 35, 3) := by decide +kernel
theorem dX6_leastFree_14 : decode cX6_leastFree 14 = .ok (.bipush (-4), 2) := by decide +kernel
theorem dX6_leastFree_16 : decode cX6_leastFree 16 = .ok (.if_icmp .ne 5, 3) := by decide +kernel
theorem dX6_leastFree_19 : decode cX6_leastFree 19 = .ok (.iload_n 2, 1) := by decide +kernel
theorem dX6_leastFree_20 : decode cX6_leastFree 20 = .ok (.ireturn, 1) := by decide +kernel
theorem dX6_leastFree_21 : decode cX6_leastFree 21 = .ok (.iinc 2 1, 3) := by decide +kernel
theorem dX6_leastFree_24 : decode cX6_leastFree 24 = .ok (.goto (-22), 3) := by decide +kernel
theorem dX6_leastFree_27 : decode cX6_leastFree 27 = .ok (.bipush (-4), 2) := by decide +kernel
theorem dX6_leastFree_29 : decode cX6_leastFree 29 = .ok (.ireturn, 1) := by decide +kernel
theorem dX6_enter_0 : decode cX6_enter 0 = .ok (.aload_n 0, 1) := by decide +kernel
theorem dX6_enter_1 : decode cX6_enter 1 = .ok (.getfield 15, 3) := by decide +kernel
theorem dX6_enter_4 : decode cX6_enter 4 = .ok (.iload_n 1, 1) := by decide +kernel
theorem dX6_enter_5 : decode cX6_enter 5 = .ok (.bipush 64, 2) := by decide +kernel
theorem dX6_enter_7 : decode cX6_enter 7 = .ok (.imul, 1) := by decide +kernel
theorem dX6_enter_8 : decode cX6_enter 8 = .ok (.iload_n 2, 1) := by decide +kernel
theorem dX6_enter_9 : decode cX6_enter 9 = .ok (.iadd, 1) := by decide +kernel
theorem dX6_enter_10 : decode cX6_enter 10 = .ok (.iload_n 3, 1) := by decide +kernel
theorem dX6_enter_11 : decode cX6_enter 11 = .ok (.iastore, 1) := by decide +kernel
theorem dX6_enter_12 : decode cX6_enter 12 = .ok (.return_, 1) := by decide +kernel
theorem dX6_changeRow_0 : decode cX6_changeRow 0 = .ok (.iload_n 1, 1) := by decide +kernel
theorem dX6_changeRow_1 : decode cX6_changeRow 1 = .ok (.istore 4, 2) := by decide +kernel
theorem dX6_changeRow_3 : decode cX6_changeRow 3 = .ok (.iconst 0, 1) := by decide +kernel
theorem dX6_changeRow_4 : decode cX6_changeRow 4 = .ok (.istore 5, 2) := by decide +kernel
theorem dX6_changeRow_6 : decode cX6_changeRow 6 = .ok (.iload 5, 2) := by decide +kernel
theorem dX6_changeRow_8 : decode cX6_changeRow 8 = .ok (.bipush 16, 2) := by decide +kernel
theorem dX6_changeRow_10 : decode cX6_changeRow 10 = .ok (.if_icmp .ge 68, 3) := by decide +kernel
theorem dX6_changeRow_13 : decode cX6_changeRow 13 = .ok (.iload 4, 2) := by decide +kernel
theorem dX6_changeRow_15 : decode cX6_changeRow 15 = .ok (.bipush (-4), 2) := by decide +kernel
theorem dX6_changeRow_17 : decode cX6_changeRow 17 = .ok (.if_icmp .eq 61, 3) := by decide +kernel
theorem dX6_changeRow_20 : decode cX6_changeRow 20 = .ok (.aload_n 0, 1) := by decide +kernel
theorem dX6_changeRow_21 : decode cX6_changeRow 21 = .ok (.iload 4, 2) := by decide +kernel
theorem dX6_changeRow_23 : decode cX6_changeRow 23 = .ok (.iload_n 2, 1) := by decide +kernel
theorem dX6_changeRow_24 : decode cX6_changeRow 24 = .ok (.invokevirtual 35, 3) := by decide +kernel
theorem dX6_changeRow_27 : decode cX6_changeRow 27 = .ok (.istore 6, 2) := by decide +kernel
theorem dX6_changeRow_29 : decode cX6_changeRow 29 = .ok (.aload_n 0, 1) := by decide +kernel
theorem dX6_changeRow_30 : decode cX6_changeRow 30 = .ok (.iload 4, 2) := by decide +kernel
theorem dX6_changeRow_32 : decode cX6_changeRow 32 = .ok (.iload_n 3, 1) := by decide +kernel
theorem dX6_changeRow_33 : decode cX6_changeRow 33 = .ok (.invokevirtual 35, 3) := by decide +kernel
theorem dX6_changeRow_36 : decode cX6_changeRow 36 = .ok (.istore 7, 2) := by decide +kernel
theorem dX6_changeRow_38 : decode cX6_changeRow 38 = .ok (.aload_n 0, 1) := by decide +kernel
theorem dX6_changeRow_39 : decode cX6_changeRow 39 = .ok (.iload 4, 2) := by decide +kernel
theorem dX6_changeRow_41 : decode cX6_changeRow 41 = .ok (.iload_n 2, 1) := by decide +kernel
theorem dX6_changeRow_42 : decode cX6_changeRow 42 = .ok (.iload 7, 2) := by decide +kernel
theorem dX6_changeRow_44 : decode cX6_changeRow 44 = .ok (.invokevirtual 55, 3) := by decide +kernel
theorem dX6_changeRow_47 : decode cX6_changeRow 47 = .ok (.aload_n 0, 1) := by decide +kernel
theorem dX6_changeRow_48 : decode cX6_changeRow 48 = .ok (.iload 4, 2) := by decide +kernel
theorem dX6_changeRow_50 : decode cX6_changeRow 50 = .ok (.iload_n 3, 1) := by decide +kernel
theorem dX6_changeRow_51 : decode cX6_changeRow 51 = .ok (.iload 6, 2) := by decide +kernel
theorem dX6_changeRow_53 : decode cX6_changeRow 53 = .ok (.invokevirtual 55, 3) := by decide +kernel
theorem dX6_changeRow_56 : decode cX6_changeRow 56 = .ok (.iload 5, 2) := by decide +kernel
theorem dX6_changeRow_58 : decode cX6_changeRow 58 = .ok (.iconst 2, 1) := by decide +kernel
theorem dX6_changeRow_59 : decode cX6_changeRow 59 = .ok (.irem, 1) := by decide +kernel
theorem dX6_changeRow_60 : decode cX6_changeRow 60 = .ok (.ifCond .ne 8, 3) := by decide +kernel
theorem dX6_changeRow_63 : decode cX6_changeRow 63 = .ok (.iload 6, 2) := by decide +kernel
theorem dX6_changeRow_65 : decode cX6_changeRow 65 = .ok (.goto 5, 3) := by decide +kernel
theorem dX6_changeRow_68 : decode cX6_changeRow 68 = .ok (.iload 7, 2) := by decide +kernel
theorem dX6_changeRow_70 : decode cX6_changeRow 70 = .ok (.istore 4, 2) := by decide +kernel
theorem dX6_changeRow_72 : decode cX6_changeRow 72 = .ok (.iinc 5 1, 3) := by decide +kernel
theorem dX6_changeRow_75 : decode cX6_changeRow 75 = .ok (.goto (-69), 3) := by decide +kernel
theorem dX6_changeRow_78 : decode cX6_changeRow 78 = .ok (.return_, 1) := by decide +kernel
theorem dX6_planOne_0 : decode cX6_planOne 0 = .ok (.aload_n 0, 1) := by decide +kernel
theorem dX6_planOne_1 : decode cX6_planOne 1 = .ok (.iload_n 1, 1) := by decide +kernel
theorem dX6_planOne_2 : decode cX6_planOne 2 = .ok (.invokevirtual 48, 3) := by decide +kernel
theorem dX6_planOne_5 : decode cX6_planOne 5 = .ok (.istore_n 3, 1) := by decide +kernel
theorem dX6_planOne_6 : decode cX6_planOne 6 = .ok (.aload_n 0, 1) := by decide +kernel
theorem dX6_planOne_7 : decode cX6_planOne 7 = .ok (.iload_n 2, 1) := by decide +kernel
theorem dX6_planOne_8 : decode cX6_planOne 8 = .ok (.invokevirtual 48, 3) := by decide +kernel
theorem dX6_planOne_11 : decode cX6_planOne 11 = .ok (.istore 4, 2) := by decide +kernel
theorem dX6_planOne_13 : decode cX6_planOne 13 = .ok (.iload_n 3, 1) := by decide +kernel
theorem dX6_planOne_14 : decode cX6_planOne 14 = .ok (.bipush (-4), 2) := by decide +kernel
theorem dX6_planOne_16 : decode cX6_planOne 16 = .ok (.if_icmp .eq 10, 3) := by decide +kernel
theorem dX6_planOne_19 : decode cX6_planOne 19 = .ok (.iload 4, 2) := by decide +kernel
theorem dX6_planOne_21 : decode cX6_planOne 21 = .ok (.bipush (-4), 2) := by decide +kernel
theorem dX6_planOne_23 : decode cX6_planOne 23 = .ok (.if_icmp .ne 4, 3) := by decide +kernel
theorem dX6_planOne_26 : decode cX6_planOne 26 = .ok (.return_, 1) := by decide +kernel
theorem dX6_planOne_27 : decode cX6_planOne 27 = .ok (.iload_n 3, 1) := by decide +kernel
theorem dX6_planOne_28 : decode cX6_planOne 28 = .ok (.iload 4, 2) := by decide +kernel
theorem dX6_planOne_30 : decode cX6_planOne 30 = .ok (.if_icmp .eq 11, 3) := by decide +kernel
theorem dX6_planOne_33 : decode cX6_planOne 33 = .ok (.aload_n 0, 1) := by decide +kernel
theorem dX6_planOne_34 : decode cX6_planOne 34 = .ok (.iload_n 2, 1) := by decide +kernel
theorem dX6_planOne_35 : decode cX6_planOne 35 = .ok (.iload_n 3, 1) := by decide +kernel
theorem dX6_planOne_36 : decode cX6_planOne 36 = .ok (.iload 4, 2) := by decide +kernel
theorem dX6_planOne_38 : decode cX6_planOne 38 = .ok (.invokevirtual 51, 3) := by decide +kernel
theorem dX6_planOne_41 : decode cX6_planOne 41 = .ok (.aload_n 0, 1) := by decide +kernel
theorem dX6_planOne_42 : decode cX6_planOne 42 = .ok (.iload_n 1, 1) := by decide +kernel
theorem dX6_planOne_43 : decode cX6_planOne 43 = .ok (.iload_n 3, 1) := by decide +kernel
theorem dX6_planOne_44 : decode cX6_planOne 44 = .ok (.iload_n 2, 1) := by decide +kernel
theorem dX6_planOne_45 : decode cX6_planOne 45 = .ok (.invokevirtual 55, 3) := by decide +kernel
theorem dX6_planOne_48 : decode cX6_planOne 48 = .ok (.aload_n 0, 1) := by decide +kernel
theorem dX6_planOne_49 : decode cX6_planOne 49 = .ok (.iload_n 2, 1) := by decide +kernel
theorem dX6_planOne_50 : decode cX6_planOne 50 = .ok (.iload_n 3, 1) := by decide +kernel
theorem dX6_planOne_51 : decode cX6_planOne 51 = .ok (.iload_n 1, 1) := by decide +kernel
theorem dX6_planOne_52 : decode cX6_planOne 52 = .ok (.invokevirtual 55, 3) := by decide +kernel
theorem dX6_planOne_55 : decode cX6_planOne 55 = .ok (.return_, 1) := by decide +kernel
theorem dX6_planAll_0 : decode cX6_planAll 0 = .ok (.aload_n 0, 1) := by decide +kernel
theorem dX6_planAll_1 : decode cX6_planAll 1 = .ok (.getfield 15, 3) := by decide +kernel
theorem dX6_planAll_4 : decode cX6_planAll 4 = .ok (.bipush (-4), 2) := by decide +kernel
theorem dX6_planAll_6 : decode cX6_planAll 6 = .ok (.invokestatic 38, 3) := by decide +kernel
theorem dX6_planAll_9 : decode cX6_planAll 9 = .ok (.iconst 0, 1) := by decide +kernel
theorem dX6_planAll_10 : decode cX6_planAll 10 = .ok (.istore_n 1, 1) := by decide +kernel
theorem dX6_planAll_11 : decode cX6_planAll 11 = .ok (.iload_n 1, 1) := by decide +kernel
theorem dX6_planAll_12 : decode cX6_planAll 12 = .ok (.bipush 16, 2) := by decide +kernel
theorem dX6_planAll_14 : decode cX6_planAll 14 = .ok (.if_icmp .ge 52, 3) := by decide +kernel
theorem dX6_planAll_17 : decode cX6_planAll 17 = .ok (.iconst 0, 1) := by decide +kernel
theorem dX6_planAll_18 : decode cX6_planAll 18 = .ok (.istore_n 2, 1) := by decide +kernel
theorem dX6_planAll_19 : decode cX6_planAll 19 = .ok (.iload_n 2, 1) := by decide +kernel
theorem dX6_planAll_20 : decode cX6_planAll 20 = .ok (.bipush 16, 2) := by decide +kernel
theorem dX6_planAll_22 : decode cX6_planAll 22 = .ok (.if_icmp .ge 38, 3) := by decide +kernel
theorem dX6_planAll_25 : decode cX6_planAll 25 = .ok (.iconst 0, 1) := by decide +kernel
theorem dX6_planAll_26 : decode cX6_planAll 26 = .ok (.istore_n 3, 1) := by decide +kernel
theorem dX6_planAll_27 : decode cX6_planAll 27 = .ok (.iload_n 3, 1) := by decide +kernel
theorem dX6_planAll_28 : decode cX6_planAll 28 = .ok (.aload_n 0, 1) := by decide +kernel
theorem dX6_planAll_29 : decode cX6_planAll 29 = .ok (.getfield 9, 3) := by decide +kernel
theorem dX6_planAll_32 : decode cX6_planAll 32 = .ok (.iload_n 1, 1) := by decide +kernel
theorem dX6_planAll_33 : decode cX6_planAll 33 = .ok (.bipush 16, 2) := by decide +kernel
theorem dX6_planAll_35 : decode cX6_planAll 35 = .ok (.imul, 1) := by decide +kernel
theorem dX6_planAll_36 : decode cX6_planAll 36 = .ok (.iload_n 2, 1) := by decide +kernel
theorem dX6_planAll_37 : decode cX6_planAll 37 = .ok (.iadd, 1) := by decide +kernel
theorem dX6_planAll_38 : decode cX6_planAll 38 = .ok (.iaload, 1) := by decide +kernel
theorem dX6_planAll_39 : decode cX6_planAll 39 = .ok (.if_icmp .ge 15, 3) := by decide +kernel
theorem dX6_planAll_42 : decode cX6_planAll 42 = .ok (.aload_n 0, 1) := by decide +kernel
theorem dX6_planAll_43 : decode cX6_planAll 43 = .ok (.iload_n 1, 1) := by decide +kernel
theorem dX6_planAll_44 : decode cX6_planAll 44 = .ok (.iload_n 2, 1) := by decide +kernel
theorem dX6_planAll_45 : decode cX6_planAll 45 = .ok (.invokevirtual 44, 3) := by decide +kernel
theorem dX6_planAll_48 : decode cX6_planAll 48 = .ok (.iinc 3 1, 3) := by decide +kernel
theorem dX6_planAll_51 : decode cX6_planAll 51 = .ok (.goto (-24), 3) := by decide +kernel
theorem dX6_planAll_54 : decode cX6_planAll 54 = .ok (.iinc 2 1, 3) := by decide +kernel
theorem dX6_planAll_57 : decode cX6_planAll 57 = .ok (.goto (-38), 3) := by decide +kernel
theorem dX6_planAll_60 : decode cX6_planAll 60 = .ok (.iinc 1 1, 3) := by decide +kernel
theorem dX6_planAll_63 : decode cX6_planAll 63 = .ok (.goto (-52), 3) := by decide +kernel
theorem dX6_planAll_66 : decode cX6_planAll 66 = .ok (.aload_n 0, 1) := by decide +kernel
theorem dX6_planAll_67 : decode cX6_planAll 67 = .ok (.iconst 1, 1) := by decide +kernel
theorem dX6_planAll_68 : decode cX6_planAll 68 = .ok (.putfield 18, 3) := by decide +kernel
theorem dX6_planAll_71 : decode cX6_planAll 71 = .ok (.return_, 1) := by decide +kernel
theorem dX6_partnerIn_0 : decode cX6_partnerIn 0 = .ok (.aload_n 0, 1) := by decide +kernel
theorem dX6_partnerIn_1 : decode cX6_partnerIn 1 = .ok (.getfield 18, 3) := by decide +kernel
theorem dX6_partnerIn_4 : decode cX6_partnerIn 4 = .ok (.ifCond .ne 7, 3) := by decide +kernel
theorem dX6_partnerIn_7 : decode cX6_partnerIn 7 = .ok (.aload_n 0, 1) := by decide +kernel
theorem dX6_partnerIn_8 : decode cX6_partnerIn 8 = .ok (.invokevirtual 32, 3) := by decide +kernel
theorem dX6_partnerIn_11 : decode cX6_partnerIn 11 = .ok (.aload_n 0, 1) := by decide +kernel
theorem dX6_partnerIn_12 : decode cX6_partnerIn 12 = .ok (.iload_n 1, 1) := by decide +kernel
theorem dX6_partnerIn_13 : decode cX6_partnerIn 13 = .ok (.iload_n 2, 1) := by decide +kernel
theorem dX6_partnerIn_14 : decode cX6_partnerIn 14 = .ok (.invokevirtual 35, 3) := by decide +kernel
theorem dX6_partnerIn_17 : decode cX6_partnerIn 17 = .ok (.ireturn, 1) := by decide +kernel
theorem dX7_person_0 : decode cX7_person 0 = .ok (.iload_n 2, 1) := by decide +kernel
theorem dX7_person_1 : decode cX7_person 1 = .ok (.iconst 0, 1) := by decide +kernel
theorem dX7_person_2 : decode cX7_person 2 = .ok (.bipush 9, 2) := by decide +kernel
theorem dX7_person_4 : decode cX7_person 4 = .ok (.invokestatic 58, 3) := by decide +kernel
theorem dX7_person_7 : decode cX7_person 7 = .ok (.ifCond .ne 5, 3) := by decide +kernel
theorem dX7_person_10 : decode cX7_person 10 = .ok (.iconst (-1), 1) := by decide +kernel
theorem dX7_person_11 : decode cX7_person 11 = .ok (.ireturn, 1) := by decide +kernel
theorem dX7_person_12 : decode cX7_person 12 = .ok (.aload_n 0, 1) := by decide +kernel
theorem dX7_person_13 : decode cX7_person 13 = .ok (.getfield 10, 3) := by decide +kernel
theorem dX7_person_16 : decode cX7_person 16 = .ok (.getfield 62, 3) := by decide +kernel
theorem dX7_person_19 : decode cX7_person 19 = .ok (.bipush 16, 2) := by decide +kernel
theorem dX7_person_21 : decode cX7_person 21 = .ok (.if_icmp .lt 6, 3) := by decide +kernel
theorem dX7_person_24 : decode cX7_person 24 = .ok (.bipush (-3), 2) := by decide +kernel
theorem dX7_person_26 : decode cX7_person 26 = .ok (.ireturn, 1) := by decide +kernel
theorem dX7_person_27 : decode cX7_person 27 = .ok (.aload_n 0, 1) := by decide +kernel
theorem dX7_person_28 : decode cX7_person 28 = .ok (.getfield 10, 3) := by decide +kernel
theorem dX7_person_31 : decode cX7_person 31 = .ok (.iload_n 1, 1) := by decide +kernel
theorem dX7_person_32 : decode cX7_person 32 = .ok (.iload_n 2, 1) := by decide +kernel
theorem dX7_person_33 : decode cX7_person 33 = .ok (.invokevirtual 66, 3) := by decide +kernel
theorem dX7_person_36 : decode cX7_person 36 = .ok (.ireturn, 1) := by decide +kernel
theorem dX7_areTwo_0 : decode cX7_areTwo 0 = .ok (.iload_n 1, 1) := by decide +kernel
theorem dX7_areTwo_1 : decode cX7_areTwo 1 = .ok (.iload_n 2, 1) := by decide +kernel
theorem dX7_areTwo_2 : decode cX7_areTwo 2 = .ok (.if_icmp .eq 29, 3) := by decide +kernel
theorem dX7_areTwo_5 : decode cX7_areTwo 5 = .ok (.aload_n 0, 1) := by decide +kernel
theorem dX7_areTwo_6 : decode cX7_areTwo 6 = .ok (.getfield 10, 3) := by decide +kernel
theorem dX7_areTwo_9 : decode cX7_areTwo 9 = .ok (.iload_n 1, 1) := by decide +kernel
theorem dX7_areTwo_10 : decode cX7_areTwo 10 = .ok (.invokevirtual 74, 3) := by decide +kernel
theorem dX7_areTwo_13 : decode cX7_areTwo 13 = .ok (.ifCond .eq 18, 3) := by decide +kernel
theorem dX7_areTwo_16 : decode cX7_areTwo 16 = .ok (.aload_n 0, 1) := by decide +kernel
theorem dX7_areTwo_17 : decode cX7_areTwo 17 = .ok (.getfield 10, 3) := by decide +kernel
theorem dX7_areTwo_20 : decode cX7_areTwo 20 = .ok (.iload_n 2, 1) := by decide +kernel
theorem dX7_areTwo_21 : decode cX7_areTwo 21 = .ok (.invokevirtual 74, 3) := by decide +kernel
theorem dX7_areTwo_24 : decode cX7_areTwo 24 = .ok (.ifCond .eq 7, 3) := by decide +kernel
theorem dX7_areTwo_27 : decode cX7_areTwo 27 = .ok (.iconst 1, 1) := by decide +kernel
theorem dX7_areTwo_28 : decode cX7_areTwo 28 = .ok (.goto 4, 3) := by decide +kernel
theorem dX7_areTwo_31 : decode cX7_areTwo 31 = .ok (.iconst 0, 1) := by decide +kernel
theorem dX7_areTwo_32 : decode cX7_areTwo 32 = .ok (.ireturn, 1) := by decide +kernel
theorem dX7_introduce_0 : decode cX7_introduce 0 = .ok (.aload_n 0, 1) := by decide +kernel
theorem dX7_introduce_1 : decode cX7_introduce 1 = .ok (.iload_n 2, 1) := by decide +kernel
theorem dX7_introduce_2 : decode cX7_introduce 2 = .ok (.iload_n 3, 1) := by decide +kernel
theorem dX7_introduce_3 : decode cX7_introduce 3 = .ok (.invokevirtual 70, 3) := by decide +kernel
theorem dX7_introduce_6 : decode cX7_introduce 6 = .ok (.ifCond .eq 13, 3) := by decide +kernel
theorem dX7_introduce_9 : decode cX7_introduce 9 = .ok (.iload_n 1, 1) := by decide +kernel
theorem dX7_introduce_10 : decode cX7_introduce 10 = .ok (.iload_n 2, 1) := by decide +kernel
theorem dX7_introduce_11 : decode cX7_introduce 11 = .ok (.if_icmp .eq 8, 3) := by decide +kernel
theorem dX7_introduce_14 : decode cX7_introduce 14 = .ok (.iload_n 1, 1) := by decide +kernel
theorem dX7_introduce_15 : decode cX7_introduce 15 = .ok (.iload_n 3, 1) := by decide +kernel
theorem dX7_introduce_16 : decode cX7_introduce 16 = .ok (.if_icmp .ne 5, 3) := by decide +kernel
theorem dX7_introduce_19 : decode cX7_introduce 19 = .ok (.iconst (-1), 1) := by decide +kernel
theorem dX7_introduce_20 : decode cX7_introduce 20 = .ok (.ireturn, 1) := by decide +kernel
theorem dX7_introduce_21 : decode cX7_introduce 21 = .ok (.iload_n 1, 1) := by decide +kernel
theorem dX7_introduce_22 : decode cX7_introduce 22 = .ok (.bipush (-4), 2) := by decide +kernel
theorem dX7_introduce_24 : decode cX7_introduce 24 = .ok (.if_icmp .eq 16, 3) := by decide +kernel
theorem dX7_introduce_27 : decode cX7_introduce 27 = .ok (.aload_n 0, 1) := by decide +kernel
theorem dX7_introduce_28 : decode cX7_introduce 28 = .ok (.getfield 10, 3) := by decide +kernel
theorem dX7_introduce_31 : decode cX7_introduce 31 = .ok (.iload_n 1, 1) := by decide +kernel
theorem dX7_introduce_32 : decode cX7_introduce 32 = .ok (.invokevirtual 74, 3) := by decide +kernel
theorem dX7_introduce_35 : decode cX7_introduce 35 = .ok (.ifCond .ne 5, 3) := by decide +kernel
theorem dX7_introduce_38 : decode cX7_introduce 38 = .ok (.iconst (-1), 1) := by decide +kernel
theorem dX7_introduce_39 : decode cX7_introduce 39 = .ok (.ireturn, 1) := by decide +kernel
theorem dX7_introduce_40 : decode cX7_introduce 40 = .ok (.aload_n 0, 1) := by decide +kernel
theorem dX7_introduce_41 : decode cX7_introduce 41 = .ok (.getfield 10, 3) := by decide +kernel
theorem dX7_introduce_44 : decode cX7_introduce 44 = .ok (.iload_n 2, 1) := by decide +kernel
theorem dX7_introduce_45 : decode cX7_introduce 45 = .ok (.iload_n 3, 1) := by decide +kernel
theorem dX7_introduce_46 : decode cX7_introduce 46 = .ok (.invokevirtual 78, 3) := by decide +kernel
theorem dX7_introduce_49 : decode cX7_introduce 49 = .ok (.ifCond .eq 6, 3) := by decide +kernel
theorem dX7_introduce_52 : decode cX7_introduce 52 = .ok (.bipush (-2), 2) := by decide +kernel
theorem dX7_introduce_54 : decode cX7_introduce 54 = .ok (.ireturn, 1) := by decide +kernel
theorem dX7_introduce_55 : decode cX7_introduce 55 = .ok (.iload_n 1, 1) := by decide +kernel
theorem dX7_introduce_56 : decode cX7_introduce 56 = .ok (.bipush (-4), 2) := by decide +kernel
theorem dX7_introduce_58 : decode cX7_introduce 58 = .ok (.if_icmp .eq 30, 3) := by decide +kernel
theorem dX7_introduce_61 : decode cX7_introduce 61 = .ok (.aload_n 0, 1) := by decide +kernel
theorem dX7_introduce_62 : decode cX7_introduce 62 = .ok (.getfield 10, 3) := by decide +kernel
theorem dX7_introduce_65 : decode cX7_introduce 65 = .ok (.iload_n 1, 1) := by decide +kernel
theorem dX7_introduce_66 : decode cX7_introduce 66 = .ok (.iload_n 2, 1) := by decide +kernel
theorem dX7_introduce_67 : decode cX7_introduce 67 = .ok (.invokevirtual 78, 3) := by decide +kernel
theorem dX7_introduce_70 : decode cX7_introduce 70 = .ok (.ifCond .eq 15, 3) := by decide +kernel
theorem dX7_introduce_73 : decode cX7_introduce 73 = .ok (.aload_n 0, 1) := by decide +kernel
theorem dX7_introduce_74 : decode cX7_introduce 74 = .ok (.getfield 10, 3) := by decide +kernel
theorem dX7_introduce_77 : decode cX7_introduce 77 = .ok (.iload_n 1, 1) := by decide +kernel
theorem dX7_introduce_78 : decode cX7_introduce 78 = .ok (.iload_n 3, 1) := by decide +kernel
theorem dX7_introduce_79 : decode cX7_introduce 79 = .ok (.invokevirtual 78, 3) := by decide +kernel
theorem dX7_introduce_82 : decode cX7_introduce 82 = .ok (.ifCond .ne 6, 3) := by decide +kernel
theorem dX7_introduce_85 : decode cX7_introduce 85 = .ok (.bipush (-2), 2) := by decide +kernel
theorem dX7_introduce_87 : decode cX7_introduce 87 = .ok (.ireturn, 1) := by decide +kernel
theorem dX7_introduce_88 : decode cX7_introduce 88 = .ok (.aload_n 0, 1) := by decide +kernel
theorem dX7_introduce_89 : decode cX7_introduce 89 = .ok (.getfield 10, 3) := by decide +kernel
theorem dX7_introduce_92 : decode cX7_introduce 92 = .ok (.iload_n 2, 1) := by decide +kernel
theorem dX7_introduce_93 : decode cX7_introduce 93 = .ok (.iload_n 3, 1) := by decide +kernel
theorem dX7_introduce_94 : decode cX7_introduce 94 = .ok (.invokevirtual 81, 3) := by decide +kernel
theorem dX7_introduce_97 : decode cX7_introduce 97 = .ok (.iconst 1, 1) := by decide +kernel
theorem dX7_introduce_98 : decode cX7_introduce 98 = .ok (.ireturn, 1) := by decide +kernel
theorem dX7_feud_0 : decode cX7_feud 0 = .ok (.aload_n 0, 1) := by decide +kernel
theorem dX7_feud_1 : decode cX7_feud 1 = .ok (.iload_n 1, 1) := by decide +kernel
theorem dX7_feud_2 : decode cX7_feud 2 = .ok (.iload_n 2, 1) := by decide +kernel
theorem dX7_feud_3 : decode cX7_feud 3 = .ok (.invokevirtual 70, 3) := by decide +kernel
theorem dX7_feud_6 : decode cX7_feud 6 = .ok (.ifCond .ne 5, 3) := by decide +kernel
theorem dX7_feud_9 : decode cX7_feud 9 = .ok (.iconst (-1), 1) := by decide +kernel
theorem dX7_feud_10 : decode cX7_feud 10 = .ok (.ireturn, 1) := by decide +kernel
theorem dX7_feud_11 : decode cX7_feud 11 = .ok (.aload_n 0, 1) := by decide +kernel
theorem dX7_feud_12 : decode cX7_feud 12 = .ok (.getfield 10, 3) := by decide +kernel
theorem dX7_feud_15 : decode cX7_feud 15 = .ok (.iload_n 1, 1) := by decide +kernel
theorem dX7_feud_16 : decode cX7_feud 16 = .ok (.iload_n 2, 1) := by decide +kernel
theorem dX7_feud_17 : decode cX7_feud 17 = .ok (.invokevirtual 85, 3) := by decide +kernel
theorem dX7_feud_20 : decode cX7_feud 20 = .ok (.invokestatic 88, 3) := by decide +kernel
theorem dX7_feud_23 : decode cX7_feud 23 = .ok (.istore 4, 2) := by decide +kernel
theorem dX7_feud_25 : decode cX7_feud 25 = .ok (.aload_n 0, 1) := by decide +kernel
theorem dX7_feud_26 : decode cX7_feud 26 = .ok (.getfield 10, 3) := by decide +kernel
theorem dX7_feud_29 : decode cX7_feud 29 = .ok (.iload_n 1, 1) := by decide +kernel
theorem dX7_feud_30 : decode cX7_feud 30 = .ok (.iload_n 2, 1) := by decide +kernel
theorem dX7_feud_31 : decode cX7_feud 31 = .ok (.iload_n 3, 1) := by decide +kernel
theorem dX7_feud_32 : decode cX7_feud 32 = .ok (.invokevirtual 92, 3) := by decide +kernel
theorem dX7_feud_35 : decode cX7_feud 35 = .ok (.iload 4, 2) := by decide +kernel
theorem dX7_feud_37 : decode cX7_feud 37 = .ok (.ireturn, 1) := by decide +kernel
theorem dX7_knows_0 : decode cX7_knows 0 = .ok (.aload_n 0, 1) := by decide +kernel
theorem dX7_knows_1 : decode cX7_knows 1 = .ok (.getfield 10, 3) := by decide +kernel
theorem dX7_knows_4 : decode cX7_knows 4 = .ok (.iload_n 1, 1) := by decide +kernel
theorem dX7_knows_5 : decode cX7_knows 5 = .ok (.invokevirtual 74, 3) := by decide +kernel
theorem dX7_knows_8 : decode cX7_knows 8 = .ok (.ifCond .eq 14, 3) := by decide +kernel
theorem dX7_knows_11 : decode cX7_knows 11 = .ok (.aload_n 0, 1) := by decide +kernel
theorem dX7_knows_12 : decode cX7_knows 12 = .ok (.getfield 10, 3) := by decide +kernel
theorem dX7_knows_15 : decode cX7_knows 15 = .ok (.iload_n 2, 1) := by decide +kernel
theorem dX7_knows_16 : decode cX7_knows 16 = .ok (.invokevirtual 74, 3) := by decide +kernel
theorem dX7_knows_19 : decode cX7_knows 19 = .ok (.ifCond .ne 5, 3) := by decide +kernel
theorem dX7_knows_22 : decode cX7_knows 22 = .ok (.iconst (-1), 1) := by decide +kernel
theorem dX7_knows_23 : decode cX7_knows 23 = .ok (.ireturn, 1) := by decide +kernel
theorem dX7_knows_24 : decode cX7_knows 24 = .ok (.aload_n 0, 1) := by decide +kernel
theorem dX7_knows_25 : decode cX7_knows 25 = .ok (.getfield 10, 3) := by decide +kernel
theorem dX7_knows_28 : decode cX7_knows 28 = .ok (.iload_n 1, 1) := by decide +kernel
theorem dX7_knows_29 : decode cX7_knows 29 = .ok (.iload_n 2, 1) := by decide +kernel
theorem dX7_knows_30 : decode cX7_knows 30 = .ok (.invokevirtual 78, 3) := by decide +kernel
theorem dX7_knows_33 : decode cX7_knows 33 = .ok (.invokestatic 88, 3) := by decide +kernel
theorem dX7_knows_36 : decode cX7_knows 36 = .ok (.ireturn, 1) := by decide +kernel
theorem dX7_feed_0 : decode cX7_feed 0 = .ok (.aload_n 0, 1) := by decide +kernel
theorem dX7_feed_1 : decode cX7_feed 1 = .ok (.getfield 19, 3) := by decide +kernel
theorem dX7_feed_4 : decode cX7_feed 4 = .ok (.lload_n 1, 1) := by decide +kernel
theorem dX7_feed_5 : decode cX7_feed 5 = .ok (.invokevirtual 96, 3) := by decide +kernel
theorem dX7_feed_8 : decode cX7_feed 8 = .ok (.ireturn, 1) := by decide +kernel
theorem dX7_end_0 : decode cX7_end 0 = .ok (.aload_n 0, 1) := by decide +kernel
theorem dX7_end_1 : decode cX7_end 1 = .ok (.getfield 19, 3) := by decide +kernel
theorem dX7_end_4 : decode cX7_end 4 = .ok (.iload_n 1, 1) := by decide +kernel
theorem dX7_end_5 : decode cX7_end 5 = .ok (.invokevirtual 100, 3) := by decide +kernel
theorem dX7_end_8 : decode cX7_end 8 = .ok (.ireturn, 1) := by decide +kernel
theorem dX7_customs_0 : decode cX7_customs 0 = .ok (.aload_n 0, 1) := by decide +kernel
theorem dX7_customs_1 : decode cX7_customs 1 = .ok (.getfield 19, 3) := by decide +kernel
theorem dX7_customs_4 : decode cX7_customs 4 = .ok (.invokevirtual 104, 3) := by decide +kernel
theorem dX7_customs_7 : decode cX7_customs 7 = .ok (.ireturn, 1) := by decide +kernel
theorem dX7_fault_0 : decode cX7_fault 0 = .ok (.aload_n 0, 1) := by decide +kernel
theorem dX7_fault_1 : decode cX7_fault 1 = .ok (.getfield 19, 3) := by decide +kernel
theorem dX7_fault_4 : decode cX7_fault 4 = .ok (.getfield 108, 3) := by decide +kernel
theorem dX7_fault_7 : decode cX7_fault 7 = .ok (.ireturn, 1) := by decide +kernel
theorem dX7_custom_0 : decode cX7_custom 0 = .ok (.iload_n 1, 1) := by decide +kernel
theorem dX7_custom_1 : decode cX7_custom 1 = .ok (.iconst 0, 1) := by decide +kernel
theorem dX7_custom_2 : decode cX7_custom 2 = .ok (.iconst 3, 1) := by decide +kernel
theorem dX7_custom_3 : decode cX7_custom 3 = .ok (.invokestatic 58, 3) := by decide +kernel
theorem dX7_custom_6 : decode cX7_custom 6 = .ok (.ifCond .eq 15, 3) := by decide +kernel
theorem dX7_custom_9 : decode cX7_custom 9 = .ok (.aload_n 0, 1) := by decide +kernel
theorem dX7_custom_10 : decode cX7_custom 10 = .ok (.getfield 19, 3) := by decide +kernel
theorem dX7_custom_13 : decode cX7_custom 13 = .ok (.getfield 111, 3) := by decide +kernel
theorem dX7_custom_16 : decode cX7_custom 16 = .ok (.iload_n 1, 1) := by decide +kernel
theorem dX7_custom_17 : decode cX7_custom 17 = .ok (.iaload, 1) := by decide +kernel
theorem dX7_custom_18 : decode cX7_custom 18 = .ok (.goto 4, 3) := by decide +kernel
theorem dX7_custom_21 : decode cX7_custom 21 = .ok (.iconst (-1), 1) := by decide +kernel
theorem dX7_custom_22 : decode cX7_custom 22 = .ok (.ireturn, 1) := by decide +kernel
theorem dX7_isDance_0 : decode cX7_isDance 0 = .ok (.iload_n 0, 1) := by decide +kernel
theorem dX7_isDance_1 : decode cX7_isDance 1 = .ok (.iconst 0, 1) := by decide +kernel
theorem dX7_isDance_2 : decode cX7_isDance 2 = .ok (.bipush 23, 2) := by decide +kernel
theorem dX7_isDance_4 : decode cX7_isDance 4 = .ok (.invokestatic 58, 3) := by decide +kernel
theorem dX7_isDance_7 : decode cX7_isDance 7 = .ok (.ireturn, 1) := by decide +kernel
theorem dX7_isAsking_0 : decode cX7_isAsking 0 = .ok (.aload_n 0, 1) := by decide +kernel
theorem dX7_isAsking_1 : decode cX7_isAsking 1 = .ok (.getfield 10, 3) := by decide +kernel
theorem dX7_isAsking_4 : decode cX7_isAsking 4 = .ok (.iload_n 1, 1) := by decide +kernel
theorem dX7_isAsking_5 : decode cX7_isAsking 5 = .ok (.invokevirtual 136, 3) := by decide +kernel
theorem dX7_isAsking_8 : decode cX7_isAsking 8 = .ok (.ifCond .eq 25, 3) := by decide +kernel
theorem dX7_isAsking_11 : decode cX7_isAsking 11 = .ok (.aload_n 0, 1) := by decide +kernel
theorem dX7_isAsking_12 : decode cX7_isAsking 12 = .ok (.getfield 10, 3) := by decide +kernel
theorem dX7_isAsking_15 : decode cX7_isAsking 15 = .ok (.iload_n 2, 1) := by decide +kernel
theorem dX7_isAsking_16 : decode cX7_isAsking 16 = .ok (.invokevirtual 207, 3) := by decide +kernel
theorem dX7_isAsking_19 : decode cX7_isAsking 19 = .ok (.ifCond .eq 14, 3) := by decide +kernel
theorem dX7_isAsking_22 : decode cX7_isAsking 22 = .ok (.iload_n 3, 1) := by decide +kernel
theorem dX7_isAsking_23 : decode cX7_isAsking 23 = .ok (.invokestatic 139, 3) := by decide +kernel
theorem dX7_isAsking_26 : decode cX7_isAsking 26 = .ok (.ifCond .eq 7, 3) := by decide +kernel
theorem dX7_isAsking_29 : decode cX7_isAsking 29 = .ok (.iconst 1, 1) := by decide +kernel
theorem dX7_isAsking_30 : decode cX7_isAsking 30 = .ok (.goto 4, 3) := by decide +kernel
theorem dX7_isAsking_33 : decode cX7_isAsking 33 = .ok (.iconst 0, 1) := by decide +kernel
theorem dX7_isAsking_34 : decode cX7_isAsking 34 = .ok (.ireturn, 1) := by decide +kernel
theorem dX7_customAgainst_0 : decode cX7_customAgainst 0 = .ok (.aload_n 0, 1) := by decide +kernel
theorem dX7_customAgainst_1 : decode cX7_customAgainst 1 = .ok (.getfield 26, 3) := by decide +kernel
theorem dX7_customAgainst_4 : decode cX7_customAgainst 4 = .ok (.iload_n 1, 1) := by decide +kernel
theorem dX7_customAgainst_5 : decode cX7_customAgainst 5 = .ok (.iload_n 2, 1) := by decide +kernel
theorem dX7_customAgainst_6 : decode cX7_customAgainst 6 = .ok (.invokevirtual 258, 3) := by decide +kernel
theorem dX7_customAgainst_9 : decode cX7_customAgainst 9 = .ok (.istore 4, 2) := by decide +kernel
theorem dX7_customAgainst_11 : decode cX7_customAgainst 11 = .ok (.aload_n 0, 1) := by decide +kernel
theorem dX7_customAgainst_12 : decode cX7_customAgainst 12 = .ok (.getfield 26, 3) := by decide +kernel
theorem dX7_customAgainst_15 : decode cX7_customAgainst 15 = .ok (.iload_n 1, 1) := by decide +kernel
theorem dX7_customAgainst_16 : decode cX7_customAgainst 16 = .ok (.iload_n 3, 1) := by decide +kernel
theorem dX7_customAgainst_17 : decode cX7_customAgainst 17 = .ok (.invokevirtual 261, 3) := by decide +kernel
theorem dX7_customAgainst_20 : decode cX7_customAgainst 20 = .ok (.aload_n 0, 1) := by decide +kernel
theorem dX7_customAgainst_21 : decode cX7_customAgainst 21 = .ok (.getfield 26, 3) := by decide +kernel
theorem dX7_customAgainst_24 : decode cX7_customAgainst 24 = .ok (.iload_n 2, 1) := by decide +kernel
theorem dX7_customAgainst_25 : decode cX7_customAgainst 25 = .ok (.iload_n 3, 1) := by decide +kernel
theorem dX7_customAgainst_26 : decode cX7_customAgainst 26 = .ok (.invokevirtual 261, 3) := by decide +kernel
theorem dX7_customAgainst_29 : decode cX7_customAgainst 29 = .ok (.invokestatic 264, 3) := by decide +kernel
theorem dX7_customAgainst_32 : decode cX7_customAgainst 32 = .ok (.istore 5, 2) := by decide +kernel
theorem dX7_customAgainst_34 : decode cX7_customAgainst 34 = .ok (.aload_n 0, 1) := by decide +kernel
theorem dX7_customAgainst_35 : decode cX7_customAgainst 35 = .ok (.getfield 19, 3) := by decide +kernel
theorem dX7_customAgainst_38 : decode cX7_customAgainst 38 = .ok (.iconst 0, 1) := by decide +kernel
theorem dX7_customAgainst_39 : decode cX7_customAgainst 39 = .ok (.invokevirtual 246, 3) := by decide +kernel
theorem dX7_customAgainst_42 : decode cX7_customAgainst 42 = .ok (.ifCond .eq 20, 3) := by decide +kernel
theorem dX7_customAgainst_45 : decode cX7_customAgainst 45 = .ok (.iload 4, 2) := by decide +kernel
theorem dX7_customAgainst_47 : decode cX7_customAgainst 47 = .ok (.aload_n 0, 1) := by decide +kernel
theorem dX7_customAgainst_48 : decode cX7_customAgainst 48 = .ok (.getfield 19, 3) := by decide +kernel
theorem dX7_customAgainst_51 : decode cX7_customAgainst 51 = .ok (.getfield 111, 3) := by decide +kernel
theorem dX7_customAgainst_54 : decode cX7_customAgainst 54 = .ok (.iconst 0, 1) := by decide +kernel
theorem dX7_customAgainst_55 : decode cX7_customAgainst 55 = .ok (.iaload, 1) := by decide +kernel
theorem dX7_customAgainst_56 : decode cX7_customAgainst 56 = .ok (.if_icmp .lt 6, 3) := by decide +kernel
theorem dX7_customAgainst_59 : decode cX7_customAgainst 59 = .ok (.bipush 6, 2) := by decide +kernel
theorem dX7_customAgainst_61 : decode cX7_customAgainst 61 = .ok (.ireturn, 1) := by decide +kernel
theorem dX7_customAgainst_62 : decode cX7_customAgainst 62 = .ok (.aload_n 0, 1) := by decide +kernel
theorem dX7_customAgainst_63 : decode cX7_customAgainst 63 = .ok (.getfield 19, 3) := by decide +kernel
theorem dX7_customAgainst_66 : decode cX7_customAgainst 66 = .ok (.iconst 2, 1) := by decide +kernel
theorem dX7_customAgainst_67 : decode cX7_customAgainst 67 = .ok (.invokevirtual 246, 3) := by decide +kernel
theorem dX7_customAgainst_70 : decode cX7_customAgainst 70 = .ok (.ifCond .eq 20, 3) := by decide +kernel
theorem dX7_customAgainst_73 : decode cX7_customAgainst 73 = .ok (.iload 5, 2) := by decide +kernel
theorem dX7_customAgainst_75 : decode cX7_customAgainst 75 = .ok (.aload_n 0, 1) := by decide +kernel
theorem dX7_customAgainst_76 : decode cX7_customAgainst 76 = .ok (.getfield 19, 3) := by decide +kernel
theorem dX7_customAgainst_79 : decode cX7_customAgainst 79 = .ok (.getfield 111, 3) := by decide +kernel
theorem dX7_customAgainst_82 : decode cX7_customAgainst 82 = .ok (.iconst 2, 1) := by decide +kernel
theorem dX7_customAgainst_83 : decode cX7_customAgainst 83 = .ok (.iaload, 1) := by decide +kernel
theorem dX7_customAgainst_84 : decode cX7_customAgainst 84 = .ok (.if_icmp .le 6, 3) := by decide +kernel
theorem dX7_customAgainst_87 : decode cX7_customAgainst 87 = .ok (.bipush 7, 2) := by decide +kernel
theorem dX7_customAgainst_89 : decode cX7_customAgainst 89 = .ok (.ireturn, 1) := by decide +kernel
theorem dX7_customAgainst_90 : decode cX7_customAgainst 90 = .ok (.aload_n 0, 1) := by decide +kernel
theorem dX7_customAgainst_91 : decode cX7_customAgainst 91 = .ok (.getfield 19, 3) := by decide +kernel
theorem dX7_customAgainst_94 : decode cX7_customAgainst 94 = .ok (.iconst 3, 1) := by decide +kernel
theorem dX7_customAgainst_95 : decode cX7_customAgainst 95 = .ok (.invokevirtual 246, 3) := by decide +kernel
theorem dX7_customAgainst_98 : decode cX7_customAgainst 98 = .ok (.ifCond .eq 24, 3) := by decide +kernel
theorem dX7_customAgainst_101 : decode cX7_customAgainst 101 = .ok (.iload_n 3, 1) := by decide +kernel
theorem dX7_customAgainst_102 : decode cX7_customAgainst 102 = .ok (.aload_n 0, 1) := by decide +kernel
theorem dX7_customAgainst_103 : decode cX7_customAgainst 103 = .ok (.getfield 19, 3) := by decide +kernel
theorem dX7_customAgainst_106 : decode cX7_customAgainst 106 = .ok (.getfield 111, 3) := by decide +kernel
theorem dX7_customAgainst_109 : decode cX7_customAgainst 109 = .ok (.iconst 3, 1) := by decide +kernel
theorem dX7_customAgainst_110 : decode cX7_customAgainst 110 = .ok (.iaload, 1) := by decide +kernel
theorem dX7_customAgainst_111 : decode cX7_customAgainst 111 = .ok (.if_icmp .ne 11, 3) := by decide +kernel
theorem dX7_customAgainst_114 : decode cX7_customAgainst 114 = .ok (.iload 4, 2) := by decide +kernel
theorem dX7_customAgainst_116 : decode cX7_customAgainst 116 = .ok (.ifCond .ne 6, 3) := by decide +kernel
theorem dX7_customAgainst_119 : decode cX7_customAgainst 119 = .ok (.bipush 8, 2) := by decide +kernel
theorem dX7_customAgainst_121 : decode cX7_customAgainst 121 = .ok (.ireturn, 1) := by decide +kernel
theorem dX7_customAgainst_122 : decode cX7_customAgainst 122 = .ok (.iconst 0, 1) := by decide +kernel
theorem dX7_customAgainst_123 : decode cX7_customAgainst 123 = .ok (.ireturn, 1) := by decide +kernel
theorem dX7_reasonAgainst_0 : decode cX7_reasonAgainst 0 = .ok (.aload_n 0, 1) := by decide +kernel
theorem dX7_reasonAgainst_1 : decode cX7_reasonAgainst 1 = .ok (.getfield 10, 3) := by decide +kernel
theorem dX7_reasonAgainst_4 : decode cX7_reasonAgainst 4 = .ok (.iload_n 1, 1) := by decide +kernel
theorem dX7_reasonAgainst_5 : decode cX7_reasonAgainst 5 = .ok (.invokevirtual 145, 3) := by decide +kernel
theorem dX7_reasonAgainst_8 : decode cX7_reasonAgainst 8 = .ok (.ifCond .ne 14, 3) := by decide +kernel
theorem dX7_reasonAgainst_11 : decode cX7_reasonAgainst 11 = .ok (.aload_n 0, 1) := by decide +kernel
theorem dX7_reasonAgainst_12 : decode cX7_reasonAgainst 12 = .ok (.getfield 10, 3) := by decide +kernel
theorem dX7_reasonAgainst_15 : decode cX7_reasonAgainst 15 = .ok (.iload_n 2, 1) := by decide +kernel
theorem dX7_reasonAgainst_16 : decode cX7_reasonAgainst 16 = .ok (.invokevirtual 145, 3) := by decide +kernel
theorem dX7_reasonAgainst_19 : decode cX7_reasonAgainst 19 = .ok (.ifCond .eq 5, 3) := by decide +kernel
theorem dX7_reasonAgainst_22 : decode cX7_reasonAgainst 22 = .ok (.iconst 1, 1) := by decide +kernel
theorem dX7_reasonAgainst_23 : decode cX7_reasonAgainst 23 = .ok (.ireturn, 1) := by decide +kernel
theorem dX7_reasonAgainst_24 : decode cX7_reasonAgainst 24 = .ok (.aload_n 0, 1) := by decide +kernel
theorem dX7_reasonAgainst_25 : decode cX7_reasonAgainst 25 = .ok (.getfield 10, 3) := by decide +kernel
theorem dX7_reasonAgainst_28 : decode cX7_reasonAgainst 28 = .ok (.iload_n 1, 1) := by decide +kernel
theorem dX7_reasonAgainst_29 : decode cX7_reasonAgainst 29 = .ok (.iload_n 2, 1) := by decide +kernel
theorem dX7_reasonAgainst_30 : decode cX7_reasonAgainst 30 = .ok (.invokevirtual 78, 3) := by decide +kernel
theorem dX7_reasonAgainst_33 : decode cX7_reasonAgainst 33 = .ok (.ifCond .ne 5, 3) := by decide +kernel
theorem dX7_reasonAgainst_36 : decode cX7_reasonAgainst 36 = .ok (.iconst 2, 1) := by decide +kernel
theorem dX7_reasonAgainst_37 : decode cX7_reasonAgainst 37 = .ok (.ireturn, 1) := by decide +kernel
theorem dX7_reasonAgainst_38 : decode cX7_reasonAgainst 38 = .ok (.aload_n 0, 1) := by decide +kernel
theorem dX7_reasonAgainst_39 : decode cX7_reasonAgainst 39 = .ok (.getfield 10, 3) := by decide +kernel
theorem dX7_reasonAgainst_42 : decode cX7_reasonAgainst 42 = .ok (.iload_n 1, 1) := by decide +kernel
theorem dX7_reasonAgainst_43 : decode cX7_reasonAgainst 43 = .ok (.iload_n 2, 1) := by decide +kernel
theorem dX7_reasonAgainst_44 : decode cX7_reasonAgainst 44 = .ok (.invokevirtual 85, 3) := by decide +kernel
theorem dX7_reasonAgainst_47 : decode cX7_reasonAgainst 47 = .ok (.ifCond .eq 5, 3) := by decide +kernel
theorem dX7_reasonAgainst_50 : decode cX7_reasonAgainst 50 = .ok (.iconst 3, 1) := by decide +kernel
theorem dX7_reasonAgainst_51 : decode cX7_reasonAgainst 51 = .ok (.ireturn, 1) := by decide +kernel
theorem dX7_reasonAgainst_52 : decode cX7_reasonAgainst 52 = .ok (.aload_n 0, 1) := by decide +kernel
theorem dX7_reasonAgainst_53 : decode cX7_reasonAgainst 53 = .ok (.getfield 19, 3) := by decide +kernel
theorem dX7_reasonAgainst_56 : decode cX7_reasonAgainst 56 = .ok (.iconst 1, 1) := by decide +kernel
theorem dX7_reasonAgainst_57 : decode cX7_reasonAgainst 57 = .ok (.invokevirtual 246, 3) := by decide +kernel
theorem dX7_reasonAgainst_60 : decode cX7_reasonAgainst 60 = .ok (.ifCond .eq 26, 3) := by decide +kernel
theorem dX7_reasonAgainst_63 : decode cX7_reasonAgainst 63 = .ok (.aload_n 0, 1) := by decide +kernel
theorem dX7_reasonAgainst_64 : decode cX7_reasonAgainst 64 = .ok (.getfield 10, 3) := by decide +kernel
theorem dX7_reasonAgainst_67 : decode cX7_reasonAgainst 67 = .ok (.iload_n 1, 1) := by decide +kernel
theorem dX7_reasonAgainst_68 : decode cX7_reasonAgainst 68 = .ok (.iload_n 2, 1) := by decide +kernel
theorem dX7_reasonAgainst_69 : decode cX7_reasonAgainst 69 = .ok (.invokevirtual 249, 3) := by decide +kernel
theorem dX7_reasonAgainst_72 : decode cX7_reasonAgainst 72 = .ok (.aload_n 0, 1) := by decide +kernel
theorem dX7_reasonAgainst_73 : decode cX7_reasonAgainst 73 = .ok (.getfield 19, 3) := by decide +kernel
theorem dX7_reasonAgainst_76 : decode cX7_reasonAgainst 76 = .ok (.getfield 111, 3) := by decide +kernel
theorem dX7_reasonAgainst_79 : decode cX7_reasonAgainst 79 = .ok (.iconst 1, 1) := by decide +kernel
theorem dX7_reasonAgainst_80 : decode cX7_reasonAgainst 80 = .ok (.iaload, 1) := by decide +kernel
theorem dX7_reasonAgainst_81 : decode cX7_reasonAgainst 81 = .ok (.if_icmp .le 5, 3) := by decide +kernel
theorem dX7_reasonAgainst_84 : decode cX7_reasonAgainst 84 = .ok (.iconst 4, 1) := by decide +kernel
theorem dX7_reasonAgainst_85 : decode cX7_reasonAgainst 85 = .ok (.ireturn, 1) := by decide +kernel
theorem dX7_reasonAgainst_86 : decode cX7_reasonAgainst 86 = .ok (.aload_n 0, 1) := by decide +kernel
theorem dX7_reasonAgainst_87 : decode cX7_reasonAgainst 87 = .ok (.getfield 26, 3) := by decide +kernel
theorem dX7_reasonAgainst_90 : decode cX7_reasonAgainst 90 = .ok (.iload_n 1, 1) := by decide +kernel
theorem dX7_reasonAgainst_91 : decode cX7_reasonAgainst 91 = .ok (.iload_n 3, 1) := by decide +kernel
theorem dX7_reasonAgainst_92 : decode cX7_reasonAgainst 92 = .ok (.invokevirtual 252, 3) := by decide +kernel
theorem dX7_reasonAgainst_95 : decode cX7_reasonAgainst 95 = .ok (.ifCond .ne 15, 3) := by decide +kernel
theorem dX7_reasonAgainst_98 : decode cX7_reasonAgainst 98 = .ok (.aload_n 0, 1) := by decide +kernel
theorem dX7_reasonAgainst_99 : decode cX7_reasonAgainst 99 = .ok (.getfield 26, 3) := by decide +kernel
theorem dX7_reasonAgainst_102 : decode cX7_reasonAgainst 102 = .ok (.iload_n 2, 1) := by decide +kernel
theorem dX7_reasonAgainst_103 : decode cX7_reasonAgainst 103 = .ok (.iload_n 3, 1) := by decide +kernel
theorem dX7_reasonAgainst_104 : decode cX7_reasonAgainst 104 = .ok (.invokevirtual 252, 3) := by decide +kernel
theorem dX7_reasonAgainst_107 : decode cX7_reasonAgainst 107 = .ok (.ifCond .eq 5, 3) := by decide +kernel
theorem dX7_reasonAgainst_110 : decode cX7_reasonAgainst 110 = .ok (.iconst 5, 1) := by decide +kernel
theorem dX7_reasonAgainst_111 : decode cX7_reasonAgainst 111 = .ok (.ireturn, 1) := by decide +kernel
theorem dX7_reasonAgainst_112 : decode cX7_reasonAgainst 112 = .ok (.aload_n 0, 1) := by decide +kernel
theorem dX7_reasonAgainst_113 : decode cX7_reasonAgainst 113 = .ok (.iload_n 1, 1) := by decide +kernel
theorem dX7_reasonAgainst_114 : decode cX7_reasonAgainst 114 = .ok (.iload_n 2, 1) := by decide +kernel
theorem dX7_reasonAgainst_115 : decode cX7_reasonAgainst 115 = .ok (.iload_n 3, 1) := by decide +kernel
theorem dX7_reasonAgainst_116 : decode cX7_reasonAgainst 116 = .ok (.invokevirtual 255, 3) := by decide +kernel
theorem dX7_reasonAgainst_119 : decode cX7_reasonAgainst 119 = .ok (.ireturn, 1) := by decide +kernel
theorem dX7_ask_0 : decode cX7_ask 0 = .ok (.aload_n 0, 1) := by decide +kernel
theorem dX7_ask_1 : decode cX7_ask 1 = .ok (.iload_n 1, 1) := by decide +kernel
theorem dX7_ask_2 : decode cX7_ask 2 = .ok (.iload_n 2, 1) := by decide +kernel
theorem dX7_ask_3 : decode cX7_ask 3 = .ok (.iload_n 3, 1) := by decide +kernel
theorem dX7_ask_4 : decode cX7_ask 4 = .ok (.invokevirtual 115, 3) := by decide +kernel
theorem dX7_ask_7 : decode cX7_ask 7 = .ok (.ifCond .ne 5, 3) := by decide +kernel
theorem dX7_ask_10 : decode cX7_ask 10 = .ok (.iconst (-1), 1) := by decide +kernel
theorem dX7_ask_11 : decode cX7_ask 11 = .ok (.ireturn, 1) := by decide +kernel
theorem dX7_ask_12 : decode cX7_ask 12 = .ok (.aload_n 0, 1) := by decide +kernel
theorem dX7_ask_13 : decode cX7_ask 13 = .ok (.iload_n 1, 1) := by decide +kernel
theorem dX7_ask_14 : decode cX7_ask 14 = .ok (.iload_n 2, 1) := by decide +kernel
theorem dX7_ask_15 : decode cX7_ask 15 = .ok (.iload_n 3, 1) := by decide +kernel
theorem dX7_ask_16 : decode cX7_ask 16 = .ok (.invokevirtual 118, 3) := by decide +kernel
theorem dX7_ask_19 : decode cX7_ask 19 = .ok (.istore 4, 2) := by decide +kernel
theorem dX7_ask_21 : decode cX7_ask 21 = .ok (.iload 4, 2) := by decide +kernel
theorem dX7_ask_23 : decode cX7_ask 23 = .ok (.ifCond .eq 9, 3) := by decide +kernel
theorem dX7_ask_26 : decode cX7_ask 26 = .ok (.bipush (-10), 2) := by decide +kernel
theorem dX7_ask_28 : decode cX7_ask 28 = .ok (.iload 4, 2) := by decide +kernel
theorem dX7_ask_30 : decode cX7_ask 30 = .ok (.isub, 1) := by decide +kernel
theorem dX7_ask_31 : decode cX7_ask 31 = .ok (.ireturn, 1) := by decide +kernel
theorem dX7_ask_32 : decode cX7_ask 32 = .ok (.aload_n 0, 1) := by decide +kernel
theorem dX7_ask_33 : decode cX7_ask 33 = .ok (.getfield 26, 3) := by decide +kernel
theorem dX7_ask_36 : decode cX7_ask 36 = .ok (.iload_n 1, 1) := by decide +kernel
theorem dX7_ask_37 : decode cX7_ask 37 = .ok (.iload_n 2, 1) := by decide +kernel
theorem dX7_ask_38 : decode cX7_ask 38 = .ok (.iload_n 3, 1) := by decide +kernel
theorem dX7_ask_39 : decode cX7_ask 39 = .ok (.invokevirtual 122, 3) := by decide +kernel
theorem dX7_ask_42 : decode cX7_ask 42 = .ok (.iconst 1, 1) := by decide +kernel
theorem dX7_ask_43 : decode cX7_ask 43 = .ok (.ireturn, 1) := by decide +kernel
theorem dX7_why_0 : decode cX7_why 0 = .ok (.aload_n 0, 1) := by decide +kernel
theorem dX7_why_1 : decode cX7_why 1 = .ok (.iload_n 1, 1) := by decide +kernel
theorem dX7_why_2 : decode cX7_why 2 = .ok (.iload_n 2, 1) := by decide +kernel
theorem dX7_why_3 : decode cX7_why 3 = .ok (.iload_n 3, 1) := by decide +kernel
theorem dX7_why_4 : decode cX7_why 4 = .ok (.invokevirtual 115, 3) := by decide +kernel
theorem dX7_why_7 : decode cX7_why 7 = .ok (.ifCond .eq 13, 3) := by decide +kernel
theorem dX7_why_10 : decode cX7_why 10 = .ok (.aload_n 0, 1) := by decide +kernel
theorem dX7_why_11 : decode cX7_why 11 = .ok (.iload_n 1, 1) := by decide +kernel
theorem dX7_why_12 : decode cX7_why 12 = .ok (.iload_n 2, 1) := by decide +kernel
theorem dX7_why_13 : decode cX7_why 13 = .ok (.iload_n 3, 1) := by decide +kernel
theorem dX7_why_14 : decode cX7_why 14 = .ok (.invokevirtual 118, 3) := by decide +kernel
theorem dX7_why_17 : decode cX7_why 17 = .ok (.goto 4, 3) := by decide +kernel
theorem dX7_why_20 : decode cX7_why 20 = .ok (.iconst (-1), 1) := by decide +kernel
theorem dX7_why_21 : decode cX7_why 21 = .ok (.ireturn, 1) := by decide +kernel
theorem dX7_refuse_0 : decode cX7_refuse 0 = .ok (.aload_n 0, 1) := by decide +kernel
theorem dX7_refuse_1 : decode cX7_refuse 1 = .ok (.iload_n 2, 1) := by decide +kernel
theorem dX7_refuse_2 : decode cX7_refuse 2 = .ok (.iload_n 1, 1) := by decide +kernel
theorem dX7_refuse_3 : decode cX7_refuse 3 = .ok (.iload_n 3, 1) := by decide +kernel
theorem dX7_refuse_4 : decode cX7_refuse 4 = .ok (.invokevirtual 115, 3) := by decide +kernel
theorem dX7_refuse_7 : decode cX7_refuse 7 = .ok (.ifCond .ne 5, 3) := by decide +kernel
theorem dX7_refuse_10 : decode cX7_refuse 10 = .ok (.iconst (-1), 1) := by decide +kernel
theorem dX7_refuse_11 : decode cX7_refuse 11 = .ok (.ireturn, 1) := by decide +kernel
theorem dX7_refuse_12 : decode cX7_refuse 12 = .ok (.aload_n 0, 1) := by decide +kernel
theorem dX7_refuse_13 : decode cX7_refuse 13 = .ok (.iload_n 2, 1) := by decide +kernel
theorem dX7_refuse_14 : decode cX7_refuse 14 = .ok (.iload_n 1, 1) := by decide +kernel
theorem dX7_refuse_15 : decode cX7_refuse 15 = .ok (.iload_n 3, 1) := by decide +kernel
theorem dX7_refuse_16 : decode cX7_refuse 16 = .ok (.invokevirtual 118, 3) := by decide +kernel
theorem dX7_refuse_19 : decode cX7_refuse 19 = .ok (.istore 4, 2) := by decide +kernel
theorem dX7_refuse_21 : decode cX7_refuse 21 = .ok (.iload 4, 2) := by decide +kernel
theorem dX7_refuse_23 : decode cX7_refuse 23 = .ok (.ifCond .eq 9, 3) := by decide +kernel
theorem dX7_refuse_26 : decode cX7_refuse 26 = .ok (.bipush (-10), 2) := by decide +kernel
theorem dX7_refuse_28 : decode cX7_refuse 28 = .ok (.iload 4, 2) := by decide +kernel
theorem dX7_refuse_30 : decode cX7_refuse 30 = .ok (.isub, 1) := by decide +kernel
theorem dX7_refuse_31 : decode cX7_refuse 31 = .ok (.ireturn, 1) := by decide +kernel
theorem dX7_refuse_32 : decode cX7_refuse 32 = .ok (.aload_n 0, 1) := by decide +kernel
theorem dX7_refuse_33 : decode cX7_refuse 33 = .ok (.getfield 26, 3) := by decide +kernel
theorem dX7_refuse_36 : decode cX7_refuse 36 = .ok (.iload_n 1, 1) := by decide +kernel
theorem dX7_refuse_37 : decode cX7_refuse 37 = .ok (.iload_n 3, 1) := by decide +kernel
theorem dX7_refuse_38 : decode cX7_refuse 38 = .ok (.invokevirtual 126, 3) := by decide +kernel
theorem dX7_refuse_41 : decode cX7_refuse 41 = .ok (.iconst 1, 1) := by decide +kernel
theorem dX7_refuse_42 : decode cX7_refuse 42 = .ok (.ireturn, 1) := by decide +kernel
theorem dX7_part_0 : decode cX7_part 0 = .ok (.aload_n 0, 1) := by decide +kernel
theorem dX7_part_1 : decode cX7_part 1 = .ok (.iload_n 1, 1) := by decide +kernel
theorem dX7_part_2 : decode cX7_part 2 = .ok (.iload_n 2, 1) := by decide +kernel
theorem dX7_part_3 : decode cX7_part 3 = .ok (.iload_n 3, 1) := by decide +kernel
theorem dX7_part_4 : decode cX7_part 4 = .ok (.invokevirtual 115, 3) := by decide +kernel
theorem dX7_part_7 : decode cX7_part 7 = .ok (.ifCond .ne 5, 3) := by decide +kernel
theorem dX7_part_10 : decode cX7_part 10 = .ok (.iconst (-1), 1) := by decide +kernel
theorem dX7_part_11 : decode cX7_part 11 = .ok (.ireturn, 1) := by decide +kernel
theorem dX7_part_12 : decode cX7_part 12 = .ok (.aload_n 0, 1) := by decide +kernel
theorem dX7_part_13 : decode cX7_part 13 = .ok (.getfield 26, 3) := by decide +kernel
theorem dX7_part_16 : decode cX7_part 16 = .ok (.iload_n 1, 1) := by decide +kernel
theorem dX7_part_17 : decode cX7_part 17 = .ok (.iload_n 3, 1) := by decide +kernel
theorem dX7_part_18 : decode cX7_part 18 = .ok (.invokevirtual 129, 3) := by decide +kernel
theorem dX7_part_21 : decode cX7_part 21 = .ok (.iload_n 2, 1) := by decide +kernel
theorem dX7_part_22 : decode cX7_part 22 = .ok (.if_icmp .eq 6, 3) := by decide +kernel
theorem dX7_part_25 : decode cX7_part 25 = .ok (.bipush (-2), 2) := by decide +kernel
theorem dX7_part_27 : decode cX7_part 27 = .ok (.ireturn, 1) := by decide +kernel
theorem dX7_part_28 : decode cX7_part 28 = .ok (.aload_n 0, 1) := by decide +kernel
theorem dX7_part_29 : decode cX7_part 29 = .ok (.getfield 26, 3) := by decide +kernel
theorem dX7_part_32 : decode cX7_part 32 = .ok (.iload_n 1, 1) := by decide +kernel
theorem dX7_part_33 : decode cX7_part 33 = .ok (.iload_n 2, 1) := by decide +kernel
theorem dX7_part_34 : decode cX7_part 34 = .ok (.iload_n 3, 1) := by decide +kernel
theorem dX7_part_35 : decode cX7_part 35 = .ok (.invokevirtual 133, 3) := by decide +kernel
theorem dX7_part_38 : decode cX7_part 38 = .ok (.iconst 1, 1) := by decide +kernel
theorem dX7_part_39 : decode cX7_part 39 = .ok (.ireturn, 1) := by decide +kernel
theorem dX7_swap_0 : decode cX7_swap 0 = .ok (.aload_n 0, 1) := by decide +kernel
theorem dX7_swap_1 : decode cX7_swap 1 = .ok (.getfield 10, 3) := by decide +kernel
theorem dX7_swap_4 : decode cX7_swap 4 = .ok (.iload_n 1, 1) := by decide +kernel
theorem dX7_swap_5 : decode cX7_swap 5 = .ok (.invokevirtual 136, 3) := by decide +kernel
theorem dX7_swap_8 : decode cX7_swap 8 = .ok (.ifCond .eq 26, 3) := by decide +kernel
theorem dX7_swap_11 : decode cX7_swap 11 = .ok (.aload_n 0, 1) := by decide +kernel
theorem dX7_swap_12 : decode cX7_swap 12 = .ok (.getfield 10, 3) := by decide +kernel
theorem dX7_swap_15 : decode cX7_swap 15 = .ok (.iload_n 2, 1) := by decide +kernel
theorem dX7_swap_16 : decode cX7_swap 16 = .ok (.invokevirtual 136, 3) := by decide +kernel
theorem dX7_swap_19 : decode cX7_swap 19 = .ok (.ifCond .eq 15, 3) := by decide +kernel
theorem dX7_swap_22 : decode cX7_swap 22 = .ok (.iload_n 1, 1) := by decide +kernel
theorem dX7_swap_23 : decode cX7_swap 23 = .ok (.iload_n 2, 1) := by decide +kernel
theorem dX7_swap_24 : decode cX7_swap 24 = .ok (.if_icmp .eq 10, 3) := by decide +kernel
theorem dX7_swap_27 : decode cX7_swap 27 = .ok (.iload_n 3, 1) := by decide +kernel
theorem dX7_swap_28 : decode cX7_swap 28 = .ok (.invokestatic 139, 3) := by decide +kernel
theorem dX7_swap_31 : decode cX7_swap 31 = .ok (.ifCond .ne 5, 3) := by decide +kernel
theorem dX7_swap_34 : decode cX7_swap 34 = .ok (.iconst (-1), 1) := by decide +kernel
theorem dX7_swap_35 : decode cX7_swap 35 = .ok (.ireturn, 1) := by decide +kernel
theorem dX7_swap_36 : decode cX7_swap 36 = .ok (.aload_n 0, 1) := by decide +kernel
theorem dX7_swap_37 : decode cX7_swap 37 = .ok (.getfield 26, 3) := by decide +kernel
theorem dX7_swap_40 : decode cX7_swap 40 = .ok (.iload_n 1, 1) := by decide +kernel
theorem dX7_swap_41 : decode cX7_swap 41 = .ok (.iload_n 3, 1) := by decide +kernel
theorem dX7_swap_42 : decode cX7_swap 42 = .ok (.invokevirtual 142, 3) := by decide +kernel
theorem dX7_swap_45 : decode cX7_swap 45 = .ok (.ifCond .eq 15, 3) := by decide +kernel
theorem dX7_swap_48 : decode cX7_swap 48 = .ok (.aload_n 0, 1) := by decide +kernel
theorem dX7_swap_49 : decode cX7_swap 49 = .ok (.getfield 26, 3) := by decide +kernel
theorem dX7_swap_52 : decode cX7_swap 52 = .ok (.iload_n 2, 1) := by decide +kernel
theorem dX7_swap_53 : decode cX7_swap 53 = .ok (.iload_n 3, 1) := by decide +kernel
theorem dX7_swap_54 : decode cX7_swap 54 = .ok (.invokevirtual 142, 3) := by decide +kernel
theorem dX7_swap_57 : decode cX7_swap 57 = .ok (.ifCond .ne 6, 3) := by decide +kernel
theorem dX7_swap_60 : decode cX7_swap 60 = .ok (.bipush (-2), 2) := by decide +kernel
theorem dX7_swap_62 : decode cX7_swap 62 = .ok (.ireturn, 1) := by decide +kernel
theorem dX7_swap_63 : decode cX7_swap 63 = .ok (.aload_n 0, 1) := by decide +kernel
theorem dX7_swap_64 : decode cX7_swap 64 = .ok (.getfield 26, 3) := by decide +kernel
theorem dX7_swap_67 : decode cX7_swap 67 = .ok (.iload_n 1, 1) := by decide +kernel
theorem dX7_swap_68 : decode cX7_swap 68 = .ok (.iload_n 3, 1) := by decide +kernel
theorem dX7_swap_69 : decode cX7_swap 69 = .ok (.invokevirtual 129, 3) := by decide +kernel
theorem dX7_swap_72 : decode cX7_swap 72 = .ok (.istore 4, 2) := by decide +kernel
theorem dX7_swap_74 : decode cX7_swap 74 = .ok (.aload_n 0, 1) := by decide +kernel
theorem dX7_swap_75 : decode cX7_swap 75 = .ok (.getfield 26, 3) := by decide +kernel
theorem dX7_swap_78 : decode cX7_swap 78 = .ok (.iload_n 2, 1) := by decide +kernel
theorem dX7_swap_79 : decode cX7_swap 79 = .ok (.iload_n 3, 1) := by decide +kernel
theorem dX7_swap_80 : decode cX7_swap 80 = .ok (.invokevirtual 129, 3) := by decide +kernel
theorem dX7_swap_83 : decode cX7_swap 83 = .ok (.istore 5, 2) := by decide +kernel
theorem dX7_swap_85 : decode cX7_swap 85 = .ok (.aload_n 0, 1) := by decide +kernel
theorem dX7_swap_86 : decode cX7_swap 86 = .ok (.getfield 26, 3) := by decide +kernel
theorem dX7_swap_89 : decode cX7_swap 89 = .ok (.iload_n 1, 1) := by decide +kernel
theorem dX7_swap_90 : decode cX7_swap 90 = .ok (.iload 4, 2) := by decide +kernel
theorem dX7_swap_92 : decode cX7_swap 92 = .ok (.iload_n 3, 1) := by decide +kernel
theorem dX7_swap_93 : decode cX7_swap 93 = .ok (.invokevirtual 133, 3) := by decide +kernel
theorem dX7_swap_96 : decode cX7_swap 96 = .ok (.aload_n 0, 1) := by decide +kernel
theorem dX7_swap_97 : decode cX7_swap 97 = .ok (.getfield 26, 3) := by decide +kernel
theorem dX7_swap_100 : decode cX7_swap 100 = .ok (.iload_n 2, 1) := by decide +kernel
theorem dX7_swap_101 : decode cX7_swap 101 = .ok (.iload 5, 2) := by decide +kernel
theorem dX7_swap_103 : decode cX7_swap 103 = .ok (.iload_n 3, 1) := by decide +kernel
theorem dX7_swap_104 : decode cX7_swap 104 = .ok (.invokevirtual 133, 3) := by decide +kernel
theorem dX7_swap_107 : decode cX7_swap 107 = .ok (.aload_n 0, 1) := by decide +kernel
theorem dX7_swap_108 : decode cX7_swap 108 = .ok (.iload_n 1, 1) := by decide +kernel
theorem dX7_swap_109 : decode cX7_swap 109 = .ok (.iload 5, 2) := by decide +kernel
theorem dX7_swap_111 : decode cX7_swap 111 = .ok (.iload_n 3, 1) := by decide +kernel
theorem dX7_swap_112 : decode cX7_swap 112 = .ok (.invokevirtual 118, 3) := by decide +kernel
theorem dX7_swap_115 : decode cX7_swap 115 = .ok (.istore 6, 2) := by decide +kernel
theorem dX7_swap_117 : decode cX7_swap 117 = .ok (.iload 6, 2) := by decide +kernel
theorem dX7_swap_119 : decode cX7_swap 119 = .ok (.ifCond .ne 13, 3) := by decide +kernel
theorem dX7_swap_122 : decode cX7_swap 122 = .ok (.aload_n 0, 1) := by decide +kernel
theorem dX7_swap_123 : decode cX7_swap 123 = .ok (.iload_n 2, 1) := by decide +kernel
theorem dX7_swap_124 : decode cX7_swap 124 = .ok (.iload 4, 2) := by decide +kernel
theorem dX7_swap_126 : decode cX7_swap 126 = .ok (.iload_n 3, 1) := by decide +kernel
theorem dX7_swap_127 : decode cX7_swap 127 = .ok (.invokevirtual 118, 3) := by decide +kernel
theorem dX7_swap_130 : decode cX7_swap 130 = .ok (.istore 6, 2) := by decide +kernel
theorem dX7_swap_132 : decode cX7_swap 132 = .ok (.aload_n 0, 1) := by decide +kernel
theorem dX7_swap_133 : decode cX7_swap 133 = .ok (.getfield 26, 3) := by decide +kernel
theorem dX7_swap_136 : decode cX7_swap 136 = .ok (.iload_n 1, 1) := by decide +kernel
theorem dX7_swap_137 : decode cX7_swap 137 = .ok (.iload 6, 2) := by decide +kernel
theorem dX7_swap_139 : decode cX7_swap 139 = .ok (.ifCond .ne 8, 3) := by decide +kernel
theorem dX7_swap_142 : decode cX7_swap 142 = .ok (.iload 5, 2) := by decide +kernel
theorem dX7_swap_144 : decode cX7_swap 144 = .ok (.goto 5, 3) := by decide +kernel
theorem dX7_swap_147 : decode cX7_swap 147 = .ok (.iload 4, 2) := by decide +kernel
theorem dX7_swap_149 : decode cX7_swap 149 = .ok (.iload_n 3, 1) := by decide +kernel
theorem dX7_swap_150 : decode cX7_swap 150 = .ok (.invokevirtual 122, 3) := by decide +kernel
theorem dX7_swap_153 : decode cX7_swap 153 = .ok (.aload_n 0, 1) := by decide +kernel
theorem dX7_swap_154 : decode cX7_swap 154 = .ok (.getfield 26, 3) := by decide +kernel
theorem dX7_swap_157 : decode cX7_swap 157 = .ok (.iload_n 2, 1) := by decide +kernel
theorem dX7_swap_158 : decode cX7_swap 158 = .ok (.iload 6, 2) := by decide +kernel
theorem dX7_swap_160 : decode cX7_swap 160 = .ok (.ifCond .ne 8, 3) := by decide +kernel
theorem dX7_swap_163 : decode cX7_swap 163 = .ok (.iload 4, 2) := by decide +kernel
theorem dX7_swap_165 : decode cX7_swap 165 = .ok (.goto 5, 3) := by decide +kernel
theorem dX7_swap_168 : decode cX7_swap 168 = .ok (.iload 5, 2) := by decide +kernel
theorem dX7_swap_170 : decode cX7_swap 170 = .ok (.iload_n 3, 1) := by decide +kernel
theorem dX7_swap_171 : decode cX7_swap 171 = .ok (.invokevirtual 122, 3) := by decide +kernel
theorem dX7_swap_174 : decode cX7_swap 174 = .ok (.iload 6, 2) := by decide +kernel
theorem dX7_swap_176 : decode cX7_swap 176 = .ok (.ifCond .ne 7, 3) := by decide +kernel
theorem dX7_swap_179 : decode cX7_swap 179 = .ok (.iconst 1, 1) := by decide +kernel
theorem dX7_swap_180 : decode cX7_swap 180 = .ok (.goto 8, 3) := by decide +kernel
theorem dX7_swap_183 : decode cX7_swap 183 = .ok (.bipush (-10), 2) := by decide +kernel
theorem dX7_swap_185 : decode cX7_swap 185 = .ok (.iload 6, 2) := by decide +kernel
theorem dX7_swap_187 : decode cX7_swap 187 = .ok (.isub, 1) := by decide +kernel
theorem dX7_swap_188 : decode cX7_swap 188 = .ok (.ireturn, 1) := by decide +kernel
theorem dX7_card_0 : decode cX7_card 0 = .ok (.aload_n 0, 1) := by decide +kernel
theorem dX7_card_1 : decode cX7_card 1 = .ok (.getfield 10, 3) := by decide +kernel
theorem dX7_card_4 : decode cX7_card 4 = .ok (.iload_n 1, 1) := by decide +kernel
theorem dX7_card_5 : decode cX7_card 5 = .ok (.invokevirtual 74, 3) := by decide +kernel
theorem dX7_card_8 : decode cX7_card 8 = .ok (.ifCond .eq 22, 3) := by decide +kernel
theorem dX7_card_11 : decode cX7_card 11 = .ok (.iload_n 2, 1) := by decide +kernel
theorem dX7_card_12 : decode cX7_card 12 = .ok (.invokestatic 139, 3) := by decide +kernel
theorem dX7_card_15 : decode cX7_card 15 = .ok (.ifCond .eq 15, 3) := by decide +kernel
theorem dX7_card_18 : decode cX7_card 18 = .ok (.aload_n 0, 1) := by decide +kernel
theorem dX7_card_19 : decode cX7_card 19 = .ok (.getfield 26, 3) := by decide +kernel
theorem dX7_card_22 : decode cX7_card 22 = .ok (.iload_n 1, 1) := by decide +kernel
theorem dX7_card_23 : decode cX7_card 23 = .ok (.iload_n 2, 1) := by decide +kernel
theorem dX7_card_24 : decode cX7_card 24 = .ok (.invokevirtual 129, 3) := by decide +kernel
theorem dX7_card_27 : decode cX7_card 27 = .ok (.goto 4, 3) := by decide +kernel
theorem dX7_card_30 : decode cX7_card 30 = .ok (.iconst (-1), 1) := by decide +kernel
theorem dX7_card_31 : decode cX7_card 31 = .ok (.ireturn, 1) := by decide +kernel
theorem dX7_ill_0 : decode cX7_ill 0 = .ok (.aload_n 0, 1) := by decide +kernel
theorem dX7_ill_1 : decode cX7_ill 1 = .ok (.getfield 10, 3) := by decide +kernel
theorem dX7_ill_4 : decode cX7_ill 4 = .ok (.iload_n 1, 1) := by decide +kernel
theorem dX7_ill_5 : decode cX7_ill 5 = .ok (.invokevirtual 74, 3) := by decide +kernel
theorem dX7_ill_8 : decode cX7_ill 8 = .ok (.ifCond .ne 5, 3) := by decide +kernel
theorem dX7_ill_11 : decode cX7_ill 11 = .ok (.iconst (-1), 1) := by decide +kernel
theorem dX7_ill_12 : decode cX7_ill 12 = .ok (.ireturn, 1) := by decide +kernel
theorem dX7_ill_13 : decode cX7_ill 13 = .ok (.aload_n 0, 1) := by decide +kernel
theorem dX7_ill_14 : decode cX7_ill 14 = .ok (.getfield 10, 3) := by decide +kernel
theorem dX7_ill_17 : decode cX7_ill 17 = .ok (.iload_n 1, 1) := by decide +kernel
theorem dX7_ill_18 : decode cX7_ill 18 = .ok (.invokevirtual 145, 3) := by decide +kernel
theorem dX7_ill_21 : decode cX7_ill 21 = .ok (.ifCond .eq 6, 3) := by decide +kernel
theorem dX7_ill_24 : decode cX7_ill 24 = .ok (.bipush (-2), 2) := by decide +kernel
theorem dX7_ill_26 : decode cX7_ill 26 = .ok (.ireturn, 1) := by decide +kernel
theorem dX7_ill_27 : decode cX7_ill 27 = .ok (.aload_n 0, 1) := by decide +kernel
theorem dX7_ill_28 : decode cX7_ill 28 = .ok (.getfield 10, 3) := by decide +kernel
theorem dX7_ill_31 : decode cX7_ill 31 = .ok (.iload_n 1, 1) := by decide +kernel
theorem dX7_ill_32 : decode cX7_ill 32 = .ok (.iconst 1, 1) := by decide +kernel
theorem dX7_ill_33 : decode cX7_ill 33 = .ok (.invokevirtual 148, 3) := by decide +kernel
theorem dX7_ill_36 : decode cX7_ill 36 = .ok (.aload_n 0, 1) := by decide +kernel
theorem dX7_ill_37 : decode cX7_ill 37 = .ok (.getfield 26, 3) := by decide +kernel
theorem dX7_ill_40 : decode cX7_ill 40 = .ok (.iload_n 1, 1) := by decide +kernel
theorem dX7_ill_41 : decode cX7_ill 41 = .ok (.invokevirtual 152, 3) := by decide +kernel
theorem dX7_ill_44 : decode cX7_ill 44 = .ok (.ireturn, 1) := by decide +kernel
theorem dX7_well_0 : decode cX7_well 0 = .ok (.aload_n 0, 1) := by decide +kernel
theorem dX7_well_1 : decode cX7_well 1 = .ok (.getfield 10, 3) := by decide +kernel
theorem dX7_well_4 : decode cX7_well 4 = .ok (.iload_n 1, 1) := by decide +kernel
theorem dX7_well_5 : decode cX7_well 5 = .ok (.invokevirtual 74, 3) := by decide +kernel
theorem dX7_well_8 : decode cX7_well 8 = .ok (.ifCond .ne 5, 3) := by decide +kernel
theorem dX7_well_11 : decode cX7_well 11 = .ok (.iconst (-1), 1) := by decide +kernel
theorem dX7_well_12 : decode cX7_well 12 = .ok (.ireturn, 1) := by decide +kernel
theorem dX7_well_13 : decode cX7_well 13 = .ok (.aload_n 0, 1) := by decide +kernel
theorem dX7_well_14 : decode cX7_well 14 = .ok (.getfield 10, 3) := by decide +kernel
theorem dX7_well_17 : decode cX7_well 17 = .ok (.iload_n 1, 1) := by decide +kernel
theorem dX7_well_18 : decode cX7_well 18 = .ok (.invokevirtual 145, 3) := by decide +kernel
theorem dX7_well_21 : decode cX7_well 21 = .ok (.ifCond .ne 6, 3) := by decide +kernel
theorem dX7_well_24 : decode cX7_well 24 = .ok (.bipush (-2), 2) := by decide +kernel
theorem dX7_well_26 : decode cX7_well 26 = .ok (.ireturn, 1) := by decide +kernel
theorem dX7_well_27 : decode cX7_well 27 = .ok (.aload_n 0, 1) := by decide +kernel
theorem dX7_well_28 : decode cX7_well 28 = .ok (.getfield 10, 3) := by decide +kernel
theorem dX7_well_31 : decode cX7_well 31 = .ok (.iload_n 1, 1) := by decide +kernel
theorem dX7_well_32 : decode cX7_well 32 = .ok (.iconst 0, 1) := by decide +kernel
theorem dX7_well_33 : decode cX7_well 33 = .ok (.invokevirtual 148, 3) := by decide +kernel
theorem dX7_well_36 : decode cX7_well 36 = .ok (.iconst 1, 1) := by decide +kernel
theorem dX7_well_37 : decode cX7_well 37 = .ok (.ireturn, 1) := by decide +kernel
theorem dX7_findPossiblePairs_0 : decode cX7_findPossiblePairs 0 = .ok (.aload_n 0, 1) := by decide +kernel
theorem dX7_findPossiblePairs_1 : decode cX7_findPossiblePairs 1 = .ok (.getfield 33, 3) := by decide +kernel
theorem dX7_findPossiblePairs_4 : decode cX7_findPossiblePairs 4 = .ok (.invokevirtual 269, 3) := by decide +kernel
theorem dX7_findPossiblePairs_7 : decode cX7_findPossiblePairs 7 = .ok (.iconst 0, 1) := by decide +kernel
theorem dX7_findPossiblePairs_8 : decode cX7_findPossiblePairs 8 = .ok (.istore_n 2, 1) := by decide +kernel
theorem dX7_findPossiblePairs_9 : decode cX7_findPossiblePairs 9 = .ok (.iload_n 2, 1) := by decide +kernel
theorem dX7_findPossiblePairs_10 : decode cX7_findPossiblePairs 10 = .ok (.bipush 16, 2) := by decide +kernel
theorem dX7_findPossiblePairs_12 : decode cX7_findPossiblePairs 12 = .ok (.if_icmp .ge 52, 3) := by decide +kernel
theorem dX7_findPossiblePairs_15 : decode cX7_findPossiblePairs 15 = .ok (.iconst 0, 1) := by decide +kernel
theorem dX7_findPossiblePairs_16 : decode cX7_findPossiblePairs 16 = .ok (.istore_n 3, 1) := by decide +kernel
theorem dX7_findPossiblePairs_17 : decode cX7_findPossiblePairs 17 = .ok (.iload_n 3, 1) := by decide +kernel
theorem dX7_findPossiblePairs_18 : decode cX7_findPossiblePairs 18 = .ok (.bipush 16, 2) := by decide +kernel
theorem dX7_findPossiblePairs_20 : decode cX7_findPossiblePairs 20 = .ok (.if_icmp .ge 38, 3) := by decide +kernel
theorem dX7_findPossiblePairs_23 : decode cX7_findPossiblePairs 23 = .ok (.aload_n 0, 1) := by decide +kernel
theorem dX7_findPossiblePairs_24 : decode cX7_findPossiblePairs 24 = .ok (.iload_n 3, 1) := by decide +kernel
theorem dX7_findPossiblePairs_25 : decode cX7_findPossiblePairs 25 = .ok (.iload_n 2, 1) := by decide +kernel
theorem dX7_findPossiblePairs_26 : decode cX7_findPossiblePairs 26 = .ok (.iload_n 1, 1) := by decide +kernel
theorem dX7_findPossiblePairs_27 : decode cX7_findPossiblePairs 27 = .ok (.invokevirtual 115, 3) := by decide +kernel
theorem dX7_findPossiblePairs_30 : decode cX7_findPossiblePairs 30 = .ok (.ifCond .eq 22, 3) := by decide +kernel
theorem dX7_findPossiblePairs_33 : decode cX7_findPossiblePairs 33 = .ok (.aload_n 0, 1) := by decide +kernel
theorem dX7_findPossiblePairs_34 : decode cX7_findPossiblePairs 34 = .ok (.iload_n 3, 1) := by decide +kernel
theorem dX7_findPossiblePairs_35 : decode cX7_findPossiblePairs 35 = .ok (.iload_n 2, 1) := by decide +kernel
theorem dX7_findPossiblePairs_36 : decode cX7_findPossiblePairs 36 = .ok (.iload_n 1, 1) := by decide +kernel
theorem dX7_findPossiblePairs_37 : decode cX7_findPossiblePairs 37 = .ok (.invokevirtual 118, 3) := by decide +kernel
theorem dX7_findPossiblePairs_40 : decode cX7_findPossiblePairs 40 = .ok (.ifCond .ne 12, 3) := by decide +kernel
theorem dX7_findPossiblePairs_43 : decode cX7_findPossiblePairs 43 = .ok (.aload_n 0, 1) := by decide +kernel
theorem dX7_findPossiblePairs_44 : decode cX7_findPossiblePairs 44 = .ok (.getfield 33, 3) := by decide +kernel
theorem dX7_findPossiblePairs_47 : decode cX7_findPossiblePairs 47 = .ok (.iload_n 2, 1) := by decide +kernel
theorem dX7_findPossiblePairs_48 : decode cX7_findPossiblePairs 48 = .ok (.iload_n 3, 1) := by decide +kernel
theorem dX7_findPossiblePairs_49 : decode cX7_findPossiblePairs 49 = .ok (.invokevirtual 272, 3) := by decide +kernel
theorem dX7_findPossiblePairs_52 : decode cX7_findPossiblePairs 52 = .ok (.iinc 3 1, 3) := by decide +kernel
theorem dX7_findPossiblePairs_55 : decode cX7_findPossiblePairs 55 = .ok (.goto (-38), 3) := by decide +kernel
theorem dX7_findPossiblePairs_58 : decode cX7_findPossiblePairs 58 = .ok (.iinc 2 1, 3) := by decide +kernel
theorem dX7_findPossiblePairs_61 : decode cX7_findPossiblePairs 61 = .ok (.goto (-52), 3) := by decide +kernel
theorem dX7_findPossiblePairs_64 : decode cX7_findPossiblePairs 64 = .ok (.return_, 1) := by decide +kernel
theorem dX7_could_0 : decode cX7_could 0 = .ok (.iload_n 1, 1) := by decide +kernel
theorem dX7_could_1 : decode cX7_could 1 = .ok (.invokestatic 139, 3) := by decide +kernel
theorem dX7_could_4 : decode cX7_could 4 = .ok (.ifCond .ne 5, 3) := by decide +kernel
theorem dX7_could_7 : decode cX7_could 7 = .ok (.iconst (-1), 1) := by decide +kernel
theorem dX7_could_8 : decode cX7_could 8 = .ok (.ireturn, 1) := by decide +kernel
theorem dX7_could_9 : decode cX7_could 9 = .ok (.aload_n 0, 1) := by decide +kernel
theorem dX7_could_10 : decode cX7_could 10 = .ok (.iload_n 1, 1) := by decide +kernel
theorem dX7_could_11 : decode cX7_could 11 = .ok (.invokevirtual 155, 3) := by decide +kernel
theorem dX7_could_14 : decode cX7_could 14 = .ok (.aload_n 0, 1) := by decide +kernel
theorem dX7_could_15 : decode cX7_could 15 = .ok (.getfield 33, 3) := by decide +kernel
theorem dX7_could_18 : decode cX7_could 18 = .ok (.invokevirtual 159, 3) := by decide +kernel
theorem dX7_could_21 : decode cX7_could 21 = .ok (.ireturn, 1) := by decide +kernel
theorem dX7_fill_0 : decode cX7_fill 0 = .ok (.iload_n 1, 1) := by decide +kernel
theorem dX7_fill_1 : decode cX7_fill 1 = .ok (.invokestatic 139, 3) := by decide +kernel
theorem dX7_fill_4 : decode cX7_fill 4 = .ok (.ifCond .ne 5, 3) := by decide +kernel
theorem dX7_fill_7 : decode cX7_fill 7 = .ok (.iconst (-1), 1) := by decide +kernel
theorem dX7_fill_8 : decode cX7_fill 8 = .ok (.ireturn, 1) := by decide +kernel
theorem dX7_fill_9 : decode cX7_fill 9 = .ok (.aload_n 0, 1) := by decide +kernel
theorem dX7_fill_10 : decode cX7_fill 10 = .ok (.iload_n 1, 1) := by decide +kernel
theorem dX7_fill_11 : decode cX7_fill 11 = .ok (.invokevirtual 155, 3) := by decide +kernel
theorem dX7_fill_14 : decode cX7_fill 14 = .ok (.aload_n 0, 1) := by decide +kernel
theorem dX7_fill_15 : decode cX7_fill 15 = .ok (.getfield 33, 3) := by decide +kernel
theorem dX7_fill_18 : decode cX7_fill 18 = .ok (.invokevirtual 162, 3) := by decide +kernel
theorem dX7_fill_21 : decode cX7_fill 21 = .ok (.iconst 0, 1) := by decide +kernel
theorem dX7_fill_22 : decode cX7_fill 22 = .ok (.istore_n 2, 1) := by decide +kernel
theorem dX7_fill_23 : decode cX7_fill 23 = .ok (.iconst 0, 1) := by decide +kernel
theorem dX7_fill_24 : decode cX7_fill 24 = .ok (.istore_n 3, 1) := by decide +kernel
theorem dX7_fill_25 : decode cX7_fill 25 = .ok (.iload_n 3, 1) := by decide +kernel
theorem dX7_fill_26 : decode cX7_fill 26 = .ok (.bipush 16, 2) := by decide +kernel
theorem dX7_fill_28 : decode cX7_fill 28 = .ok (.if_icmp .ge 44, 3) := by decide +kernel
theorem dX7_fill_31 : decode cX7_fill 31 = .ok (.aload_n 0, 1) := by decide +kernel
theorem dX7_fill_32 : decode cX7_fill 32 = .ok (.getfield 33, 3) := by decide +kernel
theorem dX7_fill_35 : decode cX7_fill 35 = .ok (.getfield 165, 3) := by decide +kernel
theorem dX7_fill_38 : decode cX7_fill 38 = .ok (.iload_n 3, 1) := by decide +kernel
theorem dX7_fill_39 : decode cX7_fill 39 = .ok (.iaload, 1) := by decide +kernel
theorem dX7_fill_40 : decode cX7_fill 40 = .ok (.istore 4, 2) := by decide +kernel
theorem dX7_fill_42 : decode cX7_fill 42 = .ok (.iload 4, 2) := by decide +kernel
theorem dX7_fill_44 : decode cX7_fill 44 = .ok (.bipush (-4), 2) := by decide +kernel
theorem dX7_fill_46 : decode cX7_fill 46 = .ok (.if_icmp .ne 6, 3) := by decide +kernel
theorem dX7_fill_49 : decode cX7_fill 49 = .ok (.goto 17, 3) := by decide +kernel
theorem dX7_fill_52 : decode cX7_fill 52 = .ok (.aload_n 0, 1) := by decide +kernel
theorem dX7_fill_53 : decode cX7_fill 53 = .ok (.getfield 26, 3) := by decide +kernel
theorem dX7_fill_56 : decode cX7_fill 56 = .ok (.iload 4, 2) := by decide +kernel
theorem dX7_fill_58 : decode cX7_fill 58 = .ok (.iload_n 3, 1) := by decide +kernel
theorem dX7_fill_59 : decode cX7_fill 59 = .ok (.iload_n 1, 1) := by decide +kernel
theorem dX7_fill_60 : decode cX7_fill 60 = .ok (.invokevirtual 122, 3) := by decide +kernel
theorem dX7_fill_63 : decode cX7_fill 63 = .ok (.iinc 2 1, 3) := by decide +kernel
theorem dX7_fill_66 : decode cX7_fill 66 = .ok (.iinc 3 1, 3) := by decide +kernel
theorem dX7_fill_69 : decode cX7_fill 69 = .ok (.goto (-44), 3) := by decide +kernel
theorem dX7_fill_72 : decode cX7_fill 72 = .ok (.iload_n 2, 1) := by decide +kernel
theorem dX7_fill_73 : decode cX7_fill 73 = .ok (.ireturn, 1) := by decide +kernel
theorem dX7_about_0 : decode cX7_about 0 = .ok (.aload_n 0, 1) := by decide +kernel
theorem dX7_about_1 : decode cX7_about 1 = .ok (.getfield 10, 3) := by decide +kernel
theorem dX7_about_4 : decode cX7_about 4 = .ok (.iload_n 1, 1) := by decide +kernel
theorem dX7_about_5 : decode cX7_about 5 = .ok (.invokevirtual 74, 3) := by decide +kernel
theorem dX7_about_8 : decode cX7_about 8 = .ok (.ifCond .ne 5, 3) := by decide +kernel
theorem dX7_about_11 : decode cX7_about 11 = .ok (.iconst (-1), 1) := by decide +kernel
theorem dX7_about_12 : decode cX7_about 12 = .ok (.ireturn, 1) := by decide +kernel
theorem dX7_about_13 : decode cX7_about 13 = .ok (.iload_n 2, 1) := by decide +kernel
theorem dX7_about_14 : decode cX7_about 14 = .ok (.tableswitch 66 0 3 #[30, 39, 48, 57], 30) := by decide +kernel
theorem dX7_about_44 : decode cX7_about 44 = .ok (.aload_n 0, 1) := by decide +kernel
theorem dX7_about_45 : decode cX7_about 45 = .ok (.getfield 26, 3) := by decide +kernel
theorem dX7_about_48 : decode cX7_about 48 = .ok (.iload_n 1, 1) := by decide +kernel
theorem dX7_about_49 : decode cX7_about 49 = .ok (.invokevirtual 168, 3) := by decide +kernel
theorem dX7_about_52 : decode cX7_about 52 = .ok (.ireturn, 1) := by decide +kernel
theorem dX7_about_53 : decode cX7_about 53 = .ok (.aload_n 0, 1) := by decide +kernel
theorem dX7_about_54 : decode cX7_about 54 = .ok (.getfield 26, 3) := by decide +kernel
theorem dX7_about_57 : decode cX7_about 57 = .ok (.iload_n 1, 1) := by decide +kernel
theorem dX7_about_58 : decode cX7_about 58 = .ok (.invokevirtual 171, 3) := by decide +kernel
theorem dX7_about_61 : decode cX7_about 61 = .ok (.ireturn, 1) := by decide +kernel
theorem dX7_about_62 : decode cX7_about 62 = .ok (.aload_n 0, 1) := by decide +kernel
theorem dX7_about_63 : decode cX7_about 63 = .ok (.getfield 26, 3) := by decide +kernel
theorem dX7_about_66 : decode cX7_about 66 = .ok (.iload_n 1, 1) := by decide +kernel
theorem dX7_about_67 : decode cX7_about 67 = .ok (.invokevirtual 174, 3) := by decide +kernel
theorem dX7_about_70 : decode cX7_about 70 = .ok (.ireturn, 1) := by decide +kernel
theorem dX7_about_71 : decode cX7_about 71 = .ok (.aload_n 0, 1) := by decide +kernel
theorem dX7_about_72 : decode cX7_about 72 = .ok (.getfield 26, 3) := by decide +kernel
theorem dX7_about_75 : decode cX7_about 75 = .ok (.iload_n 1, 1) := by decide +kernel
theorem dX7_about_76 : decode cX7_about 76 = .ok (.invokevirtual 177, 3) := by decide +kernel
theorem dX7_about_79 : decode cX7_about 79 = .ok (.ireturn, 1) := by decide +kernel
theorem dX7_about_80 : decode cX7_about 80 = .ok (.iconst (-1), 1) := by decide +kernel
theorem dX7_about_81 : decode cX7_about 81 = .ok (.ireturn, 1) := by decide +kernel
theorem dX7_isSheet_0 : decode cX7_isSheet 0 = .ok (.iload_n 0, 1) := by decide +kernel
theorem dX7_isSheet_1 : decode cX7_isSheet 1 = .ok (.iconst 0, 1) := by decide +kernel
theorem dX7_isSheet_2 : decode cX7_isSheet 2 = .ok (.iconst 3, 1) := by decide +kernel
theorem dX7_isSheet_3 : decode cX7_isSheet 3 = .ok (.invokestatic 58, 3) := by decide +kernel
theorem dX7_isSheet_6 : decode cX7_isSheet 6 = .ok (.ireturn, 1) := by decide +kernel
theorem dX7_isLane_0 : decode cX7_isLane 0 = .ok (.iload_n 0, 1) := by decide +kernel
theorem dX7_isLane_1 : decode cX7_isLane 1 = .ok (.iconst 0, 1) := by decide +kernel
theorem dX7_isLane_2 : decode cX7_isLane 2 = .ok (.iconst 2, 1) := by decide +kernel
theorem dX7_isLane_3 : decode cX7_isLane 3 = .ok (.invokestatic 58, 3) := by decide +kernel
theorem dX7_isLane_6 : decode cX7_isLane 6 = .ok (.ireturn, 1) := by decide +kernel
theorem dX7_sheet_0 : decode cX7_sheet 0 = .ok (.iload_n 1, 1) := by decide +kernel
theorem dX7_sheet_1 : decode cX7_sheet 1 = .ok (.invokestatic 180, 3) := by decide +kernel
theorem dX7_sheet_4 : decode cX7_sheet 4 = .ok (.ifCond .eq 16, 3) := by decide +kernel
theorem dX7_sheet_7 : decode cX7_sheet 7 = .ok (.iload_n 2, 1) := by decide +kernel
theorem dX7_sheet_8 : decode cX7_sheet 8 = .ok (.invokestatic 183, 3) := by decide +kernel
theorem dX7_sheet_11 : decode cX7_sheet 11 = .ok (.ifCond .eq 9, 3) := by decide +kernel
theorem dX7_sheet_14 : decode cX7_sheet 14 = .ok (.iload_n 3, 1) := by decide +kernel
theorem dX7_sheet_15 : decode cX7_sheet 15 = .ok (.bipush 60, 2) := by decide +kernel
theorem dX7_sheet_17 : decode cX7_sheet 17 = .ok (.if_icmp .le 5, 3) := by decide +kernel
theorem dX7_sheet_20 : decode cX7_sheet 20 = .ok (.iconst (-1), 1) := by decide +kernel
theorem dX7_sheet_21 : decode cX7_sheet 21 = .ok (.ireturn, 1) := by decide +kernel
theorem dX7_sheet_22 : decode cX7_sheet 22 = .ok (.iload_n 3, 1) := by decide +kernel
theorem dX7_sheet_23 : decode cX7_sheet 23 = .ok (.ifCond .ge 6, 3) := by decide +kernel
theorem dX7_sheet_26 : decode cX7_sheet 26 = .ok (.bipush (-14), 2) := by decide +kernel
theorem dX7_sheet_28 : decode cX7_sheet 28 = .ok (.ireturn, 1) := by decide +kernel
theorem dX7_sheet_29 : decode cX7_sheet 29 = .ok (.aload_n 0, 1) := by decide +kernel
theorem dX7_sheet_30 : decode cX7_sheet 30 = .ok (.getfield 40, 3) := by decide +kernel
theorem dX7_sheet_33 : decode cX7_sheet 33 = .ok (.iload_n 1, 1) := by decide +kernel
theorem dX7_sheet_34 : decode cX7_sheet 34 = .ok (.iload_n 2, 1) := by decide +kernel
theorem dX7_sheet_35 : decode cX7_sheet 35 = .ok (.iload_n 3, 1) := by decide +kernel
theorem dX7_sheet_36 : decode cX7_sheet 36 = .ok (.invokevirtual 186, 3) := by decide +kernel
theorem dX7_sheet_39 : decode cX7_sheet 39 = .ok (.iconst 1, 1) := by decide +kernel
theorem dX7_sheet_40 : decode cX7_sheet 40 = .ok (.ireturn, 1) := by decide +kernel
theorem dX7_lay_0 : decode cX7_lay 0 = .ok (.iload_n 1, 1) := by decide +kernel
theorem dX7_lay_1 : decode cX7_lay 1 = .ok (.invokestatic 180, 3) := by decide +kernel
theorem dX7_lay_4 : decode cX7_lay 4 = .ok (.ifCond .ne 5, 3) := by decide +kernel
theorem dX7_lay_7 : decode cX7_lay 7 = .ok (.iconst (-1), 1) := by decide +kernel
theorem dX7_lay_8 : decode cX7_lay 8 = .ok (.ireturn, 1) := by decide +kernel
theorem dX7_lay_9 : decode cX7_lay 9 = .ok (.aload_n 0, 1) := by decide +kernel
theorem dX7_lay_10 : decode cX7_lay 10 = .ok (.getfield 40, 3) := by decide +kernel
theorem dX7_lay_13 : decode cX7_lay 13 = .ok (.iload_n 1, 1) := by decide +kernel
theorem dX7_lay_14 : decode cX7_lay 14 = .ok (.invokevirtual 189, 3) := by decide +kernel
theorem dX7_lay_17 : decode cX7_lay 17 = .ok (.ifCond .ne 6, 3) := by decide +kernel
theorem dX7_lay_20 : decode cX7_lay 20 = .ok (.bipush (-11), 2) := by decide +kernel
theorem dX7_lay_22 : decode cX7_lay 22 = .ok (.ireturn, 1) := by decide +kernel
theorem dX7_lay_23 : decode cX7_lay 23 = .ok (.aload_n 0, 1) := by decide +kernel
theorem dX7_lay_24 : decode cX7_lay 24 = .ok (.getfield 40, 3) := by decide +kernel
theorem dX7_lay_27 : decode cX7_lay 27 = .ok (.iload_n 1, 1) := by decide +kernel
theorem dX7_lay_28 : decode cX7_lay 28 = .ok (.iload_n 2, 1) := by decide +kernel
theorem dX7_lay_29 : decode cX7_lay 29 = .ok (.iconst 1, 1) := by decide +kernel
theorem dX7_lay_30 : decode cX7_lay 30 = .ok (.invokevirtual 192, 3) := by decide +kernel
theorem dX7_lay_33 : decode cX7_lay 33 = .ok (.ifCond .ne 6, 3) := by decide +kernel
theorem dX7_lay_36 : decode cX7_lay 36 = .ok (.bipush (-12), 2) := by decide +kernel
theorem dX7_lay_38 : decode cX7_lay 38 = .ok (.ireturn, 1) := by decide +kernel
theorem dX7_lay_39 : decode cX7_lay 39 = .ok (.aload_n 0, 1) := by decide +kernel
theorem dX7_lay_40 : decode cX7_lay 40 = .ok (.getfield 40, 3) := by decide +kernel
theorem dX7_lay_43 : decode cX7_lay 43 = .ok (.iload_n 1, 1) := by decide +kernel
theorem dX7_lay_44 : decode cX7_lay 44 = .ok (.iload_n 2, 1) := by decide +kernel
theorem dX7_lay_45 : decode cX7_lay 45 = .ok (.iload_n 3, 1) := by decide +kernel
theorem dX7_lay_46 : decode cX7_lay 46 = .ok (.invokevirtual 195, 3) := by decide +kernel
theorem dX7_lay_49 : decode cX7_lay 49 = .ok (.iconst 1, 1) := by decide +kernel
theorem dX7_lay_50 : decode cX7_lay 50 = .ok (.ireturn, 1) := by decide +kernel
theorem dX7_askFromSheet_0 : decode cX7_askFromSheet 0 = .ok (.aload_n 0, 1) := by decide +kernel
theorem dX7_askFromSheet_1 : decode cX7_askFromSheet 1 = .ok (.getfield 40, 3) := by decide +kernel
theorem dX7_askFromSheet_4 : decode cX7_askFromSheet 4 = .ok (.iload_n 1, 1) := by decide +kernel
theorem dX7_askFromSheet_5 : decode cX7_askFromSheet 5 = .ok (.iload_n 2, 1) := by decide +kernel
theorem dX7_askFromSheet_6 : decode cX7_askFromSheet 6 = .ok (.iconst 3, 1) := by decide +kernel
theorem dX7_askFromSheet_7 : decode cX7_askFromSheet 7 = .ok (.invokevirtual 192, 3) := by decide +kernel
theorem dX7_askFromSheet_10 : decode cX7_askFromSheet 10 = .ok (.ifCond .ne 6, 3) := by decide +kernel
theorem dX7_askFromSheet_13 : decode cX7_askFromSheet 13 = .ok (.bipush (-22), 2) := by decide +kernel
theorem dX7_askFromSheet_15 : decode cX7_askFromSheet 15 = .ok (.ireturn, 1) := by decide +kernel
theorem dX7_askFromSheet_16 : decode cX7_askFromSheet 16 = .ok (.aload_n 0, 1) := by decide +kernel
theorem dX7_askFromSheet_17 : decode cX7_askFromSheet 17 = .ok (.getfield 40, 3) := by decide +kernel
theorem dX7_askFromSheet_20 : decode cX7_askFromSheet 20 = .ok (.iload_n 1, 1) := by decide +kernel
theorem dX7_askFromSheet_21 : decode cX7_askFromSheet 21 = .ok (.iload_n 2, 1) := by decide +kernel
theorem dX7_askFromSheet_22 : decode cX7_askFromSheet 22 = .ok (.invokevirtual 275, 3) := by decide +kernel
theorem dX7_askFromSheet_25 : decode cX7_askFromSheet 25 = .ok (.istore_n 3, 1) := by decide +kernel
theorem dX7_askFromSheet_26 : decode cX7_askFromSheet 26 = .ok (.aload_n 0, 1) := by decide +kernel
theorem dX7_askFromSheet_27 : decode cX7_askFromSheet 27 = .ok (.getfield 40, 3) := by decide +kernel
theorem dX7_askFromSheet_30 : decode cX7_askFromSheet 30 = .ok (.iload_n 1, 1) := by decide +kernel
theorem dX7_askFromSheet_31 : decode cX7_askFromSheet 31 = .ok (.iload_n 2, 1) := by decide +kernel
theorem dX7_askFromSheet_32 : decode cX7_askFromSheet 32 = .ok (.iconst 1, 1) := by decide +kernel
theorem dX7_askFromSheet_33 : decode cX7_askFromSheet 33 = .ok (.iadd, 1) := by decide +kernel
theorem dX7_askFromSheet_34 : decode cX7_askFromSheet 34 = .ok (.invokevirtual 275, 3) := by decide +kernel
theorem dX7_askFromSheet_37 : decode cX7_askFromSheet 37 = .ok (.istore 4, 2) := by decide +kernel
theorem dX7_askFromSheet_39 : decode cX7_askFromSheet 39 = .ok (.aload_n 0, 1) := by decide +kernel
theorem dX7_askFromSheet_40 : decode cX7_askFromSheet 40 = .ok (.getfield 40, 3) := by decide +kernel
theorem dX7_askFromSheet_43 : decode cX7_askFromSheet 43 = .ok (.iload_n 1, 1) := by decide +kernel
theorem dX7_askFromSheet_44 : decode cX7_askFromSheet 44 = .ok (.iload_n 2, 1) := by decide +kernel
theorem dX7_askFromSheet_45 : decode cX7_askFromSheet 45 = .ok (.iconst 2, 1) := by decide +kernel
theorem dX7_askFromSheet_46 : decode cX7_askFromSheet 46 = .ok (.iadd, 1) := by decide +kernel
theorem dX7_askFromSheet_47 : decode cX7_askFromSheet 47 = .ok (.invokevirtual 275, 3) := by decide +kernel
theorem dX7_askFromSheet_50 : decode cX7_askFromSheet 50 = .ok (.istore 5, 2) := by decide +kernel
theorem dX7_askFromSheet_52 : decode cX7_askFromSheet 52 = .ok (.aload_n 0, 1) := by decide +kernel
theorem dX7_askFromSheet_53 : decode cX7_askFromSheet 53 = .ok (.iload_n 3, 1) := by decide +kernel
theorem dX7_askFromSheet_54 : decode cX7_askFromSheet 54 = .ok (.iload 4, 2) := by decide +kernel
theorem dX7_askFromSheet_56 : decode cX7_askFromSheet 56 = .ok (.iload 5, 2) := by decide +kernel
theorem dX7_askFromSheet_58 : decode cX7_askFromSheet 58 = .ok (.invokevirtual 115, 3) := by decide +kernel
theorem dX7_askFromSheet_61 : decode cX7_askFromSheet 61 = .ok (.ifCond .ne 6, 3) := by decide +kernel
theorem dX7_askFromSheet_64 : decode cX7_askFromSheet 64 = .ok (.bipush (-30), 2) := by decide +kernel
theorem dX7_askFromSheet_66 : decode cX7_askFromSheet 66 = .ok (.ireturn, 1) := by decide +kernel
theorem dX7_askFromSheet_67 : decode cX7_askFromSheet 67 = .ok (.aload_n 0, 1) := by decide +kernel
theorem dX7_askFromSheet_68 : decode cX7_askFromSheet 68 = .ok (.iload_n 3, 1) := by decide +kernel
theorem dX7_askFromSheet_69 : decode cX7_askFromSheet 69 = .ok (.iload 4, 2) := by decide +kernel
theorem dX7_askFromSheet_71 : decode cX7_askFromSheet 71 = .ok (.iload 5, 2) := by decide +kernel
theorem dX7_askFromSheet_73 : decode cX7_askFromSheet 73 = .ok (.invokevirtual 118, 3) := by decide +kernel
theorem dX7_askFromSheet_76 : decode cX7_askFromSheet 76 = .ok (.istore 6, 2) := by decide +kernel
theorem dX7_askFromSheet_78 : decode cX7_askFromSheet 78 = .ok (.iload 6, 2) := by decide +kernel
theorem dX7_askFromSheet_80 : decode cX7_askFromSheet 80 = .ok (.ifCond .eq 9, 3) := by decide +kernel
theorem dX7_askFromSheet_83 : decode cX7_askFromSheet 83 = .ok (.bipush (-30), 2) := by decide +kernel
theorem dX7_askFromSheet_85 : decode cX7_askFromSheet 85 = .ok (.iload 6, 2) := by decide +kernel
theorem dX7_askFromSheet_87 : decode cX7_askFromSheet 87 = .ok (.isub, 1) := by decide +kernel
theorem dX7_askFromSheet_88 : decode cX7_askFromSheet 88 = .ok (.ireturn, 1) := by decide +kernel
theorem dX7_askFromSheet_89 : decode cX7_askFromSheet 89 = .ok (.aload_n 0, 1) := by decide +kernel
theorem dX7_askFromSheet_90 : decode cX7_askFromSheet 90 = .ok (.getfield 26, 3) := by decide +kernel
theorem dX7_askFromSheet_93 : decode cX7_askFromSheet 93 = .ok (.iload_n 3, 1) := by decide +kernel
theorem dX7_askFromSheet_94 : decode cX7_askFromSheet 94 = .ok (.iload 4, 2) := by decide +kernel
theorem dX7_askFromSheet_96 : decode cX7_askFromSheet 96 = .ok (.iload 5, 2) := by decide +kernel
theorem dX7_askFromSheet_98 : decode cX7_askFromSheet 98 = .ok (.invokevirtual 122, 3) := by decide +kernel
theorem dX7_askFromSheet_101 : decode cX7_askFromSheet 101 = .ok (.iconst 1, 1) := by decide +kernel
theorem dX7_askFromSheet_102 : decode cX7_askFromSheet 102 = .ok (.ireturn, 1) := by decide +kernel
theorem dX7_takeBack_0 : decode cX7_takeBack 0 = .ok (.iconst 0, 1) := by decide +kernel
theorem dX7_takeBack_1 : decode cX7_takeBack 1 = .ok (.istore 4, 2) := by decide +kernel
theorem dX7_takeBack_3 : decode cX7_takeBack 3 = .ok (.iload 4, 2) := by decide +kernel
theorem dX7_takeBack_5 : decode cX7_takeBack 5 = .ok (.iload_n 3, 1) := by decide +kernel
theorem dX7_takeBack_6 : decode cX7_takeBack 6 = .ok (.if_icmp .ge 58, 3) := by decide +kernel
theorem dX7_takeBack_9 : decode cX7_takeBack 9 = .ok (.iload_n 2, 1) := by decide +kernel
theorem dX7_takeBack_10 : decode cX7_takeBack 10 = .ok (.iconst 3, 1) := by decide +kernel
theorem dX7_takeBack_11 : decode cX7_takeBack 11 = .ok (.iload 4, 2) := by decide +kernel
theorem dX7_takeBack_13 : decode cX7_takeBack 13 = .ok (.imul, 1) := by decide +kernel
theorem dX7_takeBack_14 : decode cX7_takeBack 14 = .ok (.iadd, 1) := by decide +kernel
theorem dX7_takeBack_15 : decode cX7_takeBack 15 = .ok (.istore 5, 2) := by decide +kernel
theorem dX7_takeBack_17 : decode cX7_takeBack 17 = .ok (.aload_n 0, 1) := by decide +kernel
theorem dX7_takeBack_18 : decode cX7_takeBack 18 = .ok (.getfield 26, 3) := by decide +kernel
theorem dX7_takeBack_21 : decode cX7_takeBack 21 = .ok (.aload_n 0, 1) := by decide +kernel
theorem dX7_takeBack_22 : decode cX7_takeBack 22 = .ok (.getfield 40, 3) := by decide +kernel
theorem dX7_takeBack_25 : decode cX7_takeBack 25 = .ok (.iload_n 1, 1) := by decide +kernel
theorem dX7_takeBack_26 : decode cX7_takeBack 26 = .ok (.iload 5, 2) := by decide +kernel
theorem dX7_takeBack_28 : decode cX7_takeBack 28 = .ok (.invokevirtual 275, 3) := by decide +kernel
theorem dX7_takeBack_31 : decode cX7_takeBack 31 = .ok (.aload_n 0, 1) := by decide +kernel
theorem dX7_takeBack_32 : decode cX7_takeBack 32 = .ok (.getfield 40, 3) := by decide +kernel
theorem dX7_takeBack_35 : decode cX7_takeBack 35 = .ok (.iload_n 1, 1) := by decide +kernel
theorem dX7_takeBack_36 : decode cX7_takeBack 36 = .ok (.iload 5, 2) := by decide +kernel
theorem dX7_takeBack_38 : decode cX7_takeBack 38 = .ok (.iconst 1, 1) := by decide +kernel
theorem dX7_takeBack_39 : decode cX7_takeBack 39 = .ok (.iadd, 1) := by decide +kernel
theorem dX7_takeBack_40 : decode cX7_takeBack 40 = .ok (.invokevirtual 275, 3) := by decide +kernel
theorem dX7_takeBack_43 : decode cX7_takeBack 43 = .ok (.aload_n 0, 1) := by decide +kernel
theorem dX7_takeBack_44 : decode cX7_takeBack 44 = .ok (.getfield 40, 3) := by decide +kernel
theorem dX7_takeBack_47 : decode cX7_takeBack 47 = .ok (.iload_n 1, 1) := by decide +kernel
theorem dX7_takeBack_48 : decode cX7_takeBack 48 = .ok (.iload 5, 2) := by decide +kernel
theorem dX7_takeBack_50 : decode cX7_takeBack 50 = .ok (.iconst 2, 1) := by decide +kernel
theorem dX7_takeBack_51 : decode cX7_takeBack 51 = .ok (.iadd, 1) := by decide +kernel
theorem dX7_takeBack_52 : decode cX7_takeBack 52 = .ok (.invokevirtual 275, 3) := by decide +kernel
theorem dX7_takeBack_55 : decode cX7_takeBack 55 = .ok (.invokevirtual 133, 3) := by decide +kernel
theorem dX7_takeBack_58 : decode cX7_takeBack 58 = .ok (.iinc 4 1, 3) := by decide +kernel
theorem dX7_takeBack_61 : decode cX7_takeBack 61 = .ok (.goto (-58), 3) := by decide +kernel
theorem dX7_takeBack_64 : decode cX7_takeBack 64 = .ok (.return_, 1) := by decide +kernel
theorem dX7_scan_0 : decode cX7_scan 0 = .ok (.iload_n 1, 1) := by decide +kernel
theorem dX7_scan_1 : decode cX7_scan 1 = .ok (.invokestatic 180, 3) := by decide +kernel
theorem dX7_scan_4 : decode cX7_scan 4 = .ok (.ifCond .eq 21, 3) := by decide +kernel
theorem dX7_scan_7 : decode cX7_scan 7 = .ok (.iload_n 2, 1) := by decide +kernel
theorem dX7_scan_8 : decode cX7_scan 8 = .ok (.invokestatic 183, 3) := by decide +kernel
theorem dX7_scan_11 : decode cX7_scan 11 = .ok (.ifCond .eq 14, 3) := by decide +kernel
theorem dX7_scan_14 : decode cX7_scan 14 = .ok (.iload 4, 2) := by decide +kernel
theorem dX7_scan_16 : decode cX7_scan 16 = .ok (.iconst 0, 1) := by decide +kernel
theorem dX7_scan_17 : decode cX7_scan 17 = .ok (.bipush 20, 2) := by decide +kernel
theorem dX7_scan_19 : decode cX7_scan 19 = .ok (.invokestatic 58, 3) := by decide +kernel
theorem dX7_scan_22 : decode cX7_scan 22 = .ok (.ifCond .ne 5, 3) := by decide +kernel
theorem dX7_scan_25 : decode cX7_scan 25 = .ok (.iconst (-1), 1) := by decide +kernel
theorem dX7_scan_26 : decode cX7_scan 26 = .ok (.ireturn, 1) := by decide +kernel
theorem dX7_scan_27 : decode cX7_scan 27 = .ok (.aload_n 0, 1) := by decide +kernel
theorem dX7_scan_28 : decode cX7_scan 28 = .ok (.getfield 40, 3) := by decide +kernel
theorem dX7_scan_31 : decode cX7_scan 31 = .ok (.iload_n 1, 1) := by decide +kernel
theorem dX7_scan_32 : decode cX7_scan 32 = .ok (.invokevirtual 189, 3) := by decide +kernel
theorem dX7_scan_35 : decode cX7_scan 35 = .ok (.ifCond .ne 6, 3) := by decide +kernel
theorem dX7_scan_38 : decode cX7_scan 38 = .ok (.bipush (-21), 2) := by decide +kernel
theorem dX7_scan_40 : decode cX7_scan 40 = .ok (.ireturn, 1) := by decide +kernel
theorem dX7_scan_41 : decode cX7_scan 41 = .ok (.aload_n 0, 1) := by decide +kernel
theorem dX7_scan_42 : decode cX7_scan 42 = .ok (.getfield 40, 3) := by decide +kernel
theorem dX7_scan_45 : decode cX7_scan 45 = .ok (.getfield 198, 3) := by decide +kernel
theorem dX7_scan_48 : decode cX7_scan 48 = .ok (.iload_n 1, 1) := by decide +kernel
theorem dX7_scan_49 : decode cX7_scan 49 = .ok (.iaload, 1) := by decide +kernel
theorem dX7_scan_50 : decode cX7_scan 50 = .ok (.iload_n 2, 1) := by decide +kernel
theorem dX7_scan_51 : decode cX7_scan 51 = .ok (.if_icmp .eq 6, 3) := by decide +kernel
theorem dX7_scan_54 : decode cX7_scan 54 = .ok (.bipush (-23), 2) := by decide +kernel
theorem dX7_scan_56 : decode cX7_scan 56 = .ok (.ireturn, 1) := by decide +kernel
theorem dX7_scan_57 : decode cX7_scan 57 = .ok (.iconst 0, 1) := by decide +kernel
theorem dX7_scan_58 : decode cX7_scan 58 = .ok (.istore 5, 2) := by decide +kernel
theorem dX7_scan_60 : decode cX7_scan 60 = .ok (.iload 5, 2) := by decide +kernel
theorem dX7_scan_62 : decode cX7_scan 62 = .ok (.iload 4, 2) := by decide +kernel
theorem dX7_scan_64 : decode cX7_scan 64 = .ok (.if_icmp .ge 38, 3) := by decide +kernel
theorem dX7_scan_67 : decode cX7_scan 67 = .ok (.aload_n 0, 1) := by decide +kernel
theorem dX7_scan_68 : decode cX7_scan 68 = .ok (.iload_n 1, 1) := by decide +kernel
theorem dX7_scan_69 : decode cX7_scan 69 = .ok (.iload_n 3, 1) := by decide +kernel
theorem dX7_scan_70 : decode cX7_scan 70 = .ok (.iconst 3, 1) := by decide +kernel
theorem dX7_scan_71 : decode cX7_scan 71 = .ok (.iload 5, 2) := by decide +kernel
theorem dX7_scan_73 : decode cX7_scan 73 = .ok (.imul, 1) := by decide +kernel
theorem dX7_scan_74 : decode cX7_scan 74 = .ok (.iadd, 1) := by decide +kernel
theorem dX7_scan_75 : decode cX7_scan 75 = .ok (.invokevirtual 201, 3) := by decide +kernel
theorem dX7_scan_78 : decode cX7_scan 78 = .ok (.istore 6, 2) := by decide +kernel
theorem dX7_scan_80 : decode cX7_scan 80 = .ok (.iload 6, 2) := by decide +kernel
theorem dX7_scan_82 : decode cX7_scan 82 = .ok (.ifCond .ge 14, 3) := by decide +kernel
theorem dX7_scan_85 : decode cX7_scan 85 = .ok (.aload_n 0, 1) := by decide +kernel
theorem dX7_scan_86 : decode cX7_scan 86 = .ok (.iload_n 1, 1) := by decide +kernel
theorem dX7_scan_87 : decode cX7_scan 87 = .ok (.iload_n 3, 1) := by decide +kernel
theorem dX7_scan_88 : decode cX7_scan 88 = .ok (.iload 5, 2) := by decide +kernel
theorem dX7_scan_90 : decode cX7_scan 90 = .ok (.invokevirtual 204, 3) := by decide +kernel
theorem dX7_scan_93 : decode cX7_scan 93 = .ok (.iload 6, 2) := by decide +kernel
theorem dX7_scan_95 : decode cX7_scan 95 = .ok (.ireturn, 1) := by decide +kernel
theorem dX7_scan_96 : decode cX7_scan 96 = .ok (.iinc 5 1, 3) := by decide +kernel
theorem dX7_scan_99 : decode cX7_scan 99 = .ok (.goto (-39), 3) := by decide +kernel
theorem dX7_scan_102 : decode cX7_scan 102 = .ok (.iload 4, 2) := by decide +kernel
theorem dX7_scan_104 : decode cX7_scan 104 = .ok (.ireturn, 1) := by decide +kernel
theorem dX7_wish_0 : decode cX7_wish 0 = .ok (.aload_n 0, 1) := by decide +kernel
theorem dX7_wish_1 : decode cX7_wish 1 = .ok (.getfield 10, 3) := by decide +kernel
theorem dX7_wish_4 : decode cX7_wish 4 = .ok (.iload_n 1, 1) := by decide +kernel
theorem dX7_wish_5 : decode cX7_wish 5 = .ok (.invokevirtual 207, 3) := by decide +kernel
theorem dX7_wish_8 : decode cX7_wish 8 = .ok (.ifCond .eq 23, 3) := by decide +kernel
theorem dX7_wish_11 : decode cX7_wish 11 = .ok (.aload_n 0, 1) := by decide +kernel
theorem dX7_wish_12 : decode cX7_wish 12 = .ok (.getfield 10, 3) := by decide +kernel
theorem dX7_wish_15 : decode cX7_wish 15 = .ok (.iload_n 2, 1) := by decide +kernel
theorem dX7_wish_16 : decode cX7_wish 16 = .ok (.invokevirtual 136, 3) := by decide +kernel
theorem dX7_wish_19 : decode cX7_wish 19 = .ok (.ifCond .eq 12, 3) := by decide +kernel
theorem dX7_wish_22 : decode cX7_wish 22 = .ok (.iload_n 3, 1) := by decide +kernel
theorem dX7_wish_23 : decode cX7_wish 23 = .ok (.iconst 0, 1) := by decide +kernel
theorem dX7_wish_24 : decode cX7_wish 24 = .ok (.iconst 4, 1) := by decide +kernel
theorem dX7_wish_25 : decode cX7_wish 25 = .ok (.invokestatic 58, 3) := by decide +kernel
theorem dX7_wish_28 : decode cX7_wish 28 = .ok (.ifCond .ne 5, 3) := by decide +kernel
theorem dX7_wish_31 : decode cX7_wish 31 = .ok (.iconst (-1), 1) := by decide +kernel
theorem dX7_wish_32 : decode cX7_wish 32 = .ok (.ireturn, 1) := by decide +kernel
theorem dX7_wish_33 : decode cX7_wish 33 = .ok (.aload_n 0, 1) := by decide +kernel
theorem dX7_wish_34 : decode cX7_wish 34 = .ok (.getfield 47, 3) := by decide +kernel
theorem dX7_wish_37 : decode cX7_wish 37 = .ok (.iload_n 1, 1) := by decide +kernel
theorem dX7_wish_38 : decode cX7_wish 38 = .ok (.iload_n 2, 1) := by decide +kernel
theorem dX7_wish_39 : decode cX7_wish 39 = .ok (.iload_n 3, 1) := by decide +kernel
theorem dX7_wish_40 : decode cX7_wish 40 = .ok (.invokevirtual 210, 3) := by decide +kernel
theorem dX7_wish_43 : decode cX7_wish 43 = .ok (.ireturn, 1) := by decide +kernel
theorem dX7_fewest_0 : decode cX7_fewest 0 = .ok (.aload_n 0, 1) := by decide +kernel
theorem dX7_fewest_1 : decode cX7_fewest 1 = .ok (.getfield 47, 3) := by decide +kernel
theorem dX7_fewest_4 : decode cX7_fewest 4 = .ok (.invokevirtual 213, 3) := by decide +kernel
theorem dX7_fewest_7 : decode cX7_fewest 7 = .ok (.ireturn, 1) := by decide +kernel
theorem dX7_laid_0 : decode cX7_laid 0 = .ok (.aload_n 0, 1) := by decide +kernel
theorem dX7_laid_1 : decode cX7_laid 1 = .ok (.getfield 10, 3) := by decide +kernel
theorem dX7_laid_4 : decode cX7_laid 4 = .ok (.iload_n 1, 1) := by decide +kernel
theorem dX7_laid_5 : decode cX7_laid 5 = .ok (.invokevirtual 74, 3) := by decide +kernel
theorem dX7_laid_8 : decode cX7_laid 8 = .ok (.ifCond .eq 13, 3) := by decide +kernel
theorem dX7_laid_11 : decode cX7_laid 11 = .ok (.iload_n 2, 1) := by decide +kernel
theorem dX7_laid_12 : decode cX7_laid 12 = .ok (.iconst 0, 1) := by decide +kernel
theorem dX7_laid_13 : decode cX7_laid 13 = .ok (.bipush 63, 2) := by decide +kernel
theorem dX7_laid_15 : decode cX7_laid 15 = .ok (.invokestatic 58, 3) := by decide +kernel
theorem dX7_laid_18 : decode cX7_laid 18 = .ok (.ifCond .ne 5, 3) := by decide +kernel
theorem dX7_laid_21 : decode cX7_laid 21 = .ok (.iconst (-1), 1) := by decide +kernel
theorem dX7_laid_22 : decode cX7_laid 22 = .ok (.ireturn, 1) := by decide +kernel
theorem dX7_laid_23 : decode cX7_laid 23 = .ok (.aload_n 0, 1) := by decide +kernel
theorem dX7_laid_24 : decode cX7_laid 24 = .ok (.getfield 47, 3) := by decide +kernel
theorem dX7_laid_27 : decode cX7_laid 27 = .ok (.iload_n 1, 1) := by decide +kernel
theorem dX7_laid_28 : decode cX7_laid 28 = .ok (.iload_n 2, 1) := by decide +kernel
theorem dX7_laid_29 : decode cX7_laid 29 = .ok (.invokevirtual 216, 3) := by decide +kernel
theorem dX7_laid_32 : decode cX7_laid 32 = .ok (.ireturn, 1) := by decide +kernel
theorem dX7_groupDance_0 : decode cX7_groupDance 0 = .ok (.aload_n 0, 1) := by decide +kernel
theorem dX7_groupDance_1 : decode cX7_groupDance 1 = .ok (.getfield 54, 3) := by decide +kernel
theorem dX7_groupDance_4 : decode cX7_groupDance 4 = .ok (.invokevirtual 278, 3) := by decide +kernel
theorem dX7_groupDance_7 : decode cX7_groupDance 7 = .ok (.iconst 0, 1) := by decide +kernel
theorem dX7_groupDance_8 : decode cX7_groupDance 8 = .ok (.istore_n 2, 1) := by decide +kernel
theorem dX7_groupDance_9 : decode cX7_groupDance 9 = .ok (.iload_n 2, 1) := by decide +kernel
theorem dX7_groupDance_10 : decode cX7_groupDance 10 = .ok (.aload_n 0, 1) := by decide +kernel
theorem dX7_groupDance_11 : decode cX7_groupDance 11 = .ok (.getfield 10, 3) := by decide +kernel
theorem dX7_groupDance_14 : decode cX7_groupDance 14 = .ok (.getfield 62, 3) := by decide +kernel
theorem dX7_groupDance_17 : decode cX7_groupDance 17 = .ok (.if_icmp .ge 70, 3) := by decide +kernel
theorem dX7_groupDance_20 : decode cX7_groupDance 20 = .ok (.aload_n 0, 1) := by decide +kernel
theorem dX7_groupDance_21 : decode cX7_groupDance 21 = .ok (.getfield 10, 3) := by decide +kernel
theorem dX7_groupDance_24 : decode cX7_groupDance 24 = .ok (.iload_n 2, 1) := by decide +kernel
theorem dX7_groupDance_25 : decode cX7_groupDance 25 = .ok (.invokevirtual 207, 3) := by decide +kernel
theorem dX7_groupDance_28 : decode cX7_groupDance 28 = .ok (.ifCond .eq 53, 3) := by decide +kernel
theorem dX7_groupDance_31 : decode cX7_groupDance 31 = .ok (.aload_n 0, 1) := by decide +kernel
theorem dX7_groupDance_32 : decode cX7_groupDance 32 = .ok (.getfield 26, 3) := by decide +kernel
theorem dX7_groupDance_35 : decode cX7_groupDance 35 = .ok (.iload_n 2, 1) := by decide +kernel
theorem dX7_groupDance_36 : decode cX7_groupDance 36 = .ok (.iload_n 1, 1) := by decide +kernel
theorem dX7_groupDance_37 : decode cX7_groupDance 37 = .ok (.invokevirtual 142, 3) := by decide +kernel
theorem dX7_groupDance_40 : decode cX7_groupDance 40 = .ok (.ifCond .ne 6, 3) := by decide +kernel
theorem dX7_groupDance_43 : decode cX7_groupDance 43 = .ok (.goto 38, 3) := by decide +kernel
theorem dX7_groupDance_46 : decode cX7_groupDance 46 = .ok (.aload_n 0, 1) := by decide +kernel
theorem dX7_groupDance_47 : decode cX7_groupDance 47 = .ok (.getfield 26, 3) := by decide +kernel
theorem dX7_groupDance_50 : decode cX7_groupDance 50 = .ok (.iload_n 2, 1) := by decide +kernel
theorem dX7_groupDance_51 : decode cX7_groupDance 51 = .ok (.iload_n 1, 1) := by decide +kernel
theorem dX7_groupDance_52 : decode cX7_groupDance 52 = .ok (.invokevirtual 129, 3) := by decide +kernel
theorem dX7_groupDance_55 : decode cX7_groupDance 55 = .ok (.istore_n 3, 1) := by decide +kernel
theorem dX7_groupDance_56 : decode cX7_groupDance 56 = .ok (.aload_n 0, 1) := by decide +kernel
theorem dX7_groupDance_57 : decode cX7_groupDance 57 = .ok (.getfield 54, 3) := by decide +kernel
theorem dX7_groupDance_60 : decode cX7_groupDance 60 = .ok (.aload_n 0, 1) := by decide +kernel
theorem dX7_groupDance_61 : decode cX7_groupDance 61 = .ok (.getfield 10, 3) := by decide +kernel
theorem dX7_groupDance_64 : decode cX7_groupDance 64 = .ok (.iload_n 2, 1) := by decide +kernel
theorem dX7_groupDance_65 : decode cX7_groupDance 65 = .ok (.iload_n 3, 1) := by decide +kernel
theorem dX7_groupDance_66 : decode cX7_groupDance 66 = .ok (.invokevirtual 279, 3) := by decide +kernel
theorem dX7_groupDance_69 : decode cX7_groupDance 69 = .ok (.aload_n 0, 1) := by decide +kernel
theorem dX7_groupDance_70 : decode cX7_groupDance 70 = .ok (.getfield 10, 3) := by decide +kernel
theorem dX7_groupDance_73 : decode cX7_groupDance 73 = .ok (.iload_n 2, 1) := by decide +kernel
theorem dX7_groupDance_74 : decode cX7_groupDance 74 = .ok (.iload_n 3, 1) := by decide +kernel
theorem dX7_groupDance_75 : decode cX7_groupDance 75 = .ok (.invokevirtual 282, 3) := by decide +kernel
theorem dX7_groupDance_78 : decode cX7_groupDance 78 = .ok (.invokevirtual 285, 3) := by decide +kernel
theorem dX7_groupDance_81 : decode cX7_groupDance 81 = .ok (.iinc 2 1, 3) := by decide +kernel
theorem dX7_groupDance_84 : decode cX7_groupDance 84 = .ok (.goto (-75), 3) := by decide +kernel
theorem dX7_groupDance_87 : decode cX7_groupDance 87 = .ok (.aload_n 0, 1) := by decide +kernel
theorem dX7_groupDance_88 : decode cX7_groupDance 88 = .ok (.getfield 54, 3) := by decide +kernel
theorem dX7_groupDance_91 : decode cX7_groupDance 91 = .ok (.invokevirtual 288, 3) := by decide +kernel
theorem dX7_groupDance_94 : decode cX7_groupDance 94 = .ok (.ireturn, 1) := by decide +kernel
theorem dX7_sets_0 : decode cX7_sets 0 = .ok (.iload_n 1, 1) := by decide +kernel
theorem dX7_sets_1 : decode cX7_sets 1 = .ok (.invokestatic 139, 3) := by decide +kernel
theorem dX7_sets_4 : decode cX7_sets 4 = .ok (.ifCond .ne 5, 3) := by decide +kernel
theorem dX7_sets_7 : decode cX7_sets 7 = .ok (.iconst (-1), 1) := by decide +kernel
theorem dX7_sets_8 : decode cX7_sets 8 = .ok (.ireturn, 1) := by decide +kernel
theorem dX7_sets_9 : decode cX7_sets 9 = .ok (.aload_n 0, 1) := by decide +kernel
theorem dX7_sets_10 : decode cX7_sets 10 = .ok (.iload_n 1, 1) := by decide +kernel
theorem dX7_sets_11 : decode cX7_sets 11 = .ok (.invokevirtual 219, 3) := by decide +kernel
theorem dX7_sets_14 : decode cX7_sets 14 = .ok (.ireturn, 1) := by decide +kernel
theorem dX7_set_0 : decode cX7_set 0 = .ok (.aload_n 0, 1) := by decide +kernel
theorem dX7_set_1 : decode cX7_set 1 = .ok (.getfield 10, 3) := by decide +kernel
theorem dX7_set_4 : decode cX7_set 4 = .ok (.iload_n 1, 1) := by decide +kernel
theorem dX7_set_5 : decode cX7_set 5 = .ok (.invokevirtual 74, 3) := by decide +kernel
theorem dX7_set_8 : decode cX7_set 8 = .ok (.ifCond .eq 10, 3) := by decide +kernel
theorem dX7_set_11 : decode cX7_set 11 = .ok (.iload_n 2, 1) := by decide +kernel
theorem dX7_set_12 : decode cX7_set 12 = .ok (.invokestatic 139, 3) := by decide +kernel
theorem dX7_set_15 : decode cX7_set 15 = .ok (.ifCond .ne 5, 3) := by decide +kernel
theorem dX7_set_18 : decode cX7_set 18 = .ok (.iconst (-1), 1) := by decide +kernel
theorem dX7_set_19 : decode cX7_set 19 = .ok (.ireturn, 1) := by decide +kernel
theorem dX7_set_20 : decode cX7_set 20 = .ok (.aload_n 0, 1) := by decide +kernel
theorem dX7_set_21 : decode cX7_set 21 = .ok (.iload_n 2, 1) := by decide +kernel
theorem dX7_set_22 : decode cX7_set 22 = .ok (.invokevirtual 219, 3) := by decide +kernel
theorem dX7_set_25 : decode cX7_set 25 = .ok (.pop, 1) := by decide +kernel
theorem dX7_set_26 : decode cX7_set 26 = .ok (.aload_n 0, 1) := by decide +kernel
theorem dX7_set_27 : decode cX7_set 27 = .ok (.getfield 54, 3) := by decide +kernel
theorem dX7_set_30 : decode cX7_set 30 = .ok (.iload_n 1, 1) := by decide +kernel
theorem dX7_set_31 : decode cX7_set 31 = .ok (.invokevirtual 222, 3) := by decide +kernel
theorem dX7_set_34 : decode cX7_set 34 = .ok (.ireturn, 1) := by decide +kernel
theorem dX7_count_0 : decode cX7_count 0 = .ok (.iload_n 1, 1) := by decide +kernel
theorem dX7_count_1 : decode cX7_count 1 = .ok (.tableswitch 113 0 7 #[47, 55, 63, 71, 79, 87, 95, 105], 47) := by decide +kernel
theorem dX7_count_48 : decode cX7_count 48 = .ok (.aload_n 0, 1) := by decide +kernel
theorem dX7_count_49 : decode cX7_count 49 = .ok (.getfield 10, 3) := by decide +kernel
theorem dX7_count_52 : decode cX7_count 52 = .ok (.getfield 62, 3) := by decide +kernel
theorem dX7_count_55 : decode cX7_count 55 = .ok (.ireturn, 1) := by decide +kernel
theorem dX7_count_56 : decode cX7_count 56 = .ok (.aload_n 0, 1) := by decide +kernel
theorem dX7_count_57 : decode cX7_count 57 = .ok (.getfield 10, 3) := by decide +kernel
theorem dX7_count_60 : decode cX7_count 60 = .ok (.invokevirtual 225, 3) := by decide +kernel
theorem dX7_count_63 : decode cX7_count 63 = .ok (.ireturn, 1) := by decide +kernel
theorem dX7_count_64 : decode cX7_count 64 = .ok (.aload_n 0, 1) := by decide +kernel
theorem dX7_count_65 : decode cX7_count 65 = .ok (.getfield 26, 3) := by decide +kernel
theorem dX7_count_68 : decode cX7_count 68 = .ok (.invokevirtual 228, 3) := by decide +kernel
theorem dX7_count_71 : decode cX7_count 71 = .ok (.ireturn, 1) := by decide +kernel
theorem dX7_count_72 : decode cX7_count 72 = .ok (.aload_n 0, 1) := by decide +kernel
theorem dX7_count_73 : decode cX7_count 73 = .ok (.getfield 19, 3) := by decide +kernel
theorem dX7_count_76 : decode cX7_count 76 = .ok (.invokevirtual 231, 3) := by decide +kernel
theorem dX7_count_79 : decode cX7_count 79 = .ok (.ireturn, 1) := by decide +kernel
theorem dX7_count_80 : decode cX7_count 80 = .ok (.aload_n 0, 1) := by decide +kernel
theorem dX7_count_81 : decode cX7_count 81 = .ok (.getfield 10, 3) := by decide +kernel
theorem dX7_count_84 : decode cX7_count 84 = .ok (.invokevirtual 234, 3) := by decide +kernel
theorem dX7_count_87 : decode cX7_count 87 = .ok (.ireturn, 1) := by decide +kernel
theorem dX7_count_88 : decode cX7_count 88 = .ok (.aload_n 0, 1) := by decide +kernel
theorem dX7_count_89 : decode cX7_count 89 = .ok (.getfield 10, 3) := by decide +kernel
theorem dX7_count_92 : decode cX7_count 92 = .ok (.invokevirtual 237, 3) := by decide +kernel
theorem dX7_count_95 : decode cX7_count 95 = .ok (.ireturn, 1) := by decide +kernel
theorem dX7_count_96 : decode cX7_count 96 = .ok (.aload_n 0, 1) := by decide +kernel
theorem dX7_count_97 : decode cX7_count 97 = .ok (.getfield 40, 3) := by decide +kernel
theorem dX7_count_100 : decode cX7_count 100 = .ok (.getfield 240, 3) := by decide +kernel
theorem dX7_count_103 : decode cX7_count 103 = .ok (.iconst 0, 1) := by decide +kernel
theorem dX7_count_104 : decode cX7_count 104 = .ok (.iaload, 1) := by decide +kernel
theorem dX7_count_105 : decode cX7_count 105 = .ok (.ireturn, 1) := by decide +kernel
theorem dX7_count_106 : decode cX7_count 106 = .ok (.aload_n 0, 1) := by decide +kernel
theorem dX7_count_107 : decode cX7_count 107 = .ok (.getfield 19, 3) := by decide +kernel
theorem dX7_count_110 : decode cX7_count 110 = .ok (.getfield 243, 3) := by decide +kernel
theorem dX7_count_113 : decode cX7_count 113 = .ok (.ireturn, 1) := by decide +kernel
theorem dX7_count_114 : decode cX7_count 114 = .ok (.iconst (-1), 1) := by decide +kernel
theorem dX7_count_115 : decode cX7_count 115 = .ok (.ireturn, 1) := by decide +kernel
theorem dX8_in_0 : decode cX8_in 0 = .ok (.lload_n 0, 1) := by decide +kernel
theorem dX8_in_1 : decode cX8_in 1 = .ok (.lload_n 2, 1) := by decide +kernel
theorem dX8_in_2 : decode cX8_in 2 = .ok (.lcmp, 1) := by decide +kernel
theorem dX8_in_3 : decode cX8_in 3 = .ok (.ifCond .lt 14, 3) := by decide +kernel
theorem dX8_in_6 : decode cX8_in 6 = .ok (.lload_n 0, 1) := by decide +kernel
theorem dX8_in_7 : decode cX8_in 7 = .ok (.lload 4, 2) := by decide +kernel
theorem dX8_in_9 : decode cX8_in 9 = .ok (.lcmp, 1) := by decide +kernel
theorem dX8_in_10 : decode cX8_in 10 = .ok (.ifCond .gt 7, 3) := by decide +kernel
theorem dX8_in_13 : decode cX8_in 13 = .ok (.iconst 1, 1) := by decide +kernel
theorem dX8_in_14 : decode cX8_in 14 = .ok (.goto 4, 3) := by decide +kernel
theorem dX8_in_17 : decode cX8_in 17 = .ok (.iconst 0, 1) := by decide +kernel
theorem dX8_in_18 : decode cX8_in 18 = .ok (.ireturn, 1) := by decide +kernel
theorem dX8_person_0 : decode cX8_person 0 = .ok (.iload_n 2, 1) := by decide +kernel
theorem dX8_person_1 : decode cX8_person 1 = .ok (.i2l, 1) := by decide +kernel
theorem dX8_person_2 : decode cX8_person 2 = .ok (.lconst 0, 1) := by decide +kernel
theorem dX8_person_3 : decode cX8_person 3 = .ok (.ldc2_w 74, 3) := by decide +kernel
theorem dX8_person_6 : decode cX8_person 6 = .ok (.invokestatic 76, 3) := by decide +kernel
theorem dX8_person_9 : decode cX8_person 9 = .ok (.ifCond .ne 5, 3) := by decide +kernel
theorem dX8_person_12 : decode cX8_person 12 = .ok (.iconst (-1), 1) := by decide +kernel
theorem dX8_person_13 : decode cX8_person 13 = .ok (.ireturn, 1) := by decide +kernel
theorem dX8_person_14 : decode cX8_person 14 = .ok (.aload_n 0, 1) := by decide +kernel
theorem dX8_person_15 : decode cX8_person 15 = .ok (.getfield 80, 3) := by decide +kernel
theorem dX8_person_18 : decode cX8_person 18 = .ok (.bipush 16, 2) := by decide +kernel
theorem dX8_person_20 : decode cX8_person 20 = .ok (.if_icmp .ne 6, 3) := by decide +kernel
theorem dX8_person_23 : decode cX8_person 23 = .ok (.bipush (-3), 2) := by decide +kernel
theorem dX8_person_25 : decode cX8_person 25 = .ok (.ireturn, 1) := by decide +kernel
theorem dX8_person_26 : decode cX8_person 26 = .ok (.aload_n 0, 1) := by decide +kernel
theorem dX8_person_27 : decode cX8_person 27 = .ok (.getfield 7, 3) := by decide +kernel
theorem dX8_person_30 : decode cX8_person 30 = .ok (.aload_n 0, 1) := by decide +kernel
theorem dX8_person_31 : decode cX8_person 31 = .ok (.getfield 80, 3) := by decide +kernel
theorem dX8_person_34 : decode cX8_person 34 = .ok (.iload_n 1, 1) := by decide +kernel
theorem dX8_person_35 : decode cX8_person 35 = .ok (.bastore, 1) := by decide +kernel
theorem dX8_person_36 : decode cX8_person 36 = .ok (.aload_n 0, 1) := by decide +kernel
theorem dX8_person_37 : decode cX8_person 37 = .ok (.getfield 13, 3) := by decide +kernel
theorem dX8_person_40 : decode cX8_person 40 = .ok (.aload_n 0, 1) := by decide +kernel
theorem dX8_person_41 : decode cX8_person 41 = .ok (.getfield 80, 3) := by decide +kernel
theorem dX8_person_44 : decode cX8_person 44 = .ok (.iload_n 2, 1) := by decide +kernel
theorem dX8_person_45 : decode cX8_person 45 = .ok (.iastore, 1) := by decide +kernel
theorem dX8_person_46 : decode cX8_person 46 = .ok (.iconst 0, 1) := by decide +kernel
theorem dX8_person_47 : decode cX8_person 47 = .ok (.istore_n 3, 1) := by decide +kernel
theorem dX8_person_48 : decode cX8_person 48 = .ok (.iload_n 3, 1) := by decide +kernel
theorem dX8_person_49 : decode cX8_person 49 = .ok (.bipush 24, 2) := by decide +kernel
theorem dX8_person_51 : decode cX8_person 51 = .ok (.if_icmp .ge 25, 3) := by decide +kernel
theorem dX8_person_54 : decode cX8_person 54 = .ok (.aload_n 0, 1) := by decide +kernel
theorem dX8_person_55 : decode cX8_person 55 = .ok (.getfield 29, 3) := by decide +kernel
theorem dX8_person_58 : decode cX8_person 58 = .ok (.bipush 24, 2) := by decide +kernel
theorem dX8_person_60 : decode cX8_person 60 = .ok (.aload_n 0, 1) := by decide +kernel
theorem dX8_person_61 : decode cX8_person 61 = .ok (.getfield 80, 3) := by decide +kernel
theorem dX8_person_64 : decode cX8_person 64 = .ok (.imul, 1) := by decide +kernel
theorem dX8_person_65 : decode cX8_person 65 = .ok (.iload_n 3, 1) := by decide +kernel
theorem dX8_person_66 : decode cX8_person 66 = .ok (.iadd, 1) := by decide +kernel
theorem dX8_person_67 : decode cX8_person 67 = .ok (.bipush (-4), 2) := by decide +kernel
theorem dX8_person_69 : decode cX8_person 69 = .ok (.iastore, 1) := by decide +kernel
theorem dX8_person_70 : decode cX8_person 70 = .ok (.iinc 3 1, 3) := by decide +kernel
theorem dX8_person_73 : decode cX8_person 73 = .ok (.goto (-25), 3) := by decide +kernel
theorem dX8_person_76 : decode cX8_person 76 = .ok (.aload_n 0, 1) := by decide +kernel
theorem dX8_person_77 : decode cX8_person 77 = .ok (.dup, 1) := by decide +kernel
theorem dX8_person_78 : decode cX8_person 78 = .ok (.getfield 80, 3) := by decide +kernel
theorem dX8_person_81 : decode cX8_person 81 = .ok (.iconst 1, 1) := by decide +kernel
theorem dX8_person_82 : decode cX8_person 82 = .ok (.iadd, 1) := by decide +kernel
theorem dX8_person_83 : decode cX8_person 83 = .ok (.putfield 80, 3) := by decide +kernel
theorem dX8_person_86 : decode cX8_person 86 = .ok (.aload_n 0, 1) := by decide +kernel
theorem dX8_person_87 : decode cX8_person 87 = .ok (.getfield 80, 3) := by decide +kernel
theorem dX8_person_90 : decode cX8_person 90 = .ok (.iconst 1, 1) := by decide +kernel
theorem dX8_person_91 : decode cX8_person 91 = .ok (.isub, 1) := by decide +kernel
theorem dX8_person_92 : decode cX8_person 92 = .ok (.ireturn, 1) := by decide +kernel
theorem dX8_is_0 : decode cX8_is 0 = .ok (.iload_n 1, 1) := by decide +kernel
theorem dX8_is_1 : decode cX8_is 1 = .ok (.i2l, 1) := by decide +kernel
theorem dX8_is_2 : decode cX8_is 2 = .ok (.lconst 0, 1) := by decide +kernel
theorem dX8_is_3 : decode cX8_is 3 = .ok (.aload_n 0, 1) := by decide +kernel
theorem dX8_is_4 : decode cX8_is 4 = .ok (.getfield 80, 3) := by decide +kernel
theorem dX8_is_7 : decode cX8_is 7 = .ok (.iconst 1, 1) := by decide +kernel
theorem dX8_is_8 : decode cX8_is 8 = .ok (.isub, 1) := by decide +kernel
theorem dX8_is_9 : decode cX8_is 9 = .ok (.i2l, 1) := by decide +kernel
theorem dX8_is_10 : decode cX8_is 10 = .ok (.invokestatic 76, 3) := by decide +kernel
theorem dX8_is_13 : decode cX8_is 13 = .ok (.ireturn, 1) := by decide +kernel
theorem dX8_areTwo_0 : decode cX8_areTwo 0 = .ok (.aload_n 0, 1) := by decide +kernel
theorem dX8_areTwo_1 : decode cX8_areTwo 1 = .ok (.iload_n 1, 1) := by decide +kernel
theorem dX8_areTwo_2 : decode cX8_areTwo 2 = .ok (.invokevirtual 84, 3) := by decide +kernel
theorem dX8_areTwo_5 : decode cX8_areTwo 5 = .ok (.ifCond .eq 20, 3) := by decide +kernel
theorem dX8_areTwo_8 : decode cX8_areTwo 8 = .ok (.aload_n 0, 1) := by decide +kernel
theorem dX8_areTwo_9 : decode cX8_areTwo 9 = .ok (.iload_n 2, 1) := by decide +kernel
theorem dX8_areTwo_10 : decode cX8_areTwo 10 = .ok (.invokevirtual 84, 3) := by decide +kernel
theorem dX8_areTwo_13 : decode cX8_areTwo 13 = .ok (.ifCond .eq 12, 3) := by decide +kernel
theorem dX8_areTwo_16 : decode cX8_areTwo 16 = .ok (.iload_n 1, 1) := by decide +kernel
theorem dX8_areTwo_17 : decode cX8_areTwo 17 = .ok (.iload_n 2, 1) := by decide +kernel
theorem dX8_areTwo_18 : decode cX8_areTwo 18 = .ok (.if_icmp .eq 7, 3) := by decide +kernel
theorem dX8_areTwo_21 : decode cX8_areTwo 21 = .ok (.iconst 1, 1) := by decide +kernel
theorem dX8_areTwo_22 : decode cX8_areTwo 22 = .ok (.goto 4, 3) := by decide +kernel
theorem dX8_areTwo_25 : decode cX8_areTwo 25 = .ok (.iconst 0, 1) := by decide +kernel
theorem dX8_areTwo_26 : decode cX8_areTwo 26 = .ok (.ireturn, 1) := by decide +kernel
theorem dX8_doKnow_0 : decode cX8_doKnow 0 = .ok (.aload_n 0, 1) := by decide +kernel
theorem dX8_doKnow_1 : decode cX8_doKnow 1 = .ok (.getfield 20, 3) := by decide +kernel
theorem dX8_doKnow_4 : decode cX8_doKnow 4 = .ok (.bipush 16, 2) := by decide +kernel
theorem dX8_doKnow_6 : decode cX8_doKnow 6 = .ok (.iload_n 1, 1) := by decide +kernel
theorem dX8_doKnow_7 : decode cX8_doKnow 7 = .ok (.imul, 1) := by decide +kernel
theorem dX8_doKnow_8 : decode cX8_doKnow 8 = .ok (.iload_n 2, 1) := by decide +kernel
theorem dX8_doKnow_9 : decode cX8_doKnow 9 = .ok (.iadd, 1) := by decide +kernel
theorem dX8_doKnow_10 : decode cX8_doKnow 10 = .ok (.baload, 1) := by decide +kernel
theorem dX8_doKnow_11 : decode cX8_doKnow 11 = .ok (.ireturn, 1) := by decide +kernel
theorem dX8_introduce_0 : decode cX8_introduce 0 = .ok (.aload_n 0, 1) := by decide +kernel
theorem dX8_introduce_1 : decode cX8_introduce 1 = .ok (.iload_n 2, 1) := by decide +kernel
theorem dX8_introduce_2 : decode cX8_introduce 2 = .ok (.iload_n 3, 1) := by decide +kernel
theorem dX8_introduce_3 : decode cX8_introduce 3 = .ok (.invokevirtual 88, 3) := by decide +kernel
theorem dX8_introduce_6 : decode cX8_introduce 6 = .ok (.ifCond .eq 27, 3) := by decide +kernel
theorem dX8_introduce_9 : decode cX8_introduce 9 = .ok (.iload_n 1, 1) := by decide +kernel
theorem dX8_introduce_10 : decode cX8_introduce 10 = .ok (.bipush (-4), 2) := by decide +kernel
theorem dX8_introduce_12 : decode cX8_introduce 12 = .ok (.if_icmp .eq 23, 3) := by decide +kernel
theorem dX8_introduce_15 : decode cX8_introduce 15 = .ok (.aload_n 0, 1) := by decide +kernel
theorem dX8_introduce_16 : decode cX8_introduce 16 = .ok (.iload_n 1, 1) := by decide +kernel
theorem dX8_introduce_17 : decode cX8_introduce 17 = .ok (.invokevirtual 84, 3) := by decide +kernel
theorem dX8_introduce_20 : decode cX8_introduce 20 = .ok (.ifCond .eq 13, 3) := by decide +kernel
theorem dX8_introduce_23 : decode cX8_introduce 23 = .ok (.iload_n 1, 1) := by decide +kernel
theorem dX8_introduce_24 : decode cX8_introduce 24 = .ok (.iload_n 2, 1) := by decide +kernel
theorem dX8_introduce_25 : decode cX8_introduce 25 = .ok (.if_icmp .eq 8, 3) := by decide +kernel
theorem dX8_introduce_28 : decode cX8_introduce 28 = .ok (.iload_n 1, 1) := by decide +kernel
theorem dX8_introduce_29 : decode cX8_introduce 29 = .ok (.iload_n 3, 1) := by decide +kernel
theorem dX8_introduce_30 : decode cX8_introduce 30 = .ok (.if_icmp .ne 5, 3) := by decide +kernel
theorem dX8_introduce_33 : decode cX8_introduce 33 = .ok (.iconst (-1), 1) := by decide +kernel
theorem dX8_introduce_34 : decode cX8_introduce 34 = .ok (.ireturn, 1) := by decide +kernel
theorem dX8_introduce_35 : decode cX8_introduce 35 = .ok (.aload_n 0, 1) := by decide +kernel
theorem dX8_introduce_36 : decode cX8_introduce 36 = .ok (.iload_n 2, 1) := by decide +kernel
theorem dX8_introduce_37 : decode cX8_introduce 37 = .ok (.iload_n 3, 1) := by decide +kernel
theorem dX8_introduce_38 : decode cX8_introduce 38 = .ok (.invokevirtual 92, 3) := by decide +kernel
theorem dX8_introduce_41 : decode cX8_introduce 41 = .ok (.ifCond .ne 27, 3) := by decide +kernel
theorem dX8_introduce_44 : decode cX8_introduce 44 = .ok (.iload_n 1, 1) := by decide +kernel
theorem dX8_introduce_45 : decode cX8_introduce 45 = .ok (.bipush (-4), 2) := by decide +kernel
theorem dX8_introduce_47 : decode cX8_introduce 47 = .ok (.if_icmp .eq 24, 3) := by decide +kernel
theorem dX8_introduce_50 : decode cX8_introduce 50 = .ok (.aload_n 0, 1) := by decide +kernel
theorem dX8_introduce_51 : decode cX8_introduce 51 = .ok (.iload_n 1, 1) := by decide +kernel
theorem dX8_introduce_52 : decode cX8_introduce 52 = .ok (.iload_n 2, 1) := by decide +kernel
theorem dX8_introduce_53 : decode cX8_introduce 53 = .ok (.invokevirtual 92, 3) := by decide +kernel
theorem dX8_introduce_56 : decode cX8_introduce 56 = .ok (.ifCond .eq 12, 3) := by decide +kernel
theorem dX8_introduce_59 : decode cX8_introduce 59 = .ok (.aload_n 0, 1) := by decide +kernel
theorem dX8_introduce_60 : decode cX8_introduce 60 = .ok (.iload_n 1, 1) := by decide +kernel
theorem dX8_introduce_61 : decode cX8_introduce 61 = .ok (.iload_n 3, 1) := by decide +kernel
theorem dX8_introduce_62 : decode cX8_introduce 62 = .ok (.invokevirtual 92, 3) := by decide +kernel
theorem dX8_introduce_65 : decode cX8_introduce 65 = .ok (.ifCond .ne 6, 3) := by decide +kernel
theorem dX8_introduce_68 : decode cX8_introduce 68 = .ok (.bipush (-2), 2) := by decide +kernel
theorem dX8_introduce_70 : decode cX8_introduce 70 = .ok (.ireturn, 1) := by decide +kernel
theorem dX8_introduce_71 : decode cX8_introduce 71 = .ok (.aload_n 0, 1) := by decide +kernel
theorem dX8_introduce_72 : decode cX8_introduce 72 = .ok (.getfield 20, 3) := by decide +kernel
theorem dX8_introduce_75 : decode cX8_introduce 75 = .ok (.bipush 16, 2) := by decide +kernel
theorem dX8_introduce_77 : decode cX8_introduce 77 = .ok (.iload_n 2, 1) := by decide +kernel
theorem dX8_introduce_78 : decode cX8_introduce 78 = .ok (.imul, 1) := by decide +kernel
theorem dX8_introduce_79 : decode cX8_introduce 79 = .ok (.iload_n 3, 1) := by decide +kernel
theorem dX8_introduce_80 : decode cX8_introduce 80 = .ok (.iadd, 1) := by decide +kernel
theorem dX8_introduce_81 : decode cX8_introduce 81 = .ok (.iconst 1, 1) := by decide +kernel
theorem dX8_introduce_82 : decode cX8_introduce 82 = .ok (.bastore, 1) := by decide +kernel
theorem dX8_introduce_83 : decode cX8_introduce 83 = .ok (.aload_n 0, 1) := by decide +kernel
theorem dX8_introduce_84 : decode cX8_introduce 84 = .ok (.getfield 20, 3) := by decide +kernel
