theorem dX8_about_82 : decode cX8_about 82 = .ok (.iadd, 1) := by decide +kernel
theorem dX8_about_83 : decode cX8_about 83 = .ok (.istore 4, 2) := by decide +kernel
theorem dX8_about_85 : decode cX8_about 85 = .ok (.iload 9, 2) := by decide +kernel
theorem dX8_about_87 : decode cX8_about 87 = .ok (.ifCond .lt 10, 3) := by decide +kernel
theorem dX8_about_90 : decode cX8_about 90 = .ok (.iload 5, 2) := by decide +kernel
theorem dX8_about_92 : decode cX8_about 92 = .ok (.iconst 1, 1) := by decide +kernel
theorem dX8_about_93 : decode cX8_about 93 = .ok (.iadd, 1) := by decide +kernel
theorem dX8_about_94 : decode cX8_about 94 = .ok (.goto 4, 3) := by decide +kernel
theorem dX8_about_97 : decode cX8_about 97 = .ok (.iconst 0, 1) := by decide +kernel
theorem dX8_about_98 : decode cX8_about 98 = .ok (.istore 5, 2) := by decide +kernel
theorem dX8_about_100 : decode cX8_about 100 = .ok (.iload 5, 2) := by decide +kernel
theorem dX8_about_102 : decode cX8_about 102 = .ok (.iload 6, 2) := by decide +kernel
theorem dX8_about_104 : decode cX8_about 104 = .ok (.if_icmp .le 8, 3) := by decide +kernel
theorem dX8_about_107 : decode cX8_about 107 = .ok (.iload 5, 2) := by decide +kernel
theorem dX8_about_109 : decode cX8_about 109 = .ok (.goto 5, 3) := by decide +kernel
theorem dX8_about_112 : decode cX8_about 112 = .ok (.iload 6, 2) := by decide +kernel
theorem dX8_about_114 : decode cX8_about 114 = .ok (.istore 6, 2) := by decide +kernel
theorem dX8_about_116 : decode cX8_about 116 = .ok (.iinc 8 1, 3) := by decide +kernel
theorem dX8_about_119 : decode cX8_about 119 = .ok (.goto (-80), 3) := by decide +kernel
theorem dX8_about_122 : decode cX8_about 122 = .ok (.iconst 0, 1) := by decide +kernel
theorem dX8_about_123 : decode cX8_about 123 = .ok (.istore 8, 2) := by decide +kernel
theorem dX8_about_125 : decode cX8_about 125 = .ok (.iload 8, 2) := by decide +kernel
theorem dX8_about_127 : decode cX8_about 127 = .ok (.aload_n 0, 1) := by decide +kernel
theorem dX8_about_128 : decode cX8_about 128 = .ok (.getfield 80, 3) := by decide +kernel
theorem dX8_about_131 : decode cX8_about 131 = .ok (.if_icmp .ge 35, 3) := by decide +kernel
theorem dX8_about_134 : decode cX8_about 134 = .ok (.iload 7, 2) := by decide +kernel
theorem dX8_about_136 : decode cX8_about 136 = .ok (.iload 8, 2) := by decide +kernel
theorem dX8_about_138 : decode cX8_about 138 = .ok (.iload_n 1, 1) := by decide +kernel
theorem dX8_about_139 : decode cX8_about 139 = .ok (.if_icmp .eq 17, 3) := by decide +kernel
theorem dX8_about_142 : decode cX8_about 142 = .ok (.aload_n 0, 1) := by decide +kernel
theorem dX8_about_143 : decode cX8_about 143 = .ok (.iload_n 1, 1) := by decide +kernel
theorem dX8_about_144 : decode cX8_about 144 = .ok (.iload 8, 2) := by decide +kernel
theorem dX8_about_146 : decode cX8_about 146 = .ok (.invokevirtual 167, 3) := by decide +kernel
theorem dX8_about_149 : decode cX8_about 149 = .ok (.ifCond .le 7, 3) := by decide +kernel
theorem dX8_about_152 : decode cX8_about 152 = .ok (.iconst 1, 1) := by decide +kernel
theorem dX8_about_153 : decode cX8_about 153 = .ok (.goto 4, 3) := by decide +kernel
theorem dX8_about_156 : decode cX8_about 156 = .ok (.iconst 0, 1) := by decide +kernel
theorem dX8_about_157 : decode cX8_about 157 = .ok (.iadd, 1) := by decide +kernel
theorem dX8_about_158 : decode cX8_about 158 = .ok (.istore 7, 2) := by decide +kernel
theorem dX8_about_160 : decode cX8_about 160 = .ok (.iinc 8 1, 3) := by decide +kernel
theorem dX8_about_163 : decode cX8_about 163 = .ok (.goto (-38), 3) := by decide +kernel
theorem dX8_about_166 : decode cX8_about 166 = .ok (.iload_n 2, 1) := by decide +kernel
theorem dX8_about_167 : decode cX8_about 167 = .ok (.ifCond .ne 7, 3) := by decide +kernel
theorem dX8_about_170 : decode cX8_about 170 = .ok (.iload_n 3, 1) := by decide +kernel
theorem dX8_about_171 : decode cX8_about 171 = .ok (.goto 25, 3) := by decide +kernel
theorem dX8_about_174 : decode cX8_about 174 = .ok (.iload_n 2, 1) := by decide +kernel
theorem dX8_about_175 : decode cX8_about 175 = .ok (.iconst 1, 1) := by decide +kernel
theorem dX8_about_176 : decode cX8_about 176 = .ok (.if_icmp .ne 8, 3) := by decide +kernel
theorem dX8_about_179 : decode cX8_about 179 = .ok (.iload 7, 2) := by decide +kernel
theorem dX8_about_181 : decode cX8_about 181 = .ok (.goto 15, 3) := by decide +kernel
theorem dX8_about_184 : decode cX8_about 184 = .ok (.iload_n 2, 1) := by decide +kernel
theorem dX8_about_185 : decode cX8_about 185 = .ok (.iconst 2, 1) := by decide +kernel
theorem dX8_about_186 : decode cX8_about 186 = .ok (.if_icmp .ne 8, 3) := by decide +kernel
theorem dX8_about_189 : decode cX8_about 189 = .ok (.iload 6, 2) := by decide +kernel
theorem dX8_about_191 : decode cX8_about 191 = .ok (.goto 5, 3) := by decide +kernel
theorem dX8_about_194 : decode cX8_about 194 = .ok (.iload 4, 2) := by decide +kernel
theorem dX8_about_196 : decode cX8_about 196 = .ok (.ireturn, 1) := by decide +kernel
theorem dX8_sheet_0 : decode cX8_sheet 0 = .ok (.iload_n 1, 1) := by decide +kernel
theorem dX8_sheet_1 : decode cX8_sheet 1 = .ok (.i2l, 1) := by decide +kernel
theorem dX8_sheet_2 : decode cX8_sheet 2 = .ok (.lconst 0, 1) := by decide +kernel
theorem dX8_sheet_3 : decode cX8_sheet 3 = .ok (.ldc2_w 156, 3) := by decide +kernel
theorem dX8_sheet_6 : decode cX8_sheet 6 = .ok (.invokestatic 76, 3) := by decide +kernel
theorem dX8_sheet_9 : decode cX8_sheet 9 = .ok (.ifCond .eq 21, 3) := by decide +kernel
theorem dX8_sheet_12 : decode cX8_sheet 12 = .ok (.iload_n 2, 1) := by decide +kernel
theorem dX8_sheet_13 : decode cX8_sheet 13 = .ok (.i2l, 1) := by decide +kernel
theorem dX8_sheet_14 : decode cX8_sheet 14 = .ok (.lconst 0, 1) := by decide +kernel
theorem dX8_sheet_15 : decode cX8_sheet 15 = .ok (.ldc2_w 211, 3) := by decide +kernel
theorem dX8_sheet_18 : decode cX8_sheet 18 = .ok (.invokestatic 76, 3) := by decide +kernel
theorem dX8_sheet_21 : decode cX8_sheet 21 = .ok (.ifCond .eq 9, 3) := by decide +kernel
theorem dX8_sheet_24 : decode cX8_sheet 24 = .ok (.iload_n 3, 1) := by decide +kernel
theorem dX8_sheet_25 : decode cX8_sheet 25 = .ok (.bipush 60, 2) := by decide +kernel
theorem dX8_sheet_27 : decode cX8_sheet 27 = .ok (.if_icmp .le 5, 3) := by decide +kernel
theorem dX8_sheet_30 : decode cX8_sheet 30 = .ok (.iconst (-1), 1) := by decide +kernel
theorem dX8_sheet_31 : decode cX8_sheet 31 = .ok (.ireturn, 1) := by decide +kernel
theorem dX8_sheet_32 : decode cX8_sheet 32 = .ok (.iload_n 3, 1) := by decide +kernel
theorem dX8_sheet_33 : decode cX8_sheet 33 = .ok (.ifCond .ge 6, 3) := by decide +kernel
theorem dX8_sheet_36 : decode cX8_sheet 36 = .ok (.bipush (-14), 2) := by decide +kernel
theorem dX8_sheet_38 : decode cX8_sheet 38 = .ok (.ireturn, 1) := by decide +kernel
theorem dX8_sheet_39 : decode cX8_sheet 39 = .ok (.aload_n 0, 1) := by decide +kernel
theorem dX8_sheet_40 : decode cX8_sheet 40 = .ok (.getfield 56, 3) := by decide +kernel
theorem dX8_sheet_43 : decode cX8_sheet 43 = .ok (.iload_n 1, 1) := by decide +kernel
theorem dX8_sheet_44 : decode cX8_sheet 44 = .ok (.iload_n 2, 1) := by decide +kernel
theorem dX8_sheet_45 : decode cX8_sheet 45 = .ok (.iastore, 1) := by decide +kernel
theorem dX8_sheet_46 : decode cX8_sheet 46 = .ok (.aload_n 0, 1) := by decide +kernel
theorem dX8_sheet_47 : decode cX8_sheet 47 = .ok (.getfield 59, 3) := by decide +kernel
theorem dX8_sheet_50 : decode cX8_sheet 50 = .ok (.iload_n 1, 1) := by decide +kernel
theorem dX8_sheet_51 : decode cX8_sheet 51 = .ok (.iload_n 3, 1) := by decide +kernel
theorem dX8_sheet_52 : decode cX8_sheet 52 = .ok (.iastore, 1) := by decide +kernel
theorem dX8_sheet_53 : decode cX8_sheet 53 = .ok (.iconst 0, 1) := by decide +kernel
theorem dX8_sheet_54 : decode cX8_sheet 54 = .ok (.istore 4, 2) := by decide +kernel
theorem dX8_sheet_56 : decode cX8_sheet 56 = .ok (.iload 4, 2) := by decide +kernel
theorem dX8_sheet_58 : decode cX8_sheet 58 = .ok (.bipush 60, 2) := by decide +kernel
theorem dX8_sheet_60 : decode cX8_sheet 60 = .ok (.if_icmp .ge 22, 3) := by decide +kernel
theorem dX8_sheet_63 : decode cX8_sheet 63 = .ok (.aload_n 0, 1) := by decide +kernel
theorem dX8_sheet_64 : decode cX8_sheet 64 = .ok (.getfield 62, 3) := by decide +kernel
theorem dX8_sheet_67 : decode cX8_sheet 67 = .ok (.bipush 60, 2) := by decide +kernel
theorem dX8_sheet_69 : decode cX8_sheet 69 = .ok (.iload_n 1, 1) := by decide +kernel
theorem dX8_sheet_70 : decode cX8_sheet 70 = .ok (.imul, 1) := by decide +kernel
theorem dX8_sheet_71 : decode cX8_sheet 71 = .ok (.iload 4, 2) := by decide +kernel
theorem dX8_sheet_73 : decode cX8_sheet 73 = .ok (.iadd, 1) := by decide +kernel
theorem dX8_sheet_74 : decode cX8_sheet 74 = .ok (.iconst 0, 1) := by decide +kernel
theorem dX8_sheet_75 : decode cX8_sheet 75 = .ok (.iastore, 1) := by decide +kernel
theorem dX8_sheet_76 : decode cX8_sheet 76 = .ok (.iinc 4 1, 3) := by decide +kernel
theorem dX8_sheet_79 : decode cX8_sheet 79 = .ok (.goto (-23), 3) := by decide +kernel
theorem dX8_sheet_82 : decode cX8_sheet 82 = .ok (.iconst 1, 1) := by decide +kernel
theorem dX8_sheet_83 : decode cX8_sheet 83 = .ok (.ireturn, 1) := by decide +kernel
theorem dX8_lay_0 : decode cX8_lay 0 = .ok (.iload_n 1, 1) := by decide +kernel
theorem dX8_lay_1 : decode cX8_lay 1 = .ok (.i2l, 1) := by decide +kernel
theorem dX8_lay_2 : decode cX8_lay 2 = .ok (.lconst 0, 1) := by decide +kernel
theorem dX8_lay_3 : decode cX8_lay 3 = .ok (.ldc2_w 156, 3) := by decide +kernel
theorem dX8_lay_6 : decode cX8_lay 6 = .ok (.invokestatic 76, 3) := by decide +kernel
theorem dX8_lay_9 : decode cX8_lay 9 = .ok (.ifCond .ne 5, 3) := by decide +kernel
theorem dX8_lay_12 : decode cX8_lay 12 = .ok (.iconst (-1), 1) := by decide +kernel
theorem dX8_lay_13 : decode cX8_lay 13 = .ok (.ireturn, 1) := by decide +kernel
theorem dX8_lay_14 : decode cX8_lay 14 = .ok (.aload_n 0, 1) := by decide +kernel
theorem dX8_lay_15 : decode cX8_lay 15 = .ok (.getfield 56, 3) := by decide +kernel
theorem dX8_lay_18 : decode cX8_lay 18 = .ok (.iload_n 1, 1) := by decide +kernel
theorem dX8_lay_19 : decode cX8_lay 19 = .ok (.iaload, 1) := by decide +kernel
theorem dX8_lay_20 : decode cX8_lay 20 = .ok (.bipush (-4), 2) := by decide +kernel
theorem dX8_lay_22 : decode cX8_lay 22 = .ok (.if_icmp .ne 6, 3) := by decide +kernel
theorem dX8_lay_25 : decode cX8_lay 25 = .ok (.bipush (-11), 2) := by decide +kernel
theorem dX8_lay_27 : decode cX8_lay 27 = .ok (.ireturn, 1) := by decide +kernel
theorem dX8_lay_28 : decode cX8_lay 28 = .ok (.iload_n 2, 1) := by decide +kernel
theorem dX8_lay_29 : decode cX8_lay 29 = .ok (.i2l, 1) := by decide +kernel
theorem dX8_lay_30 : decode cX8_lay 30 = .ok (.lconst 0, 1) := by decide +kernel
theorem dX8_lay_31 : decode cX8_lay 31 = .ok (.aload_n 0, 1) := by decide +kernel
theorem dX8_lay_32 : decode cX8_lay 32 = .ok (.getfield 59, 3) := by decide +kernel
theorem dX8_lay_35 : decode cX8_lay 35 = .ok (.iload_n 1, 1) := by decide +kernel
theorem dX8_lay_36 : decode cX8_lay 36 = .ok (.iaload, 1) := by decide +kernel
theorem dX8_lay_37 : decode cX8_lay 37 = .ok (.iconst 1, 1) := by decide +kernel
theorem dX8_lay_38 : decode cX8_lay 38 = .ok (.isub, 1) := by decide +kernel
theorem dX8_lay_39 : decode cX8_lay 39 = .ok (.i2l, 1) := by decide +kernel
theorem dX8_lay_40 : decode cX8_lay 40 = .ok (.invokestatic 76, 3) := by decide +kernel
theorem dX8_lay_43 : decode cX8_lay 43 = .ok (.ifCond .ne 6, 3) := by decide +kernel
theorem dX8_lay_46 : decode cX8_lay 46 = .ok (.bipush (-12), 2) := by decide +kernel
theorem dX8_lay_48 : decode cX8_lay 48 = .ok (.ireturn, 1) := by decide +kernel
theorem dX8_lay_49 : decode cX8_lay 49 = .ok (.aload_n 0, 1) := by decide +kernel
theorem dX8_lay_50 : decode cX8_lay 50 = .ok (.getfield 62, 3) := by decide +kernel
theorem dX8_lay_53 : decode cX8_lay 53 = .ok (.bipush 60, 2) := by decide +kernel
theorem dX8_lay_55 : decode cX8_lay 55 = .ok (.iload_n 1, 1) := by decide +kernel
theorem dX8_lay_56 : decode cX8_lay 56 = .ok (.imul, 1) := by decide +kernel
theorem dX8_lay_57 : decode cX8_lay 57 = .ok (.iload_n 2, 1) := by decide +kernel
theorem dX8_lay_58 : decode cX8_lay 58 = .ok (.iadd, 1) := by decide +kernel
theorem dX8_lay_59 : decode cX8_lay 59 = .ok (.aload_n 0, 1) := by decide +kernel
theorem dX8_lay_60 : decode cX8_lay 60 = .ok (.getfield 56, 3) := by decide +kernel
theorem dX8_lay_63 : decode cX8_lay 63 = .ok (.iload_n 1, 1) := by decide +kernel
theorem dX8_lay_64 : decode cX8_lay 64 = .ok (.iaload, 1) := by decide +kernel
theorem dX8_lay_65 : decode cX8_lay 65 = .ok (.ifCond .ne 13, 3) := by decide +kernel
theorem dX8_lay_68 : decode cX8_lay 68 = .ok (.iload_n 3, 1) := by decide +kernel
theorem dX8_lay_69 : decode cX8_lay 69 = .ok (.bipush 24, 2) := by decide +kernel
theorem dX8_lay_71 : decode cX8_lay 71 = .ok (.ishl, 1) := by decide +kernel
theorem dX8_lay_72 : decode cX8_lay 72 = .ok (.bipush 24, 2) := by decide +kernel
theorem dX8_lay_74 : decode cX8_lay 74 = .ok (.ishr, 1) := by decide +kernel
theorem dX8_lay_75 : decode cX8_lay 75 = .ok (.goto 24, 3) := by decide +kernel
theorem dX8_lay_78 : decode cX8_lay 78 = .ok (.aload_n 0, 1) := by decide +kernel
theorem dX8_lay_79 : decode cX8_lay 79 = .ok (.getfield 56, 3) := by decide +kernel
theorem dX8_lay_82 : decode cX8_lay 82 = .ok (.iload_n 1, 1) := by decide +kernel
theorem dX8_lay_83 : decode cX8_lay 83 = .ok (.iaload, 1) := by decide +kernel
theorem dX8_lay_84 : decode cX8_lay 84 = .ok (.iconst 1, 1) := by decide +kernel
theorem dX8_lay_85 : decode cX8_lay 85 = .ok (.if_icmp .ne 13, 3) := by decide +kernel
theorem dX8_lay_88 : decode cX8_lay 88 = .ok (.iload_n 3, 1) := by decide +kernel
theorem dX8_lay_89 : decode cX8_lay 89 = .ok (.bipush 16, 2) := by decide +kernel
theorem dX8_lay_91 : decode cX8_lay 91 = .ok (.ishl, 1) := by decide +kernel
theorem dX8_lay_92 : decode cX8_lay 92 = .ok (.bipush 16, 2) := by decide +kernel
theorem dX8_lay_94 : decode cX8_lay 94 = .ok (.ishr, 1) := by decide +kernel
theorem dX8_lay_95 : decode cX8_lay 95 = .ok (.goto 4, 3) := by decide +kernel
theorem dX8_lay_98 : decode cX8_lay 98 = .ok (.iload_n 3, 1) := by decide +kernel
theorem dX8_lay_99 : decode cX8_lay 99 = .ok (.iastore, 1) := by decide +kernel
theorem dX8_lay_100 : decode cX8_lay 100 = .ok (.iconst 1, 1) := by decide +kernel
theorem dX8_lay_101 : decode cX8_lay 101 = .ok (.ireturn, 1) := by decide +kernel
theorem dX8_scan_0 : decode cX8_scan 0 = .ok (.iload_n 1, 1) := by decide +kernel
theorem dX8_scan_1 : decode cX8_scan 1 = .ok (.i2l, 1) := by decide +kernel
theorem dX8_scan_2 : decode cX8_scan 2 = .ok (.lconst 0, 1) := by decide +kernel
theorem dX8_scan_3 : decode cX8_scan 3 = .ok (.ldc2_w 156, 3) := by decide +kernel
theorem dX8_scan_6 : decode cX8_scan 6 = .ok (.invokestatic 76, 3) := by decide +kernel
theorem dX8_scan_9 : decode cX8_scan 9 = .ok (.ifCond .eq 28, 3) := by decide +kernel
theorem dX8_scan_12 : decode cX8_scan 12 = .ok (.iload_n 2, 1) := by decide +kernel
theorem dX8_scan_13 : decode cX8_scan 13 = .ok (.i2l, 1) := by decide +kernel
theorem dX8_scan_14 : decode cX8_scan 14 = .ok (.lconst 0, 1) := by decide +kernel
theorem dX8_scan_15 : decode cX8_scan 15 = .ok (.ldc2_w 211, 3) := by decide +kernel
theorem dX8_scan_18 : decode cX8_scan 18 = .ok (.invokestatic 76, 3) := by decide +kernel
theorem dX8_scan_21 : decode cX8_scan 21 = .ok (.ifCond .eq 16, 3) := by decide +kernel
theorem dX8_scan_24 : decode cX8_scan 24 = .ok (.iload 4, 2) := by decide +kernel
theorem dX8_scan_26 : decode cX8_scan 26 = .ok (.i2l, 1) := by decide +kernel
theorem dX8_scan_27 : decode cX8_scan 27 = .ok (.lconst 0, 1) := by decide +kernel
theorem dX8_scan_28 : decode cX8_scan 28 = .ok (.ldc2_w 213, 3) := by decide +kernel
theorem dX8_scan_31 : decode cX8_scan 31 = .ok (.invokestatic 76, 3) := by decide +kernel
theorem dX8_scan_34 : decode cX8_scan 34 = .ok (.ifCond .ne 5, 3) := by decide +kernel
theorem dX8_scan_37 : decode cX8_scan 37 = .ok (.iconst (-1), 1) := by decide +kernel
theorem dX8_scan_38 : decode cX8_scan 38 = .ok (.ireturn, 1) := by decide +kernel
theorem dX8_scan_39 : decode cX8_scan 39 = .ok (.aload_n 0, 1) := by decide +kernel
theorem dX8_scan_40 : decode cX8_scan 40 = .ok (.getfield 56, 3) := by decide +kernel
theorem dX8_scan_43 : decode cX8_scan 43 = .ok (.iload_n 1, 1) := by decide +kernel
theorem dX8_scan_44 : decode cX8_scan 44 = .ok (.iaload, 1) := by decide +kernel
theorem dX8_scan_45 : decode cX8_scan 45 = .ok (.iload_n 2, 1) := by decide +kernel
theorem dX8_scan_46 : decode cX8_scan 46 = .ok (.if_icmp .eq 22, 3) := by decide +kernel
theorem dX8_scan_49 : decode cX8_scan 49 = .ok (.aload_n 0, 1) := by decide +kernel
theorem dX8_scan_50 : decode cX8_scan 50 = .ok (.getfield 56, 3) := by decide +kernel
theorem dX8_scan_53 : decode cX8_scan 53 = .ok (.iload_n 1, 1) := by decide +kernel
theorem dX8_scan_54 : decode cX8_scan 54 = .ok (.iaload, 1) := by decide +kernel
theorem dX8_scan_55 : decode cX8_scan 55 = .ok (.bipush (-4), 2) := by decide +kernel
theorem dX8_scan_57 : decode cX8_scan 57 = .ok (.if_icmp .ne 8, 3) := by decide +kernel
theorem dX8_scan_60 : decode cX8_scan 60 = .ok (.bipush (-21), 2) := by decide +kernel
theorem dX8_scan_62 : decode cX8_scan 62 = .ok (.goto 5, 3) := by decide +kernel
theorem dX8_scan_65 : decode cX8_scan 65 = .ok (.bipush (-23), 2) := by decide +kernel
theorem dX8_scan_67 : decode cX8_scan 67 = .ok (.ireturn, 1) := by decide +kernel
theorem dX8_scan_68 : decode cX8_scan 68 = .ok (.iconst 0, 1) := by decide +kernel
theorem dX8_scan_69 : decode cX8_scan 69 = .ok (.istore 5, 2) := by decide +kernel
theorem dX8_scan_71 : decode cX8_scan 71 = .ok (.iconst 0, 1) := by decide +kernel
theorem dX8_scan_72 : decode cX8_scan 72 = .ok (.istore 6, 2) := by decide +kernel
theorem dX8_scan_74 : decode cX8_scan 74 = .ok (.iconst 0, 1) := by decide +kernel
theorem dX8_scan_75 : decode cX8_scan 75 = .ok (.istore 7, 2) := by decide +kernel
theorem dX8_scan_77 : decode cX8_scan 77 = .ok (.iload 7, 2) := by decide +kernel
theorem dX8_scan_79 : decode cX8_scan 79 = .ok (.iload 4, 2) := by decide +kernel
theorem dX8_scan_81 : decode cX8_scan 81 = .ok (.if_icmp .ge 134, 3) := by decide +kernel
theorem dX8_scan_84 : decode cX8_scan 84 = .ok (.iload 5, 2) := by decide +kernel
theorem dX8_scan_86 : decode cX8_scan 86 = .ok (.ifCond .ne 129, 3) := by decide +kernel
theorem dX8_scan_89 : decode cX8_scan 89 = .ok (.iload_n 3, 1) := by decide +kernel
theorem dX8_scan_90 : decode cX8_scan 90 = .ok (.i2l, 1) := by decide +kernel
theorem dX8_scan_91 : decode cX8_scan 91 = .ok (.iconst 3, 1) := by decide +kernel
theorem dX8_scan_92 : decode cX8_scan 92 = .ok (.iload 7, 2) := by decide +kernel
theorem dX8_scan_94 : decode cX8_scan 94 = .ok (.imul, 1) := by decide +kernel
theorem dX8_scan_95 : decode cX8_scan 95 = .ok (.i2l, 1) := by decide +kernel
theorem dX8_scan_96 : decode cX8_scan 96 = .ok (.ladd, 1) := by decide +kernel
theorem dX8_scan_97 : decode cX8_scan 97 = .ok (.lstore 8, 2) := by decide +kernel
theorem dX8_scan_99 : decode cX8_scan 99 = .ok (.lload 8, 2) := by decide +kernel
theorem dX8_scan_101 : decode cX8_scan 101 = .ok (.lconst 0, 1) := by decide +kernel
theorem dX8_scan_102 : decode cX8_scan 102 = .ok (.aload_n 0, 1) := by decide +kernel
theorem dX8_scan_103 : decode cX8_scan 103 = .ok (.getfield 59, 3) := by decide +kernel
theorem dX8_scan_106 : decode cX8_scan 106 = .ok (.iload_n 1, 1) := by decide +kernel
theorem dX8_scan_107 : decode cX8_scan 107 = .ok (.iaload, 1) := by decide +kernel
theorem dX8_scan_108 : decode cX8_scan 108 = .ok (.iconst 3, 1) := by decide +kernel
theorem dX8_scan_109 : decode cX8_scan 109 = .ok (.isub, 1) := by decide +kernel
theorem dX8_scan_110 : decode cX8_scan 110 = .ok (.i2l, 1) := by decide +kernel
theorem dX8_scan_111 : decode cX8_scan 111 = .ok (.invokestatic 76, 3) := by decide +kernel
theorem dX8_scan_114 : decode cX8_scan 114 = .ok (.ifCond .ne 10, 3) := by decide +kernel
theorem dX8_scan_117 : decode cX8_scan 117 = .ok (.bipush (-22), 2) := by decide +kernel
theorem dX8_scan_119 : decode cX8_scan 119 = .ok (.istore 5, 2) := by decide +kernel
theorem dX8_scan_121 : decode cX8_scan 121 = .ok (.goto 88, 3) := by decide +kernel
theorem dX8_scan_124 : decode cX8_scan 124 = .ok (.bipush 60, 2) := by decide +kernel
theorem dX8_scan_126 : decode cX8_scan 126 = .ok (.iload_n 1, 1) := by decide +kernel
theorem dX8_scan_127 : decode cX8_scan 127 = .ok (.imul, 1) := by decide +kernel
theorem dX8_scan_128 : decode cX8_scan 128 = .ok (.lload 8, 2) := by decide +kernel
theorem dX8_scan_130 : decode cX8_scan 130 = .ok (.l2i, 1) := by decide +kernel
theorem dX8_scan_131 : decode cX8_scan 131 = .ok (.iadd, 1) := by decide +kernel
theorem dX8_scan_132 : decode cX8_scan 132 = .ok (.istore 10, 2) := by decide +kernel
theorem dX8_scan_134 : decode cX8_scan 134 = .ok (.aload_n 0, 1) := by decide +kernel
theorem dX8_scan_135 : decode cX8_scan 135 = .ok (.aload_n 0, 1) := by decide +kernel
theorem dX8_scan_136 : decode cX8_scan 136 = .ok (.getfield 62, 3) := by decide +kernel
theorem dX8_scan_139 : decode cX8_scan 139 = .ok (.iload 10, 2) := by decide +kernel
theorem dX8_scan_141 : decode cX8_scan 141 = .ok (.iaload, 1) := by decide +kernel
theorem dX8_scan_142 : decode cX8_scan 142 = .ok (.aload_n 0, 1) := by decide +kernel
theorem dX8_scan_143 : decode cX8_scan 143 = .ok (.getfield 62, 3) := by decide +kernel
theorem dX8_scan_146 : decode cX8_scan 146 = .ok (.iload 10, 2) := by decide +kernel
theorem dX8_scan_148 : decode cX8_scan 148 = .ok (.iconst 1, 1) := by decide +kernel
theorem dX8_scan_149 : decode cX8_scan 149 = .ok (.iadd, 1) := by decide +kernel
theorem dX8_scan_150 : decode cX8_scan 150 = .ok (.iaload, 1) := by decide +kernel
theorem dX8_scan_151 : decode cX8_scan 151 = .ok (.aload_n 0, 1) := by decide +kernel
theorem dX8_scan_152 : decode cX8_scan 152 = .ok (.getfield 62, 3) := by decide +kernel
theorem dX8_scan_155 : decode cX8_scan 155 = .ok (.iload 10, 2) := by decide +kernel
theorem dX8_scan_157 : decode cX8_scan 157 = .ok (.iconst 2, 1) := by decide +kernel
theorem dX8_scan_158 : decode cX8_scan 158 = .ok (.iadd, 1) := by decide +kernel
theorem dX8_scan_159 : decode cX8_scan 159 = .ok (.iaload, 1) := by decide +kernel
theorem dX8_scan_160 : decode cX8_scan 160 = .ok (.invokevirtual 215, 3) := by decide +kernel
theorem dX8_scan_163 : decode cX8_scan 163 = .ok (.istore 11, 2) := by decide +kernel
theorem dX8_scan_165 : decode cX8_scan 165 = .ok (.iload 11, 2) := by decide +kernel
theorem dX8_scan_167 : decode cX8_scan 167 = .ok (.iconst 1, 1) := by decide +kernel
theorem dX8_scan_168 : decode cX8_scan 168 = .ok (.if_icmp .ne 7, 3) := by decide +kernel
theorem dX8_scan_171 : decode cX8_scan 171 = .ok (.iconst 0, 1) := by decide +kernel
theorem dX8_scan_172 : decode cX8_scan 172 = .ok (.goto 19, 3) := by decide +kernel
theorem dX8_scan_175 : decode cX8_scan 175 = .ok (.iload 11, 2) := by decide +kernel
theorem dX8_scan_177 : decode cX8_scan 177 = .ok (.iconst (-1), 1) := by decide +kernel
theorem dX8_scan_178 : decode cX8_scan 178 = .ok (.if_icmp .ne 8, 3) := by decide +kernel
theorem dX8_scan_181 : decode cX8_scan 181 = .ok (.bipush (-30), 2) := by decide +kernel
theorem dX8_scan_183 : decode cX8_scan 183 = .ok (.goto 8, 3) := by decide +kernel
theorem dX8_scan_186 : decode cX8_scan 186 = .ok (.bipush (-20), 2) := by decide +kernel
theorem dX8_scan_188 : decode cX8_scan 188 = .ok (.iload 11, 2) := by decide +kernel
theorem dX8_scan_190 : decode cX8_scan 190 = .ok (.iadd, 1) := by decide +kernel
theorem dX8_scan_191 : decode cX8_scan 191 = .ok (.istore 5, 2) := by decide +kernel
theorem dX8_scan_193 : decode cX8_scan 193 = .ok (.iload 6, 2) := by decide +kernel
theorem dX8_scan_195 : decode cX8_scan 195 = .ok (.iload 11, 2) := by decide +kernel
theorem dX8_scan_197 : decode cX8_scan 197 = .ok (.iconst 1, 1) := by decide +kernel
theorem dX8_scan_198 : decode cX8_scan 198 = .ok (.if_icmp .ne 7, 3) := by decide +kernel
theorem dX8_scan_201 : decode cX8_scan 201 = .ok (.iconst 1, 1) := by decide +kernel
theorem dX8_scan_202 : decode cX8_scan 202 = .ok (.goto 4, 3) := by decide +kernel
theorem dX8_scan_205 : decode cX8_scan 205 = .ok (.iconst 0, 1) := by decide +kernel
theorem dX8_scan_206 : decode cX8_scan 206 = .ok (.iadd, 1) := by decide +kernel
theorem dX8_scan_207 : decode cX8_scan 207 = .ok (.istore 6, 2) := by decide +kernel
theorem dX8_scan_209 : decode cX8_scan 209 = .ok (.iinc 7 1, 3) := by decide +kernel
theorem dX8_scan_212 : decode cX8_scan 212 = .ok (.goto (-135), 3) := by decide +kernel
theorem dX8_scan_215 : decode cX8_scan 215 = .ok (.iconst 0, 1) := by decide +kernel
theorem dX8_scan_216 : decode cX8_scan 216 = .ok (.istore 7, 2) := by decide +kernel
theorem dX8_scan_218 : decode cX8_scan 218 = .ok (.iload 7, 2) := by decide +kernel
theorem dX8_scan_220 : decode cX8_scan 220 = .ok (.iload 6, 2) := by decide +kernel
theorem dX8_scan_222 : decode cX8_scan 222 = .ok (.if_icmp .ge 56, 3) := by decide +kernel
theorem dX8_scan_225 : decode cX8_scan 225 = .ok (.iload 5, 2) := by decide +kernel
theorem dX8_scan_227 : decode cX8_scan 227 = .ok (.ifCond .ge 51, 3) := by decide +kernel
theorem dX8_scan_230 : decode cX8_scan 230 = .ok (.bipush 60, 2) := by decide +kernel
theorem dX8_scan_232 : decode cX8_scan 232 = .ok (.iload_n 1, 1) := by decide +kernel
theorem dX8_scan_233 : decode cX8_scan 233 = .ok (.imul, 1) := by decide +kernel
theorem dX8_scan_234 : decode cX8_scan 234 = .ok (.iload_n 3, 1) := by decide +kernel
theorem dX8_scan_235 : decode cX8_scan 235 = .ok (.iadd, 1) := by decide +kernel
theorem dX8_scan_236 : decode cX8_scan 236 = .ok (.iconst 3, 1) := by decide +kernel
theorem dX8_scan_237 : decode cX8_scan 237 = .ok (.iload 7, 2) := by decide +kernel
theorem dX8_scan_239 : decode cX8_scan 239 = .ok (.imul, 1) := by decide +kernel
theorem dX8_scan_240 : decode cX8_scan 240 = .ok (.iadd, 1) := by decide +kernel
theorem dX8_scan_241 : decode cX8_scan 241 = .ok (.istore 8, 2) := by decide +kernel
theorem dX8_scan_243 : decode cX8_scan 243 = .ok (.aload_n 0, 1) := by decide +kernel
theorem dX8_scan_244 : decode cX8_scan 244 = .ok (.aload_n 0, 1) := by decide +kernel
theorem dX8_scan_245 : decode cX8_scan 245 = .ok (.getfield 62, 3) := by decide +kernel
theorem dX8_scan_248 : decode cX8_scan 248 = .ok (.iload 8, 2) := by decide +kernel
theorem dX8_scan_250 : decode cX8_scan 250 = .ok (.iaload, 1) := by decide +kernel
theorem dX8_scan_251 : decode cX8_scan 251 = .ok (.aload_n 0, 1) := by decide +kernel
theorem dX8_scan_252 : decode cX8_scan 252 = .ok (.getfield 62, 3) := by decide +kernel
theorem dX8_scan_255 : decode cX8_scan 255 = .ok (.iload 8, 2) := by decide +kernel
theorem dX8_scan_257 : decode cX8_scan 257 = .ok (.iconst 1, 1) := by decide +kernel
theorem dX8_scan_258 : decode cX8_scan 258 = .ok (.iadd, 1) := by decide +kernel
theorem dX8_scan_259 : decode cX8_scan 259 = .ok (.iaload, 1) := by decide +kernel
theorem dX8_scan_260 : decode cX8_scan 260 = .ok (.aload_n 0, 1) := by decide +kernel
theorem dX8_scan_261 : decode cX8_scan 261 = .ok (.getfield 62, 3) := by decide +kernel
theorem dX8_scan_264 : decode cX8_scan 264 = .ok (.iload 8, 2) := by decide +kernel
theorem dX8_scan_266 : decode cX8_scan 266 = .ok (.iconst 2, 1) := by decide +kernel
theorem dX8_scan_267 : decode cX8_scan 267 = .ok (.iadd, 1) := by decide +kernel
theorem dX8_scan_268 : decode cX8_scan 268 = .ok (.iaload, 1) := by decide +kernel
theorem dX8_scan_269 : decode cX8_scan 269 = .ok (.invokevirtual 188, 3) := by decide +kernel
theorem dX8_scan_272 : decode cX8_scan 272 = .ok (.iinc 7 1, 3) := by decide +kernel
theorem dX8_scan_275 : decode cX8_scan 275 = .ok (.goto (-57), 3) := by decide +kernel
theorem dX8_scan_278 : decode cX8_scan 278 = .ok (.iload 5, 2) := by decide +kernel
theorem dX8_scan_280 : decode cX8_scan 280 = .ok (.ifCond .ge 8, 3) := by decide +kernel
theorem dX8_scan_283 : decode cX8_scan 283 = .ok (.iload 5, 2) := by decide +kernel
theorem dX8_scan_285 : decode cX8_scan 285 = .ok (.goto 5, 3) := by decide +kernel
theorem dX8_scan_288 : decode cX8_scan 288 = .ok (.iload 4, 2) := by decide +kernel
theorem dX8_scan_290 : decode cX8_scan 290 = .ok (.ireturn, 1) := by decide +kernel
theorem dX8_wish_0 : decode cX8_wish 0 = .ok (.aload_n 0, 1) := by decide +kernel
theorem dX8_wish_1 : decode cX8_wish 1 = .ok (.iload_n 2, 1) := by decide +kernel
theorem dX8_wish_2 : decode cX8_wish 2 = .ok (.iload_n 1, 1) := by decide +kernel
theorem dX8_wish_3 : decode cX8_wish 3 = .ok (.iconst 0, 1) := by decide +kernel
theorem dX8_wish_4 : decode cX8_wish 4 = .ok (.invokevirtual 177, 3) := by decide +kernel
theorem dX8_wish_7 : decode cX8_wish 7 = .ok (.ifCond .eq 15, 3) := by decide +kernel
theorem dX8_wish_10 : decode cX8_wish 10 = .ok (.iload_n 3, 1) := by decide +kernel
theorem dX8_wish_11 : decode cX8_wish 11 = .ok (.i2l, 1) := by decide +kernel
theorem dX8_wish_12 : decode cX8_wish 12 = .ok (.lconst 0, 1) := by decide +kernel
theorem dX8_wish_13 : decode cX8_wish 13 = .ok (.ldc2_w 218, 3) := by decide +kernel
theorem dX8_wish_16 : decode cX8_wish 16 = .ok (.invokestatic 76, 3) := by decide +kernel
theorem dX8_wish_19 : decode cX8_wish 19 = .ok (.ifCond .ne 5, 3) := by decide +kernel
theorem dX8_wish_22 : decode cX8_wish 22 = .ok (.iconst (-1), 1) := by decide +kernel
theorem dX8_wish_23 : decode cX8_wish 23 = .ok (.ireturn, 1) := by decide +kernel
theorem dX8_wish_24 : decode cX8_wish 24 = .ok (.aload_n 0, 1) := by decide +kernel
theorem dX8_wish_25 : decode cX8_wish 25 = .ok (.getfield 26, 3) := by decide +kernel
theorem dX8_wish_28 : decode cX8_wish 28 = .ok (.bipush 16, 2) := by decide +kernel
theorem dX8_wish_30 : decode cX8_wish 30 = .ok (.iload_n 1, 1) := by decide +kernel
theorem dX8_wish_31 : decode cX8_wish 31 = .ok (.imul, 1) := by decide +kernel
theorem dX8_wish_32 : decode cX8_wish 32 = .ok (.iload_n 2, 1) := by decide +kernel
theorem dX8_wish_33 : decode cX8_wish 33 = .ok (.iadd, 1) := by decide +kernel
theorem dX8_wish_34 : decode cX8_wish 34 = .ok (.iaload, 1) := by decide +kernel
theorem dX8_wish_35 : decode cX8_wish 35 = .ok (.istore 4, 2) := by decide +kernel
theorem dX8_wish_37 : decode cX8_wish 37 = .ok (.aload_n 0, 1) := by decide +kernel
theorem dX8_wish_38 : decode cX8_wish 38 = .ok (.getfield 26, 3) := by decide +kernel
theorem dX8_wish_41 : decode cX8_wish 41 = .ok (.bipush 16, 2) := by decide +kernel
theorem dX8_wish_43 : decode cX8_wish 43 = .ok (.iload_n 1, 1) := by decide +kernel
theorem dX8_wish_44 : decode cX8_wish 44 = .ok (.imul, 1) := by decide +kernel
theorem dX8_wish_45 : decode cX8_wish 45 = .ok (.iload_n 2, 1) := by decide +kernel
theorem dX8_wish_46 : decode cX8_wish 46 = .ok (.iadd, 1) := by decide +kernel
theorem dX8_wish_47 : decode cX8_wish 47 = .ok (.iload_n 3, 1) := by decide +kernel
theorem dX8_wish_48 : decode cX8_wish 48 = .ok (.iastore, 1) := by decide +kernel
theorem dX8_wish_49 : decode cX8_wish 49 = .ok (.iload 4, 2) := by decide +kernel
theorem dX8_wish_51 : decode cX8_wish 51 = .ok (.ireturn, 1) := by decide +kernel
theorem dX8_fewest_0 : decode cX8_fewest 0 = .ok (.iconst 0, 1) := by decide +kernel
theorem dX8_fewest_1 : decode cX8_fewest 1 = .ok (.istore_n 1, 1) := by decide +kernel
theorem dX8_fewest_2 : decode cX8_fewest 2 = .ok (.iconst 0, 1) := by decide +kernel
theorem dX8_fewest_3 : decode cX8_fewest 3 = .ok (.istore_n 2, 1) := by decide +kernel
theorem dX8_fewest_4 : decode cX8_fewest 4 = .ok (.iload_n 2, 1) := by decide +kernel
theorem dX8_fewest_5 : decode cX8_fewest 5 = .ok (.aload_n 0, 1) := by decide +kernel
theorem dX8_fewest_6 : decode cX8_fewest 6 = .ok (.getfield 80, 3) := by decide +kernel
theorem dX8_fewest_9 : decode cX8_fewest 9 = .ok (.if_icmp .ge 68, 3) := by decide +kernel
theorem dX8_fewest_12 : decode cX8_fewest 12 = .ok (.iconst 0, 1) := by decide +kernel
theorem dX8_fewest_13 : decode cX8_fewest 13 = .ok (.istore_n 3, 1) := by decide +kernel
theorem dX8_fewest_14 : decode cX8_fewest 14 = .ok (.iconst 0, 1) := by decide +kernel
theorem dX8_fewest_15 : decode cX8_fewest 15 = .ok (.istore 4, 2) := by decide +kernel
theorem dX8_fewest_17 : decode cX8_fewest 17 = .ok (.iload 4, 2) := by decide +kernel
theorem dX8_fewest_19 : decode cX8_fewest 19 = .ok (.aload_n 0, 1) := by decide +kernel
theorem dX8_fewest_20 : decode cX8_fewest 20 = .ok (.getfield 80, 3) := by decide +kernel
theorem dX8_fewest_23 : decode cX8_fewest 23 = .ok (.if_icmp .ge 37, 3) := by decide +kernel
theorem dX8_fewest_26 : decode cX8_fewest 26 = .ok (.iload_n 3, 1) := by decide +kernel
theorem dX8_fewest_27 : decode cX8_fewest 27 = .ok (.aload_n 0, 1) := by decide +kernel
theorem dX8_fewest_28 : decode cX8_fewest 28 = .ok (.getfield 26, 3) := by decide +kernel
theorem dX8_fewest_31 : decode cX8_fewest 31 = .ok (.bipush 16, 2) := by decide +kernel
theorem dX8_fewest_33 : decode cX8_fewest 33 = .ok (.iload_n 2, 1) := by decide +kernel
theorem dX8_fewest_34 : decode cX8_fewest 34 = .ok (.imul, 1) := by decide +kernel
theorem dX8_fewest_35 : decode cX8_fewest 35 = .ok (.iload 4, 2) := by decide +kernel
theorem dX8_fewest_37 : decode cX8_fewest 37 = .ok (.iadd, 1) := by decide +kernel
theorem dX8_fewest_38 : decode cX8_fewest 38 = .ok (.iaload, 1) := by decide +kernel
theorem dX8_fewest_39 : decode cX8_fewest 39 = .ok (.aload_n 0, 1) := by decide +kernel
theorem dX8_fewest_40 : decode cX8_fewest 40 = .ok (.getfield 26, 3) := by decide +kernel
theorem dX8_fewest_43 : decode cX8_fewest 43 = .ok (.bipush 16, 2) := by decide +kernel
theorem dX8_fewest_45 : decode cX8_fewest 45 = .ok (.iload 4, 2) := by decide +kernel
theorem dX8_fewest_47 : decode cX8_fewest 47 = .ok (.imul, 1) := by decide +kernel
theorem dX8_fewest_48 : decode cX8_fewest 48 = .ok (.iload_n 2, 1) := by decide +kernel
theorem dX8_fewest_49 : decode cX8_fewest 49 = .ok (.iadd, 1) := by decide +kernel
theorem dX8_fewest_50 : decode cX8_fewest 50 = .ok (.iaload, 1) := by decide +kernel
theorem dX8_fewest_51 : decode cX8_fewest 51 = .ok (.iadd, 1) := by decide +kernel
theorem dX8_fewest_52 : decode cX8_fewest 52 = .ok (.iadd, 1) := by decide +kernel
theorem dX8_fewest_53 : decode cX8_fewest 53 = .ok (.istore_n 3, 1) := by decide +kernel
theorem dX8_fewest_54 : decode cX8_fewest 54 = .ok (.iinc 4 1, 3) := by decide +kernel
theorem dX8_fewest_57 : decode cX8_fewest 57 = .ok (.goto (-40), 3) := by decide +kernel
theorem dX8_fewest_60 : decode cX8_fewest 60 = .ok (.iload_n 3, 1) := by decide +kernel
theorem dX8_fewest_61 : decode cX8_fewest 61 = .ok (.iload_n 1, 1) := by decide +kernel
theorem dX8_fewest_62 : decode cX8_fewest 62 = .ok (.if_icmp .le 7, 3) := by decide +kernel
theorem dX8_fewest_65 : decode cX8_fewest 65 = .ok (.iload_n 3, 1) := by decide +kernel
theorem dX8_fewest_66 : decode cX8_fewest 66 = .ok (.goto 4, 3) := by decide +kernel
theorem dX8_fewest_69 : decode cX8_fewest 69 = .ok (.iload_n 1, 1) := by decide +kernel
theorem dX8_fewest_70 : decode cX8_fewest 70 = .ok (.istore_n 1, 1) := by decide +kernel
theorem dX8_fewest_71 : decode cX8_fewest 71 = .ok (.iinc 2 1, 3) := by decide +kernel
theorem dX8_fewest_74 : decode cX8_fewest 74 = .ok (.goto (-70), 3) := by decide +kernel
theorem dX8_fewest_77 : decode cX8_fewest 77 = .ok (.iload_n 1, 1) := by decide +kernel
theorem dX8_fewest_78 : decode cX8_fewest 78 = .ok (.ireturn, 1) := by decide +kernel
theorem dX8_freeOf_0 : decode cX8_freeOf 0 = .ok (.iconst 0, 1) := by decide +kernel
theorem dX8_freeOf_1 : decode cX8_freeOf 1 = .ok (.istore_n 2, 1) := by decide +kernel
theorem dX8_freeOf_2 : decode cX8_freeOf 2 = .ok (.aload_n 0, 1) := by decide +kernel
theorem dX8_freeOf_3 : decode cX8_freeOf 3 = .ok (.getfield 65, 3) := by decide +kernel
theorem dX8_freeOf_6 : decode cX8_freeOf 6 = .ok (.bipush 64, 2) := by decide +kernel
theorem dX8_freeOf_8 : decode cX8_freeOf 8 = .ok (.iload_n 1, 1) := by decide +kernel
theorem dX8_freeOf_9 : decode cX8_freeOf 9 = .ok (.imul, 1) := by decide +kernel
theorem dX8_freeOf_10 : decode cX8_freeOf 10 = .ok (.iload_n 2, 1) := by decide +kernel
theorem dX8_freeOf_11 : decode cX8_freeOf 11 = .ok (.iadd, 1) := by decide +kernel
theorem dX8_freeOf_12 : decode cX8_freeOf 12 = .ok (.iaload, 1) := by decide +kernel
theorem dX8_freeOf_13 : decode cX8_freeOf 13 = .ok (.bipush (-4), 2) := by decide +kernel
theorem dX8_freeOf_15 : decode cX8_freeOf 15 = .ok (.if_icmp .eq 9, 3) := by decide +kernel
theorem dX8_freeOf_18 : decode cX8_freeOf 18 = .ok (.iinc 2 1, 3) := by decide +kernel
theorem dX8_freeOf_21 : decode cX8_freeOf 21 = .ok (.goto (-19), 3) := by decide +kernel
theorem dX8_freeOf_24 : decode cX8_freeOf 24 = .ok (.iload_n 2, 1) := by decide +kernel
theorem dX8_freeOf_25 : decode cX8_freeOf 25 = .ok (.ireturn, 1) := by decide +kernel
theorem dX8_lays_0 : decode cX8_lays 0 = .ok (.aload_n 0, 1) := by decide +kernel
theorem dX8_lays_1 : decode cX8_lays 1 = .ok (.iload_n 1, 1) := by decide +kernel
theorem dX8_lays_2 : decode cX8_lays 2 = .ok (.invokevirtual 220, 3) := by decide +kernel
theorem dX8_lays_5 : decode cX8_lays 5 = .ok (.istore_n 3, 1) := by decide +kernel
theorem dX8_lays_6 : decode cX8_lays 6 = .ok (.aload_n 0, 1) := by decide +kernel
theorem dX8_lays_7 : decode cX8_lays 7 = .ok (.iload_n 2, 1) := by decide +kernel
theorem dX8_lays_8 : decode cX8_lays 8 = .ok (.invokevirtual 220, 3) := by decide +kernel
theorem dX8_lays_11 : decode cX8_lays 11 = .ok (.istore 4, 2) := by decide +kernel
theorem dX8_lays_13 : decode cX8_lays 13 = .ok (.iload_n 3, 1) := by decide +kernel
theorem dX8_lays_14 : decode cX8_lays 14 = .ok (.iload 4, 2) := by decide +kernel
theorem dX8_lays_16 : decode cX8_lays 16 = .ok (.if_icmp .eq 105, 3) := by decide +kernel
theorem dX8_lays_19 : decode cX8_lays 19 = .ok (.iload_n 2, 1) := by decide +kernel
theorem dX8_lays_20 : decode cX8_lays 20 = .ok (.istore 5, 2) := by decide +kernel
theorem dX8_lays_22 : decode cX8_lays 22 = .ok (.iload_n 3, 1) := by decide +kernel
theorem dX8_lays_23 : decode cX8_lays 23 = .ok (.istore 6, 2) := by decide +kernel
theorem dX8_lays_25 : decode cX8_lays 25 = .ok (.iload 5, 2) := by decide +kernel
theorem dX8_lays_27 : decode cX8_lays 27 = .ok (.bipush (-4), 2) := by decide +kernel
theorem dX8_lays_29 : decode cX8_lays 29 = .ok (.if_icmp .eq 92, 3) := by decide +kernel
theorem dX8_lays_32 : decode cX8_lays 32 = .ok (.aload_n 0, 1) := by decide +kernel
theorem dX8_lays_33 : decode cX8_lays 33 = .ok (.getfield 65, 3) := by decide +kernel
theorem dX8_lays_36 : decode cX8_lays 36 = .ok (.bipush 64, 2) := by decide +kernel
theorem dX8_lays_38 : decode cX8_lays 38 = .ok (.iload 5, 2) := by decide +kernel
theorem dX8_lays_40 : decode cX8_lays 40 = .ok (.imul, 1) := by decide +kernel
theorem dX8_lays_41 : decode cX8_lays 41 = .ok (.iload_n 3, 1) := by decide +kernel
theorem dX8_lays_42 : decode cX8_lays 42 = .ok (.iadd, 1) := by decide +kernel
theorem dX8_lays_43 : decode cX8_lays 43 = .ok (.iaload, 1) := by decide +kernel
theorem dX8_lays_44 : decode cX8_lays 44 = .ok (.istore 7, 2) := by decide +kernel
theorem dX8_lays_46 : decode cX8_lays 46 = .ok (.aload_n 0, 1) := by decide +kernel
theorem dX8_lays_47 : decode cX8_lays 47 = .ok (.getfield 65, 3) := by decide +kernel
theorem dX8_lays_50 : decode cX8_lays 50 = .ok (.bipush 64, 2) := by decide +kernel
theorem dX8_lays_52 : decode cX8_lays 52 = .ok (.iload 5, 2) := by decide +kernel
theorem dX8_lays_54 : decode cX8_lays 54 = .ok (.imul, 1) := by decide +kernel
theorem dX8_lays_55 : decode cX8_lays 55 = .ok (.iload 4, 2) := by decide +kernel
theorem dX8_lays_57 : decode cX8_lays 57 = .ok (.iadd, 1) := by decide +kernel
theorem dX8_lays_58 : decode cX8_lays 58 = .ok (.iaload, 1) := by decide +kernel
theorem dX8_lays_59 : decode cX8_lays 59 = .ok (.istore 8, 2) := by decide +kernel
theorem dX8_lays_61 : decode cX8_lays 61 = .ok (.iload 6, 2) := by decide +kernel
theorem dX8_lays_63 : decode cX8_lays 63 = .ok (.iload_n 3, 1) := by decide +kernel
theorem dX8_lays_64 : decode cX8_lays 64 = .ok (.if_icmp .ne 8, 3) := by decide +kernel
theorem dX8_lays_67 : decode cX8_lays 67 = .ok (.iload 7, 2) := by decide +kernel
theorem dX8_lays_69 : decode cX8_lays 69 = .ok (.goto 5, 3) := by decide +kernel
theorem dX8_lays_72 : decode cX8_lays 72 = .ok (.iload 8, 2) := by decide +kernel
theorem dX8_lays_74 : decode cX8_lays 74 = .ok (.istore 9, 2) := by decide +kernel
theorem dX8_lays_76 : decode cX8_lays 76 = .ok (.aload_n 0, 1) := by decide +kernel
theorem dX8_lays_77 : decode cX8_lays 77 = .ok (.getfield 65, 3) := by decide +kernel
theorem dX8_lays_80 : decode cX8_lays 80 = .ok (.bipush 64, 2) := by decide +kernel
theorem dX8_lays_82 : decode cX8_lays 82 = .ok (.iload 5, 2) := by decide +kernel
theorem dX8_lays_84 : decode cX8_lays 84 = .ok (.imul, 1) := by decide +kernel
theorem dX8_lays_85 : decode cX8_lays 85 = .ok (.iload_n 3, 1) := by decide +kernel
theorem dX8_lays_86 : decode cX8_lays 86 = .ok (.iadd, 1) := by decide +kernel
theorem dX8_lays_87 : decode cX8_lays 87 = .ok (.iload 8, 2) := by decide +kernel
theorem dX8_lays_89 : decode cX8_lays 89 = .ok (.iastore, 1) := by decide +kernel
theorem dX8_lays_90 : decode cX8_lays 90 = .ok (.aload_n 0, 1) := by decide +kernel
theorem dX8_lays_91 : decode cX8_lays 91 = .ok (.getfield 65, 3) := by decide +kernel
theorem dX8_lays_94 : decode cX8_lays 94 = .ok (.bipush 64, 2) := by decide +kernel
theorem dX8_lays_96 : decode cX8_lays 96 = .ok (.iload 5, 2) := by decide +kernel
theorem dX8_lays_98 : decode cX8_lays 98 = .ok (.imul, 1) := by decide +kernel
theorem dX8_lays_99 : decode cX8_lays 99 = .ok (.iload 4, 2) := by decide +kernel
theorem dX8_lays_101 : decode cX8_lays 101 = .ok (.iadd, 1) := by decide +kernel
theorem dX8_lays_102 : decode cX8_lays 102 = .ok (.iload 7, 2) := by decide +kernel
theorem dX8_lays_104 : decode cX8_lays 104 = .ok (.iastore, 1) := by decide +kernel
theorem dX8_lays_105 : decode cX8_lays 105 = .ok (.iload_n 3, 1) := by decide +kernel
theorem dX8_lays_106 : decode cX8_lays 106 = .ok (.iload 4, 2) := by decide +kernel
theorem dX8_lays_108 : decode cX8_lays 108 = .ok (.iadd, 1) := by decide +kernel
theorem dX8_lays_109 : decode cX8_lays 109 = .ok (.iload 6, 2) := by decide +kernel
theorem dX8_lays_111 : decode cX8_lays 111 = .ok (.isub, 1) := by decide +kernel
theorem dX8_lays_112 : decode cX8_lays 112 = .ok (.istore 6, 2) := by decide +kernel
theorem dX8_lays_114 : decode cX8_lays 114 = .ok (.iload 9, 2) := by decide +kernel
theorem dX8_lays_116 : decode cX8_lays 116 = .ok (.istore 5, 2) := by decide +kernel
theorem dX8_lays_118 : decode cX8_lays 118 = .ok (.goto (-93), 3) := by decide +kernel
theorem dX8_lays_121 : decode cX8_lays 121 = .ok (.aload_n 0, 1) := by decide +kernel
theorem dX8_lays_122 : decode cX8_lays 122 = .ok (.getfield 65, 3) := by decide +kernel
theorem dX8_lays_125 : decode cX8_lays 125 = .ok (.bipush 64, 2) := by decide +kernel
theorem dX8_lays_127 : decode cX8_lays 127 = .ok (.iload_n 1, 1) := by decide +kernel
theorem dX8_lays_128 : decode cX8_lays 128 = .ok (.imul, 1) := by decide +kernel
theorem dX8_lays_129 : decode cX8_lays 129 = .ok (.iload_n 3, 1) := by decide +kernel
theorem dX8_lays_130 : decode cX8_lays 130 = .ok (.iadd, 1) := by decide +kernel
theorem dX8_lays_131 : decode cX8_lays 131 = .ok (.iload_n 2, 1) := by decide +kernel
theorem dX8_lays_132 : decode cX8_lays 132 = .ok (.iastore, 1) := by decide +kernel
theorem dX8_lays_133 : decode cX8_lays 133 = .ok (.aload_n 0, 1) := by decide +kernel
theorem dX8_lays_134 : decode cX8_lays 134 = .ok (.getfield 65, 3) := by decide +kernel
theorem dX8_lays_137 : decode cX8_lays 137 = .ok (.bipush 64, 2) := by decide +kernel
theorem dX8_lays_139 : decode cX8_lays 139 = .ok (.iload_n 2, 1) := by decide +kernel
theorem dX8_lays_140 : decode cX8_lays 140 = .ok (.imul, 1) := by decide +kernel
theorem dX8_lays_141 : decode cX8_lays 141 = .ok (.iload_n 3, 1) := by decide +kernel
theorem dX8_lays_142 : decode cX8_lays 142 = .ok (.iadd, 1) := by decide +kernel
theorem dX8_lays_143 : decode cX8_lays 143 = .ok (.iload_n 1, 1) := by decide +kernel
theorem dX8_lays_144 : decode cX8_lays 144 = .ok (.iastore, 1) := by decide +kernel
theorem dX8_lays_145 : decode cX8_lays 145 = .ok (.return_, 1) := by decide +kernel
theorem dX8_layAll_0 : decode cX8_layAll 0 = .ok (.iconst 0, 1) := by decide +kernel
theorem dX8_layAll_1 : decode cX8_layAll 1 = .ok (.istore_n 1, 1) := by decide +kernel
theorem dX8_layAll_2 : decode cX8_layAll 2 = .ok (.iload_n 1, 1) := by decide +kernel
theorem dX8_layAll_3 : decode cX8_layAll 3 = .ok (.sipush 1024, 3) := by decide +kernel
theorem dX8_layAll_6 : decode cX8_layAll 6 = .ok (.if_icmp .ge 17, 3) := by decide +kernel
theorem dX8_layAll_9 : decode cX8_layAll 9 = .ok (.aload_n 0, 1) := by decide +kernel
theorem dX8_layAll_10 : decode cX8_layAll 10 = .ok (.getfield 65, 3) := by decide +kernel
theorem dX8_layAll_13 : decode cX8_layAll 13 = .ok (.iload_n 1, 1) := by decide +kernel
theorem dX8_layAll_14 : decode cX8_layAll 14 = .ok (.bipush (-4), 2) := by decide +kernel
theorem dX8_layAll_16 : decode cX8_layAll 16 = .ok (.iastore, 1) := by decide +kernel
theorem dX8_layAll_17 : decode cX8_layAll 17 = .ok (.iinc 1 1, 3) := by decide +kernel
theorem dX8_layAll_20 : decode cX8_layAll 20 = .ok (.goto (-18), 3) := by decide +kernel
theorem dX8_layAll_23 : decode cX8_layAll 23 = .ok (.iconst 0, 1) := by decide +kernel
theorem dX8_layAll_24 : decode cX8_layAll 24 = .ok (.istore_n 1, 1) := by decide +kernel
theorem dX8_layAll_25 : decode cX8_layAll 25 = .ok (.iload_n 1, 1) := by decide +kernel
theorem dX8_layAll_26 : decode cX8_layAll 26 = .ok (.aload_n 0, 1) := by decide +kernel
theorem dX8_layAll_27 : decode cX8_layAll 27 = .ok (.getfield 80, 3) := by decide +kernel
theorem dX8_layAll_30 : decode cX8_layAll 30 = .ok (.if_icmp .ge 54, 3) := by decide +kernel
theorem dX8_layAll_33 : decode cX8_layAll 33 = .ok (.iconst 0, 1) := by decide +kernel
theorem dX8_layAll_34 : decode cX8_layAll 34 = .ok (.istore_n 2, 1) := by decide +kernel
theorem dX8_layAll_35 : decode cX8_layAll 35 = .ok (.iload_n 2, 1) := by decide +kernel
theorem dX8_layAll_36 : decode cX8_layAll 36 = .ok (.aload_n 0, 1) := by decide +kernel
theorem dX8_layAll_37 : decode cX8_layAll 37 = .ok (.getfield 80, 3) := by decide +kernel
theorem dX8_layAll_40 : decode cX8_layAll 40 = .ok (.if_icmp .ge 38, 3) := by decide +kernel
theorem dX8_layAll_43 : decode cX8_layAll 43 = .ok (.iconst 0, 1) := by decide +kernel
theorem dX8_layAll_44 : decode cX8_layAll 44 = .ok (.istore_n 3, 1) := by decide +kernel
theorem dX8_layAll_45 : decode cX8_layAll 45 = .ok (.iload_n 3, 1) := by decide +kernel
theorem dX8_layAll_46 : decode cX8_layAll 46 = .ok (.aload_n 0, 1) := by decide +kernel
theorem dX8_layAll_47 : decode cX8_layAll 47 = .ok (.getfield 26, 3) := by decide +kernel
theorem dX8_layAll_50 : decode cX8_layAll 50 = .ok (.bipush 16, 2) := by decide +kernel
theorem dX8_layAll_52 : decode cX8_layAll 52 = .ok (.iload_n 1, 1) := by decide +kernel
theorem dX8_layAll_53 : decode cX8_layAll 53 = .ok (.imul, 1) := by decide +kernel
theorem dX8_layAll_54 : decode cX8_layAll 54 = .ok (.iload_n 2, 1) := by decide +kernel
theorem dX8_layAll_55 : decode cX8_layAll 55 = .ok (.iadd, 1) := by decide +kernel
theorem dX8_layAll_56 : decode cX8_layAll 56 = .ok (.iaload, 1) := by decide +kernel
theorem dX8_layAll_57 : decode cX8_layAll 57 = .ok (.if_icmp .ge 15, 3) := by decide +kernel
theorem dX8_layAll_60 : decode cX8_layAll 60 = .ok (.aload_n 0, 1) := by decide +kernel
theorem dX8_layAll_61 : decode cX8_layAll 61 = .ok (.iload_n 1, 1) := by decide +kernel
theorem dX8_layAll_62 : decode cX8_layAll 62 = .ok (.iload_n 2, 1) := by decide +kernel
theorem dX8_layAll_63 : decode cX8_layAll 63 = .ok (.invokevirtual 223, 3) := by decide +kernel
theorem dX8_layAll_66 : decode cX8_layAll 66 = .ok (.iinc 3 1, 3) := by decide +kernel
theorem dX8_layAll_69 : decode cX8_layAll 69 = .ok (.goto (-24), 3) := by decide +kernel
theorem dX8_layAll_72 : decode cX8_layAll 72 = .ok (.iinc 2 1, 3) := by decide +kernel
theorem dX8_layAll_75 : decode cX8_layAll 75 = .ok (.goto (-40), 3) := by decide +kernel
theorem dX8_layAll_78 : decode cX8_layAll 78 = .ok (.iinc 1 1, 3) := by decide +kernel
theorem dX8_layAll_81 : decode cX8_layAll 81 = .ok (.goto (-56), 3) := by decide +kernel
theorem dX8_layAll_84 : decode cX8_layAll 84 = .ok (.return_, 1) := by decide +kernel
theorem dX8_laid_0 : decode cX8_laid 0 = .ok (.aload_n 0, 1) := by decide +kernel
theorem dX8_laid_1 : decode cX8_laid 1 = .ok (.iload_n 1, 1) := by decide +kernel
theorem dX8_laid_2 : decode cX8_laid 2 = .ok (.invokevirtual 84, 3) := by decide +kernel
theorem dX8_laid_5 : decode cX8_laid 5 = .ok (.ifCond .eq 15, 3) := by decide +kernel
theorem dX8_laid_8 : decode cX8_laid 8 = .ok (.iload_n 2, 1) := by decide +kernel
theorem dX8_laid_9 : decode cX8_laid 9 = .ok (.i2l, 1) := by decide +kernel
theorem dX8_laid_10 : decode cX8_laid 10 = .ok (.lconst 0, 1) := by decide +kernel
theorem dX8_laid_11 : decode cX8_laid 11 = .ok (.ldc2_w 226, 3) := by decide +kernel
theorem dX8_laid_14 : decode cX8_laid 14 = .ok (.invokestatic 76, 3) := by decide +kernel
theorem dX8_laid_17 : decode cX8_laid 17 = .ok (.ifCond .ne 5, 3) := by decide +kernel
theorem dX8_laid_20 : decode cX8_laid 20 = .ok (.iconst (-1), 1) := by decide +kernel
theorem dX8_laid_21 : decode cX8_laid 21 = .ok (.ireturn, 1) := by decide +kernel
theorem dX8_laid_22 : decode cX8_laid 22 = .ok (.aload_n 0, 1) := by decide +kernel
theorem dX8_laid_23 : decode cX8_laid 23 = .ok (.invokevirtual 228, 3) := by decide +kernel
theorem dX8_laid_26 : decode cX8_laid 26 = .ok (.aload_n 0, 1) := by decide +kernel
theorem dX8_laid_27 : decode cX8_laid 27 = .ok (.getfield 65, 3) := by decide +kernel
theorem dX8_laid_30 : decode cX8_laid 30 = .ok (.bipush 64, 2) := by decide +kernel
theorem dX8_laid_32 : decode cX8_laid 32 = .ok (.iload_n 1, 1) := by decide +kernel
theorem dX8_laid_33 : decode cX8_laid 33 = .ok (.imul, 1) := by decide +kernel
theorem dX8_laid_34 : decode cX8_laid 34 = .ok (.iload_n 2, 1) := by decide +kernel
theorem dX8_laid_35 : decode cX8_laid 35 = .ok (.iadd, 1) := by decide +kernel
theorem dX8_laid_36 : decode cX8_laid 36 = .ok (.iaload, 1) := by decide +kernel
theorem dX8_laid_37 : decode cX8_laid 37 = .ok (.ireturn, 1) := by decide +kernel
theorem dX8_quarrel_0 : decode cX8_quarrel 0 = .ok (.aload_n 0, 1) := by decide +kernel
theorem dX8_quarrel_1 : decode cX8_quarrel 1 = .ok (.getfield 68, 3) := by decide +kernel
theorem dX8_quarrel_4 : decode cX8_quarrel 4 = .ok (.iload_n 1, 1) := by decide +kernel
theorem dX8_quarrel_5 : decode cX8_quarrel 5 = .ok (.iaload, 1) := by decide +kernel
theorem dX8_quarrel_6 : decode cX8_quarrel 6 = .ok (.istore 4, 2) := by decide +kernel
theorem dX8_quarrel_8 : decode cX8_quarrel 8 = .ok (.aload_n 0, 1) := by decide +kernel
theorem dX8_quarrel_9 : decode cX8_quarrel 9 = .ok (.getfield 68, 3) := by decide +kernel
theorem dX8_quarrel_12 : decode cX8_quarrel 12 = .ok (.iload_n 2, 1) := by decide +kernel
theorem dX8_quarrel_13 : decode cX8_quarrel 13 = .ok (.iaload, 1) := by decide +kernel
theorem dX8_quarrel_14 : decode cX8_quarrel 14 = .ok (.istore 5, 2) := by decide +kernel
theorem dX8_quarrel_16 : decode cX8_quarrel 16 = .ok (.aload_n 0, 1) := by decide +kernel
theorem dX8_quarrel_17 : decode cX8_quarrel 17 = .ok (.iload 4, 2) := by decide +kernel
theorem dX8_quarrel_19 : decode cX8_quarrel 19 = .ok (.iload_n 3, 1) := by decide +kernel
theorem dX8_quarrel_20 : decode cX8_quarrel 20 = .ok (.invokevirtual 160, 3) := by decide +kernel
theorem dX8_quarrel_23 : decode cX8_quarrel 23 = .ok (.istore 6, 2) := by decide +kernel
theorem dX8_quarrel_25 : decode cX8_quarrel 25 = .ok (.aload_n 0, 1) := by decide +kernel
theorem dX8_quarrel_26 : decode cX8_quarrel 26 = .ok (.iload 5, 2) := by decide +kernel
theorem dX8_quarrel_28 : decode cX8_quarrel 28 = .ok (.iload_n 3, 1) := by decide +kernel
theorem dX8_quarrel_29 : decode cX8_quarrel 29 = .ok (.invokevirtual 160, 3) := by decide +kernel
theorem dX8_quarrel_32 : decode cX8_quarrel 32 = .ok (.istore 7, 2) := by decide +kernel
theorem dX8_quarrel_34 : decode cX8_quarrel 34 = .ok (.aload_n 0, 1) := by decide +kernel
theorem dX8_quarrel_35 : decode cX8_quarrel 35 = .ok (.getfield 23, 3) := by decide +kernel
theorem dX8_quarrel_38 : decode cX8_quarrel 38 = .ok (.bipush 16, 2) := by decide +kernel
theorem dX8_quarrel_40 : decode cX8_quarrel 40 = .ok (.iload 4, 2) := by decide +kernel
theorem dX8_quarrel_42 : decode cX8_quarrel 42 = .ok (.imul, 1) := by decide +kernel
theorem dX8_quarrel_43 : decode cX8_quarrel 43 = .ok (.iload 5, 2) := by decide +kernel
theorem dX8_quarrel_45 : decode cX8_quarrel 45 = .ok (.iadd, 1) := by decide +kernel
theorem dX8_quarrel_46 : decode cX8_quarrel 46 = .ok (.baload, 1) := by decide +kernel
theorem dX8_quarrel_47 : decode cX8_quarrel 47 = .ok (.ifCond .ne 51, 3) := by decide +kernel
theorem dX8_quarrel_50 : decode cX8_quarrel 50 = .ok (.aload_n 0, 1) := by decide +kernel
theorem dX8_quarrel_51 : decode cX8_quarrel 51 = .ok (.getfield 23, 3) := by decide +kernel
theorem dX8_quarrel_54 : decode cX8_quarrel 54 = .ok (.bipush 16, 2) := by decide +kernel
theorem dX8_quarrel_56 : decode cX8_quarrel 56 = .ok (.iload 4, 2) := by decide +kernel
theorem dX8_quarrel_58 : decode cX8_quarrel 58 = .ok (.imul, 1) := by decide +kernel
theorem dX8_quarrel_59 : decode cX8_quarrel 59 = .ok (.iload 7, 2) := by decide +kernel
theorem dX8_quarrel_61 : decode cX8_quarrel 61 = .ok (.iadd, 1) := by decide +kernel
theorem dX8_quarrel_62 : decode cX8_quarrel 62 = .ok (.baload, 1) := by decide +kernel
theorem dX8_quarrel_63 : decode cX8_quarrel 63 = .ok (.ifCond .ne 35, 3) := by decide +kernel
theorem dX8_quarrel_66 : decode cX8_quarrel 66 = .ok (.aload_n 0, 1) := by decide +kernel
theorem dX8_quarrel_67 : decode cX8_quarrel 67 = .ok (.getfield 23, 3) := by decide +kernel
theorem dX8_quarrel_70 : decode cX8_quarrel 70 = .ok (.bipush 16, 2) := by decide +kernel
theorem dX8_quarrel_72 : decode cX8_quarrel 72 = .ok (.iload 6, 2) := by decide +kernel
theorem dX8_quarrel_74 : decode cX8_quarrel 74 = .ok (.imul, 1) := by decide +kernel
theorem dX8_quarrel_75 : decode cX8_quarrel 75 = .ok (.iload 5, 2) := by decide +kernel
theorem dX8_quarrel_77 : decode cX8_quarrel 77 = .ok (.iadd, 1) := by decide +kernel
theorem dX8_quarrel_78 : decode cX8_quarrel 78 = .ok (.baload, 1) := by decide +kernel
theorem dX8_quarrel_79 : decode cX8_quarrel 79 = .ok (.ifCond .ne 19, 3) := by decide +kernel
theorem dX8_quarrel_82 : decode cX8_quarrel 82 = .ok (.aload_n 0, 1) := by decide +kernel
theorem dX8_quarrel_83 : decode cX8_quarrel 83 = .ok (.getfield 23, 3) := by decide +kernel
theorem dX8_quarrel_86 : decode cX8_quarrel 86 = .ok (.bipush 16, 2) := by decide +kernel
theorem dX8_quarrel_88 : decode cX8_quarrel 88 = .ok (.iload 6, 2) := by decide +kernel
theorem dX8_quarrel_90 : decode cX8_quarrel 90 = .ok (.imul, 1) := by decide +kernel
theorem dX8_quarrel_91 : decode cX8_quarrel 91 = .ok (.iload 7, 2) := by decide +kernel
theorem dX8_quarrel_93 : decode cX8_quarrel 93 = .ok (.iadd, 1) := by decide +kernel
theorem dX8_quarrel_94 : decode cX8_quarrel 94 = .ok (.baload, 1) := by decide +kernel
theorem dX8_quarrel_95 : decode cX8_quarrel 95 = .ok (.ifCond .eq 7, 3) := by decide +kernel
theorem dX8_quarrel_98 : decode cX8_quarrel 98 = .ok (.iconst 1, 1) := by decide +kernel
theorem dX8_quarrel_99 : decode cX8_quarrel 99 = .ok (.goto 4, 3) := by decide +kernel
theorem dX8_quarrel_102 : decode cX8_quarrel 102 = .ok (.iconst 0, 1) := by decide +kernel
theorem dX8_quarrel_103 : decode cX8_quarrel 103 = .ok (.ireturn, 1) := by decide +kernel
theorem dX8_mayStand_0 : decode cX8_mayStand 0 = .ok (.iconst 0, 1) := by decide +kernel
theorem dX8_mayStand_1 : decode cX8_mayStand 1 = .ok (.istore_n 3, 1) := by decide +kernel
theorem dX8_mayStand_2 : decode cX8_mayStand 2 = .ok (.iconst 1, 1) := by decide +kernel
theorem dX8_mayStand_3 : decode cX8_mayStand 3 = .ok (.istore 4, 2) := by decide +kernel
theorem dX8_mayStand_5 : decode cX8_mayStand 5 = .ok (.iconst 0, 1) := by decide +kernel
theorem dX8_mayStand_6 : decode cX8_mayStand 6 = .ok (.istore 5, 2) := by decide +kernel
theorem dX8_mayStand_8 : decode cX8_mayStand 8 = .ok (.iload 5, 2) := by decide +kernel
theorem dX8_mayStand_10 : decode cX8_mayStand 10 = .ok (.iload_n 1, 1) := by decide +kernel
theorem dX8_mayStand_11 : decode cX8_mayStand 11 = .ok (.if_icmp .ge 51, 3) := by decide +kernel
theorem dX8_mayStand_14 : decode cX8_mayStand 14 = .ok (.aload_n 0, 1) := by decide +kernel
theorem dX8_mayStand_15 : decode cX8_mayStand 15 = .ok (.getfield 71, 3) := by decide +kernel
theorem dX8_mayStand_18 : decode cX8_mayStand 18 = .ok (.iload 5, 2) := by decide +kernel
theorem dX8_mayStand_20 : decode cX8_mayStand 20 = .ok (.iaload, 1) := by decide +kernel
theorem dX8_mayStand_21 : decode cX8_mayStand 21 = .ok (.aload_n 0, 1) := by decide +kernel
theorem dX8_mayStand_22 : decode cX8_mayStand 22 = .ok (.getfield 71, 3) := by decide +kernel
theorem dX8_mayStand_25 : decode cX8_mayStand 25 = .ok (.iload_n 1, 1) := by decide +kernel
theorem dX8_mayStand_26 : decode cX8_mayStand 26 = .ok (.iaload, 1) := by decide +kernel
theorem dX8_mayStand_27 : decode cX8_mayStand 27 = .ok (.if_icmp .ne 29, 3) := by decide +kernel
theorem dX8_mayStand_30 : decode cX8_mayStand 30 = .ok (.iinc 3 1, 3) := by decide +kernel
theorem dX8_mayStand_33 : decode cX8_mayStand 33 = .ok (.iload 4, 2) := by decide +kernel
theorem dX8_mayStand_35 : decode cX8_mayStand 35 = .ok (.ifCond .eq 18, 3) := by decide +kernel
theorem dX8_mayStand_38 : decode cX8_mayStand 38 = .ok (.aload_n 0, 1) := by decide +kernel
theorem dX8_mayStand_39 : decode cX8_mayStand 39 = .ok (.iload 5, 2) := by decide +kernel
theorem dX8_mayStand_41 : decode cX8_mayStand 41 = .ok (.iload_n 1, 1) := by decide +kernel
theorem dX8_mayStand_42 : decode cX8_mayStand 42 = .ok (.iload_n 2, 1) := by decide +kernel
theorem dX8_mayStand_43 : decode cX8_mayStand 43 = .ok (.invokevirtual 231, 3) := by decide +kernel
theorem dX8_mayStand_46 : decode cX8_mayStand 46 = .ok (.ifCond .ne 7, 3) := by decide +kernel
theorem dX8_mayStand_49 : decode cX8_mayStand 49 = .ok (.iconst 1, 1) := by decide +kernel
theorem dX8_mayStand_50 : decode cX8_mayStand 50 = .ok (.goto 4, 3) := by decide +kernel
theorem dX8_mayStand_53 : decode cX8_mayStand 53 = .ok (.iconst 0, 1) := by decide +kernel
theorem dX8_mayStand_54 : decode cX8_mayStand 54 = .ok (.istore 4, 2) := by decide +kernel
theorem dX8_mayStand_56 : decode cX8_mayStand 56 = .ok (.iinc 5 1, 3) := by decide +kernel
theorem dX8_mayStand_59 : decode cX8_mayStand 59 = .ok (.goto (-51), 3) := by decide +kernel
theorem dX8_mayStand_62 : decode cX8_mayStand 62 = .ok (.iload 4, 2) := by decide +kernel
theorem dX8_mayStand_64 : decode cX8_mayStand 64 = .ok (.ifCond .eq 12, 3) := by decide +kernel
theorem dX8_mayStand_67 : decode cX8_mayStand 67 = .ok (.iload_n 3, 1) := by decide +kernel
theorem dX8_mayStand_68 : decode cX8_mayStand 68 = .ok (.iconst 4, 1) := by decide +kernel
theorem dX8_mayStand_69 : decode cX8_mayStand 69 = .ok (.if_icmp .ge 7, 3) := by decide +kernel
theorem dX8_mayStand_72 : decode cX8_mayStand 72 = .ok (.iconst 1, 1) := by decide +kernel
theorem dX8_mayStand_73 : decode cX8_mayStand 73 = .ok (.goto 4, 3) := by decide +kernel
theorem dX8_mayStand_76 : decode cX8_mayStand 76 = .ok (.iconst 0, 1) := by decide +kernel
theorem dX8_mayStand_77 : decode cX8_mayStand 77 = .ok (.ireturn, 1) := by decide +kernel
theorem dX8_stand_0 : decode cX8_stand 0 = .ok (.iconst 0, 1) := by decide +kernel
theorem dX8_stand_1 : decode cX8_stand 1 = .ok (.istore_n 3, 1) := by decide +kernel
theorem dX8_stand_2 : decode cX8_stand 2 = .ok (.aload_n 0, 1) := by decide +kernel
theorem dX8_stand_3 : decode cX8_stand 3 = .ok (.getfield 71, 3) := by decide +kernel
theorem dX8_stand_6 : decode cX8_stand 6 = .ok (.iconst 0, 1) := by decide +kernel
theorem dX8_stand_7 : decode cX8_stand 7 = .ok (.iconst (-1), 1) := by decide +kernel
theorem dX8_stand_8 : decode cX8_stand 8 = .ok (.iastore, 1) := by decide +kernel
theorem dX8_stand_9 : decode cX8_stand 9 = .ok (.iload_n 3, 1) := by decide +kernel
theorem dX8_stand_10 : decode cX8_stand 10 = .ok (.ifCond .lt 59, 3) := by decide +kernel
theorem dX8_stand_13 : decode cX8_stand 13 = .ok (.iload_n 3, 1) := by decide +kernel
theorem dX8_stand_14 : decode cX8_stand 14 = .ok (.aload_n 0, 1) := by decide +kernel
theorem dX8_stand_15 : decode cX8_stand 15 = .ok (.getfield 234, 3) := by decide +kernel
theorem dX8_stand_18 : decode cX8_stand 18 = .ok (.if_icmp .ge 51, 3) := by decide +kernel
theorem dX8_stand_21 : decode cX8_stand 21 = .ok (.aload_n 0, 1) := by decide +kernel
theorem dX8_stand_22 : decode cX8_stand 22 = .ok (.getfield 71, 3) := by decide +kernel
theorem dX8_stand_25 : decode cX8_stand 25 = .ok (.iload_n 3, 1) := by decide +kernel
theorem dX8_stand_26 : decode cX8_stand 26 = .ok (.dup2, 1) := by decide +kernel
theorem dX8_stand_27 : decode cX8_stand 27 = .ok (.iaload, 1) := by decide +kernel
theorem dX8_stand_28 : decode cX8_stand 28 = .ok (.iconst 1, 1) := by decide +kernel
theorem dX8_stand_29 : decode cX8_stand 29 = .ok (.iadd, 1) := by decide +kernel
theorem dX8_stand_30 : decode cX8_stand 30 = .ok (.iastore, 1) := by decide +kernel
theorem dX8_stand_31 : decode cX8_stand 31 = .ok (.aload_n 0, 1) := by decide +kernel
theorem dX8_stand_32 : decode cX8_stand 32 = .ok (.getfield 71, 3) := by decide +kernel
theorem dX8_stand_35 : decode cX8_stand 35 = .ok (.iload_n 3, 1) := by decide +kernel
theorem dX8_stand_36 : decode cX8_stand 36 = .ok (.iaload, 1) := by decide +kernel
theorem dX8_stand_37 : decode cX8_stand 37 = .ok (.iload_n 1, 1) := by decide +kernel
theorem dX8_stand_38 : decode cX8_stand 38 = .ok (.if_icmp .ne 9, 3) := by decide +kernel
theorem dX8_stand_41 : decode cX8_stand 41 = .ok (.iinc 3 (-1), 3) := by decide +kernel
theorem dX8_stand_44 : decode cX8_stand 44 = .ok (.goto (-35), 3) := by decide +kernel
theorem dX8_stand_47 : decode cX8_stand 47 = .ok (.aload_n 0, 1) := by decide +kernel
theorem dX8_stand_48 : decode cX8_stand 48 = .ok (.iload_n 3, 1) := by decide +kernel
theorem dX8_stand_49 : decode cX8_stand 49 = .ok (.iload_n 2, 1) := by decide +kernel
theorem dX8_stand_50 : decode cX8_stand 50 = .ok (.invokevirtual 237, 3) := by decide +kernel
theorem dX8_stand_53 : decode cX8_stand 53 = .ok (.ifCond .eq (-44), 3) := by decide +kernel
theorem dX8_stand_56 : decode cX8_stand 56 = .ok (.iinc 3 1, 3) := by decide +kernel
theorem dX8_stand_59 : decode cX8_stand 59 = .ok (.aload_n 0, 1) := by decide +kernel
theorem dX8_stand_60 : decode cX8_stand 60 = .ok (.getfield 71, 3) := by decide +kernel
theorem dX8_stand_63 : decode cX8_stand 63 = .ok (.iload_n 3, 1) := by decide +kernel
theorem dX8_stand_64 : decode cX8_stand 64 = .ok (.iconst (-1), 1) := by decide +kernel
theorem dX8_stand_65 : decode cX8_stand 65 = .ok (.iastore, 1) := by decide +kernel
theorem dX8_stand_66 : decode cX8_stand 66 = .ok (.goto (-57), 3) := by decide +kernel
theorem dX8_stand_69 : decode cX8_stand 69 = .ok (.iload_n 3, 1) := by decide +kernel
theorem dX8_stand_70 : decode cX8_stand 70 = .ok (.aload_n 0, 1) := by decide +kernel
theorem dX8_stand_71 : decode cX8_stand 71 = .ok (.getfield 234, 3) := by decide +kernel
theorem dX8_stand_74 : decode cX8_stand 74 = .ok (.if_icmp .ne 7, 3) := by decide +kernel
theorem dX8_stand_77 : decode cX8_stand 77 = .ok (.iconst 1, 1) := by decide +kernel
theorem dX8_stand_78 : decode cX8_stand 78 = .ok (.goto 4, 3) := by decide +kernel
theorem dX8_stand_81 : decode cX8_stand 81 = .ok (.iconst 0, 1) := by decide +kernel
theorem dX8_stand_82 : decode cX8_stand 82 = .ok (.ireturn, 1) := by decide +kernel
theorem dX8_laySets_0 : decode cX8_laySets 0 = .ok (.aload_n 0, 1) := by decide +kernel
theorem dX8_laySets_1 : decode cX8_laySets 1 = .ok (.iconst 0, 1) := by decide +kernel
theorem dX8_laySets_2 : decode cX8_laySets 2 = .ok (.putfield 234, 3) := by decide +kernel
theorem dX8_laySets_5 : decode cX8_laySets 5 = .ok (.iconst 0, 1) := by decide +kernel
theorem dX8_laySets_6 : decode cX8_laySets 6 = .ok (.istore_n 2, 1) := by decide +kernel
theorem dX8_laySets_7 : decode cX8_laySets 7 = .ok (.iload_n 2, 1) := by decide +kernel
theorem dX8_laySets_8 : decode cX8_laySets 8 = .ok (.aload_n 0, 1) := by decide +kernel
theorem dX8_laySets_9 : decode cX8_laySets 9 = .ok (.getfield 80, 3) := by decide +kernel
theorem dX8_laySets_12 : decode cX8_laySets 12 = .ok (.if_icmp .ge 47, 3) := by decide +kernel
theorem dX8_laySets_15 : decode cX8_laySets 15 = .ok (.aload_n 0, 1) := by decide +kernel
theorem dX8_laySets_16 : decode cX8_laySets 16 = .ok (.getfield 7, 3) := by decide +kernel
theorem dX8_laySets_19 : decode cX8_laySets 19 = .ok (.iload_n 2, 1) := by decide +kernel
theorem dX8_laySets_20 : decode cX8_laySets 20 = .ok (.baload, 1) := by decide +kernel
theorem dX8_laySets_21 : decode cX8_laySets 21 = .ok (.ifCond .eq 32, 3) := by decide +kernel
theorem dX8_laySets_24 : decode cX8_laySets 24 = .ok (.aload_n 0, 1) := by decide +kernel
theorem dX8_laySets_25 : decode cX8_laySets 25 = .ok (.iload_n 2, 1) := by decide +kernel
theorem dX8_laySets_26 : decode cX8_laySets 26 = .ok (.iload_n 1, 1) := by decide +kernel
theorem dX8_laySets_27 : decode cX8_laySets 27 = .ok (.invokevirtual 160, 3) := by decide +kernel
theorem dX8_laySets_30 : decode cX8_laySets 30 = .ok (.ifCond .lt 23, 3) := by decide +kernel
theorem dX8_laySets_33 : decode cX8_laySets 33 = .ok (.aload_n 0, 1) := by decide +kernel
theorem dX8_laySets_34 : decode cX8_laySets 34 = .ok (.getfield 68, 3) := by decide +kernel
theorem dX8_laySets_37 : decode cX8_laySets 37 = .ok (.aload_n 0, 1) := by decide +kernel
theorem dX8_laySets_38 : decode cX8_laySets 38 = .ok (.getfield 234, 3) := by decide +kernel
theorem dX8_laySets_41 : decode cX8_laySets 41 = .ok (.iload_n 2, 1) := by decide +kernel
theorem dX8_laySets_42 : decode cX8_laySets 42 = .ok (.iastore, 1) := by decide +kernel
theorem dX8_laySets_43 : decode cX8_laySets 43 = .ok (.aload_n 0, 1) := by decide +kernel
theorem dX8_laySets_44 : decode cX8_laySets 44 = .ok (.dup, 1) := by decide +kernel
theorem dX8_laySets_45 : decode cX8_laySets 45 = .ok (.getfield 234, 3) := by decide +kernel
theorem dX8_laySets_48 : decode cX8_laySets 48 = .ok (.iconst 1, 1) := by decide +kernel
theorem dX8_laySets_49 : decode cX8_laySets 49 = .ok (.iadd, 1) := by decide +kernel
theorem dX8_laySets_50 : decode cX8_laySets 50 = .ok (.putfield 234, 3) := by decide +kernel
theorem dX8_laySets_53 : decode cX8_laySets 53 = .ok (.iinc 2 1, 3) := by decide +kernel
theorem dX8_laySets_56 : decode cX8_laySets 56 = .ok (.goto (-49), 3) := by decide +kernel
theorem dX8_laySets_59 : decode cX8_laySets 59 = .ok (.aload_n 0, 1) := by decide +kernel
theorem dX8_laySets_60 : decode cX8_laySets 60 = .ok (.iconst 0, 1) := by decide +kernel
theorem dX8_laySets_61 : decode cX8_laySets 61 = .ok (.putfield 240, 3) := by decide +kernel
theorem dX8_laySets_64 : decode cX8_laySets 64 = .ok (.aload_n 0, 1) := by decide +kernel
theorem dX8_laySets_65 : decode cX8_laySets 65 = .ok (.getfield 234, 3) := by decide +kernel
theorem dX8_laySets_68 : decode cX8_laySets 68 = .ok (.ifCond .le 35, 3) := by decide +kernel
theorem dX8_laySets_71 : decode cX8_laySets 71 = .ok (.aload_n 0, 1) := by decide +kernel
theorem dX8_laySets_72 : decode cX8_laySets 72 = .ok (.getfield 240, 3) := by decide +kernel
theorem dX8_laySets_75 : decode cX8_laySets 75 = .ok (.ifCond .eq 15, 3) := by decide +kernel
theorem dX8_laySets_78 : decode cX8_laySets 78 = .ok (.aload_n 0, 1) := by decide +kernel
theorem dX8_laySets_79 : decode cX8_laySets 79 = .ok (.aload_n 0, 1) := by decide +kernel
theorem dX8_laySets_80 : decode cX8_laySets 80 = .ok (.getfield 240, 3) := by decide +kernel
theorem dX8_laySets_83 : decode cX8_laySets 83 = .ok (.iload_n 1, 1) := by decide +kernel
theorem dX8_laySets_84 : decode cX8_laySets 84 = .ok (.invokevirtual 243, 3) := by decide +kernel
theorem dX8_laySets_87 : decode cX8_laySets 87 = .ok (.ifCond .ne 16, 3) := by decide +kernel
theorem dX8_laySets_90 : decode cX8_laySets 90 = .ok (.aload_n 0, 1) := by decide +kernel
theorem dX8_laySets_91 : decode cX8_laySets 91 = .ok (.dup, 1) := by decide +kernel
theorem dX8_laySets_92 : decode cX8_laySets 92 = .ok (.getfield 240, 3) := by decide +kernel
theorem dX8_laySets_95 : decode cX8_laySets 95 = .ok (.iconst 1, 1) := by decide +kernel
theorem dX8_laySets_96 : decode cX8_laySets 96 = .ok (.iadd, 1) := by decide +kernel
theorem dX8_laySets_97 : decode cX8_laySets 97 = .ok (.putfield 240, 3) := by decide +kernel
theorem dX8_laySets_100 : decode cX8_laySets 100 = .ok (.goto (-36), 3) := by decide +kernel
theorem dX8_laySets_103 : decode cX8_laySets 103 = .ok (.return_, 1) := by decide +kernel
theorem dX8_sets_0 : decode cX8_sets 0 = .ok (.iload_n 1, 1) := by decide +kernel
theorem dX8_sets_1 : decode cX8_sets 1 = .ok (.i2l, 1) := by decide +kernel
theorem dX8_sets_2 : decode cX8_sets 2 = .ok (.lconst 0, 1) := by decide +kernel
theorem dX8_sets_3 : decode cX8_sets 3 = .ok (.ldc2_w 158, 3) := by decide +kernel
theorem dX8_sets_6 : decode cX8_sets 6 = .ok (.invokestatic 76, 3) := by decide +kernel
theorem dX8_sets_9 : decode cX8_sets 9 = .ok (.ifCond .ne 5, 3) := by decide +kernel
theorem dX8_sets_12 : decode cX8_sets 12 = .ok (.iconst (-1), 1) := by decide +kernel
theorem dX8_sets_13 : decode cX8_sets 13 = .ok (.ireturn, 1) := by decide +kernel
theorem dX8_sets_14 : decode cX8_sets 14 = .ok (.aload_n 0, 1) := by decide +kernel
theorem dX8_sets_15 : decode cX8_sets 15 = .ok (.iload_n 1, 1) := by decide +kernel
theorem dX8_sets_16 : decode cX8_sets 16 = .ok (.invokevirtual 246, 3) := by decide +kernel
theorem dX8_sets_19 : decode cX8_sets 19 = .ok (.aload_n 0, 1) := by decide +kernel
theorem dX8_sets_20 : decode cX8_sets 20 = .ok (.getfield 240, 3) := by decide +kernel
theorem dX8_sets_23 : decode cX8_sets 23 = .ok (.ireturn, 1) := by decide +kernel
theorem dX8_set_0 : decode cX8_set 0 = .ok (.aload_n 0, 1) := by decide +kernel
theorem dX8_set_1 : decode cX8_set 1 = .ok (.iload_n 1, 1) := by decide +kernel
theorem dX8_set_2 : decode cX8_set 2 = .ok (.invokevirtual 84, 3) := by decide +kernel
theorem dX8_set_5 : decode cX8_set 5 = .ok (.ifCond .eq 15, 3) := by decide +kernel
theorem dX8_set_8 : decode cX8_set 8 = .ok (.iload_n 2, 1) := by decide +kernel
theorem dX8_set_9 : decode cX8_set 9 = .ok (.i2l, 1) := by decide +kernel
theorem dX8_set_10 : decode cX8_set 10 = .ok (.lconst 0, 1) := by decide +kernel
theorem dX8_set_11 : decode cX8_set 11 = .ok (.ldc2_w 158, 3) := by decide +kernel
theorem dX8_set_14 : decode cX8_set 14 = .ok (.invokestatic 76, 3) := by decide +kernel
theorem dX8_set_17 : decode cX8_set 17 = .ok (.ifCond .ne 5, 3) := by decide +kernel
theorem dX8_set_20 : decode cX8_set 20 = .ok (.iconst (-1), 1) := by decide +kernel
theorem dX8_set_21 : decode cX8_set 21 = .ok (.ireturn, 1) := by decide +kernel
theorem dX8_set_22 : decode cX8_set 22 = .ok (.aload_n 0, 1) := by decide +kernel
theorem dX8_set_23 : decode cX8_set 23 = .ok (.iload_n 2, 1) := by decide +kernel
theorem dX8_set_24 : decode cX8_set 24 = .ok (.invokevirtual 246, 3) := by decide +kernel
theorem dX8_set_27 : decode cX8_set 27 = .ok (.iconst 0, 1) := by decide +kernel
theorem dX8_set_28 : decode cX8_set 28 = .ok (.istore_n 3, 1) := by decide +kernel
theorem dX8_set_29 : decode cX8_set 29 = .ok (.iload_n 3, 1) := by decide +kernel
theorem dX8_set_30 : decode cX8_set 30 = .ok (.aload_n 0, 1) := by decide +kernel
theorem dX8_set_31 : decode cX8_set 31 = .ok (.getfield 234, 3) := by decide +kernel
theorem dX8_set_34 : decode cX8_set 34 = .ok (.if_icmp .ge 41, 3) := by decide +kernel
theorem dX8_set_37 : decode cX8_set 37 = .ok (.aload_n 0, 1) := by decide +kernel
theorem dX8_set_38 : decode cX8_set 38 = .ok (.getfield 68, 3) := by decide +kernel
theorem dX8_set_41 : decode cX8_set 41 = .ok (.iload_n 3, 1) := by decide +kernel
theorem dX8_set_42 : decode cX8_set 42 = .ok (.iaload, 1) := by decide +kernel
theorem dX8_set_43 : decode cX8_set 43 = .ok (.iload_n 1, 1) := by decide +kernel
theorem dX8_set_44 : decode cX8_set 44 = .ok (.if_icmp .eq 18, 3) := by decide +kernel
theorem dX8_set_47 : decode cX8_set 47 = .ok (.aload_n 0, 1) := by decide +kernel
theorem dX8_set_48 : decode cX8_set 48 = .ok (.aload_n 0, 1) := by decide +kernel
theorem dX8_set_49 : decode cX8_set 49 = .ok (.getfield 68, 3) := by decide +kernel
theorem dX8_set_52 : decode cX8_set 52 = .ok (.iload_n 3, 1) := by decide +kernel
theorem dX8_set_53 : decode cX8_set 53 = .ok (.iaload, 1) := by decide +kernel
theorem dX8_set_54 : decode cX8_set 54 = .ok (.iload_n 2, 1) := by decide +kernel
theorem dX8_set_55 : decode cX8_set 55 = .ok (.invokevirtual 160, 3) := by decide +kernel
theorem dX8_set_58 : decode cX8_set 58 = .ok (.iload_n 1, 1) := by decide +kernel
theorem dX8_set_59 : decode cX8_set 59 = .ok (.if_icmp .ne 10, 3) := by decide +kernel
theorem dX8_set_62 : decode cX8_set 62 = .ok (.aload_n 0, 1) := by decide +kernel
theorem dX8_set_63 : decode cX8_set 63 = .ok (.getfield 71, 3) := by decide +kernel
theorem dX8_set_66 : decode cX8_set 66 = .ok (.iload_n 3, 1) := by decide +kernel
theorem dX8_set_67 : decode cX8_set 67 = .ok (.iaload, 1) := by decide +kernel
theorem dX8_set_68 : decode cX8_set 68 = .ok (.ireturn, 1) := by decide +kernel
theorem dX8_set_69 : decode cX8_set 69 = .ok (.iinc 3 1, 3) := by decide +kernel
theorem dX8_set_72 : decode cX8_set 72 = .ok (.goto (-43), 3) := by decide +kernel
theorem dX8_set_75 : decode cX8_set 75 = .ok (.bipush (-4), 2) := by decide +kernel
theorem dX8_set_77 : decode cX8_set 77 = .ok (.ireturn, 1) := by decide +kernel
theorem dX8_count_0 : decode cX8_count 0 = .ok (.iconst 0, 1) := by decide +kernel
theorem dX8_count_1 : decode cX8_count 1 = .ok (.istore_n 2, 1) := by decide +kernel
theorem dX8_count_2 : decode cX8_count 2 = .ok (.iload_n 1, 1) := by decide +kernel
theorem dX8_count_3 : decode cX8_count 3 = .ok (.tableswitch 258 0 7 #[45, 50, 85, 125, 159, 194, 230, 253], 45) := by decide +kernel
theorem dX8_count_48 : decode cX8_count 48 = .ok (.aload_n 0, 1) := by decide +kernel
theorem dX8_count_49 : decode cX8_count 49 = .ok (.getfield 80, 3) := by decide +kernel
theorem dX8_count_52 : decode cX8_count 52 = .ok (.ireturn, 1) := by decide +kernel
theorem dX8_count_53 : decode cX8_count 53 = .ok (.iconst 0, 1) := by decide +kernel
theorem dX8_count_54 : decode cX8_count 54 = .ok (.istore_n 3, 1) := by decide +kernel
theorem dX8_count_55 : decode cX8_count 55 = .ok (.iload_n 3, 1) := by decide +kernel
theorem dX8_count_56 : decode cX8_count 56 = .ok (.aload_n 0, 1) := by decide +kernel
theorem dX8_count_57 : decode cX8_count 57 = .ok (.getfield 80, 3) := by decide +kernel
theorem dX8_count_60 : decode cX8_count 60 = .ok (.if_icmp .ge 26, 3) := by decide +kernel
theorem dX8_count_63 : decode cX8_count 63 = .ok (.iload_n 2, 1) := by decide +kernel
theorem dX8_count_64 : decode cX8_count 64 = .ok (.aload_n 0, 1) := by decide +kernel
theorem dX8_count_65 : decode cX8_count 65 = .ok (.getfield 7, 3) := by decide +kernel
theorem dX8_count_68 : decode cX8_count 68 = .ok (.iload_n 3, 1) := by decide +kernel
theorem dX8_count_69 : decode cX8_count 69 = .ok (.baload, 1) := by decide +kernel
theorem dX8_count_70 : decode cX8_count 70 = .ok (.ifCond .eq 7, 3) := by decide +kernel
theorem dX8_count_73 : decode cX8_count 73 = .ok (.iconst 1, 1) := by decide +kernel
theorem dX8_count_74 : decode cX8_count 74 = .ok (.goto 4, 3) := by decide +kernel
theorem dX8_count_77 : decode cX8_count 77 = .ok (.iconst 0, 1) := by decide +kernel
theorem dX8_count_78 : decode cX8_count 78 = .ok (.iadd, 1) := by decide +kernel
theorem dX8_count_79 : decode cX8_count 79 = .ok (.istore_n 2, 1) := by decide +kernel
theorem dX8_count_80 : decode cX8_count 80 = .ok (.iinc 3 1, 3) := by decide +kernel
theorem dX8_count_83 : decode cX8_count 83 = .ok (.goto (-28), 3) := by decide +kernel
theorem dX8_count_86 : decode cX8_count 86 = .ok (.iload_n 2, 1) := by decide +kernel
theorem dX8_count_87 : decode cX8_count 87 = .ok (.ireturn, 1) := by decide +kernel
theorem dX8_count_88 : decode cX8_count 88 = .ok (.iconst 0, 1) := by decide +kernel
theorem dX8_count_89 : decode cX8_count 89 = .ok (.istore_n 3, 1) := by decide +kernel
theorem dX8_count_90 : decode cX8_count 90 = .ok (.iload_n 3, 1) := by decide +kernel
theorem dX8_count_91 : decode cX8_count 91 = .ok (.bipush 24, 2) := by decide +kernel
theorem dX8_count_93 : decode cX8_count 93 = .ok (.aload_n 0, 1) := by decide +kernel
theorem dX8_count_94 : decode cX8_count 94 = .ok (.getfield 80, 3) := by decide +kernel
theorem dX8_count_97 : decode cX8_count 97 = .ok (.imul, 1) := by decide +kernel
theorem dX8_count_98 : decode cX8_count 98 = .ok (.if_icmp .ge 26, 3) := by decide +kernel
theorem dX8_count_101 : decode cX8_count 101 = .ok (.iload_n 2, 1) := by decide +kernel
theorem dX8_count_102 : decode cX8_count 102 = .ok (.aload_n 0, 1) := by decide +kernel
theorem dX8_count_103 : decode cX8_count 103 = .ok (.getfield 29, 3) := by decide +kernel
theorem dX8_count_106 : decode cX8_count 106 = .ok (.iload_n 3, 1) := by decide +kernel
theorem dX8_count_107 : decode cX8_count 107 = .ok (.iaload, 1) := by decide +kernel
theorem dX8_count_108 : decode cX8_count 108 = .ok (.ifCond .lt 7, 3) := by decide +kernel
theorem dX8_count_111 : decode cX8_count 111 = .ok (.iconst 1, 1) := by decide +kernel
theorem dX8_count_112 : decode cX8_count 112 = .ok (.goto 4, 3) := by decide +kernel
theorem dX8_count_115 : decode cX8_count 115 = .ok (.iconst 0, 1) := by decide +kernel
theorem dX8_count_116 : decode cX8_count 116 = .ok (.iadd, 1) := by decide +kernel
theorem dX8_count_117 : decode cX8_count 117 = .ok (.istore_n 2, 1) := by decide +kernel
theorem dX8_count_118 : decode cX8_count 118 = .ok (.iinc 3 1, 3) := by decide +kernel
theorem dX8_count_121 : decode cX8_count 121 = .ok (.goto (-31), 3) := by decide +kernel
theorem dX8_count_124 : decode cX8_count 124 = .ok (.iload_n 2, 1) := by decide +kernel
theorem dX8_count_125 : decode cX8_count 125 = .ok (.iconst 2, 1) := by decide +kernel
theorem dX8_count_126 : decode cX8_count 126 = .ok (.idiv, 1) := by decide +kernel
theorem dX8_count_127 : decode cX8_count 127 = .ok (.ireturn, 1) := by decide +kernel
theorem dX8_count_128 : decode cX8_count 128 = .ok (.iconst 0, 1) := by decide +kernel
theorem dX8_count_129 : decode cX8_count 129 = .ok (.istore_n 3, 1) := by decide +kernel
theorem dX8_count_130 : decode cX8_count 130 = .ok (.iload_n 3, 1) := by decide +kernel
theorem dX8_count_131 : decode cX8_count 131 = .ok (.iconst 4, 1) := by decide +kernel
theorem dX8_count_132 : decode cX8_count 132 = .ok (.if_icmp .ge 28, 3) := by decide +kernel
theorem dX8_count_135 : decode cX8_count 135 = .ok (.iload_n 2, 1) := by decide +kernel
theorem dX8_count_136 : decode cX8_count 136 = .ok (.aload_n 0, 1) := by decide +kernel
theorem dX8_count_137 : decode cX8_count 137 = .ok (.getfield 35, 3) := by decide +kernel
theorem dX8_count_140 : decode cX8_count 140 = .ok (.iload_n 3, 1) := by decide +kernel
theorem dX8_count_141 : decode cX8_count 141 = .ok (.iaload, 1) := by decide +kernel
theorem dX8_count_142 : decode cX8_count 142 = .ok (.bipush (-4), 2) := by decide +kernel
theorem dX8_count_144 : decode cX8_count 144 = .ok (.if_icmp .eq 7, 3) := by decide +kernel
theorem dX8_count_147 : decode cX8_count 147 = .ok (.iconst 1, 1) := by decide +kernel
theorem dX8_count_148 : decode cX8_count 148 = .ok (.goto 4, 3) := by decide +kernel
theorem dX8_count_151 : decode cX8_count 151 = .ok (.iconst 0, 1) := by decide +kernel
theorem dX8_count_152 : decode cX8_count 152 = .ok (.iadd, 1) := by decide +kernel
theorem dX8_count_153 : decode cX8_count 153 = .ok (.istore_n 2, 1) := by decide +kernel
theorem dX8_count_154 : decode cX8_count 154 = .ok (.iinc 3 1, 3) := by decide +kernel
theorem dX8_count_157 : decode cX8_count 157 = .ok (.goto (-27), 3) := by decide +kernel
theorem dX8_count_160 : decode cX8_count 160 = .ok (.iload_n 2, 1) := by decide +kernel
theorem dX8_count_161 : decode cX8_count 161 = .ok (.ireturn, 1) := by decide +kernel
theorem dX8_count_162 : decode cX8_count 162 = .ok (.iconst 0, 1) := by decide +kernel
theorem dX8_count_163 : decode cX8_count 163 = .ok (.istore_n 3, 1) := by decide +kernel
theorem dX8_count_164 : decode cX8_count 164 = .ok (.iload_n 3, 1) := by decide +kernel
theorem dX8_count_165 : decode cX8_count 165 = .ok (.aload_n 0, 1) := by decide +kernel
theorem dX8_count_166 : decode cX8_count 166 = .ok (.getfield 80, 3) := by decide +kernel
theorem dX8_count_169 : decode cX8_count 169 = .ok (.if_icmp .ge 26, 3) := by decide +kernel
theorem dX8_count_172 : decode cX8_count 172 = .ok (.iload_n 2, 1) := by decide +kernel
theorem dX8_count_173 : decode cX8_count 173 = .ok (.aload_n 0, 1) := by decide +kernel
theorem dX8_count_174 : decode cX8_count 174 = .ok (.getfield 17, 3) := by decide +kernel
theorem dX8_count_177 : decode cX8_count 177 = .ok (.iload_n 3, 1) := by decide +kernel
theorem dX8_count_178 : decode cX8_count 178 = .ok (.baload, 1) := by decide +kernel
theorem dX8_count_179 : decode cX8_count 179 = .ok (.ifCond .eq 7, 3) := by decide +kernel
theorem dX8_count_182 : decode cX8_count 182 = .ok (.iconst 1, 1) := by decide +kernel
theorem dX8_count_183 : decode cX8_count 183 = .ok (.goto 4, 3) := by decide +kernel
theorem dX8_count_186 : decode cX8_count 186 = .ok (.iconst 0, 1) := by decide +kernel
theorem dX8_count_187 : decode cX8_count 187 = .ok (.iadd, 1) := by decide +kernel
theorem dX8_count_188 : decode cX8_count 188 = .ok (.istore_n 2, 1) := by decide +kernel
theorem dX8_count_189 : decode cX8_count 189 = .ok (.iinc 3 1, 3) := by decide +kernel
theorem dX8_count_192 : decode cX8_count 192 = .ok (.goto (-28), 3) := by decide +kernel
theorem dX8_count_195 : decode cX8_count 195 = .ok (.iload_n 2, 1) := by decide +kernel
theorem dX8_count_196 : decode cX8_count 196 = .ok (.ireturn, 1) := by decide +kernel
theorem dX8_count_197 : decode cX8_count 197 = .ok (.iconst 0, 1) := by decide +kernel
theorem dX8_count_198 : decode cX8_count 198 = .ok (.istore_n 3, 1) := by decide +kernel
theorem dX8_count_199 : decode cX8_count 199 = .ok (.iload_n 3, 1) := by decide +kernel
theorem dX8_count_200 : decode cX8_count 200 = .ok (.sipush 256, 3) := by decide +kernel
theorem dX8_count_203 : decode cX8_count 203 = .ok (.if_icmp .ge 26, 3) := by decide +kernel
theorem dX8_count_206 : decode cX8_count 206 = .ok (.iload_n 2, 1) := by decide +kernel
theorem dX8_count_207 : decode cX8_count 207 = .ok (.aload_n 0, 1) := by decide +kernel
theorem dX8_count_208 : decode cX8_count 208 = .ok (.getfield 20, 3) := by decide +kernel
theorem dX8_count_211 : decode cX8_count 211 = .ok (.iload_n 3, 1) := by decide +kernel
theorem dX8_count_212 : decode cX8_count 212 = .ok (.baload, 1) := by decide +kernel
theorem dX8_count_213 : decode cX8_count 213 = .ok (.ifCond .eq 7, 3) := by decide +kernel
theorem dX8_count_216 : decode cX8_count 216 = .ok (.iconst 1, 1) := by decide +kernel
theorem dX8_count_217 : decode cX8_count 217 = .ok (.goto 4, 3) := by decide +kernel
theorem dX8_count_220 : decode cX8_count 220 = .ok (.iconst 0, 1) := by decide +kernel
theorem dX8_count_221 : decode cX8_count 221 = .ok (.iadd, 1) := by decide +kernel
theorem dX8_count_222 : decode cX8_count 222 = .ok (.istore_n 2, 1) := by decide +kernel
theorem dX8_count_223 : decode cX8_count 223 = .ok (.iinc 3 1, 3) := by decide +kernel
theorem dX8_count_226 : decode cX8_count 226 = .ok (.goto (-27), 3) := by decide +kernel
theorem dX8_count_229 : decode cX8_count 229 = .ok (.iload_n 2, 1) := by decide +kernel
theorem dX8_count_230 : decode cX8_count 230 = .ok (.iconst 2, 1) := by decide +kernel
theorem dX8_count_231 : decode cX8_count 231 = .ok (.idiv, 1) := by decide +kernel
theorem dX8_count_232 : decode cX8_count 232 = .ok (.ireturn, 1) := by decide +kernel
theorem dX8_count_233 : decode cX8_count 233 = .ok (.aload_n 0, 1) := by decide +kernel
theorem dX8_count_234 : decode cX8_count 234 = .ok (.getfield 56, 3) := by decide +kernel
theorem dX8_count_237 : decode cX8_count 237 = .ok (.iconst 0, 1) := by decide +kernel
theorem dX8_count_238 : decode cX8_count 238 = .ok (.iaload, 1) := by decide +kernel
theorem dX8_count_239 : decode cX8_count 239 = .ok (.bipush (-4), 2) := by decide +kernel
theorem dX8_count_241 : decode cX8_count 241 = .ok (.if_icmp .ne 8, 3) := by decide +kernel
theorem dX8_count_244 : decode cX8_count 244 = .ok (.bipush (-4), 2) := by decide +kernel
theorem dX8_count_246 : decode cX8_count 246 = .ok (.goto 9, 3) := by decide +kernel
theorem dX8_count_249 : decode cX8_count 249 = .ok (.aload_n 0, 1) := by decide +kernel
theorem dX8_count_250 : decode cX8_count 250 = .ok (.getfield 59, 3) := by decide +kernel
theorem dX8_count_253 : decode cX8_count 253 = .ok (.iconst 0, 1) := by decide +kernel
theorem dX8_count_254 : decode cX8_count 254 = .ok (.iaload, 1) := by decide +kernel
theorem dX8_count_255 : decode cX8_count 255 = .ok (.ireturn, 1) := by decide +kernel
theorem dX8_count_256 : decode cX8_count 256 = .ok (.aload_n 0, 1) := by decide +kernel
theorem dX8_count_257 : decode cX8_count 257 = .ok (.getfield 95, 3) := by decide +kernel
theorem dX8_count_260 : decode cX8_count 260 = .ok (.ireturn, 1) := by decide +kernel
theorem dX8_count_261 : decode cX8_count 261 = .ok (.iconst (-1), 1) := by decide +kernel
theorem dX8_count_262 : decode cX8_count 262 = .ok (.ireturn, 1) := by decide +kernel
