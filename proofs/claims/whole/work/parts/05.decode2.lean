/-! decode rows -/
theorem dX12_isFull_19 : decode cX12_isFull 19 = .ok (.goto 4, 3) := by decide +kernel
theorem dX12_isFull_22 : decode cX12_isFull 22 = .ok (.iconst 0, 1) := by decide +kernel
theorem dX12_isFull_23 : decode cX12_isFull 23 = .ok (.ireturn, 1) := by decide +kernel
theorem dX12_countUnit_0 : decode cX12_countUnit 0 = .ok (.aload_n 0, 1) := by decide +kernel
theorem dX12_countUnit_1 : decode cX12_countUnit 1 = .ok (.dup, 1) := by decide +kernel
theorem dX12_countUnit_2 : decode cX12_countUnit 2 = .ok (.getfield 263, 3) := by decide +kernel
theorem dX12_countUnit_5 : decode cX12_countUnit 5 = .ok (.iconst 1, 1) := by decide +kernel
theorem dX12_countUnit_6 : decode cX12_countUnit 6 = .ok (.iadd, 1) := by decide +kernel
theorem dX12_countUnit_7 : decode cX12_countUnit 7 = .ok (.putfield 263, 3) := by decide +kernel
theorem dX12_countUnit_10 : decode cX12_countUnit 10 = .ok (.aload_n 0, 1) := by decide +kernel
theorem dX12_countUnit_11 : decode cX12_countUnit 11 = .ok (.dup, 1) := by decide +kernel
theorem dX12_countUnit_12 : decode cX12_countUnit 12 = .ok (.getfield 266, 3) := by decide +kernel
theorem dX12_countUnit_15 : decode cX12_countUnit 15 = .ok (.iconst 1, 1) := by decide +kernel
theorem dX12_countUnit_16 : decode cX12_countUnit 16 = .ok (.iadd, 1) := by decide +kernel
theorem dX12_countUnit_17 : decode cX12_countUnit 17 = .ok (.putfield 266, 3) := by decide +kernel
theorem dX12_countUnit_20 : decode cX12_countUnit 20 = .ok (.return_, 1) := by decide +kernel
theorem dX12_openUp_0 : decode cX12_openUp 0 = .ok (.aload_n 0, 1) := by decide +kernel
theorem dX12_openUp_1 : decode cX12_openUp 1 = .ok (.getfield 29, 3) := by decide +kernel
theorem dX12_openUp_4 : decode cX12_openUp 4 = .ok (.aload_n 0, 1) := by decide +kernel
theorem dX12_openUp_5 : decode cX12_openUp 5 = .ok (.getfield 250, 3) := by decide +kernel
theorem dX12_openUp_8 : decode cX12_openUp 8 = .ok (.iload_n 1, 1) := by decide +kernel
theorem dX12_openUp_9 : decode cX12_openUp 9 = .ok (.iastore, 1) := by decide +kernel
theorem dX12_openUp_10 : decode cX12_openUp 10 = .ok (.aload_n 0, 1) := by decide +kernel
theorem dX12_openUp_11 : decode cX12_openUp 11 = .ok (.dup, 1) := by decide +kernel
theorem dX12_openUp_12 : decode cX12_openUp 12 = .ok (.getfield 250, 3) := by decide +kernel
theorem dX12_openUp_15 : decode cX12_openUp 15 = .ok (.iconst 1, 1) := by decide +kernel
theorem dX12_openUp_16 : decode cX12_openUp 16 = .ok (.iadd, 1) := by decide +kernel
theorem dX12_openUp_17 : decode cX12_openUp 17 = .ok (.putfield 250, 3) := by decide +kernel
theorem dX12_openUp_20 : decode cX12_openUp 20 = .ok (.aload_n 0, 1) := by decide +kernel
theorem dX12_openUp_21 : decode cX12_openUp 21 = .ok (.dup, 1) := by decide +kernel
theorem dX12_openUp_22 : decode cX12_openUp 22 = .ok (.getfield 260, 3) := by decide +kernel
theorem dX12_openUp_25 : decode cX12_openUp 25 = .ok (.iconst 1, 1) := by decide +kernel
theorem dX12_openUp_26 : decode cX12_openUp 26 = .ok (.iadd, 1) := by decide +kernel
theorem dX12_openUp_27 : decode cX12_openUp 27 = .ok (.putfield 260, 3) := by decide +kernel
theorem dX12_openUp_30 : decode cX12_openUp 30 = .ok (.aload_n 0, 1) := by decide +kernel
theorem dX12_openUp_31 : decode cX12_openUp 31 = .ok (.getfield 191, 3) := by decide +kernel
theorem dX12_openUp_34 : decode cX12_openUp 34 = .ok (.ifCond .ne 7, 3) := by decide +kernel
theorem dX12_openUp_37 : decode cX12_openUp 37 = .ok (.aload_n 0, 1) := by decide +kernel
theorem dX12_openUp_38 : decode cX12_openUp 38 = .ok (.invokevirtual 233, 3) := by decide +kernel
theorem dX12_openUp_41 : decode cX12_openUp 41 = .ok (.return_, 1) := by decide +kernel
theorem dX12_unit_0 : decode cX12_unit 0 = .ok (.iconst 1, 1) := by decide +kernel
theorem dX12_unit_1 : decode cX12_unit 1 = .ok (.istore_n 1, 1) := by decide +kernel
theorem dX12_unit_2 : decode cX12_unit 2 = .ok (.iload_n 1, 1) := by decide +kernel
theorem dX12_unit_3 : decode cX12_unit 3 = .ok (.ifCond .eq 98, 3) := by decide +kernel
theorem dX12_unit_6 : decode cX12_unit 6 = .ok (.aload_n 0, 1) := by decide +kernel
theorem dX12_unit_7 : decode cX12_unit 7 = .ok (.getfield 191, 3) := by decide +kernel
theorem dX12_unit_10 : decode cX12_unit 10 = .ok (.ifCond .ne 91, 3) := by decide +kernel
theorem dX12_unit_13 : decode cX12_unit 13 = .ok (.aload_n 0, 1) := by decide +kernel
theorem dX12_unit_14 : decode cX12_unit 14 = .ok (.ldc2_w 220, 3) := by decide +kernel
theorem dX12_unit_17 : decode cX12_unit 17 = .ok (.invokevirtual 226, 3) := by decide +kernel
theorem dX12_unit_20 : decode cX12_unit 20 = .ok (.ifCond .eq 33, 3) := by decide +kernel
theorem dX12_unit_23 : decode cX12_unit 23 = .ok (.aload_n 0, 1) := by decide +kernel
theorem dX12_unit_24 : decode cX12_unit 24 = .ok (.invokevirtual 269, 3) := by decide +kernel
theorem dX12_unit_27 : decode cX12_unit 27 = .ok (.ifCond .eq 26, 3) := by decide +kernel
theorem dX12_unit_30 : decode cX12_unit 30 = .ok (.aload_n 0, 1) := by decide +kernel
theorem dX12_unit_31 : decode cX12_unit 31 = .ok (.getfield 260, 3) := by decide +kernel
theorem dX12_unit_34 : decode cX12_unit 34 = .ok (.bipush 6, 2) := by decide +kernel
theorem dX12_unit_36 : decode cX12_unit 36 = .ok (.if_icmp .le 8, 3) := by decide +kernel
theorem dX12_unit_39 : decode cX12_unit 39 = .ok (.aload_n 0, 1) := by decide +kernel
theorem dX12_unit_40 : decode cX12_unit 40 = .ok (.iconst 2, 1) := by decide +kernel
theorem dX12_unit_41 : decode cX12_unit 41 = .ok (.invokevirtual 230, 3) := by decide +kernel
theorem dX12_unit_44 : decode cX12_unit 44 = .ok (.aload_n 0, 1) := by decide +kernel
theorem dX12_unit_45 : decode cX12_unit 45 = .ok (.bipush 21, 2) := by decide +kernel
theorem dX12_unit_47 : decode cX12_unit 47 = .ok (.invokevirtual 272, 3) := by decide +kernel
theorem dX12_unit_50 : decode cX12_unit 50 = .ok (.goto (-48), 3) := by decide +kernel
theorem dX12_unit_53 : decode cX12_unit 53 = .ok (.aload_n 0, 1) := by decide +kernel
theorem dX12_unit_54 : decode cX12_unit 54 = .ok (.getfield 178, 3) := by decide +kernel
theorem dX12_unit_57 : decode cX12_unit 57 = .ok (.bipush 40, 2) := by decide +kernel
theorem dX12_unit_59 : decode cX12_unit 59 = .ok (.if_icmp .ne 37, 3) := by decide +kernel
theorem dX12_unit_62 : decode cX12_unit 62 = .ok (.aload_n 0, 1) := by decide +kernel
theorem dX12_unit_63 : decode cX12_unit 63 = .ok (.invokevirtual 275, 3) := by decide +kernel
theorem dX12_unit_66 : decode cX12_unit 66 = .ok (.ifCond .ne 12, 3) := by decide +kernel
theorem dX12_unit_69 : decode cX12_unit 69 = .ok (.aload_n 0, 1) := by decide +kernel
theorem dX12_unit_70 : decode cX12_unit 70 = .ok (.getfield 260, 3) := by decide +kernel
theorem dX12_unit_73 : decode cX12_unit 73 = .ok (.bipush 6, 2) := by decide +kernel
theorem dX12_unit_75 : decode cX12_unit 75 = .ok (.if_icmp .le 8, 3) := by decide +kernel
theorem dX12_unit_78 : decode cX12_unit 78 = .ok (.aload_n 0, 1) := by decide +kernel
theorem dX12_unit_79 : decode cX12_unit 79 = .ok (.iconst 2, 1) := by decide +kernel
theorem dX12_unit_80 : decode cX12_unit 80 = .ok (.invokevirtual 230, 3) := by decide +kernel
theorem dX12_unit_83 : decode cX12_unit 83 = .ok (.aload_n 0, 1) := by decide +kernel
theorem dX12_unit_84 : decode cX12_unit 84 = .ok (.invokevirtual 278, 3) := by decide +kernel
theorem dX12_unit_87 : decode cX12_unit 87 = .ok (.aload_n 0, 1) := by decide +kernel
theorem dX12_unit_88 : decode cX12_unit 88 = .ok (.bipush 20, 2) := by decide +kernel
theorem dX12_unit_90 : decode cX12_unit 90 = .ok (.invokevirtual 272, 3) := by decide +kernel
theorem dX12_unit_93 : decode cX12_unit 93 = .ok (.goto (-91), 3) := by decide +kernel
theorem dX12_unit_96 : decode cX12_unit 96 = .ok (.iconst 0, 1) := by decide +kernel
theorem dX12_unit_97 : decode cX12_unit 97 = .ok (.istore_n 1, 1) := by decide +kernel
theorem dX12_unit_98 : decode cX12_unit 98 = .ok (.goto (-96), 3) := by decide +kernel
theorem dX12_unit_101 : decode cX12_unit 101 = .ok (.aload_n 0, 1) := by decide +kernel
theorem dX12_unit_102 : decode cX12_unit 102 = .ok (.getfield 191, 3) := by decide +kernel
theorem dX12_unit_105 : decode cX12_unit 105 = .ok (.ifCond .le 4, 3) := by decide +kernel
theorem dX12_unit_108 : decode cX12_unit 108 = .ok (.return_, 1) := by decide +kernel
theorem dX12_unit_109 : decode cX12_unit 109 = .ok (.aload_n 0, 1) := by decide +kernel
theorem dX12_unit_110 : decode cX12_unit 110 = .ok (.invokevirtual 281, 3) := by decide +kernel
theorem dX12_unit_113 : decode cX12_unit 113 = .ok (.istore_n 2, 1) := by decide +kernel
theorem dX12_unit_114 : decode cX12_unit 114 = .ok (.aload_n 0, 1) := by decide +kernel
theorem dX12_unit_115 : decode cX12_unit 115 = .ok (.getfield 178, 3) := by decide +kernel
theorem dX12_unit_118 : decode cX12_unit 118 = .ok (.iconst 2, 1) := by decide +kernel
theorem dX12_unit_119 : decode cX12_unit 119 = .ok (.if_icmp .eq 7, 3) := by decide +kernel
theorem dX12_unit_122 : decode cX12_unit 122 = .ok (.iload_n 2, 1) := by decide +kernel
theorem dX12_unit_123 : decode cX12_unit 123 = .ok (.ifCond .lt 10, 3) := by decide +kernel
theorem dX12_unit_126 : decode cX12_unit 126 = .ok (.aload_n 0, 1) := by decide +kernel
theorem dX12_unit_127 : decode cX12_unit 127 = .ok (.invokevirtual 275, 3) := by decide +kernel
theorem dX12_unit_130 : decode cX12_unit 130 = .ok (.ifCond .eq 8, 3) := by decide +kernel
theorem dX12_unit_133 : decode cX12_unit 133 = .ok (.aload_n 0, 1) := by decide +kernel
theorem dX12_unit_134 : decode cX12_unit 134 = .ok (.iconst 2, 1) := by decide +kernel
theorem dX12_unit_135 : decode cX12_unit 135 = .ok (.invokevirtual 230, 3) := by decide +kernel
theorem dX12_unit_138 : decode cX12_unit 138 = .ok (.aload_n 0, 1) := by decide +kernel
theorem dX12_unit_139 : decode cX12_unit 139 = .ok (.getfield 191, 3) := by decide +kernel
theorem dX12_unit_142 : decode cX12_unit 142 = .ok (.ifCond .le 4, 3) := by decide +kernel
theorem dX12_unit_145 : decode cX12_unit 145 = .ok (.return_, 1) := by decide +kernel
theorem dX12_unit_146 : decode cX12_unit 146 = .ok (.aload_n 0, 1) := by decide +kernel
theorem dX12_unit_147 : decode cX12_unit 147 = .ok (.invokevirtual 278, 3) := by decide +kernel
theorem dX12_unit_150 : decode cX12_unit 150 = .ok (.aload_n 0, 1) := by decide +kernel
theorem dX12_unit_151 : decode cX12_unit 151 = .ok (.iload_n 2, 1) := by decide +kernel
theorem dX12_unit_152 : decode cX12_unit 152 = .ok (.ifCond .ge 7, 3) := by decide +kernel
theorem dX12_unit_155 : decode cX12_unit 155 = .ok (.iconst 0, 1) := by decide +kernel
theorem dX12_unit_156 : decode cX12_unit 156 = .ok (.goto 4, 3) := by decide +kernel
theorem dX12_unit_159 : decode cX12_unit 159 = .ok (.iconst 1, 1) := by decide +kernel
theorem dX12_unit_160 : decode cX12_unit 160 = .ok (.iload_n 2, 1) := by decide +kernel
theorem dX12_unit_161 : decode cX12_unit 161 = .ok (.ifCond .ge 10, 3) := by decide +kernel
theorem dX12_unit_164 : decode cX12_unit 164 = .ok (.aload_n 0, 1) := by decide +kernel
theorem dX12_unit_165 : decode cX12_unit 165 = .ok (.getfield 175, 3) := by decide +kernel
theorem dX12_unit_168 : decode cX12_unit 168 = .ok (.goto 4, 3) := by decide +kernel
theorem dX12_unit_171 : decode cX12_unit 171 = .ok (.iload_n 2, 1) := by decide +kernel
theorem dX12_unit_172 : decode cX12_unit 172 = .ok (.invokevirtual 256, 3) := by decide +kernel
theorem dX12_unit_175 : decode cX12_unit 175 = .ok (.aload_n 0, 1) := by decide +kernel
theorem dX12_unit_176 : decode cX12_unit 176 = .ok (.invokevirtual 233, 3) := by decide +kernel
theorem dX12_unit_179 : decode cX12_unit 179 = .ok (.return_, 1) := by decide +kernel
theorem dX12_sign_0 : decode cX12_sign 0 = .ok (.aload_n 0, 1) := by decide +kernel
theorem dX12_sign_1 : decode cX12_sign 1 = .ok (.ldc2_w 216, 3) := by decide +kernel
theorem dX12_sign_4 : decode cX12_sign 4 = .ok (.invokevirtual 226, 3) := by decide +kernel
theorem dX12_sign_7 : decode cX12_sign 7 = .ok (.ifCond .eq 6, 3) := by decide +kernel
theorem dX12_sign_10 : decode cX12_sign 10 = .ok (.bipush 38, 2) := by decide +kernel
theorem dX12_sign_12 : decode cX12_sign 12 = .ok (.ireturn, 1) := by decide +kernel
theorem dX12_sign_13 : decode cX12_sign 13 = .ok (.aload_n 0, 1) := by decide +kernel
theorem dX12_sign_14 : decode cX12_sign 14 = .ok (.ldc2_w 218, 3) := by decide +kernel
theorem dX12_sign_17 : decode cX12_sign 17 = .ok (.invokevirtual 226, 3) := by decide +kernel
theorem dX12_sign_20 : decode cX12_sign 20 = .ok (.ifCond .eq 6, 3) := by decide +kernel
theorem dX12_sign_23 : decode cX12_sign 23 = .ok (.bipush 124, 2) := by decide +kernel
theorem dX12_sign_25 : decode cX12_sign 25 = .ok (.ireturn, 1) := by decide +kernel
theorem dX12_sign_26 : decode cX12_sign 26 = .ok (.aload_n 0, 1) := by decide +kernel
theorem dX12_sign_27 : decode cX12_sign 27 = .ok (.getfield 178, 3) := by decide +kernel
theorem dX12_sign_30 : decode cX12_sign 30 = .ok (.bipush 60, 2) := by decide +kernel
theorem dX12_sign_32 : decode cX12_sign 32 = .ok (.if_icmp .eq 66, 3) := by decide +kernel
theorem dX12_sign_35 : decode cX12_sign 35 = .ok (.aload_n 0, 1) := by decide +kernel
theorem dX12_sign_36 : decode cX12_sign 36 = .ok (.getfield 178, 3) := by decide +kernel
theorem dX12_sign_39 : decode cX12_sign 39 = .ok (.bipush 62, 2) := by decide +kernel
theorem dX12_sign_41 : decode cX12_sign 41 = .ok (.if_icmp .eq 57, 3) := by decide +kernel
theorem dX12_sign_44 : decode cX12_sign 44 = .ok (.aload_n 0, 1) := by decide +kernel
theorem dX12_sign_45 : decode cX12_sign 45 = .ok (.getfield 178, 3) := by decide +kernel
theorem dX12_sign_48 : decode cX12_sign 48 = .ok (.bipush 61, 2) := by decide +kernel
theorem dX12_sign_50 : decode cX12_sign 50 = .ok (.if_icmp .eq 48, 3) := by decide +kernel
theorem dX12_sign_53 : decode cX12_sign 53 = .ok (.aload_n 0, 1) := by decide +kernel
theorem dX12_sign_54 : decode cX12_sign 54 = .ok (.getfield 178, 3) := by decide +kernel
theorem dX12_sign_57 : decode cX12_sign 57 = .ok (.bipush 43, 2) := by decide +kernel
theorem dX12_sign_59 : decode cX12_sign 59 = .ok (.if_icmp .eq 39, 3) := by decide +kernel
theorem dX12_sign_62 : decode cX12_sign 62 = .ok (.aload_n 0, 1) := by decide +kernel
theorem dX12_sign_63 : decode cX12_sign 63 = .ok (.getfield 178, 3) := by decide +kernel
theorem dX12_sign_66 : decode cX12_sign 66 = .ok (.bipush 45, 2) := by decide +kernel
theorem dX12_sign_68 : decode cX12_sign 68 = .ok (.if_icmp .eq 30, 3) := by decide +kernel
theorem dX12_sign_71 : decode cX12_sign 71 = .ok (.aload_n 0, 1) := by decide +kernel
theorem dX12_sign_72 : decode cX12_sign 72 = .ok (.getfield 178, 3) := by decide +kernel
theorem dX12_sign_75 : decode cX12_sign 75 = .ok (.bipush 42, 2) := by decide +kernel
theorem dX12_sign_77 : decode cX12_sign 77 = .ok (.if_icmp .eq 21, 3) := by decide +kernel
theorem dX12_sign_80 : decode cX12_sign 80 = .ok (.aload_n 0, 1) := by decide +kernel
theorem dX12_sign_81 : decode cX12_sign 81 = .ok (.getfield 178, 3) := by decide +kernel
theorem dX12_sign_84 : decode cX12_sign 84 = .ok (.bipush 47, 2) := by decide +kernel
theorem dX12_sign_86 : decode cX12_sign 86 = .ok (.if_icmp .eq 12, 3) := by decide +kernel
theorem dX12_sign_89 : decode cX12_sign 89 = .ok (.aload_n 0, 1) := by decide +kernel
theorem dX12_sign_90 : decode cX12_sign 90 = .ok (.getfield 178, 3) := by decide +kernel
theorem dX12_sign_93 : decode cX12_sign 93 = .ok (.bipush 37, 2) := by decide +kernel
theorem dX12_sign_95 : decode cX12_sign 95 = .ok (.if_icmp .ne 10, 3) := by decide +kernel
theorem dX12_sign_98 : decode cX12_sign 98 = .ok (.aload_n 0, 1) := by decide +kernel
theorem dX12_sign_99 : decode cX12_sign 99 = .ok (.getfield 178, 3) := by decide +kernel
theorem dX12_sign_102 : decode cX12_sign 102 = .ok (.goto 4, 3) := by decide +kernel
theorem dX12_sign_105 : decode cX12_sign 105 = .ok (.iconst 0, 1) := by decide +kernel
theorem dX12_sign_106 : decode cX12_sign 106 = .ok (.ireturn, 1) := by decide +kernel
theorem dX12_hasBracket_0 : decode cX12_hasBracket 0 = .ok (.iconst 0, 1) := by decide +kernel
theorem dX12_hasBracket_1 : decode cX12_hasBracket 1 = .ok (.istore_n 1, 1) := by decide +kernel
theorem dX12_hasBracket_2 : decode cX12_hasBracket 2 = .ok (.iconst 0, 1) := by decide +kernel
theorem dX12_hasBracket_3 : decode cX12_hasBracket 3 = .ok (.istore_n 2, 1) := by decide +kernel
theorem dX12_hasBracket_4 : decode cX12_hasBracket 4 = .ok (.iload_n 2, 1) := by decide +kernel
theorem dX12_hasBracket_5 : decode cX12_hasBracket 5 = .ok (.aload_n 0, 1) := by decide +kernel
theorem dX12_hasBracket_6 : decode cX12_hasBracket 6 = .ok (.getfield 250, 3) := by decide +kernel
theorem dX12_hasBracket_9 : decode cX12_hasBracket 9 = .ok (.if_icmp .ge 30, 3) := by decide +kernel
theorem dX12_hasBracket_12 : decode cX12_hasBracket 12 = .ok (.iload_n 1, 1) := by decide +kernel
theorem dX12_hasBracket_13 : decode cX12_hasBracket 13 = .ok (.ifCond .ne 14, 3) := by decide +kernel
theorem dX12_hasBracket_16 : decode cX12_hasBracket 16 = .ok (.aload_n 0, 1) := by decide +kernel
theorem dX12_hasBracket_17 : decode cX12_hasBracket 17 = .ok (.getfield 29, 3) := by decide +kernel
theorem dX12_hasBracket_20 : decode cX12_hasBracket 20 = .ok (.iload_n 2, 1) := by decide +kernel
theorem dX12_hasBracket_21 : decode cX12_hasBracket 21 = .ok (.iaload, 1) := by decide +kernel
theorem dX12_hasBracket_22 : decode cX12_hasBracket 22 = .ok (.bipush 20, 2) := by decide +kernel
theorem dX12_hasBracket_24 : decode cX12_hasBracket 24 = .ok (.if_icmp .ne 7, 3) := by decide +kernel
theorem dX12_hasBracket_27 : decode cX12_hasBracket 27 = .ok (.iconst 1, 1) := by decide +kernel
theorem dX12_hasBracket_28 : decode cX12_hasBracket 28 = .ok (.goto 4, 3) := by decide +kernel
theorem dX12_hasBracket_31 : decode cX12_hasBracket 31 = .ok (.iconst 0, 1) := by decide +kernel
theorem dX12_hasBracket_32 : decode cX12_hasBracket 32 = .ok (.istore_n 1, 1) := by decide +kernel
theorem dX12_hasBracket_33 : decode cX12_hasBracket 33 = .ok (.iinc 2 1, 3) := by decide +kernel
theorem dX12_hasBracket_36 : decode cX12_hasBracket 36 = .ok (.goto (-32), 3) := by decide +kernel
theorem dX12_hasBracket_39 : decode cX12_hasBracket 39 = .ok (.iload_n 1, 1) := by decide +kernel
theorem dX12_hasBracket_40 : decode cX12_hasBracket 40 = .ok (.ireturn, 1) := by decide +kernel
theorem dX12_formula_0 : decode cX12_formula 0 = .ok (.aload_n 0, 1) := by decide +kernel
theorem dX12_formula_1 : decode cX12_formula 1 = .ok (.invokevirtual 233, 3) := by decide +kernel
theorem dX12_formula_4 : decode cX12_formula 4 = .ok (.aload_n 0, 1) := by decide +kernel
theorem dX12_formula_5 : decode cX12_formula 5 = .ok (.iconst 1, 1) := by decide +kernel
theorem dX12_formula_6 : decode cX12_formula 6 = .ok (.putfield 285, 3) := by decide +kernel
theorem dX12_formula_9 : decode cX12_formula 9 = .ok (.aload_n 0, 1) := by decide +kernel
theorem dX12_formula_10 : decode cX12_formula 10 = .ok (.iconst 0, 1) := by decide +kernel
theorem dX12_formula_11 : decode cX12_formula 11 = .ok (.putfield 247, 3) := by decide +kernel
theorem dX12_formula_14 : decode cX12_formula 14 = .ok (.aload_n 0, 1) := by decide +kernel
theorem dX12_formula_15 : decode cX12_formula 15 = .ok (.iconst 0, 1) := by decide +kernel
theorem dX12_formula_16 : decode cX12_formula 16 = .ok (.putfield 250, 3) := by decide +kernel
theorem dX12_formula_19 : decode cX12_formula 19 = .ok (.aload_n 0, 1) := by decide +kernel
theorem dX12_formula_20 : decode cX12_formula 20 = .ok (.iconst 0, 1) := by decide +kernel
theorem dX12_formula_21 : decode cX12_formula 21 = .ok (.putfield 260, 3) := by decide +kernel
theorem dX12_formula_24 : decode cX12_formula 24 = .ok (.aload_n 0, 1) := by decide +kernel
theorem dX12_formula_25 : decode cX12_formula 25 = .ok (.iconst 0, 1) := by decide +kernel
theorem dX12_formula_26 : decode cX12_formula 26 = .ok (.putfield 266, 3) := by decide +kernel
theorem dX12_formula_29 : decode cX12_formula 29 = .ok (.aload_n 0, 1) := by decide +kernel
theorem dX12_formula_30 : decode cX12_formula 30 = .ok (.invokevirtual 289, 3) := by decide +kernel
theorem dX12_formula_33 : decode cX12_formula 33 = .ok (.iconst 1, 1) := by decide +kernel
theorem dX12_formula_34 : decode cX12_formula 34 = .ok (.istore_n 1, 1) := by decide +kernel
theorem dX12_formula_35 : decode cX12_formula 35 = .ok (.iload_n 1, 1) := by decide +kernel
theorem dX12_formula_36 : decode cX12_formula 36 = .ok (.ifCond .eq 126, 3) := by decide +kernel
theorem dX12_formula_39 : decode cX12_formula 39 = .ok (.aload_n 0, 1) := by decide +kernel
theorem dX12_formula_40 : decode cX12_formula 40 = .ok (.getfield 191, 3) := by decide +kernel
theorem dX12_formula_43 : decode cX12_formula 43 = .ok (.ifCond .ne 119, 3) := by decide +kernel
theorem dX12_formula_46 : decode cX12_formula 46 = .ok (.aload_n 0, 1) := by decide +kernel
theorem dX12_formula_47 : decode cX12_formula 47 = .ok (.invokevirtual 292, 3) := by decide +kernel
theorem dX12_formula_50 : decode cX12_formula 50 = .ok (.istore_n 2, 1) := by decide +kernel
theorem dX12_formula_51 : decode cX12_formula 51 = .ok (.aload_n 0, 1) := by decide +kernel
theorem dX12_formula_52 : decode cX12_formula 52 = .ok (.getfield 178, 3) := by decide +kernel
theorem dX12_formula_55 : decode cX12_formula 55 = .ok (.bipush 41, 2) := by decide +kernel
theorem dX12_formula_57 : decode cX12_formula 57 = .ok (.if_icmp .ne 42, 3) := by decide +kernel
theorem dX12_formula_60 : decode cX12_formula 60 = .ok (.aload_n 0, 1) := by decide +kernel
theorem dX12_formula_61 : decode cX12_formula 61 = .ok (.invokevirtual 295, 3) := by decide +kernel
theorem dX12_formula_64 : decode cX12_formula 64 = .ok (.ifCond .eq 35, 3) := by decide +kernel
theorem dX12_formula_67 : decode cX12_formula 67 = .ok (.aload_n 0, 1) := by decide +kernel
theorem dX12_formula_68 : decode cX12_formula 68 = .ok (.iconst 0, 1) := by decide +kernel
theorem dX12_formula_69 : decode cX12_formula 69 = .ok (.invokevirtual 298, 3) := by decide +kernel
theorem dX12_formula_72 : decode cX12_formula 72 = .ok (.aload_n 0, 1) := by decide +kernel
theorem dX12_formula_73 : decode cX12_formula 73 = .ok (.dup, 1) := by decide +kernel
theorem dX12_formula_74 : decode cX12_formula 74 = .ok (.getfield 250, 3) := by decide +kernel
theorem dX12_formula_77 : decode cX12_formula 77 = .ok (.iconst 1, 1) := by decide +kernel
theorem dX12_formula_78 : decode cX12_formula 78 = .ok (.isub, 1) := by decide +kernel
theorem dX12_formula_79 : decode cX12_formula 79 = .ok (.putfield 250, 3) := by decide +kernel
theorem dX12_formula_82 : decode cX12_formula 82 = .ok (.aload_n 0, 1) := by decide +kernel
theorem dX12_formula_83 : decode cX12_formula 83 = .ok (.dup, 1) := by decide +kernel
theorem dX12_formula_84 : decode cX12_formula 84 = .ok (.getfield 260, 3) := by decide +kernel
theorem dX12_formula_87 : decode cX12_formula 87 = .ok (.iconst 1, 1) := by decide +kernel
theorem dX12_formula_88 : decode cX12_formula 88 = .ok (.isub, 1) := by decide +kernel
theorem dX12_formula_89 : decode cX12_formula 89 = .ok (.putfield 260, 3) := by decide +kernel
theorem dX12_formula_92 : decode cX12_formula 92 = .ok (.aload_n 0, 1) := by decide +kernel
theorem dX12_formula_93 : decode cX12_formula 93 = .ok (.invokevirtual 233, 3) := by decide +kernel
theorem dX12_formula_96 : decode cX12_formula 96 = .ok (.goto 63, 3) := by decide +kernel
theorem dX12_formula_99 : decode cX12_formula 99 = .ok (.iload_n 2, 1) := by decide +kernel
theorem dX12_formula_100 : decode cX12_formula 100 = .ok (.ifCond .eq 57, 3) := by decide +kernel
theorem dX12_formula_103 : decode cX12_formula 103 = .ok (.iload_n 2, 1) := by decide +kernel
theorem dX12_formula_104 : decode cX12_formula 104 = .ok (.invokestatic 253, 3) := by decide +kernel
theorem dX12_formula_107 : decode cX12_formula 107 = .ok (.iconst 4, 1) := by decide +kernel
theorem dX12_formula_108 : decode cX12_formula 108 = .ok (.if_icmp .ne 10, 3) := by decide +kernel
theorem dX12_formula_111 : decode cX12_formula 111 = .ok (.aload_n 0, 1) := by decide +kernel
theorem dX12_formula_112 : decode cX12_formula 112 = .ok (.invokevirtual 301, 3) := by decide +kernel
theorem dX12_formula_115 : decode cX12_formula 115 = .ok (.ifCond .ne 42, 3) := by decide +kernel
theorem dX12_formula_118 : decode cX12_formula 118 = .ok (.aload_n 0, 1) := by decide +kernel
theorem dX12_formula_119 : decode cX12_formula 119 = .ok (.iload_n 2, 1) := by decide +kernel
theorem dX12_formula_120 : decode cX12_formula 120 = .ok (.invokestatic 253, 3) := by decide +kernel
theorem dX12_formula_123 : decode cX12_formula 123 = .ok (.invokevirtual 298, 3) := by decide +kernel
theorem dX12_formula_126 : decode cX12_formula 126 = .ok (.aload_n 0, 1) := by decide +kernel
theorem dX12_formula_127 : decode cX12_formula 127 = .ok (.getfield 29, 3) := by decide +kernel
theorem dX12_formula_130 : decode cX12_formula 130 = .ok (.aload_n 0, 1) := by decide +kernel
theorem dX12_formula_131 : decode cX12_formula 131 = .ok (.getfield 250, 3) := by decide +kernel
theorem dX12_formula_134 : decode cX12_formula 134 = .ok (.iload_n 2, 1) := by decide +kernel
theorem dX12_formula_135 : decode cX12_formula 135 = .ok (.iastore, 1) := by decide +kernel
theorem dX12_formula_136 : decode cX12_formula 136 = .ok (.aload_n 0, 1) := by decide +kernel
theorem dX12_formula_137 : decode cX12_formula 137 = .ok (.dup, 1) := by decide +kernel
theorem dX12_formula_138 : decode cX12_formula 138 = .ok (.getfield 250, 3) := by decide +kernel
theorem dX12_formula_141 : decode cX12_formula 141 = .ok (.iconst 1, 1) := by decide +kernel
theorem dX12_formula_142 : decode cX12_formula 142 = .ok (.iadd, 1) := by decide +kernel
theorem dX12_formula_143 : decode cX12_formula 143 = .ok (.putfield 250, 3) := by decide +kernel
theorem dX12_formula_146 : decode cX12_formula 146 = .ok (.aload_n 0, 1) := by decide +kernel
theorem dX12_formula_147 : decode cX12_formula 147 = .ok (.invokevirtual 233, 3) := by decide +kernel
theorem dX12_formula_150 : decode cX12_formula 150 = .ok (.aload_n 0, 1) := by decide +kernel
theorem dX12_formula_151 : decode cX12_formula 151 = .ok (.invokevirtual 289, 3) := by decide +kernel
theorem dX12_formula_154 : decode cX12_formula 154 = .ok (.goto 5, 3) := by decide +kernel
theorem dX12_formula_157 : decode cX12_formula 157 = .ok (.iconst 0, 1) := by decide +kernel
theorem dX12_formula_158 : decode cX12_formula 158 = .ok (.istore_n 1, 1) := by decide +kernel
theorem dX12_formula_159 : decode cX12_formula 159 = .ok (.goto (-124), 3) := by decide +kernel
theorem dX12_formula_162 : decode cX12_formula 162 = .ok (.aload_n 0, 1) := by decide +kernel
theorem dX12_formula_163 : decode cX12_formula 163 = .ok (.getfield 191, 3) := by decide +kernel
theorem dX12_formula_166 : decode cX12_formula 166 = .ok (.ifCond .ne 15, 3) := by decide +kernel
theorem dX12_formula_169 : decode cX12_formula 169 = .ok (.aload_n 0, 1) := by decide +kernel
theorem dX12_formula_170 : decode cX12_formula 170 = .ok (.invokevirtual 295, 3) := by decide +kernel
theorem dX12_formula_173 : decode cX12_formula 173 = .ok (.ifCond .eq 8, 3) := by decide +kernel
theorem dX12_formula_176 : decode cX12_formula 176 = .ok (.aload_n 0, 1) := by decide +kernel
theorem dX12_formula_177 : decode cX12_formula 177 = .ok (.iconst 2, 1) := by decide +kernel
theorem dX12_formula_178 : decode cX12_formula 178 = .ok (.invokevirtual 230, 3) := by decide +kernel
theorem dX12_formula_181 : decode cX12_formula 181 = .ok (.aload_n 0, 1) := by decide +kernel
theorem dX12_formula_182 : decode cX12_formula 182 = .ok (.getfield 191, 3) := by decide +kernel
theorem dX12_formula_185 : decode cX12_formula 185 = .ok (.ifCond .ne 8, 3) := by decide +kernel
theorem dX12_formula_188 : decode cX12_formula 188 = .ok (.aload_n 0, 1) := by decide +kernel
theorem dX12_formula_189 : decode cX12_formula 189 = .ok (.iconst 0, 1) := by decide +kernel
theorem dX12_formula_190 : decode cX12_formula 190 = .ok (.invokevirtual 298, 3) := by decide +kernel
theorem dX12_formula_193 : decode cX12_formula 193 = .ok (.return_, 1) := by decide +kernel
theorem dX12_truth_0 : decode cX12_truth 0 = .ok (.iload_n 0, 1) := by decide +kernel
theorem dX12_truth_1 : decode cX12_truth 1 = .ok (.ifCond .eq 7, 3) := by decide +kernel
theorem dX12_truth_4 : decode cX12_truth 4 = .ok (.iconst 1, 1) := by decide +kernel
theorem dX12_truth_5 : decode cX12_truth 5 = .ok (.goto 4, 3) := by decide +kernel
theorem dX12_truth_8 : decode cX12_truth 8 = .ok (.iconst 0, 1) := by decide +kernel
theorem dX12_truth_9 : decode cX12_truth 9 = .ok (.ireturn, 1) := by decide +kernel
theorem dX12_done_0 : decode cX12_done 0 = .ok (.iload_n 0, 1) := by decide +kernel
theorem dX12_done_1 : decode cX12_done 1 = .ok (.tableswitch 214 37 62 #[143, 197, 214, 214, 214, 127, 119, 214, 123, 214, 131, 214, 214, 214, 214, 214, 214, 214, 214, 214, 214, 214, 214, 155, 183, 169], 119) := by decide +kernel
theorem dX12_done_120 : decode cX12_done 120 = .ok (.iload_n 1, 1) := by decide +kernel
theorem dX12_done_121 : decode cX12_done 121 = .ok (.iload_n 2, 1) := by decide +kernel
theorem dX12_done_122 : decode cX12_done 122 = .ok (.iadd, 1) := by decide +kernel
theorem dX12_done_123 : decode cX12_done 123 = .ok (.ireturn, 1) := by decide +kernel
theorem dX12_done_124 : decode cX12_done 124 = .ok (.iload_n 1, 1) := by decide +kernel
theorem dX12_done_125 : decode cX12_done 125 = .ok (.iload_n 2, 1) := by decide +kernel
theorem dX12_done_126 : decode cX12_done 126 = .ok (.isub, 1) := by decide +kernel
theorem dX12_done_127 : decode cX12_done 127 = .ok (.ireturn, 1) := by decide +kernel
theorem dX12_done_128 : decode cX12_done 128 = .ok (.iload_n 1, 1) := by decide +kernel
theorem dX12_done_129 : decode cX12_done 129 = .ok (.iload_n 2, 1) := by decide +kernel
theorem dX12_done_130 : decode cX12_done 130 = .ok (.imul, 1) := by decide +kernel
theorem dX12_done_131 : decode cX12_done 131 = .ok (.ireturn, 1) := by decide +kernel
theorem dX12_done_132 : decode cX12_done 132 = .ok (.iload_n 2, 1) := by decide +kernel
theorem dX12_done_133 : decode cX12_done 133 = .ok (.ifCond .ne 7, 3) := by decide +kernel
theorem dX12_done_136 : decode cX12_done 136 = .ok (.iconst 0, 1) := by decide +kernel
theorem dX12_done_137 : decode cX12_done 137 = .ok (.goto 6, 3) := by decide +kernel
theorem dX12_done_140 : decode cX12_done 140 = .ok (.iload_n 1, 1) := by decide +kernel
theorem dX12_done_141 : decode cX12_done 141 = .ok (.iload_n 2, 1) := by decide +kernel
theorem dX12_done_142 : decode cX12_done 142 = .ok (.idiv, 1) := by decide +kernel
theorem dX12_done_143 : decode cX12_done 143 = .ok (.ireturn, 1) := by decide +kernel
theorem dX12_done_144 : decode cX12_done 144 = .ok (.iload_n 2, 1) := by decide +kernel
theorem dX12_done_145 : decode cX12_done 145 = .ok (.ifCond .ne 7, 3) := by decide +kernel
theorem dX12_done_148 : decode cX12_done 148 = .ok (.iconst 0, 1) := by decide +kernel
theorem dX12_done_149 : decode cX12_done 149 = .ok (.goto 6, 3) := by decide +kernel
theorem dX12_done_152 : decode cX12_done 152 = .ok (.iload_n 1, 1) := by decide +kernel
theorem dX12_done_153 : decode cX12_done 153 = .ok (.iload_n 2, 1) := by decide +kernel
theorem dX12_done_154 : decode cX12_done 154 = .ok (.irem, 1) := by decide +kernel
theorem dX12_done_155 : decode cX12_done 155 = .ok (.ireturn, 1) := by decide +kernel
theorem dX12_done_156 : decode cX12_done 156 = .ok (.iload_n 1, 1) := by decide +kernel
theorem dX12_done_157 : decode cX12_done 157 = .ok (.iload_n 2, 1) := by decide +kernel
theorem dX12_done_158 : decode cX12_done 158 = .ok (.if_icmp .ge 7, 3) := by decide +kernel
theorem dX12_done_161 : decode cX12_done 161 = .ok (.iconst 1, 1) := by decide +kernel
theorem dX12_done_162 : decode cX12_done 162 = .ok (.goto 4, 3) := by decide +kernel
theorem dX12_done_165 : decode cX12_done 165 = .ok (.iconst 0, 1) := by decide +kernel
theorem dX12_done_166 : decode cX12_done 166 = .ok (.invokestatic 304, 3) := by decide +kernel
theorem dX12_done_169 : decode cX12_done 169 = .ok (.ireturn, 1) := by decide +kernel
theorem dX12_done_170 : decode cX12_done 170 = .ok (.iload_n 1, 1) := by decide +kernel
theorem dX12_done_171 : decode cX12_done 171 = .ok (.iload_n 2, 1) := by decide +kernel
theorem dX12_done_172 : decode cX12_done 172 = .ok (.if_icmp .le 7, 3) := by decide +kernel
theorem dX12_done_175 : decode cX12_done 175 = .ok (.iconst 1, 1) := by decide +kernel
theorem dX12_done_176 : decode cX12_done 176 = .ok (.goto 4, 3) := by decide +kernel
theorem dX12_done_179 : decode cX12_done 179 = .ok (.iconst 0, 1) := by decide +kernel
theorem dX12_done_180 : decode cX12_done 180 = .ok (.invokestatic 304, 3) := by decide +kernel
theorem dX12_done_183 : decode cX12_done 183 = .ok (.ireturn, 1) := by decide +kernel
theorem dX12_done_184 : decode cX12_done 184 = .ok (.iload_n 1, 1) := by decide +kernel
theorem dX12_done_185 : decode cX12_done 185 = .ok (.iload_n 2, 1) := by decide +kernel
theorem dX12_done_186 : decode cX12_done 186 = .ok (.if_icmp .ne 7, 3) := by decide +kernel
theorem dX12_done_189 : decode cX12_done 189 = .ok (.iconst 1, 1) := by decide +kernel
theorem dX12_done_190 : decode cX12_done 190 = .ok (.goto 4, 3) := by decide +kernel
theorem dX12_done_193 : decode cX12_done 193 = .ok (.iconst 0, 1) := by decide +kernel
theorem dX12_done_194 : decode cX12_done 194 = .ok (.invokestatic 304, 3) := by decide +kernel
theorem dX12_done_197 : decode cX12_done 197 = .ok (.ireturn, 1) := by decide +kernel
theorem dX12_done_198 : decode cX12_done 198 = .ok (.iload_n 1, 1) := by decide +kernel
theorem dX12_done_199 : decode cX12_done 199 = .ok (.ifCond .eq 11, 3) := by decide +kernel
theorem dX12_done_202 : decode cX12_done 202 = .ok (.iload_n 2, 1) := by decide +kernel
theorem dX12_done_203 : decode cX12_done 203 = .ok (.ifCond .eq 7, 3) := by decide +kernel
theorem dX12_done_206 : decode cX12_done 206 = .ok (.iconst 1, 1) := by decide +kernel
theorem dX12_done_207 : decode cX12_done 207 = .ok (.goto 4, 3) := by decide +kernel
theorem dX12_done_210 : decode cX12_done 210 = .ok (.iconst 0, 1) := by decide +kernel
theorem dX12_done_211 : decode cX12_done 211 = .ok (.invokestatic 304, 3) := by decide +kernel
theorem dX12_done_214 : decode cX12_done 214 = .ok (.ireturn, 1) := by decide +kernel
theorem dX12_done_215 : decode cX12_done 215 = .ok (.iload_n 1, 1) := by decide +kernel
theorem dX12_done_216 : decode cX12_done 216 = .ok (.ifCond .ne 7, 3) := by decide +kernel
theorem dX12_done_219 : decode cX12_done 219 = .ok (.iload_n 2, 1) := by decide +kernel
theorem dX12_done_220 : decode cX12_done 220 = .ok (.ifCond .eq 7, 3) := by decide +kernel
theorem dX12_done_223 : decode cX12_done 223 = .ok (.iconst 1, 1) := by decide +kernel
theorem dX12_done_224 : decode cX12_done 224 = .ok (.goto 4, 3) := by decide +kernel
theorem dX12_done_227 : decode cX12_done 227 = .ok (.iconst 0, 1) := by decide +kernel
theorem dX12_done_228 : decode cX12_done 228 = .ok (.invokestatic 304, 3) := by decide +kernel
theorem dX12_done_231 : decode cX12_done 231 = .ok (.ireturn, 1) := by decide +kernel
theorem dX12_lesser_0 : decode cX12_lesser 0 = .ok (.iload_n 0, 1) := by decide +kernel
theorem dX12_lesser_1 : decode cX12_lesser 1 = .ok (.iload_n 1, 1) := by decide +kernel
theorem dX12_lesser_2 : decode cX12_lesser 2 = .ok (.if_icmp .ge 7, 3) := by decide +kernel
theorem dX12_lesser_5 : decode cX12_lesser 5 = .ok (.iload_n 0, 1) := by decide +kernel
theorem dX12_lesser_6 : decode cX12_lesser 6 = .ok (.goto 4, 3) := by decide +kernel
theorem dX12_lesser_9 : decode cX12_lesser 9 = .ok (.iload_n 1, 1) := by decide +kernel
theorem dX12_lesser_10 : decode cX12_lesser 10 = .ok (.ireturn, 1) := by decide +kernel
theorem dX12_greater_0 : decode cX12_greater 0 = .ok (.iload_n 0, 1) := by decide +kernel
theorem dX12_greater_1 : decode cX12_greater 1 = .ok (.iload_n 1, 1) := by decide +kernel
theorem dX12_greater_2 : decode cX12_greater 2 = .ok (.if_icmp .le 7, 3) := by decide +kernel
theorem dX12_greater_5 : decode cX12_greater 5 = .ok (.iload_n 0, 1) := by decide +kernel
theorem dX12_greater_6 : decode cX12_greater 6 = .ok (.goto 4, 3) := by decide +kernel
theorem dX12_greater_9 : decode cX12_greater 9 = .ok (.iload_n 1, 1) := by decide +kernel
theorem dX12_greater_10 : decode cX12_greater 10 = .ok (.ireturn, 1) := by decide +kernel
theorem dX12_members_0 : decode cX12_members 0 = .ok (.iconst 0, 1) := by decide +kernel
theorem dX12_members_1 : decode cX12_members 1 = .ok (.istore_n 1, 1) := by decide +kernel
theorem dX12_members_2 : decode cX12_members 2 = .ok (.iconst 0, 1) := by decide +kernel
theorem dX12_members_3 : decode cX12_members 3 = .ok (.istore_n 2, 1) := by decide +kernel
theorem dX12_members_4 : decode cX12_members 4 = .ok (.iload_n 2, 1) := by decide +kernel
theorem dX12_members_5 : decode cX12_members 5 = .ok (.bipush 8, 2) := by decide +kernel
theorem dX12_members_7 : decode cX12_members 7 = .ok (.if_icmp .ge 17, 3) := by decide +kernel
theorem dX12_members_10 : decode cX12_members 10 = .ok (.iload_n 1, 1) := by decide +kernel
theorem dX12_members_11 : decode cX12_members 11 = .ok (.iload_n 0, 1) := by decide +kernel
theorem dX12_members_12 : decode cX12_members 12 = .ok (.iload_n 2, 1) := by decide +kernel
theorem dX12_members_13 : decode cX12_members 13 = .ok (.ishr, 1) := by decide +kernel
theorem dX12_members_14 : decode cX12_members 14 = .ok (.iconst 1, 1) := by decide +kernel
theorem dX12_members_15 : decode cX12_members 15 = .ok (.iand, 1) := by decide +kernel
theorem dX12_members_16 : decode cX12_members 16 = .ok (.iadd, 1) := by decide +kernel
theorem dX12_members_17 : decode cX12_members 17 = .ok (.istore_n 1, 1) := by decide +kernel
theorem dX12_members_18 : decode cX12_members 18 = .ok (.iinc 2 1, 3) := by decide +kernel
theorem dX12_members_21 : decode cX12_members 21 = .ok (.goto (-17), 3) := by decide +kernel
theorem dX12_members_24 : decode cX12_members 24 = .ok (.iload_n 1, 1) := by decide +kernel
theorem dX12_members_25 : decode cX12_members 25 = .ok (.ireturn, 1) := by decide +kernel
theorem dX12_has_0 : decode cX12_has 0 = .ok (.iload_n 0, 1) := by decide +kernel
theorem dX12_has_1 : decode cX12_has 1 = .ok (.iload_n 1, 1) := by decide +kernel
theorem dX12_has_2 : decode cX12_has 2 = .ok (.ishr, 1) := by decide +kernel
theorem dX12_has_3 : decode cX12_has 3 = .ok (.iconst 1, 1) := by decide +kernel
theorem dX12_has_4 : decode cX12_has 4 = .ok (.iand, 1) := by decide +kernel
theorem dX12_has_5 : decode cX12_has 5 = .ok (.iconst 1, 1) := by decide +kernel
theorem dX12_has_6 : decode cX12_has 6 = .ok (.if_icmp .ne 7, 3) := by decide +kernel
theorem dX12_has_9 : decode cX12_has 9 = .ok (.iconst 1, 1) := by decide +kernel
theorem dX12_has_10 : decode cX12_has 10 = .ok (.goto 4, 3) := by decide +kernel
theorem dX12_has_13 : decode cX12_has 13 = .ok (.iconst 0, 1) := by decide +kernel
theorem dX12_has_14 : decode cX12_has 14 = .ok (.ireturn, 1) := by decide +kernel
theorem dX12_weightOf_0 : decode cX12_weightOf 0 = .ok (.aload_n 0, 1) := by decide +kernel
theorem dX12_weightOf_1 : decode cX12_weightOf 1 = .ok (.getfield 308, 3) := by decide +kernel
theorem dX12_weightOf_4 : decode cX12_weightOf 4 = .ok (.istore_n 2, 1) := by decide +kernel
theorem dX12_weightOf_5 : decode cX12_weightOf 5 = .ok (.iconst 0, 1) := by decide +kernel
theorem dX12_weightOf_6 : decode cX12_weightOf 6 = .ok (.istore_n 3, 1) := by decide +kernel
theorem dX12_weightOf_7 : decode cX12_weightOf 7 = .ok (.iload_n 3, 1) := by decide +kernel
theorem dX12_weightOf_8 : decode cX12_weightOf 8 = .ok (.iload_n 1, 1) := by decide +kernel
theorem dX12_weightOf_9 : decode cX12_weightOf 9 = .ok (.if_icmp .gt 22, 3) := by decide +kernel
theorem dX12_weightOf_12 : decode cX12_weightOf 12 = .ok (.iload_n 2, 1) := by decide +kernel
theorem dX12_weightOf_13 : decode cX12_weightOf 13 = .ok (.sipush 137, 3) := by decide +kernel
theorem dX12_weightOf_16 : decode cX12_weightOf 16 = .ok (.imul, 1) := by decide +kernel
theorem dX12_weightOf_17 : decode cX12_weightOf 17 = .ok (.bipush 71, 2) := by decide +kernel
theorem dX12_weightOf_19 : decode cX12_weightOf 19 = .ok (.iadd, 1) := by decide +kernel
theorem dX12_weightOf_20 : decode cX12_weightOf 20 = .ok (.sipush 1000, 3) := by decide +kernel
theorem dX12_weightOf_23 : decode cX12_weightOf 23 = .ok (.irem, 1) := by decide +kernel
theorem dX12_weightOf_24 : decode cX12_weightOf 24 = .ok (.istore_n 2, 1) := by decide +kernel
theorem dX12_weightOf_25 : decode cX12_weightOf 25 = .ok (.iinc 3 1, 3) := by decide +kernel
theorem dX12_weightOf_28 : decode cX12_weightOf 28 = .ok (.goto (-21), 3) := by decide +kernel
theorem dX12_weightOf_31 : decode cX12_weightOf 31 = .ok (.aload_n 0, 1) := by decide +kernel
theorem dX12_weightOf_32 : decode cX12_weightOf 32 = .ok (.getfield 35, 3) := by decide +kernel
theorem dX12_weightOf_35 : decode cX12_weightOf 35 = .ok (.iconst 0, 1) := by decide +kernel
theorem dX12_weightOf_36 : decode cX12_weightOf 36 = .ok (.iload_n 1, 1) := by decide +kernel
theorem dX12_weightOf_37 : decode cX12_weightOf 37 = .ok (.iastore, 1) := by decide +kernel
theorem dX12_weightOf_38 : decode cX12_weightOf 38 = .ok (.aload_n 0, 1) := by decide +kernel
theorem dX12_weightOf_39 : decode cX12_weightOf 39 = .ok (.getfield 35, 3) := by decide +kernel
theorem dX12_weightOf_42 : decode cX12_weightOf 42 = .ok (.iconst 1, 1) := by decide +kernel
theorem dX12_weightOf_43 : decode cX12_weightOf 43 = .ok (.aload_n 0, 1) := by decide +kernel
theorem dX12_weightOf_44 : decode cX12_weightOf 44 = .ok (.getfield 54, 3) := by decide +kernel
theorem dX12_weightOf_47 : decode cX12_weightOf 47 = .ok (.iload_n 1, 1) := by decide +kernel
theorem dX12_weightOf_48 : decode cX12_weightOf 48 = .ok (.iaload, 1) := by decide +kernel
theorem dX12_weightOf_49 : decode cX12_weightOf 49 = .ok (.iastore, 1) := by decide +kernel
theorem dX12_weightOf_50 : decode cX12_weightOf 50 = .ok (.aload_n 0, 1) := by decide +kernel
theorem dX12_weightOf_51 : decode cX12_weightOf 51 = .ok (.getfield 35, 3) := by decide +kernel
theorem dX12_weightOf_54 : decode cX12_weightOf 54 = .ok (.iconst 2, 1) := by decide +kernel
theorem dX12_weightOf_55 : decode cX12_weightOf 55 = .ok (.aload_n 0, 1) := by decide +kernel
theorem dX12_weightOf_56 : decode cX12_weightOf 56 = .ok (.getfield 60, 3) := by decide +kernel
theorem dX12_weightOf_59 : decode cX12_weightOf 59 = .ok (.iload_n 1, 1) := by decide +kernel
theorem dX12_weightOf_60 : decode cX12_weightOf 60 = .ok (.iaload, 1) := by decide +kernel
theorem dX12_weightOf_61 : decode cX12_weightOf 61 = .ok (.aload_n 0, 1) := by decide +kernel
theorem dX12_weightOf_62 : decode cX12_weightOf 62 = .ok (.getfield 54, 3) := by decide +kernel
theorem dX12_weightOf_65 : decode cX12_weightOf 65 = .ok (.iload_n 1, 1) := by decide +kernel
theorem dX12_weightOf_66 : decode cX12_weightOf 66 = .ok (.iaload, 1) := by decide +kernel
theorem dX12_weightOf_67 : decode cX12_weightOf 67 = .ok (.isub, 1) := by decide +kernel
theorem dX12_weightOf_68 : decode cX12_weightOf 68 = .ok (.iastore, 1) := by decide +kernel
theorem dX12_weightOf_69 : decode cX12_weightOf 69 = .ok (.aload_n 0, 1) := by decide +kernel
theorem dX12_weightOf_70 : decode cX12_weightOf 70 = .ok (.getfield 35, 3) := by decide +kernel
theorem dX12_weightOf_73 : decode cX12_weightOf 73 = .ok (.iconst 3, 1) := by decide +kernel
theorem dX12_weightOf_74 : decode cX12_weightOf 74 = .ok (.aload_n 0, 1) := by decide +kernel
theorem dX12_weightOf_75 : decode cX12_weightOf 75 = .ok (.getfield 63, 3) := by decide +kernel
theorem dX12_weightOf_78 : decode cX12_weightOf 78 = .ok (.iload_n 1, 1) := by decide +kernel
theorem dX12_weightOf_79 : decode cX12_weightOf 79 = .ok (.iaload, 1) := by decide +kernel
theorem dX12_weightOf_80 : decode cX12_weightOf 80 = .ok (.aload_n 0, 1) := by decide +kernel
theorem dX12_weightOf_81 : decode cX12_weightOf 81 = .ok (.getfield 57, 3) := by decide +kernel
theorem dX12_weightOf_84 : decode cX12_weightOf 84 = .ok (.iload_n 1, 1) := by decide +kernel
theorem dX12_weightOf_85 : decode cX12_weightOf 85 = .ok (.iaload, 1) := by decide +kernel
theorem dX12_weightOf_86 : decode cX12_weightOf 86 = .ok (.isub, 1) := by decide +kernel
theorem dX12_weightOf_87 : decode cX12_weightOf 87 = .ok (.iastore, 1) := by decide +kernel
theorem dX12_weightOf_88 : decode cX12_weightOf 88 = .ok (.aload_n 0, 1) := by decide +kernel
theorem dX12_weightOf_89 : decode cX12_weightOf 89 = .ok (.getfield 35, 3) := by decide +kernel
theorem dX12_weightOf_92 : decode cX12_weightOf 92 = .ok (.iconst 4, 1) := by decide +kernel
theorem dX12_weightOf_93 : decode cX12_weightOf 93 = .ok (.iload_n 2, 1) := by decide +kernel
theorem dX12_weightOf_94 : decode cX12_weightOf 94 = .ok (.bipush 100, 2) := by decide +kernel
theorem dX12_weightOf_96 : decode cX12_weightOf 96 = .ok (.irem, 1) := by decide +kernel
theorem dX12_weightOf_97 : decode cX12_weightOf 97 = .ok (.iastore, 1) := by decide +kernel
theorem dX12_weightOf_98 : decode cX12_weightOf 98 = .ok (.aload_n 0, 1) := by decide +kernel
theorem dX12_weightOf_99 : decode cX12_weightOf 99 = .ok (.getfield 311, 3) := by decide +kernel
theorem dX12_weightOf_102 : decode cX12_weightOf 102 = .ok (.ifCond .ne 10, 3) := by decide +kernel
theorem dX12_weightOf_105 : decode cX12_weightOf 105 = .ok (.aload_n 0, 1) := by decide +kernel
theorem dX12_weightOf_106 : decode cX12_weightOf 106 = .ok (.getfield 35, 3) := by decide +kernel
theorem dX12_weightOf_109 : decode cX12_weightOf 109 = .ok (.iconst 4, 1) := by decide +kernel
theorem dX12_weightOf_110 : decode cX12_weightOf 110 = .ok (.iaload, 1) := by decide +kernel
theorem dX12_weightOf_111 : decode cX12_weightOf 111 = .ok (.ireturn, 1) := by decide +kernel
theorem dX12_weightOf_112 : decode cX12_weightOf 112 = .ok (.iconst 0, 1) := by decide +kernel
theorem dX12_weightOf_113 : decode cX12_weightOf 113 = .ok (.istore_n 3, 1) := by decide +kernel
theorem dX12_weightOf_114 : decode cX12_weightOf 114 = .ok (.iconst 0, 1) := by decide +kernel
theorem dX12_weightOf_115 : decode cX12_weightOf 115 = .ok (.istore 4, 2) := by decide +kernel
theorem dX12_weightOf_117 : decode cX12_weightOf 117 = .ok (.iload 4, 2) := by decide +kernel
theorem dX12_weightOf_119 : decode cX12_weightOf 119 = .ok (.aload_n 0, 1) := by decide +kernel
theorem dX12_weightOf_120 : decode cX12_weightOf 120 = .ok (.getfield 314, 3) := by decide +kernel
theorem dX12_weightOf_123 : decode cX12_weightOf 123 = .ok (.if_icmp .ge 150, 3) := by decide +kernel
theorem dX12_weightOf_126 : decode cX12_weightOf 126 = .ok (.aload_n 0, 1) := by decide +kernel
theorem dX12_weightOf_127 : decode cX12_weightOf 127 = .ok (.getfield 23, 3) := by decide +kernel
theorem dX12_weightOf_130 : decode cX12_weightOf 130 = .ok (.iload 4, 2) := by decide +kernel
theorem dX12_weightOf_132 : decode cX12_weightOf 132 = .ok (.iaload, 1) := by decide +kernel
theorem dX12_weightOf_133 : decode cX12_weightOf 133 = .ok (.ifCond .eq 14, 3) := by decide +kernel
theorem dX12_weightOf_136 : decode cX12_weightOf 136 = .ok (.aload_n 0, 1) := by decide +kernel
theorem dX12_weightOf_137 : decode cX12_weightOf 137 = .ok (.getfield 23, 3) := by decide +kernel
theorem dX12_weightOf_140 : decode cX12_weightOf 140 = .ok (.iload 4, 2) := by decide +kernel
theorem dX12_weightOf_142 : decode cX12_weightOf 142 = .ok (.iaload, 1) := by decide +kernel
theorem dX12_weightOf_143 : decode cX12_weightOf 143 = .ok (.iconst 1, 1) := by decide +kernel
theorem dX12_weightOf_144 : decode cX12_weightOf 144 = .ok (.if_icmp .ne 47, 3) := by decide +kernel
theorem dX12_weightOf_147 : decode cX12_weightOf 147 = .ok (.aload_n 0, 1) := by decide +kernel
theorem dX12_weightOf_148 : decode cX12_weightOf 148 = .ok (.getfield 32, 3) := by decide +kernel
theorem dX12_weightOf_151 : decode cX12_weightOf 151 = .ok (.iload_n 3, 1) := by decide +kernel
theorem dX12_weightOf_152 : decode cX12_weightOf 152 = .ok (.aload_n 0, 1) := by decide +kernel
theorem dX12_weightOf_153 : decode cX12_weightOf 153 = .ok (.getfield 23, 3) := by decide +kernel
theorem dX12_weightOf_156 : decode cX12_weightOf 156 = .ok (.iload 4, 2) := by decide +kernel
theorem dX12_weightOf_158 : decode cX12_weightOf 158 = .ok (.iaload, 1) := by decide +kernel
theorem dX12_weightOf_159 : decode cX12_weightOf 159 = .ok (.ifCond .ne 13, 3) := by decide +kernel
theorem dX12_weightOf_162 : decode cX12_weightOf 162 = .ok (.aload_n 0, 1) := by decide +kernel
theorem dX12_weightOf_163 : decode cX12_weightOf 163 = .ok (.getfield 26, 3) := by decide +kernel
theorem dX12_weightOf_166 : decode cX12_weightOf 166 = .ok (.iload 4, 2) := by decide +kernel
theorem dX12_weightOf_168 : decode cX12_weightOf 168 = .ok (.iaload, 1) := by decide +kernel
theorem dX12_weightOf_169 : decode cX12_weightOf 169 = .ok (.goto 15, 3) := by decide +kernel
theorem dX12_weightOf_172 : decode cX12_weightOf 172 = .ok (.aload_n 0, 1) := by decide +kernel
theorem dX12_weightOf_173 : decode cX12_weightOf 173 = .ok (.getfield 35, 3) := by decide +kernel
theorem dX12_weightOf_176 : decode cX12_weightOf 176 = .ok (.aload_n 0, 1) := by decide +kernel
theorem dX12_weightOf_177 : decode cX12_weightOf 177 = .ok (.getfield 26, 3) := by decide +kernel
theorem dX12_weightOf_180 : decode cX12_weightOf 180 = .ok (.iload 4, 2) := by decide +kernel
theorem dX12_weightOf_182 : decode cX12_weightOf 182 = .ok (.iaload, 1) := by decide +kernel
theorem dX12_weightOf_183 : decode cX12_weightOf 183 = .ok (.iaload, 1) := by decide +kernel
theorem dX12_weightOf_184 : decode cX12_weightOf 184 = .ok (.iastore, 1) := by decide +kernel
theorem dX12_weightOf_185 : decode cX12_weightOf 185 = .ok (.iinc 3 1, 3) := by decide +kernel
theorem dX12_weightOf_188 : decode cX12_weightOf 188 = .ok (.goto 79, 3) := by decide +kernel
theorem dX12_weightOf_191 : decode cX12_weightOf 191 = .ok (.aload_n 0, 1) := by decide +kernel
theorem dX12_weightOf_192 : decode cX12_weightOf 192 = .ok (.getfield 23, 3) := by decide +kernel
theorem dX12_weightOf_195 : decode cX12_weightOf 195 = .ok (.iload 4, 2) := by decide +kernel
theorem dX12_weightOf_197 : decode cX12_weightOf 197 = .ok (.iaload, 1) := by decide +kernel
theorem dX12_weightOf_198 : decode cX12_weightOf 198 = .ok (.iconst 2, 1) := by decide +kernel
theorem dX12_weightOf_199 : decode cX12_weightOf 199 = .ok (.if_icmp .ne 33, 3) := by decide +kernel
theorem dX12_weightOf_202 : decode cX12_weightOf 202 = .ok (.aload_n 0, 1) := by decide +kernel
theorem dX12_weightOf_203 : decode cX12_weightOf 203 = .ok (.getfield 32, 3) := by decide +kernel
theorem dX12_weightOf_206 : decode cX12_weightOf 206 = .ok (.iload_n 3, 1) := by decide +kernel
theorem dX12_weightOf_207 : decode cX12_weightOf 207 = .ok (.iconst 1, 1) := by decide +kernel
theorem dX12_weightOf_208 : decode cX12_weightOf 208 = .ok (.isub, 1) := by decide +kernel
theorem dX12_weightOf_209 : decode cX12_weightOf 209 = .ok (.aload_n 0, 1) := by decide +kernel
theorem dX12_weightOf_210 : decode cX12_weightOf 210 = .ok (.getfield 32, 3) := by decide +kernel
theorem dX12_weightOf_213 : decode cX12_weightOf 213 = .ok (.iload_n 3, 1) := by decide +kernel
theorem dX12_weightOf_214 : decode cX12_weightOf 214 = .ok (.iconst 1, 1) := by decide +kernel
theorem dX12_weightOf_215 : decode cX12_weightOf 215 = .ok (.isub, 1) := by decide +kernel
theorem dX12_weightOf_216 : decode cX12_weightOf 216 = .ok (.iaload, 1) := by decide +kernel
theorem dX12_weightOf_217 : decode cX12_weightOf 217 = .ok (.ifCond .ne 7, 3) := by decide +kernel
theorem dX12_weightOf_220 : decode cX12_weightOf 220 = .ok (.iconst 1, 1) := by decide +kernel
theorem dX12_weightOf_221 : decode cX12_weightOf 221 = .ok (.goto 4, 3) := by decide +kernel
theorem dX12_weightOf_224 : decode cX12_weightOf 224 = .ok (.iconst 0, 1) := by decide +kernel
theorem dX12_weightOf_225 : decode cX12_weightOf 225 = .ok (.invokestatic 304, 3) := by decide +kernel
theorem dX12_weightOf_228 : decode cX12_weightOf 228 = .ok (.iastore, 1) := by decide +kernel
theorem dX12_weightOf_229 : decode cX12_weightOf 229 = .ok (.goto 38, 3) := by decide +kernel
theorem dX12_weightOf_232 : decode cX12_weightOf 232 = .ok (.iinc 3 (-1), 3) := by decide +kernel
theorem dX12_weightOf_235 : decode cX12_weightOf 235 = .ok (.aload_n 0, 1) := by decide +kernel
theorem dX12_weightOf_236 : decode cX12_weightOf 236 = .ok (.getfield 32, 3) := by decide +kernel
theorem dX12_weightOf_239 : decode cX12_weightOf 239 = .ok (.iload_n 3, 1) := by decide +kernel
theorem dX12_weightOf_240 : decode cX12_weightOf 240 = .ok (.iconst 1, 1) := by decide +kernel
theorem dX12_weightOf_241 : decode cX12_weightOf 241 = .ok (.isub, 1) := by decide +kernel
theorem dX12_weightOf_242 : decode cX12_weightOf 242 = .ok (.aload_n 0, 1) := by decide +kernel
theorem dX12_weightOf_243 : decode cX12_weightOf 243 = .ok (.getfield 26, 3) := by decide +kernel
theorem dX12_weightOf_246 : decode cX12_weightOf 246 = .ok (.iload 4, 2) := by decide +kernel
theorem dX12_weightOf_248 : decode cX12_weightOf 248 = .ok (.iaload, 1) := by decide +kernel
theorem dX12_weightOf_249 : decode cX12_weightOf 249 = .ok (.aload_n 0, 1) := by decide +kernel
theorem dX12_weightOf_250 : decode cX12_weightOf 250 = .ok (.getfield 32, 3) := by decide +kernel
theorem dX12_weightOf_253 : decode cX12_weightOf 253 = .ok (.iload_n 3, 1) := by decide +kernel
theorem dX12_weightOf_254 : decode cX12_weightOf 254 = .ok (.iconst 1, 1) := by decide +kernel
theorem dX12_weightOf_255 : decode cX12_weightOf 255 = .ok (.isub, 1) := by decide +kernel
theorem dX12_weightOf_256 : decode cX12_weightOf 256 = .ok (.iaload, 1) := by decide +kernel
theorem dX12_weightOf_257 : decode cX12_weightOf 257 = .ok (.aload_n 0, 1) := by decide +kernel
theorem dX12_weightOf_258 : decode cX12_weightOf 258 = .ok (.getfield 32, 3) := by decide +kernel
theorem dX12_weightOf_261 : decode cX12_weightOf 261 = .ok (.iload_n 3, 1) := by decide +kernel
theorem dX12_weightOf_262 : decode cX12_weightOf 262 = .ok (.iaload, 1) := by decide +kernel
theorem dX12_weightOf_263 : decode cX12_weightOf 263 = .ok (.invokestatic 317, 3) := by decide +kernel
theorem dX12_weightOf_266 : decode cX12_weightOf 266 = .ok (.iastore, 1) := by decide +kernel
theorem dX12_weightOf_267 : decode cX12_weightOf 267 = .ok (.iinc 4 1, 3) := by decide +kernel
theorem dX12_weightOf_270 : decode cX12_weightOf 270 = .ok (.goto (-153), 3) := by decide +kernel
theorem dX12_weightOf_273 : decode cX12_weightOf 273 = .ok (.aload_n 0, 1) := by decide +kernel
theorem dX12_weightOf_274 : decode cX12_weightOf 274 = .ok (.getfield 32, 3) := by decide +kernel
theorem dX12_weightOf_277 : decode cX12_weightOf 277 = .ok (.iconst 0, 1) := by decide +kernel
theorem dX12_weightOf_278 : decode cX12_weightOf 278 = .ok (.iaload, 1) := by decide +kernel
theorem dX12_weightOf_279 : decode cX12_weightOf 279 = .ok (.ireturn, 1) := by decide +kernel
theorem dX12_isTold_0 : decode cX12_isTold 0 = .ok (.iconst 0, 1) := by decide +kernel
theorem dX12_isTold_1 : decode cX12_isTold 1 = .ok (.istore_n 1, 1) := by decide +kernel
theorem dX12_isTold_2 : decode cX12_isTold 2 = .ok (.iconst 0, 1) := by decide +kernel
theorem dX12_isTold_3 : decode cX12_isTold 3 = .ok (.istore_n 2, 1) := by decide +kernel
theorem dX12_isTold_4 : decode cX12_isTold 4 = .ok (.iload_n 2, 1) := by decide +kernel
theorem dX12_isTold_5 : decode cX12_isTold 5 = .ok (.aload_n 0, 1) := by decide +kernel
theorem dX12_isTold_6 : decode cX12_isTold 6 = .ok (.getfield 321, 3) := by decide +kernel
theorem dX12_isTold_9 : decode cX12_isTold 9 = .ok (.if_icmp .ge 33, 3) := by decide +kernel
theorem dX12_isTold_12 : decode cX12_isTold 12 = .ok (.iload_n 1, 1) := by decide +kernel
theorem dX12_isTold_13 : decode cX12_isTold 13 = .ok (.ifCond .ne 17, 3) := by decide +kernel
theorem dX12_isTold_16 : decode cX12_isTold 16 = .ok (.aload_n 0, 1) := by decide +kernel
theorem dX12_isTold_17 : decode cX12_isTold 17 = .ok (.getfield 38, 3) := by decide +kernel
theorem dX12_isTold_20 : decode cX12_isTold 20 = .ok (.iload_n 2, 1) := by decide +kernel
theorem dX12_isTold_21 : decode cX12_isTold 21 = .ok (.laload, 1) := by decide +kernel
theorem dX12_isTold_22 : decode cX12_isTold 22 = .ok (.aload_n 0, 1) := by decide +kernel
theorem dX12_isTold_23 : decode cX12_isTold 23 = .ok (.getfield 171, 3) := by decide +kernel
theorem dX12_isTold_26 : decode cX12_isTold 26 = .ok (.lcmp, 1) := by decide +kernel
theorem dX12_isTold_27 : decode cX12_isTold 27 = .ok (.ifCond .ne 7, 3) := by decide +kernel
theorem dX12_isTold_30 : decode cX12_isTold 30 = .ok (.iconst 1, 1) := by decide +kernel
theorem dX12_isTold_31 : decode cX12_isTold 31 = .ok (.goto 4, 3) := by decide +kernel
theorem dX12_isTold_34 : decode cX12_isTold 34 = .ok (.iconst 0, 1) := by decide +kernel
theorem dX12_isTold_35 : decode cX12_isTold 35 = .ok (.istore_n 1, 1) := by decide +kernel
theorem dX12_isTold_36 : decode cX12_isTold 36 = .ok (.iinc 2 1, 3) := by decide +kernel
theorem dX12_isTold_39 : decode cX12_isTold 39 = .ok (.goto (-35), 3) := by decide +kernel
theorem dX12_isTold_42 : decode cX12_isTold 42 = .ok (.iload_n 1, 1) := by decide +kernel
theorem dX12_isTold_43 : decode cX12_isTold 43 = .ok (.ireturn, 1) := by decide +kernel
theorem dX12_nFarther_0 : decode cX12_nFarther 0 = .ok (.aload_n 0, 1) := by decide +kernel
theorem dX12_nFarther_1 : decode cX12_nFarther 1 = .ok (.getfield 48, 3) := by decide +kernel
theorem dX12_nFarther_4 : decode cX12_nFarther 4 = .ok (.iload_n 1, 1) := by decide +kernel
theorem dX12_nFarther_5 : decode cX12_nFarther 5 = .ok (.iaload, 1) := by decide +kernel
theorem dX12_nFarther_6 : decode cX12_nFarther 6 = .ok (.aload_n 0, 1) := by decide +kernel
theorem dX12_nFarther_7 : decode cX12_nFarther 7 = .ok (.getfield 42, 3) := by decide +kernel
theorem dX12_nFarther_10 : decode cX12_nFarther 10 = .ok (.iload_n 1, 1) := by decide +kernel
theorem dX12_nFarther_11 : decode cX12_nFarther 11 = .ok (.iaload, 1) := by decide +kernel
theorem dX12_nFarther_12 : decode cX12_nFarther 12 = .ok (.isub, 1) := by decide +kernel
theorem dX12_nFarther_13 : decode cX12_nFarther 13 = .ok (.istore 4, 2) := by decide +kernel
theorem dX12_nFarther_15 : decode cX12_nFarther 15 = .ok (.aload_n 0, 1) := by decide +kernel
theorem dX12_nFarther_16 : decode cX12_nFarther 16 = .ok (.getfield 48, 3) := by decide +kernel
theorem dX12_nFarther_19 : decode cX12_nFarther 19 = .ok (.iload_n 2, 1) := by decide +kernel
theorem dX12_nFarther_20 : decode cX12_nFarther 20 = .ok (.iaload, 1) := by decide +kernel
theorem dX12_nFarther_21 : decode cX12_nFarther 21 = .ok (.aload_n 0, 1) := by decide +kernel
theorem dX12_nFarther_22 : decode cX12_nFarther 22 = .ok (.getfield 42, 3) := by decide +kernel
theorem dX12_nFarther_25 : decode cX12_nFarther 25 = .ok (.iload_n 2, 1) := by decide +kernel
theorem dX12_nFarther_26 : decode cX12_nFarther 26 = .ok (.iaload, 1) := by decide +kernel
theorem dX12_nFarther_27 : decode cX12_nFarther 27 = .ok (.isub, 1) := by decide +kernel
theorem dX12_nFarther_28 : decode cX12_nFarther 28 = .ok (.istore 5, 2) := by decide +kernel
theorem dX12_nFarther_30 : decode cX12_nFarther 30 = .ok (.aload_n 0, 1) := by decide +kernel
theorem dX12_nFarther_31 : decode cX12_nFarther 31 = .ok (.getfield 45, 3) := by decide +kernel
theorem dX12_nFarther_34 : decode cX12_nFarther 34 = .ok (.iload_n 1, 1) := by decide +kernel
theorem dX12_nFarther_35 : decode cX12_nFarther 35 = .ok (.iaload, 1) := by decide +kernel
theorem dX12_nFarther_36 : decode cX12_nFarther 36 = .ok (.iload 4, 2) := by decide +kernel
theorem dX12_nFarther_38 : decode cX12_nFarther 38 = .ok (.imul, 1) := by decide +kernel
theorem dX12_nFarther_39 : decode cX12_nFarther 39 = .ok (.aload_n 0, 1) := by decide +kernel
theorem dX12_nFarther_40 : decode cX12_nFarther 40 = .ok (.getfield 51, 3) := by decide +kernel
theorem dX12_nFarther_43 : decode cX12_nFarther 43 = .ok (.iload_n 1, 1) := by decide +kernel
theorem dX12_nFarther_44 : decode cX12_nFarther 44 = .ok (.iaload, 1) := by decide +kernel
theorem dX12_nFarther_45 : decode cX12_nFarther 45 = .ok (.aload_n 0, 1) := by decide +kernel
theorem dX12_nFarther_46 : decode cX12_nFarther 46 = .ok (.getfield 45, 3) := by decide +kernel
theorem dX12_nFarther_49 : decode cX12_nFarther 49 = .ok (.iload_n 1, 1) := by decide +kernel
theorem dX12_nFarther_50 : decode cX12_nFarther 50 = .ok (.iaload, 1) := by decide +kernel
theorem dX12_nFarther_51 : decode cX12_nFarther 51 = .ok (.isub, 1) := by decide +kernel
theorem dX12_nFarther_52 : decode cX12_nFarther 52 = .ok (.iload_n 3, 1) := by decide +kernel
theorem dX12_nFarther_53 : decode cX12_nFarther 53 = .ok (.aload_n 0, 1) := by decide +kernel
theorem dX12_nFarther_54 : decode cX12_nFarther 54 = .ok (.getfield 42, 3) := by decide +kernel
theorem dX12_nFarther_57 : decode cX12_nFarther 57 = .ok (.iload_n 1, 1) := by decide +kernel
theorem dX12_nFarther_58 : decode cX12_nFarther 58 = .ok (.iaload, 1) := by decide +kernel
theorem dX12_nFarther_59 : decode cX12_nFarther 59 = .ok (.isub, 1) := by decide +kernel
theorem dX12_nFarther_60 : decode cX12_nFarther 60 = .ok (.imul, 1) := by decide +kernel
theorem dX12_nFarther_61 : decode cX12_nFarther 61 = .ok (.iadd, 1) := by decide +kernel
theorem dX12_nFarther_62 : decode cX12_nFarther 62 = .ok (.istore 6, 2) := by decide +kernel
theorem dX12_nFarther_64 : decode cX12_nFarther 64 = .ok (.aload_n 0, 1) := by decide +kernel
theorem dX12_nFarther_65 : decode cX12_nFarther 65 = .ok (.getfield 45, 3) := by decide +kernel
theorem dX12_nFarther_68 : decode cX12_nFarther 68 = .ok (.iload_n 2, 1) := by decide +kernel
theorem dX12_nFarther_69 : decode cX12_nFarther 69 = .ok (.iaload, 1) := by decide +kernel
theorem dX12_nFarther_70 : decode cX12_nFarther 70 = .ok (.iload 5, 2) := by decide +kernel
theorem dX12_nFarther_72 : decode cX12_nFarther 72 = .ok (.imul, 1) := by decide +kernel
theorem dX12_nFarther_73 : decode cX12_nFarther 73 = .ok (.aload_n 0, 1) := by decide +kernel
theorem dX12_nFarther_74 : decode cX12_nFarther 74 = .ok (.getfield 51, 3) := by decide +kernel
theorem dX12_nFarther_77 : decode cX12_nFarther 77 = .ok (.iload_n 2, 1) := by decide +kernel
theorem dX12_nFarther_78 : decode cX12_nFarther 78 = .ok (.iaload, 1) := by decide +kernel
theorem dX12_nFarther_79 : decode cX12_nFarther 79 = .ok (.aload_n 0, 1) := by decide +kernel
theorem dX12_nFarther_80 : decode cX12_nFarther 80 = .ok (.getfield 45, 3) := by decide +kernel
theorem dX12_nFarther_83 : decode cX12_nFarther 83 = .ok (.iload_n 2, 1) := by decide +kernel
theorem dX12_nFarther_84 : decode cX12_nFarther 84 = .ok (.iaload, 1) := by decide +kernel
theorem dX12_nFarther_85 : decode cX12_nFarther 85 = .ok (.isub, 1) := by decide +kernel
theorem dX12_nFarther_86 : decode cX12_nFarther 86 = .ok (.iload_n 3, 1) := by decide +kernel
theorem dX12_nFarther_87 : decode cX12_nFarther 87 = .ok (.aload_n 0, 1) := by decide +kernel
theorem dX12_nFarther_88 : decode cX12_nFarther 88 = .ok (.getfield 42, 3) := by decide +kernel
theorem dX12_nFarther_91 : decode cX12_nFarther 91 = .ok (.iload_n 2, 1) := by decide +kernel
theorem dX12_nFarther_92 : decode cX12_nFarther 92 = .ok (.iaload, 1) := by decide +kernel
theorem dX12_nFarther_93 : decode cX12_nFarther 93 = .ok (.isub, 1) := by decide +kernel
theorem dX12_nFarther_94 : decode cX12_nFarther 94 = .ok (.imul, 1) := by decide +kernel
theorem dX12_nFarther_95 : decode cX12_nFarther 95 = .ok (.iadd, 1) := by decide +kernel
theorem dX12_nFarther_96 : decode cX12_nFarther 96 = .ok (.istore 7, 2) := by decide +kernel
theorem dX12_nFarther_98 : decode cX12_nFarther 98 = .ok (.iload 6, 2) := by decide +kernel
theorem dX12_nFarther_100 : decode cX12_nFarther 100 = .ok (.iload 5, 2) := by decide +kernel
theorem dX12_nFarther_102 : decode cX12_nFarther 102 = .ok (.imul, 1) := by decide +kernel
theorem dX12_nFarther_103 : decode cX12_nFarther 103 = .ok (.iload 7, 2) := by decide +kernel
theorem dX12_nFarther_105 : decode cX12_nFarther 105 = .ok (.iload 4, 2) := by decide +kernel
theorem dX12_nFarther_107 : decode cX12_nFarther 107 = .ok (.imul, 1) := by decide +kernel
theorem dX12_nFarther_108 : decode cX12_nFarther 108 = .ok (.isub, 1) := by decide +kernel
theorem dX12_nFarther_109 : decode cX12_nFarther 109 = .ok (.ireturn, 1) := by decide +kernel
theorem dX12_doMeet_0 : decode cX12_doMeet 0 = .ok (.aload_n 0, 1) := by decide +kernel
theorem dX12_doMeet_1 : decode cX12_doMeet 1 = .ok (.getfield 42, 3) := by decide +kernel
theorem dX12_doMeet_4 : decode cX12_doMeet 4 = .ok (.iload_n 1, 1) := by decide +kernel
theorem dX12_doMeet_5 : decode cX12_doMeet 5 = .ok (.iaload, 1) := by decide +kernel
theorem dX12_doMeet_6 : decode cX12_doMeet 6 = .ok (.aload_n 0, 1) := by decide +kernel
theorem dX12_doMeet_7 : decode cX12_doMeet 7 = .ok (.getfield 42, 3) := by decide +kernel
theorem dX12_doMeet_10 : decode cX12_doMeet 10 = .ok (.iload_n 2, 1) := by decide +kernel
theorem dX12_doMeet_11 : decode cX12_doMeet 11 = .ok (.iaload, 1) := by decide +kernel
theorem dX12_doMeet_12 : decode cX12_doMeet 12 = .ok (.invokestatic 324, 3) := by decide +kernel
theorem dX12_doMeet_15 : decode cX12_doMeet 15 = .ok (.istore_n 3, 1) := by decide +kernel
theorem dX12_doMeet_16 : decode cX12_doMeet 16 = .ok (.aload_n 0, 1) := by decide +kernel
theorem dX12_doMeet_17 : decode cX12_doMeet 17 = .ok (.getfield 48, 3) := by decide +kernel
theorem dX12_doMeet_20 : decode cX12_doMeet 20 = .ok (.iload_n 1, 1) := by decide +kernel
theorem dX12_doMeet_21 : decode cX12_doMeet 21 = .ok (.iaload, 1) := by decide +kernel
theorem dX12_doMeet_22 : decode cX12_doMeet 22 = .ok (.aload_n 0, 1) := by decide +kernel
theorem dX12_doMeet_23 : decode cX12_doMeet 23 = .ok (.getfield 48, 3) := by decide +kernel
theorem dX12_doMeet_26 : decode cX12_doMeet 26 = .ok (.iload_n 2, 1) := by decide +kernel
theorem dX12_doMeet_27 : decode cX12_doMeet 27 = .ok (.iaload, 1) := by decide +kernel
theorem dX12_doMeet_28 : decode cX12_doMeet 28 = .ok (.invokestatic 327, 3) := by decide +kernel
theorem dX12_doMeet_31 : decode cX12_doMeet 31 = .ok (.istore 4, 2) := by decide +kernel
theorem dX12_doMeet_33 : decode cX12_doMeet 33 = .ok (.iload_n 3, 1) := by decide +kernel
theorem dX12_doMeet_34 : decode cX12_doMeet 34 = .ok (.iload 4, 2) := by decide +kernel
theorem dX12_doMeet_36 : decode cX12_doMeet 36 = .ok (.if_icmp .lt 5, 3) := by decide +kernel
theorem dX12_doMeet_39 : decode cX12_doMeet 39 = .ok (.iconst 0, 1) := by decide +kernel
theorem dX12_doMeet_40 : decode cX12_doMeet 40 = .ok (.ireturn, 1) := by decide +kernel
theorem dX12_doMeet_41 : decode cX12_doMeet 41 = .ok (.aload_n 0, 1) := by decide +kernel
theorem dX12_doMeet_42 : decode cX12_doMeet 42 = .ok (.iload_n 1, 1) := by decide +kernel
theorem dX12_doMeet_43 : decode cX12_doMeet 43 = .ok (.iload_n 2, 1) := by decide +kernel
theorem dX12_doMeet_44 : decode cX12_doMeet 44 = .ok (.iload_n 3, 1) := by decide +kernel
theorem dX12_doMeet_45 : decode cX12_doMeet 45 = .ok (.invokevirtual 330, 3) := by decide +kernel
theorem dX12_doMeet_48 : decode cX12_doMeet 48 = .ok (.istore 5, 2) := by decide +kernel
theorem dX12_doMeet_50 : decode cX12_doMeet 50 = .ok (.aload_n 0, 1) := by decide +kernel
theorem dX12_doMeet_51 : decode cX12_doMeet 51 = .ok (.iload_n 1, 1) := by decide +kernel
theorem dX12_doMeet_52 : decode cX12_doMeet 52 = .ok (.iload_n 2, 1) := by decide +kernel
theorem dX12_doMeet_53 : decode cX12_doMeet 53 = .ok (.iload 4, 2) := by decide +kernel
theorem dX12_doMeet_55 : decode cX12_doMeet 55 = .ok (.invokevirtual 330, 3) := by decide +kernel
theorem dX12_doMeet_58 : decode cX12_doMeet 58 = .ok (.istore 6, 2) := by decide +kernel
theorem dX12_doMeet_60 : decode cX12_doMeet 60 = .ok (.iload 5, 2) := by decide +kernel
theorem dX12_doMeet_62 : decode cX12_doMeet 62 = .ok (.ifCond .ne 10, 3) := by decide +kernel
theorem dX12_doMeet_65 : decode cX12_doMeet 65 = .ok (.iload 6, 2) := by decide +kernel
theorem dX12_doMeet_67 : decode cX12_doMeet 67 = .ok (.ifCond .ne 5, 3) := by decide +kernel
theorem dX12_doMeet_70 : decode cX12_doMeet 70 = .ok (.iconst 1, 1) := by decide +kernel
theorem dX12_doMeet_71 : decode cX12_doMeet 71 = .ok (.ireturn, 1) := by decide +kernel
theorem dX12_doMeet_72 : decode cX12_doMeet 72 = .ok (.iload 5, 2) := by decide +kernel
theorem dX12_doMeet_74 : decode cX12_doMeet 74 = .ok (.ifCond .ne 24, 3) := by decide +kernel
theorem dX12_doMeet_77 : decode cX12_doMeet 77 = .ok (.aload_n 0, 1) := by decide +kernel
theorem dX12_doMeet_78 : decode cX12_doMeet 78 = .ok (.getfield 42, 3) := by decide +kernel
theorem dX12_doMeet_81 : decode cX12_doMeet 81 = .ok (.iload_n 1, 1) := by decide +kernel
theorem dX12_doMeet_82 : decode cX12_doMeet 82 = .ok (.iaload, 1) := by decide +kernel
theorem dX12_doMeet_83 : decode cX12_doMeet 83 = .ok (.aload_n 0, 1) := by decide +kernel
theorem dX12_doMeet_84 : decode cX12_doMeet 84 = .ok (.getfield 42, 3) := by decide +kernel
theorem dX12_doMeet_87 : decode cX12_doMeet 87 = .ok (.iload_n 2, 1) := by decide +kernel
theorem dX12_doMeet_88 : decode cX12_doMeet 88 = .ok (.iaload, 1) := by decide +kernel
theorem dX12_doMeet_89 : decode cX12_doMeet 89 = .ok (.if_icmp .eq 7, 3) := by decide +kernel
theorem dX12_doMeet_92 : decode cX12_doMeet 92 = .ok (.iconst 1, 1) := by decide +kernel
theorem dX12_doMeet_93 : decode cX12_doMeet 93 = .ok (.goto 4, 3) := by decide +kernel
theorem dX12_doMeet_96 : decode cX12_doMeet 96 = .ok (.iconst 0, 1) := by decide +kernel
theorem dX12_doMeet_97 : decode cX12_doMeet 97 = .ok (.ireturn, 1) := by decide +kernel
theorem dX12_doMeet_98 : decode cX12_doMeet 98 = .ok (.iload 6, 2) := by decide +kernel
theorem dX12_doMeet_100 : decode cX12_doMeet 100 = .ok (.ifCond .ne 24, 3) := by decide +kernel
theorem dX12_doMeet_103 : decode cX12_doMeet 103 = .ok (.aload_n 0, 1) := by decide +kernel
theorem dX12_doMeet_104 : decode cX12_doMeet 104 = .ok (.getfield 48, 3) := by decide +kernel
theorem dX12_doMeet_107 : decode cX12_doMeet 107 = .ok (.iload_n 1, 1) := by decide +kernel
theorem dX12_doMeet_108 : decode cX12_doMeet 108 = .ok (.iaload, 1) := by decide +kernel
theorem dX12_doMeet_109 : decode cX12_doMeet 109 = .ok (.aload_n 0, 1) := by decide +kernel
theorem dX12_doMeet_110 : decode cX12_doMeet 110 = .ok (.getfield 48, 3) := by decide +kernel
theorem dX12_doMeet_113 : decode cX12_doMeet 113 = .ok (.iload_n 2, 1) := by decide +kernel
theorem dX12_doMeet_114 : decode cX12_doMeet 114 = .ok (.iaload, 1) := by decide +kernel
theorem dX12_doMeet_115 : decode cX12_doMeet 115 = .ok (.if_icmp .eq 7, 3) := by decide +kernel
theorem dX12_doMeet_118 : decode cX12_doMeet 118 = .ok (.iconst 1, 1) := by decide +kernel
theorem dX12_doMeet_119 : decode cX12_doMeet 119 = .ok (.goto 4, 3) := by decide +kernel
theorem dX12_doMeet_122 : decode cX12_doMeet 122 = .ok (.iconst 0, 1) := by decide +kernel
theorem dX12_doMeet_123 : decode cX12_doMeet 123 = .ok (.ireturn, 1) := by decide +kernel
theorem dX12_doMeet_124 : decode cX12_doMeet 124 = .ok (.iload 5, 2) := by decide +kernel
theorem dX12_doMeet_126 : decode cX12_doMeet 126 = .ok (.ifCond .le 7, 3) := by decide +kernel
theorem dX12_doMeet_129 : decode cX12_doMeet 129 = .ok (.iconst 1, 1) := by decide +kernel
theorem dX12_doMeet_130 : decode cX12_doMeet 130 = .ok (.goto 4, 3) := by decide +kernel
theorem dX12_doMeet_133 : decode cX12_doMeet 133 = .ok (.iconst 0, 1) := by decide +kernel
theorem dX12_doMeet_134 : decode cX12_doMeet 134 = .ok (.iload 6, 2) := by decide +kernel
theorem dX12_doMeet_136 : decode cX12_doMeet 136 = .ok (.ifCond .le 7, 3) := by decide +kernel
theorem dX12_doMeet_139 : decode cX12_doMeet 139 = .ok (.iconst 1, 1) := by decide +kernel
theorem dX12_doMeet_140 : decode cX12_doMeet 140 = .ok (.goto 4, 3) := by decide +kernel
theorem dX12_doMeet_143 : decode cX12_doMeet 143 = .ok (.iconst 0, 1) := by decide +kernel
theorem dX12_doMeet_144 : decode cX12_doMeet 144 = .ok (.if_icmp .eq 7, 3) := by decide +kernel
theorem dX12_doMeet_147 : decode cX12_doMeet 147 = .ok (.iconst 1, 1) := by decide +kernel
theorem dX12_doMeet_148 : decode cX12_doMeet 148 = .ok (.goto 4, 3) := by decide +kernel
theorem dX12_doMeet_151 : decode cX12_doMeet 151 = .ok (.iconst 0, 1) := by decide +kernel
theorem dX12_doMeet_152 : decode cX12_doMeet 152 = .ok (.ireturn, 1) := by decide +kernel
theorem dX12_readSegment_0 : decode cX12_readSegment 0 = .ok (.aload_n 0, 1) := by decide +kernel
theorem dX12_readSegment_1 : decode cX12_readSegment 1 = .ok (.invokevirtual 233, 3) := by decide +kernel
theorem dX12_readSegment_4 : decode cX12_readSegment 4 = .ok (.aload_n 0, 1) := by decide +kernel
theorem dX12_readSegment_5 : decode cX12_readSegment 5 = .ok (.invokevirtual 333, 3) := by decide +kernel
theorem dX12_readSegment_8 : decode cX12_readSegment 8 = .ok (.ifCond .ne 11, 3) := by decide +kernel
theorem dX12_readSegment_11 : decode cX12_readSegment 11 = .ok (.aload_n 0, 1) := by decide +kernel
theorem dX12_readSegment_12 : decode cX12_readSegment 12 = .ok (.iconst 2, 1) := by decide +kernel
theorem dX12_readSegment_13 : decode cX12_readSegment 13 = .ok (.invokevirtual 230, 3) := by decide +kernel
theorem dX12_readSegment_16 : decode cX12_readSegment 16 = .ok (.goto 15, 3) := by decide +kernel
theorem dX12_readSegment_19 : decode cX12_readSegment 19 = .ok (.aload_n 0, 1) := by decide +kernel
theorem dX12_readSegment_20 : decode cX12_readSegment 20 = .ok (.invokevirtual 336, 3) := by decide +kernel
theorem dX12_readSegment_23 : decode cX12_readSegment 23 = .ok (.ifCond .eq 8, 3) := by decide +kernel
theorem dX12_readSegment_26 : decode cX12_readSegment 26 = .ok (.aload_n 0, 1) := by decide +kernel
theorem dX12_readSegment_27 : decode cX12_readSegment 27 = .ok (.iconst 3, 1) := by decide +kernel
theorem dX12_readSegment_28 : decode cX12_readSegment 28 = .ok (.invokevirtual 230, 3) := by decide +kernel
theorem dX12_readSegment_31 : decode cX12_readSegment 31 = .ok (.aload_n 0, 1) := by decide +kernel
theorem dX12_readSegment_32 : decode cX12_readSegment 32 = .ok (.getfield 191, 3) := by decide +kernel
theorem dX12_readSegment_35 : decode cX12_readSegment 35 = .ok (.ifCond .le 4, 3) := by decide +kernel
theorem dX12_readSegment_38 : decode cX12_readSegment 38 = .ok (.return_, 1) := by decide +kernel
theorem dX12_readSegment_39 : decode cX12_readSegment 39 = .ok (.aload_n 0, 1) := by decide +kernel
theorem dX12_readSegment_40 : decode cX12_readSegment 40 = .ok (.getfield 321, 3) := by decide +kernel
theorem dX12_readSegment_43 : decode cX12_readSegment 43 = .ok (.istore_n 1, 1) := by decide +kernel
theorem dX12_readSegment_44 : decode cX12_readSegment 44 = .ok (.aload_n 0, 1) := by decide +kernel
theorem dX12_readSegment_45 : decode cX12_readSegment 45 = .ok (.getfield 38, 3) := by decide +kernel
theorem dX12_readSegment_48 : decode cX12_readSegment 48 = .ok (.iload_n 1, 1) := by decide +kernel
theorem dX12_readSegment_49 : decode cX12_readSegment 49 = .ok (.aload_n 0, 1) := by decide +kernel
theorem dX12_readSegment_50 : decode cX12_readSegment 50 = .ok (.getfield 171, 3) := by decide +kernel
theorem dX12_readSegment_53 : decode cX12_readSegment 53 = .ok (.lastore, 1) := by decide +kernel
theorem dX12_readSegment_54 : decode cX12_readSegment 54 = .ok (.aload_n 0, 1) := by decide +kernel
theorem dX12_readSegment_55 : decode cX12_readSegment 55 = .ok (.invokevirtual 233, 3) := by decide +kernel
theorem dX12_readSegment_58 : decode cX12_readSegment 58 = .ok (.aload_n 0, 1) := by decide +kernel
theorem dX12_readSegment_59 : decode cX12_readSegment 59 = .ok (.getfield 42, 3) := by decide +kernel
theorem dX12_readSegment_62 : decode cX12_readSegment 62 = .ok (.iload_n 1, 1) := by decide +kernel
theorem dX12_readSegment_63 : decode cX12_readSegment 63 = .ok (.aload_n 0, 1) := by decide +kernel
theorem dX12_readSegment_64 : decode cX12_readSegment 64 = .ok (.ldc2_w 196, 3) := by decide +kernel
theorem dX12_readSegment_67 : decode cX12_readSegment 67 = .ok (.iconst 0, 1) := by decide +kernel
theorem dX12_readSegment_68 : decode cX12_readSegment 68 = .ok (.bipush 59, 2) := by decide +kernel
theorem dX12_readSegment_70 : decode cX12_readSegment 70 = .ok (.invokevirtual 339, 3) := by decide +kernel
theorem dX12_readSegment_73 : decode cX12_readSegment 73 = .ok (.iastore, 1) := by decide +kernel
theorem dX12_readSegment_74 : decode cX12_readSegment 74 = .ok (.aload_n 0, 1) := by decide +kernel
theorem dX12_readSegment_75 : decode cX12_readSegment 75 = .ok (.getfield 45, 3) := by decide +kernel
theorem dX12_readSegment_78 : decode cX12_readSegment 78 = .ok (.iload_n 1, 1) := by decide +kernel
theorem dX12_readSegment_79 : decode cX12_readSegment 79 = .ok (.aload_n 0, 1) := by decide +kernel
theorem dX12_readSegment_80 : decode cX12_readSegment 80 = .ok (.iconst 0, 1) := by decide +kernel
theorem dX12_readSegment_81 : decode cX12_readSegment 81 = .ok (.bipush 60, 2) := by decide +kernel
theorem dX12_readSegment_83 : decode cX12_readSegment 83 = .ok (.invokevirtual 244, 3) := by decide +kernel
theorem dX12_readSegment_86 : decode cX12_readSegment 86 = .ok (.iastore, 1) := by decide +kernel
theorem dX12_readSegment_87 : decode cX12_readSegment 87 = .ok (.aload_n 0, 1) := by decide +kernel
theorem dX12_readSegment_88 : decode cX12_readSegment 88 = .ok (.getfield 48, 3) := by decide +kernel
theorem dX12_readSegment_91 : decode cX12_readSegment 91 = .ok (.iload_n 1, 1) := by decide +kernel
theorem dX12_readSegment_92 : decode cX12_readSegment 92 = .ok (.aload_n 0, 1) := by decide +kernel
theorem dX12_readSegment_93 : decode cX12_readSegment 93 = .ok (.ldc2_w 198, 3) := by decide +kernel
theorem dX12_readSegment_96 : decode cX12_readSegment 96 = .ok (.aload_n 0, 1) := by decide +kernel
theorem dX12_readSegment_97 : decode cX12_readSegment 97 = .ok (.getfield 42, 3) := by decide +kernel
theorem dX12_readSegment_100 : decode cX12_readSegment 100 = .ok (.iload_n 1, 1) := by decide +kernel
theorem dX12_readSegment_101 : decode cX12_readSegment 101 = .ok (.iaload, 1) := by decide +kernel
theorem dX12_readSegment_102 : decode cX12_readSegment 102 = .ok (.iconst 1, 1) := by decide +kernel
theorem dX12_readSegment_103 : decode cX12_readSegment 103 = .ok (.iadd, 1) := by decide +kernel
theorem dX12_readSegment_104 : decode cX12_readSegment 104 = .ok (.bipush 60, 2) := by decide +kernel
theorem dX12_readSegment_106 : decode cX12_readSegment 106 = .ok (.invokevirtual 339, 3) := by decide +kernel
theorem dX12_readSegment_109 : decode cX12_readSegment 109 = .ok (.iastore, 1) := by decide +kernel
theorem dX12_readSegment_110 : decode cX12_readSegment 110 = .ok (.aload_n 0, 1) := by decide +kernel
theorem dX12_readSegment_111 : decode cX12_readSegment 111 = .ok (.getfield 51, 3) := by decide +kernel
theorem dX12_readSegment_114 : decode cX12_readSegment 114 = .ok (.iload_n 1, 1) := by decide +kernel
theorem dX12_readSegment_115 : decode cX12_readSegment 115 = .ok (.aload_n 0, 1) := by decide +kernel
theorem dX12_readSegment_116 : decode cX12_readSegment 116 = .ok (.iconst 0, 1) := by decide +kernel
theorem dX12_readSegment_117 : decode cX12_readSegment 117 = .ok (.bipush 60, 2) := by decide +kernel
theorem dX12_readSegment_119 : decode cX12_readSegment 119 = .ok (.invokevirtual 236, 3) := by decide +kernel
theorem dX12_readSegment_122 : decode cX12_readSegment 122 = .ok (.iastore, 1) := by decide +kernel
theorem dX12_readSegment_123 : decode cX12_readSegment 123 = .ok (.iconst 0, 1) := by decide +kernel
theorem dX12_readSegment_124 : decode cX12_readSegment 124 = .ok (.istore_n 2, 1) := by decide +kernel
theorem dX12_readSegment_125 : decode cX12_readSegment 125 = .ok (.iload_n 2, 1) := by decide +kernel
theorem dX12_readSegment_126 : decode cX12_readSegment 126 = .ok (.iload_n 1, 1) := by decide +kernel
theorem dX12_readSegment_127 : decode cX12_readSegment 127 = .ok (.if_icmp .ge 30, 3) := by decide +kernel
theorem dX12_readSegment_130 : decode cX12_readSegment 130 = .ok (.aload_n 0, 1) := by decide +kernel
theorem dX12_readSegment_131 : decode cX12_readSegment 131 = .ok (.getfield 191, 3) := by decide +kernel
theorem dX12_readSegment_134 : decode cX12_readSegment 134 = .ok (.ifCond .ne 23, 3) := by decide +kernel
theorem dX12_readSegment_137 : decode cX12_readSegment 137 = .ok (.aload_n 0, 1) := by decide +kernel
theorem dX12_readSegment_138 : decode cX12_readSegment 138 = .ok (.iload_n 2, 1) := by decide +kernel
theorem dX12_readSegment_139 : decode cX12_readSegment 139 = .ok (.iload_n 1, 1) := by decide +kernel
theorem dX12_readSegment_140 : decode cX12_readSegment 140 = .ok (.invokevirtual 343, 3) := by decide +kernel
theorem dX12_readSegment_143 : decode cX12_readSegment 143 = .ok (.ifCond .eq 8, 3) := by decide +kernel
theorem dX12_readSegment_146 : decode cX12_readSegment 146 = .ok (.aload_n 0, 1) := by decide +kernel
theorem dX12_readSegment_147 : decode cX12_readSegment 147 = .ok (.iconst 5, 1) := by decide +kernel
theorem dX12_readSegment_148 : decode cX12_readSegment 148 = .ok (.invokevirtual 230, 3) := by decide +kernel
theorem dX12_readSegment_151 : decode cX12_readSegment 151 = .ok (.iinc 2 1, 3) := by decide +kernel
theorem dX12_readSegment_154 : decode cX12_readSegment 154 = .ok (.goto (-29), 3) := by decide +kernel
theorem dX12_readSegment_157 : decode cX12_readSegment 157 = .ok (.aload_n 0, 1) := by decide +kernel
theorem dX12_readSegment_158 : decode cX12_readSegment 158 = .ok (.getfield 191, 3) := by decide +kernel
theorem dX12_readSegment_161 : decode cX12_readSegment 161 = .ok (.ifCond .le 4, 3) := by decide +kernel
theorem dX12_readSegment_164 : decode cX12_readSegment 164 = .ok (.return_, 1) := by decide +kernel
theorem dX12_readSegment_165 : decode cX12_readSegment 165 = .ok (.aload_n 0, 1) := by decide +kernel
theorem dX12_readSegment_166 : decode cX12_readSegment 166 = .ok (.invokevirtual 233, 3) := by decide +kernel
theorem dX12_readSegment_169 : decode cX12_readSegment 169 = .ok (.aload_n 0, 1) := by decide +kernel
theorem dX12_readSegment_170 : decode cX12_readSegment 170 = .ok (.dup, 1) := by decide +kernel
theorem dX12_readSegment_171 : decode cX12_readSegment 171 = .ok (.getfield 321, 3) := by decide +kernel
theorem dX12_readSegment_174 : decode cX12_readSegment 174 = .ok (.iconst 1, 1) := by decide +kernel
theorem dX12_readSegment_175 : decode cX12_readSegment 175 = .ok (.iadd, 1) := by decide +kernel
theorem dX12_readSegment_176 : decode cX12_readSegment 176 = .ok (.putfield 321, 3) := by decide +kernel
theorem dX12_readSegment_179 : decode cX12_readSegment 179 = .ok (.return_, 1) := by decide +kernel
theorem dX12_readLine_0 : decode cX12_readLine 0 = .ok (.aload_n 0, 1) := by decide +kernel
theorem dX12_readLine_1 : decode cX12_readLine 1 = .ok (.ldc2_w 194, 3) := by decide +kernel
theorem dX12_readLine_4 : decode cX12_readLine 4 = .ok (.invokevirtual 226, 3) := by decide +kernel
theorem dX12_readLine_7 : decode cX12_readLine 7 = .ok (.ifCond .eq 19, 3) := by decide +kernel
theorem dX12_readLine_10 : decode cX12_readLine 10 = .ok (.aload_n 0, 1) := by decide +kernel
theorem dX12_readLine_11 : decode cX12_readLine 11 = .ok (.getfield 321, 3) := by decide +kernel
theorem dX12_readLine_14 : decode cX12_readLine 14 = .ok (.bipush 8, 2) := by decide +kernel
theorem dX12_readLine_16 : decode cX12_readLine 16 = .ok (.if_icmp .ge 10, 3) := by decide +kernel
theorem dX12_readLine_19 : decode cX12_readLine 19 = .ok (.aload_n 0, 1) := by decide +kernel
theorem dX12_readLine_20 : decode cX12_readLine 20 = .ok (.invokevirtual 347, 3) := by decide +kernel
theorem dX12_readLine_23 : decode cX12_readLine 23 = .ok (.goto 111, 3) := by decide +kernel
theorem dX12_readLine_26 : decode cX12_readLine 26 = .ok (.aload_n 0, 1) := by decide +kernel
theorem dX12_readLine_27 : decode cX12_readLine 27 = .ok (.ldc2_w 200, 3) := by decide +kernel
theorem dX12_readLine_30 : decode cX12_readLine 30 = .ok (.invokevirtual 226, 3) := by decide +kernel
theorem dX12_readLine_33 : decode cX12_readLine 33 = .ok (.ifCond .eq 17, 3) := by decide +kernel
theorem dX12_readLine_36 : decode cX12_readLine 36 = .ok (.aload_n 0, 1) := by decide +kernel
theorem dX12_readLine_37 : decode cX12_readLine 37 = .ok (.getfield 285, 3) := by decide +kernel
theorem dX12_readLine_40 : decode cX12_readLine 40 = .ok (.ifCond .ne 10, 3) := by decide +kernel
theorem dX12_readLine_43 : decode cX12_readLine 43 = .ok (.aload_n 0, 1) := by decide +kernel
theorem dX12_readLine_44 : decode cX12_readLine 44 = .ok (.invokevirtual 350, 3) := by decide +kernel
theorem dX12_readLine_47 : decode cX12_readLine 47 = .ok (.goto 87, 3) := by decide +kernel
theorem dX12_readLine_50 : decode cX12_readLine 50 = .ok (.aload_n 0, 1) := by decide +kernel
theorem dX12_readLine_51 : decode cX12_readLine 51 = .ok (.ldc2_w 202, 3) := by decide +kernel
theorem dX12_readLine_54 : decode cX12_readLine 54 = .ok (.invokevirtual 226, 3) := by decide +kernel
theorem dX12_readLine_57 : decode cX12_readLine 57 = .ok (.ifCond .eq 32, 3) := by decide +kernel
theorem dX12_readLine_60 : decode cX12_readLine 60 = .ok (.aload_n 0, 1) := by decide +kernel
theorem dX12_readLine_61 : decode cX12_readLine 61 = .ok (.getfield 353, 3) := by decide +kernel
theorem dX12_readLine_64 : decode cX12_readLine 64 = .ok (.ifCond .ne 25, 3) := by decide +kernel
theorem dX12_readLine_67 : decode cX12_readLine 67 = .ok (.aload_n 0, 1) := by decide +kernel
theorem dX12_readLine_68 : decode cX12_readLine 68 = .ok (.iconst 1, 1) := by decide +kernel
theorem dX12_readLine_69 : decode cX12_readLine 69 = .ok (.putfield 353, 3) := by decide +kernel
theorem dX12_readLine_72 : decode cX12_readLine 72 = .ok (.aload_n 0, 1) := by decide +kernel
theorem dX12_readLine_73 : decode cX12_readLine 73 = .ok (.aload_n 0, 1) := by decide +kernel
theorem dX12_readLine_74 : decode cX12_readLine 74 = .ok (.ldc2_w 202, 3) := by decide +kernel
theorem dX12_readLine_77 : decode cX12_readLine 77 = .ok (.iconst 1, 1) := by decide +kernel
theorem dX12_readLine_78 : decode cX12_readLine 78 = .ok (.bipush 6, 2) := by decide +kernel
theorem dX12_readLine_80 : decode cX12_readLine 80 = .ok (.invokevirtual 339, 3) := by decide +kernel
theorem dX12_readLine_83 : decode cX12_readLine 83 = .ok (.putfield 356, 3) := by decide +kernel
theorem dX12_readLine_86 : decode cX12_readLine 86 = .ok (.goto 48, 3) := by decide +kernel
theorem dX12_readLine_89 : decode cX12_readLine 89 = .ok (.aload_n 0, 1) := by decide +kernel
theorem dX12_readLine_90 : decode cX12_readLine 90 = .ok (.ldc2_w 204, 3) := by decide +kernel
theorem dX12_readLine_93 : decode cX12_readLine 93 = .ok (.invokevirtual 226, 3) := by decide +kernel
theorem dX12_readLine_96 : decode cX12_readLine 96 = .ok (.ifCond .eq 33, 3) := by decide +kernel
theorem dX12_readLine_99 : decode cX12_readLine 99 = .ok (.aload_n 0, 1) := by decide +kernel
theorem dX12_readLine_100 : decode cX12_readLine 100 = .ok (.getfield 359, 3) := by decide +kernel
theorem dX12_readLine_103 : decode cX12_readLine 103 = .ok (.ifCond .ne 26, 3) := by decide +kernel
theorem dX12_readLine_106 : decode cX12_readLine 106 = .ok (.aload_n 0, 1) := by decide +kernel
theorem dX12_readLine_107 : decode cX12_readLine 107 = .ok (.iconst 1, 1) := by decide +kernel
theorem dX12_readLine_108 : decode cX12_readLine 108 = .ok (.putfield 359, 3) := by decide +kernel
theorem dX12_readLine_111 : decode cX12_readLine 111 = .ok (.aload_n 0, 1) := by decide +kernel
theorem dX12_readLine_112 : decode cX12_readLine 112 = .ok (.aload_n 0, 1) := by decide +kernel
theorem dX12_readLine_113 : decode cX12_readLine 113 = .ok (.ldc2_w 204, 3) := by decide +kernel
theorem dX12_readLine_116 : decode cX12_readLine 116 = .ok (.iconst 0, 1) := by decide +kernel
theorem dX12_readLine_117 : decode cX12_readLine 117 = .ok (.sipush 999, 3) := by decide +kernel
theorem dX12_readLine_120 : decode cX12_readLine 120 = .ok (.invokevirtual 339, 3) := by decide +kernel
theorem dX12_readLine_123 : decode cX12_readLine 123 = .ok (.putfield 362, 3) := by decide +kernel
theorem dX12_readLine_126 : decode cX12_readLine 126 = .ok (.goto 8, 3) := by decide +kernel
theorem dX12_readLine_129 : decode cX12_readLine 129 = .ok (.aload_n 0, 1) := by decide +kernel
theorem dX12_readLine_130 : decode cX12_readLine 130 = .ok (.iconst 2, 1) := by decide +kernel
theorem dX12_readLine_131 : decode cX12_readLine 131 = .ok (.invokevirtual 230, 3) := by decide +kernel
theorem dX12_readLine_134 : decode cX12_readLine 134 = .ok (.aload_n 0, 1) := by decide +kernel
theorem dX12_readLine_135 : decode cX12_readLine 135 = .ok (.getfield 191, 3) := by decide +kernel
theorem dX12_readLine_138 : decode cX12_readLine 138 = .ok (.ifCond .ne 17, 3) := by decide +kernel
theorem dX12_readLine_141 : decode cX12_readLine 141 = .ok (.aload_n 0, 1) := by decide +kernel
theorem dX12_readLine_142 : decode cX12_readLine 142 = .ok (.getfield 178, 3) := by decide +kernel
theorem dX12_readLine_145 : decode cX12_readLine 145 = .ok (.bipush 59, 2) := by decide +kernel
theorem dX12_readLine_147 : decode cX12_readLine 147 = .ok (.if_icmp .eq 8, 3) := by decide +kernel
theorem dX12_readLine_150 : decode cX12_readLine 150 = .ok (.aload_n 0, 1) := by decide +kernel
theorem dX12_readLine_151 : decode cX12_readLine 151 = .ok (.iconst 2, 1) := by decide +kernel
theorem dX12_readLine_152 : decode cX12_readLine 152 = .ok (.invokevirtual 230, 3) := by decide +kernel
theorem dX12_readLine_155 : decode cX12_readLine 155 = .ok (.aload_n 0, 1) := by decide +kernel
theorem dX12_readLine_156 : decode cX12_readLine 156 = .ok (.getfield 191, 3) := by decide +kernel
theorem dX12_readLine_159 : decode cX12_readLine 159 = .ok (.ifCond .ne 7, 3) := by decide +kernel
theorem dX12_readLine_162 : decode cX12_readLine 162 = .ok (.aload_n 0, 1) := by decide +kernel
theorem dX12_readLine_163 : decode cX12_readLine 163 = .ok (.invokevirtual 233, 3) := by decide +kernel
theorem dX12_readLine_166 : decode cX12_readLine 166 = .ok (.return_, 1) := by decide +kernel
theorem dX12_readAll_0 : decode cX12_readAll 0 = .ok (.aload_n 0, 1) := by decide +kernel
theorem dX12_readAll_1 : decode cX12_readAll 1 = .ok (.aload_n 0, 1) := by decide +kernel
theorem dX12_readAll_2 : decode cX12_readAll 2 = .ok (.getfield 151, 3) := by decide +kernel
theorem dX12_readAll_5 : decode cX12_readAll 5 = .ok (.putfield 161, 3) := by decide +kernel
theorem dX12_readAll_8 : decode cX12_readAll 8 = .ok (.aload_n 0, 1) := by decide +kernel
theorem dX12_readAll_9 : decode cX12_readAll 9 = .ok (.iconst 0, 1) := by decide +kernel
theorem dX12_readAll_10 : decode cX12_readAll 10 = .ok (.putfield 151, 3) := by decide +kernel
theorem dX12_readAll_13 : decode cX12_readAll 13 = .ok (.aload_n 0, 1) := by decide +kernel
theorem dX12_readAll_14 : decode cX12_readAll 14 = .ok (.iconst 0, 1) := by decide +kernel
theorem dX12_readAll_15 : decode cX12_readAll 15 = .ok (.putfield 158, 3) := by decide +kernel
theorem dX12_readAll_18 : decode cX12_readAll 18 = .ok (.aload_n 0, 1) := by decide +kernel
theorem dX12_readAll_19 : decode cX12_readAll 19 = .ok (.iconst 0, 1) := by decide +kernel
theorem dX12_readAll_20 : decode cX12_readAll 20 = .ok (.putfield 191, 3) := by decide +kernel
theorem dX12_readAll_23 : decode cX12_readAll 23 = .ok (.aload_n 0, 1) := by decide +kernel
theorem dX12_readAll_24 : decode cX12_readAll 24 = .ok (.iconst (-1), 1) := by decide +kernel
theorem dX12_readAll_25 : decode cX12_readAll 25 = .ok (.putfield 13, 3) := by decide +kernel
theorem dX12_readAll_28 : decode cX12_readAll 28 = .ok (.aload_n 0, 1) := by decide +kernel
theorem dX12_readAll_29 : decode cX12_readAll 29 = .ok (.iconst 0, 1) := by decide +kernel
theorem dX12_readAll_30 : decode cX12_readAll 30 = .ok (.putfield 321, 3) := by decide +kernel
theorem dX12_readAll_33 : decode cX12_readAll 33 = .ok (.aload_n 0, 1) := by decide +kernel
theorem dX12_readAll_34 : decode cX12_readAll 34 = .ok (.iconst 3, 1) := by decide +kernel
theorem dX12_readAll_35 : decode cX12_readAll 35 = .ok (.putfield 356, 3) := by decide +kernel
theorem dX12_readAll_38 : decode cX12_readAll 38 = .ok (.aload_n 0, 1) := by decide +kernel
theorem dX12_readAll_39 : decode cX12_readAll 39 = .ok (.iconst 0, 1) := by decide +kernel
theorem dX12_readAll_40 : decode cX12_readAll 40 = .ok (.putfield 362, 3) := by decide +kernel
theorem dX12_readAll_43 : decode cX12_readAll 43 = .ok (.aload_n 0, 1) := by decide +kernel
theorem dX12_readAll_44 : decode cX12_readAll 44 = .ok (.iconst 0, 1) := by decide +kernel
theorem dX12_readAll_45 : decode cX12_readAll 45 = .ok (.putfield 353, 3) := by decide +kernel
theorem dX12_readAll_48 : decode cX12_readAll 48 = .ok (.aload_n 0, 1) := by decide +kernel
theorem dX12_readAll_49 : decode cX12_readAll 49 = .ok (.iconst 0, 1) := by decide +kernel
theorem dX12_readAll_50 : decode cX12_readAll 50 = .ok (.putfield 359, 3) := by decide +kernel
theorem dX12_readAll_53 : decode cX12_readAll 53 = .ok (.aload_n 0, 1) := by decide +kernel
theorem dX12_readAll_54 : decode cX12_readAll 54 = .ok (.iconst 0, 1) := by decide +kernel
theorem dX12_readAll_55 : decode cX12_readAll 55 = .ok (.putfield 285, 3) := by decide +kernel
theorem dX12_readAll_58 : decode cX12_readAll 58 = .ok (.aload_n 0, 1) := by decide +kernel
theorem dX12_readAll_59 : decode cX12_readAll 59 = .ok (.iconst 0, 1) := by decide +kernel
theorem dX12_readAll_60 : decode cX12_readAll 60 = .ok (.putfield 263, 3) := by decide +kernel
theorem dX12_readAll_63 : decode cX12_readAll 63 = .ok (.aload_n 0, 1) := by decide +kernel
theorem dX12_readAll_64 : decode cX12_readAll 64 = .ok (.invokevirtual 233, 3) := by decide +kernel
theorem dX12_readAll_67 : decode cX12_readAll 67 = .ok (.aload_n 0, 1) := by decide +kernel
theorem dX12_readAll_68 : decode cX12_readAll 68 = .ok (.getfield 191, 3) := by decide +kernel
theorem dX12_readAll_71 : decode cX12_readAll 71 = .ok (.ifCond .ne 17, 3) := by decide +kernel
theorem dX12_readAll_74 : decode cX12_readAll 74 = .ok (.aload_n 0, 1) := by decide +kernel
theorem dX12_readAll_75 : decode cX12_readAll 75 = .ok (.getfield 178, 3) := by decide +kernel
theorem dX12_readAll_78 : decode cX12_readAll 78 = .ok (.ifCond .eq 10, 3) := by decide +kernel
theorem dX12_readAll_81 : decode cX12_readAll 81 = .ok (.aload_n 0, 1) := by decide +kernel
theorem dX12_readAll_82 : decode cX12_readAll 82 = .ok (.invokevirtual 365, 3) := by decide +kernel
theorem dX12_readAll_85 : decode cX12_readAll 85 = .ok (.goto (-18), 3) := by decide +kernel
theorem dX12_readAll_88 : decode cX12_readAll 88 = .ok (.return_, 1) := by decide +kernel
theorem dX12_map_0 : decode cX12_map 0 = .ok (.aload_n 0, 1) := by decide +kernel
theorem dX12_map_1 : decode cX12_map 1 = .ok (.invokevirtual 368, 3) := by decide +kernel
theorem dX12_map_4 : decode cX12_map 4 = .ok (.aload_n 0, 1) := by decide +kernel
theorem dX12_map_5 : decode cX12_map 5 = .ok (.getfield 191, 3) := by decide +kernel
theorem dX12_map_8 : decode cX12_map 8 = .ok (.ifCond .le 5, 3) := by decide +kernel
theorem dX12_map_11 : decode cX12_map 11 = .ok (.iconst (-1), 1) := by decide +kernel
theorem dX12_map_12 : decode cX12_map 12 = .ok (.ireturn, 1) := by decide +kernel
theorem dX12_map_13 : decode cX12_map 13 = .ok (.aload_n 0, 1) := by decide +kernel
theorem dX12_map_14 : decode cX12_map 14 = .ok (.aload_n 0, 1) := by decide +kernel
theorem dX12_map_15 : decode cX12_map 15 = .ok (.getfield 321, 3) := by decide +kernel
theorem dX12_map_18 : decode cX12_map 18 = .ok (.putfield 371, 3) := by decide +kernel
theorem dX12_map_21 : decode cX12_map 21 = .ok (.aload_n 0, 1) := by decide +kernel
theorem dX12_map_22 : decode cX12_map 22 = .ok (.aload_n 0, 1) := by decide +kernel
theorem dX12_map_23 : decode cX12_map 23 = .ok (.getfield 356, 3) := by decide +kernel
theorem dX12_map_26 : decode cX12_map 26 = .ok (.putfield 69, 3) := by decide +kernel
theorem dX12_map_29 : decode cX12_map 29 = .ok (.aload_n 0, 1) := by decide +kernel
theorem dX12_map_30 : decode cX12_map 30 = .ok (.aload_n 0, 1) := by decide +kernel
theorem dX12_map_31 : decode cX12_map 31 = .ok (.getfield 362, 3) := by decide +kernel
theorem dX12_map_34 : decode cX12_map 34 = .ok (.putfield 308, 3) := by decide +kernel
theorem dX12_map_37 : decode cX12_map 37 = .ok (.aload_n 0, 1) := by decide +kernel
theorem dX12_map_38 : decode cX12_map 38 = .ok (.aload_n 0, 1) := by decide +kernel
theorem dX12_map_39 : decode cX12_map 39 = .ok (.getfield 263, 3) := by decide +kernel
theorem dX12_map_42 : decode cX12_map 42 = .ok (.putfield 374, 3) := by decide +kernel
theorem dX12_map_45 : decode cX12_map 45 = .ok (.aload_n 0, 1) := by decide +kernel
theorem dX12_map_46 : decode cX12_map 46 = .ok (.aload_n 0, 1) := by decide +kernel
theorem dX12_map_47 : decode cX12_map 47 = .ok (.getfield 285, 3) := by decide +kernel
theorem dX12_map_50 : decode cX12_map 50 = .ok (.putfield 311, 3) := by decide +kernel
theorem dX12_map_53 : decode cX12_map 53 = .ok (.aload_n 0, 1) := by decide +kernel
theorem dX12_map_54 : decode cX12_map 54 = .ok (.aload_n 0, 1) := by decide +kernel
theorem dX12_map_55 : decode cX12_map 55 = .ok (.getfield 285, 3) := by decide +kernel
theorem dX12_map_58 : decode cX12_map 58 = .ok (.ifCond .eq 10, 3) := by decide +kernel
theorem dX12_map_61 : decode cX12_map 61 = .ok (.aload_n 0, 1) := by decide +kernel
theorem dX12_map_62 : decode cX12_map 62 = .ok (.getfield 247, 3) := by decide +kernel
theorem dX12_map_65 : decode cX12_map 65 = .ok (.goto 4, 3) := by decide +kernel
theorem dX12_map_68 : decode cX12_map 68 = .ok (.iconst 0, 1) := by decide +kernel
theorem dX12_map_69 : decode cX12_map 69 = .ok (.putfield 314, 3) := by decide +kernel
theorem dX12_map_72 : decode cX12_map 72 = .ok (.iconst 0, 1) := by decide +kernel
theorem dX12_map_73 : decode cX12_map 73 = .ok (.istore_n 1, 1) := by decide +kernel
theorem dX12_map_74 : decode cX12_map 74 = .ok (.iload_n 1, 1) := by decide +kernel
theorem dX12_map_75 : decode cX12_map 75 = .ok (.aload_n 0, 1) := by decide +kernel
theorem dX12_map_76 : decode cX12_map 76 = .ok (.getfield 314, 3) := by decide +kernel
theorem dX12_map_79 : decode cX12_map 79 = .ok (.if_icmp .ge 33, 3) := by decide +kernel
theorem dX12_map_82 : decode cX12_map 82 = .ok (.aload_n 0, 1) := by decide +kernel
theorem dX12_map_83 : decode cX12_map 83 = .ok (.getfield 23, 3) := by decide +kernel
theorem dX12_map_86 : decode cX12_map 86 = .ok (.iload_n 1, 1) := by decide +kernel
theorem dX12_map_87 : decode cX12_map 87 = .ok (.aload_n 0, 1) := by decide +kernel
theorem dX12_map_88 : decode cX12_map 88 = .ok (.getfield 17, 3) := by decide +kernel
theorem dX12_map_91 : decode cX12_map 91 = .ok (.iload_n 1, 1) := by decide +kernel
theorem dX12_map_92 : decode cX12_map 92 = .ok (.iaload, 1) := by decide +kernel
theorem dX12_map_93 : decode cX12_map 93 = .ok (.iastore, 1) := by decide +kernel
theorem dX12_map_94 : decode cX12_map 94 = .ok (.aload_n 0, 1) := by decide +kernel
theorem dX12_map_95 : decode cX12_map 95 = .ok (.getfield 26, 3) := by decide +kernel
theorem dX12_map_98 : decode cX12_map 98 = .ok (.iload_n 1, 1) := by decide +kernel
theorem dX12_map_99 : decode cX12_map 99 = .ok (.aload_n 0, 1) := by decide +kernel
theorem dX12_map_100 : decode cX12_map 100 = .ok (.getfield 20, 3) := by decide +kernel
theorem dX12_map_103 : decode cX12_map 103 = .ok (.iload_n 1, 1) := by decide +kernel
theorem dX12_map_104 : decode cX12_map 104 = .ok (.iaload, 1) := by decide +kernel
theorem dX12_map_105 : decode cX12_map 105 = .ok (.iastore, 1) := by decide +kernel
theorem dX12_map_106 : decode cX12_map 106 = .ok (.iinc 1 1, 3) := by decide +kernel
theorem dX12_map_109 : decode cX12_map 109 = .ok (.goto (-35), 3) := by decide +kernel
theorem dX12_map_112 : decode cX12_map 112 = .ok (.iconst 0, 1) := by decide +kernel
theorem dX12_map_113 : decode cX12_map 113 = .ok (.istore_n 1, 1) := by decide +kernel
theorem dX12_map_114 : decode cX12_map 114 = .ok (.iload_n 1, 1) := by decide +kernel
theorem dX12_map_115 : decode cX12_map 115 = .ok (.aload_n 0, 1) := by decide +kernel
theorem dX12_map_116 : decode cX12_map 116 = .ok (.getfield 371, 3) := by decide +kernel
theorem dX12_map_119 : decode cX12_map 119 = .ok (.if_icmp .ge 57, 3) := by decide +kernel
theorem dX12_map_122 : decode cX12_map 122 = .ok (.aload_n 0, 1) := by decide +kernel
theorem dX12_map_123 : decode cX12_map 123 = .ok (.getfield 54, 3) := by decide +kernel
theorem dX12_map_126 : decode cX12_map 126 = .ok (.iload_n 1, 1) := by decide +kernel
theorem dX12_map_127 : decode cX12_map 127 = .ok (.aload_n 0, 1) := by decide +kernel
theorem dX12_map_128 : decode cX12_map 128 = .ok (.getfield 42, 3) := by decide +kernel
theorem dX12_map_131 : decode cX12_map 131 = .ok (.iload_n 1, 1) := by decide +kernel
theorem dX12_map_132 : decode cX12_map 132 = .ok (.iaload, 1) := by decide +kernel
theorem dX12_map_133 : decode cX12_map 133 = .ok (.iastore, 1) := by decide +kernel
theorem dX12_map_134 : decode cX12_map 134 = .ok (.aload_n 0, 1) := by decide +kernel
theorem dX12_map_135 : decode cX12_map 135 = .ok (.getfield 57, 3) := by decide +kernel
theorem dX12_map_138 : decode cX12_map 138 = .ok (.iload_n 1, 1) := by decide +kernel
theorem dX12_map_139 : decode cX12_map 139 = .ok (.aload_n 0, 1) := by decide +kernel
theorem dX12_map_140 : decode cX12_map 140 = .ok (.getfield 45, 3) := by decide +kernel
theorem dX12_map_143 : decode cX12_map 143 = .ok (.iload_n 1, 1) := by decide +kernel
theorem dX12_map_144 : decode cX12_map 144 = .ok (.iaload, 1) := by decide +kernel
theorem dX12_map_145 : decode cX12_map 145 = .ok (.iastore, 1) := by decide +kernel
theorem dX12_map_146 : decode cX12_map 146 = .ok (.aload_n 0, 1) := by decide +kernel
theorem dX12_map_147 : decode cX12_map 147 = .ok (.getfield 60, 3) := by decide +kernel
theorem dX12_map_150 : decode cX12_map 150 = .ok (.iload_n 1, 1) := by decide +kernel
theorem dX12_map_151 : decode cX12_map 151 = .ok (.aload_n 0, 1) := by decide +kernel
theorem dX12_map_152 : decode cX12_map 152 = .ok (.getfield 48, 3) := by decide +kernel
theorem dX12_map_155 : decode cX12_map 155 = .ok (.iload_n 1, 1) := by decide +kernel
theorem dX12_map_156 : decode cX12_map 156 = .ok (.iaload, 1) := by decide +kernel
theorem dX12_map_157 : decode cX12_map 157 = .ok (.iastore, 1) := by decide +kernel
theorem dX12_map_158 : decode cX12_map 158 = .ok (.aload_n 0, 1) := by decide +kernel
theorem dX12_map_159 : decode cX12_map 159 = .ok (.getfield 63, 3) := by decide +kernel
theorem dX12_map_162 : decode cX12_map 162 = .ok (.iload_n 1, 1) := by decide +kernel
theorem dX12_map_163 : decode cX12_map 163 = .ok (.aload_n 0, 1) := by decide +kernel
theorem dX12_map_164 : decode cX12_map 164 = .ok (.getfield 51, 3) := by decide +kernel
theorem dX12_map_167 : decode cX12_map 167 = .ok (.iload_n 1, 1) := by decide +kernel
theorem dX12_map_168 : decode cX12_map 168 = .ok (.iaload, 1) := by decide +kernel
theorem dX12_map_169 : decode cX12_map 169 = .ok (.iastore, 1) := by decide +kernel
theorem dX12_map_170 : decode cX12_map 170 = .ok (.iinc 1 1, 3) := by decide +kernel
theorem dX12_map_173 : decode cX12_map 173 = .ok (.goto (-59), 3) := by decide +kernel
theorem dX12_map_176 : decode cX12_map 176 = .ok (.iconst 0, 1) := by decide +kernel
theorem dX12_map_177 : decode cX12_map 177 = .ok (.istore_n 1, 1) := by decide +kernel
theorem dX12_map_178 : decode cX12_map 178 = .ok (.iload_n 1, 1) := by decide +kernel
theorem dX12_map_179 : decode cX12_map 179 = .ok (.aload_n 0, 1) := by decide +kernel
theorem dX12_map_180 : decode cX12_map 180 = .ok (.getfield 371, 3) := by decide +kernel
theorem dX12_map_183 : decode cX12_map 183 = .ok (.if_icmp .ge 20, 3) := by decide +kernel
theorem dX12_map_186 : decode cX12_map 186 = .ok (.aload_n 0, 1) := by decide +kernel
theorem dX12_map_187 : decode cX12_map 187 = .ok (.getfield 66, 3) := by decide +kernel
theorem dX12_map_190 : decode cX12_map 190 = .ok (.iload_n 1, 1) := by decide +kernel
theorem dX12_map_191 : decode cX12_map 191 = .ok (.aload_n 0, 1) := by decide +kernel
theorem dX12_map_192 : decode cX12_map 192 = .ok (.iload_n 1, 1) := by decide +kernel
theorem dX12_map_193 : decode cX12_map 193 = .ok (.invokevirtual 377, 3) := by decide +kernel
theorem dX12_map_196 : decode cX12_map 196 = .ok (.iastore, 1) := by decide +kernel
theorem dX12_map_197 : decode cX12_map 197 = .ok (.iinc 1 1, 3) := by decide +kernel
theorem dX12_map_200 : decode cX12_map 200 = .ok (.goto (-22), 3) := by decide +kernel
theorem dX12_map_203 : decode cX12_map 203 = .ok (.aload_n 0, 1) := by decide +kernel
theorem dX12_map_204 : decode cX12_map 204 = .ok (.invokevirtual 380, 3) := by decide +kernel
theorem dX12_map_207 : decode cX12_map 207 = .ok (.aload_n 0, 1) := by decide +kernel
theorem dX12_map_208 : decode cX12_map 208 = .ok (.iconst 0, 1) := by decide +kernel
theorem dX12_map_209 : decode cX12_map 209 = .ok (.putfield 383, 3) := by decide +kernel
theorem dX12_map_212 : decode cX12_map 212 = .ok (.aload_n 0, 1) := by decide +kernel
theorem dX12_map_213 : decode cX12_map 213 = .ok (.iconst 0, 1) := by decide +kernel
theorem dX12_map_214 : decode cX12_map 214 = .ok (.putfield 386, 3) := by decide +kernel
theorem dX12_map_217 : decode cX12_map 217 = .ok (.aload_n 0, 1) := by decide +kernel
theorem dX12_map_218 : decode cX12_map 218 = .ok (.iconst 0, 1) := by decide +kernel
theorem dX12_map_219 : decode cX12_map 219 = .ok (.putfield 389, 3) := by decide +kernel
theorem dX12_map_222 : decode cX12_map 222 = .ok (.iconst 0, 1) := by decide +kernel
theorem dX12_map_223 : decode cX12_map 223 = .ok (.istore_n 1, 1) := by decide +kernel
theorem dX12_map_224 : decode cX12_map 224 = .ok (.iload_n 1, 1) := by decide +kernel
theorem dX12_map_225 : decode cX12_map 225 = .ok (.sipush 205, 3) := by decide +kernel
theorem dX12_map_228 : decode cX12_map 228 = .ok (.if_icmp .ge 16, 3) := by decide +kernel
theorem dX12_map_231 : decode cX12_map 231 = .ok (.aload_n 0, 1) := by decide +kernel
theorem dX12_map_232 : decode cX12_map 232 = .ok (.getfield 75, 3) := by decide +kernel
theorem dX12_map_235 : decode cX12_map 235 = .ok (.iload_n 1, 1) := by decide +kernel
theorem dX12_map_236 : decode cX12_map 236 = .ok (.iconst 0, 1) := by decide +kernel
theorem dX12_map_237 : decode cX12_map 237 = .ok (.iastore, 1) := by decide +kernel
theorem dX12_map_238 : decode cX12_map 238 = .ok (.iinc 1 1, 3) := by decide +kernel
theorem dX12_map_241 : decode cX12_map 241 = .ok (.goto (-17), 3) := by decide +kernel
theorem dX12_map_244 : decode cX12_map 244 = .ok (.aload_n 0, 1) := by decide +kernel
theorem dX12_map_245 : decode cX12_map 245 = .ok (.iconst 0, 1) := by decide +kernel
theorem dX12_map_246 : decode cX12_map 246 = .ok (.putfield 392, 3) := by decide +kernel
theorem dX12_map_249 : decode cX12_map 249 = .ok (.aload_n 0, 1) := by decide +kernel
theorem dX12_map_250 : decode cX12_map 250 = .ok (.iconst 0, 1) := by decide +kernel
theorem dX12_map_251 : decode cX12_map 251 = .ok (.putfield 395, 3) := by decide +kernel
theorem dX12_map_254 : decode cX12_map 254 = .ok (.iconst 0, 1) := by decide +kernel
theorem dX12_map_255 : decode cX12_map 255 = .ok (.istore_n 1, 1) := by decide +kernel
theorem dX12_map_256 : decode cX12_map 256 = .ok (.iload_n 1, 1) := by decide +kernel
theorem dX12_map_257 : decode cX12_map 257 = .ok (.iconst 3, 1) := by decide +kernel
theorem dX12_map_258 : decode cX12_map 258 = .ok (.if_icmp .ge 16, 3) := by decide +kernel
theorem dX12_map_261 : decode cX12_map 261 = .ok (.aload_n 0, 1) := by decide +kernel
theorem dX12_map_262 : decode cX12_map 262 = .ok (.getfield 142, 3) := by decide +kernel
theorem dX12_map_265 : decode cX12_map 265 = .ok (.iload_n 1, 1) := by decide +kernel
theorem dX12_map_266 : decode cX12_map 266 = .ok (.iconst 0, 1) := by decide +kernel
theorem dX12_map_267 : decode cX12_map 267 = .ok (.bastore, 1) := by decide +kernel
theorem dX12_map_268 : decode cX12_map 268 = .ok (.iinc 1 1, 3) := by decide +kernel
theorem dX12_map_271 : decode cX12_map 271 = .ok (.goto (-15), 3) := by decide +kernel
theorem dX12_map_274 : decode cX12_map 274 = .ok (.aload_n 0, 1) := by decide +kernel
theorem dX12_map_275 : decode cX12_map 275 = .ok (.getfield 371, 3) := by decide +kernel
theorem dX12_map_278 : decode cX12_map 278 = .ok (.ireturn, 1) := by decide +kernel
theorem dX12_fault_0 : decode cX12_fault 0 = .ok (.iload_n 1, 1) := by decide +kernel
theorem dX12_fault_1 : decode cX12_fault 1 = .ok (.ifCond .ne 10, 3) := by decide +kernel
theorem dX12_fault_4 : decode cX12_fault 4 = .ok (.aload_n 0, 1) := by decide +kernel
theorem dX12_fault_5 : decode cX12_fault 5 = .ok (.getfield 191, 3) := by decide +kernel
theorem dX12_fault_8 : decode cX12_fault 8 = .ok (.goto 16, 3) := by decide +kernel
theorem dX12_fault_11 : decode cX12_fault 11 = .ok (.iload_n 1, 1) := by decide +kernel
theorem dX12_fault_12 : decode cX12_fault 12 = .ok (.iconst 1, 1) := by decide +kernel
theorem dX12_fault_13 : decode cX12_fault 13 = .ok (.if_icmp .ne 10, 3) := by decide +kernel
theorem dX12_fault_16 : decode cX12_fault 16 = .ok (.aload_n 0, 1) := by decide +kernel
theorem dX12_fault_17 : decode cX12_fault 17 = .ok (.getfield 13, 3) := by decide +kernel
theorem dX12_fault_20 : decode cX12_fault 20 = .ok (.goto 4, 3) := by decide +kernel
theorem dX12_fault_23 : decode cX12_fault 23 = .ok (.iconst (-1), 1) := by decide +kernel
theorem dX12_fault_24 : decode cX12_fault 24 = .ok (.ireturn, 1) := by decide +kernel
theorem dX12_isIn_0 : decode cX12_isIn 0 = .ok (.iload_n 0, 1) := by decide +kernel
theorem dX12_isIn_1 : decode cX12_isIn 1 = .ok (.iload_n 1, 1) := by decide +kernel
theorem dX12_isIn_2 : decode cX12_isIn 2 = .ok (.if_icmp .lt 12, 3) := by decide +kernel
theorem dX12_isIn_5 : decode cX12_isIn 5 = .ok (.iload_n 0, 1) := by decide +kernel
theorem dX12_isIn_6 : decode cX12_isIn 6 = .ok (.iload_n 2, 1) := by decide +kernel
theorem dX12_isIn_7 : decode cX12_isIn 7 = .ok (.if_icmp .gt 7, 3) := by decide +kernel
theorem dX12_isIn_10 : decode cX12_isIn 10 = .ok (.iconst 1, 1) := by decide +kernel
theorem dX12_isIn_11 : decode cX12_isIn 11 = .ok (.goto 4, 3) := by decide +kernel
theorem dX12_isIn_14 : decode cX12_isIn 14 = .ok (.iconst 0, 1) := by decide +kernel
theorem dX12_isIn_15 : decode cX12_isIn 15 = .ok (.ireturn, 1) := by decide +kernel
theorem dX12_isSegment_0 : decode cX12_isSegment 0 = .ok (.iload_n 1, 1) := by decide +kernel
theorem dX12_isSegment_1 : decode cX12_isSegment 1 = .ok (.iconst 0, 1) := by decide +kernel
theorem dX12_isSegment_2 : decode cX12_isSegment 2 = .ok (.aload_n 0, 1) := by decide +kernel
theorem dX12_isSegment_3 : decode cX12_isSegment 3 = .ok (.getfield 371, 3) := by decide +kernel
theorem dX12_isSegment_6 : decode cX12_isSegment 6 = .ok (.iconst 1, 1) := by decide +kernel
theorem dX12_isSegment_7 : decode cX12_isSegment 7 = .ok (.isub, 1) := by decide +kernel
theorem dX12_isSegment_8 : decode cX12_isSegment 8 = .ok (.invokestatic 398, 3) := by decide +kernel
theorem dX12_isSegment_11 : decode cX12_isSegment 11 = .ok (.ireturn, 1) := by decide +kernel
theorem dX12_layEvents_0 : decode cX12_layEvents 0 = .ok (.aload_n 0, 1) := by decide +kernel
theorem dX12_layEvents_1 : decode cX12_layEvents 1 = .ok (.iconst 0, 1) := by decide +kernel
theorem dX12_layEvents_2 : decode cX12_layEvents 2 = .ok (.putfield 402, 3) := by decide +kernel
theorem dX12_layEvents_5 : decode cX12_layEvents 5 = .ok (.iconst 0, 1) := by decide +kernel
theorem dX12_layEvents_6 : decode cX12_layEvents 6 = .ok (.istore_n 1, 1) := by decide +kernel
theorem dX12_layEvents_7 : decode cX12_layEvents 7 = .ok (.iload_n 1, 1) := by decide +kernel
theorem dX12_layEvents_8 : decode cX12_layEvents 8 = .ok (.bipush 60, 2) := by decide +kernel
theorem dX12_layEvents_10 : decode cX12_layEvents 10 = .ok (.if_icmp .gt 84, 3) := by decide +kernel
theorem dX12_layEvents_13 : decode cX12_layEvents 13 = .ok (.iconst 0, 1) := by decide +kernel
theorem dX12_layEvents_14 : decode cX12_layEvents 14 = .ok (.istore_n 2, 1) := by decide +kernel
theorem dX12_layEvents_15 : decode cX12_layEvents 15 = .ok (.iconst 0, 1) := by decide +kernel
theorem dX12_layEvents_16 : decode cX12_layEvents 16 = .ok (.istore_n 3, 1) := by decide +kernel
theorem dX12_layEvents_17 : decode cX12_layEvents 17 = .ok (.iload_n 3, 1) := by decide +kernel
theorem dX12_layEvents_18 : decode cX12_layEvents 18 = .ok (.aload_n 0, 1) := by decide +kernel
theorem dX12_layEvents_19 : decode cX12_layEvents 19 = .ok (.getfield 371, 3) := by decide +kernel
theorem dX12_layEvents_22 : decode cX12_layEvents 22 = .ok (.if_icmp .ge 39, 3) := by decide +kernel
theorem dX12_layEvents_25 : decode cX12_layEvents 25 = .ok (.iload_n 2, 1) := by decide +kernel
theorem dX12_layEvents_26 : decode cX12_layEvents 26 = .ok (.ifCond .ne 23, 3) := by decide +kernel
theorem dX12_layEvents_29 : decode cX12_layEvents 29 = .ok (.aload_n 0, 1) := by decide +kernel
theorem dX12_layEvents_30 : decode cX12_layEvents 30 = .ok (.getfield 54, 3) := by decide +kernel
theorem dX12_layEvents_33 : decode cX12_layEvents 33 = .ok (.iload_n 3, 1) := by decide +kernel
theorem dX12_layEvents_34 : decode cX12_layEvents 34 = .ok (.iaload, 1) := by decide +kernel
theorem dX12_layEvents_35 : decode cX12_layEvents 35 = .ok (.iload_n 1, 1) := by decide +kernel
theorem dX12_layEvents_36 : decode cX12_layEvents 36 = .ok (.if_icmp .eq 13, 3) := by decide +kernel
theorem dX12_layEvents_39 : decode cX12_layEvents 39 = .ok (.aload_n 0, 1) := by decide +kernel
theorem dX12_layEvents_40 : decode cX12_layEvents 40 = .ok (.getfield 60, 3) := by decide +kernel
theorem dX12_layEvents_43 : decode cX12_layEvents 43 = .ok (.iload_n 3, 1) := by decide +kernel
theorem dX12_layEvents_44 : decode cX12_layEvents 44 = .ok (.iaload, 1) := by decide +kernel
theorem dX12_layEvents_45 : decode cX12_layEvents 45 = .ok (.iload_n 1, 1) := by decide +kernel
theorem dX12_layEvents_46 : decode cX12_layEvents 46 = .ok (.if_icmp .ne 7, 3) := by decide +kernel
theorem dX12_layEvents_49 : decode cX12_layEvents 49 = .ok (.iconst 1, 1) := by decide +kernel
theorem dX12_layEvents_50 : decode cX12_layEvents 50 = .ok (.goto 4, 3) := by decide +kernel
theorem dX12_layEvents_53 : decode cX12_layEvents 53 = .ok (.iconst 0, 1) := by decide +kernel
theorem dX12_layEvents_54 : decode cX12_layEvents 54 = .ok (.istore_n 2, 1) := by decide +kernel
theorem dX12_layEvents_55 : decode cX12_layEvents 55 = .ok (.iinc 3 1, 3) := by decide +kernel
theorem dX12_layEvents_58 : decode cX12_layEvents 58 = .ok (.goto (-41), 3) := by decide +kernel
theorem dX12_layEvents_61 : decode cX12_layEvents 61 = .ok (.iload_n 2, 1) := by decide +kernel
theorem dX12_layEvents_62 : decode cX12_layEvents 62 = .ok (.ifCond .ne 6, 3) := by decide +kernel
theorem dX12_layEvents_65 : decode cX12_layEvents 65 = .ok (.goto 23, 3) := by decide +kernel
theorem dX12_layEvents_68 : decode cX12_layEvents 68 = .ok (.aload_n 0, 1) := by decide +kernel
theorem dX12_layEvents_69 : decode cX12_layEvents 69 = .ok (.getfield 72, 3) := by decide +kernel
theorem dX12_layEvents_72 : decode cX12_layEvents 72 = .ok (.aload_n 0, 1) := by decide +kernel
theorem dX12_layEvents_73 : decode cX12_layEvents 73 = .ok (.getfield 402, 3) := by decide +kernel
theorem dX12_layEvents_76 : decode cX12_layEvents 76 = .ok (.iload_n 1, 1) := by decide +kernel
theorem dX12_layEvents_77 : decode cX12_layEvents 77 = .ok (.iastore, 1) := by decide +kernel
theorem dX12_layEvents_78 : decode cX12_layEvents 78 = .ok (.aload_n 0, 1) := by decide +kernel
theorem dX12_layEvents_79 : decode cX12_layEvents 79 = .ok (.dup, 1) := by decide +kernel
theorem dX12_layEvents_80 : decode cX12_layEvents 80 = .ok (.getfield 402, 3) := by decide +kernel
theorem dX12_layEvents_83 : decode cX12_layEvents 83 = .ok (.iconst 1, 1) := by decide +kernel
theorem dX12_layEvents_84 : decode cX12_layEvents 84 = .ok (.iadd, 1) := by decide +kernel
theorem dX12_layEvents_85 : decode cX12_layEvents 85 = .ok (.putfield 402, 3) := by decide +kernel
theorem dX12_layEvents_88 : decode cX12_layEvents 88 = .ok (.iinc 1 1, 3) := by decide +kernel
theorem dX12_layEvents_91 : decode cX12_layEvents 91 = .ok (.goto (-84), 3) := by decide +kernel
theorem dX12_layEvents_94 : decode cX12_layEvents 94 = .ok (.return_, 1) := by decide +kernel
theorem dX12_isOver_0 : decode cX12_isOver 0 = .ok (.aload_n 0, 1) := by decide +kernel
theorem dX12_isOver_1 : decode cX12_isOver 1 = .ok (.getfield 54, 3) := by decide +kernel
theorem dX12_isOver_4 : decode cX12_isOver 4 = .ok (.iload_n 1, 1) := by decide +kernel
theorem dX12_isOver_5 : decode cX12_isOver 5 = .ok (.iaload, 1) := by decide +kernel
theorem dX12_isOver_6 : decode cX12_isOver 6 = .ok (.iload_n 2, 1) := by decide +kernel
theorem dX12_isOver_7 : decode cX12_isOver 7 = .ok (.if_icmp .gt 17, 3) := by decide +kernel
theorem dX12_isOver_10 : decode cX12_isOver 10 = .ok (.iload_n 2, 1) := by decide +kernel
theorem dX12_isOver_11 : decode cX12_isOver 11 = .ok (.aload_n 0, 1) := by decide +kernel
theorem dX12_isOver_12 : decode cX12_isOver 12 = .ok (.getfield 60, 3) := by decide +kernel
theorem dX12_isOver_15 : decode cX12_isOver 15 = .ok (.iload_n 1, 1) := by decide +kernel
theorem dX12_isOver_16 : decode cX12_isOver 16 = .ok (.iaload, 1) := by decide +kernel
theorem dX12_isOver_17 : decode cX12_isOver 17 = .ok (.if_icmp .ge 7, 3) := by decide +kernel
theorem dX12_isOver_20 : decode cX12_isOver 20 = .ok (.iconst 1, 1) := by decide +kernel
theorem dX12_isOver_21 : decode cX12_isOver 21 = .ok (.goto 4, 3) := by decide +kernel
theorem dX12_isOver_24 : decode cX12_isOver 24 = .ok (.iconst 0, 1) := by decide +kernel
theorem dX12_isOver_25 : decode cX12_isOver 25 = .ok (.ireturn, 1) := by decide +kernel
theorem dX12_farther_0 : decode cX12_farther 0 = .ok (.aload_n 0, 1) := by decide +kernel
theorem dX12_farther_1 : decode cX12_farther 1 = .ok (.getfield 60, 3) := by decide +kernel
theorem dX12_farther_4 : decode cX12_farther 4 = .ok (.iload_n 1, 1) := by decide +kernel
theorem dX12_farther_5 : decode cX12_farther 5 = .ok (.iaload, 1) := by decide +kernel
theorem dX12_farther_6 : decode cX12_farther 6 = .ok (.aload_n 0, 1) := by decide +kernel
theorem dX12_farther_7 : decode cX12_farther 7 = .ok (.getfield 54, 3) := by decide +kernel
theorem dX12_farther_10 : decode cX12_farther 10 = .ok (.iload_n 1, 1) := by decide +kernel
theorem dX12_farther_11 : decode cX12_farther 11 = .ok (.iaload, 1) := by decide +kernel
theorem dX12_farther_12 : decode cX12_farther 12 = .ok (.isub, 1) := by decide +kernel
theorem dX12_farther_13 : decode cX12_farther 13 = .ok (.istore 4, 2) := by decide +kernel
theorem dX12_farther_15 : decode cX12_farther 15 = .ok (.aload_n 0, 1) := by decide +kernel
theorem dX12_farther_16 : decode cX12_farther 16 = .ok (.getfield 57, 3) := by decide +kernel
theorem dX12_farther_19 : decode cX12_farther 19 = .ok (.iload_n 1, 1) := by decide +kernel
theorem dX12_farther_20 : decode cX12_farther 20 = .ok (.iaload, 1) := by decide +kernel
theorem dX12_farther_21 : decode cX12_farther 21 = .ok (.iload 4, 2) := by decide +kernel
theorem dX12_farther_23 : decode cX12_farther 23 = .ok (.imul, 1) := by decide +kernel
theorem dX12_farther_24 : decode cX12_farther 24 = .ok (.aload_n 0, 1) := by decide +kernel
theorem dX12_farther_25 : decode cX12_farther 25 = .ok (.getfield 63, 3) := by decide +kernel
theorem dX12_farther_28 : decode cX12_farther 28 = .ok (.iload_n 1, 1) := by decide +kernel
theorem dX12_farther_29 : decode cX12_farther 29 = .ok (.iaload, 1) := by decide +kernel
theorem dX12_farther_30 : decode cX12_farther 30 = .ok (.aload_n 0, 1) := by decide +kernel
theorem dX12_farther_31 : decode cX12_farther 31 = .ok (.getfield 57, 3) := by decide +kernel
theorem dX12_farther_34 : decode cX12_farther 34 = .ok (.iload_n 1, 1) := by decide +kernel
theorem dX12_farther_35 : decode cX12_farther 35 = .ok (.iaload, 1) := by decide +kernel
theorem dX12_farther_36 : decode cX12_farther 36 = .ok (.isub, 1) := by decide +kernel
theorem dX12_farther_37 : decode cX12_farther 37 = .ok (.iload_n 2, 1) := by decide +kernel
theorem dX12_farther_38 : decode cX12_farther 38 = .ok (.aload_n 0, 1) := by decide +kernel
theorem dX12_farther_39 : decode cX12_farther 39 = .ok (.getfield 54, 3) := by decide +kernel
theorem dX12_farther_42 : decode cX12_farther 42 = .ok (.iload_n 1, 1) := by decide +kernel
theorem dX12_farther_43 : decode cX12_farther 43 = .ok (.iaload, 1) := by decide +kernel
theorem dX12_farther_44 : decode cX12_farther 44 = .ok (.isub, 1) := by decide +kernel
theorem dX12_farther_45 : decode cX12_farther 45 = .ok (.imul, 1) := by decide +kernel
theorem dX12_farther_46 : decode cX12_farther 46 = .ok (.iadd, 1) := by decide +kernel
theorem dX12_farther_47 : decode cX12_farther 47 = .ok (.iload_n 3, 1) := by decide +kernel
theorem dX12_farther_48 : decode cX12_farther 48 = .ok (.iload 4, 2) := by decide +kernel
theorem dX12_farther_50 : decode cX12_farther 50 = .ok (.imul, 1) := by decide +kernel
theorem dX12_farther_51 : decode cX12_farther 51 = .ok (.isub, 1) := by decide +kernel
theorem dX12_farther_52 : decode cX12_farther 52 = .ok (.ireturn, 1) := by decide +kernel
theorem dX12_isHigher_0 : decode cX12_isHigher 0 = .ok (.aload_n 0, 1) := by decide +kernel
theorem dX12_isHigher_1 : decode cX12_isHigher 1 = .ok (.getfield 60, 3) := by decide +kernel
theorem dX12_isHigher_4 : decode cX12_isHigher 4 = .ok (.iload_n 1, 1) := by decide +kernel
theorem dX12_isHigher_5 : decode cX12_isHigher 5 = .ok (.iaload, 1) := by decide +kernel
theorem dX12_isHigher_6 : decode cX12_isHigher 6 = .ok (.aload_n 0, 1) := by decide +kernel
theorem dX12_isHigher_7 : decode cX12_isHigher 7 = .ok (.getfield 54, 3) := by decide +kernel
theorem dX12_isHigher_10 : decode cX12_isHigher 10 = .ok (.iload_n 1, 1) := by decide +kernel
theorem dX12_isHigher_11 : decode cX12_isHigher 11 = .ok (.iaload, 1) := by decide +kernel
theorem dX12_isHigher_12 : decode cX12_isHigher 12 = .ok (.isub, 1) := by decide +kernel
theorem dX12_isHigher_13 : decode cX12_isHigher 13 = .ok (.istore 4, 2) := by decide +kernel
theorem dX12_isHigher_15 : decode cX12_isHigher 15 = .ok (.aload_n 0, 1) := by decide +kernel
theorem dX12_isHigher_16 : decode cX12_isHigher 16 = .ok (.getfield 60, 3) := by decide +kernel
theorem dX12_isHigher_19 : decode cX12_isHigher 19 = .ok (.iload_n 2, 1) := by decide +kernel
theorem dX12_isHigher_20 : decode cX12_isHigher 20 = .ok (.iaload, 1) := by decide +kernel
theorem dX12_isHigher_21 : decode cX12_isHigher 21 = .ok (.aload_n 0, 1) := by decide +kernel
theorem dX12_isHigher_22 : decode cX12_isHigher 22 = .ok (.getfield 54, 3) := by decide +kernel
theorem dX12_isHigher_25 : decode cX12_isHigher 25 = .ok (.iload_n 2, 1) := by decide +kernel
theorem dX12_isHigher_26 : decode cX12_isHigher 26 = .ok (.iaload, 1) := by decide +kernel
theorem dX12_isHigher_27 : decode cX12_isHigher 27 = .ok (.isub, 1) := by decide +kernel
theorem dX12_isHigher_28 : decode cX12_isHigher 28 = .ok (.istore 5, 2) := by decide +kernel
theorem dX12_isHigher_30 : decode cX12_isHigher 30 = .ok (.aload_n 0, 1) := by decide +kernel
theorem dX12_isHigher_31 : decode cX12_isHigher 31 = .ok (.iload_n 1, 1) := by decide +kernel
theorem dX12_isHigher_32 : decode cX12_isHigher 32 = .ok (.iload_n 3, 1) := by decide +kernel
theorem dX12_isHigher_33 : decode cX12_isHigher 33 = .ok (.iconst 0, 1) := by decide +kernel
theorem dX12_isHigher_34 : decode cX12_isHigher 34 = .ok (.invokevirtual 405, 3) := by decide +kernel
theorem dX12_isHigher_37 : decode cX12_isHigher 37 = .ok (.iload 5, 2) := by decide +kernel
theorem dX12_isHigher_39 : decode cX12_isHigher 39 = .ok (.imul, 1) := by decide +kernel
theorem dX12_isHigher_40 : decode cX12_isHigher 40 = .ok (.aload_n 0, 1) := by decide +kernel
theorem dX12_isHigher_41 : decode cX12_isHigher 41 = .ok (.iload_n 2, 1) := by decide +kernel
theorem dX12_isHigher_42 : decode cX12_isHigher 42 = .ok (.iload_n 3, 1) := by decide +kernel
theorem dX12_isHigher_43 : decode cX12_isHigher 43 = .ok (.iconst 0, 1) := by decide +kernel
theorem dX12_isHigher_44 : decode cX12_isHigher 44 = .ok (.invokevirtual 405, 3) := by decide +kernel
theorem dX12_isHigher_47 : decode cX12_isHigher 47 = .ok (.iload 4, 2) := by decide +kernel
theorem dX12_isHigher_49 : decode cX12_isHigher 49 = .ok (.imul, 1) := by decide +kernel
theorem dX12_isHigher_50 : decode cX12_isHigher 50 = .ok (.isub, 1) := by decide +kernel
theorem dX12_isHigher_51 : decode cX12_isHigher 51 = .ok (.istore 6, 2) := by decide +kernel
theorem dX12_isHigher_53 : decode cX12_isHigher 53 = .ok (.iload 6, 2) := by decide +kernel
theorem dX12_isHigher_55 : decode cX12_isHigher 55 = .ok (.ifCond .eq 16, 3) := by decide +kernel
theorem dX12_isHigher_58 : decode cX12_isHigher 58 = .ok (.iload 6, 2) := by decide +kernel
theorem dX12_isHigher_60 : decode cX12_isHigher 60 = .ok (.ifCond .le 7, 3) := by decide +kernel
theorem dX12_isHigher_63 : decode cX12_isHigher 63 = .ok (.iconst 1, 1) := by decide +kernel
theorem dX12_isHigher_64 : decode cX12_isHigher 64 = .ok (.goto 47, 3) := by decide +kernel
theorem dX12_isHigher_67 : decode cX12_isHigher 67 = .ok (.iconst 0, 1) := by decide +kernel
theorem dX12_isHigher_68 : decode cX12_isHigher 68 = .ok (.goto 43, 3) := by decide +kernel
theorem dX12_isHigher_71 : decode cX12_isHigher 71 = .ok (.aload_n 0, 1) := by decide +kernel
theorem dX12_isHigher_72 : decode cX12_isHigher 72 = .ok (.getfield 63, 3) := by decide +kernel
theorem dX12_isHigher_75 : decode cX12_isHigher 75 = .ok (.iload_n 1, 1) := by decide +kernel
theorem dX12_isHigher_76 : decode cX12_isHigher 76 = .ok (.iaload, 1) := by decide +kernel
theorem dX12_isHigher_77 : decode cX12_isHigher 77 = .ok (.aload_n 0, 1) := by decide +kernel
theorem dX12_isHigher_78 : decode cX12_isHigher 78 = .ok (.getfield 57, 3) := by decide +kernel
theorem dX12_isHigher_81 : decode cX12_isHigher 81 = .ok (.iload_n 1, 1) := by decide +kernel
theorem dX12_isHigher_82 : decode cX12_isHigher 82 = .ok (.iaload, 1) := by decide +kernel
theorem dX12_isHigher_83 : decode cX12_isHigher 83 = .ok (.isub, 1) := by decide +kernel
theorem dX12_isHigher_84 : decode cX12_isHigher 84 = .ok (.iload 5, 2) := by decide +kernel
theorem dX12_isHigher_86 : decode cX12_isHigher 86 = .ok (.imul, 1) := by decide +kernel
theorem dX12_isHigher_87 : decode cX12_isHigher 87 = .ok (.aload_n 0, 1) := by decide +kernel
theorem dX12_isHigher_88 : decode cX12_isHigher 88 = .ok (.getfield 63, 3) := by decide +kernel
theorem dX12_isHigher_91 : decode cX12_isHigher 91 = .ok (.iload_n 2, 1) := by decide +kernel
theorem dX12_isHigher_92 : decode cX12_isHigher 92 = .ok (.iaload, 1) := by decide +kernel
theorem dX12_isHigher_93 : decode cX12_isHigher 93 = .ok (.aload_n 0, 1) := by decide +kernel
theorem dX12_isHigher_94 : decode cX12_isHigher 94 = .ok (.getfield 57, 3) := by decide +kernel
theorem dX12_isHigher_97 : decode cX12_isHigher 97 = .ok (.iload_n 2, 1) := by decide +kernel
theorem dX12_isHigher_98 : decode cX12_isHigher 98 = .ok (.iaload, 1) := by decide +kernel
theorem dX12_isHigher_99 : decode cX12_isHigher 99 = .ok (.isub, 1) := by decide +kernel
theorem dX12_isHigher_100 : decode cX12_isHigher 100 = .ok (.iload 4, 2) := by decide +kernel
theorem dX12_isHigher_102 : decode cX12_isHigher 102 = .ok (.imul, 1) := by decide +kernel
theorem dX12_isHigher_103 : decode cX12_isHigher 103 = .ok (.if_icmp .le 7, 3) := by decide +kernel
theorem dX12_isHigher_106 : decode cX12_isHigher 106 = .ok (.iconst 1, 1) := by decide +kernel
theorem dX12_isHigher_107 : decode cX12_isHigher 107 = .ok (.goto 4, 3) := by decide +kernel
theorem dX12_isHigher_110 : decode cX12_isHigher 110 = .ok (.iconst 0, 1) := by decide +kernel
theorem dX12_isHigher_111 : decode cX12_isHigher 111 = .ok (.ireturn, 1) := by decide +kernel
theorem dX12_higher_0 : decode cX12_higher 0 = .ok (.aload_n 0, 1) := by decide +kernel
theorem dX12_higher_1 : decode cX12_higher 1 = .ok (.iload_n 1, 1) := by decide +kernel
theorem dX12_higher_2 : decode cX12_higher 2 = .ok (.invokevirtual 408, 3) := by decide +kernel
theorem dX12_higher_5 : decode cX12_higher 5 = .ok (.ifCond .eq 47, 3) := by decide +kernel
theorem dX12_higher_8 : decode cX12_higher 8 = .ok (.aload_n 0, 1) := by decide +kernel
theorem dX12_higher_9 : decode cX12_higher 9 = .ok (.iload_n 2, 1) := by decide +kernel
theorem dX12_higher_10 : decode cX12_higher 10 = .ok (.invokevirtual 408, 3) := by decide +kernel
theorem dX12_higher_13 : decode cX12_higher 13 = .ok (.ifCond .eq 39, 3) := by decide +kernel
theorem dX12_higher_16 : decode cX12_higher 16 = .ok (.iload_n 1, 1) := by decide +kernel
theorem dX12_higher_17 : decode cX12_higher 17 = .ok (.iload_n 2, 1) := by decide +kernel
theorem dX12_higher_18 : decode cX12_higher 18 = .ok (.if_icmp .eq 34, 3) := by decide +kernel
theorem dX12_higher_21 : decode cX12_higher 21 = .ok (.aload_n 0, 1) := by decide +kernel
theorem dX12_higher_22 : decode cX12_higher 22 = .ok (.iload_n 1, 1) := by decide +kernel
theorem dX12_higher_23 : decode cX12_higher 23 = .ok (.iload_n 3, 1) := by decide +kernel
theorem dX12_higher_24 : decode cX12_higher 24 = .ok (.invokevirtual 411, 3) := by decide +kernel
theorem dX12_higher_27 : decode cX12_higher 27 = .ok (.ifCond .eq 25, 3) := by decide +kernel
theorem dX12_higher_30 : decode cX12_higher 30 = .ok (.aload_n 0, 1) := by decide +kernel
theorem dX12_higher_31 : decode cX12_higher 31 = .ok (.iload_n 2, 1) := by decide +kernel
theorem dX12_higher_32 : decode cX12_higher 32 = .ok (.iload_n 3, 1) := by decide +kernel
theorem dX12_higher_33 : decode cX12_higher 33 = .ok (.invokevirtual 411, 3) := by decide +kernel
theorem dX12_higher_36 : decode cX12_higher 36 = .ok (.ifCond .eq 16, 3) := by decide +kernel
theorem dX12_higher_39 : decode cX12_higher 39 = .ok (.aload_n 0, 1) := by decide +kernel
theorem dX12_higher_40 : decode cX12_higher 40 = .ok (.iload_n 1, 1) := by decide +kernel
theorem dX12_higher_41 : decode cX12_higher 41 = .ok (.iload_n 2, 1) := by decide +kernel
theorem dX12_higher_42 : decode cX12_higher 42 = .ok (.iload_n 3, 1) := by decide +kernel
theorem dX12_higher_43 : decode cX12_higher 43 = .ok (.invokevirtual 414, 3) := by decide +kernel
theorem dX12_higher_46 : decode cX12_higher 46 = .ok (.invokestatic 304, 3) := by decide +kernel
theorem dX12_higher_49 : decode cX12_higher 49 = .ok (.goto 4, 3) := by decide +kernel
theorem dX12_higher_52 : decode cX12_higher 52 = .ok (.iconst (-1), 1) := by decide +kernel
theorem dX12_higher_53 : decode cX12_higher 53 = .ok (.ireturn, 1) := by decide +kernel
theorem dX12_weight_0 : decode cX12_weight 0 = .ok (.aload_n 0, 1) := by decide +kernel
theorem dX12_weight_1 : decode cX12_weight 1 = .ok (.iload_n 1, 1) := by decide +kernel
theorem dX12_weight_2 : decode cX12_weight 2 = .ok (.invokevirtual 408, 3) := by decide +kernel
theorem dX12_weight_5 : decode cX12_weight 5 = .ok (.ifCond .eq 12, 3) := by decide +kernel
theorem dX12_weight_8 : decode cX12_weight 8 = .ok (.aload_n 0, 1) := by decide +kernel
theorem dX12_weight_9 : decode cX12_weight 9 = .ok (.getfield 66, 3) := by decide +kernel
theorem dX12_weight_12 : decode cX12_weight 12 = .ok (.iload_n 1, 1) := by decide +kernel
theorem dX12_weight_13 : decode cX12_weight 13 = .ok (.iaload, 1) := by decide +kernel
theorem dX12_weight_14 : decode cX12_weight 14 = .ok (.goto 4, 3) := by decide +kernel
theorem dX12_weight_17 : decode cX12_weight 17 = .ok (.iconst 0, 1) := by decide +kernel
theorem dX12_weight_18 : decode cX12_weight 18 = .ok (.ireturn, 1) := by decide +kernel
theorem dX12_placeOf_0 : decode cX12_placeOf 0 = .ok (.aload_n 0, 1) := by decide +kernel
theorem dX12_placeOf_1 : decode cX12_placeOf 1 = .ok (.getfield 75, 3) := by decide +kernel
theorem dX12_placeOf_4 : decode cX12_placeOf 4 = .ok (.iconst 0, 1) := by decide +kernel
theorem dX12_placeOf_5 : decode cX12_placeOf 5 = .ok (.iload_n 1, 1) := by decide +kernel
theorem dX12_placeOf_6 : decode cX12_placeOf 6 = .ok (.iadd, 1) := by decide +kernel
theorem dX12_placeOf_7 : decode cX12_placeOf 7 = .ok (.iaload, 1) := by decide +kernel
theorem dX12_placeOf_8 : decode cX12_placeOf 8 = .ok (.ireturn, 1) := by decide +kernel
theorem dX12_setOf_0 : decode cX12_setOf 0 = .ok (.aload_n 0, 1) := by decide +kernel
theorem dX12_setOf_1 : decode cX12_setOf 1 = .ok (.getfield 75, 3) := by decide +kernel
theorem dX12_setOf_4 : decode cX12_setOf 4 = .ok (.bipush 41, 2) := by decide +kernel
theorem dX12_setOf_6 : decode cX12_setOf 6 = .ok (.iload_n 1, 1) := by decide +kernel
theorem dX12_setOf_7 : decode cX12_setOf 7 = .ok (.iadd, 1) := by decide +kernel
theorem dX12_setOf_8 : decode cX12_setOf 8 = .ok (.iaload, 1) := by decide +kernel
theorem dX12_setOf_9 : decode cX12_setOf 9 = .ok (.ireturn, 1) := by decide +kernel
theorem dX12_nodeMany_0 : decode cX12_nodeMany 0 = .ok (.aload_n 0, 1) := by decide +kernel
theorem dX12_nodeMany_1 : decode cX12_nodeMany 1 = .ok (.getfield 75, 3) := by decide +kernel
theorem dX12_nodeMany_4 : decode cX12_nodeMany 4 = .ok (.sipush 164, 3) := by decide +kernel
theorem dX12_nodeMany_7 : decode cX12_nodeMany 7 = .ok (.aload_n 0, 1) := by decide +kernel
theorem dX12_nodeMany_8 : decode cX12_nodeMany 8 = .ok (.getfield 383, 3) := by decide +kernel
theorem dX12_nodeMany_11 : decode cX12_nodeMany 11 = .ok (.iadd, 1) := by decide +kernel
theorem dX12_nodeMany_12 : decode cX12_nodeMany 12 = .ok (.iaload, 1) := by decide +kernel
theorem dX12_nodeMany_13 : decode cX12_nodeMany 13 = .ok (.ireturn, 1) := by decide +kernel
theorem dX12_usedUpTo_0 : decode cX12_usedUpTo 0 = .ok (.iconst 0, 1) := by decide +kernel
theorem dX12_usedUpTo_1 : decode cX12_usedUpTo 1 = .ok (.istore_n 3, 1) := by decide +kernel
theorem dX12_usedUpTo_2 : decode cX12_usedUpTo 2 = .ok (.iconst 0, 1) := by decide +kernel
theorem dX12_usedUpTo_3 : decode cX12_usedUpTo 3 = .ok (.istore 4, 2) := by decide +kernel
theorem dX12_usedUpTo_5 : decode cX12_usedUpTo 5 = .ok (.iload 4, 2) := by decide +kernel
theorem dX12_usedUpTo_7 : decode cX12_usedUpTo 7 = .ok (.aload_n 0, 1) := by decide +kernel
theorem dX12_usedUpTo_8 : decode cX12_usedUpTo 8 = .ok (.getfield 75, 3) := by decide +kernel
theorem dX12_usedUpTo_11 : decode cX12_usedUpTo 11 = .ok (.sipush 1485, 3) := by decide +kernel
theorem dX12_usedUpTo_14 : decode cX12_usedUpTo 14 = .ok (.iload_n 1, 1) := by decide +kernel
theorem dX12_usedUpTo_15 : decode cX12_usedUpTo 15 = .ok (.iadd, 1) := by decide +kernel
theorem dX12_usedUpTo_16 : decode cX12_usedUpTo 16 = .ok (.iaload, 1) := by decide +kernel
theorem dX12_usedUpTo_17 : decode cX12_usedUpTo 17 = .ok (.if_icmp .ge 40, 3) := by decide +kernel
theorem dX12_usedUpTo_20 : decode cX12_usedUpTo 20 = .ok (.iload_n 3, 1) := by decide +kernel
theorem dX12_usedUpTo_21 : decode cX12_usedUpTo 21 = .ok (.aload_n 0, 1) := by decide +kernel
theorem dX12_usedUpTo_22 : decode cX12_usedUpTo 22 = .ok (.getfield 75, 3) := by decide +kernel
theorem dX12_usedUpTo_25 : decode cX12_usedUpTo 25 = .ok (.sipush 1805, 3) := by decide +kernel
theorem dX12_usedUpTo_28 : decode cX12_usedUpTo 28 = .ok (.bipush 6, 2) := by decide +kernel
theorem dX12_usedUpTo_30 : decode cX12_usedUpTo 30 = .ok (.iload_n 1, 1) := by decide +kernel
theorem dX12_usedUpTo_31 : decode cX12_usedUpTo 31 = .ok (.imul, 1) := by decide +kernel
theorem dX12_usedUpTo_32 : decode cX12_usedUpTo 32 = .ok (.iadd, 1) := by decide +kernel
theorem dX12_usedUpTo_33 : decode cX12_usedUpTo 33 = .ok (.iload 4, 2) := by decide +kernel
theorem dX12_usedUpTo_35 : decode cX12_usedUpTo 35 = .ok (.iadd, 1) := by decide +kernel
theorem dX12_usedUpTo_36 : decode cX12_usedUpTo 36 = .ok (.iaload, 1) := by decide +kernel
theorem dX12_usedUpTo_37 : decode cX12_usedUpTo 37 = .ok (.iload_n 2, 1) := by decide +kernel
theorem dX12_usedUpTo_38 : decode cX12_usedUpTo 38 = .ok (.if_icmp .gt 7, 3) := by decide +kernel
theorem dX12_usedUpTo_41 : decode cX12_usedUpTo 41 = .ok (.iconst 1, 1) := by decide +kernel
theorem dX12_usedUpTo_42 : decode cX12_usedUpTo 42 = .ok (.goto 4, 3) := by decide +kernel
theorem dX12_usedUpTo_45 : decode cX12_usedUpTo 45 = .ok (.iconst 0, 1) := by decide +kernel
theorem dX12_usedUpTo_46 : decode cX12_usedUpTo 46 = .ok (.invokestatic 304, 3) := by decide +kernel
theorem dX12_usedUpTo_49 : decode cX12_usedUpTo 49 = .ok (.iadd, 1) := by decide +kernel
theorem dX12_usedUpTo_50 : decode cX12_usedUpTo 50 = .ok (.istore_n 3, 1) := by decide +kernel
theorem dX12_usedUpTo_51 : decode cX12_usedUpTo 51 = .ok (.iinc 4 1, 3) := by decide +kernel
theorem dX12_usedUpTo_54 : decode cX12_usedUpTo 54 = .ok (.goto (-49), 3) := by decide +kernel
theorem dX12_usedUpTo_57 : decode cX12_usedUpTo 57 = .ok (.iload_n 3, 1) := by decide +kernel
theorem dX12_usedUpTo_58 : decode cX12_usedUpTo 58 = .ok (.ireturn, 1) := by decide +kernel
theorem dX12_readAt_0 : decode cX12_readAt 0 = .ok (.aload_n 0, 1) := by decide +kernel
theorem dX12_readAt_1 : decode cX12_readAt 1 = .ok (.getfield 75, 3) := by decide +kernel
theorem dX12_readAt_4 : decode cX12_readAt 4 = .ok (.iload_n 2, 1) := by decide +kernel
theorem dX12_readAt_5 : decode cX12_readAt 5 = .ok (.ifCond .ne 9, 3) := by decide +kernel
theorem dX12_readAt_8 : decode cX12_readAt 8 = .ok (.sipush 845, 3) := by decide +kernel
theorem dX12_readAt_11 : decode cX12_readAt 11 = .ok (.goto 6, 3) := by decide +kernel
theorem dX12_readAt_14 : decode cX12_readAt 14 = .ok (.sipush 1165, 3) := by decide +kernel
theorem dX12_readAt_17 : decode cX12_readAt 17 = .ok (.iload_n 1, 1) := by decide +kernel
theorem dX12_readAt_18 : decode cX12_readAt 18 = .ok (.iadd, 1) := by decide +kernel
theorem dX12_readAt_19 : decode cX12_readAt 19 = .ok (.iaload, 1) := by decide +kernel
theorem dX12_readAt_20 : decode cX12_readAt 20 = .ok (.istore 4, 2) := by decide +kernel
theorem dX12_readAt_22 : decode cX12_readAt 22 = .ok (.iconst 0, 1) := by decide +kernel
theorem dX12_readAt_23 : decode cX12_readAt 23 = .ok (.istore 5, 2) := by decide +kernel
theorem dX12_readAt_25 : decode cX12_readAt 25 = .ok (.iload 5, 2) := by decide +kernel
theorem dX12_readAt_27 : decode cX12_readAt 27 = .ok (.aload_n 0, 1) := by decide +kernel
theorem dX12_readAt_28 : decode cX12_readAt 28 = .ok (.iload_n 1, 1) := by decide +kernel
theorem dX12_readAt_29 : decode cX12_readAt 29 = .ok (.iload_n 3, 1) := by decide +kernel
theorem dX12_readAt_30 : decode cX12_readAt 30 = .ok (.invokevirtual 417, 3) := by decide +kernel
theorem dX12_readAt_33 : decode cX12_readAt 33 = .ok (.if_icmp .ge 52, 3) := by decide +kernel
theorem dX12_readAt_36 : decode cX12_readAt 36 = .ok (.aload_n 0, 1) := by decide +kernel
theorem dX12_readAt_37 : decode cX12_readAt 37 = .ok (.getfield 75, 3) := by decide +kernel
theorem dX12_readAt_40 : decode cX12_readAt 40 = .ok (.sipush 3725, 3) := by decide +kernel
theorem dX12_readAt_43 : decode cX12_readAt 43 = .ok (.bipush 6, 2) := by decide +kernel
theorem dX12_readAt_45 : decode cX12_readAt 45 = .ok (.iload_n 1, 1) := by decide +kernel
theorem dX12_readAt_46 : decode cX12_readAt 46 = .ok (.imul, 1) := by decide +kernel
theorem dX12_readAt_47 : decode cX12_readAt 47 = .ok (.iadd, 1) := by decide +kernel
theorem dX12_readAt_48 : decode cX12_readAt 48 = .ok (.iload 5, 2) := by decide +kernel
theorem dX12_readAt_50 : decode cX12_readAt 50 = .ok (.iadd, 1) := by decide +kernel
theorem dX12_readAt_51 : decode cX12_readAt 51 = .ok (.iaload, 1) := by decide +kernel
theorem dX12_readAt_52 : decode cX12_readAt 52 = .ok (.iload_n 2, 1) := by decide +kernel
theorem dX12_readAt_53 : decode cX12_readAt 53 = .ok (.if_icmp .ne 22, 3) := by decide +kernel
theorem dX12_readAt_56 : decode cX12_readAt 56 = .ok (.aload_n 0, 1) := by decide +kernel
theorem dX12_readAt_57 : decode cX12_readAt 57 = .ok (.getfield 75, 3) := by decide +kernel
theorem dX12_readAt_60 : decode cX12_readAt 60 = .ok (.sipush 5645, 3) := by decide +kernel
theorem dX12_readAt_63 : decode cX12_readAt 63 = .ok (.bipush 6, 2) := by decide +kernel
theorem dX12_readAt_65 : decode cX12_readAt 65 = .ok (.iload_n 1, 1) := by decide +kernel
theorem dX12_readAt_66 : decode cX12_readAt 66 = .ok (.imul, 1) := by decide +kernel
theorem dX12_readAt_67 : decode cX12_readAt 67 = .ok (.iadd, 1) := by decide +kernel
theorem dX12_readAt_68 : decode cX12_readAt 68 = .ok (.iload 5, 2) := by decide +kernel
theorem dX12_readAt_70 : decode cX12_readAt 70 = .ok (.iadd, 1) := by decide +kernel
theorem dX12_readAt_71 : decode cX12_readAt 71 = .ok (.iaload, 1) := by decide +kernel
theorem dX12_readAt_72 : decode cX12_readAt 72 = .ok (.goto 5, 3) := by decide +kernel
theorem dX12_readAt_75 : decode cX12_readAt 75 = .ok (.iload 4, 2) := by decide +kernel
theorem dX12_readAt_77 : decode cX12_readAt 77 = .ok (.istore 4, 2) := by decide +kernel
theorem dX12_readAt_79 : decode cX12_readAt 79 = .ok (.iinc 5 1, 3) := by decide +kernel
theorem dX12_readAt_82 : decode cX12_readAt 82 = .ok (.goto (-57), 3) := by decide +kernel
theorem dX12_readAt_85 : decode cX12_readAt 85 = .ok (.iload 4, 2) := by decide +kernel
theorem dX12_readAt_87 : decode cX12_readAt 87 = .ok (.ireturn, 1) := by decide +kernel
theorem dX12_nodeOf_0 : decode cX12_nodeOf 0 = .ok (.iload_n 1, 1) := by decide +kernel
theorem dX12_nodeOf_1 : decode cX12_nodeOf 1 = .ok (.ifCond .lt 15, 3) := by decide +kernel
theorem dX12_nodeOf_4 : decode cX12_nodeOf 4 = .ok (.aload_n 0, 1) := by decide +kernel
theorem dX12_nodeOf_5 : decode cX12_nodeOf 5 = .ok (.iload_n 2, 1) := by decide +kernel
theorem dX12_nodeOf_6 : decode cX12_nodeOf 6 = .ok (.invokevirtual 420, 3) := by decide +kernel
theorem dX12_nodeOf_9 : decode cX12_nodeOf 9 = .ok (.iload_n 1, 1) := by decide +kernel
theorem dX12_nodeOf_10 : decode cX12_nodeOf 10 = .ok (.invokestatic 423, 3) := by decide +kernel
theorem dX12_nodeOf_13 : decode cX12_nodeOf 13 = .ok (.ifCond .ne 5, 3) := by decide +kernel
theorem dX12_nodeOf_16 : decode cX12_nodeOf 16 = .ok (.iconst (-1), 1) := by decide +kernel
theorem dX12_nodeOf_17 : decode cX12_nodeOf 17 = .ok (.ireturn, 1) := by decide +kernel
theorem dX12_nodeOf_18 : decode cX12_nodeOf 18 = .ok (.iconst (-1), 1) := by decide +kernel
theorem dX12_nodeOf_19 : decode cX12_nodeOf 19 = .ok (.istore_n 3, 1) := by decide +kernel
theorem dX12_nodeOf_20 : decode cX12_nodeOf 20 = .ok (.iconst 0, 1) := by decide +kernel
theorem dX12_nodeOf_21 : decode cX12_nodeOf 21 = .ok (.istore 4, 2) := by decide +kernel
theorem dX12_nodeOf_23 : decode cX12_nodeOf 23 = .ok (.iload 4, 2) := by decide +kernel
theorem dX12_nodeOf_25 : decode cX12_nodeOf 25 = .ok (.aload_n 0, 1) := by decide +kernel
theorem dX12_nodeOf_26 : decode cX12_nodeOf 26 = .ok (.getfield 75, 3) := by decide +kernel
theorem dX12_nodeOf_29 : decode cX12_nodeOf 29 = .ok (.sipush 164, 3) := by decide +kernel
theorem dX12_nodeOf_32 : decode cX12_nodeOf 32 = .ok (.iload_n 2, 1) := by decide +kernel
theorem dX12_nodeOf_33 : decode cX12_nodeOf 33 = .ok (.iadd, 1) := by decide +kernel
theorem dX12_nodeOf_34 : decode cX12_nodeOf 34 = .ok (.iaload, 1) := by decide +kernel
theorem dX12_nodeOf_35 : decode cX12_nodeOf 35 = .ok (.if_icmp .ge 31, 3) := by decide +kernel
theorem dX12_nodeOf_38 : decode cX12_nodeOf 38 = .ok (.aload_n 0, 1) := by decide +kernel
theorem dX12_nodeOf_39 : decode cX12_nodeOf 39 = .ok (.getfield 75, 3) := by decide +kernel
theorem dX12_nodeOf_42 : decode cX12_nodeOf 42 = .ok (.sipush 205, 3) := by decide +kernel
theorem dX12_nodeOf_45 : decode cX12_nodeOf 45 = .ok (.iload 4, 2) := by decide +kernel
theorem dX12_nodeOf_47 : decode cX12_nodeOf 47 = .ok (.iadd, 1) := by decide +kernel
theorem dX12_nodeOf_48 : decode cX12_nodeOf 48 = .ok (.iaload, 1) := by decide +kernel
theorem dX12_nodeOf_49 : decode cX12_nodeOf 49 = .ok (.iload_n 1, 1) := by decide +kernel
theorem dX12_nodeOf_50 : decode cX12_nodeOf 50 = .ok (.if_icmp .ne 8, 3) := by decide +kernel
theorem dX12_nodeOf_53 : decode cX12_nodeOf 53 = .ok (.iload 4, 2) := by decide +kernel
theorem dX12_nodeOf_55 : decode cX12_nodeOf 55 = .ok (.goto 4, 3) := by decide +kernel
theorem dX12_nodeOf_58 : decode cX12_nodeOf 58 = .ok (.iload_n 3, 1) := by decide +kernel
theorem dX12_nodeOf_59 : decode cX12_nodeOf 59 = .ok (.istore_n 3, 1) := by decide +kernel
theorem dX12_nodeOf_60 : decode cX12_nodeOf 60 = .ok (.iinc 4 1, 3) := by decide +kernel
theorem dX12_nodeOf_63 : decode cX12_nodeOf 63 = .ok (.goto (-40), 3) := by decide +kernel
theorem dX12_nodeOf_66 : decode cX12_nodeOf 66 = .ok (.iload_n 3, 1) := by decide +kernel
theorem dX12_nodeOf_67 : decode cX12_nodeOf 67 = .ok (.ireturn, 1) := by decide +kernel
theorem dX12_isHeavier_0 : decode cX12_isHeavier 0 = .ok (.aload_n 0, 1) := by decide +kernel
theorem dX12_isHeavier_1 : decode cX12_isHeavier 1 = .ok (.getfield 66, 3) := by decide +kernel
theorem dX12_isHeavier_4 : decode cX12_isHeavier 4 = .ok (.iload_n 1, 1) := by decide +kernel
theorem dX12_isHeavier_5 : decode cX12_isHeavier 5 = .ok (.iaload, 1) := by decide +kernel
theorem dX12_isHeavier_6 : decode cX12_isHeavier 6 = .ok (.aload_n 0, 1) := by decide +kernel
theorem dX12_isHeavier_7 : decode cX12_isHeavier 7 = .ok (.getfield 66, 3) := by decide +kernel
theorem dX12_isHeavier_10 : decode cX12_isHeavier 10 = .ok (.iload_n 2, 1) := by decide +kernel
theorem dX12_isHeavier_11 : decode cX12_isHeavier 11 = .ok (.iaload, 1) := by decide +kernel
theorem dX12_isHeavier_12 : decode cX12_isHeavier 12 = .ok (.if_icmp .gt 23, 3) := by decide +kernel
theorem dX12_isHeavier_15 : decode cX12_isHeavier 15 = .ok (.aload_n 0, 1) := by decide +kernel
theorem dX12_isHeavier_16 : decode cX12_isHeavier 16 = .ok (.getfield 66, 3) := by decide +kernel
theorem dX12_isHeavier_19 : decode cX12_isHeavier 19 = .ok (.iload_n 1, 1) := by decide +kernel
theorem dX12_isHeavier_20 : decode cX12_isHeavier 20 = .ok (.iaload, 1) := by decide +kernel
theorem dX12_isHeavier_21 : decode cX12_isHeavier 21 = .ok (.aload_n 0, 1) := by decide +kernel
theorem dX12_isHeavier_22 : decode cX12_isHeavier 22 = .ok (.getfield 66, 3) := by decide +kernel
theorem dX12_isHeavier_25 : decode cX12_isHeavier 25 = .ok (.iload_n 2, 1) := by decide +kernel
theorem dX12_isHeavier_26 : decode cX12_isHeavier 26 = .ok (.iaload, 1) := by decide +kernel
theorem dX12_isHeavier_27 : decode cX12_isHeavier 27 = .ok (.if_icmp .ne 12, 3) := by decide +kernel
theorem dX12_isHeavier_30 : decode cX12_isHeavier 30 = .ok (.iload_n 1, 1) := by decide +kernel
theorem dX12_isHeavier_31 : decode cX12_isHeavier 31 = .ok (.iload_n 2, 1) := by decide +kernel
theorem dX12_isHeavier_32 : decode cX12_isHeavier 32 = .ok (.if_icmp .ge 7, 3) := by decide +kernel
theorem dX12_isHeavier_35 : decode cX12_isHeavier 35 = .ok (.iconst 1, 1) := by decide +kernel
theorem dX12_isHeavier_36 : decode cX12_isHeavier 36 = .ok (.goto 4, 3) := by decide +kernel
theorem dX12_isHeavier_39 : decode cX12_isHeavier 39 = .ok (.iconst 0, 1) := by decide +kernel
theorem dX12_isHeavier_40 : decode cX12_isHeavier 40 = .ok (.ireturn, 1) := by decide +kernel
theorem dX12_layRow_0 : decode cX12_layRow 0 = .ok (.aload_n 0, 1) := by decide +kernel
theorem dX12_layRow_1 : decode cX12_layRow 1 = .ok (.iconst 0, 1) := by decide +kernel
theorem dX12_layRow_2 : decode cX12_layRow 2 = .ok (.putfield 426, 3) := by decide +kernel
theorem dX12_layRow_5 : decode cX12_layRow 5 = .ok (.iconst 0, 1) := by decide +kernel
theorem dX12_layRow_6 : decode cX12_layRow 6 = .ok (.istore_n 3, 1) := by decide +kernel
theorem dX12_layRow_7 : decode cX12_layRow 7 = .ok (.iload_n 3, 1) := by decide +kernel
theorem dX12_layRow_8 : decode cX12_layRow 8 = .ok (.aload_n 0, 1) := by decide +kernel
theorem dX12_layRow_9 : decode cX12_layRow 9 = .ok (.getfield 371, 3) := by decide +kernel
theorem dX12_layRow_12 : decode cX12_layRow 12 = .ok (.if_icmp .ge 89, 3) := by decide +kernel
theorem dX12_layRow_15 : decode cX12_layRow 15 = .ok (.iload_n 1, 1) := by decide +kernel
theorem dX12_layRow_16 : decode cX12_layRow 16 = .ok (.iload_n 3, 1) := by decide +kernel
theorem dX12_layRow_17 : decode cX12_layRow 17 = .ok (.invokestatic 423, 3) := by decide +kernel
theorem dX12_layRow_20 : decode cX12_layRow 20 = .ok (.ifCond .ne 6, 3) := by decide +kernel
theorem dX12_layRow_23 : decode cX12_layRow 23 = .ok (.goto 72, 3) := by decide +kernel
theorem dX12_layRow_26 : decode cX12_layRow 26 = .ok (.aload_n 0, 1) := by decide +kernel
theorem dX12_layRow_27 : decode cX12_layRow 27 = .ok (.getfield 426, 3) := by decide +kernel
theorem dX12_layRow_30 : decode cX12_layRow 30 = .ok (.istore 4, 2) := by decide +kernel
theorem dX12_layRow_32 : decode cX12_layRow 32 = .ok (.iload 4, 2) := by decide +kernel
theorem dX12_layRow_34 : decode cX12_layRow 34 = .ok (.ifCond .le 43, 3) := by decide +kernel
theorem dX12_layRow_37 : decode cX12_layRow 37 = .ok (.aload_n 0, 1) := by decide +kernel
theorem dX12_layRow_38 : decode cX12_layRow 38 = .ok (.aload_n 0, 1) := by decide +kernel
theorem dX12_layRow_39 : decode cX12_layRow 39 = .ok (.getfield 78, 3) := by decide +kernel
theorem dX12_layRow_42 : decode cX12_layRow 42 = .ok (.iload 4, 2) := by decide +kernel
theorem dX12_layRow_44 : decode cX12_layRow 44 = .ok (.iconst 1, 1) := by decide +kernel
theorem dX12_layRow_45 : decode cX12_layRow 45 = .ok (.isub, 1) := by decide +kernel
theorem dX12_layRow_46 : decode cX12_layRow 46 = .ok (.iaload, 1) := by decide +kernel
theorem dX12_layRow_47 : decode cX12_layRow 47 = .ok (.iload_n 3, 1) := by decide +kernel
theorem dX12_layRow_48 : decode cX12_layRow 48 = .ok (.iload_n 2, 1) := by decide +kernel
theorem dX12_layRow_49 : decode cX12_layRow 49 = .ok (.invokevirtual 414, 3) := by decide +kernel
theorem dX12_layRow_52 : decode cX12_layRow 52 = .ok (.ifCond .eq 25, 3) := by decide +kernel
theorem dX12_layRow_55 : decode cX12_layRow 55 = .ok (.aload_n 0, 1) := by decide +kernel
theorem dX12_layRow_56 : decode cX12_layRow 56 = .ok (.getfield 78, 3) := by decide +kernel
theorem dX12_layRow_59 : decode cX12_layRow 59 = .ok (.iload 4, 2) := by decide +kernel
theorem dX12_layRow_61 : decode cX12_layRow 61 = .ok (.aload_n 0, 1) := by decide +kernel
theorem dX12_layRow_62 : decode cX12_layRow 62 = .ok (.getfield 78, 3) := by decide +kernel
theorem dX12_layRow_65 : decode cX12_layRow 65 = .ok (.iload 4, 2) := by decide +kernel
theorem dX12_layRow_67 : decode cX12_layRow 67 = .ok (.iconst 1, 1) := by decide +kernel
theorem dX12_layRow_68 : decode cX12_layRow 68 = .ok (.isub, 1) := by decide +kernel
theorem dX12_layRow_69 : decode cX12_layRow 69 = .ok (.iaload, 1) := by decide +kernel
theorem dX12_layRow_70 : decode cX12_layRow 70 = .ok (.iastore, 1) := by decide +kernel
theorem dX12_layRow_71 : decode cX12_layRow 71 = .ok (.iinc 4 (-1), 3) := by decide +kernel
theorem dX12_layRow_74 : decode cX12_layRow 74 = .ok (.goto (-42), 3) := by decide +kernel
theorem dX12_layRow_77 : decode cX12_layRow 77 = .ok (.aload_n 0, 1) := by decide +kernel
theorem dX12_layRow_78 : decode cX12_layRow 78 = .ok (.getfield 78, 3) := by decide +kernel
theorem dX12_layRow_81 : decode cX12_layRow 81 = .ok (.iload 4, 2) := by decide +kernel
theorem dX12_layRow_83 : decode cX12_layRow 83 = .ok (.iload_n 3, 1) := by decide +kernel
theorem dX12_layRow_84 : decode cX12_layRow 84 = .ok (.iastore, 1) := by decide +kernel
theorem dX12_layRow_85 : decode cX12_layRow 85 = .ok (.aload_n 0, 1) := by decide +kernel
theorem dX12_layRow_86 : decode cX12_layRow 86 = .ok (.dup, 1) := by decide +kernel
theorem dX12_layRow_87 : decode cX12_layRow 87 = .ok (.getfield 426, 3) := by decide +kernel
theorem dX12_layRow_90 : decode cX12_layRow 90 = .ok (.iconst 1, 1) := by decide +kernel
theorem dX12_layRow_91 : decode cX12_layRow 91 = .ok (.iadd, 1) := by decide +kernel
theorem dX12_layRow_92 : decode cX12_layRow 92 = .ok (.putfield 426, 3) := by decide +kernel
theorem dX12_layRow_95 : decode cX12_layRow 95 = .ok (.iinc 3 1, 3) := by decide +kernel
theorem dX12_layRow_98 : decode cX12_layRow 98 = .ok (.goto (-91), 3) := by decide +kernel
theorem dX12_layRow_101 : decode cX12_layRow 101 = .ok (.return_, 1) := by decide +kernel
theorem dX12_layTree_0 : decode cX12_layTree 0 = .ok (.aload_n 0, 1) := by decide +kernel
theorem dX12_layTree_1 : decode cX12_layTree 1 = .ok (.aload_n 0, 1) := by decide +kernel
theorem dX12_layTree_2 : decode cX12_layTree 2 = .ok (.iload_n 1, 1) := by decide +kernel
theorem dX12_layTree_3 : decode cX12_layTree 3 = .ok (.invokevirtual 420, 3) := by decide +kernel
theorem dX12_layTree_6 : decode cX12_layTree 6 = .ok (.aload_n 0, 1) := by decide +kernel
theorem dX12_layTree_7 : decode cX12_layTree 7 = .ok (.iload_n 1, 1) := by decide +kernel
theorem dX12_layTree_8 : decode cX12_layTree 8 = .ok (.invokevirtual 429, 3) := by decide +kernel
theorem dX12_layTree_11 : decode cX12_layTree 11 = .ok (.invokevirtual 432, 3) := by decide +kernel
theorem dX12_layTree_14 : decode cX12_layTree 14 = .ok (.iconst 0, 1) := by decide +kernel
theorem dX12_layTree_15 : decode cX12_layTree 15 = .ok (.istore_n 2, 1) := by decide +kernel
theorem dX12_layTree_16 : decode cX12_layTree 16 = .ok (.iconst 0, 1) := by decide +kernel
theorem dX12_layTree_17 : decode cX12_layTree 17 = .ok (.istore_n 3, 1) := by decide +kernel
theorem dX12_layTree_18 : decode cX12_layTree 18 = .ok (.iload_n 3, 1) := by decide +kernel
theorem dX12_layTree_19 : decode cX12_layTree 19 = .ok (.aload_n 0, 1) := by decide +kernel
theorem dX12_layTree_20 : decode cX12_layTree 20 = .ok (.getfield 426, 3) := by decide +kernel
theorem dX12_layTree_23 : decode cX12_layTree 23 = .ok (.if_icmp .ge 103, 3) := by decide +kernel
theorem dX12_layTree_26 : decode cX12_layTree 26 = .ok (.aload_n 0, 1) := by decide +kernel
theorem dX12_layTree_27 : decode cX12_layTree 27 = .ok (.getfield 78, 3) := by decide +kernel
theorem dX12_layTree_30 : decode cX12_layTree 30 = .ok (.iload_n 3, 1) := by decide +kernel
theorem dX12_layTree_31 : decode cX12_layTree 31 = .ok (.iaload, 1) := by decide +kernel
theorem dX12_layTree_32 : decode cX12_layTree 32 = .ok (.istore 4, 2) := by decide +kernel
theorem dX12_layTree_34 : decode cX12_layTree 34 = .ok (.aload_n 0, 1) := by decide +kernel
theorem dX12_layTree_35 : decode cX12_layTree 35 = .ok (.getfield 81, 3) := by decide +kernel
theorem dX12_layTree_38 : decode cX12_layTree 38 = .ok (.iload 4, 2) := by decide +kernel
theorem dX12_layTree_40 : decode cX12_layTree 40 = .ok (.iconst (-1), 1) := by decide +kernel
theorem dX12_layTree_41 : decode cX12_layTree 41 = .ok (.iastore, 1) := by decide +kernel
theorem dX12_layTree_42 : decode cX12_layTree 42 = .ok (.aload_n 0, 1) := by decide +kernel
theorem dX12_layTree_43 : decode cX12_layTree 43 = .ok (.getfield 84, 3) := by decide +kernel
theorem dX12_layTree_46 : decode cX12_layTree 46 = .ok (.iload 4, 2) := by decide +kernel
theorem dX12_layTree_48 : decode cX12_layTree 48 = .ok (.iconst (-1), 1) := by decide +kernel
theorem dX12_layTree_49 : decode cX12_layTree 49 = .ok (.iastore, 1) := by decide +kernel
theorem dX12_layTree_50 : decode cX12_layTree 50 = .ok (.iload_n 2, 1) := by decide +kernel
theorem dX12_layTree_51 : decode cX12_layTree 51 = .ok (.ifCond .le 39, 3) := by decide +kernel
theorem dX12_layTree_54 : decode cX12_layTree 54 = .ok (.aload_n 0, 1) := by decide +kernel
theorem dX12_layTree_55 : decode cX12_layTree 55 = .ok (.iload 4, 2) := by decide +kernel
theorem dX12_layTree_57 : decode cX12_layTree 57 = .ok (.aload_n 0, 1) := by decide +kernel
theorem dX12_layTree_58 : decode cX12_layTree 58 = .ok (.getfield 90, 3) := by decide +kernel
theorem dX12_layTree_61 : decode cX12_layTree 61 = .ok (.iload_n 2, 1) := by decide +kernel
theorem dX12_layTree_62 : decode cX12_layTree 62 = .ok (.iconst 1, 1) := by decide +kernel
theorem dX12_layTree_63 : decode cX12_layTree 63 = .ok (.isub, 1) := by decide +kernel
theorem dX12_layTree_64 : decode cX12_layTree 64 = .ok (.iaload, 1) := by decide +kernel
theorem dX12_layTree_65 : decode cX12_layTree 65 = .ok (.invokevirtual 435, 3) := by decide +kernel
theorem dX12_layTree_68 : decode cX12_layTree 68 = .ok (.ifCond .eq 22, 3) := by decide +kernel
theorem dX12_layTree_71 : decode cX12_layTree 71 = .ok (.iinc 2 (-1), 3) := by decide +kernel
theorem dX12_layTree_74 : decode cX12_layTree 74 = .ok (.aload_n 0, 1) := by decide +kernel
theorem dX12_layTree_75 : decode cX12_layTree 75 = .ok (.getfield 81, 3) := by decide +kernel
theorem dX12_layTree_78 : decode cX12_layTree 78 = .ok (.iload 4, 2) := by decide +kernel
theorem dX12_layTree_80 : decode cX12_layTree 80 = .ok (.aload_n 0, 1) := by decide +kernel
theorem dX12_layTree_81 : decode cX12_layTree 81 = .ok (.getfield 90, 3) := by decide +kernel
theorem dX12_layTree_84 : decode cX12_layTree 84 = .ok (.iload_n 2, 1) := by decide +kernel
theorem dX12_layTree_85 : decode cX12_layTree 85 = .ok (.iaload, 1) := by decide +kernel
theorem dX12_layTree_86 : decode cX12_layTree 86 = .ok (.iastore, 1) := by decide +kernel
theorem dX12_layTree_87 : decode cX12_layTree 87 = .ok (.goto (-37), 3) := by decide +kernel
theorem dX12_layTree_90 : decode cX12_layTree 90 = .ok (.iload_n 2, 1) := by decide +kernel
theorem dX12_layTree_91 : decode cX12_layTree 91 = .ok (.ifCond .le 18, 3) := by decide +kernel
theorem dX12_layTree_94 : decode cX12_layTree 94 = .ok (.aload_n 0, 1) := by decide +kernel
theorem dX12_layTree_95 : decode cX12_layTree 95 = .ok (.getfield 84, 3) := by decide +kernel
theorem dX12_layTree_98 : decode cX12_layTree 98 = .ok (.aload_n 0, 1) := by decide +kernel
theorem dX12_layTree_99 : decode cX12_layTree 99 = .ok (.getfield 90, 3) := by decide +kernel
theorem dX12_layTree_102 : decode cX12_layTree 102 = .ok (.iload_n 2, 1) := by decide +kernel
theorem dX12_layTree_103 : decode cX12_layTree 103 = .ok (.iconst 1, 1) := by decide +kernel
theorem dX12_layTree_104 : decode cX12_layTree 104 = .ok (.isub, 1) := by decide +kernel
theorem dX12_layTree_105 : decode cX12_layTree 105 = .ok (.iaload, 1) := by decide +kernel
theorem dX12_layTree_106 : decode cX12_layTree 106 = .ok (.iload 4, 2) := by decide +kernel
theorem dX12_layTree_108 : decode cX12_layTree 108 = .ok (.iastore, 1) := by decide +kernel
theorem dX12_layTree_109 : decode cX12_layTree 109 = .ok (.aload_n 0, 1) := by decide +kernel
theorem dX12_layTree_110 : decode cX12_layTree 110 = .ok (.getfield 90, 3) := by decide +kernel
theorem dX12_layTree_113 : decode cX12_layTree 113 = .ok (.iload_n 2, 1) := by decide +kernel
theorem dX12_layTree_114 : decode cX12_layTree 114 = .ok (.iload 4, 2) := by decide +kernel
theorem dX12_layTree_116 : decode cX12_layTree 116 = .ok (.iastore, 1) := by decide +kernel
theorem dX12_layTree_117 : decode cX12_layTree 117 = .ok (.iinc 2 1, 3) := by decide +kernel
theorem dX12_layTree_120 : decode cX12_layTree 120 = .ok (.iinc 3 1, 3) := by decide +kernel
theorem dX12_layTree_123 : decode cX12_layTree 123 = .ok (.goto (-105), 3) := by decide +kernel
theorem dX12_layTree_126 : decode cX12_layTree 126 = .ok (.aload_n 0, 1) := by decide +kernel
theorem dX12_layTree_127 : decode cX12_layTree 127 = .ok (.aload_n 0, 1) := by decide +kernel
theorem dX12_layTree_128 : decode cX12_layTree 128 = .ok (.getfield 426, 3) := by decide +kernel
theorem dX12_layTree_131 : decode cX12_layTree 131 = .ok (.ifCond .ne 7, 3) := by decide +kernel
theorem dX12_layTree_134 : decode cX12_layTree 134 = .ok (.iconst (-1), 1) := by decide +kernel
theorem dX12_layTree_135 : decode cX12_layTree 135 = .ok (.goto 9, 3) := by decide +kernel
theorem dX12_layTree_138 : decode cX12_layTree 138 = .ok (.aload_n 0, 1) := by decide +kernel
theorem dX12_layTree_139 : decode cX12_layTree 139 = .ok (.getfield 90, 3) := by decide +kernel
theorem dX12_layTree_142 : decode cX12_layTree 142 = .ok (.iconst 0, 1) := by decide +kernel
theorem dX12_layTree_143 : decode cX12_layTree 143 = .ok (.iaload, 1) := by decide +kernel
theorem dX12_layTree_144 : decode cX12_layTree 144 = .ok (.putfield 438, 3) := by decide +kernel
theorem dX12_layTree_147 : decode cX12_layTree 147 = .ok (.aload_n 0, 1) := by decide +kernel
theorem dX12_layTree_148 : decode cX12_layTree 148 = .ok (.invokevirtual 441, 3) := by decide +kernel
theorem dX12_layTree_151 : decode cX12_layTree 151 = .ok (.return_, 1) := by decide +kernel
theorem dX12_push_0 : decode cX12_push 0 = .ok (.iload_n 2, 1) := by decide +kernel
theorem dX12_push_1 : decode cX12_push 1 = .ok (.ifCond .ge 5, 3) := by decide +kernel
theorem dX12_push_4 : decode cX12_push 4 = .ok (.iload_n 1, 1) := by decide +kernel
theorem dX12_push_5 : decode cX12_push 5 = .ok (.ireturn, 1) := by decide +kernel
theorem dX12_push_6 : decode cX12_push 6 = .ok (.aload_n 0, 1) := by decide +kernel
theorem dX12_push_7 : decode cX12_push 7 = .ok (.getfield 90, 3) := by decide +kernel
theorem dX12_push_10 : decode cX12_push 10 = .ok (.iload_n 1, 1) := by decide +kernel
theorem dX12_push_11 : decode cX12_push 11 = .ok (.iload_n 2, 1) := by decide +kernel
theorem dX12_push_12 : decode cX12_push 12 = .ok (.iastore, 1) := by decide +kernel
theorem dX12_push_13 : decode cX12_push 13 = .ok (.iload_n 1, 1) := by decide +kernel
theorem dX12_push_14 : decode cX12_push 14 = .ok (.iconst 1, 1) := by decide +kernel
theorem dX12_push_15 : decode cX12_push 15 = .ok (.iadd, 1) := by decide +kernel
theorem dX12_push_16 : decode cX12_push 16 = .ok (.ireturn, 1) := by decide +kernel
theorem dX12_layOrders_0 : decode cX12_layOrders 0 = .ok (.aload_n 0, 1) := by decide +kernel
theorem dX12_layOrders_1 : decode cX12_layOrders 1 = .ok (.iconst 0, 1) := by decide +kernel
theorem dX12_layOrders_2 : decode cX12_layOrders 2 = .ok (.aload_n 0, 1) := by decide +kernel
theorem dX12_layOrders_3 : decode cX12_layOrders 3 = .ok (.getfield 438, 3) := by decide +kernel
theorem dX12_layOrders_6 : decode cX12_layOrders 6 = .ok (.invokevirtual 444, 3) := by decide +kernel
theorem dX12_layOrders_9 : decode cX12_layOrders 9 = .ok (.istore_n 1, 1) := by decide +kernel
theorem dX12_layOrders_10 : decode cX12_layOrders 10 = .ok (.iconst 0, 1) := by decide +kernel
theorem dX12_layOrders_11 : decode cX12_layOrders 11 = .ok (.istore_n 2, 1) := by decide +kernel
theorem dX12_layOrders_12 : decode cX12_layOrders 12 = .ok (.iload_n 1, 1) := by decide +kernel
theorem dX12_layOrders_13 : decode cX12_layOrders 13 = .ok (.ifCond .le 50, 3) := by decide +kernel
theorem dX12_layOrders_16 : decode cX12_layOrders 16 = .ok (.iinc 1 (-1), 3) := by decide +kernel
theorem dX12_layOrders_19 : decode cX12_layOrders 19 = .ok (.aload_n 0, 1) := by decide +kernel
theorem dX12_layOrders_20 : decode cX12_layOrders 20 = .ok (.getfield 90, 3) := by decide +kernel
theorem dX12_layOrders_23 : decode cX12_layOrders 23 = .ok (.iload_n 1, 1) := by decide +kernel
theorem dX12_layOrders_24 : decode cX12_layOrders 24 = .ok (.iaload, 1) := by decide +kernel
theorem dX12_layOrders_25 : decode cX12_layOrders 25 = .ok (.istore_n 3, 1) := by decide +kernel
theorem dX12_layOrders_26 : decode cX12_layOrders 26 = .ok (.aload_n 0, 1) := by decide +kernel
theorem dX12_layOrders_27 : decode cX12_layOrders 27 = .ok (.getfield 96, 3) := by decide +kernel
theorem dX12_layOrders_30 : decode cX12_layOrders 30 = .ok (.iload_n 2, 1) := by decide +kernel
theorem dX12_layOrders_31 : decode cX12_layOrders 31 = .ok (.iload_n 3, 1) := by decide +kernel
theorem dX12_layOrders_32 : decode cX12_layOrders 32 = .ok (.iastore, 1) := by decide +kernel
theorem dX12_layOrders_33 : decode cX12_layOrders 33 = .ok (.iinc 2 1, 3) := by decide +kernel
theorem dX12_layOrders_36 : decode cX12_layOrders 36 = .ok (.aload_n 0, 1) := by decide +kernel
theorem dX12_layOrders_37 : decode cX12_layOrders 37 = .ok (.iload_n 1, 1) := by decide +kernel
theorem dX12_layOrders_38 : decode cX12_layOrders 38 = .ok (.aload_n 0, 1) := by decide +kernel
theorem dX12_layOrders_39 : decode cX12_layOrders 39 = .ok (.getfield 84, 3) := by decide +kernel
theorem dX12_layOrders_42 : decode cX12_layOrders 42 = .ok (.iload_n 3, 1) := by decide +kernel
theorem dX12_layOrders_43 : decode cX12_layOrders 43 = .ok (.iaload, 1) := by decide +kernel
theorem dX12_layOrders_44 : decode cX12_layOrders 44 = .ok (.invokevirtual 444, 3) := by decide +kernel
theorem dX12_layOrders_47 : decode cX12_layOrders 47 = .ok (.istore_n 1, 1) := by decide +kernel
theorem dX12_layOrders_48 : decode cX12_layOrders 48 = .ok (.aload_n 0, 1) := by decide +kernel
theorem dX12_layOrders_49 : decode cX12_layOrders 49 = .ok (.iload_n 1, 1) := by decide +kernel
theorem dX12_layOrders_50 : decode cX12_layOrders 50 = .ok (.aload_n 0, 1) := by decide +kernel
theorem dX12_layOrders_51 : decode cX12_layOrders 51 = .ok (.getfield 81, 3) := by decide +kernel
theorem dX12_layOrders_54 : decode cX12_layOrders 54 = .ok (.iload_n 3, 1) := by decide +kernel
theorem dX12_layOrders_55 : decode cX12_layOrders 55 = .ok (.iaload, 1) := by decide +kernel
theorem dX12_layOrders_56 : decode cX12_layOrders 56 = .ok (.invokevirtual 444, 3) := by decide +kernel
theorem dX12_layOrders_59 : decode cX12_layOrders 59 = .ok (.istore_n 1, 1) := by decide +kernel
theorem dX12_layOrders_60 : decode cX12_layOrders 60 = .ok (.goto (-48), 3) := by decide +kernel
theorem dX12_layOrders_63 : decode cX12_layOrders 63 = .ok (.aload_n 0, 1) := by decide +kernel
theorem dX12_layOrders_64 : decode cX12_layOrders 64 = .ok (.iconst 0, 1) := by decide +kernel
theorem dX12_layOrders_65 : decode cX12_layOrders 65 = .ok (.aload_n 0, 1) := by decide +kernel
theorem dX12_layOrders_66 : decode cX12_layOrders 66 = .ok (.getfield 438, 3) := by decide +kernel
theorem dX12_layOrders_69 : decode cX12_layOrders 69 = .ok (.invokevirtual 444, 3) := by decide +kernel
theorem dX12_layOrders_72 : decode cX12_layOrders 72 = .ok (.istore_n 1, 1) := by decide +kernel
theorem dX12_layOrders_73 : decode cX12_layOrders 73 = .ok (.aload_n 0, 1) := by decide +kernel
theorem dX12_layOrders_74 : decode cX12_layOrders 74 = .ok (.getfield 426, 3) := by decide +kernel
theorem dX12_layOrders_77 : decode cX12_layOrders 77 = .ok (.istore_n 2, 1) := by decide +kernel
theorem dX12_layOrders_78 : decode cX12_layOrders 78 = .ok (.iload_n 1, 1) := by decide +kernel
theorem dX12_layOrders_79 : decode cX12_layOrders 79 = .ok (.ifCond .le 50, 3) := by decide +kernel
theorem dX12_layOrders_82 : decode cX12_layOrders 82 = .ok (.iinc 1 (-1), 3) := by decide +kernel
theorem dX12_layOrders_85 : decode cX12_layOrders 85 = .ok (.aload_n 0, 1) := by decide +kernel
theorem dX12_layOrders_86 : decode cX12_layOrders 86 = .ok (.getfield 90, 3) := by decide +kernel
theorem dX12_layOrders_89 : decode cX12_layOrders 89 = .ok (.iload_n 1, 1) := by decide +kernel
theorem dX12_layOrders_90 : decode cX12_layOrders 90 = .ok (.iaload, 1) := by decide +kernel
theorem dX12_layOrders_91 : decode cX12_layOrders 91 = .ok (.istore_n 3, 1) := by decide +kernel
theorem dX12_layOrders_92 : decode cX12_layOrders 92 = .ok (.iinc 2 (-1), 3) := by decide +kernel
theorem dX12_layOrders_95 : decode cX12_layOrders 95 = .ok (.aload_n 0, 1) := by decide +kernel
theorem dX12_layOrders_96 : decode cX12_layOrders 96 = .ok (.getfield 93, 3) := by decide +kernel
theorem dX12_layOrders_99 : decode cX12_layOrders 99 = .ok (.iload_n 2, 1) := by decide +kernel
theorem dX12_layOrders_100 : decode cX12_layOrders 100 = .ok (.iload_n 3, 1) := by decide +kernel
theorem dX12_layOrders_101 : decode cX12_layOrders 101 = .ok (.iastore, 1) := by decide +kernel
theorem dX12_layOrders_102 : decode cX12_layOrders 102 = .ok (.aload_n 0, 1) := by decide +kernel
theorem dX12_layOrders_103 : decode cX12_layOrders 103 = .ok (.iload_n 1, 1) := by decide +kernel
theorem dX12_layOrders_104 : decode cX12_layOrders 104 = .ok (.aload_n 0, 1) := by decide +kernel
theorem dX12_layOrders_105 : decode cX12_layOrders 105 = .ok (.getfield 81, 3) := by decide +kernel
theorem dX12_layOrders_108 : decode cX12_layOrders 108 = .ok (.iload_n 3, 1) := by decide +kernel
theorem dX12_layOrders_109 : decode cX12_layOrders 109 = .ok (.iaload, 1) := by decide +kernel
theorem dX12_layOrders_110 : decode cX12_layOrders 110 = .ok (.invokevirtual 444, 3) := by decide +kernel
theorem dX12_layOrders_113 : decode cX12_layOrders 113 = .ok (.istore_n 1, 1) := by decide +kernel
theorem dX12_layOrders_114 : decode cX12_layOrders 114 = .ok (.aload_n 0, 1) := by decide +kernel
theorem dX12_layOrders_115 : decode cX12_layOrders 115 = .ok (.iload_n 1, 1) := by decide +kernel
theorem dX12_layOrders_116 : decode cX12_layOrders 116 = .ok (.aload_n 0, 1) := by decide +kernel
theorem dX12_layOrders_117 : decode cX12_layOrders 117 = .ok (.getfield 84, 3) := by decide +kernel
theorem dX12_layOrders_120 : decode cX12_layOrders 120 = .ok (.iload_n 3, 1) := by decide +kernel
theorem dX12_layOrders_121 : decode cX12_layOrders 121 = .ok (.iaload, 1) := by decide +kernel
theorem dX12_layOrders_122 : decode cX12_layOrders 122 = .ok (.invokevirtual 444, 3) := by decide +kernel
theorem dX12_layOrders_125 : decode cX12_layOrders 125 = .ok (.istore_n 1, 1) := by decide +kernel
theorem dX12_layOrders_126 : decode cX12_layOrders 126 = .ok (.goto (-48), 3) := by decide +kernel
theorem dX12_layOrders_129 : decode cX12_layOrders 129 = .ok (.iconst 0, 1) := by decide +kernel
theorem dX12_layOrders_130 : decode cX12_layOrders 130 = .ok (.istore_n 3, 1) := by decide +kernel
theorem dX12_layOrders_131 : decode cX12_layOrders 131 = .ok (.iload_n 3, 1) := by decide +kernel
theorem dX12_layOrders_132 : decode cX12_layOrders 132 = .ok (.aload_n 0, 1) := by decide +kernel
theorem dX12_layOrders_133 : decode cX12_layOrders 133 = .ok (.getfield 426, 3) := by decide +kernel
theorem dX12_layOrders_136 : decode cX12_layOrders 136 = .ok (.if_icmp .ge 107, 3) := by decide +kernel
theorem dX12_layOrders_139 : decode cX12_layOrders 139 = .ok (.aload_n 0, 1) := by decide +kernel
theorem dX12_layOrders_140 : decode cX12_layOrders 140 = .ok (.getfield 93, 3) := by decide +kernel
theorem dX12_layOrders_143 : decode cX12_layOrders 143 = .ok (.iload_n 3, 1) := by decide +kernel
theorem dX12_layOrders_144 : decode cX12_layOrders 144 = .ok (.iaload, 1) := by decide +kernel
theorem dX12_layOrders_145 : decode cX12_layOrders 145 = .ok (.istore 4, 2) := by decide +kernel
theorem dX12_layOrders_147 : decode cX12_layOrders 147 = .ok (.aload_n 0, 1) := by decide +kernel
theorem dX12_layOrders_148 : decode cX12_layOrders 148 = .ok (.getfield 87, 3) := by decide +kernel
theorem dX12_layOrders_151 : decode cX12_layOrders 151 = .ok (.iload 4, 2) := by decide +kernel
theorem dX12_layOrders_153 : decode cX12_layOrders 153 = .ok (.iconst (-1), 1) := by decide +kernel
theorem dX12_layOrders_154 : decode cX12_layOrders 154 = .ok (.iastore, 1) := by decide +kernel
theorem dX12_layOrders_155 : decode cX12_layOrders 155 = .ok (.aload_n 0, 1) := by decide +kernel
theorem dX12_layOrders_156 : decode cX12_layOrders 156 = .ok (.getfield 99, 3) := by decide +kernel
theorem dX12_layOrders_159 : decode cX12_layOrders 159 = .ok (.iload 4, 2) := by decide +kernel
theorem dX12_layOrders_161 : decode cX12_layOrders 161 = .ok (.iconst 1, 1) := by decide +kernel
theorem dX12_layOrders_162 : decode cX12_layOrders 162 = .ok (.aload_n 0, 1) := by decide +kernel
theorem dX12_layOrders_163 : decode cX12_layOrders 163 = .ok (.aload_n 0, 1) := by decide +kernel
theorem dX12_layOrders_164 : decode cX12_layOrders 164 = .ok (.getfield 81, 3) := by decide +kernel
theorem dX12_layOrders_167 : decode cX12_layOrders 167 = .ok (.iload 4, 2) := by decide +kernel
theorem dX12_layOrders_169 : decode cX12_layOrders 169 = .ok (.iaload, 1) := by decide +kernel
theorem dX12_layOrders_170 : decode cX12_layOrders 170 = .ok (.invokevirtual 447, 3) := by decide +kernel
theorem dX12_layOrders_173 : decode cX12_layOrders 173 = .ok (.aload_n 0, 1) := by decide +kernel
theorem dX12_layOrders_174 : decode cX12_layOrders 174 = .ok (.aload_n 0, 1) := by decide +kernel
theorem dX12_layOrders_175 : decode cX12_layOrders 175 = .ok (.getfield 84, 3) := by decide +kernel
theorem dX12_layOrders_178 : decode cX12_layOrders 178 = .ok (.iload 4, 2) := by decide +kernel
theorem dX12_layOrders_180 : decode cX12_layOrders 180 = .ok (.iaload, 1) := by decide +kernel
theorem dX12_layOrders_181 : decode cX12_layOrders 181 = .ok (.invokevirtual 447, 3) := by decide +kernel
theorem dX12_layOrders_184 : decode cX12_layOrders 184 = .ok (.invokestatic 324, 3) := by decide +kernel
theorem dX12_layOrders_187 : decode cX12_layOrders 187 = .ok (.iadd, 1) := by decide +kernel
theorem dX12_layOrders_188 : decode cX12_layOrders 188 = .ok (.iastore, 1) := by decide +kernel
theorem dX12_layOrders_189 : decode cX12_layOrders 189 = .ok (.aload_n 0, 1) := by decide +kernel
theorem dX12_layOrders_190 : decode cX12_layOrders 190 = .ok (.getfield 81, 3) := by decide +kernel
theorem dX12_layOrders_193 : decode cX12_layOrders 193 = .ok (.iload 4, 2) := by decide +kernel
theorem dX12_layOrders_195 : decode cX12_layOrders 195 = .ok (.iaload, 1) := by decide +kernel
theorem dX12_layOrders_196 : decode cX12_layOrders 196 = .ok (.ifCond .lt 17, 3) := by decide +kernel
theorem dX12_layOrders_199 : decode cX12_layOrders 199 = .ok (.aload_n 0, 1) := by decide +kernel
theorem dX12_layOrders_200 : decode cX12_layOrders 200 = .ok (.getfield 87, 3) := by decide +kernel
theorem dX12_layOrders_203 : decode cX12_layOrders 203 = .ok (.aload_n 0, 1) := by decide +kernel
theorem dX12_layOrders_204 : decode cX12_layOrders 204 = .ok (.getfield 81, 3) := by decide +kernel
theorem dX12_layOrders_207 : decode cX12_layOrders 207 = .ok (.iload 4, 2) := by decide +kernel
theorem dX12_layOrders_209 : decode cX12_layOrders 209 = .ok (.iaload, 1) := by decide +kernel
theorem dX12_layOrders_210 : decode cX12_layOrders 210 = .ok (.iload 4, 2) := by decide +kernel
theorem dX12_layOrders_212 : decode cX12_layOrders 212 = .ok (.iastore, 1) := by decide +kernel
theorem dX12_layOrders_213 : decode cX12_layOrders 213 = .ok (.aload_n 0, 1) := by decide +kernel
theorem dX12_layOrders_214 : decode cX12_layOrders 214 = .ok (.getfield 84, 3) := by decide +kernel
theorem dX12_layOrders_217 : decode cX12_layOrders 217 = .ok (.iload 4, 2) := by decide +kernel
theorem dX12_layOrders_219 : decode cX12_layOrders 219 = .ok (.iaload, 1) := by decide +kernel
theorem dX12_layOrders_220 : decode cX12_layOrders 220 = .ok (.ifCond .lt 17, 3) := by decide +kernel
theorem dX12_layOrders_223 : decode cX12_layOrders 223 = .ok (.aload_n 0, 1) := by decide +kernel
theorem dX12_layOrders_224 : decode cX12_layOrders 224 = .ok (.getfield 87, 3) := by decide +kernel
theorem dX12_layOrders_227 : decode cX12_layOrders 227 = .ok (.aload_n 0, 1) := by decide +kernel
theorem dX12_layOrders_228 : decode cX12_layOrders 228 = .ok (.getfield 84, 3) := by decide +kernel
theorem dX12_layOrders_231 : decode cX12_layOrders 231 = .ok (.iload 4, 2) := by decide +kernel
theorem dX12_layOrders_233 : decode cX12_layOrders 233 = .ok (.iaload, 1) := by decide +kernel
theorem dX12_layOrders_234 : decode cX12_layOrders 234 = .ok (.iload 4, 2) := by decide +kernel
theorem dX12_layOrders_236 : decode cX12_layOrders 236 = .ok (.iastore, 1) := by decide +kernel
theorem dX12_layOrders_237 : decode cX12_layOrders 237 = .ok (.iinc 3 1, 3) := by decide +kernel
theorem dX12_layOrders_240 : decode cX12_layOrders 240 = .ok (.goto (-109), 3) := by decide +kernel
theorem dX12_layOrders_243 : decode cX12_layOrders 243 = .ok (.return_, 1) := by decide +kernel
theorem dX12_highBy_0 : decode cX12_highBy 0 = .ok (.iload_n 1, 1) := by decide +kernel
theorem dX12_highBy_1 : decode cX12_highBy 1 = .ok (.ifCond .ge 7, 3) := by decide +kernel
theorem dX12_highBy_4 : decode cX12_highBy 4 = .ok (.iconst 0, 1) := by decide +kernel
theorem dX12_highBy_5 : decode cX12_highBy 5 = .ok (.goto 9, 3) := by decide +kernel
theorem dX12_highBy_8 : decode cX12_highBy 8 = .ok (.aload_n 0, 1) := by decide +kernel
theorem dX12_highBy_9 : decode cX12_highBy 9 = .ok (.getfield 99, 3) := by decide +kernel
theorem dX12_highBy_12 : decode cX12_highBy 12 = .ok (.iload_n 1, 1) := by decide +kernel
theorem dX12_highBy_13 : decode cX12_highBy 13 = .ok (.iaload, 1) := by decide +kernel
theorem dX12_highBy_14 : decode cX12_highBy 14 = .ok (.ireturn, 1) := by decide +kernel
theorem dX12_highAt_0 : decode cX12_highAt 0 = .ok (.aload_n 0, 1) := by decide +kernel
theorem dX12_highAt_1 : decode cX12_highAt 1 = .ok (.iload_n 1, 1) := by decide +kernel
theorem dX12_highAt_2 : decode cX12_highAt 2 = .ok (.invokevirtual 450, 3) := by decide +kernel
theorem dX12_highAt_5 : decode cX12_highAt 5 = .ok (.aload_n 0, 1) := by decide +kernel
theorem dX12_highAt_6 : decode cX12_highAt 6 = .ok (.aload_n 0, 1) := by decide +kernel
theorem dX12_highAt_7 : decode cX12_highAt 7 = .ok (.getfield 438, 3) := by decide +kernel
theorem dX12_highAt_10 : decode cX12_highAt 10 = .ok (.invokevirtual 447, 3) := by decide +kernel
theorem dX12_highAt_13 : decode cX12_highAt 13 = .ok (.ireturn, 1) := by decide +kernel
theorem dX12_nodeNowOf_0 : decode cX12_nodeNowOf 0 = .ok (.iload_n 1, 1) := by decide +kernel
theorem dX12_nodeNowOf_1 : decode cX12_nodeNowOf 1 = .ok (.ifCond .ge 7, 3) := by decide +kernel
theorem dX12_nodeNowOf_4 : decode cX12_nodeNowOf 4 = .ok (.iconst (-1), 1) := by decide +kernel
theorem dX12_nodeNowOf_5 : decode cX12_nodeNowOf 5 = .ok (.goto 9, 3) := by decide +kernel
theorem dX12_nodeNowOf_8 : decode cX12_nodeNowOf 8 = .ok (.aload_n 0, 1) := by decide +kernel
theorem dX12_nodeNowOf_9 : decode cX12_nodeNowOf 9 = .ok (.getfield 102, 3) := by decide +kernel
theorem dX12_nodeNowOf_12 : decode cX12_nodeNowOf 12 = .ok (.iload_n 1, 1) := by decide +kernel
theorem dX12_nodeNowOf_13 : decode cX12_nodeNowOf 13 = .ok (.iaload, 1) := by decide +kernel
theorem dX12_nodeNowOf_14 : decode cX12_nodeNowOf 14 = .ok (.ireturn, 1) := by decide +kernel
theorem dX12_makeNode_0 : decode cX12_makeNode 0 = .ok (.aload_n 0, 1) := by decide +kernel
theorem dX12_makeNode_1 : decode cX12_makeNode 1 = .ok (.getfield 75, 3) := by decide +kernel
theorem dX12_makeNode_4 : decode cX12_makeNode 4 = .ok (.sipush 164, 3) := by decide +kernel
theorem dX12_makeNode_7 : decode cX12_makeNode 7 = .ok (.iload_n 2, 1) := by decide +kernel
theorem dX12_makeNode_8 : decode cX12_makeNode 8 = .ok (.iadd, 1) := by decide +kernel
theorem dX12_makeNode_9 : decode cX12_makeNode 9 = .ok (.iaload, 1) := by decide +kernel
theorem dX12_makeNode_10 : decode cX12_makeNode 10 = .ok (.istore 5, 2) := by decide +kernel
theorem dX12_makeNode_12 : decode cX12_makeNode 12 = .ok (.aload_n 0, 1) := by decide +kernel
theorem dX12_makeNode_13 : decode cX12_makeNode 13 = .ok (.getfield 75, 3) := by decide +kernel
theorem dX12_makeNode_16 : decode cX12_makeNode 16 = .ok (.sipush 164, 3) := by decide +kernel
theorem dX12_makeNode_19 : decode cX12_makeNode 19 = .ok (.iload_n 2, 1) := by decide +kernel
theorem dX12_makeNode_20 : decode cX12_makeNode 20 = .ok (.iadd, 1) := by decide +kernel
theorem dX12_makeNode_21 : decode cX12_makeNode 21 = .ok (.dup2, 1) := by decide +kernel
theorem dX12_makeNode_22 : decode cX12_makeNode 22 = .ok (.iaload, 1) := by decide +kernel
theorem dX12_makeNode_23 : decode cX12_makeNode 23 = .ok (.iconst 1, 1) := by decide +kernel
theorem dX12_makeNode_24 : decode cX12_makeNode 24 = .ok (.iadd, 1) := by decide +kernel
theorem dX12_makeNode_25 : decode cX12_makeNode 25 = .ok (.iastore, 1) := by decide +kernel
theorem dX12_makeNode_26 : decode cX12_makeNode 26 = .ok (.aload_n 0, 1) := by decide +kernel
theorem dX12_makeNode_27 : decode cX12_makeNode 27 = .ok (.getfield 75, 3) := by decide +kernel
theorem dX12_makeNode_30 : decode cX12_makeNode 30 = .ok (.sipush 205, 3) := by decide +kernel
theorem dX12_makeNode_33 : decode cX12_makeNode 33 = .ok (.iload 5, 2) := by decide +kernel
theorem dX12_makeNode_35 : decode cX12_makeNode 35 = .ok (.iadd, 1) := by decide +kernel
theorem dX12_makeNode_36 : decode cX12_makeNode 36 = .ok (.iload_n 1, 1) := by decide +kernel
theorem dX12_makeNode_37 : decode cX12_makeNode 37 = .ok (.iastore, 1) := by decide +kernel
theorem dX12_makeNode_38 : decode cX12_makeNode 38 = .ok (.aload_n 0, 1) := by decide +kernel
theorem dX12_makeNode_39 : decode cX12_makeNode 39 = .ok (.getfield 75, 3) := by decide +kernel
theorem dX12_makeNode_42 : decode cX12_makeNode 42 = .ok (.sipush 525, 3) := by decide +kernel
theorem dX12_makeNode_45 : decode cX12_makeNode 45 = .ok (.iload 5, 2) := by decide +kernel
theorem dX12_makeNode_47 : decode cX12_makeNode 47 = .ok (.iadd, 1) := by decide +kernel
theorem dX12_makeNode_48 : decode cX12_makeNode 48 = .ok (.iload_n 2, 1) := by decide +kernel
theorem dX12_makeNode_49 : decode cX12_makeNode 49 = .ok (.iastore, 1) := by decide +kernel
theorem dX12_makeNode_50 : decode cX12_makeNode 50 = .ok (.aload_n 0, 1) := by decide +kernel
theorem dX12_makeNode_51 : decode cX12_makeNode 51 = .ok (.getfield 75, 3) := by decide +kernel
theorem dX12_makeNode_54 : decode cX12_makeNode 54 = .ok (.sipush 845, 3) := by decide +kernel
theorem dX12_makeNode_57 : decode cX12_makeNode 57 = .ok (.iload 5, 2) := by decide +kernel
theorem dX12_makeNode_59 : decode cX12_makeNode 59 = .ok (.iadd, 1) := by decide +kernel
theorem dX12_makeNode_60 : decode cX12_makeNode 60 = .ok (.iload_n 3, 1) := by decide +kernel
theorem dX12_makeNode_61 : decode cX12_makeNode 61 = .ok (.iastore, 1) := by decide +kernel
theorem dX12_makeNode_62 : decode cX12_makeNode 62 = .ok (.aload_n 0, 1) := by decide +kernel
theorem dX12_makeNode_63 : decode cX12_makeNode 63 = .ok (.getfield 75, 3) := by decide +kernel
theorem dX12_makeNode_66 : decode cX12_makeNode 66 = .ok (.sipush 1165, 3) := by decide +kernel
theorem dX12_makeNode_69 : decode cX12_makeNode 69 = .ok (.iload 5, 2) := by decide +kernel
theorem dX12_makeNode_71 : decode cX12_makeNode 71 = .ok (.iadd, 1) := by decide +kernel
theorem dX12_makeNode_72 : decode cX12_makeNode 72 = .ok (.iload 4, 2) := by decide +kernel
theorem dX12_makeNode_74 : decode cX12_makeNode 74 = .ok (.iastore, 1) := by decide +kernel
theorem dX12_makeNode_75 : decode cX12_makeNode 75 = .ok (.aload_n 0, 1) := by decide +kernel
theorem dX12_makeNode_76 : decode cX12_makeNode 76 = .ok (.getfield 75, 3) := by decide +kernel
theorem dX12_makeNode_79 : decode cX12_makeNode 79 = .ok (.sipush 1485, 3) := by decide +kernel
theorem dX12_makeNode_82 : decode cX12_makeNode 82 = .ok (.iload 5, 2) := by decide +kernel
theorem dX12_makeNode_84 : decode cX12_makeNode 84 = .ok (.iadd, 1) := by decide +kernel
theorem dX12_makeNode_85 : decode cX12_makeNode 85 = .ok (.iconst 0, 1) := by decide +kernel
theorem dX12_makeNode_86 : decode cX12_makeNode 86 = .ok (.iastore, 1) := by decide +kernel
theorem dX12_makeNode_87 : decode cX12_makeNode 87 = .ok (.aload_n 0, 1) := by decide +kernel
theorem dX12_makeNode_88 : decode cX12_makeNode 88 = .ok (.getfield 102, 3) := by decide +kernel
theorem dX12_makeNode_91 : decode cX12_makeNode 91 = .ok (.iload_n 1, 1) := by decide +kernel
theorem dX12_makeNode_92 : decode cX12_makeNode 92 = .ok (.iload 5, 2) := by decide +kernel
theorem dX12_makeNode_94 : decode cX12_makeNode 94 = .ok (.iastore, 1) := by decide +kernel
theorem dX12_makeNode_95 : decode cX12_makeNode 95 = .ok (.return_, 1) := by decide +kernel
theorem dX12_writeSlot_0 : decode cX12_writeSlot 0 = .ok (.bipush 6, 2) := by decide +kernel
theorem dX12_writeSlot_2 : decode cX12_writeSlot 2 = .ok (.iload_n 1, 1) := by decide +kernel
theorem dX12_writeSlot_3 : decode cX12_writeSlot 3 = .ok (.imul, 1) := by decide +kernel
theorem dX12_writeSlot_4 : decode cX12_writeSlot 4 = .ok (.aload_n 0, 1) := by decide +kernel
theorem dX12_writeSlot_5 : decode cX12_writeSlot 5 = .ok (.getfield 75, 3) := by decide +kernel
theorem dX12_writeSlot_8 : decode cX12_writeSlot 8 = .ok (.sipush 1485, 3) := by decide +kernel
theorem dX12_writeSlot_11 : decode cX12_writeSlot 11 = .ok (.iload_n 1, 1) := by decide +kernel
theorem dX12_writeSlot_12 : decode cX12_writeSlot 12 = .ok (.iadd, 1) := by decide +kernel
theorem dX12_writeSlot_13 : decode cX12_writeSlot 13 = .ok (.iaload, 1) := by decide +kernel
theorem dX12_writeSlot_14 : decode cX12_writeSlot 14 = .ok (.iadd, 1) := by decide +kernel
theorem dX12_writeSlot_15 : decode cX12_writeSlot 15 = .ok (.istore 5, 2) := by decide +kernel
theorem dX12_writeSlot_17 : decode cX12_writeSlot 17 = .ok (.aload_n 0, 1) := by decide +kernel
theorem dX12_writeSlot_18 : decode cX12_writeSlot 18 = .ok (.getfield 75, 3) := by decide +kernel
theorem dX12_writeSlot_21 : decode cX12_writeSlot 21 = .ok (.sipush 1805, 3) := by decide +kernel
theorem dX12_writeSlot_24 : decode cX12_writeSlot 24 = .ok (.iload 5, 2) := by decide +kernel
theorem dX12_writeSlot_26 : decode cX12_writeSlot 26 = .ok (.iadd, 1) := by decide +kernel
theorem dX12_writeSlot_27 : decode cX12_writeSlot 27 = .ok (.iload_n 2, 1) := by decide +kernel
theorem dX12_writeSlot_28 : decode cX12_writeSlot 28 = .ok (.iastore, 1) := by decide +kernel
theorem dX12_writeSlot_29 : decode cX12_writeSlot 29 = .ok (.aload_n 0, 1) := by decide +kernel
theorem dX12_writeSlot_30 : decode cX12_writeSlot 30 = .ok (.getfield 75, 3) := by decide +kernel
theorem dX12_writeSlot_33 : decode cX12_writeSlot 33 = .ok (.sipush 3725, 3) := by decide +kernel
theorem dX12_writeSlot_36 : decode cX12_writeSlot 36 = .ok (.iload 5, 2) := by decide +kernel
theorem dX12_writeSlot_38 : decode cX12_writeSlot 38 = .ok (.iadd, 1) := by decide +kernel
theorem dX12_writeSlot_39 : decode cX12_writeSlot 39 = .ok (.iload_n 3, 1) := by decide +kernel
theorem dX12_writeSlot_40 : decode cX12_writeSlot 40 = .ok (.iastore, 1) := by decide +kernel
theorem dX12_writeSlot_41 : decode cX12_writeSlot 41 = .ok (.aload_n 0, 1) := by decide +kernel
theorem dX12_writeSlot_42 : decode cX12_writeSlot 42 = .ok (.getfield 75, 3) := by decide +kernel
theorem dX12_writeSlot_45 : decode cX12_writeSlot 45 = .ok (.sipush 5645, 3) := by decide +kernel
theorem dX12_writeSlot_48 : decode cX12_writeSlot 48 = .ok (.iload 5, 2) := by decide +kernel
theorem dX12_writeSlot_50 : decode cX12_writeSlot 50 = .ok (.iadd, 1) := by decide +kernel
theorem dX12_writeSlot_51 : decode cX12_writeSlot 51 = .ok (.iload 4, 2) := by decide +kernel
theorem dX12_writeSlot_53 : decode cX12_writeSlot 53 = .ok (.iastore, 1) := by decide +kernel
theorem dX12_writeSlot_54 : decode cX12_writeSlot 54 = .ok (.aload_n 0, 1) := by decide +kernel
theorem dX12_writeSlot_55 : decode cX12_writeSlot 55 = .ok (.getfield 75, 3) := by decide +kernel
theorem dX12_writeSlot_58 : decode cX12_writeSlot 58 = .ok (.sipush 1485, 3) := by decide +kernel
theorem dX12_writeSlot_61 : decode cX12_writeSlot 61 = .ok (.iload_n 1, 1) := by decide +kernel
theorem dX12_writeSlot_62 : decode cX12_writeSlot 62 = .ok (.iadd, 1) := by decide +kernel
theorem dX12_writeSlot_63 : decode cX12_writeSlot 63 = .ok (.dup2, 1) := by decide +kernel
theorem dX12_writeSlot_64 : decode cX12_writeSlot 64 = .ok (.iaload, 1) := by decide +kernel
theorem dX12_writeSlot_65 : decode cX12_writeSlot 65 = .ok (.iconst 1, 1) := by decide +kernel
theorem dX12_writeSlot_66 : decode cX12_writeSlot 66 = .ok (.iadd, 1) := by decide +kernel
theorem dX12_writeSlot_67 : decode cX12_writeSlot 67 = .ok (.iastore, 1) := by decide +kernel
theorem dX12_writeSlot_68 : decode cX12_writeSlot 68 = .ok (.return_, 1) := by decide +kernel
theorem dX12_layNode_0 : decode cX12_layNode 0 = .ok (.aload_n 0, 1) := by decide +kernel
theorem dX12_layNode_1 : decode cX12_layNode 1 = .ok (.aload_n 0, 1) := by decide +kernel
theorem dX12_layNode_2 : decode cX12_layNode 2 = .ok (.getfield 81, 3) := by decide +kernel
theorem dX12_layNode_5 : decode cX12_layNode 5 = .ok (.iload_n 1, 1) := by decide +kernel
theorem dX12_layNode_6 : decode cX12_layNode 6 = .ok (.iaload, 1) := by decide +kernel
theorem dX12_layNode_7 : decode cX12_layNode 7 = .ok (.invokevirtual 453, 3) := by decide +kernel
theorem dX12_layNode_10 : decode cX12_layNode 10 = .ok (.istore_n 3, 1) := by decide +kernel
theorem dX12_layNode_11 : decode cX12_layNode 11 = .ok (.aload_n 0, 1) := by decide +kernel
theorem dX12_layNode_12 : decode cX12_layNode 12 = .ok (.aload_n 0, 1) := by decide +kernel
theorem dX12_layNode_13 : decode cX12_layNode 13 = .ok (.getfield 84, 3) := by decide +kernel
theorem dX12_layNode_16 : decode cX12_layNode 16 = .ok (.iload_n 1, 1) := by decide +kernel
theorem dX12_layNode_17 : decode cX12_layNode 17 = .ok (.iaload, 1) := by decide +kernel
theorem dX12_layNode_18 : decode cX12_layNode 18 = .ok (.invokevirtual 453, 3) := by decide +kernel
theorem dX12_layNode_21 : decode cX12_layNode 21 = .ok (.istore 4, 2) := by decide +kernel
theorem dX12_layNode_23 : decode cX12_layNode 23 = .ok (.aload_n 0, 1) := by decide +kernel
theorem dX12_layNode_24 : decode cX12_layNode 24 = .ok (.iload_n 1, 1) := by decide +kernel
theorem dX12_layNode_25 : decode cX12_layNode 25 = .ok (.iload_n 2, 1) := by decide +kernel
theorem dX12_layNode_26 : decode cX12_layNode 26 = .ok (.iconst 1, 1) := by decide +kernel
theorem dX12_layNode_27 : decode cX12_layNode 27 = .ok (.isub, 1) := by decide +kernel
theorem dX12_layNode_28 : decode cX12_layNode 28 = .ok (.invokevirtual 456, 3) := by decide +kernel
theorem dX12_layNode_31 : decode cX12_layNode 31 = .ok (.istore 5, 2) := by decide +kernel
theorem dX12_layNode_33 : decode cX12_layNode 33 = .ok (.iload 5, 2) := by decide +kernel
theorem dX12_layNode_35 : decode cX12_layNode 35 = .ok (.ifCond .lt 19, 3) := by decide +kernel
theorem dX12_layNode_38 : decode cX12_layNode 38 = .ok (.aload_n 0, 1) := by decide +kernel
theorem dX12_layNode_39 : decode cX12_layNode 39 = .ok (.iload 5, 2) := by decide +kernel
theorem dX12_layNode_41 : decode cX12_layNode 41 = .ok (.iconst 0, 1) := by decide +kernel
theorem dX12_layNode_42 : decode cX12_layNode 42 = .ok (.iload_n 2, 1) := by decide +kernel
theorem dX12_layNode_43 : decode cX12_layNode 43 = .ok (.invokevirtual 459, 3) := by decide +kernel
theorem dX12_layNode_46 : decode cX12_layNode 46 = .ok (.iload_n 3, 1) := by decide +kernel
theorem dX12_layNode_47 : decode cX12_layNode 47 = .ok (.if_icmp .eq 7, 3) := by decide +kernel
theorem dX12_layNode_50 : decode cX12_layNode 50 = .ok (.iconst 1, 1) := by decide +kernel
theorem dX12_layNode_51 : decode cX12_layNode 51 = .ok (.goto 4, 3) := by decide +kernel
theorem dX12_layNode_54 : decode cX12_layNode 54 = .ok (.iconst 0, 1) := by decide +kernel
theorem dX12_layNode_55 : decode cX12_layNode 55 = .ok (.istore 6, 2) := by decide +kernel
theorem dX12_layNode_57 : decode cX12_layNode 57 = .ok (.iload 5, 2) := by decide +kernel
theorem dX12_layNode_59 : decode cX12_layNode 59 = .ok (.ifCond .lt 20, 3) := by decide +kernel
theorem dX12_layNode_62 : decode cX12_layNode 62 = .ok (.aload_n 0, 1) := by decide +kernel
theorem dX12_layNode_63 : decode cX12_layNode 63 = .ok (.iload 5, 2) := by decide +kernel
theorem dX12_layNode_65 : decode cX12_layNode 65 = .ok (.iconst 1, 1) := by decide +kernel
theorem dX12_layNode_66 : decode cX12_layNode 66 = .ok (.iload_n 2, 1) := by decide +kernel
theorem dX12_layNode_67 : decode cX12_layNode 67 = .ok (.invokevirtual 459, 3) := by decide +kernel
theorem dX12_layNode_70 : decode cX12_layNode 70 = .ok (.iload 4, 2) := by decide +kernel
theorem dX12_layNode_72 : decode cX12_layNode 72 = .ok (.if_icmp .eq 7, 3) := by decide +kernel
theorem dX12_layNode_75 : decode cX12_layNode 75 = .ok (.iconst 1, 1) := by decide +kernel
theorem dX12_layNode_76 : decode cX12_layNode 76 = .ok (.goto 4, 3) := by decide +kernel
theorem dX12_layNode_79 : decode cX12_layNode 79 = .ok (.iconst 0, 1) := by decide +kernel
theorem dX12_layNode_80 : decode cX12_layNode 80 = .ok (.istore 7, 2) := by decide +kernel
theorem dX12_layNode_82 : decode cX12_layNode 82 = .ok (.iload 5, 2) := by decide +kernel
theorem dX12_layNode_84 : decode cX12_layNode 84 = .ok (.ifCond .lt 33, 3) := by decide +kernel
theorem dX12_layNode_87 : decode cX12_layNode 87 = .ok (.aload_n 0, 1) := by decide +kernel
theorem dX12_layNode_88 : decode cX12_layNode 88 = .ok (.getfield 75, 3) := by decide +kernel
theorem dX12_layNode_91 : decode cX12_layNode 91 = .ok (.sipush 1485, 3) := by decide +kernel
theorem dX12_layNode_94 : decode cX12_layNode 94 = .ok (.iload 5, 2) := by decide +kernel
theorem dX12_layNode_96 : decode cX12_layNode 96 = .ok (.iadd, 1) := by decide +kernel
theorem dX12_layNode_97 : decode cX12_layNode 97 = .ok (.iaload, 1) := by decide +kernel
theorem dX12_layNode_98 : decode cX12_layNode 98 = .ok (.iload 6, 2) := by decide +kernel
theorem dX12_layNode_100 : decode cX12_layNode 100 = .ok (.invokestatic 304, 3) := by decide +kernel
theorem dX12_layNode_103 : decode cX12_layNode 103 = .ok (.iadd, 1) := by decide +kernel
theorem dX12_layNode_104 : decode cX12_layNode 104 = .ok (.iload 7, 2) := by decide +kernel
theorem dX12_layNode_106 : decode cX12_layNode 106 = .ok (.invokestatic 304, 3) := by decide +kernel
theorem dX12_layNode_109 : decode cX12_layNode 109 = .ok (.iadd, 1) := by decide +kernel
theorem dX12_layNode_110 : decode cX12_layNode 110 = .ok (.aload_n 0, 1) := by decide +kernel
theorem dX12_layNode_111 : decode cX12_layNode 111 = .ok (.getfield 69, 3) := by decide +kernel
theorem dX12_layNode_114 : decode cX12_layNode 114 = .ok (.if_icmp .le 13, 3) := by decide +kernel
theorem dX12_layNode_117 : decode cX12_layNode 117 = .ok (.aload_n 0, 1) := by decide +kernel
theorem dX12_layNode_118 : decode cX12_layNode 118 = .ok (.iload_n 1, 1) := by decide +kernel
theorem dX12_layNode_119 : decode cX12_layNode 119 = .ok (.iload_n 2, 1) := by decide +kernel
theorem dX12_layNode_120 : decode cX12_layNode 120 = .ok (.iload_n 3, 1) := by decide +kernel
theorem dX12_layNode_121 : decode cX12_layNode 121 = .ok (.iload 4, 2) := by decide +kernel
theorem dX12_layNode_123 : decode cX12_layNode 123 = .ok (.invokevirtual 462, 3) := by decide +kernel
theorem dX12_layNode_126 : decode cX12_layNode 126 = .ok (.return_, 1) := by decide +kernel
theorem dX12_layNode_127 : decode cX12_layNode 127 = .ok (.aload_n 0, 1) := by decide +kernel
theorem dX12_layNode_128 : decode cX12_layNode 128 = .ok (.getfield 102, 3) := by decide +kernel
theorem dX12_layNode_131 : decode cX12_layNode 131 = .ok (.iload_n 1, 1) := by decide +kernel
theorem dX12_layNode_132 : decode cX12_layNode 132 = .ok (.iload 5, 2) := by decide +kernel
theorem dX12_layNode_134 : decode cX12_layNode 134 = .ok (.iastore, 1) := by decide +kernel
theorem dX12_layNode_135 : decode cX12_layNode 135 = .ok (.iload 6, 2) := by decide +kernel
theorem dX12_layNode_137 : decode cX12_layNode 137 = .ok (.ifCond .eq 12, 3) := by decide +kernel
theorem dX12_layNode_140 : decode cX12_layNode 140 = .ok (.aload_n 0, 1) := by decide +kernel
theorem dX12_layNode_141 : decode cX12_layNode 141 = .ok (.iload 5, 2) := by decide +kernel
theorem dX12_layNode_143 : decode cX12_layNode 143 = .ok (.iload_n 2, 1) := by decide +kernel
theorem dX12_layNode_144 : decode cX12_layNode 144 = .ok (.iconst 0, 1) := by decide +kernel
theorem dX12_layNode_145 : decode cX12_layNode 145 = .ok (.iload_n 3, 1) := by decide +kernel
theorem dX12_layNode_146 : decode cX12_layNode 146 = .ok (.invokevirtual 466, 3) := by decide +kernel
theorem dX12_layNode_149 : decode cX12_layNode 149 = .ok (.iload 7, 2) := by decide +kernel
theorem dX12_layNode_151 : decode cX12_layNode 151 = .ok (.ifCond .eq 13, 3) := by decide +kernel
theorem dX12_layNode_154 : decode cX12_layNode 154 = .ok (.aload_n 0, 1) := by decide +kernel
theorem dX12_layNode_155 : decode cX12_layNode 155 = .ok (.iload 5, 2) := by decide +kernel
theorem dX12_layNode_157 : decode cX12_layNode 157 = .ok (.iload_n 2, 1) := by decide +kernel
theorem dX12_layNode_158 : decode cX12_layNode 158 = .ok (.iconst 1, 1) := by decide +kernel
theorem dX12_layNode_159 : decode cX12_layNode 159 = .ok (.iload 4, 2) := by decide +kernel
theorem dX12_layNode_161 : decode cX12_layNode 161 = .ok (.invokevirtual 466, 3) := by decide +kernel
theorem dX12_layNode_164 : decode cX12_layNode 164 = .ok (.return_, 1) := by decide +kernel
theorem dX12_goOn_0 : decode cX12_goOn 0 = .ok (.iconst 0, 1) := by decide +kernel
theorem dX12_goOn_1 : decode cX12_goOn 1 = .ok (.istore 5, 2) := by decide +kernel
theorem dX12_goOn_3 : decode cX12_goOn 3 = .ok (.iload 5, 2) := by decide +kernel
theorem dX12_goOn_5 : decode cX12_goOn 5 = .ok (.aload_n 0, 1) := by decide +kernel
theorem dX12_goOn_6 : decode cX12_goOn 6 = .ok (.invokevirtual 469, 3) := by decide +kernel
theorem dX12_goOn_9 : decode cX12_goOn 9 = .ok (.if_icmp .ge 30, 3) := by decide +kernel
theorem dX12_goOn_12 : decode cX12_goOn 12 = .ok (.aload_n 0, 1) := by decide +kernel
theorem dX12_goOn_13 : decode cX12_goOn 13 = .ok (.getfield 75, 3) := by decide +kernel
theorem dX12_goOn_16 : decode cX12_goOn 16 = .ok (.sipush 1485, 3) := by decide +kernel
theorem dX12_goOn_19 : decode cX12_goOn 19 = .ok (.iload 5, 2) := by decide +kernel
theorem dX12_goOn_21 : decode cX12_goOn 21 = .ok (.iadd, 1) := by decide +kernel
theorem dX12_goOn_22 : decode cX12_goOn 22 = .ok (.aload_n 0, 1) := by decide +kernel
theorem dX12_goOn_23 : decode cX12_goOn 23 = .ok (.iload 5, 2) := by decide +kernel
theorem dX12_goOn_25 : decode cX12_goOn 25 = .ok (.aload_n 0, 1) := by decide +kernel
theorem dX12_goOn_26 : decode cX12_goOn 26 = .ok (.getfield 383, 3) := by decide +kernel
theorem dX12_goOn_29 : decode cX12_goOn 29 = .ok (.invokevirtual 417, 3) := by decide +kernel
theorem dX12_goOn_32 : decode cX12_goOn 32 = .ok (.iastore, 1) := by decide +kernel
theorem dX12_goOn_33 : decode cX12_goOn 33 = .ok (.iinc 5 1, 3) := by decide +kernel
theorem dX12_goOn_36 : decode cX12_goOn 36 = .ok (.goto (-33), 3) := by decide +kernel
theorem dX12_goOn_39 : decode cX12_goOn 39 = .ok (.aload_n 0, 1) := by decide +kernel
theorem dX12_goOn_40 : decode cX12_goOn 40 = .ok (.dup, 1) := by decide +kernel
theorem dX12_goOn_41 : decode cX12_goOn 41 = .ok (.getfield 383, 3) := by decide +kernel
theorem dX12_goOn_44 : decode cX12_goOn 44 = .ok (.iconst 1, 1) := by decide +kernel
theorem dX12_goOn_45 : decode cX12_goOn 45 = .ok (.iadd, 1) := by decide +kernel
theorem dX12_goOn_46 : decode cX12_goOn 46 = .ok (.putfield 383, 3) := by decide +kernel
theorem dX12_goOn_49 : decode cX12_goOn 49 = .ok (.aload_n 0, 1) := by decide +kernel
theorem dX12_goOn_50 : decode cX12_goOn 50 = .ok (.aload_n 0, 1) := by decide +kernel
theorem dX12_goOn_51 : decode cX12_goOn 51 = .ok (.getfield 383, 3) := by decide +kernel
theorem dX12_goOn_54 : decode cX12_goOn 54 = .ok (.putfield 386, 3) := by decide +kernel
theorem dX12_goOn_57 : decode cX12_goOn 57 = .ok (.aload_n 0, 1) := by decide +kernel
theorem dX12_goOn_58 : decode cX12_goOn 58 = .ok (.getfield 75, 3) := by decide +kernel
theorem dX12_goOn_61 : decode cX12_goOn 61 = .ok (.iconst 0, 1) := by decide +kernel
theorem dX12_goOn_62 : decode cX12_goOn 62 = .ok (.aload_n 0, 1) := by decide +kernel
theorem dX12_goOn_63 : decode cX12_goOn 63 = .ok (.getfield 383, 3) := by decide +kernel
theorem dX12_goOn_66 : decode cX12_goOn 66 = .ok (.iadd, 1) := by decide +kernel
theorem dX12_goOn_67 : decode cX12_goOn 67 = .ok (.iload_n 1, 1) := by decide +kernel
theorem dX12_goOn_68 : decode cX12_goOn 68 = .ok (.iastore, 1) := by decide +kernel
theorem dX12_goOn_69 : decode cX12_goOn 69 = .ok (.aload_n 0, 1) := by decide +kernel
theorem dX12_goOn_70 : decode cX12_goOn 70 = .ok (.getfield 75, 3) := by decide +kernel
theorem dX12_goOn_73 : decode cX12_goOn 73 = .ok (.bipush 41, 2) := by decide +kernel
theorem dX12_goOn_75 : decode cX12_goOn 75 = .ok (.aload_n 0, 1) := by decide +kernel
theorem dX12_goOn_76 : decode cX12_goOn 76 = .ok (.getfield 383, 3) := by decide +kernel
theorem dX12_goOn_79 : decode cX12_goOn 79 = .ok (.iadd, 1) := by decide +kernel
theorem dX12_goOn_80 : decode cX12_goOn 80 = .ok (.iload_n 2, 1) := by decide +kernel
theorem dX12_goOn_81 : decode cX12_goOn 81 = .ok (.iastore, 1) := by decide +kernel
theorem dX12_goOn_82 : decode cX12_goOn 82 = .ok (.aload_n 0, 1) := by decide +kernel
theorem dX12_goOn_83 : decode cX12_goOn 83 = .ok (.getfield 75, 3) := by decide +kernel
theorem dX12_goOn_86 : decode cX12_goOn 86 = .ok (.bipush 82, 2) := by decide +kernel
theorem dX12_goOn_88 : decode cX12_goOn 88 = .ok (.aload_n 0, 1) := by decide +kernel
theorem dX12_goOn_89 : decode cX12_goOn 89 = .ok (.getfield 383, 3) := by decide +kernel
theorem dX12_goOn_92 : decode cX12_goOn 92 = .ok (.iadd, 1) := by decide +kernel
theorem dX12_goOn_93 : decode cX12_goOn 93 = .ok (.iload_n 3, 1) := by decide +kernel
theorem dX12_goOn_94 : decode cX12_goOn 94 = .ok (.iastore, 1) := by decide +kernel
theorem dX12_goOn_95 : decode cX12_goOn 95 = .ok (.aload_n 0, 1) := by decide +kernel
theorem dX12_goOn_96 : decode cX12_goOn 96 = .ok (.getfield 75, 3) := by decide +kernel
theorem dX12_goOn_99 : decode cX12_goOn 99 = .ok (.bipush 123, 2) := by decide +kernel
theorem dX12_goOn_101 : decode cX12_goOn 101 = .ok (.aload_n 0, 1) := by decide +kernel
theorem dX12_goOn_102 : decode cX12_goOn 102 = .ok (.getfield 383, 3) := by decide +kernel
theorem dX12_goOn_105 : decode cX12_goOn 105 = .ok (.iadd, 1) := by decide +kernel
theorem dX12_goOn_106 : decode cX12_goOn 106 = .ok (.iload 4, 2) := by decide +kernel
theorem dX12_goOn_108 : decode cX12_goOn 108 = .ok (.iastore, 1) := by decide +kernel
theorem dX12_goOn_109 : decode cX12_goOn 109 = .ok (.aload_n 0, 1) := by decide +kernel
theorem dX12_goOn_110 : decode cX12_goOn 110 = .ok (.getfield 75, 3) := by decide +kernel
theorem dX12_goOn_113 : decode cX12_goOn 113 = .ok (.sipush 164, 3) := by decide +kernel
theorem dX12_goOn_116 : decode cX12_goOn 116 = .ok (.aload_n 0, 1) := by decide +kernel
theorem dX12_goOn_117 : decode cX12_goOn 117 = .ok (.getfield 383, 3) := by decide +kernel
theorem dX12_goOn_120 : decode cX12_goOn 120 = .ok (.iadd, 1) := by decide +kernel
theorem dX12_goOn_121 : decode cX12_goOn 121 = .ok (.aload_n 0, 1) := by decide +kernel
theorem dX12_goOn_122 : decode cX12_goOn 122 = .ok (.getfield 75, 3) := by decide +kernel
theorem dX12_goOn_125 : decode cX12_goOn 125 = .ok (.sipush 164, 3) := by decide +kernel
theorem dX12_goOn_128 : decode cX12_goOn 128 = .ok (.aload_n 0, 1) := by decide +kernel
theorem dX12_goOn_129 : decode cX12_goOn 129 = .ok (.getfield 383, 3) := by decide +kernel
theorem dX12_goOn_132 : decode cX12_goOn 132 = .ok (.iadd, 1) := by decide +kernel
theorem dX12_goOn_133 : decode cX12_goOn 133 = .ok (.iconst 1, 1) := by decide +kernel
theorem dX12_goOn_134 : decode cX12_goOn 134 = .ok (.isub, 1) := by decide +kernel
theorem dX12_goOn_135 : decode cX12_goOn 135 = .ok (.iaload, 1) := by decide +kernel
theorem dX12_goOn_136 : decode cX12_goOn 136 = .ok (.iastore, 1) := by decide +kernel
theorem dX12_goOn_137 : decode cX12_goOn 137 = .ok (.aload_n 0, 1) := by decide +kernel
theorem dX12_goOn_138 : decode cX12_goOn 138 = .ok (.aload_n 0, 1) := by decide +kernel
theorem dX12_goOn_139 : decode cX12_goOn 139 = .ok (.getfield 383, 3) := by decide +kernel
theorem dX12_goOn_142 : decode cX12_goOn 142 = .ok (.invokevirtual 450, 3) := by decide +kernel
theorem dX12_goOn_145 : decode cX12_goOn 145 = .ok (.iconst 0, 1) := by decide +kernel
theorem dX12_goOn_146 : decode cX12_goOn 146 = .ok (.istore 5, 2) := by decide +kernel
theorem dX12_goOn_148 : decode cX12_goOn 148 = .ok (.iload 5, 2) := by decide +kernel
theorem dX12_goOn_150 : decode cX12_goOn 150 = .ok (.aload_n 0, 1) := by decide +kernel
theorem dX12_goOn_151 : decode cX12_goOn 151 = .ok (.getfield 426, 3) := by decide +kernel
theorem dX12_goOn_154 : decode cX12_goOn 154 = .ok (.if_icmp .ge 24, 3) := by decide +kernel
theorem dX12_goOn_157 : decode cX12_goOn 157 = .ok (.aload_n 0, 1) := by decide +kernel
theorem dX12_goOn_158 : decode cX12_goOn 158 = .ok (.aload_n 0, 1) := by decide +kernel
theorem dX12_goOn_159 : decode cX12_goOn 159 = .ok (.getfield 93, 3) := by decide +kernel
theorem dX12_goOn_162 : decode cX12_goOn 162 = .ok (.iload 5, 2) := by decide +kernel
theorem dX12_goOn_164 : decode cX12_goOn 164 = .ok (.iaload, 1) := by decide +kernel
theorem dX12_goOn_165 : decode cX12_goOn 165 = .ok (.aload_n 0, 1) := by decide +kernel
theorem dX12_goOn_166 : decode cX12_goOn 166 = .ok (.getfield 383, 3) := by decide +kernel
theorem dX12_goOn_169 : decode cX12_goOn 169 = .ok (.invokevirtual 472, 3) := by decide +kernel
theorem dX12_goOn_172 : decode cX12_goOn 172 = .ok (.iinc 5 1, 3) := by decide +kernel
theorem dX12_goOn_175 : decode cX12_goOn 175 = .ok (.goto (-27), 3) := by decide +kernel
theorem dX12_goOn_178 : decode cX12_goOn 178 = .ok (.iload_n 2, 1) := by decide +kernel
theorem dX12_goOn_179 : decode cX12_goOn 179 = .ok (.invokestatic 475, 3) := by decide +kernel
theorem dX12_goOn_182 : decode cX12_goOn 182 = .ok (.ireturn, 1) := by decide +kernel
theorem dX12_cutNow_0 : decode cX12_cutNow 0 = .ok (.aload_n 0, 1) := by decide +kernel
theorem dX12_cutNow_1 : decode cX12_cutNow 1 = .ok (.getfield 75, 3) := by decide +kernel
theorem dX12_cutNow_4 : decode cX12_cutNow 4 = .ok (.bipush 82, 2) := by decide +kernel
theorem dX12_cutNow_6 : decode cX12_cutNow 6 = .ok (.aload_n 0, 1) := by decide +kernel
theorem dX12_cutNow_7 : decode cX12_cutNow 7 = .ok (.getfield 383, 3) := by decide +kernel
theorem dX12_cutNow_10 : decode cX12_cutNow 10 = .ok (.iadd, 1) := by decide +kernel
theorem dX12_cutNow_11 : decode cX12_cutNow 11 = .ok (.iaload, 1) := by decide +kernel
theorem dX12_cutNow_12 : decode cX12_cutNow 12 = .ok (.ireturn, 1) := by decide +kernel
theorem dX12_sweepsNow_0 : decode cX12_sweepsNow 0 = .ok (.aload_n 0, 1) := by decide +kernel
theorem dX12_sweepsNow_1 : decode cX12_sweepsNow 1 = .ok (.getfield 75, 3) := by decide +kernel
theorem dX12_sweepsNow_4 : decode cX12_sweepsNow 4 = .ok (.bipush 123, 2) := by decide +kernel
theorem dX12_sweepsNow_6 : decode cX12_sweepsNow 6 = .ok (.aload_n 0, 1) := by decide +kernel
theorem dX12_sweepsNow_7 : decode cX12_sweepsNow 7 = .ok (.getfield 383, 3) := by decide +kernel
theorem dX12_sweepsNow_10 : decode cX12_sweepsNow 10 = .ok (.iadd, 1) := by decide +kernel
theorem dX12_sweepsNow_11 : decode cX12_sweepsNow 11 = .ok (.iaload, 1) := by decide +kernel
theorem dX12_sweepsNow_12 : decode cX12_sweepsNow 12 = .ok (.ireturn, 1) := by decide +kernel
theorem dX12_isNow_0 : decode cX12_isNow 0 = .ok (.aload_n 0, 1) := by decide +kernel
theorem dX12_isNow_1 : decode cX12_isNow 1 = .ok (.iload_n 1, 1) := by decide +kernel
theorem dX12_isNow_2 : decode cX12_isNow 2 = .ok (.invokevirtual 408, 3) := by decide +kernel
theorem dX12_isNow_5 : decode cX12_isNow 5 = .ok (.ifCond .eq 22, 3) := by decide +kernel
theorem dX12_isNow_8 : decode cX12_isNow 8 = .ok (.aload_n 0, 1) := by decide +kernel
theorem dX12_isNow_9 : decode cX12_isNow 9 = .ok (.aload_n 0, 1) := by decide +kernel
theorem dX12_isNow_10 : decode cX12_isNow 10 = .ok (.getfield 383, 3) := by decide +kernel
theorem dX12_isNow_13 : decode cX12_isNow 13 = .ok (.invokevirtual 420, 3) := by decide +kernel
theorem dX12_isNow_16 : decode cX12_isNow 16 = .ok (.iload_n 1, 1) := by decide +kernel
theorem dX12_isNow_17 : decode cX12_isNow 17 = .ok (.invokestatic 423, 3) := by decide +kernel
theorem dX12_isNow_20 : decode cX12_isNow 20 = .ok (.ifCond .eq 7, 3) := by decide +kernel
theorem dX12_isNow_23 : decode cX12_isNow 23 = .ok (.iconst 1, 1) := by decide +kernel
theorem dX12_isNow_24 : decode cX12_isNow 24 = .ok (.goto 4, 3) := by decide +kernel
theorem dX12_isNow_27 : decode cX12_isNow 27 = .ok (.iconst 0, 1) := by decide +kernel
theorem dX12_isNow_28 : decode cX12_isNow 28 = .ok (.ireturn, 1) := by decide +kernel
theorem dX12_sweep_0 : decode cX12_sweep 0 = .ok (.aload_n 0, 1) := by decide +kernel
theorem dX12_sweep_1 : decode cX12_sweep 1 = .ok (.getfield 383, 3) := by decide +kernel
theorem dX12_sweep_4 : decode cX12_sweep 4 = .ok (.bipush 40, 2) := by decide +kernel
theorem dX12_sweep_6 : decode cX12_sweep 6 = .ok (.if_icmp .eq 14, 3) := by decide +kernel
theorem dX12_sweep_9 : decode cX12_sweep 9 = .ok (.aload_n 0, 1) := by decide +kernel
theorem dX12_sweep_10 : decode cX12_sweep 10 = .ok (.invokevirtual 478, 3) := by decide +kernel
theorem dX12_sweep_13 : decode cX12_sweep 13 = .ok (.aload_n 0, 1) := by decide +kernel
theorem dX12_sweep_14 : decode cX12_sweep 14 = .ok (.getfield 402, 3) := by decide +kernel
theorem dX12_sweep_17 : decode cX12_sweep 17 = .ok (.if_icmp .ne 5, 3) := by decide +kernel
theorem dX12_sweep_20 : decode cX12_sweep 20 = .ok (.iconst (-1), 1) := by decide +kernel
theorem dX12_sweep_21 : decode cX12_sweep 21 = .ok (.ireturn, 1) := by decide +kernel
theorem dX12_sweep_22 : decode cX12_sweep 22 = .ok (.aload_n 0, 1) := by decide +kernel
theorem dX12_sweep_23 : decode cX12_sweep 23 = .ok (.getfield 72, 3) := by decide +kernel
theorem dX12_sweep_26 : decode cX12_sweep 26 = .ok (.aload_n 0, 1) := by decide +kernel
theorem dX12_sweep_27 : decode cX12_sweep 27 = .ok (.invokevirtual 478, 3) := by decide +kernel
theorem dX12_sweep_30 : decode cX12_sweep 30 = .ok (.iaload, 1) := by decide +kernel
theorem dX12_sweep_31 : decode cX12_sweep 31 = .ok (.istore_n 1, 1) := by decide +kernel
theorem dX12_sweep_32 : decode cX12_sweep 32 = .ok (.aload_n 0, 1) := by decide +kernel
theorem dX12_sweep_33 : decode cX12_sweep 33 = .ok (.aload_n 0, 1) := by decide +kernel
theorem dX12_sweep_34 : decode cX12_sweep 34 = .ok (.getfield 383, 3) := by decide +kernel
theorem dX12_sweep_37 : decode cX12_sweep 37 = .ok (.invokevirtual 420, 3) := by decide +kernel
theorem dX12_sweep_40 : decode cX12_sweep 40 = .ok (.istore_n 2, 1) := by decide +kernel
theorem dX12_sweep_41 : decode cX12_sweep 41 = .ok (.iconst 0, 1) := by decide +kernel
theorem dX12_sweep_42 : decode cX12_sweep 42 = .ok (.istore_n 3, 1) := by decide +kernel
theorem dX12_sweep_43 : decode cX12_sweep 43 = .ok (.iload_n 3, 1) := by decide +kernel
theorem dX12_sweep_44 : decode cX12_sweep 44 = .ok (.aload_n 0, 1) := by decide +kernel
theorem dX12_sweep_45 : decode cX12_sweep 45 = .ok (.getfield 371, 3) := by decide +kernel
theorem dX12_sweep_48 : decode cX12_sweep 48 = .ok (.if_icmp .ge 43, 3) := by decide +kernel
theorem dX12_sweep_51 : decode cX12_sweep 51 = .ok (.aload_n 0, 1) := by decide +kernel
theorem dX12_sweep_52 : decode cX12_sweep 52 = .ok (.getfield 60, 3) := by decide +kernel
theorem dX12_sweep_55 : decode cX12_sweep 55 = .ok (.iload_n 3, 1) := by decide +kernel
theorem dX12_sweep_56 : decode cX12_sweep 56 = .ok (.iaload, 1) := by decide +kernel
theorem dX12_sweep_57 : decode cX12_sweep 57 = .ok (.iload_n 1, 1) := by decide +kernel
theorem dX12_sweep_58 : decode cX12_sweep 58 = .ok (.if_icmp .ne 11, 3) := by decide +kernel
theorem dX12_sweep_61 : decode cX12_sweep 61 = .ok (.iload_n 2, 1) := by decide +kernel
theorem dX12_sweep_62 : decode cX12_sweep 62 = .ok (.iconst 1, 1) := by decide +kernel
theorem dX12_sweep_63 : decode cX12_sweep 63 = .ok (.iload_n 3, 1) := by decide +kernel
theorem dX12_sweep_64 : decode cX12_sweep 64 = .ok (.ishl, 1) := by decide +kernel
theorem dX12_sweep_65 : decode cX12_sweep 65 = .ok (.iconst (-1), 1) := by decide +kernel
theorem dX12_sweep_66 : decode cX12_sweep 66 = .ok (.ixor, 1) := by decide +kernel
theorem dX12_sweep_67 : decode cX12_sweep 67 = .ok (.iand, 1) := by decide +kernel
theorem dX12_sweep_68 : decode cX12_sweep 68 = .ok (.istore_n 2, 1) := by decide +kernel
theorem dX12_sweep_69 : decode cX12_sweep 69 = .ok (.aload_n 0, 1) := by decide +kernel
theorem dX12_sweep_70 : decode cX12_sweep 70 = .ok (.getfield 54, 3) := by decide +kernel
theorem dX12_sweep_73 : decode cX12_sweep 73 = .ok (.iload_n 3, 1) := by decide +kernel
theorem dX12_sweep_74 : decode cX12_sweep 74 = .ok (.iaload, 1) := by decide +kernel
theorem dX12_sweep_75 : decode cX12_sweep 75 = .ok (.iload_n 1, 1) := by decide +kernel
theorem dX12_sweep_76 : decode cX12_sweep 76 = .ok (.if_icmp .ne 9, 3) := by decide +kernel
theorem dX12_sweep_79 : decode cX12_sweep 79 = .ok (.iload_n 2, 1) := by decide +kernel
theorem dX12_sweep_80 : decode cX12_sweep 80 = .ok (.iconst 1, 1) := by decide +kernel
theorem dX12_sweep_81 : decode cX12_sweep 81 = .ok (.iload_n 3, 1) := by decide +kernel
theorem dX12_sweep_82 : decode cX12_sweep 82 = .ok (.ishl, 1) := by decide +kernel
theorem dX12_sweep_83 : decode cX12_sweep 83 = .ok (.ior, 1) := by decide +kernel
theorem dX12_sweep_84 : decode cX12_sweep 84 = .ok (.istore_n 2, 1) := by decide +kernel
theorem dX12_sweep_85 : decode cX12_sweep 85 = .ok (.iinc 3 1, 3) := by decide +kernel
theorem dX12_sweep_88 : decode cX12_sweep 88 = .ok (.goto (-45), 3) := by decide +kernel
theorem dX12_sweep_91 : decode cX12_sweep 91 = .ok (.aload_n 0, 1) := by decide +kernel
theorem dX12_sweep_92 : decode cX12_sweep 92 = .ok (.iload_n 1, 1) := by decide +kernel
theorem dX12_sweep_93 : decode cX12_sweep 93 = .ok (.iload_n 2, 1) := by decide +kernel
theorem dX12_sweep_94 : decode cX12_sweep 94 = .ok (.aload_n 0, 1) := by decide +kernel
theorem dX12_sweep_95 : decode cX12_sweep 95 = .ok (.invokevirtual 481, 3) := by decide +kernel
theorem dX12_sweep_98 : decode cX12_sweep 98 = .ok (.aload_n 0, 1) := by decide +kernel
theorem dX12_sweep_99 : decode cX12_sweep 99 = .ok (.invokevirtual 478, 3) := by decide +kernel
theorem dX12_sweep_102 : decode cX12_sweep 102 = .ok (.iconst 1, 1) := by decide +kernel
theorem dX12_sweep_103 : decode cX12_sweep 103 = .ok (.iadd, 1) := by decide +kernel
theorem dX12_sweep_104 : decode cX12_sweep 104 = .ok (.invokevirtual 484, 3) := by decide +kernel
theorem dX12_sweep_107 : decode cX12_sweep 107 = .ok (.ireturn, 1) := by decide +kernel
theorem dX12_cut_0 : decode cX12_cut 0 = .ok (.aload_n 0, 1) := by decide +kernel
theorem dX12_cut_1 : decode cX12_cut 1 = .ok (.getfield 383, 3) := by decide +kernel
theorem dX12_cut_4 : decode cX12_cut 4 = .ok (.bipush 40, 2) := by decide +kernel
theorem dX12_cut_6 : decode cX12_cut 6 = .ok (.if_icmp .ge 52, 3) := by decide +kernel
theorem dX12_cut_9 : decode cX12_cut 9 = .ok (.aload_n 0, 1) := by decide +kernel
theorem dX12_cut_10 : decode cX12_cut 10 = .ok (.iload_n 1, 1) := by decide +kernel
theorem dX12_cut_11 : decode cX12_cut 11 = .ok (.invokevirtual 488, 3) := by decide +kernel
theorem dX12_cut_14 : decode cX12_cut 14 = .ok (.ifCond .eq 44, 3) := by decide +kernel
theorem dX12_cut_17 : decode cX12_cut 17 = .ok (.aload_n 0, 1) := by decide +kernel
theorem dX12_cut_18 : decode cX12_cut 18 = .ok (.aload_n 0, 1) := by decide +kernel
theorem dX12_cut_19 : decode cX12_cut 19 = .ok (.aload_n 0, 1) := by decide +kernel
theorem dX12_cut_20 : decode cX12_cut 20 = .ok (.getfield 383, 3) := by decide +kernel
theorem dX12_cut_23 : decode cX12_cut 23 = .ok (.invokevirtual 429, 3) := by decide +kernel
theorem dX12_cut_26 : decode cX12_cut 26 = .ok (.aload_n 0, 1) := by decide +kernel
theorem dX12_cut_27 : decode cX12_cut 27 = .ok (.aload_n 0, 1) := by decide +kernel
theorem dX12_cut_28 : decode cX12_cut 28 = .ok (.getfield 383, 3) := by decide +kernel
theorem dX12_cut_31 : decode cX12_cut 31 = .ok (.invokevirtual 420, 3) := by decide +kernel
theorem dX12_cut_34 : decode cX12_cut 34 = .ok (.iconst 1, 1) := by decide +kernel
theorem dX12_cut_35 : decode cX12_cut 35 = .ok (.iload_n 1, 1) := by decide +kernel
theorem dX12_cut_36 : decode cX12_cut 36 = .ok (.ishl, 1) := by decide +kernel
theorem dX12_cut_37 : decode cX12_cut 37 = .ok (.iconst (-1), 1) := by decide +kernel
theorem dX12_cut_38 : decode cX12_cut 38 = .ok (.ixor, 1) := by decide +kernel
theorem dX12_cut_39 : decode cX12_cut 39 = .ok (.iand, 1) := by decide +kernel
theorem dX12_cut_40 : decode cX12_cut 40 = .ok (.aload_n 0, 1) := by decide +kernel
theorem dX12_cut_41 : decode cX12_cut 41 = .ok (.invokevirtual 481, 3) := by decide +kernel
theorem dX12_cut_44 : decode cX12_cut 44 = .ok (.iconst 1, 1) := by decide +kernel
theorem dX12_cut_45 : decode cX12_cut 45 = .ok (.iload_n 1, 1) := by decide +kernel
theorem dX12_cut_46 : decode cX12_cut 46 = .ok (.ishl, 1) := by decide +kernel
theorem dX12_cut_47 : decode cX12_cut 47 = .ok (.ior, 1) := by decide +kernel
theorem dX12_cut_48 : decode cX12_cut 48 = .ok (.aload_n 0, 1) := by decide +kernel
theorem dX12_cut_49 : decode cX12_cut 49 = .ok (.invokevirtual 478, 3) := by decide +kernel
theorem dX12_cut_52 : decode cX12_cut 52 = .ok (.invokevirtual 484, 3) := by decide +kernel
theorem dX12_cut_55 : decode cX12_cut 55 = .ok (.goto 4, 3) := by decide +kernel
theorem dX12_cut_58 : decode cX12_cut 58 = .ok (.iconst (-1), 1) := by decide +kernel
theorem dX12_cut_59 : decode cX12_cut 59 = .ok (.ireturn, 1) := by decide +kernel
theorem dX12_raise_0 : decode cX12_raise 0 = .ok (.aload_n 0, 1) := by decide +kernel
theorem dX12_raise_1 : decode cX12_raise 1 = .ok (.getfield 383, 3) := by decide +kernel
theorem dX12_raise_4 : decode cX12_raise 4 = .ok (.bipush 40, 2) := by decide +kernel
theorem dX12_raise_6 : decode cX12_raise 6 = .ok (.if_icmp .eq 38, 3) := by decide +kernel
theorem dX12_raise_9 : decode cX12_raise 9 = .ok (.aload_n 0, 1) := by decide +kernel
theorem dX12_raise_10 : decode cX12_raise 10 = .ok (.iload_n 1, 1) := by decide +kernel
theorem dX12_raise_11 : decode cX12_raise 11 = .ok (.invokevirtual 408, 3) := by decide +kernel
theorem dX12_raise_14 : decode cX12_raise 14 = .ok (.ifCond .eq 30, 3) := by decide +kernel
theorem dX12_raise_17 : decode cX12_raise 17 = .ok (.aload_n 0, 1) := by decide +kernel
theorem dX12_raise_18 : decode cX12_raise 18 = .ok (.invokevirtual 481, 3) := by decide +kernel
theorem dX12_raise_21 : decode cX12_raise 21 = .ok (.iload_n 1, 1) := by decide +kernel
theorem dX12_raise_22 : decode cX12_raise 22 = .ok (.invokestatic 423, 3) := by decide +kernel
theorem dX12_raise_25 : decode cX12_raise 25 = .ok (.ifCond .eq 19, 3) := by decide +kernel
theorem dX12_raise_28 : decode cX12_raise 28 = .ok (.aload_n 0, 1) := by decide +kernel
theorem dX12_raise_29 : decode cX12_raise 29 = .ok (.iload_n 1, 1) := by decide +kernel
theorem dX12_raise_30 : decode cX12_raise 30 = .ok (.aload_n 0, 1) := by decide +kernel
theorem dX12_raise_31 : decode cX12_raise 31 = .ok (.aload_n 0, 1) := by decide +kernel
theorem dX12_raise_32 : decode cX12_raise 32 = .ok (.getfield 383, 3) := by decide +kernel
theorem dX12_raise_35 : decode cX12_raise 35 = .ok (.invokevirtual 429, 3) := by decide +kernel
theorem dX12_raise_38 : decode cX12_raise 38 = .ok (.invokevirtual 411, 3) := by decide +kernel
theorem dX12_raise_41 : decode cX12_raise 41 = .ok (.ifCond .ne 5, 3) := by decide +kernel
theorem dX12_raise_44 : decode cX12_raise 44 = .ok (.iconst (-1), 1) := by decide +kernel
theorem dX12_raise_45 : decode cX12_raise 45 = .ok (.ireturn, 1) := by decide +kernel
theorem dX12_raise_46 : decode cX12_raise 46 = .ok (.aload_n 0, 1) := by decide +kernel
theorem dX12_raise_47 : decode cX12_raise 47 = .ok (.aload_n 0, 1) := by decide +kernel
theorem dX12_raise_48 : decode cX12_raise 48 = .ok (.aload_n 0, 1) := by decide +kernel
theorem dX12_raise_49 : decode cX12_raise 49 = .ok (.getfield 383, 3) := by decide +kernel
theorem dX12_raise_52 : decode cX12_raise 52 = .ok (.invokevirtual 429, 3) := by decide +kernel
theorem dX12_raise_55 : decode cX12_raise 55 = .ok (.aload_n 0, 1) := by decide +kernel
theorem dX12_raise_56 : decode cX12_raise 56 = .ok (.aload_n 0, 1) := by decide +kernel
theorem dX12_raise_57 : decode cX12_raise 57 = .ok (.getfield 383, 3) := by decide +kernel
theorem dX12_raise_60 : decode cX12_raise 60 = .ok (.invokevirtual 420, 3) := by decide +kernel
theorem dX12_raise_63 : decode cX12_raise 63 = .ok (.iconst 1, 1) := by decide +kernel
theorem dX12_raise_64 : decode cX12_raise 64 = .ok (.iload_n 1, 1) := by decide +kernel
theorem dX12_raise_65 : decode cX12_raise 65 = .ok (.ishl, 1) := by decide +kernel
theorem dX12_raise_66 : decode cX12_raise 66 = .ok (.ior, 1) := by decide +kernel
theorem dX12_raise_67 : decode cX12_raise 67 = .ok (.aload_n 0, 1) := by decide +kernel
theorem dX12_raise_68 : decode cX12_raise 68 = .ok (.invokevirtual 481, 3) := by decide +kernel
theorem dX12_raise_71 : decode cX12_raise 71 = .ok (.iconst 1, 1) := by decide +kernel
theorem dX12_raise_72 : decode cX12_raise 72 = .ok (.iload_n 1, 1) := by decide +kernel
theorem dX12_raise_73 : decode cX12_raise 73 = .ok (.ishl, 1) := by decide +kernel
theorem dX12_raise_74 : decode cX12_raise 74 = .ok (.iconst (-1), 1) := by decide +kernel
theorem dX12_raise_75 : decode cX12_raise 75 = .ok (.ixor, 1) := by decide +kernel
theorem dX12_raise_76 : decode cX12_raise 76 = .ok (.iand, 1) := by decide +kernel
theorem dX12_raise_77 : decode cX12_raise 77 = .ok (.aload_n 0, 1) := by decide +kernel
theorem dX12_raise_78 : decode cX12_raise 78 = .ok (.invokevirtual 478, 3) := by decide +kernel
theorem dX12_raise_81 : decode cX12_raise 81 = .ok (.invokevirtual 484, 3) := by decide +kernel
theorem dX12_raise_84 : decode cX12_raise 84 = .ok (.ireturn, 1) := by decide +kernel
theorem dX12_undo_0 : decode cX12_undo 0 = .ok (.aload_n 0, 1) := by decide +kernel
theorem dX12_undo_1 : decode cX12_undo 1 = .ok (.getfield 383, 3) := by decide +kernel
theorem dX12_undo_4 : decode cX12_undo 4 = .ok (.aload_n 0, 1) := by decide +kernel
theorem dX12_undo_5 : decode cX12_undo 5 = .ok (.getfield 389, 3) := by decide +kernel
theorem dX12_undo_8 : decode cX12_undo 8 = .ok (.if_icmp .ne 5, 3) := by decide +kernel
theorem dX12_undo_11 : decode cX12_undo 11 = .ok (.iconst 0, 1) := by decide +kernel
theorem dX12_undo_12 : decode cX12_undo 12 = .ok (.ireturn, 1) := by decide +kernel
theorem dX12_undo_13 : decode cX12_undo 13 = .ok (.aload_n 0, 1) := by decide +kernel
theorem dX12_undo_14 : decode cX12_undo 14 = .ok (.dup, 1) := by decide +kernel
theorem dX12_undo_15 : decode cX12_undo 15 = .ok (.getfield 383, 3) := by decide +kernel
theorem dX12_undo_18 : decode cX12_undo 18 = .ok (.iconst 1, 1) := by decide +kernel
theorem dX12_undo_19 : decode cX12_undo 19 = .ok (.isub, 1) := by decide +kernel
theorem dX12_undo_20 : decode cX12_undo 20 = .ok (.putfield 383, 3) := by decide +kernel
theorem dX12_undo_23 : decode cX12_undo 23 = .ok (.iconst 1, 1) := by decide +kernel
theorem dX12_undo_24 : decode cX12_undo 24 = .ok (.ireturn, 1) := by decide +kernel
theorem dX12_redo_0 : decode cX12_redo 0 = .ok (.aload_n 0, 1) := by decide +kernel
theorem dX12_redo_1 : decode cX12_redo 1 = .ok (.getfield 383, 3) := by decide +kernel
theorem dX12_redo_4 : decode cX12_redo 4 = .ok (.aload_n 0, 1) := by decide +kernel
theorem dX12_redo_5 : decode cX12_redo 5 = .ok (.getfield 386, 3) := by decide +kernel
theorem dX12_redo_8 : decode cX12_redo 8 = .ok (.if_icmp .ne 5, 3) := by decide +kernel
theorem dX12_redo_11 : decode cX12_redo 11 = .ok (.iconst 0, 1) := by decide +kernel
theorem dX12_redo_12 : decode cX12_redo 12 = .ok (.ireturn, 1) := by decide +kernel
theorem dX12_redo_13 : decode cX12_redo 13 = .ok (.aload_n 0, 1) := by decide +kernel
theorem dX12_redo_14 : decode cX12_redo 14 = .ok (.dup, 1) := by decide +kernel
theorem dX12_redo_15 : decode cX12_redo 15 = .ok (.getfield 383, 3) := by decide +kernel
theorem dX12_redo_18 : decode cX12_redo 18 = .ok (.iconst 1, 1) := by decide +kernel
theorem dX12_redo_19 : decode cX12_redo 19 = .ok (.iadd, 1) := by decide +kernel
theorem dX12_redo_20 : decode cX12_redo 20 = .ok (.putfield 383, 3) := by decide +kernel
theorem dX12_redo_23 : decode cX12_redo 23 = .ok (.iconst 1, 1) := by decide +kernel
theorem dX12_redo_24 : decode cX12_redo 24 = .ok (.ireturn, 1) := by decide +kernel
theorem dX12_segment_0 : decode cX12_segment 0 = .ok (.aload_n 0, 1) := by decide +kernel
theorem dX12_segment_1 : decode cX12_segment 1 = .ok (.iload_n 1, 1) := by decide +kernel
theorem dX12_segment_2 : decode cX12_segment 2 = .ok (.invokevirtual 408, 3) := by decide +kernel
theorem dX12_segment_5 : decode cX12_segment 5 = .ok (.ifCond .ne 6, 3) := by decide +kernel
theorem dX12_segment_8 : decode cX12_segment 8 = .ok (.bipush (-2), 2) := by decide +kernel
theorem dX12_segment_10 : decode cX12_segment 10 = .ok (.ireturn, 1) := by decide +kernel
theorem dX12_segment_11 : decode cX12_segment 11 = .ok (.iload_n 2, 1) := by decide +kernel
theorem dX12_segment_12 : decode cX12_segment 12 = .ok (.tableswitch 103 0 6 #[44, 51, 58, 65, 72, 81, 93], 44) := by decide +kernel
theorem dX12_segment_56 : decode cX12_segment 56 = .ok (.aload_n 0, 1) := by decide +kernel
theorem dX12_segment_57 : decode cX12_segment 57 = .ok (.getfield 54, 3) := by decide +kernel
theorem dX12_segment_60 : decode cX12_segment 60 = .ok (.iload_n 1, 1) := by decide +kernel
theorem dX12_segment_61 : decode cX12_segment 61 = .ok (.iaload, 1) := by decide +kernel
theorem dX12_segment_62 : decode cX12_segment 62 = .ok (.ireturn, 1) := by decide +kernel
theorem dX12_segment_63 : decode cX12_segment 63 = .ok (.aload_n 0, 1) := by decide +kernel
theorem dX12_segment_64 : decode cX12_segment 64 = .ok (.getfield 57, 3) := by decide +kernel
theorem dX12_segment_67 : decode cX12_segment 67 = .ok (.iload_n 1, 1) := by decide +kernel
theorem dX12_segment_68 : decode cX12_segment 68 = .ok (.iaload, 1) := by decide +kernel
theorem dX12_segment_69 : decode cX12_segment 69 = .ok (.ireturn, 1) := by decide +kernel
theorem dX12_segment_70 : decode cX12_segment 70 = .ok (.aload_n 0, 1) := by decide +kernel
theorem dX12_segment_71 : decode cX12_segment 71 = .ok (.getfield 60, 3) := by decide +kernel
theorem dX12_segment_74 : decode cX12_segment 74 = .ok (.iload_n 1, 1) := by decide +kernel
theorem dX12_segment_75 : decode cX12_segment 75 = .ok (.iaload, 1) := by decide +kernel
theorem dX12_segment_76 : decode cX12_segment 76 = .ok (.ireturn, 1) := by decide +kernel
theorem dX12_segment_77 : decode cX12_segment 77 = .ok (.aload_n 0, 1) := by decide +kernel
theorem dX12_segment_78 : decode cX12_segment 78 = .ok (.getfield 63, 3) := by decide +kernel
theorem dX12_segment_81 : decode cX12_segment 81 = .ok (.iload_n 1, 1) := by decide +kernel
theorem dX12_segment_82 : decode cX12_segment 82 = .ok (.iaload, 1) := by decide +kernel
theorem dX12_segment_83 : decode cX12_segment 83 = .ok (.ireturn, 1) := by decide +kernel
theorem dX12_segment_84 : decode cX12_segment 84 = .ok (.aload_n 0, 1) := by decide +kernel
theorem dX12_segment_85 : decode cX12_segment 85 = .ok (.iload_n 1, 1) := by decide +kernel
theorem dX12_segment_86 : decode cX12_segment 86 = .ok (.invokevirtual 488, 3) := by decide +kernel
theorem dX12_segment_89 : decode cX12_segment 89 = .ok (.invokestatic 304, 3) := by decide +kernel
theorem dX12_segment_92 : decode cX12_segment 92 = .ok (.ireturn, 1) := by decide +kernel
theorem dX12_segment_93 : decode cX12_segment 93 = .ok (.aload_n 0, 1) := by decide +kernel
theorem dX12_segment_94 : decode cX12_segment 94 = .ok (.invokevirtual 481, 3) := by decide +kernel
theorem dX12_segment_97 : decode cX12_segment 97 = .ok (.iload_n 1, 1) := by decide +kernel
theorem dX12_segment_98 : decode cX12_segment 98 = .ok (.invokestatic 423, 3) := by decide +kernel
theorem dX12_segment_101 : decode cX12_segment 101 = .ok (.invokestatic 304, 3) := by decide +kernel
theorem dX12_segment_104 : decode cX12_segment 104 = .ok (.ireturn, 1) := by decide +kernel
theorem dX12_segment_105 : decode cX12_segment 105 = .ok (.aload_n 0, 1) := by decide +kernel
theorem dX12_segment_106 : decode cX12_segment 106 = .ok (.iload_n 1, 1) := by decide +kernel
theorem dX12_segment_107 : decode cX12_segment 107 = .ok (.aload_n 0, 1) := by decide +kernel
theorem dX12_segment_108 : decode cX12_segment 108 = .ok (.getfield 383, 3) := by decide +kernel
theorem dX12_segment_111 : decode cX12_segment 111 = .ok (.invokevirtual 456, 3) := by decide +kernel
theorem dX12_segment_114 : decode cX12_segment 114 = .ok (.ireturn, 1) := by decide +kernel
theorem dX12_segment_115 : decode cX12_segment 115 = .ok (.bipush (-2), 2) := by decide +kernel
theorem dX12_segment_117 : decode cX12_segment 117 = .ok (.ireturn, 1) := by decide +kernel
theorem dX12_isStamp_0 : decode cX12_isStamp 0 = .ok (.iload_n 1, 1) := by decide +kernel
theorem dX12_isStamp_1 : decode cX12_isStamp 1 = .ok (.iconst 0, 1) := by decide +kernel
theorem dX12_isStamp_2 : decode cX12_isStamp 2 = .ok (.aload_n 0, 1) := by decide +kernel
theorem dX12_isStamp_3 : decode cX12_isStamp 3 = .ok (.getfield 383, 3) := by decide +kernel
theorem dX12_isStamp_6 : decode cX12_isStamp 6 = .ok (.invokestatic 398, 3) := by decide +kernel
theorem dX12_isStamp_9 : decode cX12_isStamp 9 = .ok (.ireturn, 1) := by decide +kernel
theorem dX12_isNode_0 : decode cX12_isNode 0 = .ok (.iload_n 1, 1) := by decide +kernel
theorem dX12_isNode_1 : decode cX12_isNode 1 = .ok (.iconst 0, 1) := by decide +kernel
theorem dX12_isNode_2 : decode cX12_isNode 2 = .ok (.aload_n 0, 1) := by decide +kernel
theorem dX12_isNode_3 : decode cX12_isNode 3 = .ok (.invokevirtual 469, 3) := by decide +kernel
theorem dX12_isNode_6 : decode cX12_isNode 6 = .ok (.iconst 1, 1) := by decide +kernel
theorem dX12_isNode_7 : decode cX12_isNode 7 = .ok (.isub, 1) := by decide +kernel
theorem dX12_isNode_8 : decode cX12_isNode 8 = .ok (.invokestatic 398, 3) := by decide +kernel
theorem dX12_isNode_11 : decode cX12_isNode 11 = .ok (.ireturn, 1) := by decide +kernel
theorem dX12_madeAt_0 : decode cX12_madeAt 0 = .ok (.iload_n 1, 1) := by decide +kernel
theorem dX12_madeAt_1 : decode cX12_madeAt 1 = .ok (.ifCond .ne 7, 3) := by decide +kernel
theorem dX12_madeAt_4 : decode cX12_madeAt 4 = .ok (.iconst 0, 1) := by decide +kernel
theorem dX12_madeAt_5 : decode cX12_madeAt 5 = .ok (.goto 26, 3) := by decide +kernel
theorem dX12_madeAt_8 : decode cX12_madeAt 8 = .ok (.aload_n 0, 1) := by decide +kernel
theorem dX12_madeAt_9 : decode cX12_madeAt 9 = .ok (.getfield 75, 3) := by decide +kernel
theorem dX12_madeAt_12 : decode cX12_madeAt 12 = .ok (.sipush 164, 3) := by decide +kernel
theorem dX12_madeAt_15 : decode cX12_madeAt 15 = .ok (.iload_n 1, 1) := by decide +kernel
theorem dX12_madeAt_16 : decode cX12_madeAt 16 = .ok (.iadd, 1) := by decide +kernel
theorem dX12_madeAt_17 : decode cX12_madeAt 17 = .ok (.iaload, 1) := by decide +kernel
theorem dX12_madeAt_18 : decode cX12_madeAt 18 = .ok (.aload_n 0, 1) := by decide +kernel
theorem dX12_madeAt_19 : decode cX12_madeAt 19 = .ok (.getfield 75, 3) := by decide +kernel
theorem dX12_madeAt_22 : decode cX12_madeAt 22 = .ok (.sipush 164, 3) := by decide +kernel
theorem dX12_madeAt_25 : decode cX12_madeAt 25 = .ok (.iload_n 1, 1) := by decide +kernel
theorem dX12_madeAt_26 : decode cX12_madeAt 26 = .ok (.iadd, 1) := by decide +kernel
theorem dX12_madeAt_27 : decode cX12_madeAt 27 = .ok (.iconst 1, 1) := by decide +kernel
theorem dX12_madeAt_28 : decode cX12_madeAt 28 = .ok (.isub, 1) := by decide +kernel
theorem dX12_madeAt_29 : decode cX12_madeAt 29 = .ok (.iaload, 1) := by decide +kernel
theorem dX12_madeAt_30 : decode cX12_madeAt 30 = .ok (.isub, 1) := by decide +kernel
theorem dX12_madeAt_31 : decode cX12_madeAt 31 = .ok (.ireturn, 1) := by decide +kernel
theorem dX12_writtenAt_0 : decode cX12_writtenAt 0 = .ok (.iconst 0, 1) := by decide +kernel
theorem dX12_writtenAt_1 : decode cX12_writtenAt 1 = .ok (.istore_n 2, 1) := by decide +kernel
theorem dX12_writtenAt_2 : decode cX12_writtenAt 2 = .ok (.iconst 0, 1) := by decide +kernel
theorem dX12_writtenAt_3 : decode cX12_writtenAt 3 = .ok (.istore_n 3, 1) := by decide +kernel
theorem dX12_writtenAt_4 : decode cX12_writtenAt 4 = .ok (.iload_n 3, 1) := by decide +kernel
theorem dX12_writtenAt_5 : decode cX12_writtenAt 5 = .ok (.aload_n 0, 1) := by decide +kernel
theorem dX12_writtenAt_6 : decode cX12_writtenAt 6 = .ok (.invokevirtual 469, 3) := by decide +kernel
theorem dX12_writtenAt_9 : decode cX12_writtenAt 9 = .ok (.if_icmp .ge 64, 3) := by decide +kernel
theorem dX12_writtenAt_12 : decode cX12_writtenAt 12 = .ok (.iconst 0, 1) := by decide +kernel
theorem dX12_writtenAt_13 : decode cX12_writtenAt 13 = .ok (.istore 4, 2) := by decide +kernel
theorem dX12_writtenAt_15 : decode cX12_writtenAt 15 = .ok (.iload 4, 2) := by decide +kernel
theorem dX12_writtenAt_17 : decode cX12_writtenAt 17 = .ok (.aload_n 0, 1) := by decide +kernel
theorem dX12_writtenAt_18 : decode cX12_writtenAt 18 = .ok (.getfield 75, 3) := by decide +kernel
theorem dX12_writtenAt_21 : decode cX12_writtenAt 21 = .ok (.sipush 1485, 3) := by decide +kernel
theorem dX12_writtenAt_24 : decode cX12_writtenAt 24 = .ok (.iload_n 3, 1) := by decide +kernel
theorem dX12_writtenAt_25 : decode cX12_writtenAt 25 = .ok (.iadd, 1) := by decide +kernel
theorem dX12_writtenAt_26 : decode cX12_writtenAt 26 = .ok (.iaload, 1) := by decide +kernel
theorem dX12_writtenAt_27 : decode cX12_writtenAt 27 = .ok (.if_icmp .ge 40, 3) := by decide +kernel
theorem dX12_writtenAt_30 : decode cX12_writtenAt 30 = .ok (.iload_n 2, 1) := by decide +kernel
theorem dX12_writtenAt_31 : decode cX12_writtenAt 31 = .ok (.aload_n 0, 1) := by decide +kernel
theorem dX12_writtenAt_32 : decode cX12_writtenAt 32 = .ok (.getfield 75, 3) := by decide +kernel
theorem dX12_writtenAt_35 : decode cX12_writtenAt 35 = .ok (.sipush 1805, 3) := by decide +kernel
theorem dX12_writtenAt_38 : decode cX12_writtenAt 38 = .ok (.bipush 6, 2) := by decide +kernel
theorem dX12_writtenAt_40 : decode cX12_writtenAt 40 = .ok (.iload_n 3, 1) := by decide +kernel
theorem dX12_writtenAt_41 : decode cX12_writtenAt 41 = .ok (.imul, 1) := by decide +kernel
theorem dX12_writtenAt_42 : decode cX12_writtenAt 42 = .ok (.iadd, 1) := by decide +kernel
theorem dX12_writtenAt_43 : decode cX12_writtenAt 43 = .ok (.iload 4, 2) := by decide +kernel
theorem dX12_writtenAt_45 : decode cX12_writtenAt 45 = .ok (.iadd, 1) := by decide +kernel
theorem dX12_writtenAt_46 : decode cX12_writtenAt 46 = .ok (.iaload, 1) := by decide +kernel
theorem dX12_writtenAt_47 : decode cX12_writtenAt 47 = .ok (.iload_n 1, 1) := by decide +kernel
theorem dX12_writtenAt_48 : decode cX12_writtenAt 48 = .ok (.if_icmp .ne 7, 3) := by decide +kernel
theorem dX12_writtenAt_51 : decode cX12_writtenAt 51 = .ok (.iconst 1, 1) := by decide +kernel
theorem dX12_writtenAt_52 : decode cX12_writtenAt 52 = .ok (.goto 4, 3) := by decide +kernel
theorem dX12_writtenAt_55 : decode cX12_writtenAt 55 = .ok (.iconst 0, 1) := by decide +kernel
theorem dX12_writtenAt_56 : decode cX12_writtenAt 56 = .ok (.invokestatic 304, 3) := by decide +kernel
theorem dX12_writtenAt_59 : decode cX12_writtenAt 59 = .ok (.iadd, 1) := by decide +kernel
theorem dX12_writtenAt_60 : decode cX12_writtenAt 60 = .ok (.istore_n 2, 1) := by decide +kernel
theorem dX12_writtenAt_61 : decode cX12_writtenAt 61 = .ok (.iinc 4 1, 3) := by decide +kernel
theorem dX12_writtenAt_64 : decode cX12_writtenAt 64 = .ok (.goto (-49), 3) := by decide +kernel
theorem dX12_writtenAt_67 : decode cX12_writtenAt 67 = .ok (.iinc 3 1, 3) := by decide +kernel
theorem dX12_writtenAt_70 : decode cX12_writtenAt 70 = .ok (.goto (-66), 3) := by decide +kernel
theorem dX12_writtenAt_73 : decode cX12_writtenAt 73 = .ok (.iload_n 2, 1) := by decide +kernel
theorem dX12_writtenAt_74 : decode cX12_writtenAt 74 = .ok (.ireturn, 1) := by decide +kernel
theorem dX12_costOf_0 : decode cX12_costOf 0 = .ok (.aload_n 0, 1) := by decide +kernel
theorem dX12_costOf_1 : decode cX12_costOf 1 = .ok (.iload_n 1, 1) := by decide +kernel
theorem dX12_costOf_2 : decode cX12_costOf 2 = .ok (.invokevirtual 491, 3) := by decide +kernel
theorem dX12_costOf_5 : decode cX12_costOf 5 = .ok (.aload_n 0, 1) := by decide +kernel
theorem dX12_costOf_6 : decode cX12_costOf 6 = .ok (.iload_n 1, 1) := by decide +kernel
theorem dX12_costOf_7 : decode cX12_costOf 7 = .ok (.invokevirtual 494, 3) := by decide +kernel
theorem dX12_costOf_10 : decode cX12_costOf 10 = .ok (.iadd, 1) := by decide +kernel
theorem dX12_costOf_11 : decode cX12_costOf 11 = .ok (.ireturn, 1) := by decide +kernel
theorem dX12_version_0 : decode cX12_version 0 = .ok (.aload_n 0, 1) := by decide +kernel
theorem dX12_version_1 : decode cX12_version 1 = .ok (.iload_n 1, 1) := by decide +kernel
theorem dX12_version_2 : decode cX12_version 2 = .ok (.invokevirtual 497, 3) := by decide +kernel
theorem dX12_version_5 : decode cX12_version 5 = .ok (.ifCond .ne 6, 3) := by decide +kernel
theorem dX12_version_8 : decode cX12_version 8 = .ok (.bipush (-2), 2) := by decide +kernel
theorem dX12_version_10 : decode cX12_version 10 = .ok (.ireturn, 1) := by decide +kernel
theorem dX12_version_11 : decode cX12_version 11 = .ok (.aload_n 0, 1) := by decide +kernel
theorem dX12_version_12 : decode cX12_version 12 = .ok (.iload_n 1, 1) := by decide +kernel
theorem dX12_version_13 : decode cX12_version 13 = .ok (.invokevirtual 450, 3) := by decide +kernel
theorem dX12_version_16 : decode cX12_version 16 = .ok (.iload_n 2, 1) := by decide +kernel
theorem dX12_version_17 : decode cX12_version 17 = .ok (.tableswitch 72 0 4 #[35, 41, 47, 57, 66], 35) := by decide +kernel
theorem dX12_version_52 : decode cX12_version 52 = .ok (.aload_n 0, 1) := by decide +kernel
theorem dX12_version_53 : decode cX12_version 53 = .ok (.iload_n 1, 1) := by decide +kernel
theorem dX12_version_54 : decode cX12_version 54 = .ok (.invokevirtual 429, 3) := by decide +kernel
theorem dX12_version_57 : decode cX12_version 57 = .ok (.ireturn, 1) := by decide +kernel
theorem dX12_version_58 : decode cX12_version 58 = .ok (.aload_n 0, 1) := by decide +kernel
theorem dX12_version_59 : decode cX12_version 59 = .ok (.iload_n 1, 1) := by decide +kernel
theorem dX12_version_60 : decode cX12_version 60 = .ok (.invokevirtual 420, 3) := by decide +kernel
theorem dX12_version_63 : decode cX12_version 63 = .ok (.ireturn, 1) := by decide +kernel
theorem dX12_version_64 : decode cX12_version 64 = .ok (.aload_n 0, 1) := by decide +kernel
theorem dX12_version_65 : decode cX12_version 65 = .ok (.aload_n 0, 1) := by decide +kernel
theorem dX12_version_66 : decode cX12_version 66 = .ok (.getfield 438, 3) := by decide +kernel
theorem dX12_version_69 : decode cX12_version 69 = .ok (.iload_n 1, 1) := by decide +kernel
theorem dX12_version_70 : decode cX12_version 70 = .ok (.invokevirtual 456, 3) := by decide +kernel
theorem dX12_version_73 : decode cX12_version 73 = .ok (.ireturn, 1) := by decide +kernel
theorem dX12_version_74 : decode cX12_version 74 = .ok (.aload_n 0, 1) := by decide +kernel
theorem dX12_version_75 : decode cX12_version 75 = .ok (.aload_n 0, 1) := by decide +kernel
theorem dX12_version_76 : decode cX12_version 76 = .ok (.getfield 438, 3) := by decide +kernel
theorem dX12_version_79 : decode cX12_version 79 = .ok (.invokevirtual 447, 3) := by decide +kernel
theorem dX12_version_82 : decode cX12_version 82 = .ok (.ireturn, 1) := by decide +kernel
theorem dX12_version_83 : decode cX12_version 83 = .ok (.aload_n 0, 1) := by decide +kernel
theorem dX12_version_84 : decode cX12_version 84 = .ok (.iload_n 1, 1) := by decide +kernel
theorem dX12_version_85 : decode cX12_version 85 = .ok (.invokevirtual 500, 3) := by decide +kernel
theorem dX12_version_88 : decode cX12_version 88 = .ok (.ireturn, 1) := by decide +kernel
theorem dX12_version_89 : decode cX12_version 89 = .ok (.bipush (-2), 2) := by decide +kernel
theorem dX12_version_91 : decode cX12_version 91 = .ok (.ireturn, 1) := by decide +kernel
theorem dX12_isThere_0 : decode cX12_isThere 0 = .ok (.aload_n 0, 1) := by decide +kernel
theorem dX12_isThere_1 : decode cX12_isThere 1 = .ok (.aload_n 0, 1) := by decide +kernel
theorem dX12_isThere_2 : decode cX12_isThere 2 = .ok (.getfield 75, 3) := by decide +kernel
theorem dX12_isThere_5 : decode cX12_isThere 5 = .ok (.sipush 205, 3) := by decide +kernel
theorem dX12_isThere_8 : decode cX12_isThere 8 = .ok (.iload_n 1, 1) := by decide +kernel
theorem dX12_isThere_9 : decode cX12_isThere 9 = .ok (.iadd, 1) := by decide +kernel
theorem dX12_isThere_10 : decode cX12_isThere 10 = .ok (.iaload, 1) := by decide +kernel
theorem dX12_isThere_11 : decode cX12_isThere 11 = .ok (.aload_n 0, 1) := by decide +kernel
theorem dX12_isThere_12 : decode cX12_isThere 12 = .ok (.getfield 383, 3) := by decide +kernel
theorem dX12_isThere_15 : decode cX12_isThere 15 = .ok (.invokevirtual 456, 3) := by decide +kernel
theorem dX12_isThere_18 : decode cX12_isThere 18 = .ok (.iload_n 1, 1) := by decide +kernel
theorem dX12_isThere_19 : decode cX12_isThere 19 = .ok (.if_icmp .ne 7, 3) := by decide +kernel
theorem dX12_isThere_22 : decode cX12_isThere 22 = .ok (.iconst 1, 1) := by decide +kernel
theorem dX12_isThere_23 : decode cX12_isThere 23 = .ok (.goto 4, 3) := by decide +kernel
theorem dX12_isThere_26 : decode cX12_isThere 26 = .ok (.iconst 0, 1) := by decide +kernel
theorem dX12_isThere_27 : decode cX12_isThere 27 = .ok (.ireturn, 1) := by decide +kernel
theorem dX12_parentAt_0 : decode cX12_parentAt 0 = .ok (.aload_n 0, 1) := by decide +kernel
theorem dX12_parentAt_1 : decode cX12_parentAt 1 = .ok (.iload_n 1, 1) := by decide +kernel
theorem dX12_parentAt_2 : decode cX12_parentAt 2 = .ok (.invokevirtual 503, 3) := by decide +kernel
theorem dX12_parentAt_5 : decode cX12_parentAt 5 = .ok (.ifCond .ne 5, 3) := by decide +kernel
theorem dX12_parentAt_8 : decode cX12_parentAt 8 = .ok (.iconst (-1), 1) := by decide +kernel
theorem dX12_parentAt_9 : decode cX12_parentAt 9 = .ok (.ireturn, 1) := by decide +kernel
theorem dX12_parentAt_10 : decode cX12_parentAt 10 = .ok (.aload_n 0, 1) := by decide +kernel
theorem dX12_parentAt_11 : decode cX12_parentAt 11 = .ok (.aload_n 0, 1) := by decide +kernel
theorem dX12_parentAt_12 : decode cX12_parentAt 12 = .ok (.getfield 383, 3) := by decide +kernel
theorem dX12_parentAt_15 : decode cX12_parentAt 15 = .ok (.invokevirtual 450, 3) := by decide +kernel
theorem dX12_parentAt_18 : decode cX12_parentAt 18 = .ok (.aload_n 0, 1) := by decide +kernel
theorem dX12_parentAt_19 : decode cX12_parentAt 19 = .ok (.aload_n 0, 1) := by decide +kernel
theorem dX12_parentAt_20 : decode cX12_parentAt 20 = .ok (.getfield 87, 3) := by decide +kernel
theorem dX12_parentAt_23 : decode cX12_parentAt 23 = .ok (.aload_n 0, 1) := by decide +kernel
theorem dX12_parentAt_24 : decode cX12_parentAt 24 = .ok (.getfield 75, 3) := by decide +kernel
theorem dX12_parentAt_27 : decode cX12_parentAt 27 = .ok (.sipush 205, 3) := by decide +kernel
theorem dX12_parentAt_30 : decode cX12_parentAt 30 = .ok (.iload_n 1, 1) := by decide +kernel
theorem dX12_parentAt_31 : decode cX12_parentAt 31 = .ok (.iadd, 1) := by decide +kernel
theorem dX12_parentAt_32 : decode cX12_parentAt 32 = .ok (.iaload, 1) := by decide +kernel
theorem dX12_parentAt_33 : decode cX12_parentAt 33 = .ok (.iaload, 1) := by decide +kernel
theorem dX12_parentAt_34 : decode cX12_parentAt 34 = .ok (.aload_n 0, 1) := by decide +kernel
theorem dX12_parentAt_35 : decode cX12_parentAt 35 = .ok (.getfield 383, 3) := by decide +kernel
theorem dX12_parentAt_38 : decode cX12_parentAt 38 = .ok (.invokevirtual 456, 3) := by decide +kernel
theorem dX12_parentAt_41 : decode cX12_parentAt 41 = .ok (.ireturn, 1) := by decide +kernel
theorem dX12_node_0 : decode cX12_node 0 = .ok (.aload_n 0, 1) := by decide +kernel
theorem dX12_node_1 : decode cX12_node 1 = .ok (.iload_n 1, 1) := by decide +kernel
theorem dX12_node_2 : decode cX12_node 2 = .ok (.invokevirtual 506, 3) := by decide +kernel
theorem dX12_node_5 : decode cX12_node 5 = .ok (.ifCond .ne 6, 3) := by decide +kernel
theorem dX12_node_8 : decode cX12_node 8 = .ok (.bipush (-2), 2) := by decide +kernel
theorem dX12_node_10 : decode cX12_node 10 = .ok (.ireturn, 1) := by decide +kernel
theorem dX12_node_11 : decode cX12_node 11 = .ok (.iload_n 2, 1) := by decide +kernel
theorem dX12_node_12 : decode cX12_node 12 = .ok (.tableswitch 113 0 6 #[44, 55, 66, 77, 88, 98, 104], 44) := by decide +kernel
theorem dX12_node_56 : decode cX12_node 56 = .ok (.aload_n 0, 1) := by decide +kernel
theorem dX12_node_57 : decode cX12_node 57 = .ok (.getfield 75, 3) := by decide +kernel
theorem dX12_node_60 : decode cX12_node 60 = .ok (.sipush 205, 3) := by decide +kernel
theorem dX12_node_63 : decode cX12_node 63 = .ok (.iload_n 1, 1) := by decide +kernel
theorem dX12_node_64 : decode cX12_node 64 = .ok (.iadd, 1) := by decide +kernel
theorem dX12_node_65 : decode cX12_node 65 = .ok (.iaload, 1) := by decide +kernel
theorem dX12_node_66 : decode cX12_node 66 = .ok (.ireturn, 1) := by decide +kernel
theorem dX12_node_67 : decode cX12_node 67 = .ok (.aload_n 0, 1) := by decide +kernel
theorem dX12_node_68 : decode cX12_node 68 = .ok (.getfield 75, 3) := by decide +kernel
theorem dX12_node_71 : decode cX12_node 71 = .ok (.sipush 525, 3) := by decide +kernel
theorem dX12_node_74 : decode cX12_node 74 = .ok (.iload_n 1, 1) := by decide +kernel
theorem dX12_node_75 : decode cX12_node 75 = .ok (.iadd, 1) := by decide +kernel
theorem dX12_node_76 : decode cX12_node 76 = .ok (.iaload, 1) := by decide +kernel
theorem dX12_node_77 : decode cX12_node 77 = .ok (.ireturn, 1) := by decide +kernel
theorem dX12_node_78 : decode cX12_node 78 = .ok (.aload_n 0, 1) := by decide +kernel
theorem dX12_node_79 : decode cX12_node 79 = .ok (.getfield 75, 3) := by decide +kernel
theorem dX12_node_82 : decode cX12_node 82 = .ok (.sipush 845, 3) := by decide +kernel
theorem dX12_node_85 : decode cX12_node 85 = .ok (.iload_n 1, 1) := by decide +kernel
theorem dX12_node_86 : decode cX12_node 86 = .ok (.iadd, 1) := by decide +kernel
theorem dX12_node_87 : decode cX12_node 87 = .ok (.iaload, 1) := by decide +kernel
theorem dX12_node_88 : decode cX12_node 88 = .ok (.ireturn, 1) := by decide +kernel
theorem dX12_node_89 : decode cX12_node 89 = .ok (.aload_n 0, 1) := by decide +kernel
theorem dX12_node_90 : decode cX12_node 90 = .ok (.getfield 75, 3) := by decide +kernel
theorem dX12_node_93 : decode cX12_node 93 = .ok (.sipush 1165, 3) := by decide +kernel
theorem dX12_node_96 : decode cX12_node 96 = .ok (.iload_n 1, 1) := by decide +kernel
theorem dX12_node_97 : decode cX12_node 97 = .ok (.iadd, 1) := by decide +kernel
theorem dX12_node_98 : decode cX12_node 98 = .ok (.iaload, 1) := by decide +kernel
theorem dX12_node_99 : decode cX12_node 99 = .ok (.ireturn, 1) := by decide +kernel
theorem dX12_node_100 : decode cX12_node 100 = .ok (.aload_n 0, 1) := by decide +kernel
theorem dX12_node_101 : decode cX12_node 101 = .ok (.iload_n 1, 1) := by decide +kernel
theorem dX12_node_102 : decode cX12_node 102 = .ok (.aload_n 0, 1) := by decide +kernel
theorem dX12_node_103 : decode cX12_node 103 = .ok (.getfield 383, 3) := by decide +kernel
theorem dX12_node_106 : decode cX12_node 106 = .ok (.invokevirtual 417, 3) := by decide +kernel
theorem dX12_node_109 : decode cX12_node 109 = .ok (.ireturn, 1) := by decide +kernel
theorem dX12_node_110 : decode cX12_node 110 = .ok (.aload_n 0, 1) := by decide +kernel
theorem dX12_node_111 : decode cX12_node 111 = .ok (.iload_n 1, 1) := by decide +kernel
theorem dX12_node_112 : decode cX12_node 112 = .ok (.invokevirtual 509, 3) := by decide +kernel
theorem dX12_node_115 : decode cX12_node 115 = .ok (.ireturn, 1) := by decide +kernel
theorem dX12_node_116 : decode cX12_node 116 = .ok (.aload_n 0, 1) := by decide +kernel
theorem dX12_node_117 : decode cX12_node 117 = .ok (.iload_n 1, 1) := by decide +kernel
theorem dX12_node_118 : decode cX12_node 118 = .ok (.invokevirtual 503, 3) := by decide +kernel
theorem dX12_node_121 : decode cX12_node 121 = .ok (.invokestatic 304, 3) := by decide +kernel
theorem dX12_node_124 : decode cX12_node 124 = .ok (.ireturn, 1) := by decide +kernel
theorem dX12_node_125 : decode cX12_node 125 = .ok (.bipush (-2), 2) := by decide +kernel
theorem dX12_node_127 : decode cX12_node 127 = .ok (.ireturn, 1) := by decide +kernel
theorem dX12_change_0 : decode cX12_change 0 = .ok (.aload_n 0, 1) := by decide +kernel
theorem dX12_change_1 : decode cX12_change 1 = .ok (.iload_n 1, 1) := by decide +kernel
theorem dX12_change_2 : decode cX12_change 2 = .ok (.invokevirtual 506, 3) := by decide +kernel
theorem dX12_change_5 : decode cX12_change 5 = .ok (.ifCond .eq 31, 3) := by decide +kernel
theorem dX12_change_8 : decode cX12_change 8 = .ok (.iload_n 2, 1) := by decide +kernel
theorem dX12_change_9 : decode cX12_change 9 = .ok (.iconst 0, 1) := by decide +kernel
theorem dX12_change_10 : decode cX12_change 10 = .ok (.aload_n 0, 1) := by decide +kernel
theorem dX12_change_11 : decode cX12_change 11 = .ok (.iload_n 1, 1) := by decide +kernel
theorem dX12_change_12 : decode cX12_change 12 = .ok (.aload_n 0, 1) := by decide +kernel
theorem dX12_change_13 : decode cX12_change 13 = .ok (.getfield 383, 3) := by decide +kernel
theorem dX12_change_16 : decode cX12_change 16 = .ok (.invokevirtual 417, 3) := by decide +kernel
theorem dX12_change_19 : decode cX12_change 19 = .ok (.iconst 1, 1) := by decide +kernel
theorem dX12_change_20 : decode cX12_change 20 = .ok (.isub, 1) := by decide +kernel
theorem dX12_change_21 : decode cX12_change 21 = .ok (.invokestatic 398, 3) := by decide +kernel
theorem dX12_change_24 : decode cX12_change 24 = .ok (.ifCond .eq 12, 3) := by decide +kernel
theorem dX12_change_27 : decode cX12_change 27 = .ok (.iload_n 3, 1) := by decide +kernel
theorem dX12_change_28 : decode cX12_change 28 = .ok (.iconst 0, 1) := by decide +kernel
theorem dX12_change_29 : decode cX12_change 29 = .ok (.iconst 2, 1) := by decide +kernel
theorem dX12_change_30 : decode cX12_change 30 = .ok (.invokestatic 398, 3) := by decide +kernel
theorem dX12_change_33 : decode cX12_change 33 = .ok (.ifCond .ne 6, 3) := by decide +kernel
theorem dX12_change_36 : decode cX12_change 36 = .ok (.bipush (-2), 2) := by decide +kernel
theorem dX12_change_38 : decode cX12_change 38 = .ok (.ireturn, 1) := by decide +kernel
theorem dX12_change_39 : decode cX12_change 39 = .ok (.bipush 6, 2) := by decide +kernel
theorem dX12_change_41 : decode cX12_change 41 = .ok (.iload_n 1, 1) := by decide +kernel
theorem dX12_change_42 : decode cX12_change 42 = .ok (.imul, 1) := by decide +kernel
theorem dX12_change_43 : decode cX12_change 43 = .ok (.iload_n 2, 1) := by decide +kernel
theorem dX12_change_44 : decode cX12_change 44 = .ok (.iadd, 1) := by decide +kernel
theorem dX12_change_45 : decode cX12_change 45 = .ok (.istore 4, 2) := by decide +kernel
theorem dX12_change_47 : decode cX12_change 47 = .ok (.iload_n 3, 1) := by decide +kernel
theorem dX12_change_48 : decode cX12_change 48 = .ok (.ifCond .ne 17, 3) := by decide +kernel
theorem dX12_change_51 : decode cX12_change 51 = .ok (.aload_n 0, 1) := by decide +kernel
theorem dX12_change_52 : decode cX12_change 52 = .ok (.getfield 75, 3) := by decide +kernel
theorem dX12_change_55 : decode cX12_change 55 = .ok (.sipush 1805, 3) := by decide +kernel
theorem dX12_change_58 : decode cX12_change 58 = .ok (.iload 4, 2) := by decide +kernel
theorem dX12_change_60 : decode cX12_change 60 = .ok (.iadd, 1) := by decide +kernel
theorem dX12_change_61 : decode cX12_change 61 = .ok (.iaload, 1) := by decide +kernel
theorem dX12_change_62 : decode cX12_change 62 = .ok (.goto 33, 3) := by decide +kernel
theorem dX12_change_65 : decode cX12_change 65 = .ok (.iload_n 3, 1) := by decide +kernel
theorem dX12_change_66 : decode cX12_change 66 = .ok (.iconst 1, 1) := by decide +kernel
theorem dX12_change_67 : decode cX12_change 67 = .ok (.if_icmp .ne 17, 3) := by decide +kernel
theorem dX12_change_70 : decode cX12_change 70 = .ok (.aload_n 0, 1) := by decide +kernel
theorem dX12_change_71 : decode cX12_change 71 = .ok (.getfield 75, 3) := by decide +kernel
theorem dX12_change_74 : decode cX12_change 74 = .ok (.sipush 3725, 3) := by decide +kernel
theorem dX12_change_77 : decode cX12_change 77 = .ok (.iload 4, 2) := by decide +kernel
theorem dX12_change_79 : decode cX12_change 79 = .ok (.iadd, 1) := by decide +kernel
theorem dX12_change_80 : decode cX12_change 80 = .ok (.iaload, 1) := by decide +kernel
theorem dX12_change_81 : decode cX12_change 81 = .ok (.goto 14, 3) := by decide +kernel
theorem dX12_change_84 : decode cX12_change 84 = .ok (.aload_n 0, 1) := by decide +kernel
theorem dX12_change_85 : decode cX12_change 85 = .ok (.getfield 75, 3) := by decide +kernel
theorem dX12_change_88 : decode cX12_change 88 = .ok (.sipush 5645, 3) := by decide +kernel
theorem dX12_change_91 : decode cX12_change 91 = .ok (.iload 4, 2) := by decide +kernel
theorem dX12_change_93 : decode cX12_change 93 = .ok (.iadd, 1) := by decide +kernel
theorem dX12_change_94 : decode cX12_change 94 = .ok (.iaload, 1) := by decide +kernel
theorem dX12_change_95 : decode cX12_change 95 = .ok (.ireturn, 1) := by decide +kernel
theorem dX12_read_0 : decode cX12_read 0 = .ok (.aload_n 0, 1) := by decide +kernel
theorem dX12_read_1 : decode cX12_read 1 = .ok (.iload_n 1, 1) := by decide +kernel
theorem dX12_read_2 : decode cX12_read 2 = .ok (.invokevirtual 506, 3) := by decide +kernel
theorem dX12_read_5 : decode cX12_read 5 = .ok (.ifCond .eq 44, 3) := by decide +kernel
theorem dX12_read_8 : decode cX12_read 8 = .ok (.iload_n 2, 1) := by decide +kernel
theorem dX12_read_9 : decode cX12_read 9 = .ok (.iconst 0, 1) := by decide +kernel
theorem dX12_read_10 : decode cX12_read 10 = .ok (.iconst 1, 1) := by decide +kernel
theorem dX12_read_11 : decode cX12_read 11 = .ok (.invokestatic 398, 3) := by decide +kernel
theorem dX12_read_14 : decode cX12_read 14 = .ok (.ifCond .eq 35, 3) := by decide +kernel
theorem dX12_read_17 : decode cX12_read 17 = .ok (.aload_n 0, 1) := by decide +kernel
theorem dX12_read_18 : decode cX12_read 18 = .ok (.iload_n 3, 1) := by decide +kernel
theorem dX12_read_19 : decode cX12_read 19 = .ok (.invokevirtual 497, 3) := by decide +kernel
theorem dX12_read_22 : decode cX12_read 22 = .ok (.ifCond .eq 27, 3) := by decide +kernel
theorem dX12_read_25 : decode cX12_read 25 = .ok (.iload_n 3, 1) := by decide +kernel
theorem dX12_read_26 : decode cX12_read 26 = .ok (.aload_n 0, 1) := by decide +kernel
theorem dX12_read_27 : decode cX12_read 27 = .ok (.getfield 75, 3) := by decide +kernel
theorem dX12_read_30 : decode cX12_read 30 = .ok (.sipush 525, 3) := by decide +kernel
theorem dX12_read_33 : decode cX12_read 33 = .ok (.iload_n 1, 1) := by decide +kernel
theorem dX12_read_34 : decode cX12_read 34 = .ok (.iadd, 1) := by decide +kernel
theorem dX12_read_35 : decode cX12_read 35 = .ok (.iaload, 1) := by decide +kernel
theorem dX12_read_36 : decode cX12_read 36 = .ok (.if_icmp .lt 13, 3) := by decide +kernel
theorem dX12_read_39 : decode cX12_read 39 = .ok (.aload_n 0, 1) := by decide +kernel
theorem dX12_read_40 : decode cX12_read 40 = .ok (.iload_n 1, 1) := by decide +kernel
theorem dX12_read_41 : decode cX12_read 41 = .ok (.iload_n 2, 1) := by decide +kernel
theorem dX12_read_42 : decode cX12_read 42 = .ok (.iload_n 3, 1) := by decide +kernel
theorem dX12_read_43 : decode cX12_read 43 = .ok (.invokevirtual 459, 3) := by decide +kernel
theorem dX12_read_46 : decode cX12_read 46 = .ok (.goto 5, 3) := by decide +kernel
theorem dX12_read_49 : decode cX12_read 49 = .ok (.bipush (-2), 2) := by decide +kernel
theorem dX12_read_51 : decode cX12_read 51 = .ok (.ireturn, 1) := by decide +kernel
theorem dX12_row_0 : decode cX12_row 0 = .ok (.aload_n 0, 1) := by decide +kernel
theorem dX12_row_1 : decode cX12_row 1 = .ok (.iconst 0, 1) := by decide +kernel
theorem dX12_row_2 : decode cX12_row 2 = .ok (.putfield 395, 3) := by decide +kernel
theorem dX12_row_5 : decode cX12_row 5 = .ok (.aload_n 0, 1) := by decide +kernel
theorem dX12_row_6 : decode cX12_row 6 = .ok (.iload_n 1, 1) := by decide +kernel
theorem dX12_row_7 : decode cX12_row 7 = .ok (.invokevirtual 497, 3) := by decide +kernel
theorem dX12_row_10 : decode cX12_row 10 = .ok (.ifCond .ne 5, 3) := by decide +kernel
theorem dX12_row_13 : decode cX12_row 13 = .ok (.iconst (-1), 1) := by decide +kernel
theorem dX12_row_14 : decode cX12_row 14 = .ok (.ireturn, 1) := by decide +kernel
theorem dX12_row_15 : decode cX12_row 15 = .ok (.aload_n 0, 1) := by decide +kernel
theorem dX12_row_16 : decode cX12_row 16 = .ok (.iload_n 1, 1) := by decide +kernel
theorem dX12_row_17 : decode cX12_row 17 = .ok (.invokevirtual 450, 3) := by decide +kernel
theorem dX12_row_20 : decode cX12_row 20 = .ok (.aload_n 0, 1) := by decide +kernel
theorem dX12_row_21 : decode cX12_row 21 = .ok (.aload_n 0, 1) := by decide +kernel
theorem dX12_row_22 : decode cX12_row 22 = .ok (.getfield 426, 3) := by decide +kernel
theorem dX12_row_25 : decode cX12_row 25 = .ok (.putfield 395, 3) := by decide +kernel
theorem dX12_row_28 : decode cX12_row 28 = .ok (.iconst 0, 1) := by decide +kernel
theorem dX12_row_29 : decode cX12_row 29 = .ok (.istore_n 2, 1) := by decide +kernel
theorem dX12_row_30 : decode cX12_row 30 = .ok (.iload_n 2, 1) := by decide +kernel
theorem dX12_row_31 : decode cX12_row 31 = .ok (.aload_n 0, 1) := by decide +kernel
theorem dX12_row_32 : decode cX12_row 32 = .ok (.getfield 426, 3) := by decide +kernel
theorem dX12_row_35 : decode cX12_row 35 = .ok (.if_icmp .ge 21, 3) := by decide +kernel
theorem dX12_row_38 : decode cX12_row 38 = .ok (.aload_n 0, 1) := by decide +kernel
theorem dX12_row_39 : decode cX12_row 39 = .ok (.getfield 105, 3) := by decide +kernel
theorem dX12_row_42 : decode cX12_row 42 = .ok (.iload_n 2, 1) := by decide +kernel
theorem dX12_row_43 : decode cX12_row 43 = .ok (.aload_n 0, 1) := by decide +kernel
theorem dX12_row_44 : decode cX12_row 44 = .ok (.getfield 78, 3) := by decide +kernel
theorem dX12_row_47 : decode cX12_row 47 = .ok (.iload_n 2, 1) := by decide +kernel
theorem dX12_row_48 : decode cX12_row 48 = .ok (.iaload, 1) := by decide +kernel
theorem dX12_row_49 : decode cX12_row 49 = .ok (.iastore, 1) := by decide +kernel
theorem dX12_row_50 : decode cX12_row 50 = .ok (.iinc 2 1, 3) := by decide +kernel
theorem dX12_row_53 : decode cX12_row 53 = .ok (.goto (-23), 3) := by decide +kernel
theorem dX12_row_56 : decode cX12_row 56 = .ok (.aload_n 0, 1) := by decide +kernel
theorem dX12_row_57 : decode cX12_row 57 = .ok (.getfield 426, 3) := by decide +kernel
theorem dX12_row_60 : decode cX12_row 60 = .ok (.ireturn, 1) := by decide +kernel
theorem dX12_shape_0 : decode cX12_shape 0 = .ok (.aload_n 0, 1) := by decide +kernel
theorem dX12_shape_1 : decode cX12_shape 1 = .ok (.iconst 0, 1) := by decide +kernel
theorem dX12_shape_2 : decode cX12_shape 2 = .ok (.putfield 395, 3) := by decide +kernel
theorem dX12_shape_5 : decode cX12_shape 5 = .ok (.aload_n 0, 1) := by decide +kernel
theorem dX12_shape_6 : decode cX12_shape 6 = .ok (.iload_n 1, 1) := by decide +kernel
theorem dX12_shape_7 : decode cX12_shape 7 = .ok (.invokevirtual 497, 3) := by decide +kernel
theorem dX12_shape_10 : decode cX12_shape 10 = .ok (.ifCond .ne 5, 3) := by decide +kernel
theorem dX12_shape_13 : decode cX12_shape 13 = .ok (.iconst (-1), 1) := by decide +kernel
theorem dX12_shape_14 : decode cX12_shape 14 = .ok (.ireturn, 1) := by decide +kernel
theorem dX12_shape_15 : decode cX12_shape 15 = .ok (.aload_n 0, 1) := by decide +kernel
theorem dX12_shape_16 : decode cX12_shape 16 = .ok (.iload_n 1, 1) := by decide +kernel
theorem dX12_shape_17 : decode cX12_shape 17 = .ok (.invokevirtual 450, 3) := by decide +kernel
theorem dX12_shape_20 : decode cX12_shape 20 = .ok (.aload_n 0, 1) := by decide +kernel
theorem dX12_shape_21 : decode cX12_shape 21 = .ok (.aload_n 0, 1) := by decide +kernel
theorem dX12_shape_22 : decode cX12_shape 22 = .ok (.getfield 426, 3) := by decide +kernel
theorem dX12_shape_25 : decode cX12_shape 25 = .ok (.putfield 395, 3) := by decide +kernel
theorem dX12_shape_28 : decode cX12_shape 28 = .ok (.iconst 0, 1) := by decide +kernel
theorem dX12_shape_29 : decode cX12_shape 29 = .ok (.istore_n 2, 1) := by decide +kernel
theorem dX12_shape_30 : decode cX12_shape 30 = .ok (.iload_n 2, 1) := by decide +kernel
theorem dX12_shape_31 : decode cX12_shape 31 = .ok (.aload_n 0, 1) := by decide +kernel
theorem dX12_shape_32 : decode cX12_shape 32 = .ok (.getfield 426, 3) := by decide +kernel
theorem dX12_shape_35 : decode cX12_shape 35 = .ok (.if_icmp .ge 21, 3) := by decide +kernel
theorem dX12_shape_38 : decode cX12_shape 38 = .ok (.aload_n 0, 1) := by decide +kernel
theorem dX12_shape_39 : decode cX12_shape 39 = .ok (.getfield 105, 3) := by decide +kernel
theorem dX12_shape_42 : decode cX12_shape 42 = .ok (.iload_n 2, 1) := by decide +kernel
theorem dX12_shape_43 : decode cX12_shape 43 = .ok (.aload_n 0, 1) := by decide +kernel
theorem dX12_shape_44 : decode cX12_shape 44 = .ok (.getfield 96, 3) := by decide +kernel
theorem dX12_shape_47 : decode cX12_shape 47 = .ok (.iload_n 2, 1) := by decide +kernel
theorem dX12_shape_48 : decode cX12_shape 48 = .ok (.iaload, 1) := by decide +kernel
theorem dX12_shape_49 : decode cX12_shape 49 = .ok (.iastore, 1) := by decide +kernel
theorem dX12_shape_50 : decode cX12_shape 50 = .ok (.iinc 2 1, 3) := by decide +kernel
theorem dX12_shape_53 : decode cX12_shape 53 = .ok (.goto (-23), 3) := by decide +kernel
theorem dX12_shape_56 : decode cX12_shape 56 = .ok (.aload_n 0, 1) := by decide +kernel
theorem dX12_shape_57 : decode cX12_shape 57 = .ok (.aload_n 0, 1) := by decide +kernel
theorem dX12_shape_58 : decode cX12_shape 58 = .ok (.getfield 438, 3) := by decide +kernel
theorem dX12_shape_61 : decode cX12_shape 61 = .ok (.invokevirtual 447, 3) := by decide +kernel
theorem dX12_shape_64 : decode cX12_shape 64 = .ok (.ireturn, 1) := by decide +kernel
theorem dX12_nextEvent_0 : decode cX12_nextEvent 0 = .ok (.aload_n 0, 1) := by decide +kernel
theorem dX12_nextEvent_1 : decode cX12_nextEvent 1 = .ok (.invokevirtual 478, 3) := by decide +kernel
theorem dX12_nextEvent_4 : decode cX12_nextEvent 4 = .ok (.aload_n 0, 1) := by decide +kernel
theorem dX12_nextEvent_5 : decode cX12_nextEvent 5 = .ok (.getfield 402, 3) := by decide +kernel
theorem dX12_nextEvent_8 : decode cX12_nextEvent 8 = .ok (.if_icmp .ne 7, 3) := by decide +kernel
theorem dX12_nextEvent_11 : decode cX12_nextEvent 11 = .ok (.iconst (-1), 1) := by decide +kernel
theorem dX12_nextEvent_12 : decode cX12_nextEvent 12 = .ok (.goto 12, 3) := by decide +kernel
theorem dX12_nextEvent_15 : decode cX12_nextEvent 15 = .ok (.aload_n 0, 1) := by decide +kernel
theorem dX12_nextEvent_16 : decode cX12_nextEvent 16 = .ok (.getfield 72, 3) := by decide +kernel
theorem dX12_nextEvent_19 : decode cX12_nextEvent 19 = .ok (.aload_n 0, 1) := by decide +kernel
theorem dX12_nextEvent_20 : decode cX12_nextEvent 20 = .ok (.invokevirtual 478, 3) := by decide +kernel
theorem dX12_nextEvent_23 : decode cX12_nextEvent 23 = .ok (.iaload, 1) := by decide +kernel
theorem dX12_nextEvent_24 : decode cX12_nextEvent 24 = .ok (.ireturn, 1) := by decide +kernel
theorem dX12_isSwept_0 : decode cX12_isSwept 0 = .ok (.iload_n 1, 1) := by decide +kernel
theorem dX12_isSwept_1 : decode cX12_isSwept 1 = .ok (.iconst 0, 1) := by decide +kernel
theorem dX12_isSwept_2 : decode cX12_isSwept 2 = .ok (.bipush 60, 2) := by decide +kernel
theorem dX12_isSwept_4 : decode cX12_isSwept 4 = .ok (.invokestatic 398, 3) := by decide +kernel
theorem dX12_isSwept_7 : decode cX12_isSwept 7 = .ok (.ifCond .eq 22, 3) := by decide +kernel
theorem dX12_isSwept_10 : decode cX12_isSwept 10 = .ok (.aload_n 0, 1) := by decide +kernel
theorem dX12_isSwept_11 : decode cX12_isSwept 11 = .ok (.invokevirtual 512, 3) := by decide +kernel
theorem dX12_isSwept_14 : decode cX12_isSwept 14 = .ok (.ifCond .lt 11, 3) := by decide +kernel
theorem dX12_isSwept_17 : decode cX12_isSwept 17 = .ok (.iload_n 1, 1) := by decide +kernel
theorem dX12_isSwept_18 : decode cX12_isSwept 18 = .ok (.aload_n 0, 1) := by decide +kernel
theorem dX12_isSwept_19 : decode cX12_isSwept 19 = .ok (.invokevirtual 512, 3) := by decide +kernel
theorem dX12_isSwept_22 : decode cX12_isSwept 22 = .ok (.if_icmp .ge 7, 3) := by decide +kernel
theorem dX12_isSwept_25 : decode cX12_isSwept 25 = .ok (.iconst 1, 1) := by decide +kernel
theorem dX12_isSwept_26 : decode cX12_isSwept 26 = .ok (.goto 4, 3) := by decide +kernel
theorem dX12_isSwept_29 : decode cX12_isSwept 29 = .ok (.iconst 0, 1) := by decide +kernel
theorem dX12_isSwept_30 : decode cX12_isSwept 30 = .ok (.ireturn, 1) := by decide +kernel
theorem dX12_isPoint_0 : decode cX12_isPoint 0 = .ok (.aload_n 0, 1) := by decide +kernel
theorem dX12_isPoint_1 : decode cX12_isPoint 1 = .ok (.iload_n 1, 1) := by decide +kernel
theorem dX12_isPoint_2 : decode cX12_isPoint 2 = .ok (.invokevirtual 515, 3) := by decide +kernel
theorem dX12_isPoint_5 : decode cX12_isPoint 5 = .ok (.ifCond .eq 18, 3) := by decide +kernel
theorem dX12_isPoint_8 : decode cX12_isPoint 8 = .ok (.iload_n 2, 1) := by decide +kernel
theorem dX12_isPoint_9 : decode cX12_isPoint 9 = .ok (.bipush (-9), 2) := by decide +kernel
theorem dX12_isPoint_11 : decode cX12_isPoint 11 = .ok (.bipush 99, 2) := by decide +kernel
theorem dX12_isPoint_13 : decode cX12_isPoint 13 = .ok (.invokestatic 398, 3) := by decide +kernel
theorem dX12_isPoint_16 : decode cX12_isPoint 16 = .ok (.ifCond .eq 7, 3) := by decide +kernel
theorem dX12_isPoint_19 : decode cX12_isPoint 19 = .ok (.iconst 1, 1) := by decide +kernel
theorem dX12_isPoint_20 : decode cX12_isPoint 20 = .ok (.goto 4, 3) := by decide +kernel
theorem dX12_isPoint_23 : decode cX12_isPoint 23 = .ok (.iconst 0, 1) := by decide +kernel
theorem dX12_isPoint_24 : decode cX12_isPoint 24 = .ok (.ireturn, 1) := by decide +kernel
theorem dX12_stampAt_0 : decode cX12_stampAt 0 = .ok (.iconst 0, 1) := by decide +kernel
theorem dX12_stampAt_1 : decode cX12_stampAt 1 = .ok (.istore_n 2, 1) := by decide +kernel
theorem dX12_stampAt_2 : decode cX12_stampAt 2 = .ok (.iconst 0, 1) := by decide +kernel
theorem dX12_stampAt_3 : decode cX12_stampAt 3 = .ok (.istore_n 3, 1) := by decide +kernel
theorem dX12_stampAt_4 : decode cX12_stampAt 4 = .ok (.iload_n 3, 1) := by decide +kernel
theorem dX12_stampAt_5 : decode cX12_stampAt 5 = .ok (.aload_n 0, 1) := by decide +kernel
theorem dX12_stampAt_6 : decode cX12_stampAt 6 = .ok (.getfield 383, 3) := by decide +kernel
theorem dX12_stampAt_9 : decode cX12_stampAt 9 = .ok (.if_icmp .gt 24, 3) := by decide +kernel
theorem dX12_stampAt_12 : decode cX12_stampAt 12 = .ok (.aload_n 0, 1) := by decide +kernel
theorem dX12_stampAt_13 : decode cX12_stampAt 13 = .ok (.iload_n 3, 1) := by decide +kernel
theorem dX12_stampAt_14 : decode cX12_stampAt 14 = .ok (.invokevirtual 429, 3) := by decide +kernel
theorem dX12_stampAt_17 : decode cX12_stampAt 17 = .ok (.iload_n 1, 1) := by decide +kernel
theorem dX12_stampAt_18 : decode cX12_stampAt 18 = .ok (.if_icmp .gt 7, 3) := by decide +kernel
theorem dX12_stampAt_21 : decode cX12_stampAt 21 = .ok (.iload_n 3, 1) := by decide +kernel
theorem dX12_stampAt_22 : decode cX12_stampAt 22 = .ok (.goto 4, 3) := by decide +kernel
theorem dX12_stampAt_25 : decode cX12_stampAt 25 = .ok (.iload_n 2, 1) := by decide +kernel
theorem dX12_stampAt_26 : decode cX12_stampAt 26 = .ok (.istore_n 2, 1) := by decide +kernel
theorem dX12_stampAt_27 : decode cX12_stampAt 27 = .ok (.iinc 3 1, 3) := by decide +kernel
theorem dX12_stampAt_30 : decode cX12_stampAt 30 = .ok (.goto (-26), 3) := by decide +kernel
theorem dX12_stampAt_33 : decode cX12_stampAt 33 = .ok (.iload_n 2, 1) := by decide +kernel
theorem dX12_stampAt_34 : decode cX12_stampAt 34 = .ok (.ireturn, 1) := by decide +kernel
theorem dX12_belowOf_0 : decode cX12_belowOf 0 = .ok (.iconst (-1), 1) := by decide +kernel
theorem dX12_belowOf_1 : decode cX12_belowOf 1 = .ok (.istore 4, 2) := by decide +kernel
theorem dX12_belowOf_3 : decode cX12_belowOf 3 = .ok (.iconst 0, 1) := by decide +kernel
theorem dX12_belowOf_4 : decode cX12_belowOf 4 = .ok (.istore 5, 2) := by decide +kernel
theorem dX12_belowOf_6 : decode cX12_belowOf 6 = .ok (.iload 5, 2) := by decide +kernel
theorem dX12_belowOf_8 : decode cX12_belowOf 8 = .ok (.aload_n 0, 1) := by decide +kernel
theorem dX12_belowOf_9 : decode cX12_belowOf 9 = .ok (.getfield 371, 3) := by decide +kernel
theorem dX12_belowOf_12 : decode cX12_belowOf 12 = .ok (.if_icmp .ge 50, 3) := by decide +kernel
theorem dX12_belowOf_15 : decode cX12_belowOf 15 = .ok (.iload_n 1, 1) := by decide +kernel
theorem dX12_belowOf_16 : decode cX12_belowOf 16 = .ok (.iload 5, 2) := by decide +kernel
theorem dX12_belowOf_18 : decode cX12_belowOf 18 = .ok (.invokestatic 423, 3) := by decide +kernel
theorem dX12_belowOf_21 : decode cX12_belowOf 21 = .ok (.ifCond .eq 35, 3) := by decide +kernel
theorem dX12_belowOf_24 : decode cX12_belowOf 24 = .ok (.aload_n 0, 1) := by decide +kernel
theorem dX12_belowOf_25 : decode cX12_belowOf 25 = .ok (.iload 5, 2) := by decide +kernel
theorem dX12_belowOf_27 : decode cX12_belowOf 27 = .ok (.iload_n 2, 1) := by decide +kernel
theorem dX12_belowOf_28 : decode cX12_belowOf 28 = .ok (.iload_n 3, 1) := by decide +kernel
theorem dX12_belowOf_29 : decode cX12_belowOf 29 = .ok (.invokevirtual 405, 3) := by decide +kernel
theorem dX12_belowOf_32 : decode cX12_belowOf 32 = .ok (.ifCond .gt 24, 3) := by decide +kernel
theorem dX12_belowOf_35 : decode cX12_belowOf 35 = .ok (.iload 4, 2) := by decide +kernel
theorem dX12_belowOf_37 : decode cX12_belowOf 37 = .ok (.ifCond .lt 15, 3) := by decide +kernel
theorem dX12_belowOf_40 : decode cX12_belowOf 40 = .ok (.aload_n 0, 1) := by decide +kernel
theorem dX12_belowOf_41 : decode cX12_belowOf 41 = .ok (.iload 5, 2) := by decide +kernel
theorem dX12_belowOf_43 : decode cX12_belowOf 43 = .ok (.iload 4, 2) := by decide +kernel
theorem dX12_belowOf_45 : decode cX12_belowOf 45 = .ok (.iload_n 2, 1) := by decide +kernel
theorem dX12_belowOf_46 : decode cX12_belowOf 46 = .ok (.invokevirtual 414, 3) := by decide +kernel
theorem dX12_belowOf_49 : decode cX12_belowOf 49 = .ok (.ifCond .eq 7, 3) := by decide +kernel
theorem dX12_belowOf_52 : decode cX12_belowOf 52 = .ok (.iload 5, 2) := by decide +kernel
theorem dX12_belowOf_54 : decode cX12_belowOf 54 = .ok (.istore 4, 2) := by decide +kernel
theorem dX12_belowOf_56 : decode cX12_belowOf 56 = .ok (.iinc 5 1, 3) := by decide +kernel
theorem dX12_belowOf_59 : decode cX12_belowOf 59 = .ok (.goto (-53), 3) := by decide +kernel
theorem dX12_belowOf_62 : decode cX12_belowOf 62 = .ok (.iload 4, 2) := by decide +kernel
theorem dX12_belowOf_64 : decode cX12_belowOf 64 = .ok (.ireturn, 1) := by decide +kernel
theorem dX12_aboveOf_0 : decode cX12_aboveOf 0 = .ok (.iconst (-1), 1) := by decide +kernel
theorem dX12_aboveOf_1 : decode cX12_aboveOf 1 = .ok (.istore 4, 2) := by decide +kernel
theorem dX12_aboveOf_3 : decode cX12_aboveOf 3 = .ok (.iconst 0, 1) := by decide +kernel
theorem dX12_aboveOf_4 : decode cX12_aboveOf 4 = .ok (.istore 5, 2) := by decide +kernel
theorem dX12_aboveOf_6 : decode cX12_aboveOf 6 = .ok (.iload 5, 2) := by decide +kernel
theorem dX12_aboveOf_8 : decode cX12_aboveOf 8 = .ok (.aload_n 0, 1) := by decide +kernel
theorem dX12_aboveOf_9 : decode cX12_aboveOf 9 = .ok (.getfield 371, 3) := by decide +kernel
theorem dX12_aboveOf_12 : decode cX12_aboveOf 12 = .ok (.if_icmp .ge 50, 3) := by decide +kernel
theorem dX12_aboveOf_15 : decode cX12_aboveOf 15 = .ok (.iload_n 1, 1) := by decide +kernel
theorem dX12_aboveOf_16 : decode cX12_aboveOf 16 = .ok (.iload 5, 2) := by decide +kernel
theorem dX12_aboveOf_18 : decode cX12_aboveOf 18 = .ok (.invokestatic 423, 3) := by decide +kernel
theorem dX12_aboveOf_21 : decode cX12_aboveOf 21 = .ok (.ifCond .eq 35, 3) := by decide +kernel
theorem dX12_aboveOf_24 : decode cX12_aboveOf 24 = .ok (.aload_n 0, 1) := by decide +kernel
theorem dX12_aboveOf_25 : decode cX12_aboveOf 25 = .ok (.iload 5, 2) := by decide +kernel
theorem dX12_aboveOf_27 : decode cX12_aboveOf 27 = .ok (.iload_n 2, 1) := by decide +kernel
theorem dX12_aboveOf_28 : decode cX12_aboveOf 28 = .ok (.iload_n 3, 1) := by decide +kernel
theorem dX12_aboveOf_29 : decode cX12_aboveOf 29 = .ok (.invokevirtual 405, 3) := by decide +kernel
theorem dX12_aboveOf_32 : decode cX12_aboveOf 32 = .ok (.ifCond .le 24, 3) := by decide +kernel
theorem dX12_aboveOf_35 : decode cX12_aboveOf 35 = .ok (.iload 4, 2) := by decide +kernel
theorem dX12_aboveOf_37 : decode cX12_aboveOf 37 = .ok (.ifCond .lt 15, 3) := by decide +kernel
theorem dX12_aboveOf_40 : decode cX12_aboveOf 40 = .ok (.aload_n 0, 1) := by decide +kernel
theorem dX12_aboveOf_41 : decode cX12_aboveOf 41 = .ok (.iload 4, 2) := by decide +kernel
theorem dX12_aboveOf_43 : decode cX12_aboveOf 43 = .ok (.iload 5, 2) := by decide +kernel
theorem dX12_aboveOf_45 : decode cX12_aboveOf 45 = .ok (.iload_n 2, 1) := by decide +kernel
theorem dX12_aboveOf_46 : decode cX12_aboveOf 46 = .ok (.invokevirtual 414, 3) := by decide +kernel
theorem dX12_aboveOf_49 : decode cX12_aboveOf 49 = .ok (.ifCond .eq 7, 3) := by decide +kernel
theorem dX12_aboveOf_52 : decode cX12_aboveOf 52 = .ok (.iload 5, 2) := by decide +kernel
theorem dX12_aboveOf_54 : decode cX12_aboveOf 54 = .ok (.istore 4, 2) := by decide +kernel
theorem dX12_aboveOf_56 : decode cX12_aboveOf 56 = .ok (.iinc 5 1, 3) := by decide +kernel
theorem dX12_aboveOf_59 : decode cX12_aboveOf 59 = .ok (.goto (-53), 3) := by decide +kernel
theorem dX12_aboveOf_62 : decode cX12_aboveOf 62 = .ok (.iload 4, 2) := by decide +kernel
theorem dX12_aboveOf_64 : decode cX12_aboveOf 64 = .ok (.ireturn, 1) := by decide +kernel
theorem dX12_regionOf_0 : decode cX12_regionOf 0 = .ok (.aload_n 0, 1) := by decide +kernel
theorem dX12_regionOf_1 : decode cX12_regionOf 1 = .ok (.aload_n 0, 1) := by decide +kernel
theorem dX12_regionOf_2 : decode cX12_regionOf 2 = .ok (.aload_n 0, 1) := by decide +kernel
theorem dX12_regionOf_3 : decode cX12_regionOf 3 = .ok (.iload_n 1, 1) := by decide +kernel
theorem dX12_regionOf_4 : decode cX12_regionOf 4 = .ok (.invokevirtual 518, 3) := by decide +kernel
theorem dX12_regionOf_7 : decode cX12_regionOf 7 = .ok (.invokevirtual 420, 3) := by decide +kernel
theorem dX12_regionOf_10 : decode cX12_regionOf 10 = .ok (.iload_n 1, 1) := by decide +kernel
theorem dX12_regionOf_11 : decode cX12_regionOf 11 = .ok (.iload_n 2, 1) := by decide +kernel
theorem dX12_regionOf_12 : decode cX12_regionOf 12 = .ok (.invokevirtual 521, 3) := by decide +kernel
theorem dX12_regionOf_15 : decode cX12_regionOf 15 = .ok (.ireturn, 1) := by decide +kernel
theorem dX12_overOf_0 : decode cX12_overOf 0 = .ok (.aload_n 0, 1) := by decide +kernel
theorem dX12_overOf_1 : decode cX12_overOf 1 = .ok (.aload_n 0, 1) := by decide +kernel
theorem dX12_overOf_2 : decode cX12_overOf 2 = .ok (.aload_n 0, 1) := by decide +kernel
theorem dX12_overOf_3 : decode cX12_overOf 3 = .ok (.iload_n 1, 1) := by decide +kernel
theorem dX12_overOf_4 : decode cX12_overOf 4 = .ok (.invokevirtual 518, 3) := by decide +kernel
theorem dX12_overOf_7 : decode cX12_overOf 7 = .ok (.invokevirtual 420, 3) := by decide +kernel
theorem dX12_overOf_10 : decode cX12_overOf 10 = .ok (.iload_n 1, 1) := by decide +kernel
theorem dX12_overOf_11 : decode cX12_overOf 11 = .ok (.iload_n 2, 1) := by decide +kernel
theorem dX12_overOf_12 : decode cX12_overOf 12 = .ok (.invokevirtual 524, 3) := by decide +kernel
theorem dX12_overOf_15 : decode cX12_overOf 15 = .ok (.ireturn, 1) := by decide +kernel
theorem dX12_below_0 : decode cX12_below 0 = .ok (.aload_n 0, 1) := by decide +kernel
theorem dX12_below_1 : decode cX12_below 1 = .ok (.iload_n 1, 1) := by decide +kernel
theorem dX12_below_2 : decode cX12_below 2 = .ok (.iload_n 2, 1) := by decide +kernel
theorem dX12_below_3 : decode cX12_below 3 = .ok (.invokevirtual 527, 3) := by decide +kernel
theorem dX12_below_6 : decode cX12_below 6 = .ok (.ifCond .eq 12, 3) := by decide +kernel
theorem dX12_below_9 : decode cX12_below 9 = .ok (.aload_n 0, 1) := by decide +kernel
theorem dX12_below_10 : decode cX12_below 10 = .ok (.iload_n 1, 1) := by decide +kernel
theorem dX12_below_11 : decode cX12_below 11 = .ok (.iload_n 2, 1) := by decide +kernel
theorem dX12_below_12 : decode cX12_below 12 = .ok (.invokevirtual 530, 3) := by decide +kernel
theorem dX12_below_15 : decode cX12_below 15 = .ok (.goto 5, 3) := by decide +kernel
theorem dX12_below_18 : decode cX12_below 18 = .ok (.bipush (-2), 2) := by decide +kernel
theorem dX12_below_20 : decode cX12_below 20 = .ok (.ireturn, 1) := by decide +kernel
theorem dX12_above_0 : decode cX12_above 0 = .ok (.aload_n 0, 1) := by decide +kernel
theorem dX12_above_1 : decode cX12_above 1 = .ok (.iload_n 1, 1) := by decide +kernel
theorem dX12_above_2 : decode cX12_above 2 = .ok (.iload_n 2, 1) := by decide +kernel
theorem dX12_above_3 : decode cX12_above 3 = .ok (.invokevirtual 527, 3) := by decide +kernel
theorem dX12_above_6 : decode cX12_above 6 = .ok (.ifCond .eq 12, 3) := by decide +kernel
theorem dX12_above_9 : decode cX12_above 9 = .ok (.aload_n 0, 1) := by decide +kernel
theorem dX12_above_10 : decode cX12_above 10 = .ok (.iload_n 1, 1) := by decide +kernel
theorem dX12_above_11 : decode cX12_above 11 = .ok (.iload_n 2, 1) := by decide +kernel
theorem dX12_above_12 : decode cX12_above 12 = .ok (.invokevirtual 533, 3) := by decide +kernel
theorem dX12_above_15 : decode cX12_above 15 = .ok (.goto 5, 3) := by decide +kernel
theorem dX12_above_18 : decode cX12_above 18 = .ok (.bipush (-2), 2) := by decide +kernel
theorem dX12_above_20 : decode cX12_above 20 = .ok (.ireturn, 1) := by decide +kernel
theorem dX12_on_0 : decode cX12_on 0 = .ok (.aload_n 0, 1) := by decide +kernel
theorem dX12_on_1 : decode cX12_on 1 = .ok (.iload_n 1, 1) := by decide +kernel
theorem dX12_on_2 : decode cX12_on 2 = .ok (.iload_n 2, 1) := by decide +kernel
theorem dX12_on_3 : decode cX12_on 3 = .ok (.invokevirtual 527, 3) := by decide +kernel
theorem dX12_on_6 : decode cX12_on 6 = .ok (.ifCond .ne 6, 3) := by decide +kernel
theorem dX12_on_9 : decode cX12_on 9 = .ok (.bipush (-2), 2) := by decide +kernel
theorem dX12_on_11 : decode cX12_on 11 = .ok (.ireturn, 1) := by decide +kernel
theorem dX12_on_12 : decode cX12_on 12 = .ok (.aload_n 0, 1) := by decide +kernel
theorem dX12_on_13 : decode cX12_on 13 = .ok (.iload_n 1, 1) := by decide +kernel
theorem dX12_on_14 : decode cX12_on 14 = .ok (.iload_n 2, 1) := by decide +kernel
theorem dX12_on_15 : decode cX12_on 15 = .ok (.invokevirtual 530, 3) := by decide +kernel
theorem dX12_on_18 : decode cX12_on 18 = .ok (.istore_n 3, 1) := by decide +kernel
theorem dX12_on_19 : decode cX12_on 19 = .ok (.iload_n 3, 1) := by decide +kernel
theorem dX12_on_20 : decode cX12_on 20 = .ok (.ifCond .lt 17, 3) := by decide +kernel
theorem dX12_on_23 : decode cX12_on 23 = .ok (.aload_n 0, 1) := by decide +kernel
theorem dX12_on_24 : decode cX12_on 24 = .ok (.iload_n 3, 1) := by decide +kernel
theorem dX12_on_25 : decode cX12_on 25 = .ok (.iload_n 1, 1) := by decide +kernel
theorem dX12_on_26 : decode cX12_on 26 = .ok (.iload_n 2, 1) := by decide +kernel
theorem dX12_on_27 : decode cX12_on 27 = .ok (.invokevirtual 405, 3) := by decide +kernel
theorem dX12_on_30 : decode cX12_on 30 = .ok (.ifCond .ne 7, 3) := by decide +kernel
theorem dX12_on_33 : decode cX12_on 33 = .ok (.iconst 1, 1) := by decide +kernel
theorem dX12_on_34 : decode cX12_on 34 = .ok (.goto 4, 3) := by decide +kernel
theorem dX12_on_37 : decode cX12_on 37 = .ok (.iconst 0, 1) := by decide +kernel
theorem dX12_on_38 : decode cX12_on 38 = .ok (.invokestatic 304, 3) := by decide +kernel
theorem dX12_on_41 : decode cX12_on 41 = .ok (.ireturn, 1) := by decide +kernel
theorem dX12_depth_0 : decode cX12_depth 0 = .ok (.aload_n 0, 1) := by decide +kernel
theorem dX12_depth_1 : decode cX12_depth 1 = .ok (.iconst 0, 1) := by decide +kernel
theorem dX12_depth_2 : decode cX12_depth 2 = .ok (.putfield 395, 3) := by decide +kernel
theorem dX12_depth_5 : decode cX12_depth 5 = .ok (.aload_n 0, 1) := by decide +kernel
theorem dX12_depth_6 : decode cX12_depth 6 = .ok (.iload_n 1, 1) := by decide +kernel
theorem dX12_depth_7 : decode cX12_depth 7 = .ok (.iload_n 2, 1) := by decide +kernel
theorem dX12_depth_8 : decode cX12_depth 8 = .ok (.invokevirtual 527, 3) := by decide +kernel
theorem dX12_depth_11 : decode cX12_depth 11 = .ok (.ifCond .ne 6, 3) := by decide +kernel
theorem dX12_depth_14 : decode cX12_depth 14 = .ok (.bipush (-2), 2) := by decide +kernel
theorem dX12_depth_16 : decode cX12_depth 16 = .ok (.ireturn, 1) := by decide +kernel
theorem dX12_depth_17 : decode cX12_depth 17 = .ok (.aload_n 0, 1) := by decide +kernel
theorem dX12_depth_18 : decode cX12_depth 18 = .ok (.aload_n 0, 1) := by decide +kernel
theorem dX12_depth_19 : decode cX12_depth 19 = .ok (.iload_n 1, 1) := by decide +kernel
theorem dX12_depth_20 : decode cX12_depth 20 = .ok (.invokevirtual 518, 3) := by decide +kernel
theorem dX12_depth_23 : decode cX12_depth 23 = .ok (.invokevirtual 450, 3) := by decide +kernel
theorem dX12_depth_26 : decode cX12_depth 26 = .ok (.aload_n 0, 1) := by decide +kernel
theorem dX12_depth_27 : decode cX12_depth 27 = .ok (.getfield 438, 3) := by decide +kernel
theorem dX12_depth_30 : decode cX12_depth 30 = .ok (.istore_n 3, 1) := by decide +kernel
theorem dX12_depth_31 : decode cX12_depth 31 = .ok (.iload_n 3, 1) := by decide +kernel
theorem dX12_depth_32 : decode cX12_depth 32 = .ok (.ifCond .lt 52, 3) := by decide +kernel
theorem dX12_depth_35 : decode cX12_depth 35 = .ok (.aload_n 0, 1) := by decide +kernel
theorem dX12_depth_36 : decode cX12_depth 36 = .ok (.getfield 105, 3) := by decide +kernel
theorem dX12_depth_39 : decode cX12_depth 39 = .ok (.aload_n 0, 1) := by decide +kernel
theorem dX12_depth_40 : decode cX12_depth 40 = .ok (.getfield 395, 3) := by decide +kernel
theorem dX12_depth_43 : decode cX12_depth 43 = .ok (.iload_n 3, 1) := by decide +kernel
theorem dX12_depth_44 : decode cX12_depth 44 = .ok (.iastore, 1) := by decide +kernel
theorem dX12_depth_45 : decode cX12_depth 45 = .ok (.aload_n 0, 1) := by decide +kernel
theorem dX12_depth_46 : decode cX12_depth 46 = .ok (.dup, 1) := by decide +kernel
theorem dX12_depth_47 : decode cX12_depth 47 = .ok (.getfield 395, 3) := by decide +kernel
theorem dX12_depth_50 : decode cX12_depth 50 = .ok (.iconst 1, 1) := by decide +kernel
theorem dX12_depth_51 : decode cX12_depth 51 = .ok (.iadd, 1) := by decide +kernel
theorem dX12_depth_52 : decode cX12_depth 52 = .ok (.putfield 395, 3) := by decide +kernel
theorem dX12_depth_55 : decode cX12_depth 55 = .ok (.aload_n 0, 1) := by decide +kernel
theorem dX12_depth_56 : decode cX12_depth 56 = .ok (.iload_n 3, 1) := by decide +kernel
theorem dX12_depth_57 : decode cX12_depth 57 = .ok (.iload_n 1, 1) := by decide +kernel
theorem dX12_depth_58 : decode cX12_depth 58 = .ok (.iload_n 2, 1) := by decide +kernel
theorem dX12_depth_59 : decode cX12_depth 59 = .ok (.invokevirtual 405, 3) := by decide +kernel
theorem dX12_depth_62 : decode cX12_depth 62 = .ok (.ifCond .le 12, 3) := by decide +kernel
theorem dX12_depth_65 : decode cX12_depth 65 = .ok (.aload_n 0, 1) := by decide +kernel
theorem dX12_depth_66 : decode cX12_depth 66 = .ok (.getfield 81, 3) := by decide +kernel
theorem dX12_depth_69 : decode cX12_depth 69 = .ok (.iload_n 3, 1) := by decide +kernel
theorem dX12_depth_70 : decode cX12_depth 70 = .ok (.iaload, 1) := by decide +kernel
theorem dX12_depth_71 : decode cX12_depth 71 = .ok (.goto 9, 3) := by decide +kernel
theorem dX12_depth_74 : decode cX12_depth 74 = .ok (.aload_n 0, 1) := by decide +kernel
theorem dX12_depth_75 : decode cX12_depth 75 = .ok (.getfield 84, 3) := by decide +kernel
theorem dX12_depth_78 : decode cX12_depth 78 = .ok (.iload_n 3, 1) := by decide +kernel
theorem dX12_depth_79 : decode cX12_depth 79 = .ok (.iaload, 1) := by decide +kernel
theorem dX12_depth_80 : decode cX12_depth 80 = .ok (.istore_n 3, 1) := by decide +kernel
theorem dX12_depth_81 : decode cX12_depth 81 = .ok (.goto (-50), 3) := by decide +kernel
theorem dX12_depth_84 : decode cX12_depth 84 = .ok (.aload_n 0, 1) := by decide +kernel
theorem dX12_depth_85 : decode cX12_depth 85 = .ok (.getfield 395, 3) := by decide +kernel
theorem dX12_depth_88 : decode cX12_depth 88 = .ok (.ireturn, 1) := by decide +kernel
theorem dX12_divisor_0 : decode cX12_divisor 0 = .ok (.iload_n 0, 1) := by decide +kernel
theorem dX12_divisor_1 : decode cX12_divisor 1 = .ok (.ifCond .ge 8, 3) := by decide +kernel
theorem dX12_divisor_4 : decode cX12_divisor 4 = .ok (.iload_n 0, 1) := by decide +kernel
theorem dX12_divisor_5 : decode cX12_divisor 5 = .ok (.ineg, 1) := by decide +kernel
theorem dX12_divisor_6 : decode cX12_divisor 6 = .ok (.goto 4, 3) := by decide +kernel
theorem dX12_divisor_9 : decode cX12_divisor 9 = .ok (.iload_n 0, 1) := by decide +kernel
theorem dX12_divisor_10 : decode cX12_divisor 10 = .ok (.istore_n 2, 1) := by decide +kernel
theorem dX12_divisor_11 : decode cX12_divisor 11 = .ok (.iload_n 1, 1) := by decide +kernel
theorem dX12_divisor_12 : decode cX12_divisor 12 = .ok (.ifCond .ge 8, 3) := by decide +kernel
theorem dX12_divisor_15 : decode cX12_divisor 15 = .ok (.iload_n 1, 1) := by decide +kernel
theorem dX12_divisor_16 : decode cX12_divisor 16 = .ok (.ineg, 1) := by decide +kernel
theorem dX12_divisor_17 : decode cX12_divisor 17 = .ok (.goto 4, 3) := by decide +kernel
theorem dX12_divisor_20 : decode cX12_divisor 20 = .ok (.iload_n 1, 1) := by decide +kernel
theorem dX12_divisor_21 : decode cX12_divisor 21 = .ok (.istore_n 3, 1) := by decide +kernel
theorem dX12_divisor_22 : decode cX12_divisor 22 = .ok (.iload_n 3, 1) := by decide +kernel
theorem dX12_divisor_23 : decode cX12_divisor 23 = .ok (.ifCond .le 16, 3) := by decide +kernel
theorem dX12_divisor_26 : decode cX12_divisor 26 = .ok (.iload_n 2, 1) := by decide +kernel
theorem dX12_divisor_27 : decode cX12_divisor 27 = .ok (.iload_n 3, 1) := by decide +kernel
theorem dX12_divisor_28 : decode cX12_divisor 28 = .ok (.irem, 1) := by decide +kernel
theorem dX12_divisor_29 : decode cX12_divisor 29 = .ok (.istore 4, 2) := by decide +kernel
theorem dX12_divisor_31 : decode cX12_divisor 31 = .ok (.iload_n 3, 1) := by decide +kernel
theorem dX12_divisor_32 : decode cX12_divisor 32 = .ok (.istore_n 2, 1) := by decide +kernel
theorem dX12_divisor_33 : decode cX12_divisor 33 = .ok (.iload 4, 2) := by decide +kernel
theorem dX12_divisor_35 : decode cX12_divisor 35 = .ok (.istore_n 3, 1) := by decide +kernel
theorem dX12_divisor_36 : decode cX12_divisor 36 = .ok (.goto (-14), 3) := by decide +kernel
theorem dX12_divisor_39 : decode cX12_divisor 39 = .ok (.iload_n 2, 1) := by decide +kernel
theorem dX12_divisor_40 : decode cX12_divisor 40 = .ok (.ireturn, 1) := by decide +kernel
theorem dX12_gap_0 : decode cX12_gap 0 = .ok (.aload_n 0, 1) := by decide +kernel
theorem dX12_gap_1 : decode cX12_gap 1 = .ok (.iload_n 1, 1) := by decide +kernel
theorem dX12_gap_2 : decode cX12_gap 2 = .ok (.iload_n 2, 1) := by decide +kernel
theorem dX12_gap_3 : decode cX12_gap 3 = .ok (.invokevirtual 527, 3) := by decide +kernel
theorem dX12_gap_6 : decode cX12_gap 6 = .ok (.ifCond .eq 12, 3) := by decide +kernel
theorem dX12_gap_9 : decode cX12_gap 9 = .ok (.iload_n 3, 1) := by decide +kernel
theorem dX12_gap_10 : decode cX12_gap 10 = .ok (.iconst 0, 1) := by decide +kernel
theorem dX12_gap_11 : decode cX12_gap 11 = .ok (.iconst 3, 1) := by decide +kernel
theorem dX12_gap_12 : decode cX12_gap 12 = .ok (.invokestatic 398, 3) := by decide +kernel
theorem dX12_gap_15 : decode cX12_gap 15 = .ok (.ifCond .ne 5, 3) := by decide +kernel
theorem dX12_gap_18 : decode cX12_gap 18 = .ok (.iconst (-1), 1) := by decide +kernel
theorem dX12_gap_19 : decode cX12_gap 19 = .ok (.ireturn, 1) := by decide +kernel
theorem dX12_gap_20 : decode cX12_gap 20 = .ok (.iload_n 3, 1) := by decide +kernel
theorem dX12_gap_21 : decode cX12_gap 21 = .ok (.iconst 2, 1) := by decide +kernel
theorem dX12_gap_22 : decode cX12_gap 22 = .ok (.if_icmp .ge 12, 3) := by decide +kernel
theorem dX12_gap_25 : decode cX12_gap 25 = .ok (.aload_n 0, 1) := by decide +kernel
theorem dX12_gap_26 : decode cX12_gap 26 = .ok (.iload_n 1, 1) := by decide +kernel
theorem dX12_gap_27 : decode cX12_gap 27 = .ok (.iload_n 2, 1) := by decide +kernel
theorem dX12_gap_28 : decode cX12_gap 28 = .ok (.invokevirtual 530, 3) := by decide +kernel
theorem dX12_gap_31 : decode cX12_gap 31 = .ok (.goto 9, 3) := by decide +kernel
theorem dX12_gap_34 : decode cX12_gap 34 = .ok (.aload_n 0, 1) := by decide +kernel
theorem dX12_gap_35 : decode cX12_gap 35 = .ok (.iload_n 1, 1) := by decide +kernel
theorem dX12_gap_36 : decode cX12_gap 36 = .ok (.iload_n 2, 1) := by decide +kernel
theorem dX12_gap_37 : decode cX12_gap 37 = .ok (.invokevirtual 533, 3) := by decide +kernel
theorem dX12_gap_40 : decode cX12_gap 40 = .ok (.istore 4, 2) := by decide +kernel
theorem dX12_gap_42 : decode cX12_gap 42 = .ok (.iload 4, 2) := by decide +kernel
theorem dX12_gap_44 : decode cX12_gap 44 = .ok (.ifCond .ge 5, 3) := by decide +kernel
theorem dX12_gap_47 : decode cX12_gap 47 = .ok (.iconst (-1), 1) := by decide +kernel
theorem dX12_gap_48 : decode cX12_gap 48 = .ok (.ireturn, 1) := by decide +kernel
theorem dX12_gap_49 : decode cX12_gap 49 = .ok (.aload_n 0, 1) := by decide +kernel
theorem dX12_gap_50 : decode cX12_gap 50 = .ok (.iload 4, 2) := by decide +kernel
theorem dX12_gap_52 : decode cX12_gap 52 = .ok (.iload_n 1, 1) := by decide +kernel
theorem dX12_gap_53 : decode cX12_gap 53 = .ok (.iload_n 2, 1) := by decide +kernel
theorem dX12_gap_54 : decode cX12_gap 54 = .ok (.invokevirtual 405, 3) := by decide +kernel
theorem dX12_gap_57 : decode cX12_gap 57 = .ok (.istore 5, 2) := by decide +kernel
theorem dX12_gap_59 : decode cX12_gap 59 = .ok (.iload 5, 2) := by decide +kernel
theorem dX12_gap_61 : decode cX12_gap 61 = .ok (.ifCond .ge 9, 3) := by decide +kernel
theorem dX12_gap_64 : decode cX12_gap 64 = .ok (.iload 5, 2) := by decide +kernel
theorem dX12_gap_66 : decode cX12_gap 66 = .ok (.ineg, 1) := by decide +kernel
theorem dX12_gap_67 : decode cX12_gap 67 = .ok (.goto 5, 3) := by decide +kernel
theorem dX12_gap_70 : decode cX12_gap 70 = .ok (.iload 5, 2) := by decide +kernel
theorem dX12_gap_72 : decode cX12_gap 72 = .ok (.istore 6, 2) := by decide +kernel
theorem dX12_gap_74 : decode cX12_gap 74 = .ok (.aload_n 0, 1) := by decide +kernel
theorem dX12_gap_75 : decode cX12_gap 75 = .ok (.getfield 60, 3) := by decide +kernel
theorem dX12_gap_78 : decode cX12_gap 78 = .ok (.iload 4, 2) := by decide +kernel
theorem dX12_gap_80 : decode cX12_gap 80 = .ok (.iaload, 1) := by decide +kernel
theorem dX12_gap_81 : decode cX12_gap 81 = .ok (.aload_n 0, 1) := by decide +kernel
theorem dX12_gap_82 : decode cX12_gap 82 = .ok (.getfield 54, 3) := by decide +kernel
theorem dX12_gap_85 : decode cX12_gap 85 = .ok (.iload 4, 2) := by decide +kernel
theorem dX12_gap_87 : decode cX12_gap 87 = .ok (.iaload, 1) := by decide +kernel
theorem dX12_gap_88 : decode cX12_gap 88 = .ok (.isub, 1) := by decide +kernel
theorem dX12_gap_89 : decode cX12_gap 89 = .ok (.istore 7, 2) := by decide +kernel
theorem dX12_gap_91 : decode cX12_gap 91 = .ok (.iload 7, 2) := by decide +kernel
theorem dX12_gap_93 : decode cX12_gap 93 = .ok (.iload 6, 2) := by decide +kernel
theorem dX12_gap_95 : decode cX12_gap 95 = .ok (.invokestatic 536, 3) := by decide +kernel
theorem dX12_gap_98 : decode cX12_gap 98 = .ok (.istore 8, 2) := by decide +kernel
theorem dX12_gap_100 : decode cX12_gap 100 = .ok (.iload_n 3, 1) := by decide +kernel
theorem dX12_gap_101 : decode cX12_gap 101 = .ok (.iconst 2, 1) := by decide +kernel
theorem dX12_gap_102 : decode cX12_gap 102 = .ok (.irem, 1) := by decide +kernel
theorem dX12_gap_103 : decode cX12_gap 103 = .ok (.ifCond .ne 11, 3) := by decide +kernel
theorem dX12_gap_106 : decode cX12_gap 106 = .ok (.iload 6, 2) := by decide +kernel
theorem dX12_gap_108 : decode cX12_gap 108 = .ok (.iload 8, 2) := by decide +kernel
theorem dX12_gap_110 : decode cX12_gap 110 = .ok (.idiv, 1) := by decide +kernel
theorem dX12_gap_111 : decode cX12_gap 111 = .ok (.goto 8, 3) := by decide +kernel
theorem dX12_gap_114 : decode cX12_gap 114 = .ok (.iload 7, 2) := by decide +kernel
theorem dX12_gap_116 : decode cX12_gap 116 = .ok (.iload 8, 2) := by decide +kernel
theorem dX12_gap_118 : decode cX12_gap 118 = .ok (.idiv, 1) := by decide +kernel
theorem dX12_gap_119 : decode cX12_gap 119 = .ok (.ireturn, 1) := by decide +kernel
theorem dX12_crossedAt_0 : decode cX12_crossedAt 0 = .ok (.aload_n 0, 1) := by decide +kernel
theorem dX12_crossedAt_1 : decode cX12_crossedAt 1 = .ok (.aload_n 0, 1) := by decide +kernel
theorem dX12_crossedAt_2 : decode cX12_crossedAt 2 = .ok (.iload_n 1, 1) := by decide +kernel
theorem dX12_crossedAt_3 : decode cX12_crossedAt 3 = .ok (.invokevirtual 518, 3) := by decide +kernel
theorem dX12_crossedAt_6 : decode cX12_crossedAt 6 = .ok (.invokevirtual 420, 3) := by decide +kernel
theorem dX12_crossedAt_9 : decode cX12_crossedAt 9 = .ok (.istore_n 3, 1) := by decide +kernel
theorem dX12_crossedAt_10 : decode cX12_crossedAt 10 = .ok (.iconst 0, 1) := by decide +kernel
theorem dX12_crossedAt_11 : decode cX12_crossedAt 11 = .ok (.istore 4, 2) := by decide +kernel
theorem dX12_crossedAt_13 : decode cX12_crossedAt 13 = .ok (.iconst 0, 1) := by decide +kernel
theorem dX12_crossedAt_14 : decode cX12_crossedAt 14 = .ok (.istore 5, 2) := by decide +kernel
theorem dX12_crossedAt_16 : decode cX12_crossedAt 16 = .ok (.iload 5, 2) := by decide +kernel
theorem dX12_crossedAt_18 : decode cX12_crossedAt 18 = .ok (.aload_n 0, 1) := by decide +kernel
theorem dX12_crossedAt_19 : decode cX12_crossedAt 19 = .ok (.getfield 371, 3) := by decide +kernel
theorem dX12_crossedAt_22 : decode cX12_crossedAt 22 = .ok (.if_icmp .ge 42, 3) := by decide +kernel
theorem dX12_crossedAt_25 : decode cX12_crossedAt 25 = .ok (.iload 4, 2) := by decide +kernel
theorem dX12_crossedAt_27 : decode cX12_crossedAt 27 = .ok (.iload_n 3, 1) := by decide +kernel
theorem dX12_crossedAt_28 : decode cX12_crossedAt 28 = .ok (.iload 5, 2) := by decide +kernel
theorem dX12_crossedAt_30 : decode cX12_crossedAt 30 = .ok (.invokestatic 423, 3) := by decide +kernel
theorem dX12_crossedAt_33 : decode cX12_crossedAt 33 = .ok (.ifCond .eq 18, 3) := by decide +kernel
theorem dX12_crossedAt_36 : decode cX12_crossedAt 36 = .ok (.aload_n 0, 1) := by decide +kernel
theorem dX12_crossedAt_37 : decode cX12_crossedAt 37 = .ok (.iload 5, 2) := by decide +kernel
theorem dX12_crossedAt_39 : decode cX12_crossedAt 39 = .ok (.iload_n 1, 1) := by decide +kernel
theorem dX12_crossedAt_40 : decode cX12_crossedAt 40 = .ok (.iload_n 2, 1) := by decide +kernel
theorem dX12_crossedAt_41 : decode cX12_crossedAt 41 = .ok (.invokevirtual 405, 3) := by decide +kernel
theorem dX12_crossedAt_44 : decode cX12_crossedAt 44 = .ok (.ifCond .le 7, 3) := by decide +kernel
theorem dX12_crossedAt_47 : decode cX12_crossedAt 47 = .ok (.iconst 1, 1) := by decide +kernel
theorem dX12_crossedAt_48 : decode cX12_crossedAt 48 = .ok (.goto 4, 3) := by decide +kernel
theorem dX12_crossedAt_51 : decode cX12_crossedAt 51 = .ok (.iconst 0, 1) := by decide +kernel
theorem dX12_crossedAt_52 : decode cX12_crossedAt 52 = .ok (.invokestatic 304, 3) := by decide +kernel
theorem dX12_crossedAt_55 : decode cX12_crossedAt 55 = .ok (.iadd, 1) := by decide +kernel
theorem dX12_crossedAt_56 : decode cX12_crossedAt 56 = .ok (.istore 4, 2) := by decide +kernel
theorem dX12_crossedAt_58 : decode cX12_crossedAt 58 = .ok (.iinc 5 1, 3) := by decide +kernel
theorem dX12_crossedAt_61 : decode cX12_crossedAt 61 = .ok (.goto (-45), 3) := by decide +kernel
theorem dX12_crossedAt_64 : decode cX12_crossedAt 64 = .ok (.iload 4, 2) := by decide +kernel
theorem dX12_crossedAt_66 : decode cX12_crossedAt 66 = .ok (.ireturn, 1) := by decide +kernel
theorem dX12_crossed_0 : decode cX12_crossed 0 = .ok (.aload_n 0, 1) := by decide +kernel
theorem dX12_crossed_1 : decode cX12_crossed 1 = .ok (.iload_n 1, 1) := by decide +kernel
theorem dX12_crossed_2 : decode cX12_crossed 2 = .ok (.iload_n 2, 1) := by decide +kernel
theorem dX12_crossed_3 : decode cX12_crossed 3 = .ok (.invokevirtual 527, 3) := by decide +kernel
theorem dX12_crossed_6 : decode cX12_crossed 6 = .ok (.ifCond .eq 12, 3) := by decide +kernel
theorem dX12_crossed_9 : decode cX12_crossed 9 = .ok (.aload_n 0, 1) := by decide +kernel
theorem dX12_crossed_10 : decode cX12_crossed 10 = .ok (.iload_n 1, 1) := by decide +kernel
theorem dX12_crossed_11 : decode cX12_crossed 11 = .ok (.iload_n 2, 1) := by decide +kernel
theorem dX12_crossed_12 : decode cX12_crossed 12 = .ok (.invokevirtual 539, 3) := by decide +kernel
theorem dX12_crossed_15 : decode cX12_crossed 15 = .ok (.goto 5, 3) := by decide +kernel
theorem dX12_crossed_18 : decode cX12_crossed 18 = .ok (.bipush (-2), 2) := by decide +kernel
theorem dX12_crossed_20 : decode cX12_crossed 20 = .ok (.ireturn, 1) := by decide +kernel
theorem dX12_same_0 : decode cX12_same 0 = .ok (.aload_n 0, 1) := by decide +kernel
theorem dX12_same_1 : decode cX12_same 1 = .ok (.iload_n 1, 1) := by decide +kernel
theorem dX12_same_2 : decode cX12_same 2 = .ok (.iload_n 2, 1) := by decide +kernel
theorem dX12_same_3 : decode cX12_same 3 = .ok (.invokevirtual 527, 3) := by decide +kernel
theorem dX12_same_6 : decode cX12_same 6 = .ok (.ifCond .eq 40, 3) := by decide +kernel
theorem dX12_same_9 : decode cX12_same 9 = .ok (.aload_n 0, 1) := by decide +kernel
theorem dX12_same_10 : decode cX12_same 10 = .ok (.iload_n 3, 1) := by decide +kernel
theorem dX12_same_11 : decode cX12_same 11 = .ok (.iload 4, 2) := by decide +kernel
theorem dX12_same_13 : decode cX12_same 13 = .ok (.invokevirtual 527, 3) := by decide +kernel
theorem dX12_same_16 : decode cX12_same 16 = .ok (.ifCond .eq 30, 3) := by decide +kernel
theorem dX12_same_19 : decode cX12_same 19 = .ok (.aload_n 0, 1) := by decide +kernel
theorem dX12_same_20 : decode cX12_same 20 = .ok (.iload_n 1, 1) := by decide +kernel
theorem dX12_same_21 : decode cX12_same 21 = .ok (.iload_n 2, 1) := by decide +kernel
theorem dX12_same_22 : decode cX12_same 22 = .ok (.invokevirtual 530, 3) := by decide +kernel
theorem dX12_same_25 : decode cX12_same 25 = .ok (.aload_n 0, 1) := by decide +kernel
theorem dX12_same_26 : decode cX12_same 26 = .ok (.iload_n 3, 1) := by decide +kernel
theorem dX12_same_27 : decode cX12_same 27 = .ok (.iload 4, 2) := by decide +kernel
theorem dX12_same_29 : decode cX12_same 29 = .ok (.invokevirtual 530, 3) := by decide +kernel
theorem dX12_same_32 : decode cX12_same 32 = .ok (.if_icmp .ne 7, 3) := by decide +kernel
theorem dX12_same_35 : decode cX12_same 35 = .ok (.iconst 1, 1) := by decide +kernel
theorem dX12_same_36 : decode cX12_same 36 = .ok (.goto 4, 3) := by decide +kernel
theorem dX12_same_39 : decode cX12_same 39 = .ok (.iconst 0, 1) := by decide +kernel
theorem dX12_same_40 : decode cX12_same 40 = .ok (.invokestatic 304, 3) := by decide +kernel
theorem dX12_same_43 : decode cX12_same 43 = .ok (.goto 5, 3) := by decide +kernel
theorem dX12_same_46 : decode cX12_same 46 = .ok (.bipush (-2), 2) := by decide +kernel
theorem dX12_same_48 : decode cX12_same 48 = .ok (.ireturn, 1) := by decide +kernel
theorem dX12_unlike_0 : decode cX12_unlike 0 = .ok (.aload_n 0, 1) := by decide +kernel
theorem dX12_unlike_1 : decode cX12_unlike 1 = .ok (.iload_n 1, 1) := by decide +kernel
theorem dX12_unlike_2 : decode cX12_unlike 2 = .ok (.invokevirtual 497, 3) := by decide +kernel
theorem dX12_unlike_5 : decode cX12_unlike 5 = .ok (.ifCond .eq 28, 3) := by decide +kernel
theorem dX12_unlike_8 : decode cX12_unlike 8 = .ok (.aload_n 0, 1) := by decide +kernel
theorem dX12_unlike_9 : decode cX12_unlike 9 = .ok (.iload_n 2, 1) := by decide +kernel
theorem dX12_unlike_10 : decode cX12_unlike 10 = .ok (.invokevirtual 497, 3) := by decide +kernel
theorem dX12_unlike_13 : decode cX12_unlike 13 = .ok (.ifCond .eq 20, 3) := by decide +kernel
theorem dX12_unlike_16 : decode cX12_unlike 16 = .ok (.aload_n 0, 1) := by decide +kernel
theorem dX12_unlike_17 : decode cX12_unlike 17 = .ok (.iload_n 1, 1) := by decide +kernel
theorem dX12_unlike_18 : decode cX12_unlike 18 = .ok (.invokevirtual 420, 3) := by decide +kernel
theorem dX12_unlike_21 : decode cX12_unlike 21 = .ok (.aload_n 0, 1) := by decide +kernel
theorem dX12_unlike_22 : decode cX12_unlike 22 = .ok (.iload_n 2, 1) := by decide +kernel
theorem dX12_unlike_23 : decode cX12_unlike 23 = .ok (.invokevirtual 420, 3) := by decide +kernel
theorem dX12_unlike_26 : decode cX12_unlike 26 = .ok (.ixor, 1) := by decide +kernel
theorem dX12_unlike_27 : decode cX12_unlike 27 = .ok (.invokestatic 475, 3) := by decide +kernel
theorem dX12_unlike_30 : decode cX12_unlike 30 = .ok (.goto 4, 3) := by decide +kernel
theorem dX12_unlike_33 : decode cX12_unlike 33 = .ok (.iconst (-1), 1) := by decide +kernel
theorem dX12_unlike_34 : decode cX12_unlike 34 = .ok (.ireturn, 1) := by decide +kernel
theorem dX12_shared_0 : decode cX12_shared 0 = .ok (.aload_n 0, 1) := by decide +kernel
theorem dX12_shared_1 : decode cX12_shared 1 = .ok (.iload_n 1, 1) := by decide +kernel
theorem dX12_shared_2 : decode cX12_shared 2 = .ok (.invokevirtual 497, 3) := by decide +kernel
theorem dX12_shared_5 : decode cX12_shared 5 = .ok (.ifCond .eq 11, 3) := by decide +kernel
theorem dX12_shared_8 : decode cX12_shared 8 = .ok (.aload_n 0, 1) := by decide +kernel
theorem dX12_shared_9 : decode cX12_shared 9 = .ok (.iload_n 2, 1) := by decide +kernel
theorem dX12_shared_10 : decode cX12_shared 10 = .ok (.invokevirtual 497, 3) := by decide +kernel
theorem dX12_shared_13 : decode cX12_shared 13 = .ok (.ifCond .ne 5, 3) := by decide +kernel
theorem dX12_shared_16 : decode cX12_shared 16 = .ok (.iconst (-1), 1) := by decide +kernel
theorem dX12_shared_17 : decode cX12_shared 17 = .ok (.ireturn, 1) := by decide +kernel
theorem dX12_shared_18 : decode cX12_shared 18 = .ok (.iconst 0, 1) := by decide +kernel
theorem dX12_shared_19 : decode cX12_shared 19 = .ok (.istore_n 3, 1) := by decide +kernel
theorem dX12_shared_20 : decode cX12_shared 20 = .ok (.iconst 0, 1) := by decide +kernel
theorem dX12_shared_21 : decode cX12_shared 21 = .ok (.istore 4, 2) := by decide +kernel
theorem dX12_shared_23 : decode cX12_shared 23 = .ok (.iload 4, 2) := by decide +kernel
theorem dX12_shared_25 : decode cX12_shared 25 = .ok (.aload_n 0, 1) := by decide +kernel
theorem dX12_shared_26 : decode cX12_shared 26 = .ok (.getfield 371, 3) := by decide +kernel
theorem dX12_shared_29 : decode cX12_shared 29 = .ok (.if_icmp .ge 47, 3) := by decide +kernel
theorem dX12_shared_32 : decode cX12_shared 32 = .ok (.iload_n 3, 1) := by decide +kernel
theorem dX12_shared_33 : decode cX12_shared 33 = .ok (.aload_n 0, 1) := by decide +kernel
theorem dX12_shared_34 : decode cX12_shared 34 = .ok (.iload 4, 2) := by decide +kernel
theorem dX12_shared_36 : decode cX12_shared 36 = .ok (.iload_n 1, 1) := by decide +kernel
theorem dX12_shared_37 : decode cX12_shared 37 = .ok (.invokevirtual 456, 3) := by decide +kernel
theorem dX12_shared_40 : decode cX12_shared 40 = .ok (.ifCond .lt 24, 3) := by decide +kernel
theorem dX12_shared_43 : decode cX12_shared 43 = .ok (.aload_n 0, 1) := by decide +kernel
theorem dX12_shared_44 : decode cX12_shared 44 = .ok (.iload 4, 2) := by decide +kernel
theorem dX12_shared_46 : decode cX12_shared 46 = .ok (.iload_n 1, 1) := by decide +kernel
theorem dX12_shared_47 : decode cX12_shared 47 = .ok (.invokevirtual 456, 3) := by decide +kernel
theorem dX12_shared_50 : decode cX12_shared 50 = .ok (.aload_n 0, 1) := by decide +kernel
theorem dX12_shared_51 : decode cX12_shared 51 = .ok (.iload 4, 2) := by decide +kernel
theorem dX12_shared_53 : decode cX12_shared 53 = .ok (.iload_n 2, 1) := by decide +kernel
theorem dX12_shared_54 : decode cX12_shared 54 = .ok (.invokevirtual 456, 3) := by decide +kernel
