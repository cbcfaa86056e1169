/-! decode rows -/
theorem dX0_init_0 : decode cX0_init 0 = .ok (.aload_n 0, 1) := by decide +kernel
theorem dX0_init_1 : decode cX0_init 1 = .ok (.invokespecial 3, 3) := by decide +kernel
theorem dX0_init_4 : decode cX0_init 4 = .ok (.aload_n 0, 1) := by decide +kernel
theorem dX0_init_5 : decode cX0_init 5 = .ok (.aload_n 1, 1) := by decide +kernel
theorem dX0_init_6 : decode cX0_init 6 = .ok (.putfield 9, 3) := by decide +kernel
theorem dX0_init_9 : decode cX0_init 9 = .ok (.aload_n 0, 1) := by decide +kernel
theorem dX0_init_10 : decode cX0_init 10 = .ok (.aload_n 2, 1) := by decide +kernel
theorem dX0_init_11 : decode cX0_init 11 = .ok (.putfield 15, 3) := by decide +kernel
theorem dX0_init_14 : decode cX0_init 14 = .ok (.aload_n 0, 1) := by decide +kernel
theorem dX0_init_15 : decode cX0_init 15 = .ok (.aload_n 3, 1) := by decide +kernel
theorem dX0_init_16 : decode cX0_init 16 = .ok (.putfield 19, 3) := by decide +kernel
theorem dX0_init_19 : decode cX0_init 19 = .ok (.aload_n 0, 1) := by decide +kernel
theorem dX0_init_20 : decode cX0_init 20 = .ok (.new 23, 3) := by decide +kernel
theorem dX0_init_23 : decode cX0_init 23 = .ok (.dup, 1) := by decide +kernel
theorem dX0_init_24 : decode cX0_init 24 = .ok (.bipush 40, 2) := by decide +kernel
theorem dX0_init_26 : decode cX0_init 26 = .ok (.invokespecial 25, 3) := by decide +kernel
theorem dX0_init_29 : decode cX0_init 29 = .ok (.putfield 28, 3) := by decide +kernel
theorem dX0_init_32 : decode cX0_init 32 = .ok (.aload_n 0, 1) := by decide +kernel
theorem dX0_init_33 : decode cX0_init 33 = .ok (.iconst 0, 1) := by decide +kernel
theorem dX0_init_34 : decode cX0_init 34 = .ok (.putfield 32, 3) := by decide +kernel
theorem dX0_init_37 : decode cX0_init 37 = .ok (.return_, 1) := by decide +kernel
theorem dX0_forget_0 : decode cX0_forget 0 = .ok (.aload_n 0, 1) := by decide +kernel
theorem dX0_forget_1 : decode cX0_forget 1 = .ok (.getfield 28, 3) := by decide +kernel
theorem dX0_forget_4 : decode cX0_forget 4 = .ok (.invokevirtual 36, 3) := by decide +kernel
theorem dX0_forget_7 : decode cX0_forget 7 = .ok (.aload_n 0, 1) := by decide +kernel
theorem dX0_forget_8 : decode cX0_forget 8 = .ok (.iconst 0, 1) := by decide +kernel
theorem dX0_forget_9 : decode cX0_forget 9 = .ok (.putfield 32, 3) := by decide +kernel
theorem dX0_forget_12 : decode cX0_forget 12 = .ok (.return_, 1) := by decide +kernel
theorem dX0_canSweep_0 : decode cX0_canSweep 0 = .ok (.aload_n 0, 1) := by decide +kernel
theorem dX0_canSweep_1 : decode cX0_canSweep 1 = .ok (.getfield 19, 3) := by decide +kernel
theorem dX0_canSweep_4 : decode cX0_canSweep 4 = .ok (.getfield 39, 3) := by decide +kernel
theorem dX0_canSweep_7 : decode cX0_canSweep 7 = .ok (.aload_n 0, 1) := by decide +kernel
theorem dX0_canSweep_8 : decode cX0_canSweep 8 = .ok (.getfield 19, 3) := by decide +kernel
theorem dX0_canSweep_11 : decode cX0_canSweep 11 = .ok (.invokevirtual 44, 3) := by decide +kernel
theorem dX0_canSweep_14 : decode cX0_canSweep 14 = .ok (.invokevirtual 48, 3) := by decide +kernel
theorem dX0_canSweep_17 : decode cX0_canSweep 17 = .ok (.aload_n 0, 1) := by decide +kernel
theorem dX0_canSweep_18 : decode cX0_canSweep 18 = .ok (.getfield 9, 3) := by decide +kernel
theorem dX0_canSweep_21 : decode cX0_canSweep 21 = .ok (.getfield 52, 3) := by decide +kernel
theorem dX0_canSweep_24 : decode cX0_canSweep 24 = .ok (.invokevirtual 57, 3) := by decide +kernel
theorem dX0_canSweep_27 : decode cX0_canSweep 27 = .ok (.if_icmp .ge 7, 3) := by decide +kernel
theorem dX0_canSweep_30 : decode cX0_canSweep 30 = .ok (.iconst 1, 1) := by decide +kernel
theorem dX0_canSweep_31 : decode cX0_canSweep 31 = .ok (.goto 4, 3) := by decide +kernel
theorem dX0_canSweep_34 : decode cX0_canSweep 34 = .ok (.iconst 0, 1) := by decide +kernel
theorem dX0_canSweep_35 : decode cX0_canSweep 35 = .ok (.ireturn, 1) := by decide +kernel
theorem dX0_canCut_0 : decode cX0_canCut 0 = .ok (.aload_n 0, 1) := by decide +kernel
theorem dX0_canCut_1 : decode cX0_canCut 1 = .ok (.getfield 9, 3) := by decide +kernel
theorem dX0_canCut_4 : decode cX0_canCut 4 = .ok (.iload_n 1, 1) := by decide +kernel
theorem dX0_canCut_5 : decode cX0_canCut 5 = .ok (.invokevirtual 60, 3) := by decide +kernel
theorem dX0_canCut_8 : decode cX0_canCut 8 = .ok (.ifCond .eq 25, 3) := by decide +kernel
theorem dX0_canCut_11 : decode cX0_canCut 11 = .ok (.aload_n 0, 1) := by decide +kernel
theorem dX0_canCut_12 : decode cX0_canCut 12 = .ok (.getfield 19, 3) := by decide +kernel
theorem dX0_canCut_15 : decode cX0_canCut 15 = .ok (.aload_n 0, 1) := by decide +kernel
theorem dX0_canCut_16 : decode cX0_canCut 16 = .ok (.getfield 19, 3) := by decide +kernel
theorem dX0_canCut_19 : decode cX0_canCut 19 = .ok (.invokevirtual 44, 3) := by decide +kernel
theorem dX0_canCut_22 : decode cX0_canCut 22 = .ok (.iload_n 1, 1) := by decide +kernel
theorem dX0_canCut_23 : decode cX0_canCut 23 = .ok (.invokevirtual 64, 3) := by decide +kernel
theorem dX0_canCut_26 : decode cX0_canCut 26 = .ok (.ifCond .eq 7, 3) := by decide +kernel
theorem dX0_canCut_29 : decode cX0_canCut 29 = .ok (.iconst 1, 1) := by decide +kernel
theorem dX0_canCut_30 : decode cX0_canCut 30 = .ok (.goto 4, 3) := by decide +kernel
theorem dX0_canCut_33 : decode cX0_canCut 33 = .ok (.iconst 0, 1) := by decide +kernel
theorem dX0_canCut_34 : decode cX0_canCut 34 = .ok (.ireturn, 1) := by decide +kernel
theorem dX0_canRaise_0 : decode cX0_canRaise 0 = .ok (.aload_n 0, 1) := by decide +kernel
theorem dX0_canRaise_1 : decode cX0_canRaise 1 = .ok (.getfield 19, 3) := by decide +kernel
theorem dX0_canRaise_4 : decode cX0_canRaise 4 = .ok (.invokevirtual 44, 3) := by decide +kernel
theorem dX0_canRaise_7 : decode cX0_canRaise 7 = .ok (.istore_n 2, 1) := by decide +kernel
theorem dX0_canRaise_8 : decode cX0_canRaise 8 = .ok (.aload_n 0, 1) := by decide +kernel
theorem dX0_canRaise_9 : decode cX0_canRaise 9 = .ok (.getfield 9, 3) := by decide +kernel
theorem dX0_canRaise_12 : decode cX0_canRaise 12 = .ok (.iload_n 1, 1) := by decide +kernel
theorem dX0_canRaise_13 : decode cX0_canRaise 13 = .ok (.aload_n 0, 1) := by decide +kernel
theorem dX0_canRaise_14 : decode cX0_canRaise 14 = .ok (.getfield 19, 3) := by decide +kernel
theorem dX0_canRaise_17 : decode cX0_canRaise 17 = .ok (.getfield 68, 3) := by decide +kernel
theorem dX0_canRaise_20 : decode cX0_canRaise 20 = .ok (.iload_n 2, 1) := by decide +kernel
theorem dX0_canRaise_21 : decode cX0_canRaise 21 = .ok (.invokevirtual 48, 3) := by decide +kernel
theorem dX0_canRaise_24 : decode cX0_canRaise 24 = .ok (.invokevirtual 71, 3) := by decide +kernel
theorem dX0_canRaise_27 : decode cX0_canRaise 27 = .ok (.istore_n 3, 1) := by decide +kernel
theorem dX0_canRaise_28 : decode cX0_canRaise 28 = .ok (.iload_n 3, 1) := by decide +kernel
theorem dX0_canRaise_29 : decode cX0_canRaise 29 = .ok (.ifCond .eq 25, 3) := by decide +kernel
theorem dX0_canRaise_32 : decode cX0_canRaise 32 = .ok (.aload_n 0, 1) := by decide +kernel
theorem dX0_canRaise_33 : decode cX0_canRaise 33 = .ok (.getfield 19, 3) := by decide +kernel
theorem dX0_canRaise_36 : decode cX0_canRaise 36 = .ok (.getfield 74, 3) := by decide +kernel
theorem dX0_canRaise_39 : decode cX0_canRaise 39 = .ok (.iload_n 2, 1) := by decide +kernel
theorem dX0_canRaise_40 : decode cX0_canRaise 40 = .ok (.invokevirtual 48, 3) := by decide +kernel
theorem dX0_canRaise_43 : decode cX0_canRaise 43 = .ok (.iload_n 1, 1) := by decide +kernel
theorem dX0_canRaise_44 : decode cX0_canRaise 44 = .ok (.ishr, 1) := by decide +kernel
theorem dX0_canRaise_45 : decode cX0_canRaise 45 = .ok (.iconst 1, 1) := by decide +kernel
theorem dX0_canRaise_46 : decode cX0_canRaise 46 = .ok (.iand, 1) := by decide +kernel
theorem dX0_canRaise_47 : decode cX0_canRaise 47 = .ok (.ifCond .eq 7, 3) := by decide +kernel
theorem dX0_canRaise_50 : decode cX0_canRaise 50 = .ok (.iconst 1, 1) := by decide +kernel
theorem dX0_canRaise_51 : decode cX0_canRaise 51 = .ok (.goto 4, 3) := by decide +kernel
theorem dX0_canRaise_54 : decode cX0_canRaise 54 = .ok (.iconst 0, 1) := by decide +kernel
theorem dX0_canRaise_55 : decode cX0_canRaise 55 = .ok (.ireturn, 1) := by decide +kernel
theorem dX0_doNew_0 : decode cX0_doNew 0 = .ok (.aload_n 0, 1) := by decide +kernel
theorem dX0_doNew_1 : decode cX0_doNew 1 = .ok (.getfield 19, 3) := by decide +kernel
theorem dX0_doNew_4 : decode cX0_doNew 4 = .ok (.invokevirtual 44, 3) := by decide +kernel
theorem dX0_doNew_7 : decode cX0_doNew 7 = .ok (.bipush 40, 2) := by decide +kernel
theorem dX0_doNew_9 : decode cX0_doNew 9 = .ok (.if_icmp .lt 5, 3) := by decide +kernel
theorem dX0_doNew_12 : decode cX0_doNew 12 = .ok (.iconst 0, 1) := by decide +kernel
theorem dX0_doNew_13 : decode cX0_doNew 13 = .ok (.ireturn, 1) := by decide +kernel
theorem dX0_doNew_14 : decode cX0_doNew 14 = .ok (.aload_n 0, 1) := by decide +kernel
theorem dX0_doNew_15 : decode cX0_doNew 15 = .ok (.getfield 28, 3) := by decide +kernel
theorem dX0_doNew_18 : decode cX0_doNew 18 = .ok (.aload_n 0, 1) := by decide +kernel
theorem dX0_doNew_19 : decode cX0_doNew 19 = .ok (.getfield 32, 3) := by decide +kernel
theorem dX0_doNew_22 : decode cX0_doNew 22 = .ok (.invokevirtual 77, 3) := by decide +kernel
theorem dX0_doNew_25 : decode cX0_doNew 25 = .ok (.aload_n 0, 1) := by decide +kernel
theorem dX0_doNew_26 : decode cX0_doNew 26 = .ok (.getfield 28, 3) := by decide +kernel
theorem dX0_doNew_29 : decode cX0_doNew 29 = .ok (.iload_n 1, 1) := by decide +kernel
theorem dX0_doNew_30 : decode cX0_doNew 30 = .ok (.invokevirtual 80, 3) := by decide +kernel
theorem dX0_doNew_33 : decode cX0_doNew 33 = .ok (.aload_n 0, 1) := by decide +kernel
theorem dX0_doNew_34 : decode cX0_doNew 34 = .ok (.iload_n 1, 1) := by decide +kernel
theorem dX0_doNew_35 : decode cX0_doNew 35 = .ok (.invokevirtual 83, 3) := by decide +kernel
theorem dX0_doNew_38 : decode cX0_doNew 38 = .ok (.iconst 1, 1) := by decide +kernel
theorem dX0_doNew_39 : decode cX0_doNew 39 = .ok (.ireturn, 1) := by decide +kernel
theorem dX0_perform_0 : decode cX0_perform 0 = .ok (.aload_n 0, 1) := by decide +kernel
theorem dX0_perform_1 : decode cX0_perform 1 = .ok (.getfield 19, 3) := by decide +kernel
theorem dX0_perform_4 : decode cX0_perform 4 = .ok (.invokevirtual 44, 3) := by decide +kernel
theorem dX0_perform_7 : decode cX0_perform 7 = .ok (.istore_n 2, 1) := by decide +kernel
theorem dX0_perform_8 : decode cX0_perform 8 = .ok (.aload_n 0, 1) := by decide +kernel
theorem dX0_perform_9 : decode cX0_perform 9 = .ok (.getfield 19, 3) := by decide +kernel
theorem dX0_perform_12 : decode cX0_perform 12 = .ok (.getfield 68, 3) := by decide +kernel
theorem dX0_perform_15 : decode cX0_perform 15 = .ok (.iload_n 2, 1) := by decide +kernel
theorem dX0_perform_16 : decode cX0_perform 16 = .ok (.invokevirtual 48, 3) := by decide +kernel
theorem dX0_perform_19 : decode cX0_perform 19 = .ok (.istore_n 3, 1) := by decide +kernel
theorem dX0_perform_20 : decode cX0_perform 20 = .ok (.aload_n 0, 1) := by decide +kernel
theorem dX0_perform_21 : decode cX0_perform 21 = .ok (.getfield 19, 3) := by decide +kernel
theorem dX0_perform_24 : decode cX0_perform 24 = .ok (.getfield 86, 3) := by decide +kernel
theorem dX0_perform_27 : decode cX0_perform 27 = .ok (.iload_n 2, 1) := by decide +kernel
theorem dX0_perform_28 : decode cX0_perform 28 = .ok (.invokevirtual 48, 3) := by decide +kernel
theorem dX0_perform_31 : decode cX0_perform 31 = .ok (.istore 4, 2) := by decide +kernel
theorem dX0_perform_33 : decode cX0_perform 33 = .ok (.aload_n 0, 1) := by decide +kernel
theorem dX0_perform_34 : decode cX0_perform 34 = .ok (.getfield 19, 3) := by decide +kernel
theorem dX0_perform_37 : decode cX0_perform 37 = .ok (.getfield 74, 3) := by decide +kernel
theorem dX0_perform_40 : decode cX0_perform 40 = .ok (.iload_n 2, 1) := by decide +kernel
theorem dX0_perform_41 : decode cX0_perform 41 = .ok (.invokevirtual 48, 3) := by decide +kernel
theorem dX0_perform_44 : decode cX0_perform 44 = .ok (.istore 5, 2) := by decide +kernel
theorem dX0_perform_46 : decode cX0_perform 46 = .ok (.aload_n 0, 1) := by decide +kernel
theorem dX0_perform_47 : decode cX0_perform 47 = .ok (.getfield 19, 3) := by decide +kernel
theorem dX0_perform_50 : decode cX0_perform 50 = .ok (.getfield 39, 3) := by decide +kernel
theorem dX0_perform_53 : decode cX0_perform 53 = .ok (.iload_n 2, 1) := by decide +kernel
theorem dX0_perform_54 : decode cX0_perform 54 = .ok (.invokevirtual 48, 3) := by decide +kernel
theorem dX0_perform_57 : decode cX0_perform 57 = .ok (.istore 6, 2) := by decide +kernel
theorem dX0_perform_59 : decode cX0_perform 59 = .ok (.iconst 1, 1) := by decide +kernel
theorem dX0_perform_60 : decode cX0_perform 60 = .ok (.iload_n 1, 1) := by decide +kernel
theorem dX0_perform_61 : decode cX0_perform 61 = .ok (.bipush 16, 2) := by decide +kernel
theorem dX0_perform_63 : decode cX0_perform 63 = .ok (.irem, 1) := by decide +kernel
theorem dX0_perform_64 : decode cX0_perform 64 = .ok (.ishl, 1) := by decide +kernel
theorem dX0_perform_65 : decode cX0_perform 65 = .ok (.istore 7, 2) := by decide +kernel
theorem dX0_perform_67 : decode cX0_perform 67 = .ok (.iload_n 1, 1) := by decide +kernel
theorem dX0_perform_68 : decode cX0_perform 68 = .ok (.bipush 32, 2) := by decide +kernel
theorem dX0_perform_70 : decode cX0_perform 70 = .ok (.if_icmp .lt 22, 3) := by decide +kernel
theorem dX0_perform_73 : decode cX0_perform 73 = .ok (.iload 4, 2) := by decide +kernel
theorem dX0_perform_75 : decode cX0_perform 75 = .ok (.iload 7, 2) := by decide +kernel
theorem dX0_perform_77 : decode cX0_perform 77 = .ok (.ior, 1) := by decide +kernel
theorem dX0_perform_78 : decode cX0_perform 78 = .ok (.istore 4, 2) := by decide +kernel
theorem dX0_perform_80 : decode cX0_perform 80 = .ok (.iload 5, 2) := by decide +kernel
theorem dX0_perform_82 : decode cX0_perform 82 = .ok (.iload 7, 2) := by decide +kernel
theorem dX0_perform_84 : decode cX0_perform 84 = .ok (.iconst (-1), 1) := by decide +kernel
theorem dX0_perform_85 : decode cX0_perform 85 = .ok (.ixor, 1) := by decide +kernel
theorem dX0_perform_86 : decode cX0_perform 86 = .ok (.iand, 1) := by decide +kernel
theorem dX0_perform_87 : decode cX0_perform 87 = .ok (.istore 5, 2) := by decide +kernel
theorem dX0_perform_89 : decode cX0_perform 89 = .ok (.goto 56, 3) := by decide +kernel
theorem dX0_perform_92 : decode cX0_perform 92 = .ok (.iload_n 1, 1) := by decide +kernel
theorem dX0_perform_93 : decode cX0_perform 93 = .ok (.bipush 16, 2) := by decide +kernel
theorem dX0_perform_95 : decode cX0_perform 95 = .ok (.if_icmp .lt 22, 3) := by decide +kernel
theorem dX0_perform_98 : decode cX0_perform 98 = .ok (.iload 4, 2) := by decide +kernel
theorem dX0_perform_100 : decode cX0_perform 100 = .ok (.iload 7, 2) := by decide +kernel
theorem dX0_perform_102 : decode cX0_perform 102 = .ok (.iconst (-1), 1) := by decide +kernel
theorem dX0_perform_103 : decode cX0_perform 103 = .ok (.ixor, 1) := by decide +kernel
theorem dX0_perform_104 : decode cX0_perform 104 = .ok (.iand, 1) := by decide +kernel
theorem dX0_perform_105 : decode cX0_perform 105 = .ok (.istore 4, 2) := by decide +kernel
theorem dX0_perform_107 : decode cX0_perform 107 = .ok (.iload 5, 2) := by decide +kernel
theorem dX0_perform_109 : decode cX0_perform 109 = .ok (.iload 7, 2) := by decide +kernel
theorem dX0_perform_111 : decode cX0_perform 111 = .ok (.ior, 1) := by decide +kernel
theorem dX0_perform_112 : decode cX0_perform 112 = .ok (.istore 5, 2) := by decide +kernel
theorem dX0_perform_114 : decode cX0_perform 114 = .ok (.goto 31, 3) := by decide +kernel
theorem dX0_perform_117 : decode cX0_perform 117 = .ok (.aload_n 0, 1) := by decide +kernel
theorem dX0_perform_118 : decode cX0_perform 118 = .ok (.getfield 9, 3) := by decide +kernel
theorem dX0_perform_121 : decode cX0_perform 121 = .ok (.getfield 52, 3) := by decide +kernel
theorem dX0_perform_124 : decode cX0_perform 124 = .ok (.iload 6, 2) := by decide +kernel
theorem dX0_perform_126 : decode cX0_perform 126 = .ok (.invokevirtual 48, 3) := by decide +kernel
theorem dX0_perform_129 : decode cX0_perform 129 = .ok (.istore_n 3, 1) := by decide +kernel
theorem dX0_perform_130 : decode cX0_perform 130 = .ok (.aload_n 0, 1) := by decide +kernel
theorem dX0_perform_131 : decode cX0_perform 131 = .ok (.getfield 9, 3) := by decide +kernel
theorem dX0_perform_134 : decode cX0_perform 134 = .ok (.iload 4, 2) := by decide +kernel
theorem dX0_perform_136 : decode cX0_perform 136 = .ok (.iload_n 3, 1) := by decide +kernel
theorem dX0_perform_137 : decode cX0_perform 137 = .ok (.invokevirtual 89, 3) := by decide +kernel
theorem dX0_perform_140 : decode cX0_perform 140 = .ok (.istore 4, 2) := by decide +kernel
theorem dX0_perform_142 : decode cX0_perform 142 = .ok (.iinc 6 1, 3) := by decide +kernel
theorem dX0_perform_145 : decode cX0_perform 145 = .ok (.aload_n 0, 1) := by decide +kernel
theorem dX0_perform_146 : decode cX0_perform 146 = .ok (.getfield 15, 3) := by decide +kernel
theorem dX0_perform_149 : decode cX0_perform 149 = .ok (.iload 4, 2) := by decide +kernel
theorem dX0_perform_151 : decode cX0_perform 151 = .ok (.invokevirtual 93, 3) := by decide +kernel
theorem dX0_perform_154 : decode cX0_perform 154 = .ok (.aload_n 0, 1) := by decide +kernel
theorem dX0_perform_155 : decode cX0_perform 155 = .ok (.getfield 19, 3) := by decide +kernel
theorem dX0_perform_158 : decode cX0_perform 158 = .ok (.aload_n 0, 1) := by decide +kernel
theorem dX0_perform_159 : decode cX0_perform 159 = .ok (.getfield 15, 3) := by decide +kernel
theorem dX0_perform_162 : decode cX0_perform 162 = .ok (.iload_n 3, 1) := by decide +kernel
theorem dX0_perform_163 : decode cX0_perform 163 = .ok (.iload 4, 2) := by decide +kernel
theorem dX0_perform_165 : decode cX0_perform 165 = .ok (.iload 5, 2) := by decide +kernel
theorem dX0_perform_167 : decode cX0_perform 167 = .ok (.iload 6, 2) := by decide +kernel
theorem dX0_perform_169 : decode cX0_perform 169 = .ok (.aload_n 0, 1) := by decide +kernel
theorem dX0_perform_170 : decode cX0_perform 170 = .ok (.getfield 9, 3) := by decide +kernel
theorem dX0_perform_173 : decode cX0_perform 173 = .ok (.getfield 98, 3) := by decide +kernel
theorem dX0_perform_176 : decode cX0_perform 176 = .ok (.invokevirtual 101, 3) := by decide +kernel
theorem dX0_perform_179 : decode cX0_perform 179 = .ok (.aload_n 0, 1) := by decide +kernel
theorem dX0_perform_180 : decode cX0_perform 180 = .ok (.dup, 1) := by decide +kernel
theorem dX0_perform_181 : decode cX0_perform 181 = .ok (.getfield 32, 3) := by decide +kernel
theorem dX0_perform_184 : decode cX0_perform 184 = .ok (.iconst 1, 1) := by decide +kernel
theorem dX0_perform_185 : decode cX0_perform 185 = .ok (.iadd, 1) := by decide +kernel
theorem dX0_perform_186 : decode cX0_perform 186 = .ok (.putfield 32, 3) := by decide +kernel
theorem dX0_perform_189 : decode cX0_perform 189 = .ok (.return_, 1) := by decide +kernel
theorem dX0_takeBack_0 : decode cX0_takeBack 0 = .ok (.aload_n 0, 1) := by decide +kernel
theorem dX0_takeBack_1 : decode cX0_takeBack 1 = .ok (.getfield 32, 3) := by decide +kernel
theorem dX0_takeBack_4 : decode cX0_takeBack 4 = .ok (.iconst 1, 1) := by decide +kernel
theorem dX0_takeBack_5 : decode cX0_takeBack 5 = .ok (.if_icmp .ge 5, 3) := by decide +kernel
theorem dX0_takeBack_8 : decode cX0_takeBack 8 = .ok (.iconst 0, 1) := by decide +kernel
theorem dX0_takeBack_9 : decode cX0_takeBack 9 = .ok (.ireturn, 1) := by decide +kernel
theorem dX0_takeBack_10 : decode cX0_takeBack 10 = .ok (.aload_n 0, 1) := by decide +kernel
theorem dX0_takeBack_11 : decode cX0_takeBack 11 = .ok (.getfield 19, 3) := by decide +kernel
theorem dX0_takeBack_14 : decode cX0_takeBack 14 = .ok (.invokevirtual 105, 3) := by decide +kernel
theorem dX0_takeBack_17 : decode cX0_takeBack 17 = .ok (.aload_n 0, 1) := by decide +kernel
theorem dX0_takeBack_18 : decode cX0_takeBack 18 = .ok (.dup, 1) := by decide +kernel
theorem dX0_takeBack_19 : decode cX0_takeBack 19 = .ok (.getfield 32, 3) := by decide +kernel
theorem dX0_takeBack_22 : decode cX0_takeBack 22 = .ok (.iconst 1, 1) := by decide +kernel
theorem dX0_takeBack_23 : decode cX0_takeBack 23 = .ok (.isub, 1) := by decide +kernel
theorem dX0_takeBack_24 : decode cX0_takeBack 24 = .ok (.putfield 32, 3) := by decide +kernel
theorem dX0_takeBack_27 : decode cX0_takeBack 27 = .ok (.iconst 1, 1) := by decide +kernel
theorem dX0_takeBack_28 : decode cX0_takeBack 28 = .ok (.ireturn, 1) := by decide +kernel
theorem dX0_doAgain_0 : decode cX0_doAgain 0 = .ok (.aload_n 0, 1) := by decide +kernel
theorem dX0_doAgain_1 : decode cX0_doAgain 1 = .ok (.getfield 32, 3) := by decide +kernel
theorem dX0_doAgain_4 : decode cX0_doAgain 4 = .ok (.aload_n 0, 1) := by decide +kernel
theorem dX0_doAgain_5 : decode cX0_doAgain 5 = .ok (.getfield 28, 3) := by decide +kernel
theorem dX0_doAgain_8 : decode cX0_doAgain 8 = .ok (.invokevirtual 57, 3) := by decide +kernel
theorem dX0_doAgain_11 : decode cX0_doAgain 11 = .ok (.if_icmp .lt 5, 3) := by decide +kernel
theorem dX0_doAgain_14 : decode cX0_doAgain 14 = .ok (.iconst 0, 1) := by decide +kernel
theorem dX0_doAgain_15 : decode cX0_doAgain 15 = .ok (.ireturn, 1) := by decide +kernel
theorem dX0_doAgain_16 : decode cX0_doAgain 16 = .ok (.aload_n 0, 1) := by decide +kernel
theorem dX0_doAgain_17 : decode cX0_doAgain 17 = .ok (.aload_n 0, 1) := by decide +kernel
theorem dX0_doAgain_18 : decode cX0_doAgain 18 = .ok (.getfield 28, 3) := by decide +kernel
theorem dX0_doAgain_21 : decode cX0_doAgain 21 = .ok (.aload_n 0, 1) := by decide +kernel
theorem dX0_doAgain_22 : decode cX0_doAgain 22 = .ok (.getfield 32, 3) := by decide +kernel
theorem dX0_doAgain_25 : decode cX0_doAgain 25 = .ok (.invokevirtual 48, 3) := by decide +kernel
theorem dX0_doAgain_28 : decode cX0_doAgain 28 = .ok (.invokevirtual 83, 3) := by decide +kernel
theorem dX0_doAgain_31 : decode cX0_doAgain 31 = .ok (.iconst 1, 1) := by decide +kernel
theorem dX0_doAgain_32 : decode cX0_doAgain 32 = .ok (.ireturn, 1) := by decide +kernel
theorem dX1_init_0 : decode cX1_init 0 = .ok (.aload_n 0, 1) := by decide +kernel
theorem dX1_init_1 : decode cX1_init 1 = .ok (.invokespecial 1, 3) := by decide +kernel
theorem dX1_init_4 : decode cX1_init 4 = .ok (.aload_n 0, 1) := by decide +kernel
theorem dX1_init_5 : decode cX1_init 5 = .ok (.new 7, 3) := by decide +kernel
theorem dX1_init_8 : decode cX1_init 8 = .ok (.dup, 1) := by decide +kernel
theorem dX1_init_9 : decode cX1_init 9 = .ok (.sipush 300, 3) := by decide +kernel
theorem dX1_init_12 : decode cX1_init 12 = .ok (.invokespecial 11, 3) := by decide +kernel
theorem dX1_init_15 : decode cX1_init 15 = .ok (.putfield 14, 3) := by decide +kernel
theorem dX1_init_18 : decode cX1_init 18 = .ok (.aload_n 0, 1) := by decide +kernel
theorem dX1_init_19 : decode cX1_init 19 = .ok (.new 7, 3) := by decide +kernel
theorem dX1_init_22 : decode cX1_init 22 = .ok (.dup, 1) := by decide +kernel
theorem dX1_init_23 : decode cX1_init 23 = .ok (.bipush 64, 2) := by decide +kernel
theorem dX1_init_25 : decode cX1_init 25 = .ok (.invokespecial 11, 3) := by decide +kernel
theorem dX1_init_28 : decode cX1_init 28 = .ok (.putfield 18, 3) := by decide +kernel
theorem dX1_init_31 : decode cX1_init 31 = .ok (.return_, 1) := by decide +kernel
theorem dX1_clear_0 : decode cX1_clear 0 = .ok (.aload_n 0, 1) := by decide +kernel
theorem dX1_clear_1 : decode cX1_clear 1 = .ok (.iconst 0, 1) := by decide +kernel
theorem dX1_clear_2 : decode cX1_clear 2 = .ok (.putfield 21, 3) := by decide +kernel
theorem dX1_clear_5 : decode cX1_clear 5 = .ok (.aload_n 0, 1) := by decide +kernel
theorem dX1_clear_6 : decode cX1_clear 6 = .ok (.getfield 14, 3) := by decide +kernel
theorem dX1_clear_9 : decode cX1_clear 9 = .ok (.invokevirtual 25, 3) := by decide +kernel
theorem dX1_clear_12 : decode cX1_clear 12 = .ok (.return_, 1) := by decide +kernel
theorem dX1_add_0 : decode cX1_add 0 = .ok (.aload_n 0, 1) := by decide +kernel
theorem dX1_add_1 : decode cX1_add 1 = .ok (.getfield 14, 3) := by decide +kernel
theorem dX1_add_4 : decode cX1_add 4 = .ok (.iload_n 1, 1) := by decide +kernel
theorem dX1_add_5 : decode cX1_add 5 = .ok (.invokevirtual 28, 3) := by decide +kernel
theorem dX1_add_8 : decode cX1_add 8 = .ok (.return_, 1) := by decide +kernel
theorem dX1_valueFor_0 : decode cX1_valueFor 0 = .ok (.aload_n 0, 1) := by decide +kernel
theorem dX1_valueFor_1 : decode cX1_valueFor 1 = .ok (.getfield 18, 3) := by decide +kernel
theorem dX1_valueFor_4 : decode cX1_valueFor 4 = .ok (.invokevirtual 25, 3) := by decide +kernel
theorem dX1_valueFor_7 : decode cX1_valueFor 7 = .ok (.iconst 0, 1) := by decide +kernel
theorem dX1_valueFor_8 : decode cX1_valueFor 8 = .ok (.istore 6, 2) := by decide +kernel
theorem dX1_valueFor_10 : decode cX1_valueFor 10 = .ok (.iload 6, 2) := by decide +kernel
theorem dX1_valueFor_12 : decode cX1_valueFor 12 = .ok (.aload_n 0, 1) := by decide +kernel
theorem dX1_valueFor_13 : decode cX1_valueFor 13 = .ok (.getfield 14, 3) := by decide +kernel
theorem dX1_valueFor_16 : decode cX1_valueFor 16 = .ok (.invokevirtual 31, 3) := by decide +kernel
theorem dX1_valueFor_19 : decode cX1_valueFor 19 = .ok (.if_icmp .ge 147, 3) := by decide +kernel
theorem dX1_valueFor_22 : decode cX1_valueFor 22 = .ok (.aload_n 0, 1) := by decide +kernel
theorem dX1_valueFor_23 : decode cX1_valueFor 23 = .ok (.getfield 14, 3) := by decide +kernel
theorem dX1_valueFor_26 : decode cX1_valueFor 26 = .ok (.iload 6, 2) := by decide +kernel
theorem dX1_valueFor_28 : decode cX1_valueFor 28 = .ok (.invokevirtual 35, 3) := by decide +kernel
theorem dX1_valueFor_31 : decode cX1_valueFor 31 = .ok (.istore 7, 2) := by decide +kernel
theorem dX1_valueFor_33 : decode cX1_valueFor 33 = .ok (.iload 7, 2) := by decide +kernel
theorem dX1_valueFor_35 : decode cX1_valueFor 35 = .ok (.tableswitch 119 108 113 #[94, 37, 48, 59, 70, 82], 37) := by decide +kernel
theorem dX1_valueFor_72 : decode cX1_valueFor 72 = .ok (.aload_n 0, 1) := by decide +kernel
theorem dX1_valueFor_73 : decode cX1_valueFor 73 = .ok (.getfield 18, 3) := by decide +kernel
theorem dX1_valueFor_76 : decode cX1_valueFor 76 = .ok (.iload_n 1, 1) := by decide +kernel
theorem dX1_valueFor_77 : decode cX1_valueFor 77 = .ok (.invokevirtual 28, 3) := by decide +kernel
theorem dX1_valueFor_80 : decode cX1_valueFor 80 = .ok (.goto 80, 3) := by decide +kernel
theorem dX1_valueFor_83 : decode cX1_valueFor 83 = .ok (.aload_n 0, 1) := by decide +kernel
theorem dX1_valueFor_84 : decode cX1_valueFor 84 = .ok (.getfield 18, 3) := by decide +kernel
theorem dX1_valueFor_87 : decode cX1_valueFor 87 = .ok (.iload_n 2, 1) := by decide +kernel
theorem dX1_valueFor_88 : decode cX1_valueFor 88 = .ok (.invokevirtual 28, 3) := by decide +kernel
theorem dX1_valueFor_91 : decode cX1_valueFor 91 = .ok (.goto 69, 3) := by decide +kernel
theorem dX1_valueFor_94 : decode cX1_valueFor 94 = .ok (.aload_n 0, 1) := by decide +kernel
theorem dX1_valueFor_95 : decode cX1_valueFor 95 = .ok (.getfield 18, 3) := by decide +kernel
theorem dX1_valueFor_98 : decode cX1_valueFor 98 = .ok (.iload_n 3, 1) := by decide +kernel
theorem dX1_valueFor_99 : decode cX1_valueFor 99 = .ok (.invokevirtual 28, 3) := by decide +kernel
theorem dX1_valueFor_102 : decode cX1_valueFor 102 = .ok (.goto 58, 3) := by decide +kernel
theorem dX1_valueFor_105 : decode cX1_valueFor 105 = .ok (.aload_n 0, 1) := by decide +kernel
theorem dX1_valueFor_106 : decode cX1_valueFor 106 = .ok (.getfield 18, 3) := by decide +kernel
theorem dX1_valueFor_109 : decode cX1_valueFor 109 = .ok (.iload 4, 2) := by decide +kernel
theorem dX1_valueFor_111 : decode cX1_valueFor 111 = .ok (.invokevirtual 28, 3) := by decide +kernel
theorem dX1_valueFor_114 : decode cX1_valueFor 114 = .ok (.goto 46, 3) := by decide +kernel
theorem dX1_valueFor_117 : decode cX1_valueFor 117 = .ok (.aload_n 0, 1) := by decide +kernel
theorem dX1_valueFor_118 : decode cX1_valueFor 118 = .ok (.getfield 18, 3) := by decide +kernel
theorem dX1_valueFor_121 : decode cX1_valueFor 121 = .ok (.iload 5, 2) := by decide +kernel
theorem dX1_valueFor_123 : decode cX1_valueFor 123 = .ok (.invokevirtual 28, 3) := by decide +kernel
theorem dX1_valueFor_126 : decode cX1_valueFor 126 = .ok (.goto 34, 3) := by decide +kernel
theorem dX1_valueFor_129 : decode cX1_valueFor 129 = .ok (.aload_n 0, 1) := by decide +kernel
theorem dX1_valueFor_130 : decode cX1_valueFor 130 = .ok (.getfield 18, 3) := by decide +kernel
theorem dX1_valueFor_133 : decode cX1_valueFor 133 = .ok (.aload_n 0, 1) := by decide +kernel
theorem dX1_valueFor_134 : decode cX1_valueFor 134 = .ok (.getfield 18, 3) := by decide +kernel
theorem dX1_valueFor_137 : decode cX1_valueFor 137 = .ok (.invokevirtual 39, 3) := by decide +kernel
theorem dX1_valueFor_140 : decode cX1_valueFor 140 = .ok (.ifCond .ne 7, 3) := by decide +kernel
theorem dX1_valueFor_143 : decode cX1_valueFor 143 = .ok (.iconst 1, 1) := by decide +kernel
theorem dX1_valueFor_144 : decode cX1_valueFor 144 = .ok (.goto 4, 3) := by decide +kernel
theorem dX1_valueFor_147 : decode cX1_valueFor 147 = .ok (.iconst 0, 1) := by decide +kernel
theorem dX1_valueFor_148 : decode cX1_valueFor 148 = .ok (.invokevirtual 28, 3) := by decide +kernel
theorem dX1_valueFor_151 : decode cX1_valueFor 151 = .ok (.goto 9, 3) := by decide +kernel
theorem dX1_valueFor_154 : decode cX1_valueFor 154 = .ok (.aload_n 0, 1) := by decide +kernel
theorem dX1_valueFor_155 : decode cX1_valueFor 155 = .ok (.iload 7, 2) := by decide +kernel
theorem dX1_valueFor_157 : decode cX1_valueFor 157 = .ok (.invokevirtual 42, 3) := by decide +kernel
theorem dX1_valueFor_160 : decode cX1_valueFor 160 = .ok (.iinc 6 1, 3) := by decide +kernel
theorem dX1_valueFor_163 : decode cX1_valueFor 163 = .ok (.goto (-153), 3) := by decide +kernel
theorem dX1_valueFor_166 : decode cX1_valueFor 166 = .ok (.aload_n 0, 1) := by decide +kernel
theorem dX1_valueFor_167 : decode cX1_valueFor 167 = .ok (.getfield 18, 3) := by decide +kernel
theorem dX1_valueFor_170 : decode cX1_valueFor 170 = .ok (.invokevirtual 45, 3) := by decide +kernel
theorem dX1_valueFor_173 : decode cX1_valueFor 173 = .ok (.ireturn, 1) := by decide +kernel
theorem dX1_doStep_0 : decode cX1_doStep 0 = .ok (.iload_n 1, 1) := by decide +kernel
theorem dX1_doStep_1 : decode cX1_doStep 1 = .ok (.sipush 1000, 3) := by decide +kernel
theorem dX1_doStep_4 : decode cX1_doStep 4 = .ok (.if_icmp .lt 16, 3) := by decide +kernel
theorem dX1_doStep_7 : decode cX1_doStep 7 = .ok (.aload_n 0, 1) := by decide +kernel
theorem dX1_doStep_8 : decode cX1_doStep 8 = .ok (.getfield 18, 3) := by decide +kernel
theorem dX1_doStep_11 : decode cX1_doStep 11 = .ok (.iload_n 1, 1) := by decide +kernel
theorem dX1_doStep_12 : decode cX1_doStep 12 = .ok (.sipush 1000, 3) := by decide +kernel
theorem dX1_doStep_15 : decode cX1_doStep 15 = .ok (.isub, 1) := by decide +kernel
theorem dX1_doStep_16 : decode cX1_doStep 16 = .ok (.invokevirtual 28, 3) := by decide +kernel
theorem dX1_doStep_19 : decode cX1_doStep 19 = .ok (.return_, 1) := by decide +kernel
theorem dX1_doStep_20 : decode cX1_doStep 20 = .ok (.aload_n 0, 1) := by decide +kernel
theorem dX1_doStep_21 : decode cX1_doStep 21 = .ok (.getfield 18, 3) := by decide +kernel
theorem dX1_doStep_24 : decode cX1_doStep 24 = .ok (.invokevirtual 39, 3) := by decide +kernel
theorem dX1_doStep_27 : decode cX1_doStep 27 = .ok (.istore_n 2, 1) := by decide +kernel
theorem dX1_doStep_28 : decode cX1_doStep 28 = .ok (.aload_n 0, 1) := by decide +kernel
theorem dX1_doStep_29 : decode cX1_doStep 29 = .ok (.getfield 18, 3) := by decide +kernel
theorem dX1_doStep_32 : decode cX1_doStep 32 = .ok (.invokevirtual 39, 3) := by decide +kernel
theorem dX1_doStep_35 : decode cX1_doStep 35 = .ok (.istore_n 3, 1) := by decide +kernel
theorem dX1_doStep_36 : decode cX1_doStep 36 = .ok (.aload_n 0, 1) := by decide +kernel
theorem dX1_doStep_37 : decode cX1_doStep 37 = .ok (.getfield 18, 3) := by decide +kernel
theorem dX1_doStep_40 : decode cX1_doStep 40 = .ok (.iload_n 1, 1) := by decide +kernel
theorem dX1_doStep_41 : decode cX1_doStep 41 = .ok (.iload_n 3, 1) := by decide +kernel
theorem dX1_doStep_42 : decode cX1_doStep 42 = .ok (.iload_n 2, 1) := by decide +kernel
theorem dX1_doStep_43 : decode cX1_doStep 43 = .ok (.invokestatic 48, 3) := by decide +kernel
theorem dX1_doStep_46 : decode cX1_doStep 46 = .ok (.invokevirtual 28, 3) := by decide +kernel
theorem dX1_doStep_49 : decode cX1_doStep 49 = .ok (.return_, 1) := by decide +kernel
theorem dX1_joined_0 : decode cX1_joined 0 = .ok (.iload_n 0, 1) := by decide +kernel
theorem dX1_joined_1 : decode cX1_joined 1 = .ok (.lookupswitch 188 #[(37, 176), (42, 160), (43, 152), (45, 156), (47, 164), (60, 119), (61, 141), (62, 130), (106, 91), (107, 105)], 91) := by decide +kernel
theorem dX1_joined_92 : decode cX1_joined 92 = .ok (.iload_n 1, 1) := by decide +kernel
theorem dX1_joined_93 : decode cX1_joined 93 = .ok (.ifCond .ne 7, 3) := by decide +kernel
theorem dX1_joined_96 : decode cX1_joined 96 = .ok (.iload_n 2, 1) := by decide +kernel
theorem dX1_joined_97 : decode cX1_joined 97 = .ok (.ifCond .eq 7, 3) := by decide +kernel
theorem dX1_joined_100 : decode cX1_joined 100 = .ok (.iconst 1, 1) := by decide +kernel
theorem dX1_joined_101 : decode cX1_joined 101 = .ok (.goto 4, 3) := by decide +kernel
theorem dX1_joined_104 : decode cX1_joined 104 = .ok (.iconst 0, 1) := by decide +kernel
theorem dX1_joined_105 : decode cX1_joined 105 = .ok (.ireturn, 1) := by decide +kernel
theorem dX1_joined_106 : decode cX1_joined 106 = .ok (.iload_n 1, 1) := by decide +kernel
theorem dX1_joined_107 : decode cX1_joined 107 = .ok (.ifCond .eq 11, 3) := by decide +kernel
theorem dX1_joined_110 : decode cX1_joined 110 = .ok (.iload_n 2, 1) := by decide +kernel
theorem dX1_joined_111 : decode cX1_joined 111 = .ok (.ifCond .eq 7, 3) := by decide +kernel
theorem dX1_joined_114 : decode cX1_joined 114 = .ok (.iconst 1, 1) := by decide +kernel
theorem dX1_joined_115 : decode cX1_joined 115 = .ok (.goto 4, 3) := by decide +kernel
theorem dX1_joined_118 : decode cX1_joined 118 = .ok (.iconst 0, 1) := by decide +kernel
theorem dX1_joined_119 : decode cX1_joined 119 = .ok (.ireturn, 1) := by decide +kernel
theorem dX1_joined_120 : decode cX1_joined 120 = .ok (.iload_n 1, 1) := by decide +kernel
theorem dX1_joined_121 : decode cX1_joined 121 = .ok (.iload_n 2, 1) := by decide +kernel
theorem dX1_joined_122 : decode cX1_joined 122 = .ok (.if_icmp .ge 7, 3) := by decide +kernel
theorem dX1_joined_125 : decode cX1_joined 125 = .ok (.iconst 1, 1) := by decide +kernel
theorem dX1_joined_126 : decode cX1_joined 126 = .ok (.goto 4, 3) := by decide +kernel
theorem dX1_joined_129 : decode cX1_joined 129 = .ok (.iconst 0, 1) := by decide +kernel
theorem dX1_joined_130 : decode cX1_joined 130 = .ok (.ireturn, 1) := by decide +kernel
theorem dX1_joined_131 : decode cX1_joined 131 = .ok (.iload_n 1, 1) := by decide +kernel
theorem dX1_joined_132 : decode cX1_joined 132 = .ok (.iload_n 2, 1) := by decide +kernel
theorem dX1_joined_133 : decode cX1_joined 133 = .ok (.if_icmp .le 7, 3) := by decide +kernel
theorem dX1_joined_136 : decode cX1_joined 136 = .ok (.iconst 1, 1) := by decide +kernel
theorem dX1_joined_137 : decode cX1_joined 137 = .ok (.goto 4, 3) := by decide +kernel
theorem dX1_joined_140 : decode cX1_joined 140 = .ok (.iconst 0, 1) := by decide +kernel
theorem dX1_joined_141 : decode cX1_joined 141 = .ok (.ireturn, 1) := by decide +kernel
theorem dX1_joined_142 : decode cX1_joined 142 = .ok (.iload_n 1, 1) := by decide +kernel
theorem dX1_joined_143 : decode cX1_joined 143 = .ok (.iload_n 2, 1) := by decide +kernel
theorem dX1_joined_144 : decode cX1_joined 144 = .ok (.if_icmp .ne 7, 3) := by decide +kernel
theorem dX1_joined_147 : decode cX1_joined 147 = .ok (.iconst 1, 1) := by decide +kernel
theorem dX1_joined_148 : decode cX1_joined 148 = .ok (.goto 4, 3) := by decide +kernel
theorem dX1_joined_151 : decode cX1_joined 151 = .ok (.iconst 0, 1) := by decide +kernel
theorem dX1_joined_152 : decode cX1_joined 152 = .ok (.ireturn, 1) := by decide +kernel
theorem dX1_joined_153 : decode cX1_joined 153 = .ok (.iload_n 1, 1) := by decide +kernel
theorem dX1_joined_154 : decode cX1_joined 154 = .ok (.iload_n 2, 1) := by decide +kernel
theorem dX1_joined_155 : decode cX1_joined 155 = .ok (.iadd, 1) := by decide +kernel
theorem dX1_joined_156 : decode cX1_joined 156 = .ok (.ireturn, 1) := by decide +kernel
theorem dX1_joined_157 : decode cX1_joined 157 = .ok (.iload_n 1, 1) := by decide +kernel
theorem dX1_joined_158 : decode cX1_joined 158 = .ok (.iload_n 2, 1) := by decide +kernel
theorem dX1_joined_159 : decode cX1_joined 159 = .ok (.isub, 1) := by decide +kernel
theorem dX1_joined_160 : decode cX1_joined 160 = .ok (.ireturn, 1) := by decide +kernel
theorem dX1_joined_161 : decode cX1_joined 161 = .ok (.iload_n 1, 1) := by decide +kernel
theorem dX1_joined_162 : decode cX1_joined 162 = .ok (.iload_n 2, 1) := by decide +kernel
theorem dX1_joined_163 : decode cX1_joined 163 = .ok (.imul, 1) := by decide +kernel
theorem dX1_joined_164 : decode cX1_joined 164 = .ok (.ireturn, 1) := by decide +kernel
theorem dX1_joined_165 : decode cX1_joined 165 = .ok (.iload_n 2, 1) := by decide +kernel
theorem dX1_joined_166 : decode cX1_joined 166 = .ok (.ifCond .ne 7, 3) := by decide +kernel
theorem dX1_joined_169 : decode cX1_joined 169 = .ok (.iconst 0, 1) := by decide +kernel
theorem dX1_joined_170 : decode cX1_joined 170 = .ok (.goto 6, 3) := by decide +kernel
theorem dX1_joined_173 : decode cX1_joined 173 = .ok (.iload_n 1, 1) := by decide +kernel
theorem dX1_joined_174 : decode cX1_joined 174 = .ok (.iload_n 2, 1) := by decide +kernel
theorem dX1_joined_175 : decode cX1_joined 175 = .ok (.idiv, 1) := by decide +kernel
theorem dX1_joined_176 : decode cX1_joined 176 = .ok (.ireturn, 1) := by decide +kernel
theorem dX1_joined_177 : decode cX1_joined 177 = .ok (.iload_n 2, 1) := by decide +kernel
theorem dX1_joined_178 : decode cX1_joined 178 = .ok (.ifCond .ne 7, 3) := by decide +kernel
theorem dX1_joined_181 : decode cX1_joined 181 = .ok (.iconst 0, 1) := by decide +kernel
theorem dX1_joined_182 : decode cX1_joined 182 = .ok (.goto 6, 3) := by decide +kernel
theorem dX1_joined_185 : decode cX1_joined 185 = .ok (.iload_n 1, 1) := by decide +kernel
theorem dX1_joined_186 : decode cX1_joined 186 = .ok (.iload_n 2, 1) := by decide +kernel
theorem dX1_joined_187 : decode cX1_joined 187 = .ok (.irem, 1) := by decide +kernel
theorem dX1_joined_188 : decode cX1_joined 188 = .ok (.ireturn, 1) := by decide +kernel
theorem dX1_joined_189 : decode cX1_joined 189 = .ok (.iconst 0, 1) := by decide +kernel
theorem dX1_joined_190 : decode cX1_joined 190 = .ok (.ireturn, 1) := by decide +kernel
theorem dX2_init_0 : decode cX2_init 0 = .ok (.aload_n 0, 1) := by decide +kernel
theorem dX2_init_1 : decode cX2_init 1 = .ok (.invokespecial 3, 3) := by decide +kernel
theorem dX2_init_4 : decode cX2_init 4 = .ok (.aload_n 0, 1) := by decide +kernel
theorem dX2_init_5 : decode cX2_init 5 = .ok (.aload_n 1, 1) := by decide +kernel
theorem dX2_init_6 : decode cX2_init 6 = .ok (.putfield 9, 3) := by decide +kernel
theorem dX2_init_9 : decode cX2_init 9 = .ok (.aload_n 0, 1) := by decide +kernel
theorem dX2_init_10 : decode cX2_init 10 = .ok (.new 15, 3) := by decide +kernel
theorem dX2_init_13 : decode cX2_init 13 = .ok (.dup, 1) := by decide +kernel
theorem dX2_init_14 : decode cX2_init 14 = .ok (.bipush 64, 2) := by decide +kernel
theorem dX2_init_16 : decode cX2_init 16 = .ok (.invokespecial 17, 3) := by decide +kernel
theorem dX2_init_19 : decode cX2_init 19 = .ok (.putfield 20, 3) := by decide +kernel
theorem dX2_init_22 : decode cX2_init 22 = .ok (.return_, 1) := by decide +kernel
theorem dX2_readFormula_0 : decode cX2_readFormula 0 = .ok (.aload_n 1, 1) := by decide +kernel
theorem dX2_readFormula_1 : decode cX2_readFormula 1 = .ok (.invokevirtual 24, 3) := by decide +kernel
theorem dX2_readFormula_4 : decode cX2_readFormula 4 = .ok (.aload_n 0, 1) := by decide +kernel
theorem dX2_readFormula_5 : decode cX2_readFormula 5 = .ok (.getfield 20, 3) := by decide +kernel
theorem dX2_readFormula_8 : decode cX2_readFormula 8 = .ok (.invokevirtual 29, 3) := by decide +kernel
theorem dX2_readFormula_11 : decode cX2_readFormula 11 = .ok (.aload_n 0, 1) := by decide +kernel
theorem dX2_readFormula_12 : decode cX2_readFormula 12 = .ok (.iconst 0, 1) := by decide +kernel
theorem dX2_readFormula_13 : decode cX2_readFormula 13 = .ok (.putfield 30, 3) := by decide +kernel
theorem dX2_readFormula_16 : decode cX2_readFormula 16 = .ok (.iconst 0, 1) := by decide +kernel
theorem dX2_readFormula_17 : decode cX2_readFormula 17 = .ok (.istore_n 2, 1) := by decide +kernel
theorem dX2_readFormula_18 : decode cX2_readFormula 18 = .ok (.iconst 0, 1) := by decide +kernel
theorem dX2_readFormula_19 : decode cX2_readFormula 19 = .ok (.istore_n 3, 1) := by decide +kernel
theorem dX2_readFormula_20 : decode cX2_readFormula 20 = .ok (.iload_n 3, 1) := by decide +kernel
theorem dX2_readFormula_21 : decode cX2_readFormula 21 = .ok (.sipush 1600, 3) := by decide +kernel
theorem dX2_readFormula_24 : decode cX2_readFormula 24 = .ok (.if_icmp .gt 45, 3) := by decide +kernel
theorem dX2_readFormula_27 : decode cX2_readFormula 27 = .ok (.iload_n 2, 1) := by decide +kernel
theorem dX2_readFormula_28 : decode cX2_readFormula 28 = .ok (.iconst 3, 1) := by decide +kernel
theorem dX2_readFormula_29 : decode cX2_readFormula 29 = .ok (.if_icmp .eq 40, 3) := by decide +kernel
theorem dX2_readFormula_32 : decode cX2_readFormula 32 = .ok (.iload_n 2, 1) := by decide +kernel
theorem dX2_readFormula_33 : decode cX2_readFormula 33 = .ok (.iconst 2, 1) := by decide +kernel
theorem dX2_readFormula_34 : decode cX2_readFormula 34 = .ok (.if_icmp .ne 11, 3) := by decide +kernel
theorem dX2_readFormula_37 : decode cX2_readFormula 37 = .ok (.aload_n 0, 1) := by decide +kernel
theorem dX2_readFormula_38 : decode cX2_readFormula 38 = .ok (.aload_n 1, 1) := by decide +kernel
theorem dX2_readFormula_39 : decode cX2_readFormula 39 = .ok (.invokevirtual 34, 3) := by decide +kernel
theorem dX2_readFormula_42 : decode cX2_readFormula 42 = .ok (.goto 9, 3) := by decide +kernel
theorem dX2_readFormula_45 : decode cX2_readFormula 45 = .ok (.aload_n 0, 1) := by decide +kernel
theorem dX2_readFormula_46 : decode cX2_readFormula 46 = .ok (.aload_n 1, 1) := by decide +kernel
theorem dX2_readFormula_47 : decode cX2_readFormula 47 = .ok (.iload_n 2, 1) := by decide +kernel
theorem dX2_readFormula_48 : decode cX2_readFormula 48 = .ok (.invokevirtual 38, 3) := by decide +kernel
theorem dX2_readFormula_51 : decode cX2_readFormula 51 = .ok (.istore_n 2, 1) := by decide +kernel
theorem dX2_readFormula_52 : decode cX2_readFormula 52 = .ok (.aload_n 0, 1) := by decide +kernel
theorem dX2_readFormula_53 : decode cX2_readFormula 53 = .ok (.getfield 9, 3) := by decide +kernel
theorem dX2_readFormula_56 : decode cX2_readFormula 56 = .ok (.invokevirtual 42, 3) := by decide +kernel
theorem dX2_readFormula_59 : decode cX2_readFormula 59 = .ok (.ifCond .eq 4, 3) := by decide +kernel
theorem dX2_readFormula_62 : decode cX2_readFormula 62 = .ok (.return_, 1) := by decide +kernel
theorem dX2_readFormula_63 : decode cX2_readFormula 63 = .ok (.iinc 3 1, 3) := by decide +kernel
theorem dX2_readFormula_66 : decode cX2_readFormula 66 = .ok (.goto (-46), 3) := by decide +kernel
theorem dX2_readFormula_69 : decode cX2_readFormula 69 = .ok (.return_, 1) := by decide +kernel
theorem dX2_readUnit_0 : decode cX2_readUnit 0 = .ok (.aload_n 0, 1) := by decide +kernel
theorem dX2_readUnit_1 : decode cX2_readUnit 1 = .ok (.getfield 9, 3) := by decide +kernel
theorem dX2_readUnit_4 : decode cX2_readUnit 4 = .ok (.getfield 48, 3) := by decide +kernel
theorem dX2_readUnit_7 : decode cX2_readUnit 7 = .ok (.istore_n 3, 1) := by decide +kernel
theorem dX2_readUnit_8 : decode cX2_readUnit 8 = .ok (.iload_n 3, 1) := by decide +kernel
theorem dX2_readUnit_9 : decode cX2_readUnit 9 = .ok (.bipush 108, 2) := by decide +kernel
theorem dX2_readUnit_11 : decode cX2_readUnit 11 = .ok (.if_icmp .ne 14, 3) := by decide +kernel
theorem dX2_readUnit_14 : decode cX2_readUnit 14 = .ok (.iload_n 2, 1) := by decide +kernel
theorem dX2_readUnit_15 : decode cX2_readUnit 15 = .ok (.ifCond .ne 10, 3) := by decide +kernel
theorem dX2_readUnit_18 : decode cX2_readUnit 18 = .ok (.aload_n 0, 1) := by decide +kernel
theorem dX2_readUnit_19 : decode cX2_readUnit 19 = .ok (.iload_n 3, 1) := by decide +kernel
theorem dX2_readUnit_20 : decode cX2_readUnit 20 = .ok (.invokevirtual 51, 3) := by decide +kernel
theorem dX2_readUnit_23 : decode cX2_readUnit 23 = .ok (.iconst 0, 1) := by decide +kernel
theorem dX2_readUnit_24 : decode cX2_readUnit 24 = .ok (.ireturn, 1) := by decide +kernel
theorem dX2_readUnit_25 : decode cX2_readUnit 25 = .ok (.aload_n 1, 1) := by decide +kernel
theorem dX2_readUnit_26 : decode cX2_readUnit 26 = .ok (.getfield 54, 3) := by decide +kernel
theorem dX2_readUnit_29 : decode cX2_readUnit 29 = .ok (.bipush 30, 2) := by decide +kernel
theorem dX2_readUnit_31 : decode cX2_readUnit 31 = .ok (.if_icmp .ge 10, 3) := by decide +kernel
theorem dX2_readUnit_34 : decode cX2_readUnit 34 = .ok (.iload_n 3, 1) := by decide +kernel
theorem dX2_readUnit_35 : decode cX2_readUnit 35 = .ok (.invokestatic 57, 3) := by decide +kernel
theorem dX2_readUnit_38 : decode cX2_readUnit 38 = .ok (.ifCond .ne 13, 3) := by decide +kernel
theorem dX2_readUnit_41 : decode cX2_readUnit 41 = .ok (.aload_n 0, 1) := by decide +kernel
theorem dX2_readUnit_42 : decode cX2_readUnit 42 = .ok (.getfield 9, 3) := by decide +kernel
theorem dX2_readUnit_45 : decode cX2_readUnit 45 = .ok (.iconst 2, 1) := by decide +kernel
theorem dX2_readUnit_46 : decode cX2_readUnit 46 = .ok (.invokevirtual 61, 3) := by decide +kernel
theorem dX2_readUnit_49 : decode cX2_readUnit 49 = .ok (.iconst 3, 1) := by decide +kernel
theorem dX2_readUnit_50 : decode cX2_readUnit 50 = .ok (.ireturn, 1) := by decide +kernel
theorem dX2_readUnit_51 : decode cX2_readUnit 51 = .ok (.aload_n 1, 1) := by decide +kernel
theorem dX2_readUnit_52 : decode cX2_readUnit 52 = .ok (.dup, 1) := by decide +kernel
theorem dX2_readUnit_53 : decode cX2_readUnit 53 = .ok (.getfield 54, 3) := by decide +kernel
theorem dX2_readUnit_56 : decode cX2_readUnit 56 = .ok (.iconst 1, 1) := by decide +kernel
theorem dX2_readUnit_57 : decode cX2_readUnit 57 = .ok (.iadd, 1) := by decide +kernel
theorem dX2_readUnit_58 : decode cX2_readUnit 58 = .ok (.putfield 54, 3) := by decide +kernel
theorem dX2_readUnit_61 : decode cX2_readUnit 61 = .ok (.iload_n 3, 1) := by decide +kernel
theorem dX2_readUnit_62 : decode cX2_readUnit 62 = .ok (.bipush 40, 2) := by decide +kernel
theorem dX2_readUnit_64 : decode cX2_readUnit 64 = .ok (.if_icmp .ne 10, 3) := by decide +kernel
theorem dX2_readUnit_67 : decode cX2_readUnit 67 = .ok (.aload_n 0, 1) := by decide +kernel
theorem dX2_readUnit_68 : decode cX2_readUnit 68 = .ok (.iload_n 3, 1) := by decide +kernel
theorem dX2_readUnit_69 : decode cX2_readUnit 69 = .ok (.invokevirtual 51, 3) := by decide +kernel
theorem dX2_readUnit_72 : decode cX2_readUnit 72 = .ok (.iconst 0, 1) := by decide +kernel
theorem dX2_readUnit_73 : decode cX2_readUnit 73 = .ok (.ireturn, 1) := by decide +kernel
theorem dX2_readUnit_74 : decode cX2_readUnit 74 = .ok (.aload_n 1, 1) := by decide +kernel
theorem dX2_readUnit_75 : decode cX2_readUnit 75 = .ok (.iload_n 3, 1) := by decide +kernel
theorem dX2_readUnit_76 : decode cX2_readUnit 76 = .ok (.iconst 2, 1) := by decide +kernel
theorem dX2_readUnit_77 : decode cX2_readUnit 77 = .ok (.if_icmp .ne 17, 3) := by decide +kernel
theorem dX2_readUnit_80 : decode cX2_readUnit 80 = .ok (.sipush 1000, 3) := by decide +kernel
theorem dX2_readUnit_83 : decode cX2_readUnit 83 = .ok (.aload_n 0, 1) := by decide +kernel
theorem dX2_readUnit_84 : decode cX2_readUnit 84 = .ok (.getfield 9, 3) := by decide +kernel
theorem dX2_readUnit_87 : decode cX2_readUnit 87 = .ok (.getfield 64, 3) := by decide +kernel
theorem dX2_readUnit_90 : decode cX2_readUnit 90 = .ok (.iadd, 1) := by decide +kernel
theorem dX2_readUnit_91 : decode cX2_readUnit 91 = .ok (.goto 4, 3) := by decide +kernel
theorem dX2_readUnit_94 : decode cX2_readUnit 94 = .ok (.iload_n 3, 1) := by decide +kernel
theorem dX2_readUnit_95 : decode cX2_readUnit 95 = .ok (.invokevirtual 67, 3) := by decide +kernel
theorem dX2_readUnit_98 : decode cX2_readUnit 98 = .ok (.aload_n 0, 1) := by decide +kernel
theorem dX2_readUnit_99 : decode cX2_readUnit 99 = .ok (.getfield 9, 3) := by decide +kernel
theorem dX2_readUnit_102 : decode cX2_readUnit 102 = .ok (.invokevirtual 70, 3) := by decide +kernel
theorem dX2_readUnit_105 : decode cX2_readUnit 105 = .ok (.iconst 2, 1) := by decide +kernel
theorem dX2_readUnit_106 : decode cX2_readUnit 106 = .ok (.ireturn, 1) := by decide +kernel
theorem dX2_beginsUnit_0 : decode cX2_beginsUnit 0 = .ok (.iload_n 0, 1) := by decide +kernel
theorem dX2_beginsUnit_1 : decode cX2_beginsUnit 1 = .ok (.bipush 109, 2) := by decide +kernel
theorem dX2_beginsUnit_3 : decode cX2_beginsUnit 3 = .ok (.if_icmp .lt 13, 3) := by decide +kernel
theorem dX2_beginsUnit_6 : decode cX2_beginsUnit 6 = .ok (.iload_n 0, 1) := by decide +kernel
theorem dX2_beginsUnit_7 : decode cX2_beginsUnit 7 = .ok (.bipush 113, 2) := by decide +kernel
theorem dX2_beginsUnit_9 : decode cX2_beginsUnit 9 = .ok (.if_icmp .gt 7, 3) := by decide +kernel
theorem dX2_beginsUnit_12 : decode cX2_beginsUnit 12 = .ok (.iconst 1, 1) := by decide +kernel
theorem dX2_beginsUnit_13 : decode cX2_beginsUnit 13 = .ok (.goto 4, 3) := by decide +kernel
theorem dX2_beginsUnit_16 : decode cX2_beginsUnit 16 = .ok (.iconst 0, 1) := by decide +kernel
theorem dX2_beginsUnit_17 : decode cX2_beginsUnit 17 = .ok (.istore_n 1, 1) := by decide +kernel
theorem dX2_beginsUnit_18 : decode cX2_beginsUnit 18 = .ok (.iload_n 1, 1) := by decide +kernel
theorem dX2_beginsUnit_19 : decode cX2_beginsUnit 19 = .ok (.ifCond .ne 14, 3) := by decide +kernel
theorem dX2_beginsUnit_22 : decode cX2_beginsUnit 22 = .ok (.iload_n 0, 1) := by decide +kernel
theorem dX2_beginsUnit_23 : decode cX2_beginsUnit 23 = .ok (.iconst 2, 1) := by decide +kernel
theorem dX2_beginsUnit_24 : decode cX2_beginsUnit 24 = .ok (.if_icmp .eq 9, 3) := by decide +kernel
theorem dX2_beginsUnit_27 : decode cX2_beginsUnit 27 = .ok (.iload_n 0, 1) := by decide +kernel
theorem dX2_beginsUnit_28 : decode cX2_beginsUnit 28 = .ok (.bipush 40, 2) := by decide +kernel
theorem dX2_beginsUnit_30 : decode cX2_beginsUnit 30 = .ok (.if_icmp .ne 7, 3) := by decide +kernel
theorem dX2_beginsUnit_33 : decode cX2_beginsUnit 33 = .ok (.iconst 1, 1) := by decide +kernel
theorem dX2_beginsUnit_34 : decode cX2_beginsUnit 34 = .ok (.goto 4, 3) := by decide +kernel
theorem dX2_beginsUnit_37 : decode cX2_beginsUnit 37 = .ok (.iconst 0, 1) := by decide +kernel
theorem dX2_beginsUnit_38 : decode cX2_beginsUnit 38 = .ok (.ireturn, 1) := by decide +kernel
theorem dX2_open_0 : decode cX2_open 0 = .ok (.aload_n 0, 1) := by decide +kernel
theorem dX2_open_1 : decode cX2_open 1 = .ok (.getfield 30, 3) := by decide +kernel
theorem dX2_open_4 : decode cX2_open 4 = .ok (.bipush 6, 2) := by decide +kernel
theorem dX2_open_6 : decode cX2_open 6 = .ok (.if_icmp .le 12, 3) := by decide +kernel
theorem dX2_open_9 : decode cX2_open 9 = .ok (.aload_n 0, 1) := by decide +kernel
theorem dX2_open_10 : decode cX2_open 10 = .ok (.getfield 9, 3) := by decide +kernel
theorem dX2_open_13 : decode cX2_open 13 = .ok (.iconst 2, 1) := by decide +kernel
theorem dX2_open_14 : decode cX2_open 14 = .ok (.invokevirtual 61, 3) := by decide +kernel
theorem dX2_open_17 : decode cX2_open 17 = .ok (.return_, 1) := by decide +kernel
theorem dX2_open_18 : decode cX2_open 18 = .ok (.aload_n 0, 1) := by decide +kernel
theorem dX2_open_19 : decode cX2_open 19 = .ok (.dup, 1) := by decide +kernel
theorem dX2_open_20 : decode cX2_open 20 = .ok (.getfield 30, 3) := by decide +kernel
theorem dX2_open_23 : decode cX2_open 23 = .ok (.iconst 1, 1) := by decide +kernel
theorem dX2_open_24 : decode cX2_open 24 = .ok (.iadd, 1) := by decide +kernel
theorem dX2_open_25 : decode cX2_open 25 = .ok (.putfield 30, 3) := by decide +kernel
theorem dX2_open_28 : decode cX2_open 28 = .ok (.aload_n 0, 1) := by decide +kernel
theorem dX2_open_29 : decode cX2_open 29 = .ok (.getfield 20, 3) := by decide +kernel
theorem dX2_open_32 : decode cX2_open 32 = .ok (.iload_n 1, 1) := by decide +kernel
theorem dX2_open_33 : decode cX2_open 33 = .ok (.invokevirtual 73, 3) := by decide +kernel
theorem dX2_open_36 : decode cX2_open 36 = .ok (.aload_n 0, 1) := by decide +kernel
theorem dX2_open_37 : decode cX2_open 37 = .ok (.getfield 9, 3) := by decide +kernel
theorem dX2_open_40 : decode cX2_open 40 = .ok (.invokevirtual 70, 3) := by decide +kernel
theorem dX2_open_43 : decode cX2_open 43 = .ok (.return_, 1) := by decide +kernel
theorem dX2_readSign_0 : decode cX2_readSign 0 = .ok (.aload_n 0, 1) := by decide +kernel
theorem dX2_readSign_1 : decode cX2_readSign 1 = .ok (.getfield 9, 3) := by decide +kernel
theorem dX2_readSign_4 : decode cX2_readSign 4 = .ok (.getfield 48, 3) := by decide +kernel
theorem dX2_readSign_7 : decode cX2_readSign 7 = .ok (.istore_n 2, 1) := by decide +kernel
theorem dX2_readSign_8 : decode cX2_readSign 8 = .ok (.iload_n 2, 1) := by decide +kernel
theorem dX2_readSign_9 : decode cX2_readSign 9 = .ok (.invokestatic 74, 3) := by decide +kernel
theorem dX2_readSign_12 : decode cX2_readSign 12 = .ok (.istore_n 3, 1) := by decide +kernel
theorem dX2_readSign_13 : decode cX2_readSign 13 = .ok (.iload_n 2, 1) := by decide +kernel
theorem dX2_readSign_14 : decode cX2_readSign 14 = .ok (.bipush 59, 2) := by decide +kernel
theorem dX2_readSign_16 : decode cX2_readSign 16 = .ok (.if_icmp .eq 9, 3) := by decide +kernel
theorem dX2_readSign_19 : decode cX2_readSign 19 = .ok (.iload_n 2, 1) := by decide +kernel
theorem dX2_readSign_20 : decode cX2_readSign 20 = .ok (.bipush 41, 2) := by decide +kernel
theorem dX2_readSign_22 : decode cX2_readSign 22 = .ok (.if_icmp .ne 10, 3) := by decide +kernel
theorem dX2_readSign_25 : decode cX2_readSign 25 = .ok (.aload_n 0, 1) := by decide +kernel
theorem dX2_readSign_26 : decode cX2_readSign 26 = .ok (.aload_n 1, 1) := by decide +kernel
theorem dX2_readSign_27 : decode cX2_readSign 27 = .ok (.iload_n 2, 1) := by decide +kernel
theorem dX2_readSign_28 : decode cX2_readSign 28 = .ok (.invokevirtual 78, 3) := by decide +kernel
theorem dX2_readSign_31 : decode cX2_readSign 31 = .ok (.ireturn, 1) := by decide +kernel
theorem dX2_readSign_32 : decode cX2_readSign 32 = .ok (.aload_n 0, 1) := by decide +kernel
theorem dX2_readSign_33 : decode cX2_readSign 33 = .ok (.aload_n 1, 1) := by decide +kernel
theorem dX2_readSign_34 : decode cX2_readSign 34 = .ok (.iload_n 3, 1) := by decide +kernel
theorem dX2_readSign_35 : decode cX2_readSign 35 = .ok (.iconst 4, 1) := by decide +kernel
theorem dX2_readSign_36 : decode cX2_readSign 36 = .ok (.if_icmp .ne 7, 3) := by decide +kernel
theorem dX2_readSign_39 : decode cX2_readSign 39 = .ok (.iconst 5, 1) := by decide +kernel
theorem dX2_readSign_40 : decode cX2_readSign 40 = .ok (.goto 4, 3) := by decide +kernel
theorem dX2_readSign_43 : decode cX2_readSign 43 = .ok (.iload_n 3, 1) := by decide +kernel
theorem dX2_readSign_44 : decode cX2_readSign 44 = .ok (.invokevirtual 81, 3) := by decide +kernel
theorem dX2_readSign_47 : decode cX2_readSign 47 = .ok (.iload_n 3, 1) := by decide +kernel
theorem dX2_readSign_48 : decode cX2_readSign 48 = .ok (.iconst 4, 1) := by decide +kernel
theorem dX2_readSign_49 : decode cX2_readSign 49 = .ok (.if_icmp .ne 21, 3) := by decide +kernel
theorem dX2_readSign_52 : decode cX2_readSign 52 = .ok (.aload_n 0, 1) := by decide +kernel
theorem dX2_readSign_53 : decode cX2_readSign 53 = .ok (.getfield 20, 3) := by decide +kernel
theorem dX2_readSign_56 : decode cX2_readSign 56 = .ok (.invokevirtual 85, 3) := by decide +kernel
theorem dX2_readSign_59 : decode cX2_readSign 59 = .ok (.invokestatic 74, 3) := by decide +kernel
theorem dX2_readSign_62 : decode cX2_readSign 62 = .ok (.iconst 4, 1) := by decide +kernel
theorem dX2_readSign_63 : decode cX2_readSign 63 = .ok (.if_icmp .ne 7, 3) := by decide +kernel
theorem dX2_readSign_66 : decode cX2_readSign 66 = .ok (.iconst 1, 1) := by decide +kernel
theorem dX2_readSign_67 : decode cX2_readSign 67 = .ok (.goto 4, 3) := by decide +kernel
theorem dX2_readSign_70 : decode cX2_readSign 70 = .ok (.iconst 0, 1) := by decide +kernel
theorem dX2_readSign_71 : decode cX2_readSign 71 = .ok (.istore 4, 2) := by decide +kernel
theorem dX2_readSign_73 : decode cX2_readSign 73 = .ok (.iload_n 3, 1) := by decide +kernel
theorem dX2_readSign_74 : decode cX2_readSign 74 = .ok (.ifCond .eq 13, 3) := by decide +kernel
theorem dX2_readSign_77 : decode cX2_readSign 77 = .ok (.iload_n 3, 1) := by decide +kernel
theorem dX2_readSign_78 : decode cX2_readSign 78 = .ok (.iconst 3, 1) := by decide +kernel
theorem dX2_readSign_79 : decode cX2_readSign 79 = .ok (.if_icmp .eq 8, 3) := by decide +kernel
theorem dX2_readSign_82 : decode cX2_readSign 82 = .ok (.iload 4, 2) := by decide +kernel
theorem dX2_readSign_84 : decode cX2_readSign 84 = .ok (.ifCond .eq 13, 3) := by decide +kernel
theorem dX2_readSign_87 : decode cX2_readSign 87 = .ok (.aload_n 0, 1) := by decide +kernel
theorem dX2_readSign_88 : decode cX2_readSign 88 = .ok (.getfield 9, 3) := by decide +kernel
theorem dX2_readSign_91 : decode cX2_readSign 91 = .ok (.iconst 2, 1) := by decide +kernel
theorem dX2_readSign_92 : decode cX2_readSign 92 = .ok (.invokevirtual 61, 3) := by decide +kernel
theorem dX2_readSign_95 : decode cX2_readSign 95 = .ok (.iconst 3, 1) := by decide +kernel
theorem dX2_readSign_96 : decode cX2_readSign 96 = .ok (.ireturn, 1) := by decide +kernel
theorem dX2_readSign_97 : decode cX2_readSign 97 = .ok (.aload_n 0, 1) := by decide +kernel
theorem dX2_readSign_98 : decode cX2_readSign 98 = .ok (.getfield 20, 3) := by decide +kernel
theorem dX2_readSign_101 : decode cX2_readSign 101 = .ok (.iload_n 2, 1) := by decide +kernel
theorem dX2_readSign_102 : decode cX2_readSign 102 = .ok (.invokevirtual 73, 3) := by decide +kernel
theorem dX2_readSign_105 : decode cX2_readSign 105 = .ok (.aload_n 0, 1) := by decide +kernel
theorem dX2_readSign_106 : decode cX2_readSign 106 = .ok (.getfield 9, 3) := by decide +kernel
theorem dX2_readSign_109 : decode cX2_readSign 109 = .ok (.invokevirtual 70, 3) := by decide +kernel
theorem dX2_readSign_112 : decode cX2_readSign 112 = .ok (.iload_n 3, 1) := by decide +kernel
theorem dX2_readSign_113 : decode cX2_readSign 113 = .ok (.iconst 2, 1) := by decide +kernel
theorem dX2_readSign_114 : decode cX2_readSign 114 = .ok (.if_icmp .gt 7, 3) := by decide +kernel
theorem dX2_readSign_117 : decode cX2_readSign 117 = .ok (.iconst 0, 1) := by decide +kernel
theorem dX2_readSign_118 : decode cX2_readSign 118 = .ok (.goto 4, 3) := by decide +kernel
theorem dX2_readSign_121 : decode cX2_readSign 121 = .ok (.iconst 1, 1) := by decide +kernel
theorem dX2_readSign_122 : decode cX2_readSign 122 = .ok (.ireturn, 1) := by decide +kernel
theorem dX2_close_0 : decode cX2_close 0 = .ok (.aload_n 0, 1) := by decide +kernel
theorem dX2_close_1 : decode cX2_close 1 = .ok (.aload_n 1, 1) := by decide +kernel
theorem dX2_close_2 : decode cX2_close 2 = .ok (.iconst 1, 1) := by decide +kernel
theorem dX2_close_3 : decode cX2_close 3 = .ok (.invokevirtual 81, 3) := by decide +kernel
theorem dX2_close_6 : decode cX2_close 6 = .ok (.aload_n 0, 1) := by decide +kernel
theorem dX2_close_7 : decode cX2_close 7 = .ok (.getfield 20, 3) := by decide +kernel
theorem dX2_close_10 : decode cX2_close 10 = .ok (.invokevirtual 89, 3) := by decide +kernel
theorem dX2_close_13 : decode cX2_close 13 = .ok (.ifCond .le 7, 3) := by decide +kernel
theorem dX2_close_16 : decode cX2_close 16 = .ok (.iconst 1, 1) := by decide +kernel
theorem dX2_close_17 : decode cX2_close 17 = .ok (.goto 4, 3) := by decide +kernel
theorem dX2_close_20 : decode cX2_close 20 = .ok (.iconst 0, 1) := by decide +kernel
theorem dX2_close_21 : decode cX2_close 21 = .ok (.istore_n 3, 1) := by decide +kernel
theorem dX2_close_22 : decode cX2_close 22 = .ok (.iload_n 3, 1) := by decide +kernel
theorem dX2_close_23 : decode cX2_close 23 = .ok (.iload_n 2, 1) := by decide +kernel
theorem dX2_close_24 : decode cX2_close 24 = .ok (.bipush 41, 2) := by decide +kernel
theorem dX2_close_26 : decode cX2_close 26 = .ok (.if_icmp .ne 7, 3) := by decide +kernel
theorem dX2_close_29 : decode cX2_close 29 = .ok (.iconst 1, 1) := by decide +kernel
theorem dX2_close_30 : decode cX2_close 30 = .ok (.goto 4, 3) := by decide +kernel
theorem dX2_close_33 : decode cX2_close 33 = .ok (.iconst 0, 1) := by decide +kernel
theorem dX2_close_34 : decode cX2_close 34 = .ok (.if_icmp .eq 13, 3) := by decide +kernel
theorem dX2_close_37 : decode cX2_close 37 = .ok (.aload_n 0, 1) := by decide +kernel
theorem dX2_close_38 : decode cX2_close 38 = .ok (.getfield 9, 3) := by decide +kernel
theorem dX2_close_41 : decode cX2_close 41 = .ok (.iconst 2, 1) := by decide +kernel
theorem dX2_close_42 : decode cX2_close 42 = .ok (.invokevirtual 61, 3) := by decide +kernel
theorem dX2_close_45 : decode cX2_close 45 = .ok (.iconst 3, 1) := by decide +kernel
theorem dX2_close_46 : decode cX2_close 46 = .ok (.ireturn, 1) := by decide +kernel
theorem dX2_close_47 : decode cX2_close 47 = .ok (.iload_n 2, 1) := by decide +kernel
theorem dX2_close_48 : decode cX2_close 48 = .ok (.bipush 59, 2) := by decide +kernel
theorem dX2_close_50 : decode cX2_close 50 = .ok (.if_icmp .ne 5, 3) := by decide +kernel
theorem dX2_close_53 : decode cX2_close 53 = .ok (.iconst 3, 1) := by decide +kernel
theorem dX2_close_54 : decode cX2_close 54 = .ok (.ireturn, 1) := by decide +kernel
theorem dX2_close_55 : decode cX2_close 55 = .ok (.aload_n 0, 1) := by decide +kernel
theorem dX2_close_56 : decode cX2_close 56 = .ok (.getfield 20, 3) := by decide +kernel
theorem dX2_close_59 : decode cX2_close 59 = .ok (.invokevirtual 92, 3) := by decide +kernel
theorem dX2_close_62 : decode cX2_close 62 = .ok (.pop, 1) := by decide +kernel
theorem dX2_close_63 : decode cX2_close 63 = .ok (.aload_n 0, 1) := by decide +kernel
theorem dX2_close_64 : decode cX2_close 64 = .ok (.dup, 1) := by decide +kernel
theorem dX2_close_65 : decode cX2_close 65 = .ok (.getfield 30, 3) := by decide +kernel
theorem dX2_close_68 : decode cX2_close 68 = .ok (.iconst 1, 1) := by decide +kernel
theorem dX2_close_69 : decode cX2_close 69 = .ok (.isub, 1) := by decide +kernel
theorem dX2_close_70 : decode cX2_close 70 = .ok (.putfield 30, 3) := by decide +kernel
theorem dX2_close_73 : decode cX2_close 73 = .ok (.aload_n 0, 1) := by decide +kernel
theorem dX2_close_74 : decode cX2_close 74 = .ok (.getfield 9, 3) := by decide +kernel
theorem dX2_close_77 : decode cX2_close 77 = .ok (.invokevirtual 70, 3) := by decide +kernel
theorem dX2_close_80 : decode cX2_close 80 = .ok (.iconst 2, 1) := by decide +kernel
theorem dX2_close_81 : decode cX2_close 81 = .ok (.ireturn, 1) := by decide +kernel
theorem dX2_settle_0 : decode cX2_settle 0 = .ok (.iconst 0, 1) := by decide +kernel
theorem dX2_settle_1 : decode cX2_settle 1 = .ok (.istore_n 3, 1) := by decide +kernel
theorem dX2_settle_2 : decode cX2_settle 2 = .ok (.iload_n 3, 1) := by decide +kernel
theorem dX2_settle_3 : decode cX2_settle 3 = .ok (.bipush 64, 2) := by decide +kernel
theorem dX2_settle_5 : decode cX2_settle 5 = .ok (.if_icmp .ge 64, 3) := by decide +kernel
theorem dX2_settle_8 : decode cX2_settle 8 = .ok (.aload_n 0, 1) := by decide +kernel
theorem dX2_settle_9 : decode cX2_settle 9 = .ok (.getfield 20, 3) := by decide +kernel
theorem dX2_settle_12 : decode cX2_settle 12 = .ok (.invokevirtual 85, 3) := by decide +kernel
theorem dX2_settle_15 : decode cX2_settle 15 = .ok (.invokestatic 74, 3) := by decide +kernel
theorem dX2_settle_18 : decode cX2_settle 18 = .ok (.istore 4, 2) := by decide +kernel
theorem dX2_settle_20 : decode cX2_settle 20 = .ok (.iload 4, 2) := by decide +kernel
theorem dX2_settle_22 : decode cX2_settle 22 = .ok (.ifCond .eq 9, 3) := by decide +kernel
theorem dX2_settle_25 : decode cX2_settle 25 = .ok (.iload 4, 2) := by decide +kernel
theorem dX2_settle_27 : decode cX2_settle 27 = .ok (.iload_n 2, 1) := by decide +kernel
theorem dX2_settle_28 : decode cX2_settle 28 = .ok (.if_icmp .ge 4, 3) := by decide +kernel
theorem dX2_settle_31 : decode cX2_settle 31 = .ok (.return_, 1) := by decide +kernel
theorem dX2_settle_32 : decode cX2_settle 32 = .ok (.aload_n 1, 1) := by decide +kernel
theorem dX2_settle_33 : decode cX2_settle 33 = .ok (.aload_n 0, 1) := by decide +kernel
theorem dX2_settle_34 : decode cX2_settle 34 = .ok (.getfield 20, 3) := by decide +kernel
theorem dX2_settle_37 : decode cX2_settle 37 = .ok (.invokevirtual 92, 3) := by decide +kernel
theorem dX2_settle_40 : decode cX2_settle 40 = .ok (.invokevirtual 67, 3) := by decide +kernel
theorem dX2_settle_43 : decode cX2_settle 43 = .ok (.aload_n 0, 1) := by decide +kernel
theorem dX2_settle_44 : decode cX2_settle 44 = .ok (.dup, 1) := by decide +kernel
theorem dX2_settle_45 : decode cX2_settle 45 = .ok (.getfield 30, 3) := by decide +kernel
theorem dX2_settle_48 : decode cX2_settle 48 = .ok (.iload 4, 2) := by decide +kernel
theorem dX2_settle_50 : decode cX2_settle 50 = .ok (.iconst 3, 1) := by decide +kernel
theorem dX2_settle_51 : decode cX2_settle 51 = .ok (.if_icmp .ne 7, 3) := by decide +kernel
theorem dX2_settle_54 : decode cX2_settle 54 = .ok (.iconst 1, 1) := by decide +kernel
theorem dX2_settle_55 : decode cX2_settle 55 = .ok (.goto 4, 3) := by decide +kernel
theorem dX2_settle_58 : decode cX2_settle 58 = .ok (.iconst 0, 1) := by decide +kernel
theorem dX2_settle_59 : decode cX2_settle 59 = .ok (.isub, 1) := by decide +kernel
theorem dX2_settle_60 : decode cX2_settle 60 = .ok (.putfield 30, 3) := by decide +kernel
theorem dX2_settle_63 : decode cX2_settle 63 = .ok (.iinc 3 1, 3) := by decide +kernel
theorem dX2_settle_66 : decode cX2_settle 66 = .ok (.goto (-64), 3) := by decide +kernel
theorem dX2_settle_69 : decode cX2_settle 69 = .ok (.return_, 1) := by decide +kernel
theorem dX2_rankOf_0 : decode cX2_rankOf 0 = .ok (.iload_n 0, 1) := by decide +kernel
theorem dX2_rankOf_1 : decode cX2_rankOf 1 = .ok (.lookupswitch 112 #[(37, 109), (42, 109), (43, 107), (45, 107), (47, 109), (60, 105), (61, 105), (62, 105), (106, 99), (107, 101), (108, 103)], 99) := by decide +kernel
theorem dX2_rankOf_100 : decode cX2_rankOf 100 = .ok (.iconst 1, 1) := by decide +kernel
theorem dX2_rankOf_101 : decode cX2_rankOf 101 = .ok (.ireturn, 1) := by decide +kernel
theorem dX2_rankOf_102 : decode cX2_rankOf 102 = .ok (.iconst 2, 1) := by decide +kernel
theorem dX2_rankOf_103 : decode cX2_rankOf 103 = .ok (.ireturn, 1) := by decide +kernel
theorem dX2_rankOf_104 : decode cX2_rankOf 104 = .ok (.iconst 3, 1) := by decide +kernel
theorem dX2_rankOf_105 : decode cX2_rankOf 105 = .ok (.ireturn, 1) := by decide +kernel
theorem dX2_rankOf_106 : decode cX2_rankOf 106 = .ok (.iconst 4, 1) := by decide +kernel
theorem dX2_rankOf_107 : decode cX2_rankOf 107 = .ok (.ireturn, 1) := by decide +kernel
theorem dX2_rankOf_108 : decode cX2_rankOf 108 = .ok (.iconst 5, 1) := by decide +kernel
theorem dX2_rankOf_109 : decode cX2_rankOf 109 = .ok (.ireturn, 1) := by decide +kernel
theorem dX2_rankOf_110 : decode cX2_rankOf 110 = .ok (.bipush 6, 2) := by decide +kernel
theorem dX2_rankOf_112 : decode cX2_rankOf 112 = .ok (.ireturn, 1) := by decide +kernel
theorem dX2_rankOf_113 : decode cX2_rankOf 113 = .ok (.iconst 0, 1) := by decide +kernel
theorem dX2_rankOf_114 : decode cX2_rankOf 114 = .ok (.ireturn, 1) := by decide +kernel
theorem dX3_init_0 : decode cX3_init 0 = .ok (.aload_n 0, 1) := by decide +kernel
theorem dX3_init_1 : decode cX3_init 1 = .ok (.invokespecial 3, 3) := by decide +kernel
theorem dX3_init_4 : decode cX3_init 4 = .ok (.aload_n 0, 1) := by decide +kernel
theorem dX3_init_5 : decode cX3_init 5 = .ok (.aload_n 1, 1) := by decide +kernel
theorem dX3_init_6 : decode cX3_init 6 = .ok (.putfield 9, 3) := by decide +kernel
theorem dX3_init_9 : decode cX3_init 9 = .ok (.aload_n 0, 1) := by decide +kernel
theorem dX3_init_10 : decode cX3_init 10 = .ok (.bipush 22, 2) := by decide +kernel
theorem dX3_init_12 : decode cX3_init 12 = .ok (.newarray .long, 2) := by decide +kernel
theorem dX3_init_14 : decode cX3_init 14 = .ok (.putfield 15, 3) := by decide +kernel
theorem dX3_init_17 : decode cX3_init 17 = .ok (.aload_n 0, 1) := by decide +kernel
theorem dX3_init_18 : decode cX3_init 18 = .ok (.iconst (-1), 1) := by decide +kernel
theorem dX3_init_19 : decode cX3_init 19 = .ok (.putfield 19, 3) := by decide +kernel
theorem dX3_init_22 : decode cX3_init 22 = .ok (.lconst 0, 1) := by decide +kernel
theorem dX3_init_23 : decode cX3_init 23 = .ok (.lstore_n 2, 1) := by decide +kernel
theorem dX3_init_24 : decode cX3_init 24 = .ok (.iconst 0, 1) := by decide +kernel
theorem dX3_init_25 : decode cX3_init 25 = .ok (.istore 4, 2) := by decide +kernel
theorem dX3_init_27 : decode cX3_init 27 = .ok (.iload 4, 2) := by decide +kernel
theorem dX3_init_29 : decode cX3_init 29 = .ok (.ldc 23, 2) := by decide +kernel
theorem dX3_init_31 : decode cX3_init 31 = .ok (.invokevirtual 25, 3) := by decide +kernel
theorem dX3_init_34 : decode cX3_init 34 = .ok (.if_icmp .ge 42, 3) := by decide +kernel
theorem dX3_init_37 : decode cX3_init 37 = .ok (.ldc 23, 2) := by decide +kernel
theorem dX3_init_39 : decode cX3_init 39 = .ok (.iload 4, 2) := by decide +kernel
theorem dX3_init_41 : decode cX3_init 41 = .ok (.invokevirtual 31, 3) := by decide +kernel
theorem dX3_init_44 : decode cX3_init 44 = .ok (.istore 5, 2) := by decide +kernel
theorem dX3_init_46 : decode cX3_init 46 = .ok (.iload 5, 2) := by decide +kernel
theorem dX3_init_48 : decode cX3_init 48 = .ok (.bipush 32, 2) := by decide +kernel
theorem dX3_init_50 : decode cX3_init 50 = .ok (.if_icmp .ne 13, 3) := by decide +kernel
theorem dX3_init_53 : decode cX3_init 53 = .ok (.aload_n 0, 1) := by decide +kernel
theorem dX3_init_54 : decode cX3_init 54 = .ok (.lload_n 2, 1) := by decide +kernel
theorem dX3_init_55 : decode cX3_init 55 = .ok (.invokevirtual 35, 3) := by decide +kernel
theorem dX3_init_58 : decode cX3_init 58 = .ok (.lconst 0, 1) := by decide +kernel
theorem dX3_init_59 : decode cX3_init 59 = .ok (.lstore_n 2, 1) := by decide +kernel
theorem dX3_init_60 : decode cX3_init 60 = .ok (.goto 10, 3) := by decide +kernel
theorem dX3_init_63 : decode cX3_init 63 = .ok (.lload_n 2, 1) := by decide +kernel
theorem dX3_init_64 : decode cX3_init 64 = .ok (.iload 5, 2) := by decide +kernel
theorem dX3_init_66 : decode cX3_init 66 = .ok (.invokestatic 39, 3) := by decide +kernel
theorem dX3_init_69 : decode cX3_init 69 = .ok (.lstore_n 2, 1) := by decide +kernel
theorem dX3_init_70 : decode cX3_init 70 = .ok (.iinc 4 1, 3) := by decide +kernel
theorem dX3_init_73 : decode cX3_init 73 = .ok (.goto (-46), 3) := by decide +kernel
theorem dX3_init_76 : decode cX3_init 76 = .ok (.return_, 1) := by decide +kernel
theorem dX3_spell_0 : decode cX3_spell 0 = .ok (.lload_n 0, 1) := by decide +kernel
theorem dX3_spell_1 : decode cX3_spell 1 = .ok (.ldc2_w 43, 3) := by decide +kernel
theorem dX3_spell_4 : decode cX3_spell 4 = .ok (.lmul, 1) := by decide +kernel
theorem dX3_spell_5 : decode cX3_spell 5 = .ok (.iload_n 2, 1) := by decide +kernel
theorem dX3_spell_6 : decode cX3_spell 6 = .ok (.bipush 97, 2) := by decide +kernel
theorem dX3_spell_8 : decode cX3_spell 8 = .ok (.isub, 1) := by decide +kernel
theorem dX3_spell_9 : decode cX3_spell 9 = .ok (.iconst 1, 1) := by decide +kernel
theorem dX3_spell_10 : decode cX3_spell 10 = .ok (.iadd, 1) := by decide +kernel
theorem dX3_spell_11 : decode cX3_spell 11 = .ok (.i2l, 1) := by decide +kernel
theorem dX3_spell_12 : decode cX3_spell 12 = .ok (.ladd, 1) := by decide +kernel
theorem dX3_spell_13 : decode cX3_spell 13 = .ok (.lreturn, 1) := by decide +kernel
theorem dX3_addWord_0 : decode cX3_addWord 0 = .ok (.aload_n 0, 1) := by decide +kernel
theorem dX3_addWord_1 : decode cX3_addWord 1 = .ok (.getfield 45, 3) := by decide +kernel
theorem dX3_addWord_4 : decode cX3_addWord 4 = .ok (.ifCond .lt 35, 3) := by decide +kernel
theorem dX3_addWord_7 : decode cX3_addWord 7 = .ok (.aload_n 0, 1) := by decide +kernel
theorem dX3_addWord_8 : decode cX3_addWord 8 = .ok (.getfield 45, 3) := by decide +kernel
theorem dX3_addWord_11 : decode cX3_addWord 11 = .ok (.aload_n 0, 1) := by decide +kernel
theorem dX3_addWord_12 : decode cX3_addWord 12 = .ok (.getfield 15, 3) := by decide +kernel
theorem dX3_addWord_15 : decode cX3_addWord 15 = .ok (.arraylength, 1) := by decide +kernel
theorem dX3_addWord_16 : decode cX3_addWord 16 = .ok (.if_icmp .ge 23, 3) := by decide +kernel
theorem dX3_addWord_19 : decode cX3_addWord 19 = .ok (.aload_n 0, 1) := by decide +kernel
theorem dX3_addWord_20 : decode cX3_addWord 20 = .ok (.getfield 15, 3) := by decide +kernel
theorem dX3_addWord_23 : decode cX3_addWord 23 = .ok (.aload_n 0, 1) := by decide +kernel
theorem dX3_addWord_24 : decode cX3_addWord 24 = .ok (.getfield 45, 3) := by decide +kernel
theorem dX3_addWord_27 : decode cX3_addWord 27 = .ok (.lload_n 1, 1) := by decide +kernel
theorem dX3_addWord_28 : decode cX3_addWord 28 = .ok (.lastore, 1) := by decide +kernel
theorem dX3_addWord_29 : decode cX3_addWord 29 = .ok (.aload_n 0, 1) := by decide +kernel
theorem dX3_addWord_30 : decode cX3_addWord 30 = .ok (.dup, 1) := by decide +kernel
theorem dX3_addWord_31 : decode cX3_addWord 31 = .ok (.getfield 45, 3) := by decide +kernel
theorem dX3_addWord_34 : decode cX3_addWord 34 = .ok (.iconst 1, 1) := by decide +kernel
theorem dX3_addWord_35 : decode cX3_addWord 35 = .ok (.iadd, 1) := by decide +kernel
theorem dX3_addWord_36 : decode cX3_addWord 36 = .ok (.putfield 45, 3) := by decide +kernel
theorem dX3_addWord_39 : decode cX3_addWord 39 = .ok (.return_, 1) := by decide +kernel
theorem dX3_restart_0 : decode cX3_restart 0 = .ok (.aload_n 0, 1) := by decide +kernel
theorem dX3_restart_1 : decode cX3_restart 1 = .ok (.aload_n 0, 1) := by decide +kernel
theorem dX3_restart_2 : decode cX3_restart 2 = .ok (.getfield 45, 3) := by decide +kernel
theorem dX3_restart_5 : decode cX3_restart 5 = .ok (.bipush 14, 2) := by decide +kernel
theorem dX3_restart_7 : decode cX3_restart 7 = .ok (.invokestatic 48, 3) := by decide +kernel
theorem dX3_restart_10 : decode cX3_restart 10 = .ok (.putfield 45, 3) := by decide +kernel
theorem dX3_restart_13 : decode cX3_restart 13 = .ok (.aload_n 0, 1) := by decide +kernel
theorem dX3_restart_14 : decode cX3_restart 14 = .ok (.iconst 0, 1) := by decide +kernel
theorem dX3_restart_15 : decode cX3_restart 15 = .ok (.putfield 54, 3) := by decide +kernel
theorem dX3_restart_18 : decode cX3_restart 18 = .ok (.aload_n 0, 1) := by decide +kernel
theorem dX3_restart_19 : decode cX3_restart 19 = .ok (.iconst (-1), 1) := by decide +kernel
theorem dX3_restart_20 : decode cX3_restart 20 = .ok (.putfield 19, 3) := by decide +kernel
theorem dX3_restart_23 : decode cX3_restart 23 = .ok (.aload_n 0, 1) := by decide +kernel
theorem dX3_restart_24 : decode cX3_restart 24 = .ok (.iconst 0, 1) := by decide +kernel
theorem dX3_restart_25 : decode cX3_restart 25 = .ok (.putfield 57, 3) := by decide +kernel
theorem dX3_restart_28 : decode cX3_restart 28 = .ok (.aload_n 0, 1) := by decide +kernel
theorem dX3_restart_29 : decode cX3_restart 29 = .ok (.invokevirtual 60, 3) := by decide +kernel
theorem dX3_restart_32 : decode cX3_restart 32 = .ok (.return_, 1) := by decide +kernel
theorem dX3_addName_0 : decode cX3_addName 0 = .ok (.aload_n 0, 1) := by decide +kernel
theorem dX3_addName_1 : decode cX3_addName 1 = .ok (.aload_n 0, 1) := by decide +kernel
theorem dX3_addName_2 : decode cX3_addName 2 = .ok (.getfield 63, 3) := by decide +kernel
theorem dX3_addName_5 : decode cX3_addName 5 = .ok (.invokevirtual 35, 3) := by decide +kernel
theorem dX3_addName_8 : decode cX3_addName 8 = .ok (.return_, 1) := by decide +kernel
theorem dX3_failed_0 : decode cX3_failed 0 = .ok (.aload_n 0, 1) := by decide +kernel
theorem dX3_failed_1 : decode cX3_failed 1 = .ok (.getfield 54, 3) := by decide +kernel
theorem dX3_failed_4 : decode cX3_failed 4 = .ok (.ifCond .eq 7, 3) := by decide +kernel
theorem dX3_failed_7 : decode cX3_failed 7 = .ok (.iconst 1, 1) := by decide +kernel
theorem dX3_failed_8 : decode cX3_failed 8 = .ok (.goto 4, 3) := by decide +kernel
theorem dX3_failed_11 : decode cX3_failed 11 = .ok (.iconst 0, 1) := by decide +kernel
theorem dX3_failed_12 : decode cX3_failed 12 = .ok (.ireturn, 1) := by decide +kernel
theorem dX3_fail_0 : decode cX3_fail 0 = .ok (.aload_n 0, 1) := by decide +kernel
theorem dX3_fail_1 : decode cX3_fail 1 = .ok (.getfield 54, 3) := by decide +kernel
theorem dX3_fail_4 : decode cX3_fail 4 = .ok (.ifCond .ne 28, 3) := by decide +kernel
theorem dX3_fail_7 : decode cX3_fail 7 = .ok (.aload_n 0, 1) := by decide +kernel
theorem dX3_fail_8 : decode cX3_fail 8 = .ok (.aload_n 0, 1) := by decide +kernel
theorem dX3_fail_9 : decode cX3_fail 9 = .ok (.getfield 67, 3) := by decide +kernel
theorem dX3_fail_12 : decode cX3_fail 12 = .ok (.iconst 1, 1) := by decide +kernel
theorem dX3_fail_13 : decode cX3_fail 13 = .ok (.if_icmp .ne 7, 3) := by decide +kernel
theorem dX3_fail_16 : decode cX3_fail 16 = .ok (.iconst 1, 1) := by decide +kernel
theorem dX3_fail_17 : decode cX3_fail 17 = .ok (.goto 4, 3) := by decide +kernel
theorem dX3_fail_20 : decode cX3_fail 20 = .ok (.iload_n 1, 1) := by decide +kernel
theorem dX3_fail_21 : decode cX3_fail 21 = .ok (.putfield 54, 3) := by decide +kernel
theorem dX3_fail_24 : decode cX3_fail 24 = .ok (.aload_n 0, 1) := by decide +kernel
theorem dX3_fail_25 : decode cX3_fail 25 = .ok (.aload_n 0, 1) := by decide +kernel
theorem dX3_fail_26 : decode cX3_fail 26 = .ok (.getfield 70, 3) := by decide +kernel
theorem dX3_fail_29 : decode cX3_fail 29 = .ok (.putfield 19, 3) := by decide +kernel
theorem dX3_fail_32 : decode cX3_fail 32 = .ok (.return_, 1) := by decide +kernel
theorem dX3_step_0 : decode cX3_step 0 = .ok (.aload_n 0, 1) := by decide +kernel
theorem dX3_step_1 : decode cX3_step 1 = .ok (.getfield 54, 3) := by decide +kernel
theorem dX3_step_4 : decode cX3_step 4 = .ok (.ifCond .eq 4, 3) := by decide +kernel
theorem dX3_step_7 : decode cX3_step 7 = .ok (.return_, 1) := by decide +kernel
theorem dX3_step_8 : decode cX3_step 8 = .ok (.aload_n 0, 1) := by decide +kernel
theorem dX3_step_9 : decode cX3_step 9 = .ok (.getfield 57, 3) := by decide +kernel
theorem dX3_step_12 : decode cX3_step 12 = .ok (.aload_n 0, 1) := by decide +kernel
theorem dX3_step_13 : decode cX3_step 13 = .ok (.getfield 9, 3) := by decide +kernel
theorem dX3_step_16 : decode cX3_step 16 = .ok (.invokevirtual 73, 3) := by decide +kernel
theorem dX3_step_19 : decode cX3_step 19 = .ok (.if_icmp .ge 33, 3) := by decide +kernel
theorem dX3_step_22 : decode cX3_step 22 = .ok (.aload_n 0, 1) := by decide +kernel
theorem dX3_step_23 : decode cX3_step 23 = .ok (.getfield 9, 3) := by decide +kernel
theorem dX3_step_26 : decode cX3_step 26 = .ok (.aload_n 0, 1) := by decide +kernel
theorem dX3_step_27 : decode cX3_step 27 = .ok (.getfield 57, 3) := by decide +kernel
theorem dX3_step_30 : decode cX3_step 30 = .ok (.invokevirtual 78, 3) := by decide +kernel
theorem dX3_step_33 : decode cX3_step 33 = .ok (.invokestatic 82, 3) := by decide +kernel
theorem dX3_step_36 : decode cX3_step 36 = .ok (.ifCond .eq 16, 3) := by decide +kernel
theorem dX3_step_39 : decode cX3_step 39 = .ok (.aload_n 0, 1) := by decide +kernel
theorem dX3_step_40 : decode cX3_step 40 = .ok (.dup, 1) := by decide +kernel
theorem dX3_step_41 : decode cX3_step 41 = .ok (.getfield 57, 3) := by decide +kernel
theorem dX3_step_44 : decode cX3_step 44 = .ok (.iconst 1, 1) := by decide +kernel
theorem dX3_step_45 : decode cX3_step 45 = .ok (.iadd, 1) := by decide +kernel
theorem dX3_step_46 : decode cX3_step 46 = .ok (.putfield 57, 3) := by decide +kernel
theorem dX3_step_49 : decode cX3_step 49 = .ok (.goto (-41), 3) := by decide +kernel
theorem dX3_step_52 : decode cX3_step 52 = .ok (.aload_n 0, 1) := by decide +kernel
theorem dX3_step_53 : decode cX3_step 53 = .ok (.aload_n 0, 1) := by decide +kernel
theorem dX3_step_54 : decode cX3_step 54 = .ok (.getfield 57, 3) := by decide +kernel
theorem dX3_step_57 : decode cX3_step 57 = .ok (.putfield 70, 3) := by decide +kernel
theorem dX3_step_60 : decode cX3_step 60 = .ok (.aload_n 0, 1) := by decide +kernel
theorem dX3_step_61 : decode cX3_step 61 = .ok (.getfield 9, 3) := by decide +kernel
theorem dX3_step_64 : decode cX3_step 64 = .ok (.aload_n 0, 1) := by decide +kernel
theorem dX3_step_65 : decode cX3_step 65 = .ok (.getfield 57, 3) := by decide +kernel
theorem dX3_step_68 : decode cX3_step 68 = .ok (.invokevirtual 78, 3) := by decide +kernel
theorem dX3_step_71 : decode cX3_step 71 = .ok (.istore_n 1, 1) := by decide +kernel
theorem dX3_step_72 : decode cX3_step 72 = .ok (.aload_n 0, 1) := by decide +kernel
theorem dX3_step_73 : decode cX3_step 73 = .ok (.getfield 57, 3) := by decide +kernel
theorem dX3_step_76 : decode cX3_step 76 = .ok (.aload_n 0, 1) := by decide +kernel
theorem dX3_step_77 : decode cX3_step 77 = .ok (.getfield 9, 3) := by decide +kernel
theorem dX3_step_80 : decode cX3_step 80 = .ok (.invokevirtual 73, 3) := by decide +kernel
theorem dX3_step_83 : decode cX3_step 83 = .ok (.if_icmp .lt 11, 3) := by decide +kernel
theorem dX3_step_86 : decode cX3_step 86 = .ok (.aload_n 0, 1) := by decide +kernel
theorem dX3_step_87 : decode cX3_step 87 = .ok (.iconst 0, 1) := by decide +kernel
theorem dX3_step_88 : decode cX3_step 88 = .ok (.putfield 67, 3) := by decide +kernel
theorem dX3_step_91 : decode cX3_step 91 = .ok (.goto 64, 3) := by decide +kernel
theorem dX3_step_94 : decode cX3_step 94 = .ok (.iload_n 1, 1) := by decide +kernel
theorem dX3_step_95 : decode cX3_step 95 = .ok (.invokestatic 86, 3) := by decide +kernel
theorem dX3_step_98 : decode cX3_step 98 = .ok (.ifCond .eq 10, 3) := by decide +kernel
theorem dX3_step_101 : decode cX3_step 101 = .ok (.aload_n 0, 1) := by decide +kernel
theorem dX3_step_102 : decode cX3_step 102 = .ok (.invokevirtual 89, 3) := by decide +kernel
theorem dX3_step_105 : decode cX3_step 105 = .ok (.goto 50, 3) := by decide +kernel
theorem dX3_step_108 : decode cX3_step 108 = .ok (.iload_n 1, 1) := by decide +kernel
theorem dX3_step_109 : decode cX3_step 109 = .ok (.invokestatic 92, 3) := by decide +kernel
theorem dX3_step_112 : decode cX3_step 112 = .ok (.ifCond .eq 10, 3) := by decide +kernel
theorem dX3_step_115 : decode cX3_step 115 = .ok (.aload_n 0, 1) := by decide +kernel
theorem dX3_step_116 : decode cX3_step 116 = .ok (.invokevirtual 95, 3) := by decide +kernel
theorem dX3_step_119 : decode cX3_step 119 = .ok (.goto 36, 3) := by decide +kernel
theorem dX3_step_122 : decode cX3_step 122 = .ok (.ldc 98, 2) := by decide +kernel
theorem dX3_step_124 : decode cX3_step 124 = .ok (.iload_n 1, 1) := by decide +kernel
theorem dX3_step_125 : decode cX3_step 125 = .ok (.i2c, 1) := by decide +kernel
theorem dX3_step_126 : decode cX3_step 126 = .ok (.invokevirtual 100, 3) := by decide +kernel
theorem dX3_step_129 : decode cX3_step 129 = .ok (.ifCond .lt 21, 3) := by decide +kernel
theorem dX3_step_132 : decode cX3_step 132 = .ok (.aload_n 0, 1) := by decide +kernel
theorem dX3_step_133 : decode cX3_step 133 = .ok (.iload_n 1, 1) := by decide +kernel
theorem dX3_step_134 : decode cX3_step 134 = .ok (.putfield 67, 3) := by decide +kernel
theorem dX3_step_137 : decode cX3_step 137 = .ok (.aload_n 0, 1) := by decide +kernel
theorem dX3_step_138 : decode cX3_step 138 = .ok (.dup, 1) := by decide +kernel
theorem dX3_step_139 : decode cX3_step 139 = .ok (.getfield 57, 3) := by decide +kernel
theorem dX3_step_142 : decode cX3_step 142 = .ok (.iconst 1, 1) := by decide +kernel
theorem dX3_step_143 : decode cX3_step 143 = .ok (.iadd, 1) := by decide +kernel
theorem dX3_step_144 : decode cX3_step 144 = .ok (.putfield 57, 3) := by decide +kernel
theorem dX3_step_147 : decode cX3_step 147 = .ok (.goto 8, 3) := by decide +kernel
theorem dX3_step_150 : decode cX3_step 150 = .ok (.aload_n 0, 1) := by decide +kernel
theorem dX3_step_151 : decode cX3_step 151 = .ok (.iconst 1, 1) := by decide +kernel
theorem dX3_step_152 : decode cX3_step 152 = .ok (.putfield 67, 3) := by decide +kernel
theorem dX3_step_155 : decode cX3_step 155 = .ok (.return_, 1) := by decide +kernel
theorem dX3_stepWord_0 : decode cX3_stepWord 0 = .ok (.aload_n 0, 1) := by decide +kernel
theorem dX3_stepWord_1 : decode cX3_stepWord 1 = .ok (.lconst 0, 1) := by decide +kernel
theorem dX3_stepWord_2 : decode cX3_stepWord 2 = .ok (.putfield 63, 3) := by decide +kernel
theorem dX3_stepWord_5 : decode cX3_stepWord 5 = .ok (.aload_n 0, 1) := by decide +kernel
theorem dX3_stepWord_6 : decode cX3_stepWord 6 = .ok (.getfield 57, 3) := by decide +kernel
theorem dX3_stepWord_9 : decode cX3_stepWord 9 = .ok (.aload_n 0, 1) := by decide +kernel
theorem dX3_stepWord_10 : decode cX3_stepWord 10 = .ok (.getfield 9, 3) := by decide +kernel
theorem dX3_stepWord_13 : decode cX3_stepWord 13 = .ok (.invokevirtual 73, 3) := by decide +kernel
theorem dX3_stepWord_16 : decode cX3_stepWord 16 = .ok (.if_icmp .ge 55, 3) := by decide +kernel
theorem dX3_stepWord_19 : decode cX3_stepWord 19 = .ok (.aload_n 0, 1) := by decide +kernel
theorem dX3_stepWord_20 : decode cX3_stepWord 20 = .ok (.getfield 9, 3) := by decide +kernel
theorem dX3_stepWord_23 : decode cX3_stepWord 23 = .ok (.aload_n 0, 1) := by decide +kernel
theorem dX3_stepWord_24 : decode cX3_stepWord 24 = .ok (.getfield 57, 3) := by decide +kernel
theorem dX3_stepWord_27 : decode cX3_stepWord 27 = .ok (.invokevirtual 78, 3) := by decide +kernel
theorem dX3_stepWord_30 : decode cX3_stepWord 30 = .ok (.invokestatic 86, 3) := by decide +kernel
theorem dX3_stepWord_33 : decode cX3_stepWord 33 = .ok (.ifCond .eq 38, 3) := by decide +kernel
theorem dX3_stepWord_36 : decode cX3_stepWord 36 = .ok (.aload_n 0, 1) := by decide +kernel
theorem dX3_stepWord_37 : decode cX3_stepWord 37 = .ok (.aload_n 0, 1) := by decide +kernel
theorem dX3_stepWord_38 : decode cX3_stepWord 38 = .ok (.getfield 63, 3) := by decide +kernel
theorem dX3_stepWord_41 : decode cX3_stepWord 41 = .ok (.aload_n 0, 1) := by decide +kernel
theorem dX3_stepWord_42 : decode cX3_stepWord 42 = .ok (.getfield 9, 3) := by decide +kernel
theorem dX3_stepWord_45 : decode cX3_stepWord 45 = .ok (.aload_n 0, 1) := by decide +kernel
theorem dX3_stepWord_46 : decode cX3_stepWord 46 = .ok (.getfield 57, 3) := by decide +kernel
theorem dX3_stepWord_49 : decode cX3_stepWord 49 = .ok (.invokevirtual 78, 3) := by decide +kernel
theorem dX3_stepWord_52 : decode cX3_stepWord 52 = .ok (.invokestatic 39, 3) := by decide +kernel
theorem dX3_stepWord_55 : decode cX3_stepWord 55 = .ok (.putfield 63, 3) := by decide +kernel
theorem dX3_stepWord_58 : decode cX3_stepWord 58 = .ok (.aload_n 0, 1) := by decide +kernel
theorem dX3_stepWord_59 : decode cX3_stepWord 59 = .ok (.dup, 1) := by decide +kernel
theorem dX3_stepWord_60 : decode cX3_stepWord 60 = .ok (.getfield 57, 3) := by decide +kernel
theorem dX3_stepWord_63 : decode cX3_stepWord 63 = .ok (.iconst 1, 1) := by decide +kernel
theorem dX3_stepWord_64 : decode cX3_stepWord 64 = .ok (.iadd, 1) := by decide +kernel
theorem dX3_stepWord_65 : decode cX3_stepWord 65 = .ok (.putfield 57, 3) := by decide +kernel
theorem dX3_stepWord_68 : decode cX3_stepWord 68 = .ok (.goto (-63), 3) := by decide +kernel
theorem dX3_stepWord_71 : decode cX3_stepWord 71 = .ok (.aload_n 0, 1) := by decide +kernel
theorem dX3_stepWord_72 : decode cX3_stepWord 72 = .ok (.aload_n 0, 1) := by decide +kernel
theorem dX3_stepWord_73 : decode cX3_stepWord 73 = .ok (.getfield 57, 3) := by decide +kernel
theorem dX3_stepWord_76 : decode cX3_stepWord 76 = .ok (.aload_n 0, 1) := by decide +kernel
theorem dX3_stepWord_77 : decode cX3_stepWord 77 = .ok (.getfield 70, 3) := by decide +kernel
theorem dX3_stepWord_80 : decode cX3_stepWord 80 = .ok (.isub, 1) := by decide +kernel
theorem dX3_stepWord_81 : decode cX3_stepWord 81 = .ok (.bipush 8, 2) := by decide +kernel
theorem dX3_stepWord_83 : decode cX3_stepWord 83 = .ok (.if_icmp .le 7, 3) := by decide +kernel
theorem dX3_stepWord_86 : decode cX3_stepWord 86 = .ok (.iconst 1, 1) := by decide +kernel
theorem dX3_stepWord_87 : decode cX3_stepWord 87 = .ok (.goto 7, 3) := by decide +kernel
theorem dX3_stepWord_90 : decode cX3_stepWord 90 = .ok (.aload_n 0, 1) := by decide +kernel
theorem dX3_stepWord_91 : decode cX3_stepWord 91 = .ok (.invokevirtual 103, 3) := by decide +kernel
theorem dX3_stepWord_94 : decode cX3_stepWord 94 = .ok (.putfield 67, 3) := by decide +kernel
theorem dX3_stepWord_97 : decode cX3_stepWord 97 = .ok (.return_, 1) := by decide +kernel
theorem dX3_kindOfWord_0 : decode cX3_kindOfWord 0 = .ok (.iconst 0, 1) := by decide +kernel
theorem dX3_kindOfWord_1 : decode cX3_kindOfWord 1 = .ok (.istore_n 1, 1) := by decide +kernel
theorem dX3_kindOfWord_2 : decode cX3_kindOfWord 2 = .ok (.iload_n 1, 1) := by decide +kernel
theorem dX3_kindOfWord_3 : decode cX3_kindOfWord 3 = .ok (.aload_n 0, 1) := by decide +kernel
theorem dX3_kindOfWord_4 : decode cX3_kindOfWord 4 = .ok (.getfield 45, 3) := by decide +kernel
theorem dX3_kindOfWord_7 : decode cX3_kindOfWord 7 = .ok (.if_icmp .ge 47, 3) := by decide +kernel
theorem dX3_kindOfWord_10 : decode cX3_kindOfWord 10 = .ok (.iload_n 1, 1) := by decide +kernel
theorem dX3_kindOfWord_11 : decode cX3_kindOfWord 11 = .ok (.aload_n 0, 1) := by decide +kernel
theorem dX3_kindOfWord_12 : decode cX3_kindOfWord 12 = .ok (.getfield 15, 3) := by decide +kernel
theorem dX3_kindOfWord_15 : decode cX3_kindOfWord 15 = .ok (.arraylength, 1) := by decide +kernel
theorem dX3_kindOfWord_16 : decode cX3_kindOfWord 16 = .ok (.if_icmp .ge 38, 3) := by decide +kernel
theorem dX3_kindOfWord_19 : decode cX3_kindOfWord 19 = .ok (.aload_n 0, 1) := by decide +kernel
theorem dX3_kindOfWord_20 : decode cX3_kindOfWord 20 = .ok (.getfield 15, 3) := by decide +kernel
theorem dX3_kindOfWord_23 : decode cX3_kindOfWord 23 = .ok (.iload_n 1, 1) := by decide +kernel
theorem dX3_kindOfWord_24 : decode cX3_kindOfWord 24 = .ok (.laload, 1) := by decide +kernel
theorem dX3_kindOfWord_25 : decode cX3_kindOfWord 25 = .ok (.aload_n 0, 1) := by decide +kernel
theorem dX3_kindOfWord_26 : decode cX3_kindOfWord 26 = .ok (.getfield 63, 3) := by decide +kernel
theorem dX3_kindOfWord_29 : decode cX3_kindOfWord 29 = .ok (.lcmp, 1) := by decide +kernel
theorem dX3_kindOfWord_30 : decode cX3_kindOfWord 30 = .ok (.ifCond .ne 18, 3) := by decide +kernel
theorem dX3_kindOfWord_33 : decode cX3_kindOfWord 33 = .ok (.iload_n 1, 1) := by decide +kernel
theorem dX3_kindOfWord_34 : decode cX3_kindOfWord 34 = .ok (.bipush 14, 2) := by decide +kernel
theorem dX3_kindOfWord_36 : decode cX3_kindOfWord 36 = .ok (.if_icmp .ge 10, 3) := by decide +kernel
theorem dX3_kindOfWord_39 : decode cX3_kindOfWord 39 = .ok (.bipush 100, 2) := by decide +kernel
theorem dX3_kindOfWord_41 : decode cX3_kindOfWord 41 = .ok (.iload_n 1, 1) := by decide +kernel
theorem dX3_kindOfWord_42 : decode cX3_kindOfWord 42 = .ok (.iadd, 1) := by decide +kernel
theorem dX3_kindOfWord_43 : decode cX3_kindOfWord 43 = .ok (.goto 4, 3) := by decide +kernel
theorem dX3_kindOfWord_46 : decode cX3_kindOfWord 46 = .ok (.iconst 4, 1) := by decide +kernel
theorem dX3_kindOfWord_47 : decode cX3_kindOfWord 47 = .ok (.ireturn, 1) := by decide +kernel
theorem dX3_kindOfWord_48 : decode cX3_kindOfWord 48 = .ok (.iinc 1 1, 3) := by decide +kernel
theorem dX3_kindOfWord_51 : decode cX3_kindOfWord 51 = .ok (.goto (-49), 3) := by decide +kernel
theorem dX3_kindOfWord_54 : decode cX3_kindOfWord 54 = .ok (.iconst 3, 1) := by decide +kernel
theorem dX3_kindOfWord_55 : decode cX3_kindOfWord 55 = .ok (.ireturn, 1) := by decide +kernel
theorem dX3_stepNumber_0 : decode cX3_stepNumber 0 = .ok (.aload_n 0, 1) := by decide +kernel
theorem dX3_stepNumber_1 : decode cX3_stepNumber 1 = .ok (.iconst 0, 1) := by decide +kernel
theorem dX3_stepNumber_2 : decode cX3_stepNumber 2 = .ok (.putfield 106, 3) := by decide +kernel
theorem dX3_stepNumber_5 : decode cX3_stepNumber 5 = .ok (.aload_n 0, 1) := by decide +kernel
theorem dX3_stepNumber_6 : decode cX3_stepNumber 6 = .ok (.getfield 57, 3) := by decide +kernel
theorem dX3_stepNumber_9 : decode cX3_stepNumber 9 = .ok (.aload_n 0, 1) := by decide +kernel
theorem dX3_stepNumber_10 : decode cX3_stepNumber 10 = .ok (.getfield 9, 3) := by decide +kernel
theorem dX3_stepNumber_13 : decode cX3_stepNumber 13 = .ok (.invokevirtual 73, 3) := by decide +kernel
theorem dX3_stepNumber_16 : decode cX3_stepNumber 16 = .ok (.if_icmp .ge 59, 3) := by decide +kernel
theorem dX3_stepNumber_19 : decode cX3_stepNumber 19 = .ok (.aload_n 0, 1) := by decide +kernel
theorem dX3_stepNumber_20 : decode cX3_stepNumber 20 = .ok (.getfield 9, 3) := by decide +kernel
theorem dX3_stepNumber_23 : decode cX3_stepNumber 23 = .ok (.aload_n 0, 1) := by decide +kernel
theorem dX3_stepNumber_24 : decode cX3_stepNumber 24 = .ok (.getfield 57, 3) := by decide +kernel
theorem dX3_stepNumber_27 : decode cX3_stepNumber 27 = .ok (.invokevirtual 78, 3) := by decide +kernel
theorem dX3_stepNumber_30 : decode cX3_stepNumber 30 = .ok (.invokestatic 92, 3) := by decide +kernel
theorem dX3_stepNumber_33 : decode cX3_stepNumber 33 = .ok (.ifCond .eq 42, 3) := by decide +kernel
theorem dX3_stepNumber_36 : decode cX3_stepNumber 36 = .ok (.aload_n 0, 1) := by decide +kernel
theorem dX3_stepNumber_37 : decode cX3_stepNumber 37 = .ok (.aload_n 0, 1) := by decide +kernel
theorem dX3_stepNumber_38 : decode cX3_stepNumber 38 = .ok (.getfield 106, 3) := by decide +kernel
theorem dX3_stepNumber_41 : decode cX3_stepNumber 41 = .ok (.bipush 10, 2) := by decide +kernel
theorem dX3_stepNumber_43 : decode cX3_stepNumber 43 = .ok (.imul, 1) := by decide +kernel
theorem dX3_stepNumber_44 : decode cX3_stepNumber 44 = .ok (.aload_n 0, 1) := by decide +kernel
theorem dX3_stepNumber_45 : decode cX3_stepNumber 45 = .ok (.getfield 9, 3) := by decide +kernel
theorem dX3_stepNumber_48 : decode cX3_stepNumber 48 = .ok (.aload_n 0, 1) := by decide +kernel
theorem dX3_stepNumber_49 : decode cX3_stepNumber 49 = .ok (.getfield 57, 3) := by decide +kernel
theorem dX3_stepNumber_52 : decode cX3_stepNumber 52 = .ok (.invokevirtual 78, 3) := by decide +kernel
theorem dX3_stepNumber_55 : decode cX3_stepNumber 55 = .ok (.bipush 48, 2) := by decide +kernel
theorem dX3_stepNumber_57 : decode cX3_stepNumber 57 = .ok (.isub, 1) := by decide +kernel
theorem dX3_stepNumber_58 : decode cX3_stepNumber 58 = .ok (.iadd, 1) := by decide +kernel
theorem dX3_stepNumber_59 : decode cX3_stepNumber 59 = .ok (.putfield 106, 3) := by decide +kernel
theorem dX3_stepNumber_62 : decode cX3_stepNumber 62 = .ok (.aload_n 0, 1) := by decide +kernel
theorem dX3_stepNumber_63 : decode cX3_stepNumber 63 = .ok (.dup, 1) := by decide +kernel
theorem dX3_stepNumber_64 : decode cX3_stepNumber 64 = .ok (.getfield 57, 3) := by decide +kernel
theorem dX3_stepNumber_67 : decode cX3_stepNumber 67 = .ok (.iconst 1, 1) := by decide +kernel
theorem dX3_stepNumber_68 : decode cX3_stepNumber 68 = .ok (.iadd, 1) := by decide +kernel
theorem dX3_stepNumber_69 : decode cX3_stepNumber 69 = .ok (.putfield 57, 3) := by decide +kernel
theorem dX3_stepNumber_72 : decode cX3_stepNumber 72 = .ok (.goto (-67), 3) := by decide +kernel
theorem dX3_stepNumber_75 : decode cX3_stepNumber 75 = .ok (.aload_n 0, 1) := by decide +kernel
theorem dX3_stepNumber_76 : decode cX3_stepNumber 76 = .ok (.getfield 57, 3) := by decide +kernel
theorem dX3_stepNumber_79 : decode cX3_stepNumber 79 = .ok (.aload_n 0, 1) := by decide +kernel
theorem dX3_stepNumber_80 : decode cX3_stepNumber 80 = .ok (.getfield 70, 3) := by decide +kernel
theorem dX3_stepNumber_83 : decode cX3_stepNumber 83 = .ok (.isub, 1) := by decide +kernel
theorem dX3_stepNumber_84 : decode cX3_stepNumber 84 = .ok (.iconst 4, 1) := by decide +kernel
theorem dX3_stepNumber_85 : decode cX3_stepNumber 85 = .ok (.if_icmp .le 7, 3) := by decide +kernel
theorem dX3_stepNumber_88 : decode cX3_stepNumber 88 = .ok (.iconst 1, 1) := by decide +kernel
theorem dX3_stepNumber_89 : decode cX3_stepNumber 89 = .ok (.goto 4, 3) := by decide +kernel
theorem dX3_stepNumber_92 : decode cX3_stepNumber 92 = .ok (.iconst 0, 1) := by decide +kernel
theorem dX3_stepNumber_93 : decode cX3_stepNumber 93 = .ok (.istore_n 1, 1) := by decide +kernel
theorem dX3_stepNumber_94 : decode cX3_stepNumber 94 = .ok (.aload_n 0, 1) := by decide +kernel
theorem dX3_stepNumber_95 : decode cX3_stepNumber 95 = .ok (.iload_n 1, 1) := by decide +kernel
theorem dX3_stepNumber_96 : decode cX3_stepNumber 96 = .ok (.ifCond .ne 20, 3) := by decide +kernel
theorem dX3_stepNumber_99 : decode cX3_stepNumber 99 = .ok (.aload_n 0, 1) := by decide +kernel
theorem dX3_stepNumber_100 : decode cX3_stepNumber 100 = .ok (.getfield 9, 3) := by decide +kernel
theorem dX3_stepNumber_103 : decode cX3_stepNumber 103 = .ok (.aload_n 0, 1) := by decide +kernel
theorem dX3_stepNumber_104 : decode cX3_stepNumber 104 = .ok (.getfield 57, 3) := by decide +kernel
theorem dX3_stepNumber_107 : decode cX3_stepNumber 107 = .ok (.invokevirtual 78, 3) := by decide +kernel
theorem dX3_stepNumber_110 : decode cX3_stepNumber 110 = .ok (.invokestatic 86, 3) := by decide +kernel
theorem dX3_stepNumber_113 : decode cX3_stepNumber 113 = .ok (.ifCond .eq 7, 3) := by decide +kernel
theorem dX3_stepNumber_116 : decode cX3_stepNumber 116 = .ok (.iconst 1, 1) := by decide +kernel
theorem dX3_stepNumber_117 : decode cX3_stepNumber 117 = .ok (.goto 4, 3) := by decide +kernel
theorem dX3_stepNumber_120 : decode cX3_stepNumber 120 = .ok (.iconst 2, 1) := by decide +kernel
theorem dX3_stepNumber_121 : decode cX3_stepNumber 121 = .ok (.putfield 67, 3) := by decide +kernel
theorem dX3_stepNumber_124 : decode cX3_stepNumber 124 = .ok (.return_, 1) := by decide +kernel
theorem dX3_isBlank_0 : decode cX3_isBlank 0 = .ok (.iload_n 0, 1) := by decide +kernel
theorem dX3_isBlank_1 : decode cX3_isBlank 1 = .ok (.bipush 32, 2) := by decide +kernel
theorem dX3_isBlank_3 : decode cX3_isBlank 3 = .ok (.if_icmp .eq 9, 3) := by decide +kernel
theorem dX3_isBlank_6 : decode cX3_isBlank 6 = .ok (.iload_n 0, 1) := by decide +kernel
theorem dX3_isBlank_7 : decode cX3_isBlank 7 = .ok (.bipush 10, 2) := by decide +kernel
theorem dX3_isBlank_9 : decode cX3_isBlank 9 = .ok (.if_icmp .ne 7, 3) := by decide +kernel
theorem dX3_isBlank_12 : decode cX3_isBlank 12 = .ok (.iconst 1, 1) := by decide +kernel
theorem dX3_isBlank_13 : decode cX3_isBlank 13 = .ok (.goto 4, 3) := by decide +kernel
theorem dX3_isBlank_16 : decode cX3_isBlank 16 = .ok (.iconst 0, 1) := by decide +kernel
theorem dX3_isBlank_17 : decode cX3_isBlank 17 = .ok (.ireturn, 1) := by decide +kernel
theorem dX3_isLetter_0 : decode cX3_isLetter 0 = .ok (.iload_n 0, 1) := by decide +kernel
theorem dX3_isLetter_1 : decode cX3_isLetter 1 = .ok (.bipush 97, 2) := by decide +kernel
theorem dX3_isLetter_3 : decode cX3_isLetter 3 = .ok (.if_icmp .lt 13, 3) := by decide +kernel
theorem dX3_isLetter_6 : decode cX3_isLetter 6 = .ok (.iload_n 0, 1) := by decide +kernel
theorem dX3_isLetter_7 : decode cX3_isLetter 7 = .ok (.bipush 122, 2) := by decide +kernel
theorem dX3_isLetter_9 : decode cX3_isLetter 9 = .ok (.if_icmp .gt 7, 3) := by decide +kernel
theorem dX3_isLetter_12 : decode cX3_isLetter 12 = .ok (.iconst 1, 1) := by decide +kernel
theorem dX3_isLetter_13 : decode cX3_isLetter 13 = .ok (.goto 4, 3) := by decide +kernel
theorem dX3_isLetter_16 : decode cX3_isLetter 16 = .ok (.iconst 0, 1) := by decide +kernel
theorem dX3_isLetter_17 : decode cX3_isLetter 17 = .ok (.ireturn, 1) := by decide +kernel
theorem dX3_isDigit_0 : decode cX3_isDigit 0 = .ok (.iload_n 0, 1) := by decide +kernel
theorem dX3_isDigit_1 : decode cX3_isDigit 1 = .ok (.bipush 48, 2) := by decide +kernel
theorem dX3_isDigit_3 : decode cX3_isDigit 3 = .ok (.if_icmp .lt 13, 3) := by decide +kernel
theorem dX3_isDigit_6 : decode cX3_isDigit 6 = .ok (.iload_n 0, 1) := by decide +kernel
theorem dX3_isDigit_7 : decode cX3_isDigit 7 = .ok (.bipush 57, 2) := by decide +kernel
theorem dX3_isDigit_9 : decode cX3_isDigit 9 = .ok (.if_icmp .gt 7, 3) := by decide +kernel
theorem dX3_isDigit_12 : decode cX3_isDigit 12 = .ok (.iconst 1, 1) := by decide +kernel
theorem dX3_isDigit_13 : decode cX3_isDigit 13 = .ok (.goto 4, 3) := by decide +kernel
theorem dX3_isDigit_16 : decode cX3_isDigit 16 = .ok (.iconst 0, 1) := by decide +kernel
theorem dX3_isDigit_17 : decode cX3_isDigit 17 = .ok (.ireturn, 1) := by decide +kernel
theorem dX4_init_0 : decode cX4_init 0 = .ok (.aload_n 0, 1) := by decide +kernel
theorem dX4_init_1 : decode cX4_init 1 = .ok (.invokespecial 3, 3) := by decide +kernel
theorem dX4_init_4 : decode cX4_init 4 = .ok (.aload_n 0, 1) := by decide +kernel
theorem dX4_init_5 : decode cX4_init 5 = .ok (.new 9, 3) := by decide +kernel
theorem dX4_init_8 : decode cX4_init 8 = .ok (.dup, 1) := by decide +kernel
theorem dX4_init_9 : decode cX4_init 9 = .ok (.bipush 8, 2) := by decide +kernel
theorem dX4_init_11 : decode cX4_init 11 = .ok (.invokespecial 11, 3) := by decide +kernel
theorem dX4_init_14 : decode cX4_init 14 = .ok (.putfield 14, 3) := by decide +kernel
theorem dX4_init_17 : decode cX4_init 17 = .ok (.aload_n 0, 1) := by decide +kernel
theorem dX4_init_18 : decode cX4_init 18 = .ok (.new 9, 3) := by decide +kernel
theorem dX4_init_21 : decode cX4_init 21 = .ok (.dup, 1) := by decide +kernel
theorem dX4_init_22 : decode cX4_init 22 = .ok (.bipush 8, 2) := by decide +kernel
theorem dX4_init_24 : decode cX4_init 24 = .ok (.invokespecial 11, 3) := by decide +kernel
theorem dX4_init_27 : decode cX4_init 27 = .ok (.putfield 20, 3) := by decide +kernel
theorem dX4_init_30 : decode cX4_init 30 = .ok (.aload_n 0, 1) := by decide +kernel
theorem dX4_init_31 : decode cX4_init 31 = .ok (.new 9, 3) := by decide +kernel
theorem dX4_init_34 : decode cX4_init 34 = .ok (.dup, 1) := by decide +kernel
theorem dX4_init_35 : decode cX4_init 35 = .ok (.bipush 8, 2) := by decide +kernel
theorem dX4_init_37 : decode cX4_init 37 = .ok (.invokespecial 11, 3) := by decide +kernel
theorem dX4_init_40 : decode cX4_init 40 = .ok (.putfield 23, 3) := by decide +kernel
theorem dX4_init_43 : decode cX4_init 43 = .ok (.aload_n 0, 1) := by decide +kernel
theorem dX4_init_44 : decode cX4_init 44 = .ok (.new 9, 3) := by decide +kernel
theorem dX4_init_47 : decode cX4_init 47 = .ok (.dup, 1) := by decide +kernel
theorem dX4_init_48 : decode cX4_init 48 = .ok (.bipush 8, 2) := by decide +kernel
theorem dX4_init_50 : decode cX4_init 50 = .ok (.invokespecial 11, 3) := by decide +kernel
theorem dX4_init_53 : decode cX4_init 53 = .ok (.putfield 26, 3) := by decide +kernel
theorem dX4_init_56 : decode cX4_init 56 = .ok (.aload_n 0, 1) := by decide +kernel
theorem dX4_init_57 : decode cX4_init 57 = .ok (.new 9, 3) := by decide +kernel
theorem dX4_init_60 : decode cX4_init 60 = .ok (.dup, 1) := by decide +kernel
theorem dX4_init_61 : decode cX4_init 61 = .ok (.bipush 8, 2) := by decide +kernel
theorem dX4_init_63 : decode cX4_init 63 = .ok (.invokespecial 11, 3) := by decide +kernel
theorem dX4_init_66 : decode cX4_init 66 = .ok (.putfield 29, 3) := by decide +kernel
theorem dX4_init_69 : decode cX4_init 69 = .ok (.aload_n 0, 1) := by decide +kernel
theorem dX4_init_70 : decode cX4_init 70 = .ok (.new 9, 3) := by decide +kernel
theorem dX4_init_73 : decode cX4_init 73 = .ok (.dup, 1) := by decide +kernel
theorem dX4_init_74 : decode cX4_init 74 = .ok (.bipush 8, 2) := by decide +kernel
theorem dX4_init_76 : decode cX4_init 76 = .ok (.invokespecial 11, 3) := by decide +kernel
theorem dX4_init_79 : decode cX4_init 79 = .ok (.putfield 32, 3) := by decide +kernel
theorem dX4_init_82 : decode cX4_init 82 = .ok (.aload_n 0, 1) := by decide +kernel
theorem dX4_init_83 : decode cX4_init 83 = .ok (.new 9, 3) := by decide +kernel
theorem dX4_init_86 : decode cX4_init 86 = .ok (.dup, 1) := by decide +kernel
theorem dX4_init_87 : decode cX4_init 87 = .ok (.bipush 8, 2) := by decide +kernel
theorem dX4_init_89 : decode cX4_init 89 = .ok (.invokespecial 11, 3) := by decide +kernel
theorem dX4_init_92 : decode cX4_init 92 = .ok (.putfield 35, 3) := by decide +kernel
theorem dX4_init_95 : decode cX4_init 95 = .ok (.aload_n 0, 1) := by decide +kernel
theorem dX4_init_96 : decode cX4_init 96 = .ok (.new 9, 3) := by decide +kernel
theorem dX4_init_99 : decode cX4_init 99 = .ok (.dup, 1) := by decide +kernel
theorem dX4_init_100 : decode cX4_init 100 = .ok (.bipush 8, 2) := by decide +kernel
theorem dX4_init_102 : decode cX4_init 102 = .ok (.invokespecial 11, 3) := by decide +kernel
theorem dX4_init_105 : decode cX4_init 105 = .ok (.putfield 38, 3) := by decide +kernel
theorem dX4_init_108 : decode cX4_init 108 = .ok (.aload_n 0, 1) := by decide +kernel
theorem dX4_init_109 : decode cX4_init 109 = .ok (.new 9, 3) := by decide +kernel
theorem dX4_init_112 : decode cX4_init 112 = .ok (.dup, 1) := by decide +kernel
theorem dX4_init_113 : decode cX4_init 113 = .ok (.bipush 16, 2) := by decide +kernel
theorem dX4_init_115 : decode cX4_init 115 = .ok (.invokespecial 11, 3) := by decide +kernel
theorem dX4_init_118 : decode cX4_init 118 = .ok (.putfield 41, 3) := by decide +kernel
theorem dX4_init_121 : decode cX4_init 121 = .ok (.aload_n 0, 1) := by decide +kernel
theorem dX4_init_122 : decode cX4_init 122 = .ok (.new 44, 3) := by decide +kernel
theorem dX4_init_125 : decode cX4_init 125 = .ok (.dup, 1) := by decide +kernel
theorem dX4_init_126 : decode cX4_init 126 = .ok (.invokespecial 46, 3) := by decide +kernel
theorem dX4_init_129 : decode cX4_init 129 = .ok (.putfield 47, 3) := by decide +kernel
theorem dX4_init_132 : decode cX4_init 132 = .ok (.aload_n 0, 1) := by decide +kernel
theorem dX4_init_133 : decode cX4_init 133 = .ok (.invokevirtual 51, 3) := by decide +kernel
theorem dX4_init_136 : decode cX4_init 136 = .ok (.return_, 1) := by decide +kernel
theorem dX4_clear_0 : decode cX4_clear 0 = .ok (.aload_n 0, 1) := by decide +kernel
theorem dX4_clear_1 : decode cX4_clear 1 = .ok (.getfield 14, 3) := by decide +kernel
theorem dX4_clear_4 : decode cX4_clear 4 = .ok (.invokevirtual 54, 3) := by decide +kernel
theorem dX4_clear_7 : decode cX4_clear 7 = .ok (.aload_n 0, 1) := by decide +kernel
theorem dX4_clear_8 : decode cX4_clear 8 = .ok (.getfield 20, 3) := by decide +kernel
theorem dX4_clear_11 : decode cX4_clear 11 = .ok (.invokevirtual 54, 3) := by decide +kernel
theorem dX4_clear_14 : decode cX4_clear 14 = .ok (.aload_n 0, 1) := by decide +kernel
theorem dX4_clear_15 : decode cX4_clear 15 = .ok (.getfield 23, 3) := by decide +kernel
theorem dX4_clear_18 : decode cX4_clear 18 = .ok (.invokevirtual 54, 3) := by decide +kernel
theorem dX4_clear_21 : decode cX4_clear 21 = .ok (.aload_n 0, 1) := by decide +kernel
theorem dX4_clear_22 : decode cX4_clear 22 = .ok (.getfield 26, 3) := by decide +kernel
theorem dX4_clear_25 : decode cX4_clear 25 = .ok (.invokevirtual 54, 3) := by decide +kernel
theorem dX4_clear_28 : decode cX4_clear 28 = .ok (.aload_n 0, 1) := by decide +kernel
theorem dX4_clear_29 : decode cX4_clear 29 = .ok (.getfield 29, 3) := by decide +kernel
theorem dX4_clear_32 : decode cX4_clear 32 = .ok (.invokevirtual 54, 3) := by decide +kernel
theorem dX4_clear_35 : decode cX4_clear 35 = .ok (.aload_n 0, 1) := by decide +kernel
theorem dX4_clear_36 : decode cX4_clear 36 = .ok (.getfield 32, 3) := by decide +kernel
theorem dX4_clear_39 : decode cX4_clear 39 = .ok (.invokevirtual 54, 3) := by decide +kernel
theorem dX4_clear_42 : decode cX4_clear 42 = .ok (.aload_n 0, 1) := by decide +kernel
theorem dX4_clear_43 : decode cX4_clear 43 = .ok (.getfield 35, 3) := by decide +kernel
theorem dX4_clear_46 : decode cX4_clear 46 = .ok (.invokevirtual 54, 3) := by decide +kernel
theorem dX4_clear_49 : decode cX4_clear 49 = .ok (.aload_n 0, 1) := by decide +kernel
theorem dX4_clear_50 : decode cX4_clear 50 = .ok (.getfield 38, 3) := by decide +kernel
theorem dX4_clear_53 : decode cX4_clear 53 = .ok (.invokevirtual 54, 3) := by decide +kernel
theorem dX4_clear_56 : decode cX4_clear 56 = .ok (.aload_n 0, 1) := by decide +kernel
theorem dX4_clear_57 : decode cX4_clear 57 = .ok (.getfield 41, 3) := by decide +kernel
theorem dX4_clear_60 : decode cX4_clear 60 = .ok (.invokevirtual 54, 3) := by decide +kernel
theorem dX4_clear_63 : decode cX4_clear 63 = .ok (.aload_n 0, 1) := by decide +kernel
theorem dX4_clear_64 : decode cX4_clear 64 = .ok (.getfield 47, 3) := by decide +kernel
theorem dX4_clear_67 : decode cX4_clear 67 = .ok (.invokevirtual 55, 3) := by decide +kernel
theorem dX4_clear_70 : decode cX4_clear 70 = .ok (.aload_n 0, 1) := by decide +kernel
theorem dX4_clear_71 : decode cX4_clear 71 = .ok (.getfield 47, 3) := by decide +kernel
theorem dX4_clear_74 : decode cX4_clear 74 = .ok (.bipush 113, 2) := by decide +kernel
theorem dX4_clear_76 : decode cX4_clear 76 = .ok (.invokevirtual 58, 3) := by decide +kernel
theorem dX4_clear_79 : decode cX4_clear 79 = .ok (.aload_n 0, 1) := by decide +kernel
theorem dX4_clear_80 : decode cX4_clear 80 = .ok (.iconst 0, 1) := by decide +kernel
theorem dX4_clear_81 : decode cX4_clear 81 = .ok (.putfield 61, 3) := by decide +kernel
theorem dX4_clear_84 : decode cX4_clear 84 = .ok (.aload_n 0, 1) := by decide +kernel
theorem dX4_clear_85 : decode cX4_clear 85 = .ok (.iconst 3, 1) := by decide +kernel
theorem dX4_clear_86 : decode cX4_clear 86 = .ok (.putfield 65, 3) := by decide +kernel
theorem dX4_clear_89 : decode cX4_clear 89 = .ok (.aload_n 0, 1) := by decide +kernel
theorem dX4_clear_90 : decode cX4_clear 90 = .ok (.iconst 0, 1) := by decide +kernel
theorem dX4_clear_91 : decode cX4_clear 91 = .ok (.putfield 68, 3) := by decide +kernel
theorem dX4_clear_94 : decode cX4_clear 94 = .ok (.return_, 1) := by decide +kernel
theorem dX4_takeFrom_0 : decode cX4_takeFrom 0 = .ok (.aload_n 0, 1) := by decide +kernel
theorem dX4_takeFrom_1 : decode cX4_takeFrom 1 = .ok (.getfield 14, 3) := by decide +kernel
theorem dX4_takeFrom_4 : decode cX4_takeFrom 4 = .ok (.aload_n 1, 1) := by decide +kernel
theorem dX4_takeFrom_5 : decode cX4_takeFrom 5 = .ok (.getfield 14, 3) := by decide +kernel
theorem dX4_takeFrom_8 : decode cX4_takeFrom 8 = .ok (.invokevirtual 71, 3) := by decide +kernel
theorem dX4_takeFrom_11 : decode cX4_takeFrom 11 = .ok (.aload_n 0, 1) := by decide +kernel
theorem dX4_takeFrom_12 : decode cX4_takeFrom 12 = .ok (.getfield 20, 3) := by decide +kernel
theorem dX4_takeFrom_15 : decode cX4_takeFrom 15 = .ok (.aload_n 1, 1) := by decide +kernel
theorem dX4_takeFrom_16 : decode cX4_takeFrom 16 = .ok (.getfield 20, 3) := by decide +kernel
theorem dX4_takeFrom_19 : decode cX4_takeFrom 19 = .ok (.invokevirtual 71, 3) := by decide +kernel
theorem dX4_takeFrom_22 : decode cX4_takeFrom 22 = .ok (.aload_n 0, 1) := by decide +kernel
theorem dX4_takeFrom_23 : decode cX4_takeFrom 23 = .ok (.getfield 23, 3) := by decide +kernel
theorem dX4_takeFrom_26 : decode cX4_takeFrom 26 = .ok (.aload_n 1, 1) := by decide +kernel
theorem dX4_takeFrom_27 : decode cX4_takeFrom 27 = .ok (.getfield 23, 3) := by decide +kernel
theorem dX4_takeFrom_30 : decode cX4_takeFrom 30 = .ok (.invokevirtual 71, 3) := by decide +kernel
theorem dX4_takeFrom_33 : decode cX4_takeFrom 33 = .ok (.aload_n 0, 1) := by decide +kernel
theorem dX4_takeFrom_34 : decode cX4_takeFrom 34 = .ok (.getfield 26, 3) := by decide +kernel
theorem dX4_takeFrom_37 : decode cX4_takeFrom 37 = .ok (.aload_n 1, 1) := by decide +kernel
theorem dX4_takeFrom_38 : decode cX4_takeFrom 38 = .ok (.getfield 26, 3) := by decide +kernel
theorem dX4_takeFrom_41 : decode cX4_takeFrom 41 = .ok (.invokevirtual 71, 3) := by decide +kernel
theorem dX4_takeFrom_44 : decode cX4_takeFrom 44 = .ok (.aload_n 0, 1) := by decide +kernel
theorem dX4_takeFrom_45 : decode cX4_takeFrom 45 = .ok (.getfield 29, 3) := by decide +kernel
theorem dX4_takeFrom_48 : decode cX4_takeFrom 48 = .ok (.aload_n 1, 1) := by decide +kernel
theorem dX4_takeFrom_49 : decode cX4_takeFrom 49 = .ok (.getfield 29, 3) := by decide +kernel
theorem dX4_takeFrom_52 : decode cX4_takeFrom 52 = .ok (.invokevirtual 71, 3) := by decide +kernel
theorem dX4_takeFrom_55 : decode cX4_takeFrom 55 = .ok (.aload_n 0, 1) := by decide +kernel
theorem dX4_takeFrom_56 : decode cX4_takeFrom 56 = .ok (.getfield 32, 3) := by decide +kernel
theorem dX4_takeFrom_59 : decode cX4_takeFrom 59 = .ok (.aload_n 1, 1) := by decide +kernel
theorem dX4_takeFrom_60 : decode cX4_takeFrom 60 = .ok (.getfield 32, 3) := by decide +kernel
theorem dX4_takeFrom_63 : decode cX4_takeFrom 63 = .ok (.invokevirtual 71, 3) := by decide +kernel
theorem dX4_takeFrom_66 : decode cX4_takeFrom 66 = .ok (.aload_n 0, 1) := by decide +kernel
theorem dX4_takeFrom_67 : decode cX4_takeFrom 67 = .ok (.getfield 35, 3) := by decide +kernel
theorem dX4_takeFrom_70 : decode cX4_takeFrom 70 = .ok (.aload_n 1, 1) := by decide +kernel
theorem dX4_takeFrom_71 : decode cX4_takeFrom 71 = .ok (.getfield 35, 3) := by decide +kernel
theorem dX4_takeFrom_74 : decode cX4_takeFrom 74 = .ok (.invokevirtual 71, 3) := by decide +kernel
theorem dX4_takeFrom_77 : decode cX4_takeFrom 77 = .ok (.aload_n 0, 1) := by decide +kernel
theorem dX4_takeFrom_78 : decode cX4_takeFrom 78 = .ok (.getfield 38, 3) := by decide +kernel
theorem dX4_takeFrom_81 : decode cX4_takeFrom 81 = .ok (.aload_n 1, 1) := by decide +kernel
theorem dX4_takeFrom_82 : decode cX4_takeFrom 82 = .ok (.getfield 38, 3) := by decide +kernel
theorem dX4_takeFrom_85 : decode cX4_takeFrom 85 = .ok (.invokevirtual 71, 3) := by decide +kernel
theorem dX4_takeFrom_88 : decode cX4_takeFrom 88 = .ok (.aload_n 0, 1) := by decide +kernel
theorem dX4_takeFrom_89 : decode cX4_takeFrom 89 = .ok (.getfield 41, 3) := by decide +kernel
theorem dX4_takeFrom_92 : decode cX4_takeFrom 92 = .ok (.aload_n 1, 1) := by decide +kernel
theorem dX4_takeFrom_93 : decode cX4_takeFrom 93 = .ok (.getfield 41, 3) := by decide +kernel
theorem dX4_takeFrom_96 : decode cX4_takeFrom 96 = .ok (.invokevirtual 71, 3) := by decide +kernel
theorem dX4_takeFrom_99 : decode cX4_takeFrom 99 = .ok (.aload_n 0, 1) := by decide +kernel
theorem dX4_takeFrom_100 : decode cX4_takeFrom 100 = .ok (.aload_n 1, 1) := by decide +kernel
theorem dX4_takeFrom_101 : decode cX4_takeFrom 101 = .ok (.getfield 61, 3) := by decide +kernel
theorem dX4_takeFrom_104 : decode cX4_takeFrom 104 = .ok (.putfield 61, 3) := by decide +kernel
theorem dX4_takeFrom_107 : decode cX4_takeFrom 107 = .ok (.aload_n 0, 1) := by decide +kernel
theorem dX4_takeFrom_108 : decode cX4_takeFrom 108 = .ok (.aload_n 1, 1) := by decide +kernel
theorem dX4_takeFrom_109 : decode cX4_takeFrom 109 = .ok (.getfield 65, 3) := by decide +kernel
theorem dX4_takeFrom_112 : decode cX4_takeFrom 112 = .ok (.putfield 65, 3) := by decide +kernel
theorem dX4_takeFrom_115 : decode cX4_takeFrom 115 = .ok (.return_, 1) := by decide +kernel
theorem dX4_count_0 : decode cX4_count 0 = .ok (.aload_n 0, 1) := by decide +kernel
theorem dX4_count_1 : decode cX4_count 1 = .ok (.getfield 14, 3) := by decide +kernel
theorem dX4_count_4 : decode cX4_count 4 = .ok (.invokevirtual 75, 3) := by decide +kernel
theorem dX4_count_7 : decode cX4_count 7 = .ok (.ireturn, 1) := by decide +kernel
theorem dX4_has_0 : decode cX4_has 0 = .ok (.iload_n 1, 1) := by decide +kernel
theorem dX4_has_1 : decode cX4_has 1 = .ok (.ifCond .lt 18, 3) := by decide +kernel
theorem dX4_has_4 : decode cX4_has 4 = .ok (.iload_n 1, 1) := by decide +kernel
theorem dX4_has_5 : decode cX4_has 5 = .ok (.aload_n 0, 1) := by decide +kernel
theorem dX4_has_6 : decode cX4_has 6 = .ok (.getfield 14, 3) := by decide +kernel
theorem dX4_has_9 : decode cX4_has 9 = .ok (.invokevirtual 75, 3) := by decide +kernel
theorem dX4_has_12 : decode cX4_has 12 = .ok (.if_icmp .ge 7, 3) := by decide +kernel
theorem dX4_has_15 : decode cX4_has 15 = .ok (.iconst 1, 1) := by decide +kernel
theorem dX4_has_16 : decode cX4_has 16 = .ok (.goto 4, 3) := by decide +kernel
theorem dX4_has_19 : decode cX4_has 19 = .ok (.iconst 0, 1) := by decide +kernel
theorem dX4_has_20 : decode cX4_has 20 = .ok (.ireturn, 1) := by decide +kernel
theorem dX4_addSegment_0 : decode cX4_addSegment 0 = .ok (.aload_n 0, 1) := by decide +kernel
theorem dX4_addSegment_1 : decode cX4_addSegment 1 = .ok (.getfield 14, 3) := by decide +kernel
theorem dX4_addSegment_4 : decode cX4_addSegment 4 = .ok (.iload_n 1, 1) := by decide +kernel
theorem dX4_addSegment_5 : decode cX4_addSegment 5 = .ok (.invokevirtual 79, 3) := by decide +kernel
theorem dX4_addSegment_8 : decode cX4_addSegment 8 = .ok (.aload_n 0, 1) := by decide +kernel
theorem dX4_addSegment_9 : decode cX4_addSegment 9 = .ok (.getfield 20, 3) := by decide +kernel
theorem dX4_addSegment_12 : decode cX4_addSegment 12 = .ok (.iload_n 2, 1) := by decide +kernel
theorem dX4_addSegment_13 : decode cX4_addSegment 13 = .ok (.invokevirtual 79, 3) := by decide +kernel
theorem dX4_addSegment_16 : decode cX4_addSegment 16 = .ok (.aload_n 0, 1) := by decide +kernel
theorem dX4_addSegment_17 : decode cX4_addSegment 17 = .ok (.getfield 23, 3) := by decide +kernel
theorem dX4_addSegment_20 : decode cX4_addSegment 20 = .ok (.iload_n 3, 1) := by decide +kernel
theorem dX4_addSegment_21 : decode cX4_addSegment 21 = .ok (.invokevirtual 79, 3) := by decide +kernel
theorem dX4_addSegment_24 : decode cX4_addSegment 24 = .ok (.aload_n 0, 1) := by decide +kernel
theorem dX4_addSegment_25 : decode cX4_addSegment 25 = .ok (.getfield 26, 3) := by decide +kernel
theorem dX4_addSegment_28 : decode cX4_addSegment 28 = .ok (.iload 4, 2) := by decide +kernel
theorem dX4_addSegment_30 : decode cX4_addSegment 30 = .ok (.invokevirtual 79, 3) := by decide +kernel
theorem dX4_addSegment_33 : decode cX4_addSegment 33 = .ok (.aload_n 0, 1) := by decide +kernel
theorem dX4_addSegment_34 : decode cX4_addSegment 34 = .ok (.getfield 29, 3) := by decide +kernel
theorem dX4_addSegment_37 : decode cX4_addSegment 37 = .ok (.iload_n 3, 1) := by decide +kernel
theorem dX4_addSegment_38 : decode cX4_addSegment 38 = .ok (.iload_n 1, 1) := by decide +kernel
theorem dX4_addSegment_39 : decode cX4_addSegment 39 = .ok (.isub, 1) := by decide +kernel
theorem dX4_addSegment_40 : decode cX4_addSegment 40 = .ok (.invokevirtual 79, 3) := by decide +kernel
theorem dX4_addSegment_43 : decode cX4_addSegment 43 = .ok (.aload_n 0, 1) := by decide +kernel
theorem dX4_addSegment_44 : decode cX4_addSegment 44 = .ok (.getfield 32, 3) := by decide +kernel
theorem dX4_addSegment_47 : decode cX4_addSegment 47 = .ok (.iload 4, 2) := by decide +kernel
theorem dX4_addSegment_49 : decode cX4_addSegment 49 = .ok (.iload_n 2, 1) := by decide +kernel
theorem dX4_addSegment_50 : decode cX4_addSegment 50 = .ok (.isub, 1) := by decide +kernel
theorem dX4_addSegment_51 : decode cX4_addSegment 51 = .ok (.invokevirtual 79, 3) := by decide +kernel
theorem dX4_addSegment_54 : decode cX4_addSegment 54 = .ok (.return_, 1) := by decide +kernel
theorem dX4_settle_0 : decode cX4_settle 0 = .ok (.aload_n 0, 1) := by decide +kernel
theorem dX4_settle_1 : decode cX4_settle 1 = .ok (.aload_n 0, 1) := by decide +kernel
theorem dX4_settle_2 : decode cX4_settle 2 = .ok (.getfield 47, 3) := by decide +kernel
theorem dX4_settle_5 : decode cX4_settle 5 = .ok (.getfield 80, 3) := by decide +kernel
theorem dX4_settle_8 : decode cX4_settle 8 = .ok (.putfield 61, 3) := by decide +kernel
theorem dX4_settle_11 : decode cX4_settle 11 = .ok (.aload_n 0, 1) := by decide +kernel
theorem dX4_settle_12 : decode cX4_settle 12 = .ok (.invokevirtual 81, 3) := by decide +kernel
theorem dX4_settle_15 : decode cX4_settle 15 = .ok (.iconst 0, 1) := by decide +kernel
theorem dX4_settle_16 : decode cX4_settle 16 = .ok (.istore_n 1, 1) := by decide +kernel
theorem dX4_settle_17 : decode cX4_settle 17 = .ok (.iload_n 1, 1) := by decide +kernel
theorem dX4_settle_18 : decode cX4_settle 18 = .ok (.aload_n 0, 1) := by decide +kernel
theorem dX4_settle_19 : decode cX4_settle 19 = .ok (.invokevirtual 84, 3) := by decide +kernel
theorem dX4_settle_22 : decode cX4_settle 22 = .ok (.if_icmp .ge 21, 3) := by decide +kernel
theorem dX4_settle_25 : decode cX4_settle 25 = .ok (.aload_n 0, 1) := by decide +kernel
theorem dX4_settle_26 : decode cX4_settle 26 = .ok (.getfield 35, 3) := by decide +kernel
theorem dX4_settle_29 : decode cX4_settle 29 = .ok (.aload_n 0, 1) := by decide +kernel
theorem dX4_settle_30 : decode cX4_settle 30 = .ok (.iload_n 1, 1) := by decide +kernel
theorem dX4_settle_31 : decode cX4_settle 31 = .ok (.invokevirtual 87, 3) := by decide +kernel
theorem dX4_settle_34 : decode cX4_settle 34 = .ok (.invokevirtual 79, 3) := by decide +kernel
theorem dX4_settle_37 : decode cX4_settle 37 = .ok (.iinc 1 1, 3) := by decide +kernel
theorem dX4_settle_40 : decode cX4_settle 40 = .ok (.goto (-23), 3) := by decide +kernel
theorem dX4_settle_43 : decode cX4_settle 43 = .ok (.iconst 0, 1) := by decide +kernel
theorem dX4_settle_44 : decode cX4_settle 44 = .ok (.istore_n 1, 1) := by decide +kernel
theorem dX4_settle_45 : decode cX4_settle 45 = .ok (.iload_n 1, 1) := by decide +kernel
theorem dX4_settle_46 : decode cX4_settle 46 = .ok (.bipush 60, 2) := by decide +kernel
theorem dX4_settle_48 : decode cX4_settle 48 = .ok (.if_icmp .gt 25, 3) := by decide +kernel
theorem dX4_settle_51 : decode cX4_settle 51 = .ok (.aload_n 0, 1) := by decide +kernel
theorem dX4_settle_52 : decode cX4_settle 52 = .ok (.iload_n 1, 1) := by decide +kernel
theorem dX4_settle_53 : decode cX4_settle 53 = .ok (.invokevirtual 91, 3) := by decide +kernel
theorem dX4_settle_56 : decode cX4_settle 56 = .ok (.ifCond .eq 11, 3) := by decide +kernel
theorem dX4_settle_59 : decode cX4_settle 59 = .ok (.aload_n 0, 1) := by decide +kernel
theorem dX4_settle_60 : decode cX4_settle 60 = .ok (.getfield 41, 3) := by decide +kernel
theorem dX4_settle_63 : decode cX4_settle 63 = .ok (.iload_n 1, 1) := by decide +kernel
theorem dX4_settle_64 : decode cX4_settle 64 = .ok (.invokevirtual 79, 3) := by decide +kernel
theorem dX4_settle_67 : decode cX4_settle 67 = .ok (.iinc 1 1, 3) := by decide +kernel
theorem dX4_settle_70 : decode cX4_settle 70 = .ok (.goto (-25), 3) := by decide +kernel
theorem dX4_settle_73 : decode cX4_settle 73 = .ok (.return_, 1) := by decide +kernel
theorem dX4_weigh_0 : decode cX4_weigh 0 = .ok (.aload_n 0, 1) := by decide +kernel
theorem dX4_weigh_1 : decode cX4_weigh 1 = .ok (.getfield 68, 3) := by decide +kernel
theorem dX4_weigh_4 : decode cX4_weigh 4 = .ok (.istore_n 1, 1) := by decide +kernel
theorem dX4_weigh_5 : decode cX4_weigh 5 = .ok (.iconst 0, 1) := by decide +kernel
theorem dX4_weigh_6 : decode cX4_weigh 6 = .ok (.istore_n 2, 1) := by decide +kernel
theorem dX4_weigh_7 : decode cX4_weigh 7 = .ok (.iload_n 2, 1) := by decide +kernel
theorem dX4_weigh_8 : decode cX4_weigh 8 = .ok (.aload_n 0, 1) := by decide +kernel
theorem dX4_weigh_9 : decode cX4_weigh 9 = .ok (.invokevirtual 84, 3) := by decide +kernel
theorem dX4_weigh_12 : decode cX4_weigh 12 = .ok (.if_icmp .ge 67, 3) := by decide +kernel
theorem dX4_weigh_15 : decode cX4_weigh 15 = .ok (.iload_n 1, 1) := by decide +kernel
theorem dX4_weigh_16 : decode cX4_weigh 16 = .ok (.sipush 137, 3) := by decide +kernel
theorem dX4_weigh_19 : decode cX4_weigh 19 = .ok (.imul, 1) := by decide +kernel
theorem dX4_weigh_20 : decode cX4_weigh 20 = .ok (.bipush 71, 2) := by decide +kernel
theorem dX4_weigh_22 : decode cX4_weigh 22 = .ok (.iadd, 1) := by decide +kernel
theorem dX4_weigh_23 : decode cX4_weigh 23 = .ok (.sipush 1000, 3) := by decide +kernel
theorem dX4_weigh_26 : decode cX4_weigh 26 = .ok (.irem, 1) := by decide +kernel
theorem dX4_weigh_27 : decode cX4_weigh 27 = .ok (.istore_n 1, 1) := by decide +kernel
theorem dX4_weigh_28 : decode cX4_weigh 28 = .ok (.aload_n 0, 1) := by decide +kernel
theorem dX4_weigh_29 : decode cX4_weigh 29 = .ok (.getfield 14, 3) := by decide +kernel
theorem dX4_weigh_32 : decode cX4_weigh 32 = .ok (.iload_n 2, 1) := by decide +kernel
theorem dX4_weigh_33 : decode cX4_weigh 33 = .ok (.invokevirtual 95, 3) := by decide +kernel
theorem dX4_weigh_36 : decode cX4_weigh 36 = .ok (.istore_n 3, 1) := by decide +kernel
theorem dX4_weigh_37 : decode cX4_weigh 37 = .ok (.aload_n 0, 1) := by decide +kernel
theorem dX4_weigh_38 : decode cX4_weigh 38 = .ok (.getfield 38, 3) := by decide +kernel
theorem dX4_weigh_41 : decode cX4_weigh 41 = .ok (.aload_n 0, 1) := by decide +kernel
theorem dX4_weigh_42 : decode cX4_weigh 42 = .ok (.getfield 47, 3) := by decide +kernel
theorem dX4_weigh_45 : decode cX4_weigh 45 = .ok (.iload_n 2, 1) := by decide +kernel
theorem dX4_weigh_46 : decode cX4_weigh 46 = .ok (.iload_n 3, 1) := by decide +kernel
theorem dX4_weigh_47 : decode cX4_weigh 47 = .ok (.aload_n 0, 1) := by decide +kernel
theorem dX4_weigh_48 : decode cX4_weigh 48 = .ok (.getfield 29, 3) := by decide +kernel
theorem dX4_weigh_51 : decode cX4_weigh 51 = .ok (.iload_n 2, 1) := by decide +kernel
theorem dX4_weigh_52 : decode cX4_weigh 52 = .ok (.invokevirtual 95, 3) := by decide +kernel
theorem dX4_weigh_55 : decode cX4_weigh 55 = .ok (.aload_n 0, 1) := by decide +kernel
theorem dX4_weigh_56 : decode cX4_weigh 56 = .ok (.getfield 32, 3) := by decide +kernel
theorem dX4_weigh_59 : decode cX4_weigh 59 = .ok (.iload_n 2, 1) := by decide +kernel
theorem dX4_weigh_60 : decode cX4_weigh 60 = .ok (.invokevirtual 95, 3) := by decide +kernel
theorem dX4_weigh_63 : decode cX4_weigh 63 = .ok (.iload_n 1, 1) := by decide +kernel
theorem dX4_weigh_64 : decode cX4_weigh 64 = .ok (.bipush 100, 2) := by decide +kernel
theorem dX4_weigh_66 : decode cX4_weigh 66 = .ok (.irem, 1) := by decide +kernel
theorem dX4_weigh_67 : decode cX4_weigh 67 = .ok (.invokevirtual 98, 3) := by decide +kernel
theorem dX4_weigh_70 : decode cX4_weigh 70 = .ok (.invokevirtual 79, 3) := by decide +kernel
theorem dX4_weigh_73 : decode cX4_weigh 73 = .ok (.iinc 2 1, 3) := by decide +kernel
theorem dX4_weigh_76 : decode cX4_weigh 76 = .ok (.goto (-69), 3) := by decide +kernel
theorem dX4_weigh_79 : decode cX4_weigh 79 = .ok (.return_, 1) := by decide +kernel
theorem dX4_findLowerOnes_0 : decode cX4_findLowerOnes 0 = .ok (.iconst 0, 1) := by decide +kernel
theorem dX4_findLowerOnes_1 : decode cX4_findLowerOnes 1 = .ok (.istore_n 2, 1) := by decide +kernel
theorem dX4_findLowerOnes_2 : decode cX4_findLowerOnes 2 = .ok (.iconst 0, 1) := by decide +kernel
theorem dX4_findLowerOnes_3 : decode cX4_findLowerOnes 3 = .ok (.istore_n 3, 1) := by decide +kernel
theorem dX4_findLowerOnes_4 : decode cX4_findLowerOnes 4 = .ok (.iload_n 3, 1) := by decide +kernel
theorem dX4_findLowerOnes_5 : decode cX4_findLowerOnes 5 = .ok (.aload_n 0, 1) := by decide +kernel
theorem dX4_findLowerOnes_6 : decode cX4_findLowerOnes 6 = .ok (.invokevirtual 84, 3) := by decide +kernel
theorem dX4_findLowerOnes_9 : decode cX4_findLowerOnes 9 = .ok (.if_icmp .ge 106, 3) := by decide +kernel
theorem dX4_findLowerOnes_12 : decode cX4_findLowerOnes 12 = .ok (.aload_n 0, 1) := by decide +kernel
theorem dX4_findLowerOnes_13 : decode cX4_findLowerOnes 13 = .ok (.getfield 14, 3) := by decide +kernel
theorem dX4_findLowerOnes_16 : decode cX4_findLowerOnes 16 = .ok (.iload_n 1, 1) := by decide +kernel
theorem dX4_findLowerOnes_17 : decode cX4_findLowerOnes 17 = .ok (.invokevirtual 95, 3) := by decide +kernel
theorem dX4_findLowerOnes_20 : decode cX4_findLowerOnes 20 = .ok (.aload_n 0, 1) := by decide +kernel
theorem dX4_findLowerOnes_21 : decode cX4_findLowerOnes 21 = .ok (.getfield 14, 3) := by decide +kernel
theorem dX4_findLowerOnes_24 : decode cX4_findLowerOnes 24 = .ok (.iload_n 3, 1) := by decide +kernel
theorem dX4_findLowerOnes_25 : decode cX4_findLowerOnes 25 = .ok (.invokevirtual 95, 3) := by decide +kernel
theorem dX4_findLowerOnes_28 : decode cX4_findLowerOnes 28 = .ok (.invokestatic 102, 3) := by decide +kernel
theorem dX4_findLowerOnes_31 : decode cX4_findLowerOnes 31 = .ok (.istore 4, 2) := by decide +kernel
theorem dX4_findLowerOnes_33 : decode cX4_findLowerOnes 33 = .ok (.iload_n 3, 1) := by decide +kernel
theorem dX4_findLowerOnes_34 : decode cX4_findLowerOnes 34 = .ok (.iload_n 1, 1) := by decide +kernel
theorem dX4_findLowerOnes_35 : decode cX4_findLowerOnes 35 = .ok (.if_icmp .eq 74, 3) := by decide +kernel
theorem dX4_findLowerOnes_38 : decode cX4_findLowerOnes 38 = .ok (.aload_n 0, 1) := by decide +kernel
theorem dX4_findLowerOnes_39 : decode cX4_findLowerOnes 39 = .ok (.iload_n 1, 1) := by decide +kernel
theorem dX4_findLowerOnes_40 : decode cX4_findLowerOnes 40 = .ok (.iload 4, 2) := by decide +kernel
theorem dX4_findLowerOnes_42 : decode cX4_findLowerOnes 42 = .ok (.invokevirtual 108, 3) := by decide +kernel
theorem dX4_findLowerOnes_45 : decode cX4_findLowerOnes 45 = .ok (.ifCond .eq 64, 3) := by decide +kernel
theorem dX4_findLowerOnes_48 : decode cX4_findLowerOnes 48 = .ok (.aload_n 0, 1) := by decide +kernel
theorem dX4_findLowerOnes_49 : decode cX4_findLowerOnes 49 = .ok (.iload_n 3, 1) := by decide +kernel
theorem dX4_findLowerOnes_50 : decode cX4_findLowerOnes 50 = .ok (.iload 4, 2) := by decide +kernel
theorem dX4_findLowerOnes_52 : decode cX4_findLowerOnes 52 = .ok (.invokevirtual 108, 3) := by decide +kernel
theorem dX4_findLowerOnes_55 : decode cX4_findLowerOnes 55 = .ok (.ifCond .eq 54, 3) := by decide +kernel
theorem dX4_findLowerOnes_58 : decode cX4_findLowerOnes 58 = .ok (.aload_n 0, 1) := by decide +kernel
theorem dX4_findLowerOnes_59 : decode cX4_findLowerOnes 59 = .ok (.iload_n 1, 1) := by decide +kernel
theorem dX4_findLowerOnes_60 : decode cX4_findLowerOnes 60 = .ok (.iload_n 3, 1) := by decide +kernel
theorem dX4_findLowerOnes_61 : decode cX4_findLowerOnes 61 = .ok (.iload 4, 2) := by decide +kernel
theorem dX4_findLowerOnes_63 : decode cX4_findLowerOnes 63 = .ok (.invokevirtual 112, 3) := by decide +kernel
theorem dX4_findLowerOnes_66 : decode cX4_findLowerOnes 66 = .ok (.istore 5, 2) := by decide +kernel
theorem dX4_findLowerOnes_68 : decode cX4_findLowerOnes 68 = .ok (.iload 5, 2) := by decide +kernel
theorem dX4_findLowerOnes_70 : decode cX4_findLowerOnes 70 = .ok (.ifCond .ne 12, 3) := by decide +kernel
theorem dX4_findLowerOnes_73 : decode cX4_findLowerOnes 73 = .ok (.aload_n 0, 1) := by decide +kernel
theorem dX4_findLowerOnes_74 : decode cX4_findLowerOnes 74 = .ok (.iload_n 1, 1) := by decide +kernel
theorem dX4_findLowerOnes_75 : decode cX4_findLowerOnes 75 = .ok (.iload_n 3, 1) := by decide +kernel
theorem dX4_findLowerOnes_76 : decode cX4_findLowerOnes 76 = .ok (.invokevirtual 116, 3) := by decide +kernel
theorem dX4_findLowerOnes_79 : decode cX4_findLowerOnes 79 = .ok (.goto 13, 3) := by decide +kernel
theorem dX4_findLowerOnes_82 : decode cX4_findLowerOnes 82 = .ok (.iload 5, 2) := by decide +kernel
theorem dX4_findLowerOnes_84 : decode cX4_findLowerOnes 84 = .ok (.ifCond .le 7, 3) := by decide +kernel
theorem dX4_findLowerOnes_87 : decode cX4_findLowerOnes 87 = .ok (.iconst 1, 1) := by decide +kernel
theorem dX4_findLowerOnes_88 : decode cX4_findLowerOnes 88 = .ok (.goto 4, 3) := by decide +kernel
theorem dX4_findLowerOnes_91 : decode cX4_findLowerOnes 91 = .ok (.iconst 0, 1) := by decide +kernel
theorem dX4_findLowerOnes_92 : decode cX4_findLowerOnes 92 = .ok (.istore 6, 2) := by decide +kernel
theorem dX4_findLowerOnes_94 : decode cX4_findLowerOnes 94 = .ok (.iload_n 2, 1) := by decide +kernel
theorem dX4_findLowerOnes_95 : decode cX4_findLowerOnes 95 = .ok (.iload 6, 2) := by decide +kernel
theorem dX4_findLowerOnes_97 : decode cX4_findLowerOnes 97 = .ok (.ifCond .eq 9, 3) := by decide +kernel
theorem dX4_findLowerOnes_100 : decode cX4_findLowerOnes 100 = .ok (.iconst 1, 1) := by decide +kernel
theorem dX4_findLowerOnes_101 : decode cX4_findLowerOnes 101 = .ok (.iload_n 3, 1) := by decide +kernel
theorem dX4_findLowerOnes_102 : decode cX4_findLowerOnes 102 = .ok (.ishl, 1) := by decide +kernel
theorem dX4_findLowerOnes_103 : decode cX4_findLowerOnes 103 = .ok (.goto 4, 3) := by decide +kernel
theorem dX4_findLowerOnes_106 : decode cX4_findLowerOnes 106 = .ok (.iconst 0, 1) := by decide +kernel
theorem dX4_findLowerOnes_107 : decode cX4_findLowerOnes 107 = .ok (.ior, 1) := by decide +kernel
theorem dX4_findLowerOnes_108 : decode cX4_findLowerOnes 108 = .ok (.istore_n 2, 1) := by decide +kernel
theorem dX4_findLowerOnes_109 : decode cX4_findLowerOnes 109 = .ok (.iinc 3 1, 3) := by decide +kernel
theorem dX4_findLowerOnes_112 : decode cX4_findLowerOnes 112 = .ok (.goto (-108), 3) := by decide +kernel
theorem dX4_findLowerOnes_115 : decode cX4_findLowerOnes 115 = .ok (.iload_n 2, 1) := by decide +kernel
theorem dX4_findLowerOnes_116 : decode cX4_findLowerOnes 116 = .ok (.ireturn, 1) := by decide +kernel
theorem dX4_isSteeper_0 : decode cX4_isSteeper 0 = .ok (.aload_n 0, 1) := by decide +kernel
theorem dX4_isSteeper_1 : decode cX4_isSteeper 1 = .ok (.getfield 32, 3) := by decide +kernel
theorem dX4_isSteeper_4 : decode cX4_isSteeper 4 = .ok (.iload_n 1, 1) := by decide +kernel
theorem dX4_isSteeper_5 : decode cX4_isSteeper 5 = .ok (.invokevirtual 95, 3) := by decide +kernel
theorem dX4_isSteeper_8 : decode cX4_isSteeper 8 = .ok (.aload_n 0, 1) := by decide +kernel
theorem dX4_isSteeper_9 : decode cX4_isSteeper 9 = .ok (.getfield 29, 3) := by decide +kernel
theorem dX4_isSteeper_12 : decode cX4_isSteeper 12 = .ok (.iload_n 2, 1) := by decide +kernel
theorem dX4_isSteeper_13 : decode cX4_isSteeper 13 = .ok (.invokevirtual 95, 3) := by decide +kernel
theorem dX4_isSteeper_16 : decode cX4_isSteeper 16 = .ok (.imul, 1) := by decide +kernel
theorem dX4_isSteeper_17 : decode cX4_isSteeper 17 = .ok (.aload_n 0, 1) := by decide +kernel
theorem dX4_isSteeper_18 : decode cX4_isSteeper 18 = .ok (.getfield 32, 3) := by decide +kernel
theorem dX4_isSteeper_21 : decode cX4_isSteeper 21 = .ok (.iload_n 2, 1) := by decide +kernel
theorem dX4_isSteeper_22 : decode cX4_isSteeper 22 = .ok (.invokevirtual 95, 3) := by decide +kernel
theorem dX4_isSteeper_25 : decode cX4_isSteeper 25 = .ok (.aload_n 0, 1) := by decide +kernel
theorem dX4_isSteeper_26 : decode cX4_isSteeper 26 = .ok (.getfield 29, 3) := by decide +kernel
theorem dX4_isSteeper_29 : decode cX4_isSteeper 29 = .ok (.iload_n 1, 1) := by decide +kernel
theorem dX4_isSteeper_30 : decode cX4_isSteeper 30 = .ok (.invokevirtual 95, 3) := by decide +kernel
theorem dX4_isSteeper_33 : decode cX4_isSteeper 33 = .ok (.imul, 1) := by decide +kernel
theorem dX4_isSteeper_34 : decode cX4_isSteeper 34 = .ok (.if_icmp .le 7, 3) := by decide +kernel
theorem dX4_isSteeper_37 : decode cX4_isSteeper 37 = .ok (.iconst 1, 1) := by decide +kernel
theorem dX4_isSteeper_38 : decode cX4_isSteeper 38 = .ok (.goto 4, 3) := by decide +kernel
theorem dX4_isSteeper_41 : decode cX4_isSteeper 41 = .ok (.iconst 0, 1) := by decide +kernel
theorem dX4_isSteeper_42 : decode cX4_isSteeper 42 = .ok (.ireturn, 1) := by decide +kernel
theorem dX4_isEvent_0 : decode cX4_isEvent 0 = .ok (.iconst 0, 1) := by decide +kernel
theorem dX4_isEvent_1 : decode cX4_isEvent 1 = .ok (.istore_n 2, 1) := by decide +kernel
theorem dX4_isEvent_2 : decode cX4_isEvent 2 = .ok (.iload_n 2, 1) := by decide +kernel
theorem dX4_isEvent_3 : decode cX4_isEvent 3 = .ok (.aload_n 0, 1) := by decide +kernel
theorem dX4_isEvent_4 : decode cX4_isEvent 4 = .ok (.invokevirtual 84, 3) := by decide +kernel
theorem dX4_isEvent_7 : decode cX4_isEvent 7 = .ok (.if_icmp .ge 35, 3) := by decide +kernel
theorem dX4_isEvent_10 : decode cX4_isEvent 10 = .ok (.aload_n 0, 1) := by decide +kernel
theorem dX4_isEvent_11 : decode cX4_isEvent 11 = .ok (.getfield 14, 3) := by decide +kernel
theorem dX4_isEvent_14 : decode cX4_isEvent 14 = .ok (.iload_n 2, 1) := by decide +kernel
theorem dX4_isEvent_15 : decode cX4_isEvent 15 = .ok (.invokevirtual 95, 3) := by decide +kernel
theorem dX4_isEvent_18 : decode cX4_isEvent 18 = .ok (.iload_n 1, 1) := by decide +kernel
theorem dX4_isEvent_19 : decode cX4_isEvent 19 = .ok (.if_icmp .eq 15, 3) := by decide +kernel
theorem dX4_isEvent_22 : decode cX4_isEvent 22 = .ok (.aload_n 0, 1) := by decide +kernel
theorem dX4_isEvent_23 : decode cX4_isEvent 23 = .ok (.getfield 23, 3) := by decide +kernel
theorem dX4_isEvent_26 : decode cX4_isEvent 26 = .ok (.iload_n 2, 1) := by decide +kernel
theorem dX4_isEvent_27 : decode cX4_isEvent 27 = .ok (.invokevirtual 95, 3) := by decide +kernel
theorem dX4_isEvent_30 : decode cX4_isEvent 30 = .ok (.iload_n 1, 1) := by decide +kernel
theorem dX4_isEvent_31 : decode cX4_isEvent 31 = .ok (.if_icmp .ne 5, 3) := by decide +kernel
theorem dX4_isEvent_34 : decode cX4_isEvent 34 = .ok (.iconst 1, 1) := by decide +kernel
theorem dX4_isEvent_35 : decode cX4_isEvent 35 = .ok (.ireturn, 1) := by decide +kernel
theorem dX4_isEvent_36 : decode cX4_isEvent 36 = .ok (.iinc 2 1, 3) := by decide +kernel
theorem dX4_isEvent_39 : decode cX4_isEvent 39 = .ok (.goto (-37), 3) := by decide +kernel
theorem dX4_isEvent_42 : decode cX4_isEvent 42 = .ok (.iconst 0, 1) := by decide +kernel
theorem dX4_isEvent_43 : decode cX4_isEvent 43 = .ok (.ireturn, 1) := by decide +kernel
theorem dX4_isOver_0 : decode cX4_isOver 0 = .ok (.aload_n 0, 1) := by decide +kernel
theorem dX4_isOver_1 : decode cX4_isOver 1 = .ok (.iload_n 1, 1) := by decide +kernel
theorem dX4_isOver_2 : decode cX4_isOver 2 = .ok (.invokevirtual 119, 3) := by decide +kernel
theorem dX4_isOver_5 : decode cX4_isOver 5 = .ok (.ifCond .eq 31, 3) := by decide +kernel
theorem dX4_isOver_8 : decode cX4_isOver 8 = .ok (.aload_n 0, 1) := by decide +kernel
theorem dX4_isOver_9 : decode cX4_isOver 9 = .ok (.getfield 14, 3) := by decide +kernel
theorem dX4_isOver_12 : decode cX4_isOver 12 = .ok (.iload_n 1, 1) := by decide +kernel
theorem dX4_isOver_13 : decode cX4_isOver 13 = .ok (.invokevirtual 95, 3) := by decide +kernel
theorem dX4_isOver_16 : decode cX4_isOver 16 = .ok (.iload_n 2, 1) := by decide +kernel
theorem dX4_isOver_17 : decode cX4_isOver 17 = .ok (.if_icmp .gt 19, 3) := by decide +kernel
theorem dX4_isOver_20 : decode cX4_isOver 20 = .ok (.iload_n 2, 1) := by decide +kernel
theorem dX4_isOver_21 : decode cX4_isOver 21 = .ok (.aload_n 0, 1) := by decide +kernel
theorem dX4_isOver_22 : decode cX4_isOver 22 = .ok (.getfield 23, 3) := by decide +kernel
theorem dX4_isOver_25 : decode cX4_isOver 25 = .ok (.iload_n 1, 1) := by decide +kernel
theorem dX4_isOver_26 : decode cX4_isOver 26 = .ok (.invokevirtual 95, 3) := by decide +kernel
theorem dX4_isOver_29 : decode cX4_isOver 29 = .ok (.if_icmp .ge 7, 3) := by decide +kernel
theorem dX4_isOver_32 : decode cX4_isOver 32 = .ok (.iconst 1, 1) := by decide +kernel
theorem dX4_isOver_33 : decode cX4_isOver 33 = .ok (.goto 4, 3) := by decide +kernel
theorem dX4_isOver_36 : decode cX4_isOver 36 = .ok (.iconst 0, 1) := by decide +kernel
theorem dX4_isOver_37 : decode cX4_isOver 37 = .ok (.ireturn, 1) := by decide +kernel
theorem dX4_aheadOf_0 : decode cX4_aheadOf 0 = .ok (.aload_n 0, 1) := by decide +kernel
theorem dX4_aheadOf_1 : decode cX4_aheadOf 1 = .ok (.getfield 32, 3) := by decide +kernel
theorem dX4_aheadOf_4 : decode cX4_aheadOf 4 = .ok (.iload_n 1, 1) := by decide +kernel
theorem dX4_aheadOf_5 : decode cX4_aheadOf 5 = .ok (.invokevirtual 95, 3) := by decide +kernel
theorem dX4_aheadOf_8 : decode cX4_aheadOf 8 = .ok (.iload_n 2, 1) := by decide +kernel
theorem dX4_aheadOf_9 : decode cX4_aheadOf 9 = .ok (.aload_n 0, 1) := by decide +kernel
theorem dX4_aheadOf_10 : decode cX4_aheadOf 10 = .ok (.getfield 14, 3) := by decide +kernel
theorem dX4_aheadOf_13 : decode cX4_aheadOf 13 = .ok (.iload_n 1, 1) := by decide +kernel
theorem dX4_aheadOf_14 : decode cX4_aheadOf 14 = .ok (.invokevirtual 95, 3) := by decide +kernel
theorem dX4_aheadOf_17 : decode cX4_aheadOf 17 = .ok (.isub, 1) := by decide +kernel
theorem dX4_aheadOf_18 : decode cX4_aheadOf 18 = .ok (.imul, 1) := by decide +kernel
theorem dX4_aheadOf_19 : decode cX4_aheadOf 19 = .ok (.istore 4, 2) := by decide +kernel
theorem dX4_aheadOf_21 : decode cX4_aheadOf 21 = .ok (.aload_n 0, 1) := by decide +kernel
theorem dX4_aheadOf_22 : decode cX4_aheadOf 22 = .ok (.getfield 20, 3) := by decide +kernel
theorem dX4_aheadOf_25 : decode cX4_aheadOf 25 = .ok (.iload_n 1, 1) := by decide +kernel
theorem dX4_aheadOf_26 : decode cX4_aheadOf 26 = .ok (.invokevirtual 95, 3) := by decide +kernel
theorem dX4_aheadOf_29 : decode cX4_aheadOf 29 = .ok (.iload_n 3, 1) := by decide +kernel
theorem dX4_aheadOf_30 : decode cX4_aheadOf 30 = .ok (.isub, 1) := by decide +kernel
theorem dX4_aheadOf_31 : decode cX4_aheadOf 31 = .ok (.aload_n 0, 1) := by decide +kernel
theorem dX4_aheadOf_32 : decode cX4_aheadOf 32 = .ok (.getfield 29, 3) := by decide +kernel
theorem dX4_aheadOf_35 : decode cX4_aheadOf 35 = .ok (.iload_n 1, 1) := by decide +kernel
theorem dX4_aheadOf_36 : decode cX4_aheadOf 36 = .ok (.invokevirtual 95, 3) := by decide +kernel
theorem dX4_aheadOf_39 : decode cX4_aheadOf 39 = .ok (.imul, 1) := by decide +kernel
theorem dX4_aheadOf_40 : decode cX4_aheadOf 40 = .ok (.iload 4, 2) := by decide +kernel
theorem dX4_aheadOf_42 : decode cX4_aheadOf 42 = .ok (.iadd, 1) := by decide +kernel
theorem dX4_aheadOf_43 : decode cX4_aheadOf 43 = .ok (.ireturn, 1) := by decide +kernel
theorem dX4_ceilingOf_0 : decode cX4_ceilingOf 0 = .ok (.aload_n 0, 1) := by decide +kernel
theorem dX4_ceilingOf_1 : decode cX4_ceilingOf 1 = .ok (.getfield 29, 3) := by decide +kernel
theorem dX4_ceilingOf_4 : decode cX4_ceilingOf 4 = .ok (.iload_n 1, 1) := by decide +kernel
theorem dX4_ceilingOf_5 : decode cX4_ceilingOf 5 = .ok (.invokevirtual 95, 3) := by decide +kernel
theorem dX4_ceilingOf_8 : decode cX4_ceilingOf 8 = .ok (.istore_n 3, 1) := by decide +kernel
theorem dX4_ceilingOf_9 : decode cX4_ceilingOf 9 = .ok (.aload_n 0, 1) := by decide +kernel
theorem dX4_ceilingOf_10 : decode cX4_ceilingOf 10 = .ok (.getfield 32, 3) := by decide +kernel
theorem dX4_ceilingOf_13 : decode cX4_ceilingOf 13 = .ok (.iload_n 1, 1) := by decide +kernel
theorem dX4_ceilingOf_14 : decode cX4_ceilingOf 14 = .ok (.invokevirtual 95, 3) := by decide +kernel
theorem dX4_ceilingOf_17 : decode cX4_ceilingOf 17 = .ok (.aload_n 0, 1) := by decide +kernel
theorem dX4_ceilingOf_18 : decode cX4_ceilingOf 18 = .ok (.getfield 14, 3) := by decide +kernel
theorem dX4_ceilingOf_21 : decode cX4_ceilingOf 21 = .ok (.iload_n 1, 1) := by decide +kernel
theorem dX4_ceilingOf_22 : decode cX4_ceilingOf 22 = .ok (.invokevirtual 95, 3) := by decide +kernel
theorem dX4_ceilingOf_25 : decode cX4_ceilingOf 25 = .ok (.iload_n 2, 1) := by decide +kernel
theorem dX4_ceilingOf_26 : decode cX4_ceilingOf 26 = .ok (.isub, 1) := by decide +kernel
theorem dX4_ceilingOf_27 : decode cX4_ceilingOf 27 = .ok (.imul, 1) := by decide +kernel
theorem dX4_ceilingOf_28 : decode cX4_ceilingOf 28 = .ok (.istore 4, 2) := by decide +kernel
theorem dX4_ceilingOf_30 : decode cX4_ceilingOf 30 = .ok (.iload_n 3, 1) := by decide +kernel
theorem dX4_ceilingOf_31 : decode cX4_ceilingOf 31 = .ok (.iconst 1, 1) := by decide +kernel
theorem dX4_ceilingOf_32 : decode cX4_ceilingOf 32 = .ok (.if_icmp .ge 7, 3) := by decide +kernel
theorem dX4_ceilingOf_35 : decode cX4_ceilingOf 35 = .ok (.iconst (-1), 1) := by decide +kernel
theorem dX4_ceilingOf_36 : decode cX4_ceilingOf 36 = .ok (.goto 18, 3) := by decide +kernel
theorem dX4_ceilingOf_39 : decode cX4_ceilingOf 39 = .ok (.aload_n 0, 1) := by decide +kernel
theorem dX4_ceilingOf_40 : decode cX4_ceilingOf 40 = .ok (.getfield 20, 3) := by decide +kernel
theorem dX4_ceilingOf_43 : decode cX4_ceilingOf 43 = .ok (.iload_n 1, 1) := by decide +kernel
theorem dX4_ceilingOf_44 : decode cX4_ceilingOf 44 = .ok (.invokevirtual 95, 3) := by decide +kernel
theorem dX4_ceilingOf_47 : decode cX4_ceilingOf 47 = .ok (.iload 4, 2) := by decide +kernel
theorem dX4_ceilingOf_49 : decode cX4_ceilingOf 49 = .ok (.iload_n 3, 1) := by decide +kernel
theorem dX4_ceilingOf_50 : decode cX4_ceilingOf 50 = .ok (.invokestatic 122, 3) := by decide +kernel
theorem dX4_ceilingOf_53 : decode cX4_ceilingOf 53 = .ok (.isub, 1) := by decide +kernel
theorem dX4_ceilingOf_54 : decode cX4_ceilingOf 54 = .ok (.ireturn, 1) := by decide +kernel
theorem dX4_comparedAt_0 : decode cX4_comparedAt 0 = .ok (.aload_n 0, 1) := by decide +kernel
theorem dX4_comparedAt_1 : decode cX4_comparedAt 1 = .ok (.iload_n 1, 1) := by decide +kernel
theorem dX4_comparedAt_2 : decode cX4_comparedAt 2 = .ok (.iload_n 3, 1) := by decide +kernel
theorem dX4_comparedAt_3 : decode cX4_comparedAt 3 = .ok (.iconst 0, 1) := by decide +kernel
theorem dX4_comparedAt_4 : decode cX4_comparedAt 4 = .ok (.invokevirtual 125, 3) := by decide +kernel
theorem dX4_comparedAt_7 : decode cX4_comparedAt 7 = .ok (.aload_n 0, 1) := by decide +kernel
theorem dX4_comparedAt_8 : decode cX4_comparedAt 8 = .ok (.getfield 29, 3) := by decide +kernel
theorem dX4_comparedAt_11 : decode cX4_comparedAt 11 = .ok (.iload_n 2, 1) := by decide +kernel
theorem dX4_comparedAt_12 : decode cX4_comparedAt 12 = .ok (.invokevirtual 95, 3) := by decide +kernel
theorem dX4_comparedAt_15 : decode cX4_comparedAt 15 = .ok (.imul, 1) := by decide +kernel
theorem dX4_comparedAt_16 : decode cX4_comparedAt 16 = .ok (.istore 4, 2) := by decide +kernel
theorem dX4_comparedAt_18 : decode cX4_comparedAt 18 = .ok (.aload_n 0, 1) := by decide +kernel
theorem dX4_comparedAt_19 : decode cX4_comparedAt 19 = .ok (.iload_n 2, 1) := by decide +kernel
theorem dX4_comparedAt_20 : decode cX4_comparedAt 20 = .ok (.iload_n 3, 1) := by decide +kernel
theorem dX4_comparedAt_21 : decode cX4_comparedAt 21 = .ok (.iconst 0, 1) := by decide +kernel
theorem dX4_comparedAt_22 : decode cX4_comparedAt 22 = .ok (.invokevirtual 125, 3) := by decide +kernel
theorem dX4_comparedAt_25 : decode cX4_comparedAt 25 = .ok (.aload_n 0, 1) := by decide +kernel
theorem dX4_comparedAt_26 : decode cX4_comparedAt 26 = .ok (.getfield 29, 3) := by decide +kernel
theorem dX4_comparedAt_29 : decode cX4_comparedAt 29 = .ok (.iload_n 1, 1) := by decide +kernel
theorem dX4_comparedAt_30 : decode cX4_comparedAt 30 = .ok (.invokevirtual 95, 3) := by decide +kernel
theorem dX4_comparedAt_33 : decode cX4_comparedAt 33 = .ok (.imul, 1) := by decide +kernel
theorem dX4_comparedAt_34 : decode cX4_comparedAt 34 = .ok (.istore 5, 2) := by decide +kernel
theorem dX4_comparedAt_36 : decode cX4_comparedAt 36 = .ok (.iload 4, 2) := by decide +kernel
theorem dX4_comparedAt_38 : decode cX4_comparedAt 38 = .ok (.iload 5, 2) := by decide +kernel
theorem dX4_comparedAt_40 : decode cX4_comparedAt 40 = .ok (.invokestatic 128, 3) := by decide +kernel
theorem dX4_comparedAt_43 : decode cX4_comparedAt 43 = .ok (.ireturn, 1) := by decide +kernel
theorem dX4_isHigher_0 : decode cX4_isHigher 0 = .ok (.iload_n 2, 1) := by decide +kernel
theorem dX4_isHigher_1 : decode cX4_isHigher 1 = .ok (.ifCond .lt 28, 3) := by decide +kernel
theorem dX4_isHigher_4 : decode cX4_isHigher 4 = .ok (.iload_n 2, 1) := by decide +kernel
theorem dX4_isHigher_5 : decode cX4_isHigher 5 = .ok (.bipush 8, 2) := by decide +kernel
theorem dX4_isHigher_7 : decode cX4_isHigher 7 = .ok (.if_icmp .ge 22, 3) := by decide +kernel
theorem dX4_isHigher_10 : decode cX4_isHigher 10 = .ok (.aload_n 0, 1) := by decide +kernel
theorem dX4_isHigher_11 : decode cX4_isHigher 11 = .ok (.getfield 35, 3) := by decide +kernel
theorem dX4_isHigher_14 : decode cX4_isHigher 14 = .ok (.iload_n 1, 1) := by decide +kernel
theorem dX4_isHigher_15 : decode cX4_isHigher 15 = .ok (.invokevirtual 95, 3) := by decide +kernel
theorem dX4_isHigher_18 : decode cX4_isHigher 18 = .ok (.iload_n 2, 1) := by decide +kernel
theorem dX4_isHigher_19 : decode cX4_isHigher 19 = .ok (.ishr, 1) := by decide +kernel
theorem dX4_isHigher_20 : decode cX4_isHigher 20 = .ok (.iconst 1, 1) := by decide +kernel
theorem dX4_isHigher_21 : decode cX4_isHigher 21 = .ok (.iand, 1) := by decide +kernel
theorem dX4_isHigher_22 : decode cX4_isHigher 22 = .ok (.ifCond .eq 7, 3) := by decide +kernel
theorem dX4_isHigher_25 : decode cX4_isHigher 25 = .ok (.iconst 1, 1) := by decide +kernel
theorem dX4_isHigher_26 : decode cX4_isHigher 26 = .ok (.goto 4, 3) := by decide +kernel
theorem dX4_isHigher_29 : decode cX4_isHigher 29 = .ok (.iconst 0, 1) := by decide +kernel
theorem dX4_isHigher_30 : decode cX4_isHigher 30 = .ok (.ireturn, 1) := by decide +kernel
theorem dX4_lastMeetsAnother_0 : decode cX4_lastMeetsAnother 0 = .ok (.aload_n 0, 1) := by decide +kernel
theorem dX4_lastMeetsAnother_1 : decode cX4_lastMeetsAnother 1 = .ok (.invokevirtual 84, 3) := by decide +kernel
theorem dX4_lastMeetsAnother_4 : decode cX4_lastMeetsAnother 4 = .ok (.iconst 1, 1) := by decide +kernel
theorem dX4_lastMeetsAnother_5 : decode cX4_lastMeetsAnother 5 = .ok (.isub, 1) := by decide +kernel
theorem dX4_lastMeetsAnother_6 : decode cX4_lastMeetsAnother 6 = .ok (.istore_n 1, 1) := by decide +kernel
theorem dX4_lastMeetsAnother_7 : decode cX4_lastMeetsAnother 7 = .ok (.iconst 0, 1) := by decide +kernel
theorem dX4_lastMeetsAnother_8 : decode cX4_lastMeetsAnother 8 = .ok (.istore_n 2, 1) := by decide +kernel
theorem dX4_lastMeetsAnother_9 : decode cX4_lastMeetsAnother 9 = .ok (.iload_n 2, 1) := by decide +kernel
theorem dX4_lastMeetsAnother_10 : decode cX4_lastMeetsAnother 10 = .ok (.iload_n 1, 1) := by decide +kernel
theorem dX4_lastMeetsAnother_11 : decode cX4_lastMeetsAnother 11 = .ok (.if_icmp .ge 20, 3) := by decide +kernel
theorem dX4_lastMeetsAnother_14 : decode cX4_lastMeetsAnother 14 = .ok (.aload_n 0, 1) := by decide +kernel
theorem dX4_lastMeetsAnother_15 : decode cX4_lastMeetsAnother 15 = .ok (.iload_n 2, 1) := by decide +kernel
theorem dX4_lastMeetsAnother_16 : decode cX4_lastMeetsAnother 16 = .ok (.iload_n 1, 1) := by decide +kernel
theorem dX4_lastMeetsAnother_17 : decode cX4_lastMeetsAnother 17 = .ok (.invokevirtual 133, 3) := by decide +kernel
theorem dX4_lastMeetsAnother_20 : decode cX4_lastMeetsAnother 20 = .ok (.ifCond .eq 5, 3) := by decide +kernel
theorem dX4_lastMeetsAnother_23 : decode cX4_lastMeetsAnother 23 = .ok (.iconst 1, 1) := by decide +kernel
theorem dX4_lastMeetsAnother_24 : decode cX4_lastMeetsAnother 24 = .ok (.ireturn, 1) := by decide +kernel
theorem dX4_lastMeetsAnother_25 : decode cX4_lastMeetsAnother 25 = .ok (.iinc 2 1, 3) := by decide +kernel
theorem dX4_lastMeetsAnother_28 : decode cX4_lastMeetsAnother 28 = .ok (.goto (-19), 3) := by decide +kernel
theorem dX4_lastMeetsAnother_31 : decode cX4_lastMeetsAnother 31 = .ok (.iconst 0, 1) := by decide +kernel
theorem dX4_lastMeetsAnother_32 : decode cX4_lastMeetsAnother 32 = .ok (.ireturn, 1) := by decide +kernel
theorem dX4_meet_0 : decode cX4_meet 0 = .ok (.aload_n 0, 1) := by decide +kernel
theorem dX4_meet_1 : decode cX4_meet 1 = .ok (.getfield 14, 3) := by decide +kernel
theorem dX4_meet_4 : decode cX4_meet 4 = .ok (.iload_n 1, 1) := by decide +kernel
theorem dX4_meet_5 : decode cX4_meet 5 = .ok (.invokevirtual 95, 3) := by decide +kernel
theorem dX4_meet_8 : decode cX4_meet 8 = .ok (.aload_n 0, 1) := by decide +kernel
theorem dX4_meet_9 : decode cX4_meet 9 = .ok (.getfield 14, 3) := by decide +kernel
theorem dX4_meet_12 : decode cX4_meet 12 = .ok (.iload_n 2, 1) := by decide +kernel
theorem dX4_meet_13 : decode cX4_meet 13 = .ok (.invokevirtual 95, 3) := by decide +kernel
theorem dX4_meet_16 : decode cX4_meet 16 = .ok (.invokestatic 102, 3) := by decide +kernel
theorem dX4_meet_19 : decode cX4_meet 19 = .ok (.istore_n 3, 1) := by decide +kernel
theorem dX4_meet_20 : decode cX4_meet 20 = .ok (.aload_n 0, 1) := by decide +kernel
theorem dX4_meet_21 : decode cX4_meet 21 = .ok (.getfield 23, 3) := by decide +kernel
theorem dX4_meet_24 : decode cX4_meet 24 = .ok (.iload_n 1, 1) := by decide +kernel
theorem dX4_meet_25 : decode cX4_meet 25 = .ok (.invokevirtual 95, 3) := by decide +kernel
theorem dX4_meet_28 : decode cX4_meet 28 = .ok (.aload_n 0, 1) := by decide +kernel
theorem dX4_meet_29 : decode cX4_meet 29 = .ok (.getfield 23, 3) := by decide +kernel
theorem dX4_meet_32 : decode cX4_meet 32 = .ok (.iload_n 2, 1) := by decide +kernel
theorem dX4_meet_33 : decode cX4_meet 33 = .ok (.invokevirtual 95, 3) := by decide +kernel
theorem dX4_meet_36 : decode cX4_meet 36 = .ok (.invokestatic 136, 3) := by decide +kernel
theorem dX4_meet_39 : decode cX4_meet 39 = .ok (.istore 4, 2) := by decide +kernel
theorem dX4_meet_41 : decode cX4_meet 41 = .ok (.iload_n 3, 1) := by decide +kernel
theorem dX4_meet_42 : decode cX4_meet 42 = .ok (.iload 4, 2) := by decide +kernel
theorem dX4_meet_44 : decode cX4_meet 44 = .ok (.if_icmp .lt 5, 3) := by decide +kernel
theorem dX4_meet_47 : decode cX4_meet 47 = .ok (.iconst 0, 1) := by decide +kernel
theorem dX4_meet_48 : decode cX4_meet 48 = .ok (.ireturn, 1) := by decide +kernel
theorem dX4_meet_49 : decode cX4_meet 49 = .ok (.aload_n 0, 1) := by decide +kernel
theorem dX4_meet_50 : decode cX4_meet 50 = .ok (.iload_n 1, 1) := by decide +kernel
theorem dX4_meet_51 : decode cX4_meet 51 = .ok (.iload_n 2, 1) := by decide +kernel
theorem dX4_meet_52 : decode cX4_meet 52 = .ok (.iload_n 3, 1) := by decide +kernel
theorem dX4_meet_53 : decode cX4_meet 53 = .ok (.invokevirtual 112, 3) := by decide +kernel
theorem dX4_meet_56 : decode cX4_meet 56 = .ok (.istore 5, 2) := by decide +kernel
theorem dX4_meet_58 : decode cX4_meet 58 = .ok (.aload_n 0, 1) := by decide +kernel
theorem dX4_meet_59 : decode cX4_meet 59 = .ok (.iload_n 1, 1) := by decide +kernel
theorem dX4_meet_60 : decode cX4_meet 60 = .ok (.iload_n 2, 1) := by decide +kernel
theorem dX4_meet_61 : decode cX4_meet 61 = .ok (.iload 4, 2) := by decide +kernel
theorem dX4_meet_63 : decode cX4_meet 63 = .ok (.invokevirtual 112, 3) := by decide +kernel
theorem dX4_meet_66 : decode cX4_meet 66 = .ok (.istore 6, 2) := by decide +kernel
theorem dX4_meet_68 : decode cX4_meet 68 = .ok (.iload 5, 2) := by decide +kernel
theorem dX4_meet_70 : decode cX4_meet 70 = .ok (.ifCond .ne 33, 3) := by decide +kernel
theorem dX4_meet_73 : decode cX4_meet 73 = .ok (.iload 6, 2) := by decide +kernel
theorem dX4_meet_75 : decode cX4_meet 75 = .ok (.ifCond .eq 22, 3) := by decide +kernel
theorem dX4_meet_78 : decode cX4_meet 78 = .ok (.aload_n 0, 1) := by decide +kernel
theorem dX4_meet_79 : decode cX4_meet 79 = .ok (.getfield 14, 3) := by decide +kernel
theorem dX4_meet_82 : decode cX4_meet 82 = .ok (.iload_n 1, 1) := by decide +kernel
theorem dX4_meet_83 : decode cX4_meet 83 = .ok (.invokevirtual 95, 3) := by decide +kernel
theorem dX4_meet_86 : decode cX4_meet 86 = .ok (.aload_n 0, 1) := by decide +kernel
theorem dX4_meet_87 : decode cX4_meet 87 = .ok (.getfield 14, 3) := by decide +kernel
theorem dX4_meet_90 : decode cX4_meet 90 = .ok (.iload_n 2, 1) := by decide +kernel
theorem dX4_meet_91 : decode cX4_meet 91 = .ok (.invokevirtual 95, 3) := by decide +kernel
theorem dX4_meet_94 : decode cX4_meet 94 = .ok (.if_icmp .eq 7, 3) := by decide +kernel
theorem dX4_meet_97 : decode cX4_meet 97 = .ok (.iconst 1, 1) := by decide +kernel
theorem dX4_meet_98 : decode cX4_meet 98 = .ok (.goto 4, 3) := by decide +kernel
theorem dX4_meet_101 : decode cX4_meet 101 = .ok (.iconst 0, 1) := by decide +kernel
theorem dX4_meet_102 : decode cX4_meet 102 = .ok (.ireturn, 1) := by decide +kernel
theorem dX4_meet_103 : decode cX4_meet 103 = .ok (.iload 6, 2) := by decide +kernel
theorem dX4_meet_105 : decode cX4_meet 105 = .ok (.ifCond .ne 28, 3) := by decide +kernel
theorem dX4_meet_108 : decode cX4_meet 108 = .ok (.aload_n 0, 1) := by decide +kernel
theorem dX4_meet_109 : decode cX4_meet 109 = .ok (.getfield 23, 3) := by decide +kernel
theorem dX4_meet_112 : decode cX4_meet 112 = .ok (.iload_n 1, 1) := by decide +kernel
theorem dX4_meet_113 : decode cX4_meet 113 = .ok (.invokevirtual 95, 3) := by decide +kernel
theorem dX4_meet_116 : decode cX4_meet 116 = .ok (.aload_n 0, 1) := by decide +kernel
theorem dX4_meet_117 : decode cX4_meet 117 = .ok (.getfield 23, 3) := by decide +kernel
theorem dX4_meet_120 : decode cX4_meet 120 = .ok (.iload_n 2, 1) := by decide +kernel
theorem dX4_meet_121 : decode cX4_meet 121 = .ok (.invokevirtual 95, 3) := by decide +kernel
theorem dX4_meet_124 : decode cX4_meet 124 = .ok (.if_icmp .eq 7, 3) := by decide +kernel
theorem dX4_meet_127 : decode cX4_meet 127 = .ok (.iconst 1, 1) := by decide +kernel
theorem dX4_meet_128 : decode cX4_meet 128 = .ok (.goto 4, 3) := by decide +kernel
theorem dX4_meet_131 : decode cX4_meet 131 = .ok (.iconst 0, 1) := by decide +kernel
theorem dX4_meet_132 : decode cX4_meet 132 = .ok (.ireturn, 1) := by decide +kernel
theorem dX4_meet_133 : decode cX4_meet 133 = .ok (.iload 5, 2) := by decide +kernel
theorem dX4_meet_135 : decode cX4_meet 135 = .ok (.iload 6, 2) := by decide +kernel
theorem dX4_meet_137 : decode cX4_meet 137 = .ok (.if_icmp .eq 7, 3) := by decide +kernel
theorem dX4_meet_140 : decode cX4_meet 140 = .ok (.iconst 1, 1) := by decide +kernel
theorem dX4_meet_141 : decode cX4_meet 141 = .ok (.goto 4, 3) := by decide +kernel
theorem dX4_meet_144 : decode cX4_meet 144 = .ok (.iconst 0, 1) := by decide +kernel
theorem dX4_meet_145 : decode cX4_meet 145 = .ok (.ireturn, 1) := by decide +kernel
theorem dX4_inBehind_0 : decode cX4_inBehind 0 = .ok (.iload_n 1, 1) := by decide +kernel
theorem dX4_inBehind_1 : decode cX4_inBehind 1 = .ok (.istore_n 3, 1) := by decide +kernel
theorem dX4_inBehind_2 : decode cX4_inBehind 2 = .ok (.iconst 0, 1) := by decide +kernel
theorem dX4_inBehind_3 : decode cX4_inBehind 3 = .ok (.istore 4, 2) := by decide +kernel
theorem dX4_inBehind_5 : decode cX4_inBehind 5 = .ok (.iload 4, 2) := by decide +kernel
theorem dX4_inBehind_7 : decode cX4_inBehind 7 = .ok (.aload_n 0, 1) := by decide +kernel
theorem dX4_inBehind_8 : decode cX4_inBehind 8 = .ok (.invokevirtual 84, 3) := by decide +kernel
theorem dX4_inBehind_11 : decode cX4_inBehind 11 = .ok (.if_icmp .ge 54, 3) := by decide +kernel
theorem dX4_inBehind_14 : decode cX4_inBehind 14 = .ok (.aload_n 0, 1) := by decide +kernel
theorem dX4_inBehind_15 : decode cX4_inBehind 15 = .ok (.getfield 14, 3) := by decide +kernel
theorem dX4_inBehind_18 : decode cX4_inBehind 18 = .ok (.iload 4, 2) := by decide +kernel
theorem dX4_inBehind_20 : decode cX4_inBehind 20 = .ok (.invokevirtual 95, 3) := by decide +kernel
theorem dX4_inBehind_23 : decode cX4_inBehind 23 = .ok (.iload_n 2, 1) := by decide +kernel
theorem dX4_inBehind_24 : decode cX4_inBehind 24 = .ok (.if_icmp .ne 13, 3) := by decide +kernel
theorem dX4_inBehind_27 : decode cX4_inBehind 27 = .ok (.iload_n 3, 1) := by decide +kernel
theorem dX4_inBehind_28 : decode cX4_inBehind 28 = .ok (.iconst 1, 1) := by decide +kernel
theorem dX4_inBehind_29 : decode cX4_inBehind 29 = .ok (.iload 4, 2) := by decide +kernel
theorem dX4_inBehind_31 : decode cX4_inBehind 31 = .ok (.ishl, 1) := by decide +kernel
theorem dX4_inBehind_32 : decode cX4_inBehind 32 = .ok (.ior, 1) := by decide +kernel
theorem dX4_inBehind_33 : decode cX4_inBehind 33 = .ok (.istore_n 3, 1) := by decide +kernel
theorem dX4_inBehind_34 : decode cX4_inBehind 34 = .ok (.goto 25, 3) := by decide +kernel
theorem dX4_inBehind_37 : decode cX4_inBehind 37 = .ok (.aload_n 0, 1) := by decide +kernel
theorem dX4_inBehind_38 : decode cX4_inBehind 38 = .ok (.getfield 23, 3) := by decide +kernel
theorem dX4_inBehind_41 : decode cX4_inBehind 41 = .ok (.iload 4, 2) := by decide +kernel
theorem dX4_inBehind_43 : decode cX4_inBehind 43 = .ok (.invokevirtual 95, 3) := by decide +kernel
theorem dX4_inBehind_46 : decode cX4_inBehind 46 = .ok (.iload_n 2, 1) := by decide +kernel
theorem dX4_inBehind_47 : decode cX4_inBehind 47 = .ok (.if_icmp .ne 12, 3) := by decide +kernel
theorem dX4_inBehind_50 : decode cX4_inBehind 50 = .ok (.iload_n 3, 1) := by decide +kernel
theorem dX4_inBehind_51 : decode cX4_inBehind 51 = .ok (.iconst 1, 1) := by decide +kernel
theorem dX4_inBehind_52 : decode cX4_inBehind 52 = .ok (.iload 4, 2) := by decide +kernel
theorem dX4_inBehind_54 : decode cX4_inBehind 54 = .ok (.ishl, 1) := by decide +kernel
theorem dX4_inBehind_55 : decode cX4_inBehind 55 = .ok (.iconst (-1), 1) := by decide +kernel
theorem dX4_inBehind_56 : decode cX4_inBehind 56 = .ok (.ixor, 1) := by decide +kernel
theorem dX4_inBehind_57 : decode cX4_inBehind 57 = .ok (.iand, 1) := by decide +kernel
theorem dX4_inBehind_58 : decode cX4_inBehind 58 = .ok (.istore_n 3, 1) := by decide +kernel
theorem dX4_inBehind_59 : decode cX4_inBehind 59 = .ok (.iinc 4 1, 3) := by decide +kernel
theorem dX4_inBehind_62 : decode cX4_inBehind 62 = .ok (.goto (-57), 3) := by decide +kernel
theorem dX4_inBehind_65 : decode cX4_inBehind 65 = .ok (.iload_n 3, 1) := by decide +kernel
theorem dX4_inBehind_66 : decode cX4_inBehind 66 = .ok (.ireturn, 1) := by decide +kernel
theorem dX4_regionOf_0 : decode cX4_regionOf 0 = .ok (.iconst (-1), 1) := by decide +kernel
theorem dX4_regionOf_1 : decode cX4_regionOf 1 = .ok (.istore_n 3, 1) := by decide +kernel
theorem dX4_regionOf_2 : decode cX4_regionOf 2 = .ok (.iconst 0, 1) := by decide +kernel
theorem dX4_regionOf_3 : decode cX4_regionOf 3 = .ok (.istore 4, 2) := by decide +kernel
theorem dX4_regionOf_5 : decode cX4_regionOf 5 = .ok (.iload 4, 2) := by decide +kernel
theorem dX4_regionOf_7 : decode cX4_regionOf 7 = .ok (.aload_n 0, 1) := by decide +kernel
theorem dX4_regionOf_8 : decode cX4_regionOf 8 = .ok (.invokevirtual 84, 3) := by decide +kernel
theorem dX4_regionOf_11 : decode cX4_regionOf 11 = .ok (.if_icmp .ge 48, 3) := by decide +kernel
theorem dX4_regionOf_14 : decode cX4_regionOf 14 = .ok (.aload_n 0, 1) := by decide +kernel
theorem dX4_regionOf_15 : decode cX4_regionOf 15 = .ok (.iload 4, 2) := by decide +kernel
theorem dX4_regionOf_17 : decode cX4_regionOf 17 = .ok (.iload_n 1, 1) := by decide +kernel
theorem dX4_regionOf_18 : decode cX4_regionOf 18 = .ok (.invokevirtual 108, 3) := by decide +kernel
theorem dX4_regionOf_21 : decode cX4_regionOf 21 = .ok (.ifCond .eq 32, 3) := by decide +kernel
theorem dX4_regionOf_24 : decode cX4_regionOf 24 = .ok (.aload_n 0, 1) := by decide +kernel
theorem dX4_regionOf_25 : decode cX4_regionOf 25 = .ok (.iload 4, 2) := by decide +kernel
theorem dX4_regionOf_27 : decode cX4_regionOf 27 = .ok (.iload_n 1, 1) := by decide +kernel
theorem dX4_regionOf_28 : decode cX4_regionOf 28 = .ok (.iload_n 2, 1) := by decide +kernel
theorem dX4_regionOf_29 : decode cX4_regionOf 29 = .ok (.invokevirtual 125, 3) := by decide +kernel
theorem dX4_regionOf_32 : decode cX4_regionOf 32 = .ok (.ifCond .gt 21, 3) := by decide +kernel
theorem dX4_regionOf_35 : decode cX4_regionOf 35 = .ok (.iload_n 3, 1) := by decide +kernel
theorem dX4_regionOf_36 : decode cX4_regionOf 36 = .ok (.iconst (-1), 1) := by decide +kernel
theorem dX4_regionOf_37 : decode cX4_regionOf 37 = .ok (.if_icmp .eq 13, 3) := by decide +kernel
theorem dX4_regionOf_40 : decode cX4_regionOf 40 = .ok (.aload_n 0, 1) := by decide +kernel
theorem dX4_regionOf_41 : decode cX4_regionOf 41 = .ok (.iload 4, 2) := by decide +kernel
theorem dX4_regionOf_43 : decode cX4_regionOf 43 = .ok (.iload_n 3, 1) := by decide +kernel
theorem dX4_regionOf_44 : decode cX4_regionOf 44 = .ok (.invokevirtual 139, 3) := by decide +kernel
theorem dX4_regionOf_47 : decode cX4_regionOf 47 = .ok (.ifCond .eq 6, 3) := by decide +kernel
theorem dX4_regionOf_50 : decode cX4_regionOf 50 = .ok (.iload 4, 2) := by decide +kernel
theorem dX4_regionOf_52 : decode cX4_regionOf 52 = .ok (.istore_n 3, 1) := by decide +kernel
theorem dX4_regionOf_53 : decode cX4_regionOf 53 = .ok (.iinc 4 1, 3) := by decide +kernel
theorem dX4_regionOf_56 : decode cX4_regionOf 56 = .ok (.goto (-51), 3) := by decide +kernel
theorem dX4_regionOf_59 : decode cX4_regionOf 59 = .ok (.iload_n 3, 1) := by decide +kernel
theorem dX4_regionOf_60 : decode cX4_regionOf 60 = .ok (.ireturn, 1) := by decide +kernel
theorem dX5_init_0 : decode cX5_init 0 = .ok (.aload_n 0, 1) := by decide +kernel
theorem dX5_init_1 : decode cX5_init 1 = .ok (.invokespecial 3, 3) := by decide +kernel
theorem dX5_init_4 : decode cX5_init 4 = .ok (.aload_n 0, 1) := by decide +kernel
theorem dX5_init_5 : decode cX5_init 5 = .ok (.aload_n 1, 1) := by decide +kernel
theorem dX5_init_6 : decode cX5_init 6 = .ok (.putfield 9, 3) := by decide +kernel
theorem dX5_init_9 : decode cX5_init 9 = .ok (.aload_n 0, 1) := by decide +kernel
theorem dX5_init_10 : decode cX5_init 10 = .ok (.aload_n 2, 1) := by decide +kernel
theorem dX5_init_11 : decode cX5_init 11 = .ok (.putfield 15, 3) := by decide +kernel
theorem dX5_init_14 : decode cX5_init 14 = .ok (.aload_n 0, 1) := by decide +kernel
theorem dX5_init_15 : decode cX5_init 15 = .ok (.new 19, 3) := by decide +kernel
theorem dX5_init_18 : decode cX5_init 18 = .ok (.dup, 1) := by decide +kernel
theorem dX5_init_19 : decode cX5_init 19 = .ok (.aload_n 1, 1) := by decide +kernel
theorem dX5_init_20 : decode cX5_init 20 = .ok (.invokespecial 21, 3) := by decide +kernel
theorem dX5_init_23 : decode cX5_init 23 = .ok (.putfield 24, 3) := by decide +kernel
theorem dX5_init_26 : decode cX5_init 26 = .ok (.return_, 1) := by decide +kernel
theorem dX5_readMap_0 : decode cX5_readMap 0 = .ok (.aload_n 0, 1) := by decide +kernel
theorem dX5_readMap_1 : decode cX5_readMap 1 = .ok (.getfield 15, 3) := by decide +kernel
theorem dX5_readMap_4 : decode cX5_readMap 4 = .ok (.invokevirtual 28, 3) := by decide +kernel
theorem dX5_readMap_7 : decode cX5_readMap 7 = .ok (.aload_n 0, 1) := by decide +kernel
theorem dX5_readMap_8 : decode cX5_readMap 8 = .ok (.iconst 0, 1) := by decide +kernel
theorem dX5_readMap_9 : decode cX5_readMap 9 = .ok (.putfield 33, 3) := by decide +kernel
theorem dX5_readMap_12 : decode cX5_readMap 12 = .ok (.aload_n 0, 1) := by decide +kernel
theorem dX5_readMap_13 : decode cX5_readMap 13 = .ok (.iconst 0, 1) := by decide +kernel
theorem dX5_readMap_14 : decode cX5_readMap 14 = .ok (.putfield 37, 3) := by decide +kernel
theorem dX5_readMap_17 : decode cX5_readMap 17 = .ok (.aload_n 0, 1) := by decide +kernel
theorem dX5_readMap_18 : decode cX5_readMap 18 = .ok (.iconst 0, 1) := by decide +kernel
theorem dX5_readMap_19 : decode cX5_readMap 19 = .ok (.putfield 40, 3) := by decide +kernel
theorem dX5_readMap_22 : decode cX5_readMap 22 = .ok (.aload_n 0, 1) := by decide +kernel
theorem dX5_readMap_23 : decode cX5_readMap 23 = .ok (.getfield 9, 3) := by decide +kernel
theorem dX5_readMap_26 : decode cX5_readMap 26 = .ok (.invokevirtual 43, 3) := by decide +kernel
theorem dX5_readMap_29 : decode cX5_readMap 29 = .ok (.aload_n 0, 1) := by decide +kernel
theorem dX5_readMap_30 : decode cX5_readMap 30 = .ok (.getfield 9, 3) := by decide +kernel
theorem dX5_readMap_33 : decode cX5_readMap 33 = .ok (.getfield 48, 3) := by decide +kernel
theorem dX5_readMap_36 : decode cX5_readMap 36 = .ok (.ifCond .eq 7, 3) := by decide +kernel
theorem dX5_readMap_39 : decode cX5_readMap 39 = .ok (.iconst 1, 1) := by decide +kernel
theorem dX5_readMap_40 : decode cX5_readMap 40 = .ok (.goto 4, 3) := by decide +kernel
theorem dX5_readMap_43 : decode cX5_readMap 43 = .ok (.iconst 0, 1) := by decide +kernel
theorem dX5_readMap_44 : decode cX5_readMap 44 = .ok (.istore_n 1, 1) := by decide +kernel
theorem dX5_readMap_45 : decode cX5_readMap 45 = .ok (.iconst 0, 1) := by decide +kernel
theorem dX5_readMap_46 : decode cX5_readMap 46 = .ok (.istore_n 2, 1) := by decide +kernel
theorem dX5_readMap_47 : decode cX5_readMap 47 = .ok (.iload_n 2, 1) := by decide +kernel
theorem dX5_readMap_48 : decode cX5_readMap 48 = .ok (.sipush 1600, 3) := by decide +kernel
theorem dX5_readMap_51 : decode cX5_readMap 51 = .ok (.if_icmp .gt 243, 3) := by decide +kernel
theorem dX5_readMap_54 : decode cX5_readMap 54 = .ok (.iload_n 1, 1) := by decide +kernel
theorem dX5_readMap_55 : decode cX5_readMap 55 = .ok (.ifCond .eq 239, 3) := by decide +kernel
theorem dX5_readMap_58 : decode cX5_readMap 58 = .ok (.aload_n 0, 1) := by decide +kernel
theorem dX5_readMap_59 : decode cX5_readMap 59 = .ok (.getfield 9, 3) := by decide +kernel
theorem dX5_readMap_62 : decode cX5_readMap 62 = .ok (.getfield 48, 3) := by decide +kernel
theorem dX5_readMap_65 : decode cX5_readMap 65 = .ok (.bipush 100, 2) := by decide +kernel
theorem dX5_readMap_67 : decode cX5_readMap 67 = .ok (.if_icmp .ne 22, 3) := by decide +kernel
theorem dX5_readMap_70 : decode cX5_readMap 70 = .ok (.aload_n 0, 1) := by decide +kernel
theorem dX5_readMap_71 : decode cX5_readMap 71 = .ok (.getfield 15, 3) := by decide +kernel
theorem dX5_readMap_74 : decode cX5_readMap 74 = .ok (.invokevirtual 52, 3) := by decide +kernel
theorem dX5_readMap_77 : decode cX5_readMap 77 = .ok (.bipush 8, 2) := by decide +kernel
theorem dX5_readMap_79 : decode cX5_readMap 79 = .ok (.if_icmp .ge 10, 3) := by decide +kernel
theorem dX5_readMap_82 : decode cX5_readMap 82 = .ok (.aload_n 0, 1) := by decide +kernel
theorem dX5_readMap_83 : decode cX5_readMap 83 = .ok (.invokevirtual 56, 3) := by decide +kernel
theorem dX5_readMap_86 : decode cX5_readMap 86 = .ok (.goto 170, 3) := by decide +kernel
theorem dX5_readMap_89 : decode cX5_readMap 89 = .ok (.aload_n 0, 1) := by decide +kernel
theorem dX5_readMap_90 : decode cX5_readMap 90 = .ok (.getfield 9, 3) := by decide +kernel
theorem dX5_readMap_93 : decode cX5_readMap 93 = .ok (.getfield 48, 3) := by decide +kernel
theorem dX5_readMap_96 : decode cX5_readMap 96 = .ok (.bipush 103, 2) := by decide +kernel
theorem dX5_readMap_98 : decode cX5_readMap 98 = .ok (.if_icmp .ne 39, 3) := by decide +kernel
theorem dX5_readMap_101 : decode cX5_readMap 101 = .ok (.aload_n 0, 1) := by decide +kernel
theorem dX5_readMap_102 : decode cX5_readMap 102 = .ok (.getfield 33, 3) := by decide +kernel
theorem dX5_readMap_105 : decode cX5_readMap 105 = .ok (.ifCond .ne 32, 3) := by decide +kernel
theorem dX5_readMap_108 : decode cX5_readMap 108 = .ok (.aload_n 0, 1) := by decide +kernel
theorem dX5_readMap_109 : decode cX5_readMap 109 = .ok (.iconst 1, 1) := by decide +kernel
theorem dX5_readMap_110 : decode cX5_readMap 110 = .ok (.putfield 33, 3) := by decide +kernel
theorem dX5_readMap_113 : decode cX5_readMap 113 = .ok (.aload_n 0, 1) := by decide +kernel
theorem dX5_readMap_114 : decode cX5_readMap 114 = .ok (.getfield 9, 3) := by decide +kernel
theorem dX5_readMap_117 : decode cX5_readMap 117 = .ok (.invokevirtual 59, 3) := by decide +kernel
theorem dX5_readMap_120 : decode cX5_readMap 120 = .ok (.aload_n 0, 1) := by decide +kernel
theorem dX5_readMap_121 : decode cX5_readMap 121 = .ok (.getfield 24, 3) := by decide +kernel
theorem dX5_readMap_124 : decode cX5_readMap 124 = .ok (.aload_n 0, 1) := by decide +kernel
theorem dX5_readMap_125 : decode cX5_readMap 125 = .ok (.getfield 15, 3) := by decide +kernel
theorem dX5_readMap_128 : decode cX5_readMap 128 = .ok (.getfield 62, 3) := by decide +kernel
theorem dX5_readMap_131 : decode cX5_readMap 131 = .ok (.invokevirtual 66, 3) := by decide +kernel
theorem dX5_readMap_134 : decode cX5_readMap 134 = .ok (.goto 122, 3) := by decide +kernel
theorem dX5_readMap_137 : decode cX5_readMap 137 = .ok (.aload_n 0, 1) := by decide +kernel
theorem dX5_readMap_138 : decode cX5_readMap 138 = .ok (.getfield 9, 3) := by decide +kernel
theorem dX5_readMap_141 : decode cX5_readMap 141 = .ok (.getfield 48, 3) := by decide +kernel
theorem dX5_readMap_144 : decode cX5_readMap 144 = .ok (.bipush 104, 2) := by decide +kernel
theorem dX5_readMap_146 : decode cX5_readMap 146 = .ok (.if_icmp .ne 46, 3) := by decide +kernel
theorem dX5_readMap_149 : decode cX5_readMap 149 = .ok (.aload_n 0, 1) := by decide +kernel
theorem dX5_readMap_150 : decode cX5_readMap 150 = .ok (.getfield 37, 3) := by decide +kernel
theorem dX5_readMap_153 : decode cX5_readMap 153 = .ok (.ifCond .ne 39, 3) := by decide +kernel
theorem dX5_readMap_156 : decode cX5_readMap 156 = .ok (.aload_n 0, 1) := by decide +kernel
theorem dX5_readMap_157 : decode cX5_readMap 157 = .ok (.iconst 1, 1) := by decide +kernel
theorem dX5_readMap_158 : decode cX5_readMap 158 = .ok (.putfield 37, 3) := by decide +kernel
theorem dX5_readMap_161 : decode cX5_readMap 161 = .ok (.aload_n 0, 1) := by decide +kernel
theorem dX5_readMap_162 : decode cX5_readMap 162 = .ok (.getfield 9, 3) := by decide +kernel
theorem dX5_readMap_165 : decode cX5_readMap 165 = .ok (.invokevirtual 59, 3) := by decide +kernel
theorem dX5_readMap_168 : decode cX5_readMap 168 = .ok (.aload_n 0, 1) := by decide +kernel
theorem dX5_readMap_169 : decode cX5_readMap 169 = .ok (.getfield 15, 3) := by decide +kernel
theorem dX5_readMap_172 : decode cX5_readMap 172 = .ok (.aload_n 0, 1) := by decide +kernel
theorem dX5_readMap_173 : decode cX5_readMap 173 = .ok (.iconst 1, 1) := by decide +kernel
theorem dX5_readMap_174 : decode cX5_readMap 174 = .ok (.bipush 6, 2) := by decide +kernel
theorem dX5_readMap_176 : decode cX5_readMap 176 = .ok (.invokevirtual 70, 3) := by decide +kernel
theorem dX5_readMap_179 : decode cX5_readMap 179 = .ok (.putfield 74, 3) := by decide +kernel
theorem dX5_readMap_182 : decode cX5_readMap 182 = .ok (.aload_n 0, 1) := by decide +kernel
theorem dX5_readMap_183 : decode cX5_readMap 183 = .ok (.getfield 9, 3) := by decide +kernel
theorem dX5_readMap_186 : decode cX5_readMap 186 = .ok (.invokevirtual 59, 3) := by decide +kernel
theorem dX5_readMap_189 : decode cX5_readMap 189 = .ok (.goto 67, 3) := by decide +kernel
theorem dX5_readMap_192 : decode cX5_readMap 192 = .ok (.aload_n 0, 1) := by decide +kernel
theorem dX5_readMap_193 : decode cX5_readMap 193 = .ok (.getfield 9, 3) := by decide +kernel
theorem dX5_readMap_196 : decode cX5_readMap 196 = .ok (.getfield 48, 3) := by decide +kernel
theorem dX5_readMap_199 : decode cX5_readMap 199 = .ok (.bipush 105, 2) := by decide +kernel
theorem dX5_readMap_201 : decode cX5_readMap 201 = .ok (.if_icmp .ne 47, 3) := by decide +kernel
theorem dX5_readMap_204 : decode cX5_readMap 204 = .ok (.aload_n 0, 1) := by decide +kernel
theorem dX5_readMap_205 : decode cX5_readMap 205 = .ok (.getfield 40, 3) := by decide +kernel
theorem dX5_readMap_208 : decode cX5_readMap 208 = .ok (.ifCond .ne 40, 3) := by decide +kernel
theorem dX5_readMap_211 : decode cX5_readMap 211 = .ok (.aload_n 0, 1) := by decide +kernel
theorem dX5_readMap_212 : decode cX5_readMap 212 = .ok (.iconst 1, 1) := by decide +kernel
theorem dX5_readMap_213 : decode cX5_readMap 213 = .ok (.putfield 40, 3) := by decide +kernel
theorem dX5_readMap_216 : decode cX5_readMap 216 = .ok (.aload_n 0, 1) := by decide +kernel
theorem dX5_readMap_217 : decode cX5_readMap 217 = .ok (.getfield 9, 3) := by decide +kernel
theorem dX5_readMap_220 : decode cX5_readMap 220 = .ok (.invokevirtual 59, 3) := by decide +kernel
theorem dX5_readMap_223 : decode cX5_readMap 223 = .ok (.aload_n 0, 1) := by decide +kernel
theorem dX5_readMap_224 : decode cX5_readMap 224 = .ok (.getfield 15, 3) := by decide +kernel
theorem dX5_readMap_227 : decode cX5_readMap 227 = .ok (.aload_n 0, 1) := by decide +kernel
theorem dX5_readMap_228 : decode cX5_readMap 228 = .ok (.iconst 0, 1) := by decide +kernel
theorem dX5_readMap_229 : decode cX5_readMap 229 = .ok (.sipush 999, 3) := by decide +kernel
theorem dX5_readMap_232 : decode cX5_readMap 232 = .ok (.invokevirtual 70, 3) := by decide +kernel
theorem dX5_readMap_235 : decode cX5_readMap 235 = .ok (.putfield 77, 3) := by decide +kernel
theorem dX5_readMap_238 : decode cX5_readMap 238 = .ok (.aload_n 0, 1) := by decide +kernel
theorem dX5_readMap_239 : decode cX5_readMap 239 = .ok (.getfield 9, 3) := by decide +kernel
theorem dX5_readMap_242 : decode cX5_readMap 242 = .ok (.invokevirtual 59, 3) := by decide +kernel
theorem dX5_readMap_245 : decode cX5_readMap 245 = .ok (.goto 11, 3) := by decide +kernel
theorem dX5_readMap_248 : decode cX5_readMap 248 = .ok (.aload_n 0, 1) := by decide +kernel
theorem dX5_readMap_249 : decode cX5_readMap 249 = .ok (.getfield 9, 3) := by decide +kernel
theorem dX5_readMap_252 : decode cX5_readMap 252 = .ok (.iconst 2, 1) := by decide +kernel
theorem dX5_readMap_253 : decode cX5_readMap 253 = .ok (.invokevirtual 80, 3) := by decide +kernel
theorem dX5_readMap_256 : decode cX5_readMap 256 = .ok (.aload_n 0, 1) := by decide +kernel
theorem dX5_readMap_257 : decode cX5_readMap 257 = .ok (.bipush 59, 2) := by decide +kernel
theorem dX5_readMap_259 : decode cX5_readMap 259 = .ok (.invokevirtual 84, 3) := by decide +kernel
theorem dX5_readMap_262 : decode cX5_readMap 262 = .ok (.aload_n 0, 1) := by decide +kernel
theorem dX5_readMap_263 : decode cX5_readMap 263 = .ok (.getfield 9, 3) := by decide +kernel
theorem dX5_readMap_266 : decode cX5_readMap 266 = .ok (.invokevirtual 87, 3) := by decide +kernel
theorem dX5_readMap_269 : decode cX5_readMap 269 = .ok (.ifCond .ne 17, 3) := by decide +kernel
theorem dX5_readMap_272 : decode cX5_readMap 272 = .ok (.aload_n 0, 1) := by decide +kernel
theorem dX5_readMap_273 : decode cX5_readMap 273 = .ok (.getfield 9, 3) := by decide +kernel
theorem dX5_readMap_276 : decode cX5_readMap 276 = .ok (.getfield 48, 3) := by decide +kernel
theorem dX5_readMap_279 : decode cX5_readMap 279 = .ok (.ifCond .eq 7, 3) := by decide +kernel
theorem dX5_readMap_282 : decode cX5_readMap 282 = .ok (.iconst 1, 1) := by decide +kernel
theorem dX5_readMap_283 : decode cX5_readMap 283 = .ok (.goto 4, 3) := by decide +kernel
theorem dX5_readMap_286 : decode cX5_readMap 286 = .ok (.iconst 0, 1) := by decide +kernel
theorem dX5_readMap_287 : decode cX5_readMap 287 = .ok (.istore_n 1, 1) := by decide +kernel
theorem dX5_readMap_288 : decode cX5_readMap 288 = .ok (.iinc 2 1, 3) := by decide +kernel
theorem dX5_readMap_291 : decode cX5_readMap 291 = .ok (.goto (-244), 3) := by decide +kernel
theorem dX5_readMap_294 : decode cX5_readMap 294 = .ok (.aload_n 0, 1) := by decide +kernel
theorem dX5_readMap_295 : decode cX5_readMap 295 = .ok (.getfield 9, 3) := by decide +kernel
theorem dX5_readMap_298 : decode cX5_readMap 298 = .ok (.invokevirtual 87, 3) := by decide +kernel
theorem dX5_readMap_301 : decode cX5_readMap 301 = .ok (.ifCond .ne 10, 3) := by decide +kernel
theorem dX5_readMap_304 : decode cX5_readMap 304 = .ok (.aload_n 0, 1) := by decide +kernel
theorem dX5_readMap_305 : decode cX5_readMap 305 = .ok (.getfield 15, 3) := by decide +kernel
theorem dX5_readMap_308 : decode cX5_readMap 308 = .ok (.invokevirtual 91, 3) := by decide +kernel
theorem dX5_readMap_311 : decode cX5_readMap 311 = .ok (.return_, 1) := by decide +kernel
theorem dX5_readSegment_0 : decode cX5_readSegment 0 = .ok (.aload_n 0, 1) := by decide +kernel
theorem dX5_readSegment_1 : decode cX5_readSegment 1 = .ok (.getfield 9, 3) := by decide +kernel
theorem dX5_readSegment_4 : decode cX5_readSegment 4 = .ok (.invokevirtual 59, 3) := by decide +kernel
theorem dX5_readSegment_7 : decode cX5_readSegment 7 = .ok (.aload_n 0, 1) := by decide +kernel
theorem dX5_readSegment_8 : decode cX5_readSegment 8 = .ok (.invokevirtual 94, 3) := by decide +kernel
theorem dX5_readSegment_11 : decode cX5_readSegment 11 = .ok (.aload_n 0, 1) := by decide +kernel
theorem dX5_readSegment_12 : decode cX5_readSegment 12 = .ok (.bipush 101, 2) := by decide +kernel
theorem dX5_readSegment_14 : decode cX5_readSegment 14 = .ok (.invokevirtual 84, 3) := by decide +kernel
theorem dX5_readSegment_17 : decode cX5_readSegment 17 = .ok (.aload_n 0, 1) := by decide +kernel
theorem dX5_readSegment_18 : decode cX5_readSegment 18 = .ok (.iconst 0, 1) := by decide +kernel
theorem dX5_readSegment_19 : decode cX5_readSegment 19 = .ok (.bipush 59, 2) := by decide +kernel
theorem dX5_readSegment_21 : decode cX5_readSegment 21 = .ok (.invokevirtual 70, 3) := by decide +kernel
theorem dX5_readSegment_24 : decode cX5_readSegment 24 = .ok (.istore_n 1, 1) := by decide +kernel
theorem dX5_readSegment_25 : decode cX5_readSegment 25 = .ok (.aload_n 0, 1) := by decide +kernel
theorem dX5_readSegment_26 : decode cX5_readSegment 26 = .ok (.getfield 9, 3) := by decide +kernel
theorem dX5_readSegment_29 : decode cX5_readSegment 29 = .ok (.invokevirtual 59, 3) := by decide +kernel
theorem dX5_readSegment_32 : decode cX5_readSegment 32 = .ok (.aload_n 0, 1) := by decide +kernel
theorem dX5_readSegment_33 : decode cX5_readSegment 33 = .ok (.iconst 0, 1) := by decide +kernel
theorem dX5_readSegment_34 : decode cX5_readSegment 34 = .ok (.bipush 60, 2) := by decide +kernel
theorem dX5_readSegment_36 : decode cX5_readSegment 36 = .ok (.invokevirtual 70, 3) := by decide +kernel
theorem dX5_readSegment_39 : decode cX5_readSegment 39 = .ok (.istore_n 2, 1) := by decide +kernel
theorem dX5_readSegment_40 : decode cX5_readSegment 40 = .ok (.aload_n 0, 1) := by decide +kernel
theorem dX5_readSegment_41 : decode cX5_readSegment 41 = .ok (.getfield 9, 3) := by decide +kernel
theorem dX5_readSegment_44 : decode cX5_readSegment 44 = .ok (.invokevirtual 59, 3) := by decide +kernel
theorem dX5_readSegment_47 : decode cX5_readSegment 47 = .ok (.aload_n 0, 1) := by decide +kernel
theorem dX5_readSegment_48 : decode cX5_readSegment 48 = .ok (.bipush 102, 2) := by decide +kernel
theorem dX5_readSegment_50 : decode cX5_readSegment 50 = .ok (.invokevirtual 84, 3) := by decide +kernel
theorem dX5_readSegment_53 : decode cX5_readSegment 53 = .ok (.aload_n 0, 1) := by decide +kernel
theorem dX5_readSegment_54 : decode cX5_readSegment 54 = .ok (.iload_n 1, 1) := by decide +kernel
theorem dX5_readSegment_55 : decode cX5_readSegment 55 = .ok (.iconst 1, 1) := by decide +kernel
theorem dX5_readSegment_56 : decode cX5_readSegment 56 = .ok (.iadd, 1) := by decide +kernel
theorem dX5_readSegment_57 : decode cX5_readSegment 57 = .ok (.bipush 60, 2) := by decide +kernel
theorem dX5_readSegment_59 : decode cX5_readSegment 59 = .ok (.invokevirtual 70, 3) := by decide +kernel
theorem dX5_readSegment_62 : decode cX5_readSegment 62 = .ok (.istore_n 3, 1) := by decide +kernel
theorem dX5_readSegment_63 : decode cX5_readSegment 63 = .ok (.aload_n 0, 1) := by decide +kernel
theorem dX5_readSegment_64 : decode cX5_readSegment 64 = .ok (.getfield 9, 3) := by decide +kernel
theorem dX5_readSegment_67 : decode cX5_readSegment 67 = .ok (.invokevirtual 59, 3) := by decide +kernel
theorem dX5_readSegment_70 : decode cX5_readSegment 70 = .ok (.aload_n 0, 1) := by decide +kernel
theorem dX5_readSegment_71 : decode cX5_readSegment 71 = .ok (.iconst 0, 1) := by decide +kernel
theorem dX5_readSegment_72 : decode cX5_readSegment 72 = .ok (.bipush 60, 2) := by decide +kernel
theorem dX5_readSegment_74 : decode cX5_readSegment 74 = .ok (.invokevirtual 70, 3) := by decide +kernel
theorem dX5_readSegment_77 : decode cX5_readSegment 77 = .ok (.istore 4, 2) := by decide +kernel
theorem dX5_readSegment_79 : decode cX5_readSegment 79 = .ok (.aload_n 0, 1) := by decide +kernel
theorem dX5_readSegment_80 : decode cX5_readSegment 80 = .ok (.getfield 9, 3) := by decide +kernel
theorem dX5_readSegment_83 : decode cX5_readSegment 83 = .ok (.invokevirtual 87, 3) := by decide +kernel
theorem dX5_readSegment_86 : decode cX5_readSegment 86 = .ok (.ifCond .eq 4, 3) := by decide +kernel
theorem dX5_readSegment_89 : decode cX5_readSegment 89 = .ok (.return_, 1) := by decide +kernel
theorem dX5_readSegment_90 : decode cX5_readSegment 90 = .ok (.aload_n 0, 1) := by decide +kernel
theorem dX5_readSegment_91 : decode cX5_readSegment 91 = .ok (.getfield 15, 3) := by decide +kernel
theorem dX5_readSegment_94 : decode cX5_readSegment 94 = .ok (.iload_n 1, 1) := by decide +kernel
theorem dX5_readSegment_95 : decode cX5_readSegment 95 = .ok (.iload_n 2, 1) := by decide +kernel
theorem dX5_readSegment_96 : decode cX5_readSegment 96 = .ok (.iload_n 3, 1) := by decide +kernel
theorem dX5_readSegment_97 : decode cX5_readSegment 97 = .ok (.iload 4, 2) := by decide +kernel
theorem dX5_readSegment_99 : decode cX5_readSegment 99 = .ok (.invokevirtual 97, 3) := by decide +kernel
theorem dX5_readSegment_102 : decode cX5_readSegment 102 = .ok (.aload_n 0, 1) := by decide +kernel
theorem dX5_readSegment_103 : decode cX5_readSegment 103 = .ok (.getfield 15, 3) := by decide +kernel
theorem dX5_readSegment_106 : decode cX5_readSegment 106 = .ok (.invokevirtual 101, 3) := by decide +kernel
theorem dX5_readSegment_109 : decode cX5_readSegment 109 = .ok (.ifCond .eq 11, 3) := by decide +kernel
theorem dX5_readSegment_112 : decode cX5_readSegment 112 = .ok (.aload_n 0, 1) := by decide +kernel
theorem dX5_readSegment_113 : decode cX5_readSegment 113 = .ok (.getfield 9, 3) := by decide +kernel
theorem dX5_readSegment_116 : decode cX5_readSegment 116 = .ok (.iconst 5, 1) := by decide +kernel
theorem dX5_readSegment_117 : decode cX5_readSegment 117 = .ok (.invokevirtual 80, 3) := by decide +kernel
theorem dX5_readSegment_120 : decode cX5_readSegment 120 = .ok (.aload_n 0, 1) := by decide +kernel
theorem dX5_readSegment_121 : decode cX5_readSegment 121 = .ok (.getfield 9, 3) := by decide +kernel
theorem dX5_readSegment_124 : decode cX5_readSegment 124 = .ok (.invokevirtual 59, 3) := by decide +kernel
theorem dX5_readSegment_127 : decode cX5_readSegment 127 = .ok (.return_, 1) := by decide +kernel
theorem dX5_newName_0 : decode cX5_newName 0 = .ok (.aload_n 0, 1) := by decide +kernel
theorem dX5_newName_1 : decode cX5_newName 1 = .ok (.getfield 9, 3) := by decide +kernel
theorem dX5_newName_4 : decode cX5_newName 4 = .ok (.getfield 48, 3) := by decide +kernel
theorem dX5_newName_7 : decode cX5_newName 7 = .ok (.iconst 4, 1) := by decide +kernel
theorem dX5_newName_8 : decode cX5_newName 8 = .ok (.if_icmp .ne 14, 3) := by decide +kernel
theorem dX5_newName_11 : decode cX5_newName 11 = .ok (.aload_n 0, 1) := by decide +kernel
theorem dX5_newName_12 : decode cX5_newName 12 = .ok (.getfield 9, 3) := by decide +kernel
theorem dX5_newName_15 : decode cX5_newName 15 = .ok (.iconst 3, 1) := by decide +kernel
theorem dX5_newName_16 : decode cX5_newName 16 = .ok (.invokevirtual 80, 3) := by decide +kernel
theorem dX5_newName_19 : decode cX5_newName 19 = .ok (.goto 32, 3) := by decide +kernel
theorem dX5_newName_22 : decode cX5_newName 22 = .ok (.aload_n 0, 1) := by decide +kernel
theorem dX5_newName_23 : decode cX5_newName 23 = .ok (.getfield 9, 3) := by decide +kernel
theorem dX5_newName_26 : decode cX5_newName 26 = .ok (.getfield 48, 3) := by decide +kernel
theorem dX5_newName_29 : decode cX5_newName 29 = .ok (.iconst 3, 1) := by decide +kernel
theorem dX5_newName_30 : decode cX5_newName 30 = .ok (.if_icmp .eq 14, 3) := by decide +kernel
theorem dX5_newName_33 : decode cX5_newName 33 = .ok (.aload_n 0, 1) := by decide +kernel
theorem dX5_newName_34 : decode cX5_newName 34 = .ok (.getfield 9, 3) := by decide +kernel
theorem dX5_newName_37 : decode cX5_newName 37 = .ok (.iconst 2, 1) := by decide +kernel
theorem dX5_newName_38 : decode cX5_newName 38 = .ok (.invokevirtual 80, 3) := by decide +kernel
theorem dX5_newName_41 : decode cX5_newName 41 = .ok (.goto 10, 3) := by decide +kernel
theorem dX5_newName_44 : decode cX5_newName 44 = .ok (.aload_n 0, 1) := by decide +kernel
theorem dX5_newName_45 : decode cX5_newName 45 = .ok (.getfield 9, 3) := by decide +kernel
theorem dX5_newName_48 : decode cX5_newName 48 = .ok (.invokevirtual 104, 3) := by decide +kernel
theorem dX5_newName_51 : decode cX5_newName 51 = .ok (.aload_n 0, 1) := by decide +kernel
theorem dX5_newName_52 : decode cX5_newName 52 = .ok (.getfield 9, 3) := by decide +kernel
theorem dX5_newName_55 : decode cX5_newName 55 = .ok (.invokevirtual 59, 3) := by decide +kernel
theorem dX5_newName_58 : decode cX5_newName 58 = .ok (.return_, 1) := by decide +kernel
theorem dX5_expect_0 : decode cX5_expect 0 = .ok (.aload_n 0, 1) := by decide +kernel
theorem dX5_expect_1 : decode cX5_expect 1 = .ok (.getfield 9, 3) := by decide +kernel
theorem dX5_expect_4 : decode cX5_expect 4 = .ok (.getfield 48, 3) := by decide +kernel
theorem dX5_expect_7 : decode cX5_expect 7 = .ok (.iload_n 1, 1) := by decide +kernel
theorem dX5_expect_8 : decode cX5_expect 8 = .ok (.if_icmp .eq 11, 3) := by decide +kernel
theorem dX5_expect_11 : decode cX5_expect 11 = .ok (.aload_n 0, 1) := by decide +kernel
theorem dX5_expect_12 : decode cX5_expect 12 = .ok (.getfield 9, 3) := by decide +kernel
theorem dX5_expect_15 : decode cX5_expect 15 = .ok (.iconst 2, 1) := by decide +kernel
theorem dX5_expect_16 : decode cX5_expect 16 = .ok (.invokevirtual 80, 3) := by decide +kernel
theorem dX5_expect_19 : decode cX5_expect 19 = .ok (.aload_n 0, 1) := by decide +kernel
theorem dX5_expect_20 : decode cX5_expect 20 = .ok (.getfield 9, 3) := by decide +kernel
theorem dX5_expect_23 : decode cX5_expect 23 = .ok (.invokevirtual 59, 3) := by decide +kernel
theorem dX5_expect_26 : decode cX5_expect 26 = .ok (.return_, 1) := by decide +kernel
theorem dX5_number_0 : decode cX5_number 0 = .ok (.aload_n 0, 1) := by decide +kernel
theorem dX5_number_1 : decode cX5_number 1 = .ok (.getfield 9, 3) := by decide +kernel
theorem dX5_number_4 : decode cX5_number 4 = .ok (.getfield 48, 3) := by decide +kernel
theorem dX5_number_7 : decode cX5_number 7 = .ok (.iconst 2, 1) := by decide +kernel
theorem dX5_number_8 : decode cX5_number 8 = .ok (.if_icmp .eq 14, 3) := by decide +kernel
theorem dX5_number_11 : decode cX5_number 11 = .ok (.aload_n 0, 1) := by decide +kernel
theorem dX5_number_12 : decode cX5_number 12 = .ok (.getfield 9, 3) := by decide +kernel
theorem dX5_number_15 : decode cX5_number 15 = .ok (.iconst 2, 1) := by decide +kernel
theorem dX5_number_16 : decode cX5_number 16 = .ok (.invokevirtual 80, 3) := by decide +kernel
theorem dX5_number_19 : decode cX5_number 19 = .ok (.goto 33, 3) := by decide +kernel
theorem dX5_number_22 : decode cX5_number 22 = .ok (.aload_n 0, 1) := by decide +kernel
theorem dX5_number_23 : decode cX5_number 23 = .ok (.getfield 9, 3) := by decide +kernel
theorem dX5_number_26 : decode cX5_number 26 = .ok (.getfield 107, 3) := by decide +kernel
theorem dX5_number_29 : decode cX5_number 29 = .ok (.iload_n 1, 1) := by decide +kernel
theorem dX5_number_30 : decode cX5_number 30 = .ok (.if_icmp .lt 14, 3) := by decide +kernel
theorem dX5_number_33 : decode cX5_number 33 = .ok (.aload_n 0, 1) := by decide +kernel
theorem dX5_number_34 : decode cX5_number 34 = .ok (.getfield 9, 3) := by decide +kernel
theorem dX5_number_37 : decode cX5_number 37 = .ok (.getfield 107, 3) := by decide +kernel
theorem dX5_number_40 : decode cX5_number 40 = .ok (.iload_n 2, 1) := by decide +kernel
theorem dX5_number_41 : decode cX5_number 41 = .ok (.if_icmp .le 11, 3) := by decide +kernel
theorem dX5_number_44 : decode cX5_number 44 = .ok (.aload_n 0, 1) := by decide +kernel
theorem dX5_number_45 : decode cX5_number 45 = .ok (.getfield 9, 3) := by decide +kernel
theorem dX5_number_48 : decode cX5_number 48 = .ok (.iconst 4, 1) := by decide +kernel
theorem dX5_number_49 : decode cX5_number 49 = .ok (.invokevirtual 80, 3) := by decide +kernel
theorem dX5_number_52 : decode cX5_number 52 = .ok (.aload_n 0, 1) := by decide +kernel
theorem dX5_number_53 : decode cX5_number 53 = .ok (.getfield 9, 3) := by decide +kernel
theorem dX5_number_56 : decode cX5_number 56 = .ok (.getfield 107, 3) := by decide +kernel
theorem dX5_number_59 : decode cX5_number 59 = .ok (.ireturn, 1) := by decide +kernel
theorem dX6_init_0 : decode cX6_init 0 = .ok (.aload_n 0, 1) := by decide +kernel
theorem dX6_init_1 : decode cX6_init 1 = .ok (.invokespecial 3, 3) := by decide +kernel
theorem dX6_init_4 : decode cX6_init 4 = .ok (.aload_n 0, 1) := by decide +kernel
theorem dX6_init_5 : decode cX6_init 5 = .ok (.iload_n 1, 1) := by decide +kernel
theorem dX6_init_6 : decode cX6_init 6 = .ok (.iconst 0, 1) := by decide +kernel
theorem dX6_init_7 : decode cX6_init 7 = .ok (.invokestatic 9, 3) := by decide +kernel
theorem dX6_init_10 : decode cX6_init 10 = .ok (.newarray .int, 2) := by decide +kernel
theorem dX6_init_12 : decode cX6_init 12 = .ok (.putfield 15, 3) := by decide +kernel
theorem dX6_init_15 : decode cX6_init 15 = .ok (.aload_n 0, 1) := by decide +kernel
theorem dX6_init_16 : decode cX6_init 16 = .ok (.iconst 0, 1) := by decide +kernel
theorem dX6_init_17 : decode cX6_init 17 = .ok (.putfield 21, 3) := by decide +kernel
theorem dX6_init_20 : decode cX6_init 20 = .ok (.return_, 1) := by decide +kernel
theorem dX6_size_0 : decode cX6_size 0 = .ok (.aload_n 0, 1) := by decide +kernel
theorem dX6_size_1 : decode cX6_size 1 = .ok (.getfield 21, 3) := by decide +kernel
theorem dX6_size_4 : decode cX6_size 4 = .ok (.ireturn, 1) := by decide +kernel
theorem dX6_at_0 : decode cX6_at 0 = .ok (.iload_n 1, 1) := by decide +kernel
theorem dX6_at_1 : decode cX6_at 1 = .ok (.ifCond .lt 29, 3) := by decide +kernel
theorem dX6_at_4 : decode cX6_at 4 = .ok (.iload_n 1, 1) := by decide +kernel
theorem dX6_at_5 : decode cX6_at 5 = .ok (.aload_n 0, 1) := by decide +kernel
theorem dX6_at_6 : decode cX6_at 6 = .ok (.getfield 21, 3) := by decide +kernel
theorem dX6_at_9 : decode cX6_at 9 = .ok (.if_icmp .ge 21, 3) := by decide +kernel
theorem dX6_at_12 : decode cX6_at 12 = .ok (.iload_n 1, 1) := by decide +kernel
theorem dX6_at_13 : decode cX6_at 13 = .ok (.aload_n 0, 1) := by decide +kernel
theorem dX6_at_14 : decode cX6_at 14 = .ok (.getfield 15, 3) := by decide +kernel
theorem dX6_at_17 : decode cX6_at 17 = .ok (.arraylength, 1) := by decide +kernel
theorem dX6_at_18 : decode cX6_at 18 = .ok (.if_icmp .ge 12, 3) := by decide +kernel
theorem dX6_at_21 : decode cX6_at 21 = .ok (.aload_n 0, 1) := by decide +kernel
theorem dX6_at_22 : decode cX6_at 22 = .ok (.getfield 15, 3) := by decide +kernel
theorem dX6_at_25 : decode cX6_at 25 = .ok (.iload_n 1, 1) := by decide +kernel
theorem dX6_at_26 : decode cX6_at 26 = .ok (.iaload, 1) := by decide +kernel
theorem dX6_at_27 : decode cX6_at 27 = .ok (.goto 4, 3) := by decide +kernel
theorem dX6_at_30 : decode cX6_at 30 = .ok (.iconst (-1), 1) := by decide +kernel
theorem dX6_at_31 : decode cX6_at 31 = .ok (.ireturn, 1) := by decide +kernel
theorem dX6_put_0 : decode cX6_put 0 = .ok (.iload_n 1, 1) := by decide +kernel
theorem dX6_put_1 : decode cX6_put 1 = .ok (.ifCond .lt 27, 3) := by decide +kernel
theorem dX6_put_4 : decode cX6_put 4 = .ok (.iload_n 1, 1) := by decide +kernel
theorem dX6_put_5 : decode cX6_put 5 = .ok (.aload_n 0, 1) := by decide +kernel
theorem dX6_put_6 : decode cX6_put 6 = .ok (.getfield 21, 3) := by decide +kernel
theorem dX6_put_9 : decode cX6_put 9 = .ok (.if_icmp .ge 19, 3) := by decide +kernel
theorem dX6_put_12 : decode cX6_put 12 = .ok (.iload_n 1, 1) := by decide +kernel
theorem dX6_put_13 : decode cX6_put 13 = .ok (.aload_n 0, 1) := by decide +kernel
theorem dX6_put_14 : decode cX6_put 14 = .ok (.getfield 15, 3) := by decide +kernel
theorem dX6_put_17 : decode cX6_put 17 = .ok (.arraylength, 1) := by decide +kernel
theorem dX6_put_18 : decode cX6_put 18 = .ok (.if_icmp .ge 10, 3) := by decide +kernel
theorem dX6_put_21 : decode cX6_put 21 = .ok (.aload_n 0, 1) := by decide +kernel
theorem dX6_put_22 : decode cX6_put 22 = .ok (.getfield 15, 3) := by decide +kernel
theorem dX6_put_25 : decode cX6_put 25 = .ok (.iload_n 1, 1) := by decide +kernel
theorem dX6_put_26 : decode cX6_put 26 = .ok (.iload_n 2, 1) := by decide +kernel
theorem dX6_put_27 : decode cX6_put 27 = .ok (.iastore, 1) := by decide +kernel
theorem dX6_put_28 : decode cX6_put 28 = .ok (.return_, 1) := by decide +kernel
theorem dX6_add_0 : decode cX6_add 0 = .ok (.aload_n 0, 1) := by decide +kernel
theorem dX6_add_1 : decode cX6_add 1 = .ok (.getfield 21, 3) := by decide +kernel
theorem dX6_add_4 : decode cX6_add 4 = .ok (.ifCond .lt 35, 3) := by decide +kernel
theorem dX6_add_7 : decode cX6_add 7 = .ok (.aload_n 0, 1) := by decide +kernel
theorem dX6_add_8 : decode cX6_add 8 = .ok (.getfield 21, 3) := by decide +kernel
theorem dX6_add_11 : decode cX6_add 11 = .ok (.aload_n 0, 1) := by decide +kernel
theorem dX6_add_12 : decode cX6_add 12 = .ok (.getfield 15, 3) := by decide +kernel
theorem dX6_add_15 : decode cX6_add 15 = .ok (.arraylength, 1) := by decide +kernel
theorem dX6_add_16 : decode cX6_add 16 = .ok (.if_icmp .ge 23, 3) := by decide +kernel
theorem dX6_add_19 : decode cX6_add 19 = .ok (.aload_n 0, 1) := by decide +kernel
theorem dX6_add_20 : decode cX6_add 20 = .ok (.getfield 15, 3) := by decide +kernel
theorem dX6_add_23 : decode cX6_add 23 = .ok (.aload_n 0, 1) := by decide +kernel
theorem dX6_add_24 : decode cX6_add 24 = .ok (.getfield 21, 3) := by decide +kernel
theorem dX6_add_27 : decode cX6_add 27 = .ok (.iload_n 1, 1) := by decide +kernel
theorem dX6_add_28 : decode cX6_add 28 = .ok (.iastore, 1) := by decide +kernel
theorem dX6_add_29 : decode cX6_add 29 = .ok (.aload_n 0, 1) := by decide +kernel
theorem dX6_add_30 : decode cX6_add 30 = .ok (.dup, 1) := by decide +kernel
theorem dX6_add_31 : decode cX6_add 31 = .ok (.getfield 21, 3) := by decide +kernel
theorem dX6_add_34 : decode cX6_add 34 = .ok (.iconst 1, 1) := by decide +kernel
theorem dX6_add_35 : decode cX6_add 35 = .ok (.iadd, 1) := by decide +kernel
theorem dX6_add_36 : decode cX6_add 36 = .ok (.putfield 21, 3) := by decide +kernel
theorem dX6_add_39 : decode cX6_add 39 = .ok (.return_, 1) := by decide +kernel
theorem dX6_addUnlessNone_0 : decode cX6_addUnlessNone 0 = .ok (.iload_n 1, 1) := by decide +kernel
theorem dX6_addUnlessNone_1 : decode cX6_addUnlessNone 1 = .ok (.iconst (-1), 1) := by decide +kernel
theorem dX6_addUnlessNone_2 : decode cX6_addUnlessNone 2 = .ok (.if_icmp .eq 8, 3) := by decide +kernel
theorem dX6_addUnlessNone_5 : decode cX6_addUnlessNone 5 = .ok (.aload_n 0, 1) := by decide +kernel
theorem dX6_addUnlessNone_6 : decode cX6_addUnlessNone 6 = .ok (.iload_n 1, 1) := by decide +kernel
theorem dX6_addUnlessNone_7 : decode cX6_addUnlessNone 7 = .ok (.invokevirtual 25, 3) := by decide +kernel
theorem dX6_addUnlessNone_10 : decode cX6_addUnlessNone 10 = .ok (.return_, 1) := by decide +kernel
theorem dX6_takeLast_0 : decode cX6_takeLast 0 = .ok (.aload_n 0, 1) := by decide +kernel
theorem dX6_takeLast_1 : decode cX6_takeLast 1 = .ok (.aload_n 0, 1) := by decide +kernel
theorem dX6_takeLast_2 : decode cX6_takeLast 2 = .ok (.getfield 21, 3) := by decide +kernel
theorem dX6_takeLast_5 : decode cX6_takeLast 5 = .ok (.iconst 1, 1) := by decide +kernel
theorem dX6_takeLast_6 : decode cX6_takeLast 6 = .ok (.isub, 1) := by decide +kernel
theorem dX6_takeLast_7 : decode cX6_takeLast 7 = .ok (.invokevirtual 29, 3) := by decide +kernel
theorem dX6_takeLast_10 : decode cX6_takeLast 10 = .ok (.istore_n 1, 1) := by decide +kernel
theorem dX6_takeLast_11 : decode cX6_takeLast 11 = .ok (.aload_n 0, 1) := by decide +kernel
theorem dX6_takeLast_12 : decode cX6_takeLast 12 = .ok (.aload_n 0, 1) := by decide +kernel
theorem dX6_takeLast_13 : decode cX6_takeLast 13 = .ok (.getfield 21, 3) := by decide +kernel
theorem dX6_takeLast_16 : decode cX6_takeLast 16 = .ok (.iconst 1, 1) := by decide +kernel
theorem dX6_takeLast_17 : decode cX6_takeLast 17 = .ok (.isub, 1) := by decide +kernel
theorem dX6_takeLast_18 : decode cX6_takeLast 18 = .ok (.invokevirtual 33, 3) := by decide +kernel
theorem dX6_takeLast_21 : decode cX6_takeLast 21 = .ok (.iload_n 1, 1) := by decide +kernel
theorem dX6_takeLast_22 : decode cX6_takeLast 22 = .ok (.ireturn, 1) := by decide +kernel
theorem dX6_last_0 : decode cX6_last 0 = .ok (.aload_n 0, 1) := by decide +kernel
theorem dX6_last_1 : decode cX6_last 1 = .ok (.aload_n 0, 1) := by decide +kernel
theorem dX6_last_2 : decode cX6_last 2 = .ok (.getfield 21, 3) := by decide +kernel
theorem dX6_last_5 : decode cX6_last 5 = .ok (.iconst 1, 1) := by decide +kernel
theorem dX6_last_6 : decode cX6_last 6 = .ok (.isub, 1) := by decide +kernel
theorem dX6_last_7 : decode cX6_last 7 = .ok (.invokevirtual 29, 3) := by decide +kernel
theorem dX6_last_10 : decode cX6_last 10 = .ok (.ireturn, 1) := by decide +kernel
theorem dX6_keep_0 : decode cX6_keep 0 = .ok (.iload_n 1, 1) := by decide +kernel
theorem dX6_keep_1 : decode cX6_keep 1 = .ok (.ifCond .lt 16, 3) := by decide +kernel
theorem dX6_keep_4 : decode cX6_keep 4 = .ok (.iload_n 1, 1) := by decide +kernel
theorem dX6_keep_5 : decode cX6_keep 5 = .ok (.aload_n 0, 1) := by decide +kernel
theorem dX6_keep_6 : decode cX6_keep 6 = .ok (.getfield 21, 3) := by decide +kernel
theorem dX6_keep_9 : decode cX6_keep 9 = .ok (.if_icmp .ge 8, 3) := by decide +kernel
theorem dX6_keep_12 : decode cX6_keep 12 = .ok (.aload_n 0, 1) := by decide +kernel
theorem dX6_keep_13 : decode cX6_keep 13 = .ok (.iload_n 1, 1) := by decide +kernel
theorem dX6_keep_14 : decode cX6_keep 14 = .ok (.putfield 21, 3) := by decide +kernel
theorem dX6_keep_17 : decode cX6_keep 17 = .ok (.return_, 1) := by decide +kernel
theorem dX6_clear_0 : decode cX6_clear 0 = .ok (.aload_n 0, 1) := by decide +kernel
theorem dX6_clear_1 : decode cX6_clear 1 = .ok (.iconst 0, 1) := by decide +kernel
theorem dX6_clear_2 : decode cX6_clear 2 = .ok (.putfield 21, 3) := by decide +kernel
theorem dX6_clear_5 : decode cX6_clear 5 = .ok (.return_, 1) := by decide +kernel
theorem dX6_fill_0 : decode cX6_fill 0 = .ok (.aload_n 0, 1) := by decide +kernel
theorem dX6_fill_1 : decode cX6_fill 1 = .ok (.iconst 0, 1) := by decide +kernel
theorem dX6_fill_2 : decode cX6_fill 2 = .ok (.putfield 21, 3) := by decide +kernel
theorem dX6_fill_5 : decode cX6_fill 5 = .ok (.iconst 0, 1) := by decide +kernel
theorem dX6_fill_6 : decode cX6_fill 6 = .ok (.istore_n 3, 1) := by decide +kernel
theorem dX6_fill_7 : decode cX6_fill 7 = .ok (.iload_n 3, 1) := by decide +kernel
theorem dX6_fill_8 : decode cX6_fill 8 = .ok (.iload_n 1, 1) := by decide +kernel
theorem dX6_fill_9 : decode cX6_fill 9 = .ok (.if_icmp .ge 14, 3) := by decide +kernel
theorem dX6_fill_12 : decode cX6_fill 12 = .ok (.aload_n 0, 1) := by decide +kernel
theorem dX6_fill_13 : decode cX6_fill 13 = .ok (.iload_n 2, 1) := by decide +kernel
theorem dX6_fill_14 : decode cX6_fill 14 = .ok (.invokevirtual 25, 3) := by decide +kernel
theorem dX6_fill_17 : decode cX6_fill 17 = .ok (.iinc 3 1, 3) := by decide +kernel
theorem dX6_fill_20 : decode cX6_fill 20 = .ok (.goto (-13), 3) := by decide +kernel
theorem dX6_fill_23 : decode cX6_fill 23 = .ok (.return_, 1) := by decide +kernel
theorem dX6_takeFrom_0 : decode cX6_takeFrom 0 = .ok (.aload_n 0, 1) := by decide +kernel
theorem dX6_takeFrom_1 : decode cX6_takeFrom 1 = .ok (.iconst 0, 1) := by decide +kernel
theorem dX6_takeFrom_2 : decode cX6_takeFrom 2 = .ok (.putfield 21, 3) := by decide +kernel
theorem dX6_takeFrom_5 : decode cX6_takeFrom 5 = .ok (.iconst 0, 1) := by decide +kernel
theorem dX6_takeFrom_6 : decode cX6_takeFrom 6 = .ok (.istore_n 2, 1) := by decide +kernel
theorem dX6_takeFrom_7 : decode cX6_takeFrom 7 = .ok (.iload_n 2, 1) := by decide +kernel
theorem dX6_takeFrom_8 : decode cX6_takeFrom 8 = .ok (.aload_n 1, 1) := by decide +kernel
theorem dX6_takeFrom_9 : decode cX6_takeFrom 9 = .ok (.getfield 21, 3) := by decide +kernel
theorem dX6_takeFrom_12 : decode cX6_takeFrom 12 = .ok (.if_icmp .ge 18, 3) := by decide +kernel
theorem dX6_takeFrom_15 : decode cX6_takeFrom 15 = .ok (.aload_n 0, 1) := by decide +kernel
theorem dX6_takeFrom_16 : decode cX6_takeFrom 16 = .ok (.aload_n 1, 1) := by decide +kernel
theorem dX6_takeFrom_17 : decode cX6_takeFrom 17 = .ok (.iload_n 2, 1) := by decide +kernel
theorem dX6_takeFrom_18 : decode cX6_takeFrom 18 = .ok (.invokevirtual 29, 3) := by decide +kernel
theorem dX6_takeFrom_21 : decode cX6_takeFrom 21 = .ok (.invokevirtual 25, 3) := by decide +kernel
theorem dX6_takeFrom_24 : decode cX6_takeFrom 24 = .ok (.iinc 2 1, 3) := by decide +kernel
theorem dX6_takeFrom_27 : decode cX6_takeFrom 27 = .ok (.goto (-20), 3) := by decide +kernel
theorem dX6_takeFrom_30 : decode cX6_takeFrom 30 = .ok (.return_, 1) := by decide +kernel
theorem dX7_init_0 : decode cX7_init 0 = .ok (.aload_n 0, 1) := by decide +kernel
theorem dX7_init_1 : decode cX7_init 1 = .ok (.invokespecial 3, 3) := by decide +kernel
theorem dX7_init_4 : decode cX7_init 4 = .ok (.aload_n 0, 1) := by decide +kernel
theorem dX7_init_5 : decode cX7_init 5 = .ok (.new 9, 3) := by decide +kernel
theorem dX7_init_8 : decode cX7_init 8 = .ok (.dup, 1) := by decide +kernel
theorem dX7_init_9 : decode cX7_init 9 = .ok (.bipush 41, 2) := by decide +kernel
theorem dX7_init_11 : decode cX7_init 11 = .ok (.invokespecial 11, 3) := by decide +kernel
theorem dX7_init_14 : decode cX7_init 14 = .ok (.putfield 14, 3) := by decide +kernel
theorem dX7_init_17 : decode cX7_init 17 = .ok (.aload_n 0, 1) := by decide +kernel
theorem dX7_init_18 : decode cX7_init 18 = .ok (.new 9, 3) := by decide +kernel
theorem dX7_init_21 : decode cX7_init 21 = .ok (.dup, 1) := by decide +kernel
theorem dX7_init_22 : decode cX7_init 22 = .ok (.bipush 41, 2) := by decide +kernel
theorem dX7_init_24 : decode cX7_init 24 = .ok (.invokespecial 11, 3) := by decide +kernel
theorem dX7_init_27 : decode cX7_init 27 = .ok (.putfield 20, 3) := by decide +kernel
theorem dX7_init_30 : decode cX7_init 30 = .ok (.aload_n 0, 1) := by decide +kernel
theorem dX7_init_31 : decode cX7_init 31 = .ok (.new 9, 3) := by decide +kernel
theorem dX7_init_34 : decode cX7_init 34 = .ok (.dup, 1) := by decide +kernel
theorem dX7_init_35 : decode cX7_init 35 = .ok (.bipush 41, 2) := by decide +kernel
theorem dX7_init_37 : decode cX7_init 37 = .ok (.invokespecial 11, 3) := by decide +kernel
theorem dX7_init_40 : decode cX7_init 40 = .ok (.putfield 23, 3) := by decide +kernel
theorem dX7_init_43 : decode cX7_init 43 = .ok (.aload_n 0, 1) := by decide +kernel
theorem dX7_init_44 : decode cX7_init 44 = .ok (.new 9, 3) := by decide +kernel
theorem dX7_init_47 : decode cX7_init 47 = .ok (.dup, 1) := by decide +kernel
theorem dX7_init_48 : decode cX7_init 48 = .ok (.bipush 41, 2) := by decide +kernel
theorem dX7_init_50 : decode cX7_init 50 = .ok (.invokespecial 11, 3) := by decide +kernel
theorem dX7_init_53 : decode cX7_init 53 = .ok (.putfield 26, 3) := by decide +kernel
theorem dX7_init_56 : decode cX7_init 56 = .ok (.aload_n 0, 1) := by decide +kernel
theorem dX7_init_57 : decode cX7_init 57 = .ok (.new 9, 3) := by decide +kernel
theorem dX7_init_60 : decode cX7_init 60 = .ok (.dup, 1) := by decide +kernel
theorem dX7_init_61 : decode cX7_init 61 = .ok (.bipush 41, 2) := by decide +kernel
theorem dX7_init_63 : decode cX7_init 63 = .ok (.invokespecial 11, 3) := by decide +kernel
theorem dX7_init_66 : decode cX7_init 66 = .ok (.putfield 29, 3) := by decide +kernel
theorem dX7_init_69 : decode cX7_init 69 = .ok (.aload_n 0, 1) := by decide +kernel
theorem dX7_init_70 : decode cX7_init 70 = .ok (.new 9, 3) := by decide +kernel
theorem dX7_init_73 : decode cX7_init 73 = .ok (.dup, 1) := by decide +kernel
theorem dX7_init_74 : decode cX7_init 74 = .ok (.bipush 41, 2) := by decide +kernel
theorem dX7_init_76 : decode cX7_init 76 = .ok (.invokespecial 11, 3) := by decide +kernel
theorem dX7_init_79 : decode cX7_init 79 = .ok (.putfield 32, 3) := by decide +kernel
theorem dX7_init_82 : decode cX7_init 82 = .ok (.aload_n 0, 1) := by decide +kernel
theorem dX7_init_83 : decode cX7_init 83 = .ok (.new 9, 3) := by decide +kernel
theorem dX7_init_86 : decode cX7_init 86 = .ok (.dup, 1) := by decide +kernel
theorem dX7_init_87 : decode cX7_init 87 = .ok (.sipush 320, 3) := by decide +kernel
theorem dX7_init_90 : decode cX7_init 90 = .ok (.invokespecial 11, 3) := by decide +kernel
theorem dX7_init_93 : decode cX7_init 93 = .ok (.putfield 35, 3) := by decide +kernel
theorem dX7_init_96 : decode cX7_init 96 = .ok (.aload_n 0, 1) := by decide +kernel
theorem dX7_init_97 : decode cX7_init 97 = .ok (.new 9, 3) := by decide +kernel
theorem dX7_init_100 : decode cX7_init 100 = .ok (.dup, 1) := by decide +kernel
theorem dX7_init_101 : decode cX7_init 101 = .ok (.sipush 320, 3) := by decide +kernel
theorem dX7_init_104 : decode cX7_init 104 = .ok (.invokespecial 11, 3) := by decide +kernel
theorem dX7_init_107 : decode cX7_init 107 = .ok (.putfield 38, 3) := by decide +kernel
theorem dX7_init_110 : decode cX7_init 110 = .ok (.aload_n 0, 1) := by decide +kernel
theorem dX7_init_111 : decode cX7_init 111 = .ok (.new 9, 3) := by decide +kernel
theorem dX7_init_114 : decode cX7_init 114 = .ok (.dup, 1) := by decide +kernel
theorem dX7_init_115 : decode cX7_init 115 = .ok (.sipush 320, 3) := by decide +kernel
theorem dX7_init_118 : decode cX7_init 118 = .ok (.invokespecial 11, 3) := by decide +kernel
theorem dX7_init_121 : decode cX7_init 121 = .ok (.putfield 41, 3) := by decide +kernel
theorem dX7_init_124 : decode cX7_init 124 = .ok (.aload_n 0, 1) := by decide +kernel
theorem dX7_init_125 : decode cX7_init 125 = .ok (.new 9, 3) := by decide +kernel
theorem dX7_init_128 : decode cX7_init 128 = .ok (.dup, 1) := by decide +kernel
theorem dX7_init_129 : decode cX7_init 129 = .ok (.sipush 320, 3) := by decide +kernel
theorem dX7_init_132 : decode cX7_init 132 = .ok (.invokespecial 11, 3) := by decide +kernel
theorem dX7_init_135 : decode cX7_init 135 = .ok (.putfield 44, 3) := by decide +kernel
theorem dX7_init_138 : decode cX7_init 138 = .ok (.aload_n 0, 1) := by decide +kernel
theorem dX7_init_139 : decode cX7_init 139 = .ok (.new 9, 3) := by decide +kernel
theorem dX7_init_142 : decode cX7_init 142 = .ok (.dup, 1) := by decide +kernel
theorem dX7_init_143 : decode cX7_init 143 = .ok (.sipush 320, 3) := by decide +kernel
theorem dX7_init_146 : decode cX7_init 146 = .ok (.invokespecial 11, 3) := by decide +kernel
theorem dX7_init_149 : decode cX7_init 149 = .ok (.putfield 47, 3) := by decide +kernel
theorem dX7_init_152 : decode cX7_init 152 = .ok (.aload_n 0, 1) := by decide +kernel
theorem dX7_init_153 : decode cX7_init 153 = .ok (.new 9, 3) := by decide +kernel
theorem dX7_init_156 : decode cX7_init 156 = .ok (.dup, 1) := by decide +kernel
theorem dX7_init_157 : decode cX7_init 157 = .ok (.sipush 320, 3) := by decide +kernel
theorem dX7_init_160 : decode cX7_init 160 = .ok (.invokespecial 11, 3) := by decide +kernel
theorem dX7_init_163 : decode cX7_init 163 = .ok (.putfield 50, 3) := by decide +kernel
theorem dX7_init_166 : decode cX7_init 166 = .ok (.aload_n 0, 1) := by decide +kernel
theorem dX7_init_167 : decode cX7_init 167 = .ok (.new 9, 3) := by decide +kernel
theorem dX7_init_170 : decode cX7_init 170 = .ok (.dup, 1) := by decide +kernel
theorem dX7_init_171 : decode cX7_init 171 = .ok (.sipush 1920, 3) := by decide +kernel
theorem dX7_init_174 : decode cX7_init 174 = .ok (.invokespecial 11, 3) := by decide +kernel
theorem dX7_init_177 : decode cX7_init 177 = .ok (.putfield 53, 3) := by decide +kernel
theorem dX7_init_180 : decode cX7_init 180 = .ok (.aload_n 0, 1) := by decide +kernel
theorem dX7_init_181 : decode cX7_init 181 = .ok (.new 9, 3) := by decide +kernel
theorem dX7_init_184 : decode cX7_init 184 = .ok (.dup, 1) := by decide +kernel
theorem dX7_init_185 : decode cX7_init 185 = .ok (.sipush 1920, 3) := by decide +kernel
theorem dX7_init_188 : decode cX7_init 188 = .ok (.invokespecial 11, 3) := by decide +kernel
theorem dX7_init_191 : decode cX7_init 191 = .ok (.putfield 56, 3) := by decide +kernel
theorem dX7_init_194 : decode cX7_init 194 = .ok (.aload_n 0, 1) := by decide +kernel
theorem dX7_init_195 : decode cX7_init 195 = .ok (.new 9, 3) := by decide +kernel
theorem dX7_init_198 : decode cX7_init 198 = .ok (.dup, 1) := by decide +kernel
theorem dX7_init_199 : decode cX7_init 199 = .ok (.sipush 1920, 3) := by decide +kernel
theorem dX7_init_202 : decode cX7_init 202 = .ok (.invokespecial 11, 3) := by decide +kernel
theorem dX7_init_205 : decode cX7_init 205 = .ok (.putfield 59, 3) := by decide +kernel
theorem dX7_init_208 : decode cX7_init 208 = .ok (.aload_n 0, 1) := by decide +kernel
theorem dX7_init_209 : decode cX7_init 209 = .ok (.new 9, 3) := by decide +kernel
theorem dX7_init_212 : decode cX7_init 212 = .ok (.dup, 1) := by decide +kernel
theorem dX7_init_213 : decode cX7_init 213 = .ok (.bipush 8, 2) := by decide +kernel
theorem dX7_init_215 : decode cX7_init 215 = .ok (.invokespecial 11, 3) := by decide +kernel
theorem dX7_init_218 : decode cX7_init 218 = .ok (.putfield 62, 3) := by decide +kernel
theorem dX7_init_221 : decode cX7_init 221 = .ok (.aload_n 0, 1) := by decide +kernel
theorem dX7_init_222 : decode cX7_init 222 = .ok (.invokevirtual 65, 3) := by decide +kernel
theorem dX7_init_225 : decode cX7_init 225 = .ok (.return_, 1) := by decide +kernel
theorem dX7_restart_0 : decode cX7_restart 0 = .ok (.aload_n 0, 1) := by decide +kernel
theorem dX7_restart_1 : decode cX7_restart 1 = .ok (.iconst 0, 1) := by decide +kernel
theorem dX7_restart_2 : decode cX7_restart 2 = .ok (.invokevirtual 68, 3) := by decide +kernel
theorem dX7_restart_5 : decode cX7_restart 5 = .ok (.aload_n 0, 1) := by decide +kernel
theorem dX7_restart_6 : decode cX7_restart 6 = .ok (.iconst 0, 1) := by decide +kernel
theorem dX7_restart_7 : decode cX7_restart 7 = .ok (.invokevirtual 71, 3) := by decide +kernel
theorem dX7_restart_10 : decode cX7_restart 10 = .ok (.aload_n 0, 1) := by decide +kernel
theorem dX7_restart_11 : decode cX7_restart 11 = .ok (.getfield 62, 3) := by decide +kernel
theorem dX7_restart_14 : decode cX7_restart 14 = .ok (.bipush 8, 2) := by decide +kernel
theorem dX7_restart_16 : decode cX7_restart 16 = .ok (.iconst (-1), 1) := by decide +kernel
theorem dX7_restart_17 : decode cX7_restart 17 = .ok (.invokevirtual 74, 3) := by decide +kernel
theorem dX7_restart_20 : decode cX7_restart 20 = .ok (.aload_n 0, 1) := by decide +kernel
theorem dX7_restart_21 : decode cX7_restart 21 = .ok (.iconst 0, 1) := by decide +kernel
theorem dX7_restart_22 : decode cX7_restart 22 = .ok (.iconst 0, 1) := by decide +kernel
theorem dX7_restart_23 : decode cX7_restart 23 = .ok (.iconst 0, 1) := by decide +kernel
theorem dX7_restart_24 : decode cX7_restart 24 = .ok (.iconst 0, 1) := by decide +kernel
theorem dX7_restart_25 : decode cX7_restart 25 = .ok (.iconst (-1), 1) := by decide +kernel
theorem dX7_restart_26 : decode cX7_restart 26 = .ok (.iconst 0, 1) := by decide +kernel
theorem dX7_restart_27 : decode cX7_restart 27 = .ok (.invokevirtual 78, 3) := by decide +kernel
theorem dX7_restart_30 : decode cX7_restart 30 = .ok (.return_, 1) := by decide +kernel
theorem dX7_addVersion_0 : decode cX7_addVersion 0 = .ok (.aload_n 0, 1) := by decide +kernel
theorem dX7_addVersion_1 : decode cX7_addVersion 1 = .ok (.getfield 14, 3) := by decide +kernel
theorem dX7_addVersion_4 : decode cX7_addVersion 4 = .ok (.iload_n 1, 1) := by decide +kernel
theorem dX7_addVersion_5 : decode cX7_addVersion 5 = .ok (.invokevirtual 82, 3) := by decide +kernel
theorem dX7_addVersion_8 : decode cX7_addVersion 8 = .ok (.aload_n 0, 1) := by decide +kernel
theorem dX7_addVersion_9 : decode cX7_addVersion 9 = .ok (.getfield 20, 3) := by decide +kernel
theorem dX7_addVersion_12 : decode cX7_addVersion 12 = .ok (.iload_n 2, 1) := by decide +kernel
theorem dX7_addVersion_13 : decode cX7_addVersion 13 = .ok (.invokevirtual 82, 3) := by decide +kernel
theorem dX7_addVersion_16 : decode cX7_addVersion 16 = .ok (.aload_n 0, 1) := by decide +kernel
theorem dX7_addVersion_17 : decode cX7_addVersion 17 = .ok (.getfield 23, 3) := by decide +kernel
theorem dX7_addVersion_20 : decode cX7_addVersion 20 = .ok (.iload_n 3, 1) := by decide +kernel
theorem dX7_addVersion_21 : decode cX7_addVersion 21 = .ok (.invokevirtual 82, 3) := by decide +kernel
theorem dX7_addVersion_24 : decode cX7_addVersion 24 = .ok (.aload_n 0, 1) := by decide +kernel
theorem dX7_addVersion_25 : decode cX7_addVersion 25 = .ok (.getfield 26, 3) := by decide +kernel
theorem dX7_addVersion_28 : decode cX7_addVersion 28 = .ok (.iload 4, 2) := by decide +kernel
theorem dX7_addVersion_30 : decode cX7_addVersion 30 = .ok (.invokevirtual 82, 3) := by decide +kernel
theorem dX7_addVersion_33 : decode cX7_addVersion 33 = .ok (.aload_n 0, 1) := by decide +kernel
theorem dX7_addVersion_34 : decode cX7_addVersion 34 = .ok (.getfield 29, 3) := by decide +kernel
theorem dX7_addVersion_37 : decode cX7_addVersion 37 = .ok (.iload 5, 2) := by decide +kernel
theorem dX7_addVersion_39 : decode cX7_addVersion 39 = .ok (.invokevirtual 82, 3) := by decide +kernel
theorem dX7_addVersion_42 : decode cX7_addVersion 42 = .ok (.aload_n 0, 1) := by decide +kernel
theorem dX7_addVersion_43 : decode cX7_addVersion 43 = .ok (.getfield 32, 3) := by decide +kernel
theorem dX7_addVersion_46 : decode cX7_addVersion 46 = .ok (.iload 6, 2) := by decide +kernel
theorem dX7_addVersion_48 : decode cX7_addVersion 48 = .ok (.invokevirtual 82, 3) := by decide +kernel
theorem dX7_addVersion_51 : decode cX7_addVersion 51 = .ok (.return_, 1) := by decide +kernel
theorem dX7_keepVersions_0 : decode cX7_keepVersions 0 = .ok (.aload_n 0, 1) := by decide +kernel
theorem dX7_keepVersions_1 : decode cX7_keepVersions 1 = .ok (.getfield 14, 3) := by decide +kernel
theorem dX7_keepVersions_4 : decode cX7_keepVersions 4 = .ok (.iload_n 1, 1) := by decide +kernel
theorem dX7_keepVersions_5 : decode cX7_keepVersions 5 = .ok (.invokevirtual 85, 3) := by decide +kernel
theorem dX7_keepVersions_8 : decode cX7_keepVersions 8 = .ok (.aload_n 0, 1) := by decide +kernel
theorem dX7_keepVersions_9 : decode cX7_keepVersions 9 = .ok (.getfield 20, 3) := by decide +kernel
theorem dX7_keepVersions_12 : decode cX7_keepVersions 12 = .ok (.iload_n 1, 1) := by decide +kernel
theorem dX7_keepVersions_13 : decode cX7_keepVersions 13 = .ok (.invokevirtual 85, 3) := by decide +kernel
theorem dX7_keepVersions_16 : decode cX7_keepVersions 16 = .ok (.aload_n 0, 1) := by decide +kernel
theorem dX7_keepVersions_17 : decode cX7_keepVersions 17 = .ok (.getfield 23, 3) := by decide +kernel
theorem dX7_keepVersions_20 : decode cX7_keepVersions 20 = .ok (.iload_n 1, 1) := by decide +kernel
theorem dX7_keepVersions_21 : decode cX7_keepVersions 21 = .ok (.invokevirtual 85, 3) := by decide +kernel
theorem dX7_keepVersions_24 : decode cX7_keepVersions 24 = .ok (.aload_n 0, 1) := by decide +kernel
theorem dX7_keepVersions_25 : decode cX7_keepVersions 25 = .ok (.getfield 26, 3) := by decide +kernel
theorem dX7_keepVersions_28 : decode cX7_keepVersions 28 = .ok (.iload_n 1, 1) := by decide +kernel
theorem dX7_keepVersions_29 : decode cX7_keepVersions 29 = .ok (.invokevirtual 85, 3) := by decide +kernel
theorem dX7_keepVersions_32 : decode cX7_keepVersions 32 = .ok (.aload_n 0, 1) := by decide +kernel
theorem dX7_keepVersions_33 : decode cX7_keepVersions 33 = .ok (.getfield 29, 3) := by decide +kernel
theorem dX7_keepVersions_36 : decode cX7_keepVersions 36 = .ok (.iload_n 1, 1) := by decide +kernel
theorem dX7_keepVersions_37 : decode cX7_keepVersions 37 = .ok (.invokevirtual 85, 3) := by decide +kernel
theorem dX7_keepVersions_40 : decode cX7_keepVersions 40 = .ok (.aload_n 0, 1) := by decide +kernel
theorem dX7_keepVersions_41 : decode cX7_keepVersions 41 = .ok (.getfield 32, 3) := by decide +kernel
theorem dX7_keepVersions_44 : decode cX7_keepVersions 44 = .ok (.iload_n 1, 1) := by decide +kernel
theorem dX7_keepVersions_45 : decode cX7_keepVersions 45 = .ok (.invokevirtual 85, 3) := by decide +kernel
theorem dX7_keepVersions_48 : decode cX7_keepVersions 48 = .ok (.return_, 1) := by decide +kernel
theorem dX7_keepNodes_0 : decode cX7_keepNodes 0 = .ok (.aload_n 0, 1) := by decide +kernel
theorem dX7_keepNodes_1 : decode cX7_keepNodes 1 = .ok (.getfield 35, 3) := by decide +kernel
theorem dX7_keepNodes_4 : decode cX7_keepNodes 4 = .ok (.iload_n 1, 1) := by decide +kernel
theorem dX7_keepNodes_5 : decode cX7_keepNodes 5 = .ok (.invokevirtual 85, 3) := by decide +kernel
theorem dX7_keepNodes_8 : decode cX7_keepNodes 8 = .ok (.aload_n 0, 1) := by decide +kernel
theorem dX7_keepNodes_9 : decode cX7_keepNodes 9 = .ok (.getfield 38, 3) := by decide +kernel
theorem dX7_keepNodes_12 : decode cX7_keepNodes 12 = .ok (.iload_n 1, 1) := by decide +kernel
theorem dX7_keepNodes_13 : decode cX7_keepNodes 13 = .ok (.invokevirtual 85, 3) := by decide +kernel
theorem dX7_keepNodes_16 : decode cX7_keepNodes 16 = .ok (.aload_n 0, 1) := by decide +kernel
theorem dX7_keepNodes_17 : decode cX7_keepNodes 17 = .ok (.getfield 41, 3) := by decide +kernel
theorem dX7_keepNodes_20 : decode cX7_keepNodes 20 = .ok (.iload_n 1, 1) := by decide +kernel
theorem dX7_keepNodes_21 : decode cX7_keepNodes 21 = .ok (.invokevirtual 85, 3) := by decide +kernel
theorem dX7_keepNodes_24 : decode cX7_keepNodes 24 = .ok (.aload_n 0, 1) := by decide +kernel
theorem dX7_keepNodes_25 : decode cX7_keepNodes 25 = .ok (.getfield 44, 3) := by decide +kernel
theorem dX7_keepNodes_28 : decode cX7_keepNodes 28 = .ok (.iload_n 1, 1) := by decide +kernel
theorem dX7_keepNodes_29 : decode cX7_keepNodes 29 = .ok (.invokevirtual 85, 3) := by decide +kernel
theorem dX7_keepNodes_32 : decode cX7_keepNodes 32 = .ok (.aload_n 0, 1) := by decide +kernel
theorem dX7_keepNodes_33 : decode cX7_keepNodes 33 = .ok (.getfield 47, 3) := by decide +kernel
theorem dX7_keepNodes_36 : decode cX7_keepNodes 36 = .ok (.iload_n 1, 1) := by decide +kernel
theorem dX7_keepNodes_37 : decode cX7_keepNodes 37 = .ok (.invokevirtual 85, 3) := by decide +kernel
theorem dX7_keepNodes_40 : decode cX7_keepNodes 40 = .ok (.aload_n 0, 1) := by decide +kernel
theorem dX7_keepNodes_41 : decode cX7_keepNodes 41 = .ok (.getfield 50, 3) := by decide +kernel
theorem dX7_keepNodes_44 : decode cX7_keepNodes 44 = .ok (.iload_n 1, 1) := by decide +kernel
theorem dX7_keepNodes_45 : decode cX7_keepNodes 45 = .ok (.invokevirtual 85, 3) := by decide +kernel
theorem dX7_keepNodes_48 : decode cX7_keepNodes 48 = .ok (.aload_n 0, 1) := by decide +kernel
theorem dX7_keepNodes_49 : decode cX7_keepNodes 49 = .ok (.getfield 53, 3) := by decide +kernel
theorem dX7_keepNodes_52 : decode cX7_keepNodes 52 = .ok (.iload_n 1, 1) := by decide +kernel
theorem dX7_keepNodes_53 : decode cX7_keepNodes 53 = .ok (.bipush 6, 2) := by decide +kernel
theorem dX7_keepNodes_55 : decode cX7_keepNodes 55 = .ok (.imul, 1) := by decide +kernel
theorem dX7_keepNodes_56 : decode cX7_keepNodes 56 = .ok (.invokevirtual 85, 3) := by decide +kernel
theorem dX7_keepNodes_59 : decode cX7_keepNodes 59 = .ok (.aload_n 0, 1) := by decide +kernel
theorem dX7_keepNodes_60 : decode cX7_keepNodes 60 = .ok (.getfield 56, 3) := by decide +kernel
theorem dX7_keepNodes_63 : decode cX7_keepNodes 63 = .ok (.iload_n 1, 1) := by decide +kernel
theorem dX7_keepNodes_64 : decode cX7_keepNodes 64 = .ok (.bipush 6, 2) := by decide +kernel
theorem dX7_keepNodes_66 : decode cX7_keepNodes 66 = .ok (.imul, 1) := by decide +kernel
theorem dX7_keepNodes_67 : decode cX7_keepNodes 67 = .ok (.invokevirtual 85, 3) := by decide +kernel
theorem dX7_keepNodes_70 : decode cX7_keepNodes 70 = .ok (.aload_n 0, 1) := by decide +kernel
theorem dX7_keepNodes_71 : decode cX7_keepNodes 71 = .ok (.getfield 59, 3) := by decide +kernel
theorem dX7_keepNodes_74 : decode cX7_keepNodes 74 = .ok (.iload_n 1, 1) := by decide +kernel
theorem dX7_keepNodes_75 : decode cX7_keepNodes 75 = .ok (.bipush 6, 2) := by decide +kernel
theorem dX7_keepNodes_77 : decode cX7_keepNodes 77 = .ok (.imul, 1) := by decide +kernel
theorem dX7_keepNodes_78 : decode cX7_keepNodes 78 = .ok (.invokevirtual 85, 3) := by decide +kernel
theorem dX7_keepNodes_81 : decode cX7_keepNodes 81 = .ok (.return_, 1) := by decide +kernel
theorem dX7_takeFrom_0 : decode cX7_takeFrom 0 = .ok (.aload_n 0, 1) := by decide +kernel
theorem dX7_takeFrom_1 : decode cX7_takeFrom 1 = .ok (.getfield 14, 3) := by decide +kernel
theorem dX7_takeFrom_4 : decode cX7_takeFrom 4 = .ok (.aload_n 1, 1) := by decide +kernel
theorem dX7_takeFrom_5 : decode cX7_takeFrom 5 = .ok (.getfield 14, 3) := by decide +kernel
theorem dX7_takeFrom_8 : decode cX7_takeFrom 8 = .ok (.invokevirtual 88, 3) := by decide +kernel
theorem dX7_takeFrom_11 : decode cX7_takeFrom 11 = .ok (.aload_n 0, 1) := by decide +kernel
theorem dX7_takeFrom_12 : decode cX7_takeFrom 12 = .ok (.getfield 20, 3) := by decide +kernel
theorem dX7_takeFrom_15 : decode cX7_takeFrom 15 = .ok (.aload_n 1, 1) := by decide +kernel
theorem dX7_takeFrom_16 : decode cX7_takeFrom 16 = .ok (.getfield 20, 3) := by decide +kernel
theorem dX7_takeFrom_19 : decode cX7_takeFrom 19 = .ok (.invokevirtual 88, 3) := by decide +kernel
theorem dX7_takeFrom_22 : decode cX7_takeFrom 22 = .ok (.aload_n 0, 1) := by decide +kernel
theorem dX7_takeFrom_23 : decode cX7_takeFrom 23 = .ok (.getfield 23, 3) := by decide +kernel
theorem dX7_takeFrom_26 : decode cX7_takeFrom 26 = .ok (.aload_n 1, 1) := by decide +kernel
theorem dX7_takeFrom_27 : decode cX7_takeFrom 27 = .ok (.getfield 23, 3) := by decide +kernel
theorem dX7_takeFrom_30 : decode cX7_takeFrom 30 = .ok (.invokevirtual 88, 3) := by decide +kernel
theorem dX7_takeFrom_33 : decode cX7_takeFrom 33 = .ok (.aload_n 0, 1) := by decide +kernel
theorem dX7_takeFrom_34 : decode cX7_takeFrom 34 = .ok (.getfield 26, 3) := by decide +kernel
theorem dX7_takeFrom_37 : decode cX7_takeFrom 37 = .ok (.aload_n 1, 1) := by decide +kernel
theorem dX7_takeFrom_38 : decode cX7_takeFrom 38 = .ok (.getfield 26, 3) := by decide +kernel
theorem dX7_takeFrom_41 : decode cX7_takeFrom 41 = .ok (.invokevirtual 88, 3) := by decide +kernel
theorem dX7_takeFrom_44 : decode cX7_takeFrom 44 = .ok (.aload_n 0, 1) := by decide +kernel
theorem dX7_takeFrom_45 : decode cX7_takeFrom 45 = .ok (.getfield 29, 3) := by decide +kernel
theorem dX7_takeFrom_48 : decode cX7_takeFrom 48 = .ok (.aload_n 1, 1) := by decide +kernel
theorem dX7_takeFrom_49 : decode cX7_takeFrom 49 = .ok (.getfield 29, 3) := by decide +kernel
theorem dX7_takeFrom_52 : decode cX7_takeFrom 52 = .ok (.invokevirtual 88, 3) := by decide +kernel
theorem dX7_takeFrom_55 : decode cX7_takeFrom 55 = .ok (.aload_n 0, 1) := by decide +kernel
theorem dX7_takeFrom_56 : decode cX7_takeFrom 56 = .ok (.getfield 32, 3) := by decide +kernel
theorem dX7_takeFrom_59 : decode cX7_takeFrom 59 = .ok (.aload_n 1, 1) := by decide +kernel
theorem dX7_takeFrom_60 : decode cX7_takeFrom 60 = .ok (.getfield 32, 3) := by decide +kernel
theorem dX7_takeFrom_63 : decode cX7_takeFrom 63 = .ok (.invokevirtual 88, 3) := by decide +kernel
theorem dX7_takeFrom_66 : decode cX7_takeFrom 66 = .ok (.aload_n 0, 1) := by decide +kernel
theorem dX7_takeFrom_67 : decode cX7_takeFrom 67 = .ok (.getfield 35, 3) := by decide +kernel
theorem dX7_takeFrom_70 : decode cX7_takeFrom 70 = .ok (.aload_n 1, 1) := by decide +kernel
theorem dX7_takeFrom_71 : decode cX7_takeFrom 71 = .ok (.getfield 35, 3) := by decide +kernel
theorem dX7_takeFrom_74 : decode cX7_takeFrom 74 = .ok (.invokevirtual 88, 3) := by decide +kernel
theorem dX7_takeFrom_77 : decode cX7_takeFrom 77 = .ok (.aload_n 0, 1) := by decide +kernel
theorem dX7_takeFrom_78 : decode cX7_takeFrom 78 = .ok (.getfield 38, 3) := by decide +kernel
theorem dX7_takeFrom_81 : decode cX7_takeFrom 81 = .ok (.aload_n 1, 1) := by decide +kernel
theorem dX7_takeFrom_82 : decode cX7_takeFrom 82 = .ok (.getfield 38, 3) := by decide +kernel
theorem dX7_takeFrom_85 : decode cX7_takeFrom 85 = .ok (.invokevirtual 88, 3) := by decide +kernel
theorem dX7_takeFrom_88 : decode cX7_takeFrom 88 = .ok (.aload_n 0, 1) := by decide +kernel
theorem dX7_takeFrom_89 : decode cX7_takeFrom 89 = .ok (.getfield 41, 3) := by decide +kernel
theorem dX7_takeFrom_92 : decode cX7_takeFrom 92 = .ok (.aload_n 1, 1) := by decide +kernel
theorem dX7_takeFrom_93 : decode cX7_takeFrom 93 = .ok (.getfield 41, 3) := by decide +kernel
theorem dX7_takeFrom_96 : decode cX7_takeFrom 96 = .ok (.invokevirtual 88, 3) := by decide +kernel
theorem dX7_takeFrom_99 : decode cX7_takeFrom 99 = .ok (.aload_n 0, 1) := by decide +kernel
theorem dX7_takeFrom_100 : decode cX7_takeFrom 100 = .ok (.getfield 44, 3) := by decide +kernel
theorem dX7_takeFrom_103 : decode cX7_takeFrom 103 = .ok (.aload_n 1, 1) := by decide +kernel
theorem dX7_takeFrom_104 : decode cX7_takeFrom 104 = .ok (.getfield 44, 3) := by decide +kernel
theorem dX7_takeFrom_107 : decode cX7_takeFrom 107 = .ok (.invokevirtual 88, 3) := by decide +kernel
theorem dX7_takeFrom_110 : decode cX7_takeFrom 110 = .ok (.aload_n 0, 1) := by decide +kernel
theorem dX7_takeFrom_111 : decode cX7_takeFrom 111 = .ok (.getfield 47, 3) := by decide +kernel
theorem dX7_takeFrom_114 : decode cX7_takeFrom 114 = .ok (.aload_n 1, 1) := by decide +kernel
theorem dX7_takeFrom_115 : decode cX7_takeFrom 115 = .ok (.getfield 47, 3) := by decide +kernel
theorem dX7_takeFrom_118 : decode cX7_takeFrom 118 = .ok (.invokevirtual 88, 3) := by decide +kernel
theorem dX7_takeFrom_121 : decode cX7_takeFrom 121 = .ok (.aload_n 0, 1) := by decide +kernel
theorem dX7_takeFrom_122 : decode cX7_takeFrom 122 = .ok (.getfield 50, 3) := by decide +kernel
theorem dX7_takeFrom_125 : decode cX7_takeFrom 125 = .ok (.aload_n 1, 1) := by decide +kernel
theorem dX7_takeFrom_126 : decode cX7_takeFrom 126 = .ok (.getfield 50, 3) := by decide +kernel
theorem dX7_takeFrom_129 : decode cX7_takeFrom 129 = .ok (.invokevirtual 88, 3) := by decide +kernel
theorem dX7_takeFrom_132 : decode cX7_takeFrom 132 = .ok (.aload_n 0, 1) := by decide +kernel
theorem dX7_takeFrom_133 : decode cX7_takeFrom 133 = .ok (.getfield 53, 3) := by decide +kernel
theorem dX7_takeFrom_136 : decode cX7_takeFrom 136 = .ok (.aload_n 1, 1) := by decide +kernel
theorem dX7_takeFrom_137 : decode cX7_takeFrom 137 = .ok (.getfield 53, 3) := by decide +kernel
theorem dX7_takeFrom_140 : decode cX7_takeFrom 140 = .ok (.invokevirtual 88, 3) := by decide +kernel
theorem dX7_takeFrom_143 : decode cX7_takeFrom 143 = .ok (.aload_n 0, 1) := by decide +kernel
theorem dX7_takeFrom_144 : decode cX7_takeFrom 144 = .ok (.getfield 56, 3) := by decide +kernel
theorem dX7_takeFrom_147 : decode cX7_takeFrom 147 = .ok (.aload_n 1, 1) := by decide +kernel
theorem dX7_takeFrom_148 : decode cX7_takeFrom 148 = .ok (.getfield 56, 3) := by decide +kernel
theorem dX7_takeFrom_151 : decode cX7_takeFrom 151 = .ok (.invokevirtual 88, 3) := by decide +kernel
theorem dX7_takeFrom_154 : decode cX7_takeFrom 154 = .ok (.aload_n 0, 1) := by decide +kernel
theorem dX7_takeFrom_155 : decode cX7_takeFrom 155 = .ok (.getfield 59, 3) := by decide +kernel
theorem dX7_takeFrom_158 : decode cX7_takeFrom 158 = .ok (.aload_n 1, 1) := by decide +kernel
theorem dX7_takeFrom_159 : decode cX7_takeFrom 159 = .ok (.getfield 59, 3) := by decide +kernel
theorem dX7_takeFrom_162 : decode cX7_takeFrom 162 = .ok (.invokevirtual 88, 3) := by decide +kernel
theorem dX7_takeFrom_165 : decode cX7_takeFrom 165 = .ok (.aload_n 0, 1) := by decide +kernel
theorem dX7_takeFrom_166 : decode cX7_takeFrom 166 = .ok (.getfield 62, 3) := by decide +kernel
theorem dX7_takeFrom_169 : decode cX7_takeFrom 169 = .ok (.aload_n 1, 1) := by decide +kernel
theorem dX7_takeFrom_170 : decode cX7_takeFrom 170 = .ok (.getfield 62, 3) := by decide +kernel
theorem dX7_takeFrom_173 : decode cX7_takeFrom 173 = .ok (.invokevirtual 88, 3) := by decide +kernel
theorem dX7_takeFrom_176 : decode cX7_takeFrom 176 = .ok (.return_, 1) := by decide +kernel
theorem dX7_newest_0 : decode cX7_newest 0 = .ok (.aload_n 0, 1) := by decide +kernel
theorem dX7_newest_1 : decode cX7_newest 1 = .ok (.getfield 14, 3) := by decide +kernel
theorem dX7_newest_4 : decode cX7_newest 4 = .ok (.invokevirtual 92, 3) := by decide +kernel
theorem dX7_newest_7 : decode cX7_newest 7 = .ok (.iconst 1, 1) := by decide +kernel
theorem dX7_newest_8 : decode cX7_newest 8 = .ok (.isub, 1) := by decide +kernel
theorem dX7_newest_9 : decode cX7_newest 9 = .ok (.ireturn, 1) := by decide +kernel
theorem dX7_hasStamp_0 : decode cX7_hasStamp 0 = .ok (.iload_n 1, 1) := by decide +kernel
theorem dX7_hasStamp_1 : decode cX7_hasStamp 1 = .ok (.ifCond .lt 18, 3) := by decide +kernel
theorem dX7_hasStamp_4 : decode cX7_hasStamp 4 = .ok (.iload_n 1, 1) := by decide +kernel
theorem dX7_hasStamp_5 : decode cX7_hasStamp 5 = .ok (.aload_n 0, 1) := by decide +kernel
theorem dX7_hasStamp_6 : decode cX7_hasStamp 6 = .ok (.getfield 14, 3) := by decide +kernel
theorem dX7_hasStamp_9 : decode cX7_hasStamp 9 = .ok (.invokevirtual 92, 3) := by decide +kernel
theorem dX7_hasStamp_12 : decode cX7_hasStamp 12 = .ok (.if_icmp .ge 7, 3) := by decide +kernel
theorem dX7_hasStamp_15 : decode cX7_hasStamp 15 = .ok (.iconst 1, 1) := by decide +kernel
theorem dX7_hasStamp_16 : decode cX7_hasStamp 16 = .ok (.goto 4, 3) := by decide +kernel
theorem dX7_hasStamp_19 : decode cX7_hasStamp 19 = .ok (.iconst 0, 1) := by decide +kernel
theorem dX7_hasStamp_20 : decode cX7_hasStamp 20 = .ok (.ireturn, 1) := by decide +kernel
theorem dX7_hasNode_0 : decode cX7_hasNode 0 = .ok (.iload_n 1, 1) := by decide +kernel
theorem dX7_hasNode_1 : decode cX7_hasNode 1 = .ok (.ifCond .lt 18, 3) := by decide +kernel
theorem dX7_hasNode_4 : decode cX7_hasNode 4 = .ok (.iload_n 1, 1) := by decide +kernel
theorem dX7_hasNode_5 : decode cX7_hasNode 5 = .ok (.aload_n 0, 1) := by decide +kernel
theorem dX7_hasNode_6 : decode cX7_hasNode 6 = .ok (.getfield 35, 3) := by decide +kernel
theorem dX7_hasNode_9 : decode cX7_hasNode 9 = .ok (.invokevirtual 92, 3) := by decide +kernel
theorem dX7_hasNode_12 : decode cX7_hasNode 12 = .ok (.if_icmp .ge 7, 3) := by decide +kernel
theorem dX7_hasNode_15 : decode cX7_hasNode 15 = .ok (.iconst 1, 1) := by decide +kernel
theorem dX7_hasNode_16 : decode cX7_hasNode 16 = .ok (.goto 4, 3) := by decide +kernel
theorem dX7_hasNode_19 : decode cX7_hasNode 19 = .ok (.iconst 0, 1) := by decide +kernel
theorem dX7_hasNode_20 : decode cX7_hasNode 20 = .ok (.ireturn, 1) := by decide +kernel
theorem dX7_isIn_0 : decode cX7_isIn 0 = .ok (.iload_n 2, 1) := by decide +kernel
theorem dX7_isIn_1 : decode cX7_isIn 1 = .ok (.ifCond .lt 28, 3) := by decide +kernel
theorem dX7_isIn_4 : decode cX7_isIn 4 = .ok (.iload_n 2, 1) := by decide +kernel
theorem dX7_isIn_5 : decode cX7_isIn 5 = .ok (.bipush 8, 2) := by decide +kernel
theorem dX7_isIn_7 : decode cX7_isIn 7 = .ok (.if_icmp .ge 22, 3) := by decide +kernel
theorem dX7_isIn_10 : decode cX7_isIn 10 = .ok (.aload_n 0, 1) := by decide +kernel
theorem dX7_isIn_11 : decode cX7_isIn 11 = .ok (.getfield 20, 3) := by decide +kernel
theorem dX7_isIn_14 : decode cX7_isIn 14 = .ok (.iload_n 1, 1) := by decide +kernel
theorem dX7_isIn_15 : decode cX7_isIn 15 = .ok (.invokevirtual 96, 3) := by decide +kernel
theorem dX7_isIn_18 : decode cX7_isIn 18 = .ok (.iload_n 2, 1) := by decide +kernel
theorem dX7_isIn_19 : decode cX7_isIn 19 = .ok (.ishr, 1) := by decide +kernel
theorem dX7_isIn_20 : decode cX7_isIn 20 = .ok (.iconst 1, 1) := by decide +kernel
theorem dX7_isIn_21 : decode cX7_isIn 21 = .ok (.iand, 1) := by decide +kernel
theorem dX7_isIn_22 : decode cX7_isIn 22 = .ok (.ifCond .eq 7, 3) := by decide +kernel
theorem dX7_isIn_25 : decode cX7_isIn 25 = .ok (.iconst 1, 1) := by decide +kernel
theorem dX7_isIn_26 : decode cX7_isIn 26 = .ok (.goto 4, 3) := by decide +kernel
theorem dX7_isIn_29 : decode cX7_isIn 29 = .ok (.iconst 0, 1) := by decide +kernel
theorem dX7_isIn_30 : decode cX7_isIn 30 = .ok (.ireturn, 1) := by decide +kernel
theorem dX7_grow_0 : decode cX7_grow 0 = .ok (.iconst 0, 1) := by decide +kernel
theorem dX7_grow_1 : decode cX7_grow 1 = .ok (.istore 7, 2) := by decide +kernel
theorem dX7_grow_3 : decode cX7_grow 3 = .ok (.aload_n 1, 1) := by decide +kernel
theorem dX7_grow_4 : decode cX7_grow 4 = .ok (.getfield 100, 3) := by decide +kernel
theorem dX7_grow_7 : decode cX7_grow 7 = .ok (.invokevirtual 92, 3) := by decide +kernel
theorem dX7_grow_10 : decode cX7_grow 10 = .ok (.iconst 1, 1) := by decide +kernel
theorem dX7_grow_11 : decode cX7_grow 11 = .ok (.isub, 1) := by decide +kernel
theorem dX7_grow_12 : decode cX7_grow 12 = .ok (.istore 8, 2) := by decide +kernel
theorem dX7_grow_14 : decode cX7_grow 14 = .ok (.iload 8, 2) := by decide +kernel
theorem dX7_grow_16 : decode cX7_grow 16 = .ok (.ifCond .lt 73, 3) := by decide +kernel
theorem dX7_grow_19 : decode cX7_grow 19 = .ok (.aload_n 1, 1) := by decide +kernel
theorem dX7_grow_20 : decode cX7_grow 20 = .ok (.getfield 100, 3) := by decide +kernel
theorem dX7_grow_23 : decode cX7_grow 23 = .ok (.iload 8, 2) := by decide +kernel
theorem dX7_grow_25 : decode cX7_grow 25 = .ok (.invokevirtual 96, 3) := by decide +kernel
theorem dX7_grow_28 : decode cX7_grow 28 = .ok (.istore 9, 2) := by decide +kernel
theorem dX7_grow_30 : decode cX7_grow 30 = .ok (.aload_n 0, 1) := by decide +kernel
theorem dX7_grow_31 : decode cX7_grow 31 = .ok (.getfield 62, 3) := by decide +kernel
theorem dX7_grow_34 : decode cX7_grow 34 = .ok (.aload_n 1, 1) := by decide +kernel
theorem dX7_grow_35 : decode cX7_grow 35 = .ok (.getfield 105, 3) := by decide +kernel
theorem dX7_grow_38 : decode cX7_grow 38 = .ok (.iload 9, 2) := by decide +kernel
theorem dX7_grow_40 : decode cX7_grow 40 = .ok (.invokevirtual 96, 3) := by decide +kernel
theorem dX7_grow_43 : decode cX7_grow 43 = .ok (.invokevirtual 96, 3) := by decide +kernel
theorem dX7_grow_46 : decode cX7_grow 46 = .ok (.istore 10, 2) := by decide +kernel
theorem dX7_grow_48 : decode cX7_grow 48 = .ok (.aload_n 0, 1) := by decide +kernel
theorem dX7_grow_49 : decode cX7_grow 49 = .ok (.getfield 62, 3) := by decide +kernel
theorem dX7_grow_52 : decode cX7_grow 52 = .ok (.aload_n 1, 1) := by decide +kernel
theorem dX7_grow_53 : decode cX7_grow 53 = .ok (.getfield 108, 3) := by decide +kernel
theorem dX7_grow_56 : decode cX7_grow 56 = .ok (.iload 9, 2) := by decide +kernel
theorem dX7_grow_58 : decode cX7_grow 58 = .ok (.invokevirtual 96, 3) := by decide +kernel
theorem dX7_grow_61 : decode cX7_grow 61 = .ok (.invokevirtual 96, 3) := by decide +kernel
theorem dX7_grow_64 : decode cX7_grow 64 = .ok (.istore 11, 2) := by decide +kernel
theorem dX7_grow_66 : decode cX7_grow 66 = .ok (.iload 7, 2) := by decide +kernel
theorem dX7_grow_68 : decode cX7_grow 68 = .ok (.aload_n 0, 1) := by decide +kernel
theorem dX7_grow_69 : decode cX7_grow 69 = .ok (.iload 9, 2) := by decide +kernel
theorem dX7_grow_71 : decode cX7_grow 71 = .ok (.iload 10, 2) := by decide +kernel
theorem dX7_grow_73 : decode cX7_grow 73 = .ok (.iload 11, 2) := by decide +kernel
theorem dX7_grow_75 : decode cX7_grow 75 = .ok (.iload 6, 2) := by decide +kernel
theorem dX7_grow_77 : decode cX7_grow 77 = .ok (.invokevirtual 111, 3) := by decide +kernel
theorem dX7_grow_80 : decode cX7_grow 80 = .ok (.iadd, 1) := by decide +kernel
theorem dX7_grow_81 : decode cX7_grow 81 = .ok (.istore 7, 2) := by decide +kernel
theorem dX7_grow_83 : decode cX7_grow 83 = .ok (.iinc 8 (-1), 3) := by decide +kernel
theorem dX7_grow_86 : decode cX7_grow 86 = .ok (.goto (-72), 3) := by decide +kernel
theorem dX7_grow_89 : decode cX7_grow 89 = .ok (.aload_n 0, 1) := by decide +kernel
theorem dX7_grow_90 : decode cX7_grow 90 = .ok (.iload_n 2, 1) := by decide +kernel
theorem dX7_grow_91 : decode cX7_grow 91 = .ok (.iload_n 3, 1) := by decide +kernel
theorem dX7_grow_92 : decode cX7_grow 92 = .ok (.iload 4, 2) := by decide +kernel
theorem dX7_grow_94 : decode cX7_grow 94 = .ok (.iload 5, 2) := by decide +kernel
theorem dX7_grow_96 : decode cX7_grow 96 = .ok (.aload_n 0, 1) := by decide +kernel
theorem dX7_grow_97 : decode cX7_grow 97 = .ok (.getfield 62, 3) := by decide +kernel
theorem dX7_grow_100 : decode cX7_grow 100 = .ok (.aload_n 1, 1) := by decide +kernel
theorem dX7_grow_101 : decode cX7_grow 101 = .ok (.getfield 115, 3) := by decide +kernel
theorem dX7_grow_104 : decode cX7_grow 104 = .ok (.invokevirtual 96, 3) := by decide +kernel
theorem dX7_grow_107 : decode cX7_grow 107 = .ok (.iload 7, 2) := by decide +kernel
theorem dX7_grow_109 : decode cX7_grow 109 = .ok (.invokevirtual 78, 3) := by decide +kernel
theorem dX7_grow_112 : decode cX7_grow 112 = .ok (.iconst 0, 1) := by decide +kernel
theorem dX7_grow_113 : decode cX7_grow 113 = .ok (.istore 8, 2) := by decide +kernel
theorem dX7_grow_115 : decode cX7_grow 115 = .ok (.iload 8, 2) := by decide +kernel
theorem dX7_grow_117 : decode cX7_grow 117 = .ok (.bipush 8, 2) := by decide +kernel
theorem dX7_grow_119 : decode cX7_grow 119 = .ok (.if_icmp .ge 32, 3) := by decide +kernel
theorem dX7_grow_122 : decode cX7_grow 122 = .ok (.aload_n 0, 1) := by decide +kernel
theorem dX7_grow_123 : decode cX7_grow 123 = .ok (.aload_n 0, 1) := by decide +kernel
theorem dX7_grow_124 : decode cX7_grow 124 = .ok (.invokevirtual 118, 3) := by decide +kernel
theorem dX7_grow_127 : decode cX7_grow 127 = .ok (.iload 8, 2) := by decide +kernel
theorem dX7_grow_129 : decode cX7_grow 129 = .ok (.invokevirtual 121, 3) := by decide +kernel
theorem dX7_grow_132 : decode cX7_grow 132 = .ok (.ifCond .ne 13, 3) := by decide +kernel
theorem dX7_grow_135 : decode cX7_grow 135 = .ok (.aload_n 0, 1) := by decide +kernel
theorem dX7_grow_136 : decode cX7_grow 136 = .ok (.getfield 62, 3) := by decide +kernel
theorem dX7_grow_139 : decode cX7_grow 139 = .ok (.iload 8, 2) := by decide +kernel
theorem dX7_grow_141 : decode cX7_grow 141 = .ok (.iconst (-1), 1) := by decide +kernel
theorem dX7_grow_142 : decode cX7_grow 142 = .ok (.invokevirtual 125, 3) := by decide +kernel
theorem dX7_grow_145 : decode cX7_grow 145 = .ok (.iinc 8 1, 3) := by decide +kernel
theorem dX7_grow_148 : decode cX7_grow 148 = .ok (.goto (-33), 3) := by decide +kernel
theorem dX7_grow_151 : decode cX7_grow 151 = .ok (.return_, 1) := by decide +kernel
theorem dX7_adapt_0 : decode cX7_adapt 0 = .ok (.aload_n 0, 1) := by decide +kernel
theorem dX7_adapt_1 : decode cX7_adapt 1 = .ok (.invokevirtual 118, 3) := by decide +kernel
theorem dX7_adapt_4 : decode cX7_adapt 4 = .ok (.istore 5, 2) := by decide +kernel
theorem dX7_adapt_6 : decode cX7_adapt 6 = .ok (.aload_n 0, 1) := by decide +kernel
theorem dX7_adapt_7 : decode cX7_adapt 7 = .ok (.iload 5, 2) := by decide +kernel
theorem dX7_adapt_9 : decode cX7_adapt 9 = .ok (.iload_n 1, 1) := by decide +kernel
theorem dX7_adapt_10 : decode cX7_adapt 10 = .ok (.invokevirtual 121, 3) := by decide +kernel
theorem dX7_adapt_13 : decode cX7_adapt 13 = .ok (.ifCond .ne 13, 3) := by decide +kernel
theorem dX7_adapt_16 : decode cX7_adapt 16 = .ok (.aload_n 0, 1) := by decide +kernel
theorem dX7_adapt_17 : decode cX7_adapt 17 = .ok (.iload_n 1, 1) := by decide +kernel
theorem dX7_adapt_18 : decode cX7_adapt 18 = .ok (.iload_n 2, 1) := by decide +kernel
theorem dX7_adapt_19 : decode cX7_adapt 19 = .ok (.iload_n 3, 1) := by decide +kernel
theorem dX7_adapt_20 : decode cX7_adapt 20 = .ok (.iconst 0, 1) := by decide +kernel
theorem dX7_adapt_21 : decode cX7_adapt 21 = .ok (.invokevirtual 128, 3) := by decide +kernel
theorem dX7_adapt_24 : decode cX7_adapt 24 = .ok (.iconst 1, 1) := by decide +kernel
theorem dX7_adapt_25 : decode cX7_adapt 25 = .ok (.ireturn, 1) := by decide +kernel
theorem dX7_adapt_26 : decode cX7_adapt 26 = .ok (.aload_n 0, 1) := by decide +kernel
theorem dX7_adapt_27 : decode cX7_adapt 27 = .ok (.getfield 62, 3) := by decide +kernel
theorem dX7_adapt_30 : decode cX7_adapt 30 = .ok (.iload_n 1, 1) := by decide +kernel
theorem dX7_adapt_31 : decode cX7_adapt 31 = .ok (.invokevirtual 96, 3) := by decide +kernel
theorem dX7_adapt_34 : decode cX7_adapt 34 = .ok (.istore 6, 2) := by decide +kernel
theorem dX7_adapt_36 : decode cX7_adapt 36 = .ok (.aload_n 0, 1) := by decide +kernel
theorem dX7_adapt_37 : decode cX7_adapt 37 = .ok (.iload 6, 2) := by decide +kernel
theorem dX7_adapt_39 : decode cX7_adapt 39 = .ok (.iconst 0, 1) := by decide +kernel
theorem dX7_adapt_40 : decode cX7_adapt 40 = .ok (.iload 5, 2) := by decide +kernel
theorem dX7_adapt_42 : decode cX7_adapt 42 = .ok (.invokevirtual 132, 3) := by decide +kernel
theorem dX7_adapt_45 : decode cX7_adapt 45 = .ok (.iload_n 2, 1) := by decide +kernel
theorem dX7_adapt_46 : decode cX7_adapt 46 = .ok (.if_icmp .eq 7, 3) := by decide +kernel
theorem dX7_adapt_49 : decode cX7_adapt 49 = .ok (.iconst 1, 1) := by decide +kernel
theorem dX7_adapt_50 : decode cX7_adapt 50 = .ok (.goto 4, 3) := by decide +kernel
theorem dX7_adapt_53 : decode cX7_adapt 53 = .ok (.iconst 0, 1) := by decide +kernel
theorem dX7_adapt_54 : decode cX7_adapt 54 = .ok (.istore 7, 2) := by decide +kernel
theorem dX7_adapt_56 : decode cX7_adapt 56 = .ok (.aload_n 0, 1) := by decide +kernel
theorem dX7_adapt_57 : decode cX7_adapt 57 = .ok (.iload 6, 2) := by decide +kernel
theorem dX7_adapt_59 : decode cX7_adapt 59 = .ok (.iconst 1, 1) := by decide +kernel
theorem dX7_adapt_60 : decode cX7_adapt 60 = .ok (.iload 5, 2) := by decide +kernel
theorem dX7_adapt_62 : decode cX7_adapt 62 = .ok (.invokevirtual 132, 3) := by decide +kernel
theorem dX7_adapt_65 : decode cX7_adapt 65 = .ok (.iload_n 3, 1) := by decide +kernel
theorem dX7_adapt_66 : decode cX7_adapt 66 = .ok (.if_icmp .eq 7, 3) := by decide +kernel
theorem dX7_adapt_69 : decode cX7_adapt 69 = .ok (.iconst 1, 1) := by decide +kernel
theorem dX7_adapt_70 : decode cX7_adapt 70 = .ok (.goto 4, 3) := by decide +kernel
theorem dX7_adapt_73 : decode cX7_adapt 73 = .ok (.iconst 0, 1) := by decide +kernel
theorem dX7_adapt_74 : decode cX7_adapt 74 = .ok (.istore 8, 2) := by decide +kernel
theorem dX7_adapt_76 : decode cX7_adapt 76 = .ok (.iload 7, 2) := by decide +kernel
theorem dX7_adapt_78 : decode cX7_adapt 78 = .ok (.ifCond .eq 7, 3) := by decide +kernel
theorem dX7_adapt_81 : decode cX7_adapt 81 = .ok (.iconst 1, 1) := by decide +kernel
theorem dX7_adapt_82 : decode cX7_adapt 82 = .ok (.goto 4, 3) := by decide +kernel
theorem dX7_adapt_85 : decode cX7_adapt 85 = .ok (.iconst 0, 1) := by decide +kernel
theorem dX7_adapt_86 : decode cX7_adapt 86 = .ok (.iload 8, 2) := by decide +kernel
theorem dX7_adapt_88 : decode cX7_adapt 88 = .ok (.ifCond .eq 7, 3) := by decide +kernel
theorem dX7_adapt_91 : decode cX7_adapt 91 = .ok (.iconst 1, 1) := by decide +kernel
theorem dX7_adapt_92 : decode cX7_adapt 92 = .ok (.goto 4, 3) := by decide +kernel
theorem dX7_adapt_95 : decode cX7_adapt 95 = .ok (.iconst 0, 1) := by decide +kernel
theorem dX7_adapt_96 : decode cX7_adapt 96 = .ok (.iadd, 1) := by decide +kernel
theorem dX7_adapt_97 : decode cX7_adapt 97 = .ok (.istore 9, 2) := by decide +kernel
theorem dX7_adapt_99 : decode cX7_adapt 99 = .ok (.iload 9, 2) := by decide +kernel
theorem dX7_adapt_101 : decode cX7_adapt 101 = .ok (.ifCond .le 30, 3) := by decide +kernel
theorem dX7_adapt_104 : decode cX7_adapt 104 = .ok (.aload_n 0, 1) := by decide +kernel
theorem dX7_adapt_105 : decode cX7_adapt 105 = .ok (.getfield 47, 3) := by decide +kernel
theorem dX7_adapt_108 : decode cX7_adapt 108 = .ok (.iload 6, 2) := by decide +kernel
theorem dX7_adapt_110 : decode cX7_adapt 110 = .ok (.invokevirtual 96, 3) := by decide +kernel
theorem dX7_adapt_113 : decode cX7_adapt 113 = .ok (.iload 9, 2) := by decide +kernel
theorem dX7_adapt_115 : decode cX7_adapt 115 = .ok (.iadd, 1) := by decide +kernel
theorem dX7_adapt_116 : decode cX7_adapt 116 = .ok (.iload 4, 2) := by decide +kernel
theorem dX7_adapt_118 : decode cX7_adapt 118 = .ok (.if_icmp .le 13, 3) := by decide +kernel
theorem dX7_adapt_121 : decode cX7_adapt 121 = .ok (.aload_n 0, 1) := by decide +kernel
theorem dX7_adapt_122 : decode cX7_adapt 122 = .ok (.iload_n 1, 1) := by decide +kernel
theorem dX7_adapt_123 : decode cX7_adapt 123 = .ok (.iload_n 2, 1) := by decide +kernel
theorem dX7_adapt_124 : decode cX7_adapt 124 = .ok (.iload_n 3, 1) := by decide +kernel
theorem dX7_adapt_125 : decode cX7_adapt 125 = .ok (.iconst 1, 1) := by decide +kernel
theorem dX7_adapt_126 : decode cX7_adapt 126 = .ok (.invokevirtual 128, 3) := by decide +kernel
theorem dX7_adapt_129 : decode cX7_adapt 129 = .ok (.iconst 1, 1) := by decide +kernel
theorem dX7_adapt_130 : decode cX7_adapt 130 = .ok (.ireturn, 1) := by decide +kernel
theorem dX7_adapt_131 : decode cX7_adapt 131 = .ok (.iload 7, 2) := by decide +kernel
theorem dX7_adapt_133 : decode cX7_adapt 133 = .ok (.ifCond .eq 11, 3) := by decide +kernel
theorem dX7_adapt_136 : decode cX7_adapt 136 = .ok (.aload_n 0, 1) := by decide +kernel
theorem dX7_adapt_137 : decode cX7_adapt 137 = .ok (.iload 6, 2) := by decide +kernel
theorem dX7_adapt_139 : decode cX7_adapt 139 = .ok (.iconst 0, 1) := by decide +kernel
theorem dX7_adapt_140 : decode cX7_adapt 140 = .ok (.iload_n 2, 1) := by decide +kernel
theorem dX7_adapt_141 : decode cX7_adapt 141 = .ok (.invokevirtual 136, 3) := by decide +kernel
theorem dX7_adapt_144 : decode cX7_adapt 144 = .ok (.iload 8, 2) := by decide +kernel
theorem dX7_adapt_146 : decode cX7_adapt 146 = .ok (.ifCond .eq 11, 3) := by decide +kernel
theorem dX7_adapt_149 : decode cX7_adapt 149 = .ok (.aload_n 0, 1) := by decide +kernel
theorem dX7_adapt_150 : decode cX7_adapt 150 = .ok (.iload 6, 2) := by decide +kernel
theorem dX7_adapt_152 : decode cX7_adapt 152 = .ok (.iconst 1, 1) := by decide +kernel
theorem dX7_adapt_153 : decode cX7_adapt 153 = .ok (.iload_n 3, 1) := by decide +kernel
theorem dX7_adapt_154 : decode cX7_adapt 154 = .ok (.invokevirtual 136, 3) := by decide +kernel
theorem dX7_adapt_157 : decode cX7_adapt 157 = .ok (.iload 9, 2) := by decide +kernel
theorem dX7_adapt_159 : decode cX7_adapt 159 = .ok (.ireturn, 1) := by decide +kernel
theorem dX7_make_0 : decode cX7_make 0 = .ok (.aload_n 0, 1) := by decide +kernel
theorem dX7_make_1 : decode cX7_make 1 = .ok (.getfield 62, 3) := by decide +kernel
theorem dX7_make_4 : decode cX7_make 4 = .ok (.iload_n 1, 1) := by decide +kernel
theorem dX7_make_5 : decode cX7_make 5 = .ok (.aload_n 0, 1) := by decide +kernel
theorem dX7_make_6 : decode cX7_make 6 = .ok (.getfield 35, 3) := by decide +kernel
theorem dX7_make_9 : decode cX7_make 9 = .ok (.invokevirtual 92, 3) := by decide +kernel
theorem dX7_make_12 : decode cX7_make 12 = .ok (.invokevirtual 125, 3) := by decide +kernel
theorem dX7_make_15 : decode cX7_make 15 = .ok (.aload_n 0, 1) := by decide +kernel
theorem dX7_make_16 : decode cX7_make 16 = .ok (.getfield 35, 3) := by decide +kernel
theorem dX7_make_19 : decode cX7_make 19 = .ok (.iload_n 1, 1) := by decide +kernel
theorem dX7_make_20 : decode cX7_make 20 = .ok (.invokevirtual 82, 3) := by decide +kernel
theorem dX7_make_23 : decode cX7_make 23 = .ok (.aload_n 0, 1) := by decide +kernel
theorem dX7_make_24 : decode cX7_make 24 = .ok (.getfield 38, 3) := by decide +kernel
theorem dX7_make_27 : decode cX7_make 27 = .ok (.aload_n 0, 1) := by decide +kernel
theorem dX7_make_28 : decode cX7_make 28 = .ok (.invokevirtual 118, 3) := by decide +kernel
theorem dX7_make_31 : decode cX7_make 31 = .ok (.iconst 1, 1) := by decide +kernel
theorem dX7_make_32 : decode cX7_make 32 = .ok (.iadd, 1) := by decide +kernel
theorem dX7_make_33 : decode cX7_make 33 = .ok (.invokevirtual 82, 3) := by decide +kernel
theorem dX7_make_36 : decode cX7_make 36 = .ok (.aload_n 0, 1) := by decide +kernel
theorem dX7_make_37 : decode cX7_make 37 = .ok (.getfield 41, 3) := by decide +kernel
theorem dX7_make_40 : decode cX7_make 40 = .ok (.iload_n 2, 1) := by decide +kernel
theorem dX7_make_41 : decode cX7_make 41 = .ok (.invokevirtual 82, 3) := by decide +kernel
theorem dX7_make_44 : decode cX7_make 44 = .ok (.aload_n 0, 1) := by decide +kernel
theorem dX7_make_45 : decode cX7_make 45 = .ok (.getfield 44, 3) := by decide +kernel
theorem dX7_make_48 : decode cX7_make 48 = .ok (.iload_n 3, 1) := by decide +kernel
theorem dX7_make_49 : decode cX7_make 49 = .ok (.invokevirtual 82, 3) := by decide +kernel
theorem dX7_make_52 : decode cX7_make 52 = .ok (.aload_n 0, 1) := by decide +kernel
theorem dX7_make_53 : decode cX7_make 53 = .ok (.getfield 47, 3) := by decide +kernel
theorem dX7_make_56 : decode cX7_make 56 = .ok (.iconst 0, 1) := by decide +kernel
theorem dX7_make_57 : decode cX7_make 57 = .ok (.invokevirtual 82, 3) := by decide +kernel
theorem dX7_make_60 : decode cX7_make 60 = .ok (.aload_n 0, 1) := by decide +kernel
theorem dX7_make_61 : decode cX7_make 61 = .ok (.getfield 50, 3) := by decide +kernel
theorem dX7_make_64 : decode cX7_make 64 = .ok (.iload 4, 2) := by decide +kernel
theorem dX7_make_66 : decode cX7_make 66 = .ok (.invokevirtual 82, 3) := by decide +kernel
theorem dX7_make_69 : decode cX7_make 69 = .ok (.iconst 0, 1) := by decide +kernel
theorem dX7_make_70 : decode cX7_make 70 = .ok (.istore 5, 2) := by decide +kernel
theorem dX7_make_72 : decode cX7_make 72 = .ok (.iload 5, 2) := by decide +kernel
theorem dX7_make_74 : decode cX7_make 74 = .ok (.bipush 6, 2) := by decide +kernel
theorem dX7_make_76 : decode cX7_make 76 = .ok (.if_icmp .ge 33, 3) := by decide +kernel
theorem dX7_make_79 : decode cX7_make 79 = .ok (.aload_n 0, 1) := by decide +kernel
theorem dX7_make_80 : decode cX7_make 80 = .ok (.getfield 53, 3) := by decide +kernel
theorem dX7_make_83 : decode cX7_make 83 = .ok (.iconst (-1), 1) := by decide +kernel
theorem dX7_make_84 : decode cX7_make 84 = .ok (.invokevirtual 82, 3) := by decide +kernel
theorem dX7_make_87 : decode cX7_make 87 = .ok (.aload_n 0, 1) := by decide +kernel
theorem dX7_make_88 : decode cX7_make 88 = .ok (.getfield 56, 3) := by decide +kernel
theorem dX7_make_91 : decode cX7_make 91 = .ok (.iconst (-1), 1) := by decide +kernel
theorem dX7_make_92 : decode cX7_make 92 = .ok (.invokevirtual 82, 3) := by decide +kernel
theorem dX7_make_95 : decode cX7_make 95 = .ok (.aload_n 0, 1) := by decide +kernel
theorem dX7_make_96 : decode cX7_make 96 = .ok (.getfield 59, 3) := by decide +kernel
theorem dX7_make_99 : decode cX7_make 99 = .ok (.iconst (-1), 1) := by decide +kernel
theorem dX7_make_100 : decode cX7_make 100 = .ok (.invokevirtual 82, 3) := by decide +kernel
theorem dX7_make_103 : decode cX7_make 103 = .ok (.iinc 5 1, 3) := by decide +kernel
theorem dX7_make_106 : decode cX7_make 106 = .ok (.goto (-34), 3) := by decide +kernel
theorem dX7_make_109 : decode cX7_make 109 = .ok (.return_, 1) := by decide +kernel
theorem dX7_write_0 : decode cX7_write 0 = .ok (.iload_n 1, 1) := by decide +kernel
theorem dX7_write_1 : decode cX7_write 1 = .ok (.bipush 6, 2) := by decide +kernel
theorem dX7_write_3 : decode cX7_write 3 = .ok (.imul, 1) := by decide +kernel
theorem dX7_write_4 : decode cX7_write 4 = .ok (.aload_n 0, 1) := by decide +kernel
theorem dX7_write_5 : decode cX7_write 5 = .ok (.getfield 47, 3) := by decide +kernel
theorem dX7_write_8 : decode cX7_write 8 = .ok (.iload_n 1, 1) := by decide +kernel
theorem dX7_write_9 : decode cX7_write 9 = .ok (.invokevirtual 96, 3) := by decide +kernel
theorem dX7_write_12 : decode cX7_write 12 = .ok (.iadd, 1) := by decide +kernel
theorem dX7_write_13 : decode cX7_write 13 = .ok (.istore 4, 2) := by decide +kernel
theorem dX7_write_15 : decode cX7_write 15 = .ok (.aload_n 0, 1) := by decide +kernel
theorem dX7_write_16 : decode cX7_write 16 = .ok (.getfield 53, 3) := by decide +kernel
theorem dX7_write_19 : decode cX7_write 19 = .ok (.iload 4, 2) := by decide +kernel
theorem dX7_write_21 : decode cX7_write 21 = .ok (.aload_n 0, 1) := by decide +kernel
theorem dX7_write_22 : decode cX7_write 22 = .ok (.invokevirtual 118, 3) := by decide +kernel
theorem dX7_write_25 : decode cX7_write 25 = .ok (.iconst 1, 1) := by decide +kernel
theorem dX7_write_26 : decode cX7_write 26 = .ok (.iadd, 1) := by decide +kernel
theorem dX7_write_27 : decode cX7_write 27 = .ok (.invokevirtual 125, 3) := by decide +kernel
theorem dX7_write_30 : decode cX7_write 30 = .ok (.aload_n 0, 1) := by decide +kernel
theorem dX7_write_31 : decode cX7_write 31 = .ok (.getfield 56, 3) := by decide +kernel
theorem dX7_write_34 : decode cX7_write 34 = .ok (.iload 4, 2) := by decide +kernel
theorem dX7_write_36 : decode cX7_write 36 = .ok (.iload_n 2, 1) := by decide +kernel
theorem dX7_write_37 : decode cX7_write 37 = .ok (.invokevirtual 125, 3) := by decide +kernel
theorem dX7_write_40 : decode cX7_write 40 = .ok (.aload_n 0, 1) := by decide +kernel
theorem dX7_write_41 : decode cX7_write 41 = .ok (.getfield 59, 3) := by decide +kernel
theorem dX7_write_44 : decode cX7_write 44 = .ok (.iload 4, 2) := by decide +kernel
theorem dX7_write_46 : decode cX7_write 46 = .ok (.iload_n 3, 1) := by decide +kernel
theorem dX7_write_47 : decode cX7_write 47 = .ok (.invokevirtual 125, 3) := by decide +kernel
theorem dX7_write_50 : decode cX7_write 50 = .ok (.aload_n 0, 1) := by decide +kernel
theorem dX7_write_51 : decode cX7_write 51 = .ok (.getfield 47, 3) := by decide +kernel
theorem dX7_write_54 : decode cX7_write 54 = .ok (.iload_n 1, 1) := by decide +kernel
theorem dX7_write_55 : decode cX7_write 55 = .ok (.aload_n 0, 1) := by decide +kernel
theorem dX7_write_56 : decode cX7_write 56 = .ok (.getfield 47, 3) := by decide +kernel
theorem dX7_write_59 : decode cX7_write 59 = .ok (.iload_n 1, 1) := by decide +kernel
theorem dX7_write_60 : decode cX7_write 60 = .ok (.invokevirtual 96, 3) := by decide +kernel
theorem dX7_write_63 : decode cX7_write 63 = .ok (.iconst 1, 1) := by decide +kernel
theorem dX7_write_64 : decode cX7_write 64 = .ok (.iadd, 1) := by decide +kernel
theorem dX7_write_65 : decode cX7_write 65 = .ok (.invokevirtual 125, 3) := by decide +kernel
theorem dX7_write_68 : decode cX7_write 68 = .ok (.return_, 1) := by decide +kernel
theorem dX7_childOf_0 : decode cX7_childOf 0 = .ok (.aload_n 0, 1) := by decide +kernel
theorem dX7_childOf_1 : decode cX7_childOf 1 = .ok (.getfield 47, 3) := by decide +kernel
theorem dX7_childOf_4 : decode cX7_childOf 4 = .ok (.iload_n 1, 1) := by decide +kernel
theorem dX7_childOf_5 : decode cX7_childOf 5 = .ok (.invokevirtual 96, 3) := by decide +kernel
theorem dX7_childOf_8 : decode cX7_childOf 8 = .ok (.iconst 1, 1) := by decide +kernel
theorem dX7_childOf_9 : decode cX7_childOf 9 = .ok (.isub, 1) := by decide +kernel
theorem dX7_childOf_10 : decode cX7_childOf 10 = .ok (.istore 4, 2) := by decide +kernel
theorem dX7_childOf_12 : decode cX7_childOf 12 = .ok (.iload 4, 2) := by decide +kernel
theorem dX7_childOf_14 : decode cX7_childOf 14 = .ok (.ifCond .lt 54, 3) := by decide +kernel
theorem dX7_childOf_17 : decode cX7_childOf 17 = .ok (.iload_n 1, 1) := by decide +kernel
theorem dX7_childOf_18 : decode cX7_childOf 18 = .ok (.bipush 6, 2) := by decide +kernel
theorem dX7_childOf_20 : decode cX7_childOf 20 = .ok (.imul, 1) := by decide +kernel
theorem dX7_childOf_21 : decode cX7_childOf 21 = .ok (.iload 4, 2) := by decide +kernel
theorem dX7_childOf_23 : decode cX7_childOf 23 = .ok (.iadd, 1) := by decide +kernel
theorem dX7_childOf_24 : decode cX7_childOf 24 = .ok (.istore 5, 2) := by decide +kernel
theorem dX7_childOf_26 : decode cX7_childOf 26 = .ok (.aload_n 0, 1) := by decide +kernel
theorem dX7_childOf_27 : decode cX7_childOf 27 = .ok (.getfield 56, 3) := by decide +kernel
theorem dX7_childOf_30 : decode cX7_childOf 30 = .ok (.iload 5, 2) := by decide +kernel
theorem dX7_childOf_32 : decode cX7_childOf 32 = .ok (.invokevirtual 96, 3) := by decide +kernel
theorem dX7_childOf_35 : decode cX7_childOf 35 = .ok (.iload_n 2, 1) := by decide +kernel
theorem dX7_childOf_36 : decode cX7_childOf 36 = .ok (.if_icmp .ne 26, 3) := by decide +kernel
theorem dX7_childOf_39 : decode cX7_childOf 39 = .ok (.aload_n 0, 1) := by decide +kernel
theorem dX7_childOf_40 : decode cX7_childOf 40 = .ok (.getfield 53, 3) := by decide +kernel
theorem dX7_childOf_43 : decode cX7_childOf 43 = .ok (.iload 5, 2) := by decide +kernel
theorem dX7_childOf_45 : decode cX7_childOf 45 = .ok (.invokevirtual 96, 3) := by decide +kernel
theorem dX7_childOf_48 : decode cX7_childOf 48 = .ok (.iload_n 3, 1) := by decide +kernel
theorem dX7_childOf_49 : decode cX7_childOf 49 = .ok (.if_icmp .gt 13, 3) := by decide +kernel
theorem dX7_childOf_52 : decode cX7_childOf 52 = .ok (.aload_n 0, 1) := by decide +kernel
theorem dX7_childOf_53 : decode cX7_childOf 53 = .ok (.getfield 59, 3) := by decide +kernel
theorem dX7_childOf_56 : decode cX7_childOf 56 = .ok (.iload 5, 2) := by decide +kernel
theorem dX7_childOf_58 : decode cX7_childOf 58 = .ok (.invokevirtual 96, 3) := by decide +kernel
theorem dX7_childOf_61 : decode cX7_childOf 61 = .ok (.ireturn, 1) := by decide +kernel
theorem dX7_childOf_62 : decode cX7_childOf 62 = .ok (.iinc 4 (-1), 3) := by decide +kernel
theorem dX7_childOf_65 : decode cX7_childOf 65 = .ok (.goto (-53), 3) := by decide +kernel
theorem dX7_childOf_68 : decode cX7_childOf 68 = .ok (.iload_n 2, 1) := by decide +kernel
theorem dX7_childOf_69 : decode cX7_childOf 69 = .ok (.ifCond .ne 14, 3) := by decide +kernel
theorem dX7_childOf_72 : decode cX7_childOf 72 = .ok (.aload_n 0, 1) := by decide +kernel
theorem dX7_childOf_73 : decode cX7_childOf 73 = .ok (.getfield 41, 3) := by decide +kernel
theorem dX7_childOf_76 : decode cX7_childOf 76 = .ok (.iload_n 1, 1) := by decide +kernel
theorem dX7_childOf_77 : decode cX7_childOf 77 = .ok (.invokevirtual 96, 3) := by decide +kernel
theorem dX7_childOf_80 : decode cX7_childOf 80 = .ok (.goto 11, 3) := by decide +kernel
theorem dX7_childOf_83 : decode cX7_childOf 83 = .ok (.aload_n 0, 1) := by decide +kernel
theorem dX7_childOf_84 : decode cX7_childOf 84 = .ok (.getfield 44, 3) := by decide +kernel
theorem dX7_childOf_87 : decode cX7_childOf 87 = .ok (.iload_n 1, 1) := by decide +kernel
theorem dX7_childOf_88 : decode cX7_childOf 88 = .ok (.invokevirtual 96, 3) := by decide +kernel
theorem dX7_childOf_91 : decode cX7_childOf 91 = .ok (.ireturn, 1) := by decide +kernel
theorem dX7_shrink_0 : decode cX7_shrink 0 = .ok (.aload_n 0, 1) := by decide +kernel
theorem dX7_shrink_1 : decode cX7_shrink 1 = .ok (.invokevirtual 118, 3) := by decide +kernel
theorem dX7_shrink_4 : decode cX7_shrink 4 = .ok (.istore_n 1, 1) := by decide +kernel
theorem dX7_shrink_5 : decode cX7_shrink 5 = .ok (.iload_n 1, 1) := by decide +kernel
theorem dX7_shrink_6 : decode cX7_shrink 6 = .ok (.iconst 1, 1) := by decide +kernel
theorem dX7_shrink_7 : decode cX7_shrink 7 = .ok (.if_icmp .ge 4, 3) := by decide +kernel
theorem dX7_shrink_10 : decode cX7_shrink 10 = .ok (.return_, 1) := by decide +kernel
theorem dX7_shrink_11 : decode cX7_shrink 11 = .ok (.iconst 0, 1) := by decide +kernel
theorem dX7_shrink_12 : decode cX7_shrink 12 = .ok (.istore_n 2, 1) := by decide +kernel
theorem dX7_shrink_13 : decode cX7_shrink 13 = .ok (.iload_n 2, 1) := by decide +kernel
theorem dX7_shrink_14 : decode cX7_shrink 14 = .ok (.aload_n 0, 1) := by decide +kernel
theorem dX7_shrink_15 : decode cX7_shrink 15 = .ok (.getfield 38, 3) := by decide +kernel
theorem dX7_shrink_18 : decode cX7_shrink 18 = .ok (.invokevirtual 92, 3) := by decide +kernel
theorem dX7_shrink_21 : decode cX7_shrink 21 = .ok (.if_icmp .ge 21, 3) := by decide +kernel
theorem dX7_shrink_24 : decode cX7_shrink 24 = .ok (.aload_n 0, 1) := by decide +kernel
theorem dX7_shrink_25 : decode cX7_shrink 25 = .ok (.getfield 38, 3) := by decide +kernel
theorem dX7_shrink_28 : decode cX7_shrink 28 = .ok (.iload_n 2, 1) := by decide +kernel
theorem dX7_shrink_29 : decode cX7_shrink 29 = .ok (.invokevirtual 96, 3) := by decide +kernel
theorem dX7_shrink_32 : decode cX7_shrink 32 = .ok (.iload_n 1, 1) := by decide +kernel
theorem dX7_shrink_33 : decode cX7_shrink 33 = .ok (.if_icmp .ge 9, 3) := by decide +kernel
theorem dX7_shrink_36 : decode cX7_shrink 36 = .ok (.iinc 2 1, 3) := by decide +kernel
theorem dX7_shrink_39 : decode cX7_shrink 39 = .ok (.goto (-26), 3) := by decide +kernel
theorem dX7_shrink_42 : decode cX7_shrink 42 = .ok (.aload_n 0, 1) := by decide +kernel
theorem dX7_shrink_43 : decode cX7_shrink 43 = .ok (.iload_n 2, 1) := by decide +kernel
theorem dX7_shrink_44 : decode cX7_shrink 44 = .ok (.invokevirtual 71, 3) := by decide +kernel
theorem dX7_shrink_47 : decode cX7_shrink 47 = .ok (.iconst 0, 1) := by decide +kernel
theorem dX7_shrink_48 : decode cX7_shrink 48 = .ok (.istore_n 3, 1) := by decide +kernel
theorem dX7_shrink_49 : decode cX7_shrink 49 = .ok (.iload_n 3, 1) := by decide +kernel
theorem dX7_shrink_50 : decode cX7_shrink 50 = .ok (.iload_n 2, 1) := by decide +kernel
theorem dX7_shrink_51 : decode cX7_shrink 51 = .ok (.if_icmp .ge 23, 3) := by decide +kernel
theorem dX7_shrink_54 : decode cX7_shrink 54 = .ok (.aload_n 0, 1) := by decide +kernel
theorem dX7_shrink_55 : decode cX7_shrink 55 = .ok (.getfield 47, 3) := by decide +kernel
theorem dX7_shrink_58 : decode cX7_shrink 58 = .ok (.iload_n 3, 1) := by decide +kernel
theorem dX7_shrink_59 : decode cX7_shrink 59 = .ok (.aload_n 0, 1) := by decide +kernel
theorem dX7_shrink_60 : decode cX7_shrink 60 = .ok (.iload_n 3, 1) := by decide +kernel
theorem dX7_shrink_61 : decode cX7_shrink 61 = .ok (.iload_n 1, 1) := by decide +kernel
theorem dX7_shrink_62 : decode cX7_shrink 62 = .ok (.invokevirtual 140, 3) := by decide +kernel
theorem dX7_shrink_65 : decode cX7_shrink 65 = .ok (.invokevirtual 125, 3) := by decide +kernel
theorem dX7_shrink_68 : decode cX7_shrink 68 = .ok (.iinc 3 1, 3) := by decide +kernel
theorem dX7_shrink_71 : decode cX7_shrink 71 = .ok (.goto (-22), 3) := by decide +kernel
theorem dX7_shrink_74 : decode cX7_shrink 74 = .ok (.aload_n 0, 1) := by decide +kernel
theorem dX7_shrink_75 : decode cX7_shrink 75 = .ok (.iload_n 1, 1) := by decide +kernel
theorem dX7_shrink_76 : decode cX7_shrink 76 = .ok (.invokevirtual 68, 3) := by decide +kernel
theorem dX7_shrink_79 : decode cX7_shrink 79 = .ok (.iconst 0, 1) := by decide +kernel
theorem dX7_shrink_80 : decode cX7_shrink 80 = .ok (.istore_n 3, 1) := by decide +kernel
theorem dX7_shrink_81 : decode cX7_shrink 81 = .ok (.iload_n 3, 1) := by decide +kernel
theorem dX7_shrink_82 : decode cX7_shrink 82 = .ok (.bipush 8, 2) := by decide +kernel
theorem dX7_shrink_84 : decode cX7_shrink 84 = .ok (.if_icmp .ge 25, 3) := by decide +kernel
theorem dX7_shrink_87 : decode cX7_shrink 87 = .ok (.aload_n 0, 1) := by decide +kernel
theorem dX7_shrink_88 : decode cX7_shrink 88 = .ok (.getfield 62, 3) := by decide +kernel
theorem dX7_shrink_91 : decode cX7_shrink 91 = .ok (.iload_n 3, 1) := by decide +kernel
theorem dX7_shrink_92 : decode cX7_shrink 92 = .ok (.aload_n 0, 1) := by decide +kernel
theorem dX7_shrink_93 : decode cX7_shrink 93 = .ok (.iload_n 3, 1) := by decide +kernel
theorem dX7_shrink_94 : decode cX7_shrink 94 = .ok (.iload_n 1, 1) := by decide +kernel
theorem dX7_shrink_95 : decode cX7_shrink 95 = .ok (.iconst 1, 1) := by decide +kernel
theorem dX7_shrink_96 : decode cX7_shrink 96 = .ok (.isub, 1) := by decide +kernel
theorem dX7_shrink_97 : decode cX7_shrink 97 = .ok (.invokevirtual 144, 3) := by decide +kernel
theorem dX7_shrink_100 : decode cX7_shrink 100 = .ok (.invokevirtual 125, 3) := by decide +kernel
theorem dX7_shrink_103 : decode cX7_shrink 103 = .ok (.iinc 3 1, 3) := by decide +kernel
theorem dX7_shrink_106 : decode cX7_shrink 106 = .ok (.goto (-25), 3) := by decide +kernel
theorem dX7_shrink_109 : decode cX7_shrink 109 = .ok (.return_, 1) := by decide +kernel
theorem dX7_usedAhead_0 : decode cX7_usedAhead 0 = .ok (.iconst 0, 1) := by decide +kernel
theorem dX7_usedAhead_1 : decode cX7_usedAhead 1 = .ok (.istore_n 3, 1) := by decide +kernel
theorem dX7_usedAhead_2 : decode cX7_usedAhead 2 = .ok (.iload_n 3, 1) := by decide +kernel
theorem dX7_usedAhead_3 : decode cX7_usedAhead 3 = .ok (.aload_n 0, 1) := by decide +kernel
theorem dX7_usedAhead_4 : decode cX7_usedAhead 4 = .ok (.getfield 47, 3) := by decide +kernel
theorem dX7_usedAhead_7 : decode cX7_usedAhead 7 = .ok (.iload_n 1, 1) := by decide +kernel
theorem dX7_usedAhead_8 : decode cX7_usedAhead 8 = .ok (.invokevirtual 96, 3) := by decide +kernel
theorem dX7_usedAhead_11 : decode cX7_usedAhead 11 = .ok (.if_icmp .ge 26, 3) := by decide +kernel
theorem dX7_usedAhead_14 : decode cX7_usedAhead 14 = .ok (.aload_n 0, 1) := by decide +kernel
theorem dX7_usedAhead_15 : decode cX7_usedAhead 15 = .ok (.getfield 53, 3) := by decide +kernel
theorem dX7_usedAhead_18 : decode cX7_usedAhead 18 = .ok (.iload_n 1, 1) := by decide +kernel
theorem dX7_usedAhead_19 : decode cX7_usedAhead 19 = .ok (.bipush 6, 2) := by decide +kernel
theorem dX7_usedAhead_21 : decode cX7_usedAhead 21 = .ok (.imul, 1) := by decide +kernel
theorem dX7_usedAhead_22 : decode cX7_usedAhead 22 = .ok (.iload_n 3, 1) := by decide +kernel
theorem dX7_usedAhead_23 : decode cX7_usedAhead 23 = .ok (.iadd, 1) := by decide +kernel
theorem dX7_usedAhead_24 : decode cX7_usedAhead 24 = .ok (.invokevirtual 96, 3) := by decide +kernel
theorem dX7_usedAhead_27 : decode cX7_usedAhead 27 = .ok (.iload_n 2, 1) := by decide +kernel
theorem dX7_usedAhead_28 : decode cX7_usedAhead 28 = .ok (.if_icmp .ge 9, 3) := by decide +kernel
theorem dX7_usedAhead_31 : decode cX7_usedAhead 31 = .ok (.iinc 3 1, 3) := by decide +kernel
theorem dX7_usedAhead_34 : decode cX7_usedAhead 34 = .ok (.goto (-32), 3) := by decide +kernel
theorem dX7_usedAhead_37 : decode cX7_usedAhead 37 = .ok (.iload_n 3, 1) := by decide +kernel
theorem dX7_usedAhead_38 : decode cX7_usedAhead 38 = .ok (.ireturn, 1) := by decide +kernel
theorem dX7_holderOf_0 : decode cX7_holderOf 0 = .ok (.aload_n 0, 1) := by decide +kernel
theorem dX7_holderOf_1 : decode cX7_holderOf 1 = .ok (.iload_n 2, 1) := by decide +kernel
theorem dX7_holderOf_2 : decode cX7_holderOf 2 = .ok (.iload_n 1, 1) := by decide +kernel
theorem dX7_holderOf_3 : decode cX7_holderOf 3 = .ok (.invokevirtual 121, 3) := by decide +kernel
theorem dX7_holderOf_6 : decode cX7_holderOf 6 = .ok (.ifCond .ne 5, 3) := by decide +kernel
theorem dX7_holderOf_9 : decode cX7_holderOf 9 = .ok (.iconst (-1), 1) := by decide +kernel
theorem dX7_holderOf_10 : decode cX7_holderOf 10 = .ok (.ireturn, 1) := by decide +kernel
theorem dX7_holderOf_11 : decode cX7_holderOf 11 = .ok (.aload_n 0, 1) := by decide +kernel
theorem dX7_holderOf_12 : decode cX7_holderOf 12 = .ok (.getfield 35, 3) := by decide +kernel
theorem dX7_holderOf_15 : decode cX7_holderOf 15 = .ok (.invokevirtual 92, 3) := by decide +kernel
theorem dX7_holderOf_18 : decode cX7_holderOf 18 = .ok (.iconst 1, 1) := by decide +kernel
theorem dX7_holderOf_19 : decode cX7_holderOf 19 = .ok (.isub, 1) := by decide +kernel
theorem dX7_holderOf_20 : decode cX7_holderOf 20 = .ok (.istore_n 3, 1) := by decide +kernel
theorem dX7_holderOf_21 : decode cX7_holderOf 21 = .ok (.iload_n 3, 1) := by decide +kernel
theorem dX7_holderOf_22 : decode cX7_holderOf 22 = .ok (.ifCond .lt 35, 3) := by decide +kernel
theorem dX7_holderOf_25 : decode cX7_holderOf 25 = .ok (.aload_n 0, 1) := by decide +kernel
theorem dX7_holderOf_26 : decode cX7_holderOf 26 = .ok (.getfield 35, 3) := by decide +kernel
theorem dX7_holderOf_29 : decode cX7_holderOf 29 = .ok (.iload_n 3, 1) := by decide +kernel
theorem dX7_holderOf_30 : decode cX7_holderOf 30 = .ok (.invokevirtual 96, 3) := by decide +kernel
theorem dX7_holderOf_33 : decode cX7_holderOf 33 = .ok (.iload_n 1, 1) := by decide +kernel
theorem dX7_holderOf_34 : decode cX7_holderOf 34 = .ok (.if_icmp .ne 17, 3) := by decide +kernel
theorem dX7_holderOf_37 : decode cX7_holderOf 37 = .ok (.aload_n 0, 1) := by decide +kernel
theorem dX7_holderOf_38 : decode cX7_holderOf 38 = .ok (.getfield 38, 3) := by decide +kernel
theorem dX7_holderOf_41 : decode cX7_holderOf 41 = .ok (.iload_n 3, 1) := by decide +kernel
theorem dX7_holderOf_42 : decode cX7_holderOf 42 = .ok (.invokevirtual 96, 3) := by decide +kernel
theorem dX7_holderOf_45 : decode cX7_holderOf 45 = .ok (.iload_n 2, 1) := by decide +kernel
theorem dX7_holderOf_46 : decode cX7_holderOf 46 = .ok (.if_icmp .gt 5, 3) := by decide +kernel
theorem dX7_holderOf_49 : decode cX7_holderOf 49 = .ok (.iload_n 3, 1) := by decide +kernel
theorem dX7_holderOf_50 : decode cX7_holderOf 50 = .ok (.ireturn, 1) := by decide +kernel
theorem dX7_holderOf_51 : decode cX7_holderOf 51 = .ok (.iinc 3 (-1), 3) := by decide +kernel
theorem dX7_holderOf_54 : decode cX7_holderOf 54 = .ok (.goto (-33), 3) := by decide +kernel
theorem dX7_holderOf_57 : decode cX7_holderOf 57 = .ok (.iconst (-1), 1) := by decide +kernel
theorem dX7_holderOf_58 : decode cX7_holderOf 58 = .ok (.ireturn, 1) := by decide +kernel
theorem dX7_isThere_0 : decode cX7_isThere 0 = .ok (.aload_n 0, 1) := by decide +kernel
theorem dX7_isThere_1 : decode cX7_isThere 1 = .ok (.iload_n 1, 1) := by decide +kernel
theorem dX7_isThere_2 : decode cX7_isThere 2 = .ok (.invokevirtual 147, 3) := by decide +kernel
theorem dX7_isThere_5 : decode cX7_isThere 5 = .ok (.ifCond .eq 26, 3) := by decide +kernel
theorem dX7_isThere_8 : decode cX7_isThere 8 = .ok (.aload_n 0, 1) := by decide +kernel
theorem dX7_isThere_9 : decode cX7_isThere 9 = .ok (.getfield 62, 3) := by decide +kernel
theorem dX7_isThere_12 : decode cX7_isThere 12 = .ok (.aload_n 0, 1) := by decide +kernel
theorem dX7_isThere_13 : decode cX7_isThere 13 = .ok (.getfield 35, 3) := by decide +kernel
theorem dX7_isThere_16 : decode cX7_isThere 16 = .ok (.iload_n 1, 1) := by decide +kernel
theorem dX7_isThere_17 : decode cX7_isThere 17 = .ok (.invokevirtual 96, 3) := by decide +kernel
theorem dX7_isThere_20 : decode cX7_isThere 20 = .ok (.invokevirtual 96, 3) := by decide +kernel
theorem dX7_isThere_23 : decode cX7_isThere 23 = .ok (.iload_n 1, 1) := by decide +kernel
theorem dX7_isThere_24 : decode cX7_isThere 24 = .ok (.if_icmp .ne 7, 3) := by decide +kernel
theorem dX7_isThere_27 : decode cX7_isThere 27 = .ok (.iconst 1, 1) := by decide +kernel
theorem dX7_isThere_28 : decode cX7_isThere 28 = .ok (.goto 4, 3) := by decide +kernel
theorem dX7_isThere_31 : decode cX7_isThere 31 = .ok (.iconst 0, 1) := by decide +kernel
theorem dX7_isThere_32 : decode cX7_isThere 32 = .ok (.ireturn, 1) := by decide +kernel
theorem dX7_parentOf_0 : decode cX7_parentOf 0 = .ok (.aload_n 0, 1) := by decide +kernel
theorem dX7_parentOf_1 : decode cX7_parentOf 1 = .ok (.invokevirtual 118, 3) := by decide +kernel
theorem dX7_parentOf_4 : decode cX7_parentOf 4 = .ok (.istore_n 2, 1) := by decide +kernel
theorem dX7_parentOf_5 : decode cX7_parentOf 5 = .ok (.iconst 0, 1) := by decide +kernel
theorem dX7_parentOf_6 : decode cX7_parentOf 6 = .ok (.istore_n 3, 1) := by decide +kernel
theorem dX7_parentOf_7 : decode cX7_parentOf 7 = .ok (.iload_n 3, 1) := by decide +kernel
theorem dX7_parentOf_8 : decode cX7_parentOf 8 = .ok (.bipush 8, 2) := by decide +kernel
theorem dX7_parentOf_10 : decode cX7_parentOf 10 = .ok (.if_icmp .ge 52, 3) := by decide +kernel
theorem dX7_parentOf_13 : decode cX7_parentOf 13 = .ok (.aload_n 0, 1) := by decide +kernel
theorem dX7_parentOf_14 : decode cX7_parentOf 14 = .ok (.getfield 62, 3) := by decide +kernel
theorem dX7_parentOf_17 : decode cX7_parentOf 17 = .ok (.iload_n 3, 1) := by decide +kernel
theorem dX7_parentOf_18 : decode cX7_parentOf 18 = .ok (.invokevirtual 96, 3) := by decide +kernel
theorem dX7_parentOf_21 : decode cX7_parentOf 21 = .ok (.istore 4, 2) := by decide +kernel
theorem dX7_parentOf_23 : decode cX7_parentOf 23 = .ok (.iload 4, 2) := by decide +kernel
theorem dX7_parentOf_25 : decode cX7_parentOf 25 = .ok (.iconst (-1), 1) := by decide +kernel
theorem dX7_parentOf_26 : decode cX7_parentOf 26 = .ok (.if_icmp .eq 30, 3) := by decide +kernel
theorem dX7_parentOf_29 : decode cX7_parentOf 29 = .ok (.aload_n 0, 1) := by decide +kernel
theorem dX7_parentOf_30 : decode cX7_parentOf 30 = .ok (.iload 4, 2) := by decide +kernel
theorem dX7_parentOf_32 : decode cX7_parentOf 32 = .ok (.iconst 0, 1) := by decide +kernel
theorem dX7_parentOf_33 : decode cX7_parentOf 33 = .ok (.iload_n 2, 1) := by decide +kernel
theorem dX7_parentOf_34 : decode cX7_parentOf 34 = .ok (.invokevirtual 132, 3) := by decide +kernel
theorem dX7_parentOf_37 : decode cX7_parentOf 37 = .ok (.iload_n 1, 1) := by decide +kernel
theorem dX7_parentOf_38 : decode cX7_parentOf 38 = .ok (.if_icmp .eq 15, 3) := by decide +kernel
theorem dX7_parentOf_41 : decode cX7_parentOf 41 = .ok (.aload_n 0, 1) := by decide +kernel
theorem dX7_parentOf_42 : decode cX7_parentOf 42 = .ok (.iload 4, 2) := by decide +kernel
theorem dX7_parentOf_44 : decode cX7_parentOf 44 = .ok (.iconst 1, 1) := by decide +kernel
theorem dX7_parentOf_45 : decode cX7_parentOf 45 = .ok (.iload_n 2, 1) := by decide +kernel
theorem dX7_parentOf_46 : decode cX7_parentOf 46 = .ok (.invokevirtual 132, 3) := by decide +kernel
theorem dX7_parentOf_49 : decode cX7_parentOf 49 = .ok (.iload_n 1, 1) := by decide +kernel
theorem dX7_parentOf_50 : decode cX7_parentOf 50 = .ok (.if_icmp .ne 6, 3) := by decide +kernel
theorem dX7_parentOf_53 : decode cX7_parentOf 53 = .ok (.iload 4, 2) := by decide +kernel
theorem dX7_parentOf_55 : decode cX7_parentOf 55 = .ok (.ireturn, 1) := by decide +kernel
theorem dX7_parentOf_56 : decode cX7_parentOf 56 = .ok (.iinc 3 1, 3) := by decide +kernel
theorem dX7_parentOf_59 : decode cX7_parentOf 59 = .ok (.goto (-52), 3) := by decide +kernel
theorem dX7_parentOf_62 : decode cX7_parentOf 62 = .ok (.iconst (-1), 1) := by decide +kernel
theorem dX7_parentOf_63 : decode cX7_parentOf 63 = .ok (.ireturn, 1) := by decide +kernel
theorem dX7_slotsWritten_0 : decode cX7_slotsWritten 0 = .ok (.iconst 0, 1) := by decide +kernel
theorem dX7_slotsWritten_1 : decode cX7_slotsWritten 1 = .ok (.istore_n 1, 1) := by decide +kernel
theorem dX7_slotsWritten_2 : decode cX7_slotsWritten 2 = .ok (.iconst 0, 1) := by decide +kernel
theorem dX7_slotsWritten_3 : decode cX7_slotsWritten 3 = .ok (.istore_n 2, 1) := by decide +kernel
theorem dX7_slotsWritten_4 : decode cX7_slotsWritten 4 = .ok (.iload_n 2, 1) := by decide +kernel
theorem dX7_slotsWritten_5 : decode cX7_slotsWritten 5 = .ok (.aload_n 0, 1) := by decide +kernel
theorem dX7_slotsWritten_6 : decode cX7_slotsWritten 6 = .ok (.getfield 47, 3) := by decide +kernel
theorem dX7_slotsWritten_9 : decode cX7_slotsWritten 9 = .ok (.invokevirtual 92, 3) := by decide +kernel
theorem dX7_slotsWritten_12 : decode cX7_slotsWritten 12 = .ok (.if_icmp .ge 20, 3) := by decide +kernel
theorem dX7_slotsWritten_15 : decode cX7_slotsWritten 15 = .ok (.iload_n 1, 1) := by decide +kernel
theorem dX7_slotsWritten_16 : decode cX7_slotsWritten 16 = .ok (.aload_n 0, 1) := by decide +kernel
theorem dX7_slotsWritten_17 : decode cX7_slotsWritten 17 = .ok (.getfield 47, 3) := by decide +kernel
theorem dX7_slotsWritten_20 : decode cX7_slotsWritten 20 = .ok (.iload_n 2, 1) := by decide +kernel
theorem dX7_slotsWritten_21 : decode cX7_slotsWritten 21 = .ok (.invokevirtual 96, 3) := by decide +kernel
theorem dX7_slotsWritten_24 : decode cX7_slotsWritten 24 = .ok (.iadd, 1) := by decide +kernel
theorem dX7_slotsWritten_25 : decode cX7_slotsWritten 25 = .ok (.istore_n 1, 1) := by decide +kernel
theorem dX7_slotsWritten_26 : decode cX7_slotsWritten 26 = .ok (.iinc 2 1, 3) := by decide +kernel
theorem dX7_slotsWritten_29 : decode cX7_slotsWritten 29 = .ok (.goto (-25), 3) := by decide +kernel
theorem dX7_slotsWritten_32 : decode cX7_slotsWritten 32 = .ok (.iload_n 1, 1) := by decide +kernel
theorem dX7_slotsWritten_33 : decode cX7_slotsWritten 33 = .ok (.ireturn, 1) := by decide +kernel
theorem dX7_copiesOf_0 : decode cX7_copiesOf 0 = .ok (.iconst 0, 1) := by decide +kernel
theorem dX7_copiesOf_1 : decode cX7_copiesOf 1 = .ok (.istore_n 2, 1) := by decide +kernel
theorem dX7_copiesOf_2 : decode cX7_copiesOf 2 = .ok (.iconst 0, 1) := by decide +kernel
theorem dX7_copiesOf_3 : decode cX7_copiesOf 3 = .ok (.istore_n 3, 1) := by decide +kernel
theorem dX7_copiesOf_4 : decode cX7_copiesOf 4 = .ok (.iload_n 3, 1) := by decide +kernel
theorem dX7_copiesOf_5 : decode cX7_copiesOf 5 = .ok (.aload_n 0, 1) := by decide +kernel
theorem dX7_copiesOf_6 : decode cX7_copiesOf 6 = .ok (.getfield 35, 3) := by decide +kernel
theorem dX7_copiesOf_9 : decode cX7_copiesOf 9 = .ok (.invokevirtual 92, 3) := by decide +kernel
theorem dX7_copiesOf_12 : decode cX7_copiesOf 12 = .ok (.if_icmp .ge 37, 3) := by decide +kernel
theorem dX7_copiesOf_15 : decode cX7_copiesOf 15 = .ok (.iload_n 1, 1) := by decide +kernel
theorem dX7_copiesOf_16 : decode cX7_copiesOf 16 = .ok (.iconst (-1), 1) := by decide +kernel
theorem dX7_copiesOf_17 : decode cX7_copiesOf 17 = .ok (.if_icmp .eq 15, 3) := by decide +kernel
theorem dX7_copiesOf_20 : decode cX7_copiesOf 20 = .ok (.aload_n 0, 1) := by decide +kernel
theorem dX7_copiesOf_21 : decode cX7_copiesOf 21 = .ok (.getfield 35, 3) := by decide +kernel
theorem dX7_copiesOf_24 : decode cX7_copiesOf 24 = .ok (.iload_n 3, 1) := by decide +kernel
theorem dX7_copiesOf_25 : decode cX7_copiesOf 25 = .ok (.invokevirtual 96, 3) := by decide +kernel
theorem dX7_copiesOf_28 : decode cX7_copiesOf 28 = .ok (.iload_n 1, 1) := by decide +kernel
theorem dX7_copiesOf_29 : decode cX7_copiesOf 29 = .ok (.if_icmp .ne 14, 3) := by decide +kernel
theorem dX7_copiesOf_32 : decode cX7_copiesOf 32 = .ok (.iload_n 2, 1) := by decide +kernel
theorem dX7_copiesOf_33 : decode cX7_copiesOf 33 = .ok (.aload_n 0, 1) := by decide +kernel
theorem dX7_copiesOf_34 : decode cX7_copiesOf 34 = .ok (.getfield 50, 3) := by decide +kernel
theorem dX7_copiesOf_37 : decode cX7_copiesOf 37 = .ok (.iload_n 3, 1) := by decide +kernel
theorem dX7_copiesOf_38 : decode cX7_copiesOf 38 = .ok (.invokevirtual 96, 3) := by decide +kernel
theorem dX7_copiesOf_41 : decode cX7_copiesOf 41 = .ok (.iadd, 1) := by decide +kernel
theorem dX7_copiesOf_42 : decode cX7_copiesOf 42 = .ok (.istore_n 2, 1) := by decide +kernel
theorem dX7_copiesOf_43 : decode cX7_copiesOf 43 = .ok (.iinc 3 1, 3) := by decide +kernel
theorem dX7_copiesOf_46 : decode cX7_copiesOf 46 = .ok (.goto (-42), 3) := by decide +kernel
theorem dX7_copiesOf_49 : decode cX7_copiesOf 49 = .ok (.iload_n 2, 1) := by decide +kernel
theorem dX7_copiesOf_50 : decode cX7_copiesOf 50 = .ok (.ireturn, 1) := by decide +kernel
theorem dX8_init_0 : decode cX8_init 0 = .ok (.aload_n 0, 1) := by decide +kernel
theorem dX8_init_1 : decode cX8_init 1 = .ok (.invokespecial 3, 3) := by decide +kernel
theorem dX8_init_4 : decode cX8_init 4 = .ok (.aload_n 0, 1) := by decide +kernel
theorem dX8_init_5 : decode cX8_init 5 = .ok (.aload_n 1, 1) := by decide +kernel
theorem dX8_init_6 : decode cX8_init 6 = .ok (.putfield 9, 3) := by decide +kernel
theorem dX8_init_9 : decode cX8_init 9 = .ok (.aload_n 0, 1) := by decide +kernel
theorem dX8_init_10 : decode cX8_init 10 = .ok (.aload_n 2, 1) := by decide +kernel
theorem dX8_init_11 : decode cX8_init 11 = .ok (.putfield 15, 3) := by decide +kernel
theorem dX8_init_14 : decode cX8_init 14 = .ok (.aload_n 0, 1) := by decide +kernel
theorem dX8_init_15 : decode cX8_init 15 = .ok (.aload_n 3, 1) := by decide +kernel
theorem dX8_init_16 : decode cX8_init 16 = .ok (.putfield 19, 3) := by decide +kernel
theorem dX8_init_19 : decode cX8_init 19 = .ok (.aload_n 0, 1) := by decide +kernel
theorem dX8_init_20 : decode cX8_init 20 = .ok (.new 23, 3) := by decide +kernel
theorem dX8_init_23 : decode cX8_init 23 = .ok (.dup, 1) := by decide +kernel
theorem dX8_init_24 : decode cX8_init 24 = .ok (.bipush 9, 2) := by decide +kernel
theorem dX8_init_26 : decode cX8_init 26 = .ok (.invokespecial 25, 3) := by decide +kernel
theorem dX8_init_29 : decode cX8_init 29 = .ok (.putfield 28, 3) := by decide +kernel
theorem dX8_init_32 : decode cX8_init 32 = .ok (.aload_n 0, 1) := by decide +kernel
theorem dX8_init_33 : decode cX8_init 33 = .ok (.new 23, 3) := by decide +kernel
theorem dX8_init_36 : decode cX8_init 36 = .ok (.dup, 1) := by decide +kernel
theorem dX8_init_37 : decode cX8_init 37 = .ok (.bipush 8, 2) := by decide +kernel
theorem dX8_init_39 : decode cX8_init 39 = .ok (.invokespecial 25, 3) := by decide +kernel
theorem dX8_init_42 : decode cX8_init 42 = .ok (.putfield 32, 3) := by decide +kernel
theorem dX8_init_45 : decode cX8_init 45 = .ok (.aload_n 0, 1) := by decide +kernel
theorem dX8_init_46 : decode cX8_init 46 = .ok (.new 23, 3) := by decide +kernel
theorem dX8_init_49 : decode cX8_init 49 = .ok (.dup, 1) := by decide +kernel
theorem dX8_init_50 : decode cX8_init 50 = .ok (.bipush 8, 2) := by decide +kernel
theorem dX8_init_52 : decode cX8_init 52 = .ok (.invokespecial 25, 3) := by decide +kernel
theorem dX8_init_55 : decode cX8_init 55 = .ok (.putfield 35, 3) := by decide +kernel
theorem dX8_init_58 : decode cX8_init 58 = .ok (.return_, 1) := by decide +kernel
theorem dX8_show_0 : decode cX8_show 0 = .ok (.aload_n 0, 1) := by decide +kernel
theorem dX8_show_1 : decode cX8_show 1 = .ok (.getfield 15, 3) := by decide +kernel
theorem dX8_show_4 : decode cX8_show 4 = .ok (.aload_n 0, 1) := by decide +kernel
theorem dX8_show_5 : decode cX8_show 5 = .ok (.getfield 19, 3) := by decide +kernel
theorem dX8_show_8 : decode cX8_show 8 = .ok (.getfield 38, 3) := by decide +kernel
theorem dX8_show_11 : decode cX8_show 11 = .ok (.iload_n 1, 1) := by decide +kernel
theorem dX8_show_12 : decode cX8_show 12 = .ok (.invokevirtual 43, 3) := by decide +kernel
theorem dX8_show_15 : decode cX8_show 15 = .ok (.invokevirtual 47, 3) := by decide +kernel
theorem dX8_show_18 : decode cX8_show 18 = .ok (.return_, 1) := by decide +kernel
theorem dX8_nextEvent_0 : decode cX8_nextEvent 0 = .ok (.aload_n 0, 1) := by decide +kernel
theorem dX8_nextEvent_1 : decode cX8_nextEvent 1 = .ok (.getfield 9, 3) := by decide +kernel
theorem dX8_nextEvent_4 : decode cX8_nextEvent 4 = .ok (.getfield 52, 3) := by decide +kernel
theorem dX8_nextEvent_7 : decode cX8_nextEvent 7 = .ok (.aload_n 0, 1) := by decide +kernel
theorem dX8_nextEvent_8 : decode cX8_nextEvent 8 = .ok (.getfield 19, 3) := by decide +kernel
theorem dX8_nextEvent_11 : decode cX8_nextEvent 11 = .ok (.getfield 57, 3) := by decide +kernel
theorem dX8_nextEvent_14 : decode cX8_nextEvent 14 = .ok (.aload_n 0, 1) := by decide +kernel
theorem dX8_nextEvent_15 : decode cX8_nextEvent 15 = .ok (.getfield 19, 3) := by decide +kernel
theorem dX8_nextEvent_18 : decode cX8_nextEvent 18 = .ok (.invokevirtual 60, 3) := by decide +kernel
theorem dX8_nextEvent_21 : decode cX8_nextEvent 21 = .ok (.invokevirtual 43, 3) := by decide +kernel
theorem dX8_nextEvent_24 : decode cX8_nextEvent 24 = .ok (.invokevirtual 43, 3) := by decide +kernel
theorem dX8_nextEvent_27 : decode cX8_nextEvent 27 = .ok (.ireturn, 1) := by decide +kernel
theorem dX8_isSwept_0 : decode cX8_isSwept 0 = .ok (.aload_n 0, 1) := by decide +kernel
theorem dX8_isSwept_1 : decode cX8_isSwept 1 = .ok (.invokevirtual 64, 3) := by decide +kernel
theorem dX8_isSwept_4 : decode cX8_isSwept 4 = .ok (.istore_n 2, 1) := by decide +kernel
theorem dX8_isSwept_5 : decode cX8_isSwept 5 = .ok (.iload_n 2, 1) := by decide +kernel
theorem dX8_isSwept_6 : decode cX8_isSwept 6 = .ok (.iconst (-1), 1) := by decide +kernel
theorem dX8_isSwept_7 : decode cX8_isSwept 7 = .ok (.if_icmp .eq 8, 3) := by decide +kernel
theorem dX8_isSwept_10 : decode cX8_isSwept 10 = .ok (.iload_n 1, 1) := by decide +kernel
theorem dX8_isSwept_11 : decode cX8_isSwept 11 = .ok (.iload_n 2, 1) := by decide +kernel
theorem dX8_isSwept_12 : decode cX8_isSwept 12 = .ok (.if_icmp .ge 7, 3) := by decide +kernel
theorem dX8_isSwept_15 : decode cX8_isSwept 15 = .ok (.iconst 1, 1) := by decide +kernel
theorem dX8_isSwept_16 : decode cX8_isSwept 16 = .ok (.goto 4, 3) := by decide +kernel
theorem dX8_isSwept_19 : decode cX8_isSwept 19 = .ok (.iconst 0, 1) := by decide +kernel
theorem dX8_isSwept_20 : decode cX8_isSwept 20 = .ok (.ireturn, 1) := by decide +kernel
theorem dX8_stampOf_0 : decode cX8_stampOf 0 = .ok (.aload_n 0, 1) := by decide +kernel
theorem dX8_stampOf_1 : decode cX8_stampOf 1 = .ok (.getfield 19, 3) := by decide +kernel
theorem dX8_stampOf_4 : decode cX8_stampOf 4 = .ok (.invokevirtual 60, 3) := by decide +kernel
theorem dX8_stampOf_7 : decode cX8_stampOf 7 = .ok (.istore_n 2, 1) := by decide +kernel
theorem dX8_stampOf_8 : decode cX8_stampOf 8 = .ok (.iload_n 2, 1) := by decide +kernel
theorem dX8_stampOf_9 : decode cX8_stampOf 9 = .ok (.ifCond .le 24, 3) := by decide +kernel
theorem dX8_stampOf_12 : decode cX8_stampOf 12 = .ok (.aload_n 0, 1) := by decide +kernel
theorem dX8_stampOf_13 : decode cX8_stampOf 13 = .ok (.getfield 19, 3) := by decide +kernel
theorem dX8_stampOf_16 : decode cX8_stampOf 16 = .ok (.getfield 67, 3) := by decide +kernel
theorem dX8_stampOf_19 : decode cX8_stampOf 19 = .ok (.iload_n 2, 1) := by decide +kernel
theorem dX8_stampOf_20 : decode cX8_stampOf 20 = .ok (.invokevirtual 43, 3) := by decide +kernel
theorem dX8_stampOf_23 : decode cX8_stampOf 23 = .ok (.iload_n 1, 1) := by decide +kernel
theorem dX8_stampOf_24 : decode cX8_stampOf 24 = .ok (.if_icmp .le 9, 3) := by decide +kernel
theorem dX8_stampOf_27 : decode cX8_stampOf 27 = .ok (.iinc 2 (-1), 3) := by decide +kernel
theorem dX8_stampOf_30 : decode cX8_stampOf 30 = .ok (.goto (-22), 3) := by decide +kernel
theorem dX8_stampOf_33 : decode cX8_stampOf 33 = .ok (.iload_n 2, 1) := by decide +kernel
theorem dX8_stampOf_34 : decode cX8_stampOf 34 = .ok (.ireturn, 1) := by decide +kernel
theorem dX8_find_0 : decode cX8_find 0 = .ok (.iload_n 1, 1) := by decide +kernel
theorem dX8_find_1 : decode cX8_find 1 = .ok (.ifCond .lt 25, 3) := by decide +kernel
theorem dX8_find_4 : decode cX8_find 4 = .ok (.iload_n 1, 1) := by decide +kernel
theorem dX8_find_5 : decode cX8_find 5 = .ok (.bipush 60, 2) := by decide +kernel
theorem dX8_find_7 : decode cX8_find 7 = .ok (.if_icmp .gt 19, 3) := by decide +kernel
theorem dX8_find_10 : decode cX8_find 10 = .ok (.iload_n 2, 1) := by decide +kernel
theorem dX8_find_11 : decode cX8_find 11 = .ok (.bipush (-9), 2) := by decide +kernel
theorem dX8_find_13 : decode cX8_find 13 = .ok (.if_icmp .lt 13, 3) := by decide +kernel
theorem dX8_find_16 : decode cX8_find 16 = .ok (.iload_n 2, 1) := by decide +kernel
theorem dX8_find_17 : decode cX8_find 17 = .ok (.bipush 99, 2) := by decide +kernel
theorem dX8_find_19 : decode cX8_find 19 = .ok (.if_icmp .gt 7, 3) := by decide +kernel
theorem dX8_find_22 : decode cX8_find 22 = .ok (.iconst 1, 1) := by decide +kernel
theorem dX8_find_23 : decode cX8_find 23 = .ok (.goto 4, 3) := by decide +kernel
theorem dX8_find_26 : decode cX8_find 26 = .ok (.iconst 0, 1) := by decide +kernel
theorem dX8_find_27 : decode cX8_find 27 = .ok (.istore_n 3, 1) := by decide +kernel
theorem dX8_find_28 : decode cX8_find 28 = .ok (.iload_n 3, 1) := by decide +kernel
theorem dX8_find_29 : decode cX8_find 29 = .ok (.ifCond .eq 11, 3) := by decide +kernel
theorem dX8_find_32 : decode cX8_find 32 = .ok (.aload_n 0, 1) := by decide +kernel
theorem dX8_find_33 : decode cX8_find 33 = .ok (.iload_n 1, 1) := by decide +kernel
theorem dX8_find_34 : decode cX8_find 34 = .ok (.invokevirtual 70, 3) := by decide +kernel
theorem dX8_find_37 : decode cX8_find 37 = .ok (.ifCond .ne 5, 3) := by decide +kernel
theorem dX8_find_40 : decode cX8_find 40 = .ok (.iconst 0, 1) := by decide +kernel
theorem dX8_find_41 : decode cX8_find 41 = .ok (.ireturn, 1) := by decide +kernel
theorem dX8_find_42 : decode cX8_find 42 = .ok (.aload_n 0, 1) := by decide +kernel
theorem dX8_find_43 : decode cX8_find 43 = .ok (.aload_n 0, 1) := by decide +kernel
theorem dX8_find_44 : decode cX8_find 44 = .ok (.iload_n 1, 1) := by decide +kernel
theorem dX8_find_45 : decode cX8_find 45 = .ok (.invokevirtual 74, 3) := by decide +kernel
theorem dX8_find_48 : decode cX8_find 48 = .ok (.invokevirtual 77, 3) := by decide +kernel
theorem dX8_find_51 : decode cX8_find 51 = .ok (.aload_n 0, 1) := by decide +kernel
theorem dX8_find_52 : decode cX8_find 52 = .ok (.iload_n 1, 1) := by decide +kernel
theorem dX8_find_53 : decode cX8_find 53 = .ok (.iload_n 2, 1) := by decide +kernel
theorem dX8_find_54 : decode cX8_find 54 = .ok (.invokevirtual 80, 3) := by decide +kernel
theorem dX8_find_57 : decode cX8_find 57 = .ok (.iconst 1, 1) := by decide +kernel
theorem dX8_find_58 : decode cX8_find 58 = .ok (.ireturn, 1) := by decide +kernel
theorem dX8_countFartherUp_0 : decode cX8_countFartherUp 0 = .ok (.aload_n 0, 1) := by decide +kernel
theorem dX8_countFartherUp_1 : decode cX8_countFartherUp 1 = .ok (.iconst 0, 1) := by decide +kernel
theorem dX8_countFartherUp_2 : decode cX8_countFartherUp 2 = .ok (.putfield 84, 3) := by decide +kernel
theorem dX8_countFartherUp_5 : decode cX8_countFartherUp 5 = .ok (.iconst 0, 1) := by decide +kernel
theorem dX8_countFartherUp_6 : decode cX8_countFartherUp 6 = .ok (.istore_n 3, 1) := by decide +kernel
theorem dX8_countFartherUp_7 : decode cX8_countFartherUp 7 = .ok (.iload_n 3, 1) := by decide +kernel
theorem dX8_countFartherUp_8 : decode cX8_countFartherUp 8 = .ok (.aload_n 0, 1) := by decide +kernel
theorem dX8_countFartherUp_9 : decode cX8_countFartherUp 9 = .ok (.getfield 15, 3) := by decide +kernel
theorem dX8_countFartherUp_12 : decode cX8_countFartherUp 12 = .ok (.getfield 88, 3) := by decide +kernel
theorem dX8_countFartherUp_15 : decode cX8_countFartherUp 15 = .ok (.invokevirtual 91, 3) := by decide +kernel
theorem dX8_countFartherUp_18 : decode cX8_countFartherUp 18 = .ok (.if_icmp .ge 42, 3) := by decide +kernel
theorem dX8_countFartherUp_21 : decode cX8_countFartherUp 21 = .ok (.aload_n 0, 1) := by decide +kernel
theorem dX8_countFartherUp_22 : decode cX8_countFartherUp 22 = .ok (.getfield 9, 3) := by decide +kernel
theorem dX8_countFartherUp_25 : decode cX8_countFartherUp 25 = .ok (.aload_n 0, 1) := by decide +kernel
theorem dX8_countFartherUp_26 : decode cX8_countFartherUp 26 = .ok (.getfield 15, 3) := by decide +kernel
theorem dX8_countFartherUp_29 : decode cX8_countFartherUp 29 = .ok (.getfield 88, 3) := by decide +kernel
theorem dX8_countFartherUp_32 : decode cX8_countFartherUp 32 = .ok (.iload_n 3, 1) := by decide +kernel
theorem dX8_countFartherUp_33 : decode cX8_countFartherUp 33 = .ok (.invokevirtual 43, 3) := by decide +kernel
theorem dX8_countFartherUp_36 : decode cX8_countFartherUp 36 = .ok (.iload_n 1, 1) := by decide +kernel
theorem dX8_countFartherUp_37 : decode cX8_countFartherUp 37 = .ok (.iload_n 2, 1) := by decide +kernel
theorem dX8_countFartherUp_38 : decode cX8_countFartherUp 38 = .ok (.invokevirtual 94, 3) := by decide +kernel
theorem dX8_countFartherUp_41 : decode cX8_countFartherUp 41 = .ok (.ifCond .le 13, 3) := by decide +kernel
theorem dX8_countFartherUp_44 : decode cX8_countFartherUp 44 = .ok (.aload_n 0, 1) := by decide +kernel
theorem dX8_countFartherUp_45 : decode cX8_countFartherUp 45 = .ok (.dup, 1) := by decide +kernel
theorem dX8_countFartherUp_46 : decode cX8_countFartherUp 46 = .ok (.getfield 84, 3) := by decide +kernel
theorem dX8_countFartherUp_49 : decode cX8_countFartherUp 49 = .ok (.iconst 1, 1) := by decide +kernel
theorem dX8_countFartherUp_50 : decode cX8_countFartherUp 50 = .ok (.iadd, 1) := by decide +kernel
theorem dX8_countFartherUp_51 : decode cX8_countFartherUp 51 = .ok (.putfield 84, 3) := by decide +kernel
theorem dX8_countFartherUp_54 : decode cX8_countFartherUp 54 = .ok (.iinc 3 1, 3) := by decide +kernel
theorem dX8_countFartherUp_57 : decode cX8_countFartherUp 57 = .ok (.goto (-50), 3) := by decide +kernel
theorem dX8_countFartherUp_60 : decode cX8_countFartherUp 60 = .ok (.return_, 1) := by decide +kernel
theorem dX8_foundBelow_0 : decode cX8_foundBelow 0 = .ok (.aload_n 0, 1) := by decide +kernel
theorem dX8_foundBelow_1 : decode cX8_foundBelow 1 = .ok (.getfield 15, 3) := by decide +kernel
theorem dX8_foundBelow_4 : decode cX8_foundBelow 4 = .ok (.getfield 88, 3) := by decide +kernel
theorem dX8_foundBelow_7 : decode cX8_foundBelow 7 = .ok (.aload_n 0, 1) := by decide +kernel
theorem dX8_foundBelow_8 : decode cX8_foundBelow 8 = .ok (.getfield 15, 3) := by decide +kernel
theorem dX8_foundBelow_11 : decode cX8_foundBelow 11 = .ok (.getfield 88, 3) := by decide +kernel
theorem dX8_foundBelow_14 : decode cX8_foundBelow 14 = .ok (.invokevirtual 91, 3) := by decide +kernel
theorem dX8_foundBelow_17 : decode cX8_foundBelow 17 = .ok (.aload_n 0, 1) := by decide +kernel
theorem dX8_foundBelow_18 : decode cX8_foundBelow 18 = .ok (.getfield 84, 3) := by decide +kernel
theorem dX8_foundBelow_21 : decode cX8_foundBelow 21 = .ok (.isub, 1) := by decide +kernel
theorem dX8_foundBelow_22 : decode cX8_foundBelow 22 = .ok (.iconst 1, 1) := by decide +kernel
theorem dX8_foundBelow_23 : decode cX8_foundBelow 23 = .ok (.isub, 1) := by decide +kernel
theorem dX8_foundBelow_24 : decode cX8_foundBelow 24 = .ok (.invokevirtual 43, 3) := by decide +kernel
theorem dX8_foundBelow_27 : decode cX8_foundBelow 27 = .ok (.ireturn, 1) := by decide +kernel
theorem dX8_foundAbove_0 : decode cX8_foundAbove 0 = .ok (.aload_n 0, 1) := by decide +kernel
theorem dX8_foundAbove_1 : decode cX8_foundAbove 1 = .ok (.getfield 15, 3) := by decide +kernel
theorem dX8_foundAbove_4 : decode cX8_foundAbove 4 = .ok (.getfield 88, 3) := by decide +kernel
theorem dX8_foundAbove_7 : decode cX8_foundAbove 7 = .ok (.aload_n 0, 1) := by decide +kernel
theorem dX8_foundAbove_8 : decode cX8_foundAbove 8 = .ok (.getfield 15, 3) := by decide +kernel
theorem dX8_foundAbove_11 : decode cX8_foundAbove 11 = .ok (.getfield 88, 3) := by decide +kernel
theorem dX8_foundAbove_14 : decode cX8_foundAbove 14 = .ok (.invokevirtual 91, 3) := by decide +kernel
theorem dX8_foundAbove_17 : decode cX8_foundAbove 17 = .ok (.aload_n 0, 1) := by decide +kernel
theorem dX8_foundAbove_18 : decode cX8_foundAbove 18 = .ok (.getfield 84, 3) := by decide +kernel
theorem dX8_foundAbove_21 : decode cX8_foundAbove 21 = .ok (.isub, 1) := by decide +kernel
theorem dX8_foundAbove_22 : decode cX8_foundAbove 22 = .ok (.invokevirtual 43, 3) := by decide +kernel
theorem dX8_foundAbove_25 : decode cX8_foundAbove 25 = .ok (.ireturn, 1) := by decide +kernel
theorem dX8_neighbours_0 : decode cX8_neighbours 0 = .ok (.iconst 0, 1) := by decide +kernel
theorem dX8_neighbours_1 : decode cX8_neighbours 1 = .ok (.istore_n 3, 1) := by decide +kernel
theorem dX8_neighbours_2 : decode cX8_neighbours 2 = .ok (.iconst 0, 1) := by decide +kernel
theorem dX8_neighbours_3 : decode cX8_neighbours 3 = .ok (.istore 4, 2) := by decide +kernel
theorem dX8_neighbours_5 : decode cX8_neighbours 5 = .ok (.iload 4, 2) := by decide +kernel
theorem dX8_neighbours_7 : decode cX8_neighbours 7 = .ok (.aload_n 0, 1) := by decide +kernel
theorem dX8_neighbours_8 : decode cX8_neighbours 8 = .ok (.getfield 19, 3) := by decide +kernel
theorem dX8_neighbours_11 : decode cX8_neighbours 11 = .ok (.invokevirtual 60, 3) := by decide +kernel
theorem dX8_neighbours_14 : decode cX8_neighbours 14 = .ok (.if_icmp .gt 84, 3) := by decide +kernel
theorem dX8_neighbours_17 : decode cX8_neighbours 17 = .ok (.aload_n 0, 1) := by decide +kernel
theorem dX8_neighbours_18 : decode cX8_neighbours 18 = .ok (.iload 4, 2) := by decide +kernel
theorem dX8_neighbours_20 : decode cX8_neighbours 20 = .ok (.invokevirtual 77, 3) := by decide +kernel
theorem dX8_neighbours_23 : decode cX8_neighbours 23 = .ok (.iconst 0, 1) := by decide +kernel
theorem dX8_neighbours_24 : decode cX8_neighbours 24 = .ok (.istore 5, 2) := by decide +kernel
theorem dX8_neighbours_26 : decode cX8_neighbours 26 = .ok (.iload 5, 2) := by decide +kernel
theorem dX8_neighbours_28 : decode cX8_neighbours 28 = .ok (.aload_n 0, 1) := by decide +kernel
theorem dX8_neighbours_29 : decode cX8_neighbours 29 = .ok (.getfield 15, 3) := by decide +kernel
theorem dX8_neighbours_32 : decode cX8_neighbours 32 = .ok (.getfield 88, 3) := by decide +kernel
theorem dX8_neighbours_35 : decode cX8_neighbours 35 = .ok (.invokevirtual 91, 3) := by decide +kernel
theorem dX8_neighbours_38 : decode cX8_neighbours 38 = .ok (.if_icmp .ge 54, 3) := by decide +kernel
theorem dX8_neighbours_41 : decode cX8_neighbours 41 = .ok (.aload_n 0, 1) := by decide +kernel
theorem dX8_neighbours_42 : decode cX8_neighbours 42 = .ok (.getfield 15, 3) := by decide +kernel
theorem dX8_neighbours_45 : decode cX8_neighbours 45 = .ok (.getfield 88, 3) := by decide +kernel
theorem dX8_neighbours_48 : decode cX8_neighbours 48 = .ok (.iload 5, 2) := by decide +kernel
theorem dX8_neighbours_50 : decode cX8_neighbours 50 = .ok (.iload_n 2, 1) := by decide +kernel
theorem dX8_neighbours_51 : decode cX8_neighbours 51 = .ok (.iadd, 1) := by decide +kernel
theorem dX8_neighbours_52 : decode cX8_neighbours 52 = .ok (.invokevirtual 43, 3) := by decide +kernel
theorem dX8_neighbours_55 : decode cX8_neighbours 55 = .ok (.istore 6, 2) := by decide +kernel
theorem dX8_neighbours_57 : decode cX8_neighbours 57 = .ok (.aload_n 0, 1) := by decide +kernel
theorem dX8_neighbours_58 : decode cX8_neighbours 58 = .ok (.getfield 15, 3) := by decide +kernel
theorem dX8_neighbours_61 : decode cX8_neighbours 61 = .ok (.getfield 88, 3) := by decide +kernel
