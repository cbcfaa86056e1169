/-! decode rows -/
theorem dX8_neighbours_64 : decode cX8_neighbours 64 = .ok (.iload 5, 2) := by decide +kernel
theorem dX8_neighbours_66 : decode cX8_neighbours 66 = .ok (.invokevirtual 43, 3) := by decide +kernel
theorem dX8_neighbours_69 : decode cX8_neighbours 69 = .ok (.iload_n 1, 1) := by decide +kernel
theorem dX8_neighbours_70 : decode cX8_neighbours 70 = .ok (.if_icmp .ne 16, 3) := by decide +kernel
theorem dX8_neighbours_73 : decode cX8_neighbours 73 = .ok (.iload 6, 2) := by decide +kernel
theorem dX8_neighbours_75 : decode cX8_neighbours 75 = .ok (.iconst (-1), 1) := by decide +kernel
theorem dX8_neighbours_76 : decode cX8_neighbours 76 = .ok (.if_icmp .eq 10, 3) := by decide +kernel
theorem dX8_neighbours_79 : decode cX8_neighbours 79 = .ok (.iload_n 3, 1) := by decide +kernel
theorem dX8_neighbours_80 : decode cX8_neighbours 80 = .ok (.iconst 1, 1) := by decide +kernel
theorem dX8_neighbours_81 : decode cX8_neighbours 81 = .ok (.iload 6, 2) := by decide +kernel
theorem dX8_neighbours_83 : decode cX8_neighbours 83 = .ok (.ishl, 1) := by decide +kernel
theorem dX8_neighbours_84 : decode cX8_neighbours 84 = .ok (.ior, 1) := by decide +kernel
theorem dX8_neighbours_85 : decode cX8_neighbours 85 = .ok (.istore_n 3, 1) := by decide +kernel
theorem dX8_neighbours_86 : decode cX8_neighbours 86 = .ok (.iinc 5 1, 3) := by decide +kernel
theorem dX8_neighbours_89 : decode cX8_neighbours 89 = .ok (.goto (-63), 3) := by decide +kernel
theorem dX8_neighbours_92 : decode cX8_neighbours 92 = .ok (.iinc 4 1, 3) := by decide +kernel
theorem dX8_neighbours_95 : decode cX8_neighbours 95 = .ok (.goto (-90), 3) := by decide +kernel
theorem dX8_neighbours_98 : decode cX8_neighbours 98 = .ok (.iload_n 3, 1) := by decide +kernel
theorem dX8_neighbours_99 : decode cX8_neighbours 99 = .ok (.ireturn, 1) := by decide +kernel
theorem dX8_countTrapezes_0 : decode cX8_countTrapezes 0 = .ok (.iconst 0, 1) := by decide +kernel
theorem dX8_countTrapezes_1 : decode cX8_countTrapezes 1 = .ok (.istore_n 1, 1) := by decide +kernel
theorem dX8_countTrapezes_2 : decode cX8_countTrapezes 2 = .ok (.aload_n 0, 1) := by decide +kernel
theorem dX8_countTrapezes_3 : decode cX8_countTrapezes 3 = .ok (.getfield 32, 3) := by decide +kernel
theorem dX8_countTrapezes_6 : decode cX8_countTrapezes 6 = .ok (.bipush 8, 2) := by decide +kernel
theorem dX8_countTrapezes_8 : decode cX8_countTrapezes 8 = .ok (.bipush (-2), 2) := by decide +kernel
theorem dX8_countTrapezes_10 : decode cX8_countTrapezes 10 = .ok (.invokevirtual 98, 3) := by decide +kernel
theorem dX8_countTrapezes_13 : decode cX8_countTrapezes 13 = .ok (.aload_n 0, 1) := by decide +kernel
theorem dX8_countTrapezes_14 : decode cX8_countTrapezes 14 = .ok (.getfield 35, 3) := by decide +kernel
theorem dX8_countTrapezes_17 : decode cX8_countTrapezes 17 = .ok (.bipush 8, 2) := by decide +kernel
theorem dX8_countTrapezes_19 : decode cX8_countTrapezes 19 = .ok (.iconst 0, 1) := by decide +kernel
theorem dX8_countTrapezes_20 : decode cX8_countTrapezes 20 = .ok (.invokevirtual 98, 3) := by decide +kernel
theorem dX8_countTrapezes_23 : decode cX8_countTrapezes 23 = .ok (.iconst 0, 1) := by decide +kernel
theorem dX8_countTrapezes_24 : decode cX8_countTrapezes 24 = .ok (.istore_n 2, 1) := by decide +kernel
theorem dX8_countTrapezes_25 : decode cX8_countTrapezes 25 = .ok (.iload_n 2, 1) := by decide +kernel
theorem dX8_countTrapezes_26 : decode cX8_countTrapezes 26 = .ok (.aload_n 0, 1) := by decide +kernel
theorem dX8_countTrapezes_27 : decode cX8_countTrapezes 27 = .ok (.getfield 19, 3) := by decide +kernel
theorem dX8_countTrapezes_30 : decode cX8_countTrapezes 30 = .ok (.invokevirtual 60, 3) := by decide +kernel
theorem dX8_countTrapezes_33 : decode cX8_countTrapezes 33 = .ok (.if_icmp .gt 57, 3) := by decide +kernel
theorem dX8_countTrapezes_36 : decode cX8_countTrapezes 36 = .ok (.aload_n 0, 1) := by decide +kernel
theorem dX8_countTrapezes_37 : decode cX8_countTrapezes 37 = .ok (.iload_n 2, 1) := by decide +kernel
theorem dX8_countTrapezes_38 : decode cX8_countTrapezes 38 = .ok (.invokevirtual 77, 3) := by decide +kernel
theorem dX8_countTrapezes_41 : decode cX8_countTrapezes 41 = .ok (.iconst 0, 1) := by decide +kernel
theorem dX8_countTrapezes_42 : decode cX8_countTrapezes 42 = .ok (.istore_n 3, 1) := by decide +kernel
theorem dX8_countTrapezes_43 : decode cX8_countTrapezes 43 = .ok (.iload_n 3, 1) := by decide +kernel
theorem dX8_countTrapezes_44 : decode cX8_countTrapezes 44 = .ok (.aload_n 0, 1) := by decide +kernel
theorem dX8_countTrapezes_45 : decode cX8_countTrapezes 45 = .ok (.getfield 9, 3) := by decide +kernel
theorem dX8_countTrapezes_48 : decode cX8_countTrapezes 48 = .ok (.invokevirtual 101, 3) := by decide +kernel
theorem dX8_countTrapezes_51 : decode cX8_countTrapezes 51 = .ok (.if_icmp .ge 33, 3) := by decide +kernel
theorem dX8_countTrapezes_54 : decode cX8_countTrapezes 54 = .ok (.iload_n 1, 1) := by decide +kernel
theorem dX8_countTrapezes_55 : decode cX8_countTrapezes 55 = .ok (.aload_n 0, 1) := by decide +kernel
theorem dX8_countTrapezes_56 : decode cX8_countTrapezes 56 = .ok (.iload_n 3, 1) := by decide +kernel
theorem dX8_countTrapezes_57 : decode cX8_countTrapezes 57 = .ok (.aload_n 0, 1) := by decide +kernel
theorem dX8_countTrapezes_58 : decode cX8_countTrapezes 58 = .ok (.iload_n 3, 1) := by decide +kernel
theorem dX8_countTrapezes_59 : decode cX8_countTrapezes 59 = .ok (.invokevirtual 104, 3) := by decide +kernel
theorem dX8_countTrapezes_62 : decode cX8_countTrapezes 62 = .ok (.aload_n 0, 1) := by decide +kernel
theorem dX8_countTrapezes_63 : decode cX8_countTrapezes 63 = .ok (.getfield 19, 3) := by decide +kernel
theorem dX8_countTrapezes_66 : decode cX8_countTrapezes 66 = .ok (.getfield 67, 3) := by decide +kernel
theorem dX8_countTrapezes_69 : decode cX8_countTrapezes 69 = .ok (.iload_n 2, 1) := by decide +kernel
theorem dX8_countTrapezes_70 : decode cX8_countTrapezes 70 = .ok (.invokevirtual 43, 3) := by decide +kernel
theorem dX8_countTrapezes_73 : decode cX8_countTrapezes 73 = .ok (.invokevirtual 107, 3) := by decide +kernel
theorem dX8_countTrapezes_76 : decode cX8_countTrapezes 76 = .ok (.iadd, 1) := by decide +kernel
theorem dX8_countTrapezes_77 : decode cX8_countTrapezes 77 = .ok (.istore_n 1, 1) := by decide +kernel
theorem dX8_countTrapezes_78 : decode cX8_countTrapezes 78 = .ok (.iinc 3 1, 3) := by decide +kernel
theorem dX8_countTrapezes_81 : decode cX8_countTrapezes 81 = .ok (.goto (-38), 3) := by decide +kernel
theorem dX8_countTrapezes_84 : decode cX8_countTrapezes 84 = .ok (.iinc 2 1, 3) := by decide +kernel
theorem dX8_countTrapezes_87 : decode cX8_countTrapezes 87 = .ok (.goto (-62), 3) := by decide +kernel
theorem dX8_countTrapezes_90 : decode cX8_countTrapezes 90 = .ok (.aload_n 0, 1) := by decide +kernel
theorem dX8_countTrapezes_91 : decode cX8_countTrapezes 91 = .ok (.invokevirtual 64, 3) := by decide +kernel
theorem dX8_countTrapezes_94 : decode cX8_countTrapezes 94 = .ok (.iconst (-1), 1) := by decide +kernel
theorem dX8_countTrapezes_95 : decode cX8_countTrapezes 95 = .ok (.if_icmp .ne 8, 3) := by decide +kernel
theorem dX8_countTrapezes_98 : decode cX8_countTrapezes 98 = .ok (.bipush 60, 2) := by decide +kernel
theorem dX8_countTrapezes_100 : decode cX8_countTrapezes 100 = .ok (.goto 7, 3) := by decide +kernel
theorem dX8_countTrapezes_103 : decode cX8_countTrapezes 103 = .ok (.aload_n 0, 1) := by decide +kernel
theorem dX8_countTrapezes_104 : decode cX8_countTrapezes 104 = .ok (.invokevirtual 64, 3) := by decide +kernel
theorem dX8_countTrapezes_107 : decode cX8_countTrapezes 107 = .ok (.istore_n 2, 1) := by decide +kernel
theorem dX8_countTrapezes_108 : decode cX8_countTrapezes 108 = .ok (.iconst 0, 1) := by decide +kernel
theorem dX8_countTrapezes_109 : decode cX8_countTrapezes 109 = .ok (.istore_n 3, 1) := by decide +kernel
theorem dX8_countTrapezes_110 : decode cX8_countTrapezes 110 = .ok (.iload_n 3, 1) := by decide +kernel
theorem dX8_countTrapezes_111 : decode cX8_countTrapezes 111 = .ok (.aload_n 0, 1) := by decide +kernel
theorem dX8_countTrapezes_112 : decode cX8_countTrapezes 112 = .ok (.getfield 9, 3) := by decide +kernel
theorem dX8_countTrapezes_115 : decode cX8_countTrapezes 115 = .ok (.invokevirtual 101, 3) := by decide +kernel
theorem dX8_countTrapezes_118 : decode cX8_countTrapezes 118 = .ok (.if_icmp .ge 20, 3) := by decide +kernel
theorem dX8_countTrapezes_121 : decode cX8_countTrapezes 121 = .ok (.iload_n 1, 1) := by decide +kernel
theorem dX8_countTrapezes_122 : decode cX8_countTrapezes 122 = .ok (.aload_n 0, 1) := by decide +kernel
theorem dX8_countTrapezes_123 : decode cX8_countTrapezes 123 = .ok (.iload_n 3, 1) := by decide +kernel
theorem dX8_countTrapezes_124 : decode cX8_countTrapezes 124 = .ok (.bipush (-2), 2) := by decide +kernel
theorem dX8_countTrapezes_126 : decode cX8_countTrapezes 126 = .ok (.iload_n 2, 1) := by decide +kernel
theorem dX8_countTrapezes_127 : decode cX8_countTrapezes 127 = .ok (.invokevirtual 107, 3) := by decide +kernel
theorem dX8_countTrapezes_130 : decode cX8_countTrapezes 130 = .ok (.iadd, 1) := by decide +kernel
theorem dX8_countTrapezes_131 : decode cX8_countTrapezes 131 = .ok (.istore_n 1, 1) := by decide +kernel
theorem dX8_countTrapezes_132 : decode cX8_countTrapezes 132 = .ok (.iinc 3 1, 3) := by decide +kernel
theorem dX8_countTrapezes_135 : decode cX8_countTrapezes 135 = .ok (.goto (-25), 3) := by decide +kernel
theorem dX8_countTrapezes_138 : decode cX8_countTrapezes 138 = .ok (.iload_n 1, 1) := by decide +kernel
theorem dX8_countTrapezes_139 : decode cX8_countTrapezes 139 = .ok (.ireturn, 1) := by decide +kernel
theorem dX8_aboveOf_0 : decode cX8_aboveOf 0 = .ok (.iconst 0, 1) := by decide +kernel
theorem dX8_aboveOf_1 : decode cX8_aboveOf 1 = .ok (.istore_n 2, 1) := by decide +kernel
theorem dX8_aboveOf_2 : decode cX8_aboveOf 2 = .ok (.iload_n 2, 1) := by decide +kernel
theorem dX8_aboveOf_3 : decode cX8_aboveOf 3 = .ok (.aload_n 0, 1) := by decide +kernel
theorem dX8_aboveOf_4 : decode cX8_aboveOf 4 = .ok (.getfield 15, 3) := by decide +kernel
theorem dX8_aboveOf_7 : decode cX8_aboveOf 7 = .ok (.getfield 88, 3) := by decide +kernel
theorem dX8_aboveOf_10 : decode cX8_aboveOf 10 = .ok (.invokevirtual 91, 3) := by decide +kernel
theorem dX8_aboveOf_13 : decode cX8_aboveOf 13 = .ok (.if_icmp .ge 38, 3) := by decide +kernel
theorem dX8_aboveOf_16 : decode cX8_aboveOf 16 = .ok (.aload_n 0, 1) := by decide +kernel
theorem dX8_aboveOf_17 : decode cX8_aboveOf 17 = .ok (.getfield 15, 3) := by decide +kernel
theorem dX8_aboveOf_20 : decode cX8_aboveOf 20 = .ok (.getfield 88, 3) := by decide +kernel
theorem dX8_aboveOf_23 : decode cX8_aboveOf 23 = .ok (.iload_n 2, 1) := by decide +kernel
theorem dX8_aboveOf_24 : decode cX8_aboveOf 24 = .ok (.invokevirtual 43, 3) := by decide +kernel
theorem dX8_aboveOf_27 : decode cX8_aboveOf 27 = .ok (.iload_n 1, 1) := by decide +kernel
theorem dX8_aboveOf_28 : decode cX8_aboveOf 28 = .ok (.if_icmp .ne 17, 3) := by decide +kernel
theorem dX8_aboveOf_31 : decode cX8_aboveOf 31 = .ok (.aload_n 0, 1) := by decide +kernel
theorem dX8_aboveOf_32 : decode cX8_aboveOf 32 = .ok (.getfield 15, 3) := by decide +kernel
theorem dX8_aboveOf_35 : decode cX8_aboveOf 35 = .ok (.getfield 88, 3) := by decide +kernel
theorem dX8_aboveOf_38 : decode cX8_aboveOf 38 = .ok (.iload_n 2, 1) := by decide +kernel
theorem dX8_aboveOf_39 : decode cX8_aboveOf 39 = .ok (.iconst 1, 1) := by decide +kernel
theorem dX8_aboveOf_40 : decode cX8_aboveOf 40 = .ok (.iadd, 1) := by decide +kernel
theorem dX8_aboveOf_41 : decode cX8_aboveOf 41 = .ok (.invokevirtual 43, 3) := by decide +kernel
theorem dX8_aboveOf_44 : decode cX8_aboveOf 44 = .ok (.ireturn, 1) := by decide +kernel
theorem dX8_aboveOf_45 : decode cX8_aboveOf 45 = .ok (.iinc 2 1, 3) := by decide +kernel
theorem dX8_aboveOf_48 : decode cX8_aboveOf 48 = .ok (.goto (-46), 3) := by decide +kernel
theorem dX8_aboveOf_51 : decode cX8_aboveOf 51 = .ok (.bipush (-2), 2) := by decide +kernel
theorem dX8_aboveOf_53 : decode cX8_aboveOf 53 = .ok (.ireturn, 1) := by decide +kernel
theorem dX8_endStretch_0 : decode cX8_endStretch 0 = .ok (.aload_n 0, 1) := by decide +kernel
theorem dX8_endStretch_1 : decode cX8_endStretch 1 = .ok (.getfield 32, 3) := by decide +kernel
theorem dX8_endStretch_4 : decode cX8_endStretch 4 = .ok (.iload_n 1, 1) := by decide +kernel
theorem dX8_endStretch_5 : decode cX8_endStretch 5 = .ok (.invokevirtual 43, 3) := by decide +kernel
theorem dX8_endStretch_8 : decode cX8_endStretch 8 = .ok (.istore 4, 2) := by decide +kernel
theorem dX8_endStretch_10 : decode cX8_endStretch 10 = .ok (.iload 4, 2) := by decide +kernel
theorem dX8_endStretch_12 : decode cX8_endStretch 12 = .ok (.iload_n 2, 1) := by decide +kernel
theorem dX8_endStretch_13 : decode cX8_endStretch 13 = .ok (.if_icmp .ne 5, 3) := by decide +kernel
theorem dX8_endStretch_16 : decode cX8_endStretch 16 = .ok (.iconst 0, 1) := by decide +kernel
theorem dX8_endStretch_17 : decode cX8_endStretch 17 = .ok (.ireturn, 1) := by decide +kernel
theorem dX8_endStretch_18 : decode cX8_endStretch 18 = .ok (.iload 4, 2) := by decide +kernel
theorem dX8_endStretch_20 : decode cX8_endStretch 20 = .ok (.bipush (-2), 2) := by decide +kernel
theorem dX8_endStretch_22 : decode cX8_endStretch 22 = .ok (.if_icmp .eq 19, 3) := by decide +kernel
theorem dX8_endStretch_25 : decode cX8_endStretch 25 = .ok (.iload_n 3, 1) := by decide +kernel
theorem dX8_endStretch_26 : decode cX8_endStretch 26 = .ok (.aload_n 0, 1) := by decide +kernel
theorem dX8_endStretch_27 : decode cX8_endStretch 27 = .ok (.getfield 35, 3) := by decide +kernel
theorem dX8_endStretch_30 : decode cX8_endStretch 30 = .ok (.iload_n 1, 1) := by decide +kernel
theorem dX8_endStretch_31 : decode cX8_endStretch 31 = .ok (.invokevirtual 43, 3) := by decide +kernel
theorem dX8_endStretch_34 : decode cX8_endStretch 34 = .ok (.if_icmp .le 7, 3) := by decide +kernel
theorem dX8_endStretch_37 : decode cX8_endStretch 37 = .ok (.iconst 1, 1) := by decide +kernel
theorem dX8_endStretch_38 : decode cX8_endStretch 38 = .ok (.goto 4, 3) := by decide +kernel
theorem dX8_endStretch_41 : decode cX8_endStretch 41 = .ok (.iconst 0, 1) := by decide +kernel
theorem dX8_endStretch_42 : decode cX8_endStretch 42 = .ok (.istore 5, 2) := by decide +kernel
theorem dX8_endStretch_44 : decode cX8_endStretch 44 = .ok (.aload_n 0, 1) := by decide +kernel
theorem dX8_endStretch_45 : decode cX8_endStretch 45 = .ok (.getfield 32, 3) := by decide +kernel
theorem dX8_endStretch_48 : decode cX8_endStretch 48 = .ok (.iload_n 1, 1) := by decide +kernel
theorem dX8_endStretch_49 : decode cX8_endStretch 49 = .ok (.iload_n 2, 1) := by decide +kernel
theorem dX8_endStretch_50 : decode cX8_endStretch 50 = .ok (.invokevirtual 110, 3) := by decide +kernel
theorem dX8_endStretch_53 : decode cX8_endStretch 53 = .ok (.aload_n 0, 1) := by decide +kernel
theorem dX8_endStretch_54 : decode cX8_endStretch 54 = .ok (.getfield 35, 3) := by decide +kernel
theorem dX8_endStretch_57 : decode cX8_endStretch 57 = .ok (.iload_n 1, 1) := by decide +kernel
theorem dX8_endStretch_58 : decode cX8_endStretch 58 = .ok (.iload_n 3, 1) := by decide +kernel
theorem dX8_endStretch_59 : decode cX8_endStretch 59 = .ok (.invokevirtual 110, 3) := by decide +kernel
theorem dX8_endStretch_62 : decode cX8_endStretch 62 = .ok (.iload 5, 2) := by decide +kernel
theorem dX8_endStretch_64 : decode cX8_endStretch 64 = .ok (.ifCond .eq 7, 3) := by decide +kernel
theorem dX8_endStretch_67 : decode cX8_endStretch 67 = .ok (.iconst 1, 1) := by decide +kernel
theorem dX8_endStretch_68 : decode cX8_endStretch 68 = .ok (.goto 4, 3) := by decide +kernel
theorem dX8_endStretch_71 : decode cX8_endStretch 71 = .ok (.iconst 0, 1) := by decide +kernel
theorem dX8_endStretch_72 : decode cX8_endStretch 72 = .ok (.ireturn, 1) := by decide +kernel
theorem dX8_measure_0 : decode cX8_measure 0 = .ok (.aload_n 0, 1) := by decide +kernel
theorem dX8_measure_1 : decode cX8_measure 1 = .ok (.getfield 28, 3) := by decide +kernel
theorem dX8_measure_4 : decode cX8_measure 4 = .ok (.bipush 9, 2) := by decide +kernel
theorem dX8_measure_6 : decode cX8_measure 6 = .ok (.iconst 0, 1) := by decide +kernel
theorem dX8_measure_7 : decode cX8_measure 7 = .ok (.invokevirtual 98, 3) := by decide +kernel
theorem dX8_measure_10 : decode cX8_measure 10 = .ok (.iconst (-1), 1) := by decide +kernel
theorem dX8_measure_11 : decode cX8_measure 11 = .ok (.istore_n 1, 1) := by decide +kernel
theorem dX8_measure_12 : decode cX8_measure 12 = .ok (.iconst 0, 1) := by decide +kernel
theorem dX8_measure_13 : decode cX8_measure 13 = .ok (.istore_n 2, 1) := by decide +kernel
theorem dX8_measure_14 : decode cX8_measure 14 = .ok (.iload_n 2, 1) := by decide +kernel
theorem dX8_measure_15 : decode cX8_measure 15 = .ok (.bipush 60, 2) := by decide +kernel
theorem dX8_measure_17 : decode cX8_measure 17 = .ok (.if_icmp .gt 33, 3) := by decide +kernel
theorem dX8_measure_20 : decode cX8_measure 20 = .ok (.aload_n 0, 1) := by decide +kernel
theorem dX8_measure_21 : decode cX8_measure 21 = .ok (.iload_n 2, 1) := by decide +kernel
theorem dX8_measure_22 : decode cX8_measure 22 = .ok (.invokevirtual 70, 3) := by decide +kernel
theorem dX8_measure_25 : decode cX8_measure 25 = .ok (.ifCond .eq 25, 3) := by decide +kernel
theorem dX8_measure_28 : decode cX8_measure 28 = .ok (.aload_n 0, 1) := by decide +kernel
theorem dX8_measure_29 : decode cX8_measure 29 = .ok (.aload_n 0, 1) := by decide +kernel
theorem dX8_measure_30 : decode cX8_measure 30 = .ok (.iload_n 2, 1) := by decide +kernel
theorem dX8_measure_31 : decode cX8_measure 31 = .ok (.invokevirtual 74, 3) := by decide +kernel
theorem dX8_measure_34 : decode cX8_measure 34 = .ok (.iload_n 1, 1) := by decide +kernel
theorem dX8_measure_35 : decode cX8_measure 35 = .ok (.invokevirtual 113, 3) := by decide +kernel
theorem dX8_measure_38 : decode cX8_measure 38 = .ok (.istore_n 1, 1) := by decide +kernel
theorem dX8_measure_39 : decode cX8_measure 39 = .ok (.aload_n 0, 1) := by decide +kernel
theorem dX8_measure_40 : decode cX8_measure 40 = .ok (.iload_n 2, 1) := by decide +kernel
theorem dX8_measure_41 : decode cX8_measure 41 = .ok (.invokevirtual 117, 3) := by decide +kernel
theorem dX8_measure_44 : decode cX8_measure 44 = .ok (.iinc 2 1, 3) := by decide +kernel
theorem dX8_measure_47 : decode cX8_measure 47 = .ok (.goto (-33), 3) := by decide +kernel
theorem dX8_measure_50 : decode cX8_measure 50 = .ok (.return_, 1) := by decide +kernel
theorem dX8_showUnlessShown_0 : decode cX8_showUnlessShown 0 = .ok (.iload_n 1, 1) := by decide +kernel
theorem dX8_showUnlessShown_1 : decode cX8_showUnlessShown 1 = .ok (.iload_n 2, 1) := by decide +kernel
theorem dX8_showUnlessShown_2 : decode cX8_showUnlessShown 2 = .ok (.if_icmp .eq 8, 3) := by decide +kernel
theorem dX8_showUnlessShown_5 : decode cX8_showUnlessShown 5 = .ok (.aload_n 0, 1) := by decide +kernel
theorem dX8_showUnlessShown_6 : decode cX8_showUnlessShown 6 = .ok (.iload_n 1, 1) := by decide +kernel
theorem dX8_showUnlessShown_7 : decode cX8_showUnlessShown 7 = .ok (.invokevirtual 77, 3) := by decide +kernel
theorem dX8_showUnlessShown_10 : decode cX8_showUnlessShown 10 = .ok (.iload_n 1, 1) := by decide +kernel
theorem dX8_showUnlessShown_11 : decode cX8_showUnlessShown 11 = .ok (.ireturn, 1) := by decide +kernel
theorem dX8_measureAt_0 : decode cX8_measureAt 0 = .ok (.iconst (-1), 1) := by decide +kernel
theorem dX8_measureAt_1 : decode cX8_measureAt 1 = .ok (.istore_n 2, 1) := by decide +kernel
theorem dX8_measureAt_2 : decode cX8_measureAt 2 = .ok (.iconst 0, 1) := by decide +kernel
theorem dX8_measureAt_3 : decode cX8_measureAt 3 = .ok (.istore_n 3, 1) := by decide +kernel
theorem dX8_measureAt_4 : decode cX8_measureAt 4 = .ok (.iconst 0, 1) := by decide +kernel
theorem dX8_measureAt_5 : decode cX8_measureAt 5 = .ok (.istore 4, 2) := by decide +kernel
theorem dX8_measureAt_7 : decode cX8_measureAt 7 = .ok (.iload 4, 2) := by decide +kernel
theorem dX8_measureAt_9 : decode cX8_measureAt 9 = .ok (.aload_n 0, 1) := by decide +kernel
theorem dX8_measureAt_10 : decode cX8_measureAt 10 = .ok (.getfield 15, 3) := by decide +kernel
theorem dX8_measureAt_13 : decode cX8_measureAt 13 = .ok (.getfield 88, 3) := by decide +kernel
theorem dX8_measureAt_16 : decode cX8_measureAt 16 = .ok (.invokevirtual 91, 3) := by decide +kernel
theorem dX8_measureAt_19 : decode cX8_measureAt 19 = .ok (.if_icmp .ge 66, 3) := by decide +kernel
theorem dX8_measureAt_22 : decode cX8_measureAt 22 = .ok (.aload_n 0, 1) := by decide +kernel
theorem dX8_measureAt_23 : decode cX8_measureAt 23 = .ok (.getfield 15, 3) := by decide +kernel
theorem dX8_measureAt_26 : decode cX8_measureAt 26 = .ok (.getfield 88, 3) := by decide +kernel
theorem dX8_measureAt_29 : decode cX8_measureAt 29 = .ok (.iload 4, 2) := by decide +kernel
theorem dX8_measureAt_31 : decode cX8_measureAt 31 = .ok (.invokevirtual 43, 3) := by decide +kernel
theorem dX8_measureAt_34 : decode cX8_measureAt 34 = .ok (.istore 5, 2) := by decide +kernel
theorem dX8_measureAt_36 : decode cX8_measureAt 36 = .ok (.aload_n 0, 1) := by decide +kernel
theorem dX8_measureAt_37 : decode cX8_measureAt 37 = .ok (.getfield 9, 3) := by decide +kernel
theorem dX8_measureAt_40 : decode cX8_measureAt 40 = .ok (.iload 5, 2) := by decide +kernel
theorem dX8_measureAt_42 : decode cX8_measureAt 42 = .ok (.iload_n 1, 1) := by decide +kernel
theorem dX8_measureAt_43 : decode cX8_measureAt 43 = .ok (.invokevirtual 120, 3) := by decide +kernel
theorem dX8_measureAt_46 : decode cX8_measureAt 46 = .ok (.istore 6, 2) := by decide +kernel
theorem dX8_measureAt_48 : decode cX8_measureAt 48 = .ok (.aload_n 0, 1) := by decide +kernel
theorem dX8_measureAt_49 : decode cX8_measureAt 49 = .ok (.getfield 28, 3) := by decide +kernel
theorem dX8_measureAt_52 : decode cX8_measureAt 52 = .ok (.iload_n 2, 1) := by decide +kernel
theorem dX8_measureAt_53 : decode cX8_measureAt 53 = .ok (.iconst 1, 1) := by decide +kernel
theorem dX8_measureAt_54 : decode cX8_measureAt 54 = .ok (.iadd, 1) := by decide +kernel
theorem dX8_measureAt_55 : decode cX8_measureAt 55 = .ok (.aload_n 0, 1) := by decide +kernel
theorem dX8_measureAt_56 : decode cX8_measureAt 56 = .ok (.getfield 28, 3) := by decide +kernel
theorem dX8_measureAt_59 : decode cX8_measureAt 59 = .ok (.iload_n 2, 1) := by decide +kernel
theorem dX8_measureAt_60 : decode cX8_measureAt 60 = .ok (.iconst 1, 1) := by decide +kernel
theorem dX8_measureAt_61 : decode cX8_measureAt 61 = .ok (.iadd, 1) := by decide +kernel
theorem dX8_measureAt_62 : decode cX8_measureAt 62 = .ok (.invokevirtual 43, 3) := by decide +kernel
theorem dX8_measureAt_65 : decode cX8_measureAt 65 = .ok (.iload 6, 2) := by decide +kernel
theorem dX8_measureAt_67 : decode cX8_measureAt 67 = .ok (.iadd, 1) := by decide +kernel
theorem dX8_measureAt_68 : decode cX8_measureAt 68 = .ok (.iload_n 3, 1) := by decide +kernel
theorem dX8_measureAt_69 : decode cX8_measureAt 69 = .ok (.isub, 1) := by decide +kernel
theorem dX8_measureAt_70 : decode cX8_measureAt 70 = .ok (.invokevirtual 110, 3) := by decide +kernel
theorem dX8_measureAt_73 : decode cX8_measureAt 73 = .ok (.iload 5, 2) := by decide +kernel
theorem dX8_measureAt_75 : decode cX8_measureAt 75 = .ok (.istore_n 2, 1) := by decide +kernel
theorem dX8_measureAt_76 : decode cX8_measureAt 76 = .ok (.iload 6, 2) := by decide +kernel
theorem dX8_measureAt_78 : decode cX8_measureAt 78 = .ok (.istore_n 3, 1) := by decide +kernel
theorem dX8_measureAt_79 : decode cX8_measureAt 79 = .ok (.iinc 4 1, 3) := by decide +kernel
theorem dX8_measureAt_82 : decode cX8_measureAt 82 = .ok (.goto (-75), 3) := by decide +kernel
theorem dX8_measureAt_85 : decode cX8_measureAt 85 = .ok (.aload_n 0, 1) := by decide +kernel
theorem dX8_measureAt_86 : decode cX8_measureAt 86 = .ok (.getfield 28, 3) := by decide +kernel
theorem dX8_measureAt_89 : decode cX8_measureAt 89 = .ok (.iload_n 2, 1) := by decide +kernel
theorem dX8_measureAt_90 : decode cX8_measureAt 90 = .ok (.iconst 1, 1) := by decide +kernel
theorem dX8_measureAt_91 : decode cX8_measureAt 91 = .ok (.iadd, 1) := by decide +kernel
theorem dX8_measureAt_92 : decode cX8_measureAt 92 = .ok (.aload_n 0, 1) := by decide +kernel
theorem dX8_measureAt_93 : decode cX8_measureAt 93 = .ok (.getfield 28, 3) := by decide +kernel
theorem dX8_measureAt_96 : decode cX8_measureAt 96 = .ok (.iload_n 2, 1) := by decide +kernel
theorem dX8_measureAt_97 : decode cX8_measureAt 97 = .ok (.iconst 1, 1) := by decide +kernel
theorem dX8_measureAt_98 : decode cX8_measureAt 98 = .ok (.iadd, 1) := by decide +kernel
theorem dX8_measureAt_99 : decode cX8_measureAt 99 = .ok (.invokevirtual 43, 3) := by decide +kernel
theorem dX8_measureAt_102 : decode cX8_measureAt 102 = .ok (.bipush 60, 2) := by decide +kernel
theorem dX8_measureAt_104 : decode cX8_measureAt 104 = .ok (.iadd, 1) := by decide +kernel
theorem dX8_measureAt_105 : decode cX8_measureAt 105 = .ok (.iconst 1, 1) := by decide +kernel
theorem dX8_measureAt_106 : decode cX8_measureAt 106 = .ok (.iadd, 1) := by decide +kernel
theorem dX8_measureAt_107 : decode cX8_measureAt 107 = .ok (.iload_n 3, 1) := by decide +kernel
theorem dX8_measureAt_108 : decode cX8_measureAt 108 = .ok (.isub, 1) := by decide +kernel
theorem dX8_measureAt_109 : decode cX8_measureAt 109 = .ok (.invokevirtual 110, 3) := by decide +kernel
theorem dX8_measureAt_112 : decode cX8_measureAt 112 = .ok (.return_, 1) := by decide +kernel
theorem dX8_hide_0 : decode cX8_hide 0 = .ok (.aload_n 0, 1) := by decide +kernel
theorem dX8_hide_1 : decode cX8_hide 1 = .ok (.iconst 0, 1) := by decide +kernel
theorem dX8_hide_2 : decode cX8_hide 2 = .ok (.putfield 123, 3) := by decide +kernel
theorem dX8_hide_5 : decode cX8_hide 5 = .ok (.aload_n 0, 1) := by decide +kernel
theorem dX8_hide_6 : decode cX8_hide 6 = .ok (.iconst 0, 1) := by decide +kernel
theorem dX8_hide_7 : decode cX8_hide 7 = .ok (.putfield 126, 3) := by decide +kernel
theorem dX8_hide_10 : decode cX8_hide 10 = .ok (.aload_n 0, 1) := by decide +kernel
theorem dX8_hide_11 : decode cX8_hide 11 = .ok (.iconst (-1), 1) := by decide +kernel
theorem dX8_hide_12 : decode cX8_hide 12 = .ok (.putfield 129, 3) := by decide +kernel
theorem dX8_hide_15 : decode cX8_hide 15 = .ok (.iconst (-1), 1) := by decide +kernel
theorem dX8_hide_16 : decode cX8_hide 16 = .ok (.istore_n 1, 1) := by decide +kernel
theorem dX8_hide_17 : decode cX8_hide 17 = .ok (.iconst 0, 1) := by decide +kernel
theorem dX8_hide_18 : decode cX8_hide 18 = .ok (.istore_n 2, 1) := by decide +kernel
theorem dX8_hide_19 : decode cX8_hide 19 = .ok (.iload_n 2, 1) := by decide +kernel
theorem dX8_hide_20 : decode cX8_hide 20 = .ok (.bipush 60, 2) := by decide +kernel
theorem dX8_hide_22 : decode cX8_hide 22 = .ok (.if_icmp .gt 58, 3) := by decide +kernel
theorem dX8_hide_25 : decode cX8_hide 25 = .ok (.aload_n 0, 1) := by decide +kernel
theorem dX8_hide_26 : decode cX8_hide 26 = .ok (.iload_n 2, 1) := by decide +kernel
theorem dX8_hide_27 : decode cX8_hide 27 = .ok (.invokevirtual 70, 3) := by decide +kernel
theorem dX8_hide_30 : decode cX8_hide 30 = .ok (.ifCond .eq 50, 3) := by decide +kernel
theorem dX8_hide_33 : decode cX8_hide 33 = .ok (.aload_n 0, 1) := by decide +kernel
theorem dX8_hide_34 : decode cX8_hide 34 = .ok (.aload_n 0, 1) := by decide +kernel
theorem dX8_hide_35 : decode cX8_hide 35 = .ok (.iload_n 2, 1) := by decide +kernel
theorem dX8_hide_36 : decode cX8_hide 36 = .ok (.invokevirtual 74, 3) := by decide +kernel
theorem dX8_hide_39 : decode cX8_hide 39 = .ok (.iload_n 1, 1) := by decide +kernel
theorem dX8_hide_40 : decode cX8_hide 40 = .ok (.invokevirtual 113, 3) := by decide +kernel
theorem dX8_hide_43 : decode cX8_hide 43 = .ok (.istore_n 1, 1) := by decide +kernel
theorem dX8_hide_44 : decode cX8_hide 44 = .ok (.aload_n 0, 1) := by decide +kernel
theorem dX8_hide_45 : decode cX8_hide 45 = .ok (.iload_n 2, 1) := by decide +kernel
theorem dX8_hide_46 : decode cX8_hide 46 = .ok (.iconst 0, 1) := by decide +kernel
theorem dX8_hide_47 : decode cX8_hide 47 = .ok (.invokevirtual 80, 3) := by decide +kernel
theorem dX8_hide_50 : decode cX8_hide 50 = .ok (.aload_n 0, 1) := by decide +kernel
theorem dX8_hide_51 : decode cX8_hide 51 = .ok (.getfield 84, 3) := by decide +kernel
theorem dX8_hide_54 : decode cX8_hide 54 = .ok (.aload_n 0, 1) := by decide +kernel
theorem dX8_hide_55 : decode cX8_hide 55 = .ok (.getfield 129, 3) := by decide +kernel
theorem dX8_hide_58 : decode cX8_hide 58 = .ok (.if_icmp .le 16, 3) := by decide +kernel
theorem dX8_hide_61 : decode cX8_hide 61 = .ok (.aload_n 0, 1) := by decide +kernel
theorem dX8_hide_62 : decode cX8_hide 62 = .ok (.aload_n 0, 1) := by decide +kernel
theorem dX8_hide_63 : decode cX8_hide 63 = .ok (.getfield 84, 3) := by decide +kernel
theorem dX8_hide_66 : decode cX8_hide 66 = .ok (.putfield 129, 3) := by decide +kernel
theorem dX8_hide_69 : decode cX8_hide 69 = .ok (.aload_n 0, 1) := by decide +kernel
theorem dX8_hide_70 : decode cX8_hide 70 = .ok (.iload_n 2, 1) := by decide +kernel
theorem dX8_hide_71 : decode cX8_hide 71 = .ok (.putfield 123, 3) := by decide +kernel
theorem dX8_hide_74 : decode cX8_hide 74 = .ok (.iinc 2 1, 3) := by decide +kernel
theorem dX8_hide_77 : decode cX8_hide 77 = .ok (.goto (-58), 3) := by decide +kernel
theorem dX8_hide_80 : decode cX8_hide 80 = .ok (.return_, 1) := by decide +kernel
theorem dX9_init_0 : decode cX9_init 0 = .ok (.aload_n 0, 1) := by decide +kernel
theorem dX9_init_1 : decode cX9_init 1 = .ok (.invokespecial 3, 3) := by decide +kernel
theorem dX9_init_4 : decode cX9_init 4 = .ok (.aload_n 0, 1) := by decide +kernel
theorem dX9_init_5 : decode cX9_init 5 = .ok (.aload_n 1, 1) := by decide +kernel
theorem dX9_init_6 : decode cX9_init 6 = .ok (.putfield 9, 3) := by decide +kernel
theorem dX9_init_9 : decode cX9_init 9 = .ok (.aload_n 0, 1) := by decide +kernel
theorem dX9_init_10 : decode cX9_init 10 = .ok (.new 15, 3) := by decide +kernel
theorem dX9_init_13 : decode cX9_init 13 = .ok (.dup, 1) := by decide +kernel
theorem dX9_init_14 : decode cX9_init 14 = .ok (.bipush 61, 2) := by decide +kernel
theorem dX9_init_16 : decode cX9_init 16 = .ok (.invokespecial 17, 3) := by decide +kernel
theorem dX9_init_19 : decode cX9_init 19 = .ok (.putfield 20, 3) := by decide +kernel
theorem dX9_init_22 : decode cX9_init 22 = .ok (.aload_n 0, 1) := by decide +kernel
theorem dX9_init_23 : decode cX9_init 23 = .ok (.new 15, 3) := by decide +kernel
theorem dX9_init_26 : decode cX9_init 26 = .ok (.dup, 1) := by decide +kernel
theorem dX9_init_27 : decode cX9_init 27 = .ok (.bipush 61, 2) := by decide +kernel
theorem dX9_init_29 : decode cX9_init 29 = .ok (.invokespecial 17, 3) := by decide +kernel
theorem dX9_init_32 : decode cX9_init 32 = .ok (.putfield 24, 3) := by decide +kernel
theorem dX9_init_35 : decode cX9_init 35 = .ok (.aload_n 0, 1) := by decide +kernel
theorem dX9_init_36 : decode cX9_init 36 = .ok (.new 15, 3) := by decide +kernel
theorem dX9_init_39 : decode cX9_init 39 = .ok (.dup, 1) := by decide +kernel
theorem dX9_init_40 : decode cX9_init 40 = .ok (.bipush 30, 2) := by decide +kernel
theorem dX9_init_42 : decode cX9_init 42 = .ok (.invokespecial 17, 3) := by decide +kernel
theorem dX9_init_45 : decode cX9_init 45 = .ok (.putfield 27, 3) := by decide +kernel
theorem dX9_init_48 : decode cX9_init 48 = .ok (.aload_n 0, 1) := by decide +kernel
theorem dX9_init_49 : decode cX9_init 49 = .ok (.new 15, 3) := by decide +kernel
theorem dX9_init_52 : decode cX9_init 52 = .ok (.dup, 1) := by decide +kernel
theorem dX9_init_53 : decode cX9_init 53 = .ok (.bipush 30, 2) := by decide +kernel
theorem dX9_init_55 : decode cX9_init 55 = .ok (.invokespecial 17, 3) := by decide +kernel
theorem dX9_init_58 : decode cX9_init 58 = .ok (.putfield 30, 3) := by decide +kernel
theorem dX9_init_61 : decode cX9_init 61 = .ok (.aload_n 0, 1) := by decide +kernel
theorem dX9_init_62 : decode cX9_init 62 = .ok (.new 15, 3) := by decide +kernel
theorem dX9_init_65 : decode cX9_init 65 = .ok (.dup, 1) := by decide +kernel
theorem dX9_init_66 : decode cX9_init 66 = .ok (.bipush 30, 2) := by decide +kernel
theorem dX9_init_68 : decode cX9_init 68 = .ok (.invokespecial 17, 3) := by decide +kernel
theorem dX9_init_71 : decode cX9_init 71 = .ok (.putfield 33, 3) := by decide +kernel
theorem dX9_init_74 : decode cX9_init 74 = .ok (.aload_n 0, 1) := by decide +kernel
theorem dX9_init_75 : decode cX9_init 75 = .ok (.new 15, 3) := by decide +kernel
theorem dX9_init_78 : decode cX9_init 78 = .ok (.dup, 1) := by decide +kernel
theorem dX9_init_79 : decode cX9_init 79 = .ok (.bipush 30, 2) := by decide +kernel
theorem dX9_init_81 : decode cX9_init 81 = .ok (.invokespecial 17, 3) := by decide +kernel
theorem dX9_init_84 : decode cX9_init 84 = .ok (.putfield 36, 3) := by decide +kernel
theorem dX9_init_87 : decode cX9_init 87 = .ok (.aload_n 0, 1) := by decide +kernel
theorem dX9_init_88 : decode cX9_init 88 = .ok (.iconst 0, 1) := by decide +kernel
theorem dX9_init_89 : decode cX9_init 89 = .ok (.putfield 39, 3) := by decide +kernel
theorem dX9_init_92 : decode cX9_init 92 = .ok (.return_, 1) := by decide +kernel
theorem dX9_forget_0 : decode cX9_forget 0 = .ok (.aload_n 0, 1) := by decide +kernel
theorem dX9_forget_1 : decode cX9_forget 1 = .ok (.getfield 27, 3) := by decide +kernel
theorem dX9_forget_4 : decode cX9_forget 4 = .ok (.invokevirtual 43, 3) := by decide +kernel
theorem dX9_forget_7 : decode cX9_forget 7 = .ok (.aload_n 0, 1) := by decide +kernel
theorem dX9_forget_8 : decode cX9_forget 8 = .ok (.getfield 30, 3) := by decide +kernel
theorem dX9_forget_11 : decode cX9_forget 11 = .ok (.invokevirtual 43, 3) := by decide +kernel
theorem dX9_forget_14 : decode cX9_forget 14 = .ok (.aload_n 0, 1) := by decide +kernel
theorem dX9_forget_15 : decode cX9_forget 15 = .ok (.getfield 33, 3) := by decide +kernel
theorem dX9_forget_18 : decode cX9_forget 18 = .ok (.invokevirtual 43, 3) := by decide +kernel
theorem dX9_forget_21 : decode cX9_forget 21 = .ok (.aload_n 0, 1) := by decide +kernel
theorem dX9_forget_22 : decode cX9_forget 22 = .ok (.getfield 36, 3) := by decide +kernel
theorem dX9_forget_25 : decode cX9_forget 25 = .ok (.invokevirtual 43, 3) := by decide +kernel
theorem dX9_forget_28 : decode cX9_forget 28 = .ok (.return_, 1) := by decide +kernel
theorem dX9_tell_0 : decode cX9_tell 0 = .ok (.aload_n 0, 1) := by decide +kernel
theorem dX9_tell_1 : decode cX9_tell 1 = .ok (.getfield 27, 3) := by decide +kernel
theorem dX9_tell_4 : decode cX9_tell 4 = .ok (.invokevirtual 46, 3) := by decide +kernel
theorem dX9_tell_7 : decode cX9_tell 7 = .ok (.bipush 30, 2) := by decide +kernel
theorem dX9_tell_9 : decode cX9_tell 9 = .ok (.if_icmp .lt 5, 3) := by decide +kernel
theorem dX9_tell_12 : decode cX9_tell 12 = .ok (.iconst (-1), 1) := by decide +kernel
theorem dX9_tell_13 : decode cX9_tell 13 = .ok (.ireturn, 1) := by decide +kernel
theorem dX9_tell_14 : decode cX9_tell 14 = .ok (.aload_n 0, 1) := by decide +kernel
theorem dX9_tell_15 : decode cX9_tell 15 = .ok (.getfield 27, 3) := by decide +kernel
theorem dX9_tell_18 : decode cX9_tell 18 = .ok (.iload_n 1, 1) := by decide +kernel
theorem dX9_tell_19 : decode cX9_tell 19 = .ok (.invokevirtual 50, 3) := by decide +kernel
theorem dX9_tell_22 : decode cX9_tell 22 = .ok (.aload_n 0, 1) := by decide +kernel
theorem dX9_tell_23 : decode cX9_tell 23 = .ok (.getfield 30, 3) := by decide +kernel
theorem dX9_tell_26 : decode cX9_tell 26 = .ok (.iload_n 2, 1) := by decide +kernel
theorem dX9_tell_27 : decode cX9_tell 27 = .ok (.ifCond .eq 7, 3) := by decide +kernel
theorem dX9_tell_30 : decode cX9_tell 30 = .ok (.iconst 1, 1) := by decide +kernel
theorem dX9_tell_31 : decode cX9_tell 31 = .ok (.goto 4, 3) := by decide +kernel
theorem dX9_tell_34 : decode cX9_tell 34 = .ok (.iconst 0, 1) := by decide +kernel
theorem dX9_tell_35 : decode cX9_tell 35 = .ok (.invokevirtual 50, 3) := by decide +kernel
theorem dX9_tell_38 : decode cX9_tell 38 = .ok (.aload_n 0, 1) := by decide +kernel
theorem dX9_tell_39 : decode cX9_tell 39 = .ok (.getfield 33, 3) := by decide +kernel
theorem dX9_tell_42 : decode cX9_tell 42 = .ok (.aload_n 0, 1) := by decide +kernel
theorem dX9_tell_43 : decode cX9_tell 43 = .ok (.getfield 39, 3) := by decide +kernel
theorem dX9_tell_46 : decode cX9_tell 46 = .ok (.invokevirtual 50, 3) := by decide +kernel
theorem dX9_tell_49 : decode cX9_tell 49 = .ok (.aload_n 0, 1) := by decide +kernel
theorem dX9_tell_50 : decode cX9_tell 50 = .ok (.getfield 36, 3) := by decide +kernel
theorem dX9_tell_53 : decode cX9_tell 53 = .ok (.iconst (-1), 1) := by decide +kernel
theorem dX9_tell_54 : decode cX9_tell 54 = .ok (.invokevirtual 50, 3) := by decide +kernel
theorem dX9_tell_57 : decode cX9_tell 57 = .ok (.aload_n 0, 1) := by decide +kernel
theorem dX9_tell_58 : decode cX9_tell 58 = .ok (.getfield 27, 3) := by decide +kernel
theorem dX9_tell_61 : decode cX9_tell 61 = .ok (.invokevirtual 46, 3) := by decide +kernel
theorem dX9_tell_64 : decode cX9_tell 64 = .ok (.iconst 1, 1) := by decide +kernel
theorem dX9_tell_65 : decode cX9_tell 65 = .ok (.isub, 1) := by decide +kernel
theorem dX9_tell_66 : decode cX9_tell 66 = .ok (.ireturn, 1) := by decide +kernel
theorem dX9_takeBack_0 : decode cX9_takeBack 0 = .ok (.iload_n 1, 1) := by decide +kernel
theorem dX9_takeBack_1 : decode cX9_takeBack 1 = .ok (.ifCond .lt 26, 3) := by decide +kernel
theorem dX9_takeBack_4 : decode cX9_takeBack 4 = .ok (.iload_n 1, 1) := by decide +kernel
theorem dX9_takeBack_5 : decode cX9_takeBack 5 = .ok (.aload_n 0, 1) := by decide +kernel
theorem dX9_takeBack_6 : decode cX9_takeBack 6 = .ok (.getfield 27, 3) := by decide +kernel
theorem dX9_takeBack_9 : decode cX9_takeBack 9 = .ok (.invokevirtual 46, 3) := by decide +kernel
theorem dX9_takeBack_12 : decode cX9_takeBack 12 = .ok (.if_icmp .ge 15, 3) := by decide +kernel
theorem dX9_takeBack_15 : decode cX9_takeBack 15 = .ok (.aload_n 0, 1) := by decide +kernel
theorem dX9_takeBack_16 : decode cX9_takeBack 16 = .ok (.getfield 36, 3) := by decide +kernel
theorem dX9_takeBack_19 : decode cX9_takeBack 19 = .ok (.iload_n 1, 1) := by decide +kernel
theorem dX9_takeBack_20 : decode cX9_takeBack 20 = .ok (.invokevirtual 53, 3) := by decide +kernel
theorem dX9_takeBack_23 : decode cX9_takeBack 23 = .ok (.iconst (-1), 1) := by decide +kernel
theorem dX9_takeBack_24 : decode cX9_takeBack 24 = .ok (.if_icmp .eq 5, 3) := by decide +kernel
theorem dX9_takeBack_27 : decode cX9_takeBack 27 = .ok (.iconst 0, 1) := by decide +kernel
theorem dX9_takeBack_28 : decode cX9_takeBack 28 = .ok (.ireturn, 1) := by decide +kernel
theorem dX9_takeBack_29 : decode cX9_takeBack 29 = .ok (.aload_n 0, 1) := by decide +kernel
theorem dX9_takeBack_30 : decode cX9_takeBack 30 = .ok (.getfield 36, 3) := by decide +kernel
theorem dX9_takeBack_33 : decode cX9_takeBack 33 = .ok (.iload_n 1, 1) := by decide +kernel
theorem dX9_takeBack_34 : decode cX9_takeBack 34 = .ok (.aload_n 0, 1) := by decide +kernel
theorem dX9_takeBack_35 : decode cX9_takeBack 35 = .ok (.getfield 39, 3) := by decide +kernel
theorem dX9_takeBack_38 : decode cX9_takeBack 38 = .ok (.invokevirtual 57, 3) := by decide +kernel
theorem dX9_takeBack_41 : decode cX9_takeBack 41 = .ok (.iconst 1, 1) := by decide +kernel
theorem dX9_takeBack_42 : decode cX9_takeBack 42 = .ok (.ireturn, 1) := by decide +kernel
theorem dX9_goOn_0 : decode cX9_goOn 0 = .ok (.iload_n 1, 1) := by decide +kernel
theorem dX9_goOn_1 : decode cX9_goOn 1 = .ok (.ifCond .lt 21, 3) := by decide +kernel
theorem dX9_goOn_4 : decode cX9_goOn 4 = .ok (.iload_n 1, 1) := by decide +kernel
theorem dX9_goOn_5 : decode cX9_goOn 5 = .ok (.sipush 1000, 3) := by decide +kernel
theorem dX9_goOn_8 : decode cX9_goOn 8 = .ok (.if_icmp .gt 14, 3) := by decide +kernel
theorem dX9_goOn_11 : decode cX9_goOn 11 = .ok (.aload_n 0, 1) := by decide +kernel
theorem dX9_goOn_12 : decode cX9_goOn 12 = .ok (.getfield 39, 3) := by decide +kernel
theorem dX9_goOn_15 : decode cX9_goOn 15 = .ok (.iload_n 1, 1) := by decide +kernel
theorem dX9_goOn_16 : decode cX9_goOn 16 = .ok (.iadd, 1) := by decide +kernel
theorem dX9_goOn_17 : decode cX9_goOn 17 = .ok (.ldc 61, 2) := by decide +kernel
theorem dX9_goOn_19 : decode cX9_goOn 19 = .ok (.if_icmp .le 5, 3) := by decide +kernel
theorem dX9_goOn_22 : decode cX9_goOn 22 = .ok (.iconst (-1), 1) := by decide +kernel
theorem dX9_goOn_23 : decode cX9_goOn 23 = .ok (.ireturn, 1) := by decide +kernel
theorem dX9_goOn_24 : decode cX9_goOn 24 = .ok (.aload_n 0, 1) := by decide +kernel
theorem dX9_goOn_25 : decode cX9_goOn 25 = .ok (.dup, 1) := by decide +kernel
theorem dX9_goOn_26 : decode cX9_goOn 26 = .ok (.getfield 39, 3) := by decide +kernel
theorem dX9_goOn_29 : decode cX9_goOn 29 = .ok (.iload_n 1, 1) := by decide +kernel
theorem dX9_goOn_30 : decode cX9_goOn 30 = .ok (.iadd, 1) := by decide +kernel
theorem dX9_goOn_31 : decode cX9_goOn 31 = .ok (.putfield 39, 3) := by decide +kernel
theorem dX9_goOn_34 : decode cX9_goOn 34 = .ok (.aload_n 0, 1) := by decide +kernel
theorem dX9_goOn_35 : decode cX9_goOn 35 = .ok (.getfield 39, 3) := by decide +kernel
theorem dX9_goOn_38 : decode cX9_goOn 38 = .ok (.ireturn, 1) := by decide +kernel
theorem dX9_gather_0 : decode cX9_gather 0 = .ok (.aload_n 0, 1) := by decide +kernel
theorem dX9_gather_1 : decode cX9_gather 1 = .ok (.getfield 20, 3) := by decide +kernel
theorem dX9_gather_4 : decode cX9_gather 4 = .ok (.invokevirtual 43, 3) := by decide +kernel
theorem dX9_gather_7 : decode cX9_gather 7 = .ok (.aload_n 0, 1) := by decide +kernel
theorem dX9_gather_8 : decode cX9_gather 8 = .ok (.getfield 24, 3) := by decide +kernel
theorem dX9_gather_11 : decode cX9_gather 11 = .ok (.invokevirtual 43, 3) := by decide +kernel
theorem dX9_gather_14 : decode cX9_gather 14 = .ok (.iload_n 1, 1) := by decide +kernel
theorem dX9_gather_15 : decode cX9_gather 15 = .ok (.bipush (-9), 2) := by decide +kernel
theorem dX9_gather_17 : decode cX9_gather 17 = .ok (.if_icmp .lt 9, 3) := by decide +kernel
theorem dX9_gather_20 : decode cX9_gather 20 = .ok (.iload_n 1, 1) := by decide +kernel
theorem dX9_gather_21 : decode cX9_gather 21 = .ok (.bipush 99, 2) := by decide +kernel
theorem dX9_gather_23 : decode cX9_gather 23 = .ok (.if_icmp .le 5, 3) := by decide +kernel
theorem dX9_gather_26 : decode cX9_gather 26 = .ok (.iconst 0, 1) := by decide +kernel
theorem dX9_gather_27 : decode cX9_gather 27 = .ok (.ireturn, 1) := by decide +kernel
theorem dX9_gather_28 : decode cX9_gather 28 = .ok (.iconst 0, 1) := by decide +kernel
theorem dX9_gather_29 : decode cX9_gather 29 = .ok (.istore_n 3, 1) := by decide +kernel
theorem dX9_gather_30 : decode cX9_gather 30 = .ok (.iload_n 3, 1) := by decide +kernel
theorem dX9_gather_31 : decode cX9_gather 31 = .ok (.bipush 60, 2) := by decide +kernel
theorem dX9_gather_33 : decode cX9_gather 33 = .ok (.if_icmp .gt 47, 3) := by decide +kernel
theorem dX9_gather_36 : decode cX9_gather 36 = .ok (.aload_n 0, 1) := by decide +kernel
theorem dX9_gather_37 : decode cX9_gather 37 = .ok (.getfield 9, 3) := by decide +kernel
theorem dX9_gather_40 : decode cX9_gather 40 = .ok (.iload_n 3, 1) := by decide +kernel
theorem dX9_gather_41 : decode cX9_gather 41 = .ok (.iload_n 1, 1) := by decide +kernel
theorem dX9_gather_42 : decode cX9_gather 42 = .ok (.invokevirtual 62, 3) := by decide +kernel
theorem dX9_gather_45 : decode cX9_gather 45 = .ok (.istore 4, 2) := by decide +kernel
theorem dX9_gather_47 : decode cX9_gather 47 = .ok (.aload_n 0, 1) := by decide +kernel
theorem dX9_gather_48 : decode cX9_gather 48 = .ok (.iload 4, 2) := by decide +kernel
theorem dX9_gather_50 : decode cX9_gather 50 = .ok (.iload_n 2, 1) := by decide +kernel
theorem dX9_gather_51 : decode cX9_gather 51 = .ok (.invokevirtual 68, 3) := by decide +kernel
theorem dX9_gather_54 : decode cX9_gather 54 = .ok (.ifCond .eq 20, 3) := by decide +kernel
theorem dX9_gather_57 : decode cX9_gather 57 = .ok (.aload_n 0, 1) := by decide +kernel
theorem dX9_gather_58 : decode cX9_gather 58 = .ok (.getfield 20, 3) := by decide +kernel
theorem dX9_gather_61 : decode cX9_gather 61 = .ok (.iload_n 3, 1) := by decide +kernel
theorem dX9_gather_62 : decode cX9_gather 62 = .ok (.invokevirtual 50, 3) := by decide +kernel
theorem dX9_gather_65 : decode cX9_gather 65 = .ok (.aload_n 0, 1) := by decide +kernel
theorem dX9_gather_66 : decode cX9_gather 66 = .ok (.getfield 24, 3) := by decide +kernel
theorem dX9_gather_69 : decode cX9_gather 69 = .ok (.iload 4, 2) := by decide +kernel
theorem dX9_gather_71 : decode cX9_gather 71 = .ok (.invokevirtual 50, 3) := by decide +kernel
theorem dX9_gather_74 : decode cX9_gather 74 = .ok (.iinc 3 1, 3) := by decide +kernel
theorem dX9_gather_77 : decode cX9_gather 77 = .ok (.goto (-47), 3) := by decide +kernel
theorem dX9_gather_80 : decode cX9_gather 80 = .ok (.iconst 1, 1) := by decide +kernel
theorem dX9_gather_81 : decode cX9_gather 81 = .ok (.ireturn, 1) := by decide +kernel
theorem dX9_agrees_0 : decode cX9_agrees 0 = .ok (.iconst 0, 1) := by decide +kernel
theorem dX9_agrees_1 : decode cX9_agrees 1 = .ok (.istore_n 3, 1) := by decide +kernel
theorem dX9_agrees_2 : decode cX9_agrees 2 = .ok (.iload_n 3, 1) := by decide +kernel
theorem dX9_agrees_3 : decode cX9_agrees 3 = .ok (.aload_n 0, 1) := by decide +kernel
theorem dX9_agrees_4 : decode cX9_agrees 4 = .ok (.getfield 27, 3) := by decide +kernel
theorem dX9_agrees_7 : decode cX9_agrees 7 = .ok (.invokevirtual 46, 3) := by decide +kernel
theorem dX9_agrees_10 : decode cX9_agrees 10 = .ok (.if_icmp .ge 69, 3) := by decide +kernel
theorem dX9_agrees_13 : decode cX9_agrees 13 = .ok (.aload_n 0, 1) := by decide +kernel
theorem dX9_agrees_14 : decode cX9_agrees 14 = .ok (.getfield 27, 3) := by decide +kernel
theorem dX9_agrees_17 : decode cX9_agrees 17 = .ok (.iload_n 3, 1) := by decide +kernel
theorem dX9_agrees_18 : decode cX9_agrees 18 = .ok (.invokevirtual 53, 3) := by decide +kernel
theorem dX9_agrees_21 : decode cX9_agrees 21 = .ok (.iload_n 1, 1) := by decide +kernel
theorem dX9_agrees_22 : decode cX9_agrees 22 = .ok (.if_icmp .ne 7, 3) := by decide +kernel
theorem dX9_agrees_25 : decode cX9_agrees 25 = .ok (.iconst 1, 1) := by decide +kernel
theorem dX9_agrees_26 : decode cX9_agrees 26 = .ok (.goto 4, 3) := by decide +kernel
theorem dX9_agrees_29 : decode cX9_agrees 29 = .ok (.iconst 0, 1) := by decide +kernel
theorem dX9_agrees_30 : decode cX9_agrees 30 = .ok (.aload_n 0, 1) := by decide +kernel
theorem dX9_agrees_31 : decode cX9_agrees 31 = .ok (.getfield 30, 3) := by decide +kernel
theorem dX9_agrees_34 : decode cX9_agrees 34 = .ok (.iload_n 3, 1) := by decide +kernel
theorem dX9_agrees_35 : decode cX9_agrees 35 = .ok (.invokevirtual 53, 3) := by decide +kernel
theorem dX9_agrees_38 : decode cX9_agrees 38 = .ok (.iconst 1, 1) := by decide +kernel
theorem dX9_agrees_39 : decode cX9_agrees 39 = .ok (.if_icmp .ne 7, 3) := by decide +kernel
theorem dX9_agrees_42 : decode cX9_agrees 42 = .ok (.iconst 1, 1) := by decide +kernel
theorem dX9_agrees_43 : decode cX9_agrees 43 = .ok (.goto 4, 3) := by decide +kernel
theorem dX9_agrees_46 : decode cX9_agrees 46 = .ok (.iconst 0, 1) := by decide +kernel
theorem dX9_agrees_47 : decode cX9_agrees 47 = .ok (.if_icmp .ne 7, 3) := by decide +kernel
theorem dX9_agrees_50 : decode cX9_agrees 50 = .ok (.iconst 1, 1) := by decide +kernel
theorem dX9_agrees_51 : decode cX9_agrees 51 = .ok (.goto 4, 3) := by decide +kernel
theorem dX9_agrees_54 : decode cX9_agrees 54 = .ok (.iconst 0, 1) := by decide +kernel
theorem dX9_agrees_55 : decode cX9_agrees 55 = .ok (.istore 4, 2) := by decide +kernel
theorem dX9_agrees_57 : decode cX9_agrees 57 = .ok (.aload_n 0, 1) := by decide +kernel
theorem dX9_agrees_58 : decode cX9_agrees 58 = .ok (.iload_n 3, 1) := by decide +kernel
theorem dX9_agrees_59 : decode cX9_agrees 59 = .ok (.iload_n 2, 1) := by decide +kernel
theorem dX9_agrees_60 : decode cX9_agrees 60 = .ok (.invokevirtual 72, 3) := by decide +kernel
theorem dX9_agrees_63 : decode cX9_agrees 63 = .ok (.ifCond .eq 10, 3) := by decide +kernel
theorem dX9_agrees_66 : decode cX9_agrees 66 = .ok (.iload 4, 2) := by decide +kernel
theorem dX9_agrees_68 : decode cX9_agrees 68 = .ok (.ifCond .ne 5, 3) := by decide +kernel
theorem dX9_agrees_71 : decode cX9_agrees 71 = .ok (.iconst 0, 1) := by decide +kernel
theorem dX9_agrees_72 : decode cX9_agrees 72 = .ok (.ireturn, 1) := by decide +kernel
theorem dX9_agrees_73 : decode cX9_agrees 73 = .ok (.iinc 3 1, 3) := by decide +kernel
theorem dX9_agrees_76 : decode cX9_agrees 76 = .ok (.goto (-74), 3) := by decide +kernel
theorem dX9_agrees_79 : decode cX9_agrees 79 = .ok (.iconst 1, 1) := by decide +kernel
theorem dX9_agrees_80 : decode cX9_agrees 80 = .ok (.ireturn, 1) := by decide +kernel
theorem dX9_counts_0 : decode cX9_counts 0 = .ok (.aload_n 0, 1) := by decide +kernel
theorem dX9_counts_1 : decode cX9_counts 1 = .ok (.getfield 36, 3) := by decide +kernel
theorem dX9_counts_4 : decode cX9_counts 4 = .ok (.iload_n 1, 1) := by decide +kernel
theorem dX9_counts_5 : decode cX9_counts 5 = .ok (.invokevirtual 53, 3) := by decide +kernel
theorem dX9_counts_8 : decode cX9_counts 8 = .ok (.istore_n 3, 1) := by decide +kernel
theorem dX9_counts_9 : decode cX9_counts 9 = .ok (.aload_n 0, 1) := by decide +kernel
theorem dX9_counts_10 : decode cX9_counts 10 = .ok (.getfield 33, 3) := by decide +kernel
theorem dX9_counts_13 : decode cX9_counts 13 = .ok (.iload_n 1, 1) := by decide +kernel
theorem dX9_counts_14 : decode cX9_counts 14 = .ok (.invokevirtual 53, 3) := by decide +kernel
theorem dX9_counts_17 : decode cX9_counts 17 = .ok (.iload_n 2, 1) := by decide +kernel
theorem dX9_counts_18 : decode cX9_counts 18 = .ok (.if_icmp .gt 17, 3) := by decide +kernel
theorem dX9_counts_21 : decode cX9_counts 21 = .ok (.iload_n 3, 1) := by decide +kernel
theorem dX9_counts_22 : decode cX9_counts 22 = .ok (.iconst (-1), 1) := by decide +kernel
theorem dX9_counts_23 : decode cX9_counts 23 = .ok (.if_icmp .eq 8, 3) := by decide +kernel
theorem dX9_counts_26 : decode cX9_counts 26 = .ok (.iload_n 3, 1) := by decide +kernel
theorem dX9_counts_27 : decode cX9_counts 27 = .ok (.iload_n 2, 1) := by decide +kernel
theorem dX9_counts_28 : decode cX9_counts 28 = .ok (.if_icmp .le 7, 3) := by decide +kernel
theorem dX9_counts_31 : decode cX9_counts 31 = .ok (.iconst 1, 1) := by decide +kernel
theorem dX9_counts_32 : decode cX9_counts 32 = .ok (.goto 4, 3) := by decide +kernel
theorem dX9_counts_35 : decode cX9_counts 35 = .ok (.iconst 0, 1) := by decide +kernel
theorem dX9_counts_36 : decode cX9_counts 36 = .ok (.ireturn, 1) := by decide +kernel
theorem dX9_bestQuestion_0 : decode cX9_bestQuestion 0 = .ok (.iconst (-1), 1) := by decide +kernel
theorem dX9_bestQuestion_1 : decode cX9_bestQuestion 1 = .ok (.istore_n 1, 1) := by decide +kernel
theorem dX9_bestQuestion_2 : decode cX9_bestQuestion 2 = .ok (.iconst 0, 1) := by decide +kernel
theorem dX9_bestQuestion_3 : decode cX9_bestQuestion 3 = .ok (.istore_n 2, 1) := by decide +kernel
theorem dX9_bestQuestion_4 : decode cX9_bestQuestion 4 = .ok (.iconst 0, 1) := by decide +kernel
theorem dX9_bestQuestion_5 : decode cX9_bestQuestion 5 = .ok (.istore_n 3, 1) := by decide +kernel
theorem dX9_bestQuestion_6 : decode cX9_bestQuestion 6 = .ok (.iload_n 3, 1) := by decide +kernel
theorem dX9_bestQuestion_7 : decode cX9_bestQuestion 7 = .ok (.aload_n 0, 1) := by decide +kernel
theorem dX9_bestQuestion_8 : decode cX9_bestQuestion 8 = .ok (.getfield 9, 3) := by decide +kernel
theorem dX9_bestQuestion_11 : decode cX9_bestQuestion 11 = .ok (.invokevirtual 75, 3) := by decide +kernel
theorem dX9_bestQuestion_14 : decode cX9_bestQuestion 14 = .ok (.if_icmp .ge 42, 3) := by decide +kernel
theorem dX9_bestQuestion_17 : decode cX9_bestQuestion 17 = .ok (.aload_n 0, 1) := by decide +kernel
theorem dX9_bestQuestion_18 : decode cX9_bestQuestion 18 = .ok (.getfield 20, 3) := by decide +kernel
theorem dX9_bestQuestion_21 : decode cX9_bestQuestion 21 = .ok (.invokevirtual 46, 3) := by decide +kernel
theorem dX9_bestQuestion_24 : decode cX9_bestQuestion 24 = .ok (.ifCond .le 32, 3) := by decide +kernel
theorem dX9_bestQuestion_27 : decode cX9_bestQuestion 27 = .ok (.aload_n 0, 1) := by decide +kernel
theorem dX9_bestQuestion_28 : decode cX9_bestQuestion 28 = .ok (.iload_n 3, 1) := by decide +kernel
theorem dX9_bestQuestion_29 : decode cX9_bestQuestion 29 = .ok (.invokevirtual 78, 3) := by decide +kernel
theorem dX9_bestQuestion_32 : decode cX9_bestQuestion 32 = .ok (.istore 4, 2) := by decide +kernel
theorem dX9_bestQuestion_34 : decode cX9_bestQuestion 34 = .ok (.iload_n 1, 1) := by decide +kernel
theorem dX9_bestQuestion_35 : decode cX9_bestQuestion 35 = .ok (.iconst (-1), 1) := by decide +kernel
theorem dX9_bestQuestion_36 : decode cX9_bestQuestion 36 = .ok (.if_icmp .eq 9, 3) := by decide +kernel
theorem dX9_bestQuestion_39 : decode cX9_bestQuestion 39 = .ok (.iload 4, 2) := by decide +kernel
theorem dX9_bestQuestion_41 : decode cX9_bestQuestion 41 = .ok (.iload_n 2, 1) := by decide +kernel
theorem dX9_bestQuestion_42 : decode cX9_bestQuestion 42 = .ok (.if_icmp .ge 8, 3) := by decide +kernel
theorem dX9_bestQuestion_45 : decode cX9_bestQuestion 45 = .ok (.iload_n 3, 1) := by decide +kernel
theorem dX9_bestQuestion_46 : decode cX9_bestQuestion 46 = .ok (.istore_n 1, 1) := by decide +kernel
theorem dX9_bestQuestion_47 : decode cX9_bestQuestion 47 = .ok (.iload 4, 2) := by decide +kernel
theorem dX9_bestQuestion_49 : decode cX9_bestQuestion 49 = .ok (.istore_n 2, 1) := by decide +kernel
theorem dX9_bestQuestion_50 : decode cX9_bestQuestion 50 = .ok (.iinc 3 1, 3) := by decide +kernel
theorem dX9_bestQuestion_53 : decode cX9_bestQuestion 53 = .ok (.goto (-47), 3) := by decide +kernel
theorem dX9_bestQuestion_56 : decode cX9_bestQuestion 56 = .ok (.iload_n 1, 1) := by decide +kernel
theorem dX9_bestQuestion_57 : decode cX9_bestQuestion 57 = .ok (.ireturn, 1) := by decide +kernel
theorem dX9_leftBy_0 : decode cX9_leftBy 0 = .ok (.iconst 0, 1) := by decide +kernel
theorem dX9_leftBy_1 : decode cX9_leftBy 1 = .ok (.istore_n 2, 1) := by decide +kernel
theorem dX9_leftBy_2 : decode cX9_leftBy 2 = .ok (.iconst 0, 1) := by decide +kernel
theorem dX9_leftBy_3 : decode cX9_leftBy 3 = .ok (.istore_n 3, 1) := by decide +kernel
theorem dX9_leftBy_4 : decode cX9_leftBy 4 = .ok (.iload_n 3, 1) := by decide +kernel
theorem dX9_leftBy_5 : decode cX9_leftBy 5 = .ok (.aload_n 0, 1) := by decide +kernel
theorem dX9_leftBy_6 : decode cX9_leftBy 6 = .ok (.getfield 24, 3) := by decide +kernel
theorem dX9_leftBy_9 : decode cX9_leftBy 9 = .ok (.invokevirtual 46, 3) := by decide +kernel
theorem dX9_leftBy_12 : decode cX9_leftBy 12 = .ok (.if_icmp .ge 29, 3) := by decide +kernel
theorem dX9_leftBy_15 : decode cX9_leftBy 15 = .ok (.iload_n 2, 1) := by decide +kernel
theorem dX9_leftBy_16 : decode cX9_leftBy 16 = .ok (.aload_n 0, 1) := by decide +kernel
theorem dX9_leftBy_17 : decode cX9_leftBy 17 = .ok (.getfield 24, 3) := by decide +kernel
theorem dX9_leftBy_20 : decode cX9_leftBy 20 = .ok (.iload_n 3, 1) := by decide +kernel
theorem dX9_leftBy_21 : decode cX9_leftBy 21 = .ok (.invokevirtual 53, 3) := by decide +kernel
theorem dX9_leftBy_24 : decode cX9_leftBy 24 = .ok (.iload_n 1, 1) := by decide +kernel
theorem dX9_leftBy_25 : decode cX9_leftBy 25 = .ok (.if_icmp .ne 7, 3) := by decide +kernel
theorem dX9_leftBy_28 : decode cX9_leftBy 28 = .ok (.iconst 1, 1) := by decide +kernel
theorem dX9_leftBy_29 : decode cX9_leftBy 29 = .ok (.goto 4, 3) := by decide +kernel
theorem dX9_leftBy_32 : decode cX9_leftBy 32 = .ok (.iconst 0, 1) := by decide +kernel
theorem dX9_leftBy_33 : decode cX9_leftBy 33 = .ok (.iadd, 1) := by decide +kernel
theorem dX9_leftBy_34 : decode cX9_leftBy 34 = .ok (.istore_n 2, 1) := by decide +kernel
theorem dX9_leftBy_35 : decode cX9_leftBy 35 = .ok (.iinc 3 1, 3) := by decide +kernel
theorem dX9_leftBy_38 : decode cX9_leftBy 38 = .ok (.goto (-34), 3) := by decide +kernel
theorem dX9_leftBy_41 : decode cX9_leftBy 41 = .ok (.iload_n 2, 1) := by decide +kernel
theorem dX9_leftBy_42 : decode cX9_leftBy 42 = .ok (.aload_n 0, 1) := by decide +kernel
theorem dX9_leftBy_43 : decode cX9_leftBy 43 = .ok (.getfield 24, 3) := by decide +kernel
theorem dX9_leftBy_46 : decode cX9_leftBy 46 = .ok (.invokevirtual 46, 3) := by decide +kernel
theorem dX9_leftBy_49 : decode cX9_leftBy 49 = .ok (.iload_n 2, 1) := by decide +kernel
theorem dX9_leftBy_50 : decode cX9_leftBy 50 = .ok (.isub, 1) := by decide +kernel
theorem dX9_leftBy_51 : decode cX9_leftBy 51 = .ok (.invokestatic 81, 3) := by decide +kernel
theorem dX9_leftBy_54 : decode cX9_leftBy 54 = .ok (.ireturn, 1) := by decide +kernel
theorem dX10_init_0 : decode cX10_init 0 = .ok (.aload_n 0, 1) := by decide +kernel
theorem dX10_init_1 : decode cX10_init 1 = .ok (.invokespecial 3, 3) := by decide +kernel
theorem dX10_init_4 : decode cX10_init 4 = .ok (.aload_n 0, 1) := by decide +kernel
theorem dX10_init_5 : decode cX10_init 5 = .ok (.aload_n 1, 1) := by decide +kernel
theorem dX10_init_6 : decode cX10_init 6 = .ok (.putfield 9, 3) := by decide +kernel
theorem dX10_init_9 : decode cX10_init 9 = .ok (.aload_n 0, 1) := by decide +kernel
theorem dX10_init_10 : decode cX10_init 10 = .ok (.new 15, 3) := by decide +kernel
theorem dX10_init_13 : decode cX10_init 13 = .ok (.dup, 1) := by decide +kernel
theorem dX10_init_14 : decode cX10_init 14 = .ok (.bipush 8, 2) := by decide +kernel
theorem dX10_init_16 : decode cX10_init 16 = .ok (.invokespecial 17, 3) := by decide +kernel
theorem dX10_init_19 : decode cX10_init 19 = .ok (.putfield 20, 3) := by decide +kernel
theorem dX10_init_22 : decode cX10_init 22 = .ok (.aload_n 0, 1) := by decide +kernel
theorem dX10_init_23 : decode cX10_init 23 = .ok (.new 15, 3) := by decide +kernel
theorem dX10_init_26 : decode cX10_init 26 = .ok (.dup, 1) := by decide +kernel
theorem dX10_init_27 : decode cX10_init 27 = .ok (.bipush 8, 2) := by decide +kernel
theorem dX10_init_29 : decode cX10_init 29 = .ok (.invokespecial 17, 3) := by decide +kernel
theorem dX10_init_32 : decode cX10_init 32 = .ok (.putfield 24, 3) := by decide +kernel
theorem dX10_init_35 : decode cX10_init 35 = .ok (.aload_n 0, 1) := by decide +kernel
theorem dX10_init_36 : decode cX10_init 36 = .ok (.new 15, 3) := by decide +kernel
theorem dX10_init_39 : decode cX10_init 39 = .ok (.dup, 1) := by decide +kernel
theorem dX10_init_40 : decode cX10_init 40 = .ok (.bipush 8, 2) := by decide +kernel
theorem dX10_init_42 : decode cX10_init 42 = .ok (.invokespecial 17, 3) := by decide +kernel
theorem dX10_init_45 : decode cX10_init 45 = .ok (.putfield 27, 3) := by decide +kernel
theorem dX10_init_48 : decode cX10_init 48 = .ok (.aload_n 0, 1) := by decide +kernel
theorem dX10_init_49 : decode cX10_init 49 = .ok (.new 15, 3) := by decide +kernel
theorem dX10_init_52 : decode cX10_init 52 = .ok (.dup, 1) := by decide +kernel
theorem dX10_init_53 : decode cX10_init 53 = .ok (.bipush 8, 2) := by decide +kernel
theorem dX10_init_55 : decode cX10_init 55 = .ok (.invokespecial 17, 3) := by decide +kernel
theorem dX10_init_58 : decode cX10_init 58 = .ok (.putfield 30, 3) := by decide +kernel
theorem dX10_init_61 : decode cX10_init 61 = .ok (.aload_n 0, 1) := by decide +kernel
theorem dX10_init_62 : decode cX10_init 62 = .ok (.new 15, 3) := by decide +kernel
theorem dX10_init_65 : decode cX10_init 65 = .ok (.dup, 1) := by decide +kernel
theorem dX10_init_66 : decode cX10_init 66 = .ok (.bipush 8, 2) := by decide +kernel
theorem dX10_init_68 : decode cX10_init 68 = .ok (.invokespecial 17, 3) := by decide +kernel
theorem dX10_init_71 : decode cX10_init 71 = .ok (.putfield 33, 3) := by decide +kernel
theorem dX10_init_74 : decode cX10_init 74 = .ok (.aload_n 0, 1) := by decide +kernel
theorem dX10_init_75 : decode cX10_init 75 = .ok (.new 15, 3) := by decide +kernel
theorem dX10_init_78 : decode cX10_init 78 = .ok (.dup, 1) := by decide +kernel
theorem dX10_init_79 : decode cX10_init 79 = .ok (.bipush 8, 2) := by decide +kernel
theorem dX10_init_81 : decode cX10_init 81 = .ok (.invokespecial 17, 3) := by decide +kernel
theorem dX10_init_84 : decode cX10_init 84 = .ok (.putfield 36, 3) := by decide +kernel
theorem dX10_init_87 : decode cX10_init 87 = .ok (.aload_n 0, 1) := by decide +kernel
theorem dX10_init_88 : decode cX10_init 88 = .ok (.new 15, 3) := by decide +kernel
theorem dX10_init_91 : decode cX10_init 91 = .ok (.dup, 1) := by decide +kernel
theorem dX10_init_92 : decode cX10_init 92 = .ok (.bipush 8, 2) := by decide +kernel
theorem dX10_init_94 : decode cX10_init 94 = .ok (.invokespecial 17, 3) := by decide +kernel
theorem dX10_init_97 : decode cX10_init 97 = .ok (.putfield 39, 3) := by decide +kernel
theorem dX10_init_100 : decode cX10_init 100 = .ok (.aload_n 0, 1) := by decide +kernel
theorem dX10_init_101 : decode cX10_init 101 = .ok (.iconst (-1), 1) := by decide +kernel
theorem dX10_init_102 : decode cX10_init 102 = .ok (.putfield 42, 3) := by decide +kernel
theorem dX10_init_105 : decode cX10_init 105 = .ok (.return_, 1) := by decide +kernel
theorem dX10_build_0 : decode cX10_build 0 = .ok (.aload_n 0, 1) := by decide +kernel
theorem dX10_build_1 : decode cX10_build 1 = .ok (.iload_n 1, 1) := by decide +kernel
theorem dX10_build_2 : decode cX10_build 2 = .ok (.invokevirtual 46, 3) := by decide +kernel
theorem dX10_build_5 : decode cX10_build 5 = .ok (.aload_n 0, 1) := by decide +kernel
theorem dX10_build_6 : decode cX10_build 6 = .ok (.invokevirtual 49, 3) := by decide +kernel
theorem dX10_build_9 : decode cX10_build 9 = .ok (.aload_n 0, 1) := by decide +kernel
theorem dX10_build_10 : decode cX10_build 10 = .ok (.aload_n 0, 1) := by decide +kernel
theorem dX10_build_11 : decode cX10_build 11 = .ok (.getfield 30, 3) := by decide +kernel
theorem dX10_build_14 : decode cX10_build 14 = .ok (.aload_n 0, 1) := by decide +kernel
theorem dX10_build_15 : decode cX10_build 15 = .ok (.getfield 27, 3) := by decide +kernel
theorem dX10_build_18 : decode cX10_build 18 = .ok (.aload_n 0, 1) := by decide +kernel
theorem dX10_build_19 : decode cX10_build 19 = .ok (.getfield 24, 3) := by decide +kernel
theorem dX10_build_22 : decode cX10_build 22 = .ok (.invokevirtual 52, 3) := by decide +kernel
theorem dX10_build_25 : decode cX10_build 25 = .ok (.aload_n 0, 1) := by decide +kernel
theorem dX10_build_26 : decode cX10_build 26 = .ok (.aload_n 0, 1) := by decide +kernel
theorem dX10_build_27 : decode cX10_build 27 = .ok (.getfield 33, 3) := by decide +kernel
theorem dX10_build_30 : decode cX10_build 30 = .ok (.aload_n 0, 1) := by decide +kernel
theorem dX10_build_31 : decode cX10_build 31 = .ok (.getfield 24, 3) := by decide +kernel
theorem dX10_build_34 : decode cX10_build 34 = .ok (.aload_n 0, 1) := by decide +kernel
theorem dX10_build_35 : decode cX10_build 35 = .ok (.getfield 27, 3) := by decide +kernel
theorem dX10_build_38 : decode cX10_build 38 = .ok (.invokevirtual 52, 3) := by decide +kernel
theorem dX10_build_41 : decode cX10_build 41 = .ok (.aload_n 0, 1) := by decide +kernel
theorem dX10_build_42 : decode cX10_build 42 = .ok (.invokevirtual 56, 3) := by decide +kernel
theorem dX10_build_45 : decode cX10_build 45 = .ok (.return_, 1) := by decide +kernel
theorem dX10_order_0 : decode cX10_order 0 = .ok (.aload_n 0, 1) := by decide +kernel
theorem dX10_order_1 : decode cX10_order 1 = .ok (.getfield 20, 3) := by decide +kernel
theorem dX10_order_4 : decode cX10_order 4 = .ok (.iload_n 1, 1) := by decide +kernel
theorem dX10_order_5 : decode cX10_order 5 = .ok (.invokestatic 59, 3) := by decide +kernel
theorem dX10_order_8 : decode cX10_order 8 = .ok (.iconst (-1), 1) := by decide +kernel
theorem dX10_order_9 : decode cX10_order 9 = .ok (.invokevirtual 65, 3) := by decide +kernel
theorem dX10_order_12 : decode cX10_order 12 = .ok (.iconst 0, 1) := by decide +kernel
theorem dX10_order_13 : decode cX10_order 13 = .ok (.istore_n 2, 1) := by decide +kernel
theorem dX10_order_14 : decode cX10_order 14 = .ok (.iload_n 2, 1) := by decide +kernel
theorem dX10_order_15 : decode cX10_order 15 = .ok (.bipush 8, 2) := by decide +kernel
theorem dX10_order_17 : decode cX10_order 17 = .ok (.if_icmp .ge 41, 3) := by decide +kernel
theorem dX10_order_20 : decode cX10_order 20 = .ok (.iload_n 1, 1) := by decide +kernel
theorem dX10_order_21 : decode cX10_order 21 = .ok (.iload_n 2, 1) := by decide +kernel
theorem dX10_order_22 : decode cX10_order 22 = .ok (.ishr, 1) := by decide +kernel
theorem dX10_order_23 : decode cX10_order 23 = .ok (.iconst 1, 1) := by decide +kernel
theorem dX10_order_24 : decode cX10_order 24 = .ok (.iand, 1) := by decide +kernel
theorem dX10_order_25 : decode cX10_order 25 = .ok (.ifCond .eq 27, 3) := by decide +kernel
theorem dX10_order_28 : decode cX10_order 28 = .ok (.aload_n 0, 1) := by decide +kernel
theorem dX10_order_29 : decode cX10_order 29 = .ok (.getfield 20, 3) := by decide +kernel
theorem dX10_order_32 : decode cX10_order 32 = .ok (.aload_n 0, 1) := by decide +kernel
theorem dX10_order_33 : decode cX10_order 33 = .ok (.getfield 9, 3) := by decide +kernel
theorem dX10_order_36 : decode cX10_order 36 = .ok (.getfield 69, 3) := by decide +kernel
theorem dX10_order_39 : decode cX10_order 39 = .ok (.iload_n 2, 1) := by decide +kernel
theorem dX10_order_40 : decode cX10_order 40 = .ok (.invokevirtual 74, 3) := by decide +kernel
theorem dX10_order_43 : decode cX10_order 43 = .ok (.iload_n 1, 1) := by decide +kernel
theorem dX10_order_44 : decode cX10_order 44 = .ok (.iand, 1) := by decide +kernel
theorem dX10_order_45 : decode cX10_order 45 = .ok (.invokestatic 59, 3) := by decide +kernel
theorem dX10_order_48 : decode cX10_order 48 = .ok (.iload_n 2, 1) := by decide +kernel
theorem dX10_order_49 : decode cX10_order 49 = .ok (.invokevirtual 77, 3) := by decide +kernel
theorem dX10_order_52 : decode cX10_order 52 = .ok (.iinc 2 1, 3) := by decide +kernel
theorem dX10_order_55 : decode cX10_order 55 = .ok (.goto (-41), 3) := by decide +kernel
theorem dX10_order_58 : decode cX10_order 58 = .ok (.return_, 1) := by decide +kernel
theorem dX10_join_0 : decode cX10_join 0 = .ok (.aload_n 0, 1) := by decide +kernel
theorem dX10_join_1 : decode cX10_join 1 = .ok (.getfield 24, 3) := by decide +kernel
theorem dX10_join_4 : decode cX10_join 4 = .ok (.bipush 8, 2) := by decide +kernel
theorem dX10_join_6 : decode cX10_join 6 = .ok (.iconst (-1), 1) := by decide +kernel
theorem dX10_join_7 : decode cX10_join 7 = .ok (.invokevirtual 65, 3) := by decide +kernel
theorem dX10_join_10 : decode cX10_join 10 = .ok (.aload_n 0, 1) := by decide +kernel
theorem dX10_join_11 : decode cX10_join 11 = .ok (.getfield 27, 3) := by decide +kernel
theorem dX10_join_14 : decode cX10_join 14 = .ok (.bipush 8, 2) := by decide +kernel
theorem dX10_join_16 : decode cX10_join 16 = .ok (.iconst (-1), 1) := by decide +kernel
theorem dX10_join_17 : decode cX10_join 17 = .ok (.invokevirtual 65, 3) := by decide +kernel
theorem dX10_join_20 : decode cX10_join 20 = .ok (.aload_n 0, 1) := by decide +kernel
theorem dX10_join_21 : decode cX10_join 21 = .ok (.getfield 36, 3) := by decide +kernel
theorem dX10_join_24 : decode cX10_join 24 = .ok (.invokevirtual 80, 3) := by decide +kernel
theorem dX10_join_27 : decode cX10_join 27 = .ok (.iconst 0, 1) := by decide +kernel
theorem dX10_join_28 : decode cX10_join 28 = .ok (.istore_n 1, 1) := by decide +kernel
theorem dX10_join_29 : decode cX10_join 29 = .ok (.iload_n 1, 1) := by decide +kernel
theorem dX10_join_30 : decode cX10_join 30 = .ok (.aload_n 0, 1) := by decide +kernel
theorem dX10_join_31 : decode cX10_join 31 = .ok (.getfield 20, 3) := by decide +kernel
theorem dX10_join_34 : decode cX10_join 34 = .ok (.invokevirtual 83, 3) := by decide +kernel
theorem dX10_join_37 : decode cX10_join 37 = .ok (.if_icmp .ge 91, 3) := by decide +kernel
theorem dX10_join_40 : decode cX10_join 40 = .ok (.aload_n 0, 1) := by decide +kernel
theorem dX10_join_41 : decode cX10_join 41 = .ok (.getfield 20, 3) := by decide +kernel
theorem dX10_join_44 : decode cX10_join 44 = .ok (.iload_n 1, 1) := by decide +kernel
theorem dX10_join_45 : decode cX10_join 45 = .ok (.invokevirtual 74, 3) := by decide +kernel
theorem dX10_join_48 : decode cX10_join 48 = .ok (.istore_n 2, 1) := by decide +kernel
theorem dX10_join_49 : decode cX10_join 49 = .ok (.iconst (-1), 1) := by decide +kernel
theorem dX10_join_50 : decode cX10_join 50 = .ok (.istore_n 3, 1) := by decide +kernel
theorem dX10_join_51 : decode cX10_join 51 = .ok (.iconst 0, 1) := by decide +kernel
theorem dX10_join_52 : decode cX10_join 52 = .ok (.istore 4, 2) := by decide +kernel
theorem dX10_join_54 : decode cX10_join 54 = .ok (.iload 4, 2) := by decide +kernel
theorem dX10_join_56 : decode cX10_join 56 = .ok (.bipush 8, 2) := by decide +kernel
theorem dX10_join_58 : decode cX10_join 58 = .ok (.if_icmp .ge 32, 3) := by decide +kernel
theorem dX10_join_61 : decode cX10_join 61 = .ok (.aload_n 0, 1) := by decide +kernel
theorem dX10_join_62 : decode cX10_join 62 = .ok (.iload_n 2, 1) := by decide +kernel
theorem dX10_join_63 : decode cX10_join 63 = .ok (.aload_n 0, 1) := by decide +kernel
theorem dX10_join_64 : decode cX10_join 64 = .ok (.getfield 36, 3) := by decide +kernel
theorem dX10_join_67 : decode cX10_join 67 = .ok (.invokevirtual 87, 3) := by decide +kernel
theorem dX10_join_70 : decode cX10_join 70 = .ok (.invokevirtual 90, 3) := by decide +kernel
theorem dX10_join_73 : decode cX10_join 73 = .ok (.ifCond .eq 17, 3) := by decide +kernel
theorem dX10_join_76 : decode cX10_join 76 = .ok (.aload_n 0, 1) := by decide +kernel
theorem dX10_join_77 : decode cX10_join 77 = .ok (.getfield 36, 3) := by decide +kernel
theorem dX10_join_80 : decode cX10_join 80 = .ok (.invokevirtual 94, 3) := by decide +kernel
theorem dX10_join_83 : decode cX10_join 83 = .ok (.istore_n 3, 1) := by decide +kernel
theorem dX10_join_84 : decode cX10_join 84 = .ok (.iinc 4 1, 3) := by decide +kernel
theorem dX10_join_87 : decode cX10_join 87 = .ok (.goto (-33), 3) := by decide +kernel
theorem dX10_join_90 : decode cX10_join 90 = .ok (.aload_n 0, 1) := by decide +kernel
theorem dX10_join_91 : decode cX10_join 91 = .ok (.getfield 24, 3) := by decide +kernel
theorem dX10_join_94 : decode cX10_join 94 = .ok (.iload_n 2, 1) := by decide +kernel
theorem dX10_join_95 : decode cX10_join 95 = .ok (.iload_n 3, 1) := by decide +kernel
theorem dX10_join_96 : decode cX10_join 96 = .ok (.invokevirtual 77, 3) := by decide +kernel
theorem dX10_join_99 : decode cX10_join 99 = .ok (.aload_n 0, 1) := by decide +kernel
theorem dX10_join_100 : decode cX10_join 100 = .ok (.getfield 27, 3) := by decide +kernel
theorem dX10_join_103 : decode cX10_join 103 = .ok (.aload_n 0, 1) := by decide +kernel
theorem dX10_join_104 : decode cX10_join 104 = .ok (.getfield 36, 3) := by decide +kernel
theorem dX10_join_107 : decode cX10_join 107 = .ok (.invokevirtual 87, 3) := by decide +kernel
theorem dX10_join_110 : decode cX10_join 110 = .ok (.iload_n 2, 1) := by decide +kernel
theorem dX10_join_111 : decode cX10_join 111 = .ok (.invokevirtual 77, 3) := by decide +kernel
theorem dX10_join_114 : decode cX10_join 114 = .ok (.aload_n 0, 1) := by decide +kernel
theorem dX10_join_115 : decode cX10_join 115 = .ok (.getfield 36, 3) := by decide +kernel
theorem dX10_join_118 : decode cX10_join 118 = .ok (.iload_n 2, 1) := by decide +kernel
theorem dX10_join_119 : decode cX10_join 119 = .ok (.invokevirtual 97, 3) := by decide +kernel
theorem dX10_join_122 : decode cX10_join 122 = .ok (.iinc 1 1, 3) := by decide +kernel
theorem dX10_join_125 : decode cX10_join 125 = .ok (.goto (-96), 3) := by decide +kernel
theorem dX10_join_128 : decode cX10_join 128 = .ok (.aload_n 0, 1) := by decide +kernel
theorem dX10_join_129 : decode cX10_join 129 = .ok (.aload_n 0, 1) := by decide +kernel
theorem dX10_join_130 : decode cX10_join 130 = .ok (.getfield 36, 3) := by decide +kernel
theorem dX10_join_133 : decode cX10_join 133 = .ok (.iconst 0, 1) := by decide +kernel
theorem dX10_join_134 : decode cX10_join 134 = .ok (.invokevirtual 74, 3) := by decide +kernel
theorem dX10_join_137 : decode cX10_join 137 = .ok (.putfield 42, 3) := by decide +kernel
theorem dX10_join_140 : decode cX10_join 140 = .ok (.return_, 1) := by decide +kernel
theorem dX10_isHeavier_0 : decode cX10_isHeavier 0 = .ok (.iload_n 2, 1) := by decide +kernel
theorem dX10_isHeavier_1 : decode cX10_isHeavier 1 = .ok (.iconst (-1), 1) := by decide +kernel
theorem dX10_isHeavier_2 : decode cX10_isHeavier 2 = .ok (.if_icmp .ne 5, 3) := by decide +kernel
theorem dX10_isHeavier_5 : decode cX10_isHeavier 5 = .ok (.iconst 0, 1) := by decide +kernel
theorem dX10_isHeavier_6 : decode cX10_isHeavier 6 = .ok (.ireturn, 1) := by decide +kernel
theorem dX10_isHeavier_7 : decode cX10_isHeavier 7 = .ok (.aload_n 0, 1) := by decide +kernel
theorem dX10_isHeavier_8 : decode cX10_isHeavier 8 = .ok (.getfield 9, 3) := by decide +kernel
theorem dX10_isHeavier_11 : decode cX10_isHeavier 11 = .ok (.getfield 100, 3) := by decide +kernel
theorem dX10_isHeavier_14 : decode cX10_isHeavier 14 = .ok (.iload_n 1, 1) := by decide +kernel
theorem dX10_isHeavier_15 : decode cX10_isHeavier 15 = .ok (.invokevirtual 74, 3) := by decide +kernel
theorem dX10_isHeavier_18 : decode cX10_isHeavier 18 = .ok (.istore_n 3, 1) := by decide +kernel
theorem dX10_isHeavier_19 : decode cX10_isHeavier 19 = .ok (.aload_n 0, 1) := by decide +kernel
theorem dX10_isHeavier_20 : decode cX10_isHeavier 20 = .ok (.getfield 9, 3) := by decide +kernel
theorem dX10_isHeavier_23 : decode cX10_isHeavier 23 = .ok (.getfield 100, 3) := by decide +kernel
theorem dX10_isHeavier_26 : decode cX10_isHeavier 26 = .ok (.iload_n 2, 1) := by decide +kernel
theorem dX10_isHeavier_27 : decode cX10_isHeavier 27 = .ok (.invokevirtual 74, 3) := by decide +kernel
theorem dX10_isHeavier_30 : decode cX10_isHeavier 30 = .ok (.istore 4, 2) := by decide +kernel
theorem dX10_isHeavier_32 : decode cX10_isHeavier 32 = .ok (.iload_n 3, 1) := by decide +kernel
theorem dX10_isHeavier_33 : decode cX10_isHeavier 33 = .ok (.iload 4, 2) := by decide +kernel
theorem dX10_isHeavier_35 : decode cX10_isHeavier 35 = .ok (.if_icmp .gt 14, 3) := by decide +kernel
theorem dX10_isHeavier_38 : decode cX10_isHeavier 38 = .ok (.iload_n 3, 1) := by decide +kernel
theorem dX10_isHeavier_39 : decode cX10_isHeavier 39 = .ok (.iload 4, 2) := by decide +kernel
theorem dX10_isHeavier_41 : decode cX10_isHeavier 41 = .ok (.if_icmp .ne 12, 3) := by decide +kernel
theorem dX10_isHeavier_44 : decode cX10_isHeavier 44 = .ok (.iload_n 1, 1) := by decide +kernel
theorem dX10_isHeavier_45 : decode cX10_isHeavier 45 = .ok (.iload_n 2, 1) := by decide +kernel
theorem dX10_isHeavier_46 : decode cX10_isHeavier 46 = .ok (.if_icmp .ge 7, 3) := by decide +kernel
theorem dX10_isHeavier_49 : decode cX10_isHeavier 49 = .ok (.iconst 1, 1) := by decide +kernel
theorem dX10_isHeavier_50 : decode cX10_isHeavier 50 = .ok (.goto 4, 3) := by decide +kernel
theorem dX10_isHeavier_53 : decode cX10_isHeavier 53 = .ok (.iconst 0, 1) := by decide +kernel
theorem dX10_isHeavier_54 : decode cX10_isHeavier 54 = .ok (.ireturn, 1) := by decide +kernel
theorem dX10_list_0 : decode cX10_list 0 = .ok (.aload_n 1, 1) := by decide +kernel
theorem dX10_list_1 : decode cX10_list 1 = .ok (.invokevirtual 80, 3) := by decide +kernel
theorem dX10_list_4 : decode cX10_list 4 = .ok (.aload_n 0, 1) := by decide +kernel
theorem dX10_list_5 : decode cX10_list 5 = .ok (.getfield 36, 3) := by decide +kernel
theorem dX10_list_8 : decode cX10_list 8 = .ok (.invokevirtual 80, 3) := by decide +kernel
theorem dX10_list_11 : decode cX10_list 11 = .ok (.aload_n 0, 1) := by decide +kernel
theorem dX10_list_12 : decode cX10_list 12 = .ok (.getfield 36, 3) := by decide +kernel
theorem dX10_list_15 : decode cX10_list 15 = .ok (.aload_n 0, 1) := by decide +kernel
theorem dX10_list_16 : decode cX10_list 16 = .ok (.getfield 42, 3) := by decide +kernel
theorem dX10_list_19 : decode cX10_list 19 = .ok (.invokevirtual 103, 3) := by decide +kernel
theorem dX10_list_22 : decode cX10_list 22 = .ok (.iconst 0, 1) := by decide +kernel
theorem dX10_list_23 : decode cX10_list 23 = .ok (.istore 4, 2) := by decide +kernel
theorem dX10_list_25 : decode cX10_list 25 = .ok (.iload 4, 2) := by decide +kernel
theorem dX10_list_27 : decode cX10_list 27 = .ok (.bipush 8, 2) := by decide +kernel
theorem dX10_list_29 : decode cX10_list 29 = .ok (.if_icmp .ge 60, 3) := by decide +kernel
theorem dX10_list_32 : decode cX10_list 32 = .ok (.aload_n 0, 1) := by decide +kernel
theorem dX10_list_33 : decode cX10_list 33 = .ok (.getfield 36, 3) := by decide +kernel
theorem dX10_list_36 : decode cX10_list 36 = .ok (.invokevirtual 83, 3) := by decide +kernel
theorem dX10_list_39 : decode cX10_list 39 = .ok (.ifCond .le 50, 3) := by decide +kernel
theorem dX10_list_42 : decode cX10_list 42 = .ok (.aload_n 0, 1) := by decide +kernel
theorem dX10_list_43 : decode cX10_list 43 = .ok (.getfield 36, 3) := by decide +kernel
theorem dX10_list_46 : decode cX10_list 46 = .ok (.invokevirtual 94, 3) := by decide +kernel
theorem dX10_list_49 : decode cX10_list 49 = .ok (.istore 5, 2) := by decide +kernel
theorem dX10_list_51 : decode cX10_list 51 = .ok (.aload_n 1, 1) := by decide +kernel
theorem dX10_list_52 : decode cX10_list 52 = .ok (.iload 5, 2) := by decide +kernel
theorem dX10_list_54 : decode cX10_list 54 = .ok (.invokevirtual 97, 3) := by decide +kernel
theorem dX10_list_57 : decode cX10_list 57 = .ok (.aload_n 0, 1) := by decide +kernel
theorem dX10_list_58 : decode cX10_list 58 = .ok (.getfield 36, 3) := by decide +kernel
theorem dX10_list_61 : decode cX10_list 61 = .ok (.aload_n 2, 1) := by decide +kernel
theorem dX10_list_62 : decode cX10_list 62 = .ok (.iload 5, 2) := by decide +kernel
theorem dX10_list_64 : decode cX10_list 64 = .ok (.invokevirtual 74, 3) := by decide +kernel
theorem dX10_list_67 : decode cX10_list 67 = .ok (.invokevirtual 103, 3) := by decide +kernel
theorem dX10_list_70 : decode cX10_list 70 = .ok (.aload_n 0, 1) := by decide +kernel
theorem dX10_list_71 : decode cX10_list 71 = .ok (.getfield 36, 3) := by decide +kernel
theorem dX10_list_74 : decode cX10_list 74 = .ok (.aload_n 3, 1) := by decide +kernel
theorem dX10_list_75 : decode cX10_list 75 = .ok (.iload 5, 2) := by decide +kernel
theorem dX10_list_77 : decode cX10_list 77 = .ok (.invokevirtual 74, 3) := by decide +kernel
theorem dX10_list_80 : decode cX10_list 80 = .ok (.invokevirtual 103, 3) := by decide +kernel
theorem dX10_list_83 : decode cX10_list 83 = .ok (.iinc 4 1, 3) := by decide +kernel
theorem dX10_list_86 : decode cX10_list 86 = .ok (.goto (-61), 3) := by decide +kernel
theorem dX10_list_89 : decode cX10_list 89 = .ok (.return_, 1) := by decide +kernel
theorem dX10_measureHeights_0 : decode cX10_measureHeights 0 = .ok (.aload_n 0, 1) := by decide +kernel
theorem dX10_measureHeights_1 : decode cX10_measureHeights 1 = .ok (.getfield 39, 3) := by decide +kernel
theorem dX10_measureHeights_4 : decode cX10_measureHeights 4 = .ok (.bipush 8, 2) := by decide +kernel
theorem dX10_measureHeights_6 : decode cX10_measureHeights 6 = .ok (.iconst 0, 1) := by decide +kernel
theorem dX10_measureHeights_7 : decode cX10_measureHeights 7 = .ok (.invokevirtual 65, 3) := by decide +kernel
theorem dX10_measureHeights_10 : decode cX10_measureHeights 10 = .ok (.aload_n 0, 1) := by decide +kernel
theorem dX10_measureHeights_11 : decode cX10_measureHeights 11 = .ok (.iconst 0, 1) := by decide +kernel
theorem dX10_measureHeights_12 : decode cX10_measureHeights 12 = .ok (.putfield 106, 3) := by decide +kernel
theorem dX10_measureHeights_15 : decode cX10_measureHeights 15 = .ok (.aload_n 0, 1) := by decide +kernel
theorem dX10_measureHeights_16 : decode cX10_measureHeights 16 = .ok (.getfield 33, 3) := by decide +kernel
theorem dX10_measureHeights_19 : decode cX10_measureHeights 19 = .ok (.invokevirtual 83, 3) := by decide +kernel
theorem dX10_measureHeights_22 : decode cX10_measureHeights 22 = .ok (.iconst 1, 1) := by decide +kernel
theorem dX10_measureHeights_23 : decode cX10_measureHeights 23 = .ok (.isub, 1) := by decide +kernel
theorem dX10_measureHeights_24 : decode cX10_measureHeights 24 = .ok (.istore_n 1, 1) := by decide +kernel
theorem dX10_measureHeights_25 : decode cX10_measureHeights 25 = .ok (.iload_n 1, 1) := by decide +kernel
theorem dX10_measureHeights_26 : decode cX10_measureHeights 26 = .ok (.ifCond .lt 78, 3) := by decide +kernel
theorem dX10_measureHeights_29 : decode cX10_measureHeights 29 = .ok (.aload_n 0, 1) := by decide +kernel
theorem dX10_measureHeights_30 : decode cX10_measureHeights 30 = .ok (.getfield 33, 3) := by decide +kernel
theorem dX10_measureHeights_33 : decode cX10_measureHeights 33 = .ok (.iload_n 1, 1) := by decide +kernel
theorem dX10_measureHeights_34 : decode cX10_measureHeights 34 = .ok (.invokevirtual 74, 3) := by decide +kernel
theorem dX10_measureHeights_37 : decode cX10_measureHeights 37 = .ok (.istore_n 2, 1) := by decide +kernel
theorem dX10_measureHeights_38 : decode cX10_measureHeights 38 = .ok (.aload_n 0, 1) := by decide +kernel
theorem dX10_measureHeights_39 : decode cX10_measureHeights 39 = .ok (.getfield 39, 3) := by decide +kernel
theorem dX10_measureHeights_42 : decode cX10_measureHeights 42 = .ok (.aload_n 0, 1) := by decide +kernel
theorem dX10_measureHeights_43 : decode cX10_measureHeights 43 = .ok (.getfield 24, 3) := by decide +kernel
theorem dX10_measureHeights_46 : decode cX10_measureHeights 46 = .ok (.iload_n 2, 1) := by decide +kernel
theorem dX10_measureHeights_47 : decode cX10_measureHeights 47 = .ok (.invokevirtual 74, 3) := by decide +kernel
theorem dX10_measureHeights_50 : decode cX10_measureHeights 50 = .ok (.invokevirtual 74, 3) := by decide +kernel
theorem dX10_measureHeights_53 : decode cX10_measureHeights 53 = .ok (.aload_n 0, 1) := by decide +kernel
theorem dX10_measureHeights_54 : decode cX10_measureHeights 54 = .ok (.getfield 39, 3) := by decide +kernel
theorem dX10_measureHeights_57 : decode cX10_measureHeights 57 = .ok (.aload_n 0, 1) := by decide +kernel
theorem dX10_measureHeights_58 : decode cX10_measureHeights 58 = .ok (.getfield 27, 3) := by decide +kernel
theorem dX10_measureHeights_61 : decode cX10_measureHeights 61 = .ok (.iload_n 2, 1) := by decide +kernel
theorem dX10_measureHeights_62 : decode cX10_measureHeights 62 = .ok (.invokevirtual 74, 3) := by decide +kernel
theorem dX10_measureHeights_65 : decode cX10_measureHeights 65 = .ok (.invokevirtual 74, 3) := by decide +kernel
theorem dX10_measureHeights_68 : decode cX10_measureHeights 68 = .ok (.invokestatic 109, 3) := by decide +kernel
theorem dX10_measureHeights_71 : decode cX10_measureHeights 71 = .ok (.istore_n 3, 1) := by decide +kernel
theorem dX10_measureHeights_72 : decode cX10_measureHeights 72 = .ok (.aload_n 0, 1) := by decide +kernel
theorem dX10_measureHeights_73 : decode cX10_measureHeights 73 = .ok (.getfield 39, 3) := by decide +kernel
theorem dX10_measureHeights_76 : decode cX10_measureHeights 76 = .ok (.iload_n 2, 1) := by decide +kernel
theorem dX10_measureHeights_77 : decode cX10_measureHeights 77 = .ok (.iload_n 3, 1) := by decide +kernel
theorem dX10_measureHeights_78 : decode cX10_measureHeights 78 = .ok (.iconst 0, 1) := by decide +kernel
theorem dX10_measureHeights_79 : decode cX10_measureHeights 79 = .ok (.invokestatic 109, 3) := by decide +kernel
theorem dX10_measureHeights_82 : decode cX10_measureHeights 82 = .ok (.iconst 1, 1) := by decide +kernel
theorem dX10_measureHeights_83 : decode cX10_measureHeights 83 = .ok (.iadd, 1) := by decide +kernel
theorem dX10_measureHeights_84 : decode cX10_measureHeights 84 = .ok (.invokevirtual 77, 3) := by decide +kernel
theorem dX10_measureHeights_87 : decode cX10_measureHeights 87 = .ok (.aload_n 0, 1) := by decide +kernel
theorem dX10_measureHeights_88 : decode cX10_measureHeights 88 = .ok (.iload_n 3, 1) := by decide +kernel
theorem dX10_measureHeights_89 : decode cX10_measureHeights 89 = .ok (.iconst 0, 1) := by decide +kernel
theorem dX10_measureHeights_90 : decode cX10_measureHeights 90 = .ok (.invokestatic 109, 3) := by decide +kernel
theorem dX10_measureHeights_93 : decode cX10_measureHeights 93 = .ok (.iconst 1, 1) := by decide +kernel
theorem dX10_measureHeights_94 : decode cX10_measureHeights 94 = .ok (.iadd, 1) := by decide +kernel
theorem dX10_measureHeights_95 : decode cX10_measureHeights 95 = .ok (.putfield 106, 3) := by decide +kernel
theorem dX10_measureHeights_98 : decode cX10_measureHeights 98 = .ok (.iinc 1 (-1), 3) := by decide +kernel
theorem dX10_measureHeights_101 : decode cX10_measureHeights 101 = .ok (.goto (-76), 3) := by decide +kernel
theorem dX10_measureHeights_104 : decode cX10_measureHeights 104 = .ok (.return_, 1) := by decide +kernel
theorem dX11_init_0 : decode cX11_init 0 = .ok (.aload_n 0, 1) := by decide +kernel
theorem dX11_init_1 : decode cX11_init 1 = .ok (.invokespecial 3, 3) := by decide +kernel
theorem dX11_init_4 : decode cX11_init 4 = .ok (.aload_n 0, 1) := by decide +kernel
theorem dX11_init_5 : decode cX11_init 5 = .ok (.new 9, 3) := by decide +kernel
theorem dX11_init_8 : decode cX11_init 8 = .ok (.dup, 1) := by decide +kernel
theorem dX11_init_9 : decode cX11_init 9 = .ok (.sipush 1600, 3) := by decide +kernel
theorem dX11_init_12 : decode cX11_init 12 = .ok (.invokespecial 11, 3) := by decide +kernel
theorem dX11_init_15 : decode cX11_init 15 = .ok (.putfield 14, 3) := by decide +kernel
theorem dX11_init_18 : decode cX11_init 18 = .ok (.aload_n 0, 1) := by decide +kernel
theorem dX11_init_19 : decode cX11_init 19 = .ok (.new 9, 3) := by decide +kernel
theorem dX11_init_22 : decode cX11_init 22 = .ok (.dup, 1) := by decide +kernel
theorem dX11_init_23 : decode cX11_init 23 = .ok (.bipush 8, 2) := by decide +kernel
theorem dX11_init_25 : decode cX11_init 25 = .ok (.invokespecial 11, 3) := by decide +kernel
theorem dX11_init_28 : decode cX11_init 28 = .ok (.putfield 18, 3) := by decide +kernel
theorem dX11_init_31 : decode cX11_init 31 = .ok (.aload_n 0, 1) := by decide +kernel
theorem dX11_init_32 : decode cX11_init 32 = .ok (.new 21, 3) := by decide +kernel
theorem dX11_init_35 : decode cX11_init 35 = .ok (.dup, 1) := by decide +kernel
theorem dX11_init_36 : decode cX11_init 36 = .ok (.invokespecial 23, 3) := by decide +kernel
theorem dX11_init_39 : decode cX11_init 39 = .ok (.putfield 24, 3) := by decide +kernel
theorem dX11_init_42 : decode cX11_init 42 = .ok (.aload_n 0, 1) := by decide +kernel
theorem dX11_init_43 : decode cX11_init 43 = .ok (.new 21, 3) := by decide +kernel
theorem dX11_init_46 : decode cX11_init 46 = .ok (.dup, 1) := by decide +kernel
theorem dX11_init_47 : decode cX11_init 47 = .ok (.invokespecial 23, 3) := by decide +kernel
theorem dX11_init_50 : decode cX11_init 50 = .ok (.putfield 28, 3) := by decide +kernel
theorem dX11_init_53 : decode cX11_init 53 = .ok (.aload_n 0, 1) := by decide +kernel
theorem dX11_init_54 : decode cX11_init 54 = .ok (.new 31, 3) := by decide +kernel
theorem dX11_init_57 : decode cX11_init 57 = .ok (.dup, 1) := by decide +kernel
theorem dX11_init_58 : decode cX11_init 58 = .ok (.aload_n 0, 1) := by decide +kernel
theorem dX11_init_59 : decode cX11_init 59 = .ok (.getfield 14, 3) := by decide +kernel
theorem dX11_init_62 : decode cX11_init 62 = .ok (.invokespecial 33, 3) := by decide +kernel
theorem dX11_init_65 : decode cX11_init 65 = .ok (.putfield 36, 3) := by decide +kernel
theorem dX11_init_68 : decode cX11_init 68 = .ok (.aload_n 0, 1) := by decide +kernel
theorem dX11_init_69 : decode cX11_init 69 = .ok (.new 40, 3) := by decide +kernel
theorem dX11_init_72 : decode cX11_init 72 = .ok (.dup, 1) := by decide +kernel
theorem dX11_init_73 : decode cX11_init 73 = .ok (.aload_n 0, 1) := by decide +kernel
theorem dX11_init_74 : decode cX11_init 74 = .ok (.getfield 36, 3) := by decide +kernel
theorem dX11_init_77 : decode cX11_init 77 = .ok (.aload_n 0, 1) := by decide +kernel
theorem dX11_init_78 : decode cX11_init 78 = .ok (.getfield 24, 3) := by decide +kernel
theorem dX11_init_81 : decode cX11_init 81 = .ok (.invokespecial 42, 3) := by decide +kernel
theorem dX11_init_84 : decode cX11_init 84 = .ok (.putfield 45, 3) := by decide +kernel
theorem dX11_init_87 : decode cX11_init 87 = .ok (.aload_n 0, 1) := by decide +kernel
theorem dX11_init_88 : decode cX11_init 88 = .ok (.new 49, 3) := by decide +kernel
theorem dX11_init_91 : decode cX11_init 91 = .ok (.dup, 1) := by decide +kernel
theorem dX11_init_92 : decode cX11_init 92 = .ok (.aload_n 0, 1) := by decide +kernel
theorem dX11_init_93 : decode cX11_init 93 = .ok (.getfield 28, 3) := by decide +kernel
theorem dX11_init_96 : decode cX11_init 96 = .ok (.invokespecial 51, 3) := by decide +kernel
theorem dX11_init_99 : decode cX11_init 99 = .ok (.putfield 54, 3) := by decide +kernel
theorem dX11_init_102 : decode cX11_init 102 = .ok (.aload_n 0, 1) := by decide +kernel
theorem dX11_init_103 : decode cX11_init 103 = .ok (.new 58, 3) := by decide +kernel
theorem dX11_init_106 : decode cX11_init 106 = .ok (.dup, 1) := by decide +kernel
theorem dX11_init_107 : decode cX11_init 107 = .ok (.invokespecial 60, 3) := by decide +kernel
theorem dX11_init_110 : decode cX11_init 110 = .ok (.putfield 61, 3) := by decide +kernel
theorem dX11_init_113 : decode cX11_init 113 = .ok (.aload_n 0, 1) := by decide +kernel
theorem dX11_init_114 : decode cX11_init 114 = .ok (.new 58, 3) := by decide +kernel
theorem dX11_init_117 : decode cX11_init 117 = .ok (.dup, 1) := by decide +kernel
theorem dX11_init_118 : decode cX11_init 118 = .ok (.invokespecial 60, 3) := by decide +kernel
theorem dX11_init_121 : decode cX11_init 121 = .ok (.putfield 65, 3) := by decide +kernel
theorem dX11_init_124 : decode cX11_init 124 = .ok (.aload_n 0, 1) := by decide +kernel
theorem dX11_init_125 : decode cX11_init 125 = .ok (.new 58, 3) := by decide +kernel
theorem dX11_init_128 : decode cX11_init 128 = .ok (.dup, 1) := by decide +kernel
theorem dX11_init_129 : decode cX11_init 129 = .ok (.invokespecial 60, 3) := by decide +kernel
theorem dX11_init_132 : decode cX11_init 132 = .ok (.putfield 68, 3) := by decide +kernel
theorem dX11_init_135 : decode cX11_init 135 = .ok (.aload_n 0, 1) := by decide +kernel
theorem dX11_init_136 : decode cX11_init 136 = .ok (.new 58, 3) := by decide +kernel
theorem dX11_init_139 : decode cX11_init 139 = .ok (.dup, 1) := by decide +kernel
theorem dX11_init_140 : decode cX11_init 140 = .ok (.invokespecial 60, 3) := by decide +kernel
theorem dX11_init_143 : decode cX11_init 143 = .ok (.putfield 71, 3) := by decide +kernel
theorem dX11_init_146 : decode cX11_init 146 = .ok (.aload_n 0, 1) := by decide +kernel
theorem dX11_init_147 : decode cX11_init 147 = .ok (.new 58, 3) := by decide +kernel
theorem dX11_init_150 : decode cX11_init 150 = .ok (.dup, 1) := by decide +kernel
theorem dX11_init_151 : decode cX11_init 151 = .ok (.invokespecial 60, 3) := by decide +kernel
theorem dX11_init_154 : decode cX11_init 154 = .ok (.putfield 74, 3) := by decide +kernel
theorem dX11_init_157 : decode cX11_init 157 = .ok (.aload_n 0, 1) := by decide +kernel
theorem dX11_init_158 : decode cX11_init 158 = .ok (.new 77, 3) := by decide +kernel
theorem dX11_init_161 : decode cX11_init 161 = .ok (.dup, 1) := by decide +kernel
theorem dX11_init_162 : decode cX11_init 162 = .ok (.aload_n 0, 1) := by decide +kernel
theorem dX11_init_163 : decode cX11_init 163 = .ok (.getfield 28, 3) := by decide +kernel
theorem dX11_init_166 : decode cX11_init 166 = .ok (.aload_n 0, 1) := by decide +kernel
theorem dX11_init_167 : decode cX11_init 167 = .ok (.getfield 54, 3) := by decide +kernel
theorem dX11_init_170 : decode cX11_init 170 = .ok (.aload_n 0, 1) := by decide +kernel
theorem dX11_init_171 : decode cX11_init 171 = .ok (.getfield 61, 3) := by decide +kernel
theorem dX11_init_174 : decode cX11_init 174 = .ok (.invokespecial 79, 3) := by decide +kernel
theorem dX11_init_177 : decode cX11_init 177 = .ok (.putfield 82, 3) := by decide +kernel
theorem dX11_init_180 : decode cX11_init 180 = .ok (.aload_n 0, 1) := by decide +kernel
theorem dX11_init_181 : decode cX11_init 181 = .ok (.new 86, 3) := by decide +kernel
theorem dX11_init_184 : decode cX11_init 184 = .ok (.dup, 1) := by decide +kernel
theorem dX11_init_185 : decode cX11_init 185 = .ok (.aload_n 0, 1) := by decide +kernel
theorem dX11_init_186 : decode cX11_init 186 = .ok (.getfield 28, 3) := by decide +kernel
theorem dX11_init_189 : decode cX11_init 189 = .ok (.aload_n 0, 1) := by decide +kernel
theorem dX11_init_190 : decode cX11_init 190 = .ok (.getfield 54, 3) := by decide +kernel
theorem dX11_init_193 : decode cX11_init 193 = .ok (.aload_n 0, 1) := by decide +kernel
theorem dX11_init_194 : decode cX11_init 194 = .ok (.getfield 61, 3) := by decide +kernel
theorem dX11_init_197 : decode cX11_init 197 = .ok (.invokespecial 88, 3) := by decide +kernel
theorem dX11_init_200 : decode cX11_init 200 = .ok (.putfield 89, 3) := by decide +kernel
theorem dX11_init_203 : decode cX11_init 203 = .ok (.aload_n 0, 1) := by decide +kernel
theorem dX11_init_204 : decode cX11_init 204 = .ok (.new 93, 3) := by decide +kernel
theorem dX11_init_207 : decode cX11_init 207 = .ok (.dup, 1) := by decide +kernel
theorem dX11_init_208 : decode cX11_init 208 = .ok (.aload_n 0, 1) := by decide +kernel
theorem dX11_init_209 : decode cX11_init 209 = .ok (.getfield 28, 3) := by decide +kernel
theorem dX11_init_212 : decode cX11_init 212 = .ok (.invokespecial 95, 3) := by decide +kernel
theorem dX11_init_215 : decode cX11_init 215 = .ok (.putfield 96, 3) := by decide +kernel
theorem dX11_init_218 : decode cX11_init 218 = .ok (.return_, 1) := by decide +kernel
theorem dX11_feed_0 : decode cX11_feed 0 = .ok (.aload_n 0, 1) := by decide +kernel
theorem dX11_feed_1 : decode cX11_feed 1 = .ok (.getfield 14, 3) := by decide +kernel
theorem dX11_feed_4 : decode cX11_feed 4 = .ok (.invokevirtual 100, 3) := by decide +kernel
theorem dX11_feed_7 : decode cX11_feed 7 = .ok (.bipush 20, 2) := by decide +kernel
theorem dX11_feed_9 : decode cX11_feed 9 = .ok (.iadd, 1) := by decide +kernel
theorem dX11_feed_10 : decode cX11_feed 10 = .ok (.sipush 1600, 3) := by decide +kernel
theorem dX11_feed_13 : decode cX11_feed 13 = .ok (.if_icmp .le 5, 3) := by decide +kernel
theorem dX11_feed_16 : decode cX11_feed 16 = .ok (.iconst (-1), 1) := by decide +kernel
theorem dX11_feed_17 : decode cX11_feed 17 = .ok (.ireturn, 1) := by decide +kernel
theorem dX11_feed_18 : decode cX11_feed 18 = .ok (.aload_n 0, 1) := by decide +kernel
theorem dX11_feed_19 : decode cX11_feed 19 = .ok (.iload_n 1, 1) := by decide +kernel
theorem dX11_feed_20 : decode cX11_feed 20 = .ok (.invokevirtual 104, 3) := by decide +kernel
theorem dX11_feed_23 : decode cX11_feed 23 = .ok (.aload_n 0, 1) := by decide +kernel
theorem dX11_feed_24 : decode cX11_feed 24 = .ok (.iload_n 2, 1) := by decide +kernel
theorem dX11_feed_25 : decode cX11_feed 25 = .ok (.invokevirtual 104, 3) := by decide +kernel
theorem dX11_feed_28 : decode cX11_feed 28 = .ok (.aload_n 0, 1) := by decide +kernel
theorem dX11_feed_29 : decode cX11_feed 29 = .ok (.iload_n 3, 1) := by decide +kernel
theorem dX11_feed_30 : decode cX11_feed 30 = .ok (.invokevirtual 104, 3) := by decide +kernel
theorem dX11_feed_33 : decode cX11_feed 33 = .ok (.aload_n 0, 1) := by decide +kernel
theorem dX11_feed_34 : decode cX11_feed 34 = .ok (.iload 4, 2) := by decide +kernel
theorem dX11_feed_36 : decode cX11_feed 36 = .ok (.invokevirtual 104, 3) := by decide +kernel
theorem dX11_feed_39 : decode cX11_feed 39 = .ok (.aload_n 0, 1) := by decide +kernel
theorem dX11_feed_40 : decode cX11_feed 40 = .ok (.iload 5, 2) := by decide +kernel
theorem dX11_feed_42 : decode cX11_feed 42 = .ok (.invokevirtual 104, 3) := by decide +kernel
theorem dX11_feed_45 : decode cX11_feed 45 = .ok (.aload_n 0, 1) := by decide +kernel
theorem dX11_feed_46 : decode cX11_feed 46 = .ok (.getfield 14, 3) := by decide +kernel
theorem dX11_feed_49 : decode cX11_feed 49 = .ok (.invokevirtual 100, 3) := by decide +kernel
theorem dX11_feed_52 : decode cX11_feed 52 = .ok (.ireturn, 1) := by decide +kernel
theorem dX11_feedNumber_0 : decode cX11_feedNumber 0 = .ok (.bipush 24, 2) := by decide +kernel
theorem dX11_feedNumber_2 : decode cX11_feedNumber 2 = .ok (.istore_n 2, 1) := by decide +kernel
theorem dX11_feedNumber_3 : decode cX11_feedNumber 3 = .ok (.iload_n 2, 1) := by decide +kernel
theorem dX11_feedNumber_4 : decode cX11_feedNumber 4 = .ok (.ifCond .lt 23, 3) := by decide +kernel
theorem dX11_feedNumber_7 : decode cX11_feedNumber 7 = .ok (.aload_n 0, 1) := by decide +kernel
theorem dX11_feedNumber_8 : decode cX11_feedNumber 8 = .ok (.getfield 14, 3) := by decide +kernel
theorem dX11_feedNumber_11 : decode cX11_feedNumber 11 = .ok (.iload_n 1, 1) := by decide +kernel
theorem dX11_feedNumber_12 : decode cX11_feedNumber 12 = .ok (.iload_n 2, 1) := by decide +kernel
theorem dX11_feedNumber_13 : decode cX11_feedNumber 13 = .ok (.ishr, 1) := by decide +kernel
theorem dX11_feedNumber_14 : decode cX11_feedNumber 14 = .ok (.sipush 255, 3) := by decide +kernel
theorem dX11_feedNumber_17 : decode cX11_feedNumber 17 = .ok (.iand, 1) := by decide +kernel
theorem dX11_feedNumber_18 : decode cX11_feedNumber 18 = .ok (.invokevirtual 107, 3) := by decide +kernel
theorem dX11_feedNumber_21 : decode cX11_feedNumber 21 = .ok (.iinc 2 (-8), 3) := by decide +kernel
theorem dX11_feedNumber_24 : decode cX11_feedNumber 24 = .ok (.goto (-21), 3) := by decide +kernel
theorem dX11_feedNumber_27 : decode cX11_feedNumber 27 = .ok (.return_, 1) := by decide +kernel
theorem dX11_end_0 : decode cX11_end 0 = .ok (.iload_n 1, 1) := by decide +kernel
theorem dX11_end_1 : decode cX11_end 1 = .ok (.ifCond .lt 14, 3) := by decide +kernel
theorem dX11_end_4 : decode cX11_end 4 = .ok (.iload_n 1, 1) := by decide +kernel
theorem dX11_end_5 : decode cX11_end 5 = .ok (.aload_n 0, 1) := by decide +kernel
theorem dX11_end_6 : decode cX11_end 6 = .ok (.getfield 14, 3) := by decide +kernel
theorem dX11_end_9 : decode cX11_end 9 = .ok (.invokevirtual 100, 3) := by decide +kernel
theorem dX11_end_12 : decode cX11_end 12 = .ok (.if_icmp .le 5, 3) := by decide +kernel
theorem dX11_end_15 : decode cX11_end 15 = .ok (.iconst (-1), 1) := by decide +kernel
theorem dX11_end_16 : decode cX11_end 16 = .ok (.ireturn, 1) := by decide +kernel
theorem dX11_end_17 : decode cX11_end 17 = .ok (.aload_n 0, 1) := by decide +kernel
theorem dX11_end_18 : decode cX11_end 18 = .ok (.getfield 14, 3) := by decide +kernel
theorem dX11_end_21 : decode cX11_end 21 = .ok (.iload_n 1, 1) := by decide +kernel
theorem dX11_end_22 : decode cX11_end 22 = .ok (.invokevirtual 110, 3) := by decide +kernel
theorem dX11_end_25 : decode cX11_end 25 = .ok (.iload_n 1, 1) := by decide +kernel
theorem dX11_end_26 : decode cX11_end 26 = .ok (.ireturn, 1) := by decide +kernel
theorem dX11_map_0 : decode cX11_map 0 = .ok (.aload_n 0, 1) := by decide +kernel
theorem dX11_map_1 : decode cX11_map 1 = .ok (.getfield 45, 3) := by decide +kernel
theorem dX11_map_4 : decode cX11_map 4 = .ok (.invokevirtual 113, 3) := by decide +kernel
theorem dX11_map_7 : decode cX11_map 7 = .ok (.aload_n 0, 1) := by decide +kernel
theorem dX11_map_8 : decode cX11_map 8 = .ok (.getfield 14, 3) := by decide +kernel
theorem dX11_map_11 : decode cX11_map 11 = .ok (.invokevirtual 116, 3) := by decide +kernel
theorem dX11_map_14 : decode cX11_map 14 = .ok (.aload_n 0, 1) := by decide +kernel
theorem dX11_map_15 : decode cX11_map 15 = .ok (.getfield 36, 3) := by decide +kernel
theorem dX11_map_18 : decode cX11_map 18 = .ok (.invokevirtual 119, 3) := by decide +kernel
theorem dX11_map_21 : decode cX11_map 21 = .ok (.ifCond .eq 5, 3) := by decide +kernel
theorem dX11_map_24 : decode cX11_map 24 = .ok (.iconst (-1), 1) := by decide +kernel
theorem dX11_map_25 : decode cX11_map 25 = .ok (.ireturn, 1) := by decide +kernel
theorem dX11_map_26 : decode cX11_map 26 = .ok (.aload_n 0, 1) := by decide +kernel
theorem dX11_map_27 : decode cX11_map 27 = .ok (.getfield 28, 3) := by decide +kernel
theorem dX11_map_30 : decode cX11_map 30 = .ok (.aload_n 0, 1) := by decide +kernel
theorem dX11_map_31 : decode cX11_map 31 = .ok (.getfield 24, 3) := by decide +kernel
theorem dX11_map_34 : decode cX11_map 34 = .ok (.invokevirtual 123, 3) := by decide +kernel
theorem dX11_map_37 : decode cX11_map 37 = .ok (.aload_n 0, 1) := by decide +kernel
theorem dX11_map_38 : decode cX11_map 38 = .ok (.getfield 61, 3) := by decide +kernel
theorem dX11_map_41 : decode cX11_map 41 = .ok (.invokevirtual 126, 3) := by decide +kernel
theorem dX11_map_44 : decode cX11_map 44 = .ok (.aload_n 0, 1) := by decide +kernel
theorem dX11_map_45 : decode cX11_map 45 = .ok (.getfield 68, 3) := by decide +kernel
theorem dX11_map_48 : decode cX11_map 48 = .ok (.iconst 0, 1) := by decide +kernel
theorem dX11_map_49 : decode cX11_map 49 = .ok (.putfield 129, 3) := by decide +kernel
theorem dX11_map_52 : decode cX11_map 52 = .ok (.aload_n 0, 1) := by decide +kernel
theorem dX11_map_53 : decode cX11_map 53 = .ok (.getfield 71, 3) := by decide +kernel
theorem dX11_map_56 : decode cX11_map 56 = .ok (.iconst 0, 1) := by decide +kernel
theorem dX11_map_57 : decode cX11_map 57 = .ok (.putfield 129, 3) := by decide +kernel
theorem dX11_map_60 : decode cX11_map 60 = .ok (.aload_n 0, 1) := by decide +kernel
theorem dX11_map_61 : decode cX11_map 61 = .ok (.getfield 74, 3) := by decide +kernel
theorem dX11_map_64 : decode cX11_map 64 = .ok (.iconst 0, 1) := by decide +kernel
theorem dX11_map_65 : decode cX11_map 65 = .ok (.putfield 129, 3) := by decide +kernel
theorem dX11_map_68 : decode cX11_map 68 = .ok (.aload_n 0, 1) := by decide +kernel
theorem dX11_map_69 : decode cX11_map 69 = .ok (.getfield 82, 3) := by decide +kernel
theorem dX11_map_72 : decode cX11_map 72 = .ok (.invokevirtual 133, 3) := by decide +kernel
theorem dX11_map_75 : decode cX11_map 75 = .ok (.aload_n 0, 1) := by decide +kernel
theorem dX11_map_76 : decode cX11_map 76 = .ok (.getfield 96, 3) := by decide +kernel
theorem dX11_map_79 : decode cX11_map 79 = .ok (.invokevirtual 136, 3) := by decide +kernel
theorem dX11_map_82 : decode cX11_map 82 = .ok (.aload_n 0, 1) := by decide +kernel
theorem dX11_map_83 : decode cX11_map 83 = .ok (.getfield 18, 3) := by decide +kernel
theorem dX11_map_86 : decode cX11_map 86 = .ok (.invokevirtual 116, 3) := by decide +kernel
theorem dX11_map_89 : decode cX11_map 89 = .ok (.aload_n 0, 1) := by decide +kernel
theorem dX11_map_90 : decode cX11_map 90 = .ok (.getfield 28, 3) := by decide +kernel
theorem dX11_map_93 : decode cX11_map 93 = .ok (.invokevirtual 137, 3) := by decide +kernel
theorem dX11_map_96 : decode cX11_map 96 = .ok (.ireturn, 1) := by decide +kernel
theorem dX11_fault_0 : decode cX11_fault 0 = .ok (.iload_n 1, 1) := by decide +kernel
theorem dX11_fault_1 : decode cX11_fault 1 = .ok (.lookupswitch 43 #[(0, 27), (1, 35)], 27) := by decide +kernel
theorem dX11_fault_28 : decode cX11_fault 28 = .ok (.aload_n 0, 1) := by decide +kernel
theorem dX11_fault_29 : decode cX11_fault 29 = .ok (.getfield 36, 3) := by decide +kernel
theorem dX11_fault_32 : decode cX11_fault 32 = .ok (.getfield 140, 3) := by decide +kernel
theorem dX11_fault_35 : decode cX11_fault 35 = .ok (.ireturn, 1) := by decide +kernel
theorem dX11_fault_36 : decode cX11_fault 36 = .ok (.aload_n 0, 1) := by decide +kernel
theorem dX11_fault_37 : decode cX11_fault 37 = .ok (.getfield 36, 3) := by decide +kernel
theorem dX11_fault_40 : decode cX11_fault 40 = .ok (.getfield 144, 3) := by decide +kernel
theorem dX11_fault_43 : decode cX11_fault 43 = .ok (.ireturn, 1) := by decide +kernel
theorem dX11_fault_44 : decode cX11_fault 44 = .ok (.iconst (-1), 1) := by decide +kernel
theorem dX11_fault_45 : decode cX11_fault 45 = .ok (.ireturn, 1) := by decide +kernel
theorem dX11_segment_0 : decode cX11_segment 0 = .ok (.aload_n 0, 1) := by decide +kernel
theorem dX11_segment_1 : decode cX11_segment 1 = .ok (.getfield 28, 3) := by decide +kernel
theorem dX11_segment_4 : decode cX11_segment 4 = .ok (.iload_n 1, 1) := by decide +kernel
theorem dX11_segment_5 : decode cX11_segment 5 = .ok (.invokevirtual 147, 3) := by decide +kernel
theorem dX11_segment_8 : decode cX11_segment 8 = .ok (.ifCond .ne 6, 3) := by decide +kernel
theorem dX11_segment_11 : decode cX11_segment 11 = .ok (.bipush (-2), 2) := by decide +kernel
theorem dX11_segment_13 : decode cX11_segment 13 = .ok (.ireturn, 1) := by decide +kernel
theorem dX11_segment_14 : decode cX11_segment 14 = .ok (.aload_n 0, 1) := by decide +kernel
theorem dX11_segment_15 : decode cX11_segment 15 = .ok (.getfield 61, 3) := by decide +kernel
theorem dX11_segment_18 : decode cX11_segment 18 = .ok (.invokevirtual 151, 3) := by decide +kernel
theorem dX11_segment_21 : decode cX11_segment 21 = .ok (.istore_n 3, 1) := by decide +kernel
theorem dX11_segment_22 : decode cX11_segment 22 = .ok (.iload_n 2, 1) := by decide +kernel
theorem dX11_segment_23 : decode cX11_segment 23 = .ok (.tableswitch 135 0 6 #[41, 53, 65, 77, 89, 107, 123], 41) := by decide +kernel
theorem dX11_segment_64 : decode cX11_segment 64 = .ok (.aload_n 0, 1) := by decide +kernel
theorem dX11_segment_65 : decode cX11_segment 65 = .ok (.getfield 28, 3) := by decide +kernel
theorem dX11_segment_68 : decode cX11_segment 68 = .ok (.getfield 154, 3) := by decide +kernel
theorem dX11_segment_71 : decode cX11_segment 71 = .ok (.iload_n 1, 1) := by decide +kernel
theorem dX11_segment_72 : decode cX11_segment 72 = .ok (.invokevirtual 157, 3) := by decide +kernel
theorem dX11_segment_75 : decode cX11_segment 75 = .ok (.ireturn, 1) := by decide +kernel
theorem dX11_segment_76 : decode cX11_segment 76 = .ok (.aload_n 0, 1) := by decide +kernel
theorem dX11_segment_77 : decode cX11_segment 77 = .ok (.getfield 28, 3) := by decide +kernel
theorem dX11_segment_80 : decode cX11_segment 80 = .ok (.getfield 161, 3) := by decide +kernel
theorem dX11_segment_83 : decode cX11_segment 83 = .ok (.iload_n 1, 1) := by decide +kernel
theorem dX11_segment_84 : decode cX11_segment 84 = .ok (.invokevirtual 157, 3) := by decide +kernel
theorem dX11_segment_87 : decode cX11_segment 87 = .ok (.ireturn, 1) := by decide +kernel
theorem dX11_segment_88 : decode cX11_segment 88 = .ok (.aload_n 0, 1) := by decide +kernel
theorem dX11_segment_89 : decode cX11_segment 89 = .ok (.getfield 28, 3) := by decide +kernel
theorem dX11_segment_92 : decode cX11_segment 92 = .ok (.getfield 164, 3) := by decide +kernel
theorem dX11_segment_95 : decode cX11_segment 95 = .ok (.iload_n 1, 1) := by decide +kernel
theorem dX11_segment_96 : decode cX11_segment 96 = .ok (.invokevirtual 157, 3) := by decide +kernel
theorem dX11_segment_99 : decode cX11_segment 99 = .ok (.ireturn, 1) := by decide +kernel
theorem dX11_segment_100 : decode cX11_segment 100 = .ok (.aload_n 0, 1) := by decide +kernel
theorem dX11_segment_101 : decode cX11_segment 101 = .ok (.getfield 28, 3) := by decide +kernel
theorem dX11_segment_104 : decode cX11_segment 104 = .ok (.getfield 167, 3) := by decide +kernel
theorem dX11_segment_107 : decode cX11_segment 107 = .ok (.iload_n 1, 1) := by decide +kernel
theorem dX11_segment_108 : decode cX11_segment 108 = .ok (.invokevirtual 157, 3) := by decide +kernel
theorem dX11_segment_111 : decode cX11_segment 111 = .ok (.ireturn, 1) := by decide +kernel
theorem dX11_segment_112 : decode cX11_segment 112 = .ok (.aload_n 0, 1) := by decide +kernel
theorem dX11_segment_113 : decode cX11_segment 113 = .ok (.getfield 61, 3) := by decide +kernel
theorem dX11_segment_116 : decode cX11_segment 116 = .ok (.iload_n 3, 1) := by decide +kernel
theorem dX11_segment_117 : decode cX11_segment 117 = .ok (.iload_n 1, 1) := by decide +kernel
theorem dX11_segment_118 : decode cX11_segment 118 = .ok (.invokevirtual 170, 3) := by decide +kernel
theorem dX11_segment_121 : decode cX11_segment 121 = .ok (.ifCond .eq 7, 3) := by decide +kernel
theorem dX11_segment_124 : decode cX11_segment 124 = .ok (.iconst 1, 1) := by decide +kernel
theorem dX11_segment_125 : decode cX11_segment 125 = .ok (.goto 4, 3) := by decide +kernel
theorem dX11_segment_128 : decode cX11_segment 128 = .ok (.iconst 0, 1) := by decide +kernel
theorem dX11_segment_129 : decode cX11_segment 129 = .ok (.ireturn, 1) := by decide +kernel
theorem dX11_segment_130 : decode cX11_segment 130 = .ok (.aload_n 0, 1) := by decide +kernel
theorem dX11_segment_131 : decode cX11_segment 131 = .ok (.getfield 61, 3) := by decide +kernel
theorem dX11_segment_134 : decode cX11_segment 134 = .ok (.getfield 174, 3) := by decide +kernel
theorem dX11_segment_137 : decode cX11_segment 137 = .ok (.iload_n 3, 1) := by decide +kernel
theorem dX11_segment_138 : decode cX11_segment 138 = .ok (.invokevirtual 157, 3) := by decide +kernel
theorem dX11_segment_141 : decode cX11_segment 141 = .ok (.iload_n 1, 1) := by decide +kernel
theorem dX11_segment_142 : decode cX11_segment 142 = .ok (.ishr, 1) := by decide +kernel
theorem dX11_segment_143 : decode cX11_segment 143 = .ok (.iconst 1, 1) := by decide +kernel
theorem dX11_segment_144 : decode cX11_segment 144 = .ok (.iand, 1) := by decide +kernel
theorem dX11_segment_145 : decode cX11_segment 145 = .ok (.ireturn, 1) := by decide +kernel
theorem dX11_segment_146 : decode cX11_segment 146 = .ok (.aload_n 0, 1) := by decide +kernel
theorem dX11_segment_147 : decode cX11_segment 147 = .ok (.getfield 61, 3) := by decide +kernel
theorem dX11_segment_150 : decode cX11_segment 150 = .ok (.getfield 177, 3) := by decide +kernel
theorem dX11_segment_153 : decode cX11_segment 153 = .ok (.iload_n 1, 1) := by decide +kernel
theorem dX11_segment_154 : decode cX11_segment 154 = .ok (.invokevirtual 157, 3) := by decide +kernel
theorem dX11_segment_157 : decode cX11_segment 157 = .ok (.ireturn, 1) := by decide +kernel
theorem dX11_segment_158 : decode cX11_segment 158 = .ok (.bipush (-2), 2) := by decide +kernel
theorem dX11_segment_160 : decode cX11_segment 160 = .ok (.ireturn, 1) := by decide +kernel
theorem dX11_weight_0 : decode cX11_weight 0 = .ok (.aload_n 0, 1) := by decide +kernel
theorem dX11_weight_1 : decode cX11_weight 1 = .ok (.getfield 28, 3) := by decide +kernel
theorem dX11_weight_4 : decode cX11_weight 4 = .ok (.iload_n 1, 1) := by decide +kernel
theorem dX11_weight_5 : decode cX11_weight 5 = .ok (.invokevirtual 147, 3) := by decide +kernel
theorem dX11_weight_8 : decode cX11_weight 8 = .ok (.ifCond .eq 17, 3) := by decide +kernel
theorem dX11_weight_11 : decode cX11_weight 11 = .ok (.aload_n 0, 1) := by decide +kernel
theorem dX11_weight_12 : decode cX11_weight 12 = .ok (.getfield 28, 3) := by decide +kernel
theorem dX11_weight_15 : decode cX11_weight 15 = .ok (.getfield 179, 3) := by decide +kernel
theorem dX11_weight_18 : decode cX11_weight 18 = .ok (.iload_n 1, 1) := by decide +kernel
theorem dX11_weight_19 : decode cX11_weight 19 = .ok (.invokevirtual 157, 3) := by decide +kernel
theorem dX11_weight_22 : decode cX11_weight 22 = .ok (.goto 4, 3) := by decide +kernel
theorem dX11_weight_25 : decode cX11_weight 25 = .ok (.iconst 0, 1) := by decide +kernel
theorem dX11_weight_26 : decode cX11_weight 26 = .ok (.ireturn, 1) := by decide +kernel
theorem dX11_higher_0 : decode cX11_higher 0 = .ok (.iload_n 1, 1) := by decide +kernel
theorem dX11_higher_1 : decode cX11_higher 1 = .ok (.iload_n 2, 1) := by decide +kernel
theorem dX11_higher_2 : decode cX11_higher 2 = .ok (.if_icmp .eq 27, 3) := by decide +kernel
theorem dX11_higher_5 : decode cX11_higher 5 = .ok (.aload_n 0, 1) := by decide +kernel
theorem dX11_higher_6 : decode cX11_higher 6 = .ok (.getfield 28, 3) := by decide +kernel
theorem dX11_higher_9 : decode cX11_higher 9 = .ok (.iload_n 1, 1) := by decide +kernel
theorem dX11_higher_10 : decode cX11_higher 10 = .ok (.iload_n 3, 1) := by decide +kernel
theorem dX11_higher_11 : decode cX11_higher 11 = .ok (.invokevirtual 182, 3) := by decide +kernel
theorem dX11_higher_14 : decode cX11_higher 14 = .ok (.ifCond .eq 15, 3) := by decide +kernel
theorem dX11_higher_17 : decode cX11_higher 17 = .ok (.aload_n 0, 1) := by decide +kernel
theorem dX11_higher_18 : decode cX11_higher 18 = .ok (.getfield 28, 3) := by decide +kernel
theorem dX11_higher_21 : decode cX11_higher 21 = .ok (.iload_n 2, 1) := by decide +kernel
theorem dX11_higher_22 : decode cX11_higher 22 = .ok (.iload_n 3, 1) := by decide +kernel
theorem dX11_higher_23 : decode cX11_higher 23 = .ok (.invokevirtual 182, 3) := by decide +kernel
theorem dX11_higher_26 : decode cX11_higher 26 = .ok (.ifCond .ne 5, 3) := by decide +kernel
theorem dX11_higher_29 : decode cX11_higher 29 = .ok (.iconst (-1), 1) := by decide +kernel
theorem dX11_higher_30 : decode cX11_higher 30 = .ok (.ireturn, 1) := by decide +kernel
theorem dX11_higher_31 : decode cX11_higher 31 = .ok (.aload_n 0, 1) := by decide +kernel
theorem dX11_higher_32 : decode cX11_higher 32 = .ok (.getfield 28, 3) := by decide +kernel
theorem dX11_higher_35 : decode cX11_higher 35 = .ok (.iload_n 1, 1) := by decide +kernel
theorem dX11_higher_36 : decode cX11_higher 36 = .ok (.iload_n 2, 1) := by decide +kernel
theorem dX11_higher_37 : decode cX11_higher 37 = .ok (.invokevirtual 185, 3) := by decide +kernel
theorem dX11_higher_40 : decode cX11_higher 40 = .ok (.ifCond .eq 7, 3) := by decide +kernel
theorem dX11_higher_43 : decode cX11_higher 43 = .ok (.iconst 1, 1) := by decide +kernel
theorem dX11_higher_44 : decode cX11_higher 44 = .ok (.goto 4, 3) := by decide +kernel
theorem dX11_higher_47 : decode cX11_higher 47 = .ok (.iconst 0, 1) := by decide +kernel
theorem dX11_higher_48 : decode cX11_higher 48 = .ok (.ireturn, 1) := by decide +kernel
theorem dX11_next_0 : decode cX11_next 0 = .ok (.aload_n 0, 1) := by decide +kernel
theorem dX11_next_1 : decode cX11_next 1 = .ok (.getfield 89, 3) := by decide +kernel
theorem dX11_next_4 : decode cX11_next 4 = .ok (.invokevirtual 188, 3) := by decide +kernel
theorem dX11_next_7 : decode cX11_next 7 = .ok (.ireturn, 1) := by decide +kernel
theorem dX11_events_0 : decode cX11_events 0 = .ok (.aload_n 0, 1) := by decide +kernel
theorem dX11_events_1 : decode cX11_events 1 = .ok (.getfield 28, 3) := by decide +kernel
theorem dX11_events_4 : decode cX11_events 4 = .ok (.getfield 191, 3) := by decide +kernel
theorem dX11_events_7 : decode cX11_events 7 = .ok (.invokevirtual 100, 3) := by decide +kernel
theorem dX11_events_10 : decode cX11_events 10 = .ok (.ireturn, 1) := by decide +kernel
theorem dX11_sweep_0 : decode cX11_sweep 0 = .ok (.aload_n 0, 1) := by decide +kernel
theorem dX11_sweep_1 : decode cX11_sweep 1 = .ok (.getfield 82, 3) := by decide +kernel
theorem dX11_sweep_4 : decode cX11_sweep 4 = .ok (.invokevirtual 194, 3) := by decide +kernel
theorem dX11_sweep_7 : decode cX11_sweep 7 = .ok (.ifCond .eq 21, 3) := by decide +kernel
theorem dX11_sweep_10 : decode cX11_sweep 10 = .ok (.aload_n 0, 1) := by decide +kernel
theorem dX11_sweep_11 : decode cX11_sweep 11 = .ok (.getfield 82, 3) := by decide +kernel
theorem dX11_sweep_14 : decode cX11_sweep 14 = .ok (.iconst 0, 1) := by decide +kernel
theorem dX11_sweep_15 : decode cX11_sweep 15 = .ok (.invokevirtual 197, 3) := by decide +kernel
theorem dX11_sweep_18 : decode cX11_sweep 18 = .ok (.ifCond .eq 10, 3) := by decide +kernel
theorem dX11_sweep_21 : decode cX11_sweep 21 = .ok (.aload_n 0, 1) := by decide +kernel
theorem dX11_sweep_22 : decode cX11_sweep 22 = .ok (.invokevirtual 200, 3) := by decide +kernel
theorem dX11_sweep_25 : decode cX11_sweep 25 = .ok (.goto 4, 3) := by decide +kernel
theorem dX11_sweep_28 : decode cX11_sweep 28 = .ok (.iconst (-1), 1) := by decide +kernel
theorem dX11_sweep_29 : decode cX11_sweep 29 = .ok (.ireturn, 1) := by decide +kernel
theorem dX11_cut_0 : decode cX11_cut 0 = .ok (.aload_n 0, 1) := by decide +kernel
theorem dX11_cut_1 : decode cX11_cut 1 = .ok (.getfield 82, 3) := by decide +kernel
theorem dX11_cut_4 : decode cX11_cut 4 = .ok (.iload_n 1, 1) := by decide +kernel
theorem dX11_cut_5 : decode cX11_cut 5 = .ok (.invokevirtual 203, 3) := by decide +kernel
theorem dX11_cut_8 : decode cX11_cut 8 = .ok (.ifCond .eq 24, 3) := by decide +kernel
theorem dX11_cut_11 : decode cX11_cut 11 = .ok (.aload_n 0, 1) := by decide +kernel
theorem dX11_cut_12 : decode cX11_cut 12 = .ok (.getfield 82, 3) := by decide +kernel
theorem dX11_cut_15 : decode cX11_cut 15 = .ok (.bipush 16, 2) := by decide +kernel
theorem dX11_cut_17 : decode cX11_cut 17 = .ok (.iload_n 1, 1) := by decide +kernel
theorem dX11_cut_18 : decode cX11_cut 18 = .ok (.iadd, 1) := by decide +kernel
theorem dX11_cut_19 : decode cX11_cut 19 = .ok (.invokevirtual 197, 3) := by decide +kernel
theorem dX11_cut_22 : decode cX11_cut 22 = .ok (.ifCond .eq 10, 3) := by decide +kernel
theorem dX11_cut_25 : decode cX11_cut 25 = .ok (.aload_n 0, 1) := by decide +kernel
theorem dX11_cut_26 : decode cX11_cut 26 = .ok (.invokevirtual 200, 3) := by decide +kernel
theorem dX11_cut_29 : decode cX11_cut 29 = .ok (.goto 4, 3) := by decide +kernel
theorem dX11_cut_32 : decode cX11_cut 32 = .ok (.iconst (-1), 1) := by decide +kernel
theorem dX11_cut_33 : decode cX11_cut 33 = .ok (.ireturn, 1) := by decide +kernel
theorem dX11_raise_0 : decode cX11_raise 0 = .ok (.aload_n 0, 1) := by decide +kernel
theorem dX11_raise_1 : decode cX11_raise 1 = .ok (.getfield 82, 3) := by decide +kernel
theorem dX11_raise_4 : decode cX11_raise 4 = .ok (.iload_n 1, 1) := by decide +kernel
theorem dX11_raise_5 : decode cX11_raise 5 = .ok (.invokevirtual 206, 3) := by decide +kernel
theorem dX11_raise_8 : decode cX11_raise 8 = .ok (.ifCond .eq 24, 3) := by decide +kernel
theorem dX11_raise_11 : decode cX11_raise 11 = .ok (.aload_n 0, 1) := by decide +kernel
theorem dX11_raise_12 : decode cX11_raise 12 = .ok (.getfield 82, 3) := by decide +kernel
theorem dX11_raise_15 : decode cX11_raise 15 = .ok (.bipush 32, 2) := by decide +kernel
theorem dX11_raise_17 : decode cX11_raise 17 = .ok (.iload_n 1, 1) := by decide +kernel
theorem dX11_raise_18 : decode cX11_raise 18 = .ok (.iadd, 1) := by decide +kernel
theorem dX11_raise_19 : decode cX11_raise 19 = .ok (.invokevirtual 197, 3) := by decide +kernel
theorem dX11_raise_22 : decode cX11_raise 22 = .ok (.ifCond .eq 10, 3) := by decide +kernel
theorem dX11_raise_25 : decode cX11_raise 25 = .ok (.aload_n 0, 1) := by decide +kernel
theorem dX11_raise_26 : decode cX11_raise 26 = .ok (.invokevirtual 200, 3) := by decide +kernel
theorem dX11_raise_29 : decode cX11_raise 29 = .ok (.goto 4, 3) := by decide +kernel
theorem dX11_raise_32 : decode cX11_raise 32 = .ok (.iconst (-1), 1) := by decide +kernel
theorem dX11_raise_33 : decode cX11_raise 33 = .ok (.ireturn, 1) := by decide +kernel
theorem dX11_countIn_0 : decode cX11_countIn 0 = .ok (.aload_n 0, 1) := by decide +kernel
theorem dX11_countIn_1 : decode cX11_countIn 1 = .ok (.getfield 61, 3) := by decide +kernel
theorem dX11_countIn_4 : decode cX11_countIn 4 = .ok (.getfield 209, 3) := by decide +kernel
theorem dX11_countIn_7 : decode cX11_countIn 7 = .ok (.aload_n 0, 1) := by decide +kernel
theorem dX11_countIn_8 : decode cX11_countIn 8 = .ok (.getfield 61, 3) := by decide +kernel
theorem dX11_countIn_11 : decode cX11_countIn 11 = .ok (.invokevirtual 151, 3) := by decide +kernel
theorem dX11_countIn_14 : decode cX11_countIn 14 = .ok (.invokevirtual 157, 3) := by decide +kernel
theorem dX11_countIn_17 : decode cX11_countIn 17 = .ok (.invokestatic 212, 3) := by decide +kernel
theorem dX11_countIn_20 : decode cX11_countIn 20 = .ok (.ireturn, 1) := by decide +kernel
theorem dX11_undo_0 : decode cX11_undo 0 = .ok (.aload_n 0, 1) := by decide +kernel
theorem dX11_undo_1 : decode cX11_undo 1 = .ok (.getfield 82, 3) := by decide +kernel
theorem dX11_undo_4 : decode cX11_undo 4 = .ok (.invokevirtual 217, 3) := by decide +kernel
theorem dX11_undo_7 : decode cX11_undo 7 = .ok (.ireturn, 1) := by decide +kernel
theorem dX11_redo_0 : decode cX11_redo 0 = .ok (.aload_n 0, 1) := by decide +kernel
theorem dX11_redo_1 : decode cX11_redo 1 = .ok (.getfield 82, 3) := by decide +kernel
theorem dX11_redo_4 : decode cX11_redo 4 = .ok (.invokevirtual 220, 3) := by decide +kernel
theorem dX11_redo_7 : decode cX11_redo 7 = .ok (.ireturn, 1) := by decide +kernel
theorem dX11_image_0 : decode cX11_image 0 = .ok (.iload_n 1, 1) := by decide +kernel
theorem dX11_image_1 : decode cX11_image 1 = .ok (.ifCond .lt 8, 3) := by decide +kernel
theorem dX11_image_4 : decode cX11_image 4 = .ok (.iload_n 1, 1) := by decide +kernel
theorem dX11_image_5 : decode cX11_image 5 = .ok (.iconst 2, 1) := by decide +kernel
theorem dX11_image_6 : decode cX11_image 6 = .ok (.if_icmp .le 5, 3) := by decide +kernel
theorem dX11_image_9 : decode cX11_image 9 = .ok (.iconst (-1), 1) := by decide +kernel
theorem dX11_image_10 : decode cX11_image 10 = .ok (.ireturn, 1) := by decide +kernel
theorem dX11_image_11 : decode cX11_image 11 = .ok (.aload_n 0, 1) := by decide +kernel
theorem dX11_image_12 : decode cX11_image 12 = .ok (.iload_n 1, 1) := by decide +kernel
theorem dX11_image_13 : decode cX11_image 13 = .ok (.invokevirtual 223, 3) := by decide +kernel
theorem dX11_image_16 : decode cX11_image 16 = .ok (.astore_n 2, 1) := by decide +kernel
theorem dX11_image_17 : decode cX11_image 17 = .ok (.aload_n 2, 1) := by decide +kernel
theorem dX11_image_18 : decode cX11_image 18 = .ok (.aload_n 0, 1) := by decide +kernel
theorem dX11_image_19 : decode cX11_image 19 = .ok (.getfield 61, 3) := by decide +kernel
theorem dX11_image_22 : decode cX11_image 22 = .ok (.invokevirtual 227, 3) := by decide +kernel
theorem dX11_image_25 : decode cX11_image 25 = .ok (.aload_n 2, 1) := by decide +kernel
theorem dX11_image_26 : decode cX11_image 26 = .ok (.iconst 1, 1) := by decide +kernel
theorem dX11_image_27 : decode cX11_image 27 = .ok (.putfield 129, 3) := by decide +kernel
theorem dX11_image_30 : decode cX11_image 30 = .ok (.aload_n 0, 1) := by decide +kernel
theorem dX11_image_31 : decode cX11_image 31 = .ok (.getfield 61, 3) := by decide +kernel
theorem dX11_image_34 : decode cX11_image 34 = .ok (.invokevirtual 151, 3) := by decide +kernel
theorem dX11_image_37 : decode cX11_image 37 = .ok (.ireturn, 1) := by decide +kernel
theorem dX11_back_0 : decode cX11_back 0 = .ok (.iload_n 1, 1) := by decide +kernel
theorem dX11_back_1 : decode cX11_back 1 = .ok (.ifCond .lt 8, 3) := by decide +kernel
theorem dX11_back_4 : decode cX11_back 4 = .ok (.iload_n 1, 1) := by decide +kernel
theorem dX11_back_5 : decode cX11_back 5 = .ok (.iconst 2, 1) := by decide +kernel
theorem dX11_back_6 : decode cX11_back 6 = .ok (.if_icmp .le 5, 3) := by decide +kernel
theorem dX11_back_9 : decode cX11_back 9 = .ok (.iconst (-1), 1) := by decide +kernel
theorem dX11_back_10 : decode cX11_back 10 = .ok (.ireturn, 1) := by decide +kernel
theorem dX11_back_11 : decode cX11_back 11 = .ok (.aload_n 0, 1) := by decide +kernel
theorem dX11_back_12 : decode cX11_back 12 = .ok (.iload_n 1, 1) := by decide +kernel
theorem dX11_back_13 : decode cX11_back 13 = .ok (.invokevirtual 223, 3) := by decide +kernel
theorem dX11_back_16 : decode cX11_back 16 = .ok (.astore_n 2, 1) := by decide +kernel
theorem dX11_back_17 : decode cX11_back 17 = .ok (.aload_n 2, 1) := by decide +kernel
theorem dX11_back_18 : decode cX11_back 18 = .ok (.getfield 129, 3) := by decide +kernel
theorem dX11_back_21 : decode cX11_back 21 = .ok (.ifCond .ne 5, 3) := by decide +kernel
theorem dX11_back_24 : decode cX11_back 24 = .ok (.iconst (-1), 1) := by decide +kernel
theorem dX11_back_25 : decode cX11_back 25 = .ok (.ireturn, 1) := by decide +kernel
theorem dX11_back_26 : decode cX11_back 26 = .ok (.aload_n 0, 1) := by decide +kernel
theorem dX11_back_27 : decode cX11_back 27 = .ok (.getfield 61, 3) := by decide +kernel
theorem dX11_back_30 : decode cX11_back 30 = .ok (.aload_n 2, 1) := by decide +kernel
theorem dX11_back_31 : decode cX11_back 31 = .ok (.invokevirtual 227, 3) := by decide +kernel
theorem dX11_back_34 : decode cX11_back 34 = .ok (.aload_n 0, 1) := by decide +kernel
theorem dX11_back_35 : decode cX11_back 35 = .ok (.getfield 82, 3) := by decide +kernel
theorem dX11_back_38 : decode cX11_back 38 = .ok (.invokevirtual 133, 3) := by decide +kernel
theorem dX11_back_41 : decode cX11_back 41 = .ok (.aload_n 0, 1) := by decide +kernel
theorem dX11_back_42 : decode cX11_back 42 = .ok (.getfield 61, 3) := by decide +kernel
theorem dX11_back_45 : decode cX11_back 45 = .ok (.invokevirtual 151, 3) := by decide +kernel
theorem dX11_back_48 : decode cX11_back 48 = .ok (.ireturn, 1) := by decide +kernel
theorem dX11_boxOf_0 : decode cX11_boxOf 0 = .ok (.iload_n 1, 1) := by decide +kernel
theorem dX11_boxOf_1 : decode cX11_boxOf 1 = .ok (.ifCond .ne 10, 3) := by decide +kernel
theorem dX11_boxOf_4 : decode cX11_boxOf 4 = .ok (.aload_n 0, 1) := by decide +kernel
theorem dX11_boxOf_5 : decode cX11_boxOf 5 = .ok (.getfield 68, 3) := by decide +kernel
theorem dX11_boxOf_8 : decode cX11_boxOf 8 = .ok (.goto 19, 3) := by decide +kernel
theorem dX11_boxOf_11 : decode cX11_boxOf 11 = .ok (.iload_n 1, 1) := by decide +kernel
theorem dX11_boxOf_12 : decode cX11_boxOf 12 = .ok (.iconst 1, 1) := by decide +kernel
theorem dX11_boxOf_13 : decode cX11_boxOf 13 = .ok (.if_icmp .ne 10, 3) := by decide +kernel
theorem dX11_boxOf_16 : decode cX11_boxOf 16 = .ok (.aload_n 0, 1) := by decide +kernel
theorem dX11_boxOf_17 : decode cX11_boxOf 17 = .ok (.getfield 71, 3) := by decide +kernel
theorem dX11_boxOf_20 : decode cX11_boxOf 20 = .ok (.goto 7, 3) := by decide +kernel
theorem dX11_boxOf_23 : decode cX11_boxOf 23 = .ok (.aload_n 0, 1) := by decide +kernel
theorem dX11_boxOf_24 : decode cX11_boxOf 24 = .ok (.getfield 74, 3) := by decide +kernel
theorem dX11_boxOf_27 : decode cX11_boxOf 27 = .ok (.areturn, 1) := by decide +kernel
theorem dX11_version_0 : decode cX11_version 0 = .ok (.aload_n 0, 1) := by decide +kernel
theorem dX11_version_1 : decode cX11_version 1 = .ok (.getfield 61, 3) := by decide +kernel
theorem dX11_version_4 : decode cX11_version 4 = .ok (.iload_n 1, 1) := by decide +kernel
theorem dX11_version_5 : decode cX11_version 5 = .ok (.invokevirtual 230, 3) := by decide +kernel
theorem dX11_version_8 : decode cX11_version 8 = .ok (.ifCond .ne 6, 3) := by decide +kernel
theorem dX11_version_11 : decode cX11_version 11 = .ok (.bipush (-2), 2) := by decide +kernel
theorem dX11_version_13 : decode cX11_version 13 = .ok (.ireturn, 1) := by decide +kernel
theorem dX11_version_14 : decode cX11_version 14 = .ok (.iload_n 2, 1) := by decide +kernel
theorem dX11_version_15 : decode cX11_version 15 = .ok (.tableswitch 97 0 4 #[33, 45, 57, 69, 85], 33) := by decide +kernel
theorem dX11_version_48 : decode cX11_version 48 = .ok (.aload_n 0, 1) := by decide +kernel
theorem dX11_version_49 : decode cX11_version 49 = .ok (.getfield 61, 3) := by decide +kernel
theorem dX11_version_52 : decode cX11_version 52 = .ok (.getfield 233, 3) := by decide +kernel
theorem dX11_version_55 : decode cX11_version 55 = .ok (.iload_n 1, 1) := by decide +kernel
theorem dX11_version_56 : decode cX11_version 56 = .ok (.invokevirtual 157, 3) := by decide +kernel
theorem dX11_version_59 : decode cX11_version 59 = .ok (.ireturn, 1) := by decide +kernel
theorem dX11_version_60 : decode cX11_version 60 = .ok (.aload_n 0, 1) := by decide +kernel
theorem dX11_version_61 : decode cX11_version 61 = .ok (.getfield 61, 3) := by decide +kernel
theorem dX11_version_64 : decode cX11_version 64 = .ok (.getfield 209, 3) := by decide +kernel
theorem dX11_version_67 : decode cX11_version 67 = .ok (.iload_n 1, 1) := by decide +kernel
theorem dX11_version_68 : decode cX11_version 68 = .ok (.invokevirtual 157, 3) := by decide +kernel
theorem dX11_version_71 : decode cX11_version 71 = .ok (.ireturn, 1) := by decide +kernel
theorem dX11_version_72 : decode cX11_version 72 = .ok (.aload_n 0, 1) := by decide +kernel
theorem dX11_version_73 : decode cX11_version 73 = .ok (.getfield 61, 3) := by decide +kernel
theorem dX11_version_76 : decode cX11_version 76 = .ok (.getfield 236, 3) := by decide +kernel
theorem dX11_version_79 : decode cX11_version 79 = .ok (.iload_n 1, 1) := by decide +kernel
theorem dX11_version_80 : decode cX11_version 80 = .ok (.invokevirtual 157, 3) := by decide +kernel
theorem dX11_version_83 : decode cX11_version 83 = .ok (.ireturn, 1) := by decide +kernel
theorem dX11_version_84 : decode cX11_version 84 = .ok (.aload_n 0, 1) := by decide +kernel
theorem dX11_version_85 : decode cX11_version 85 = .ok (.getfield 89, 3) := by decide +kernel
theorem dX11_version_88 : decode cX11_version 88 = .ok (.iload_n 1, 1) := by decide +kernel
theorem dX11_version_89 : decode cX11_version 89 = .ok (.invokevirtual 239, 3) := by decide +kernel
theorem dX11_version_92 : decode cX11_version 92 = .ok (.aload_n 0, 1) := by decide +kernel
theorem dX11_version_93 : decode cX11_version 93 = .ok (.getfield 54, 3) := by decide +kernel
theorem dX11_version_96 : decode cX11_version 96 = .ok (.getfield 242, 3) := by decide +kernel
theorem dX11_version_99 : decode cX11_version 99 = .ok (.ireturn, 1) := by decide +kernel
theorem dX11_version_100 : decode cX11_version 100 = .ok (.aload_n 0, 1) := by decide +kernel
theorem dX11_version_101 : decode cX11_version 101 = .ok (.getfield 61, 3) := by decide +kernel
theorem dX11_version_104 : decode cX11_version 104 = .ok (.getfield 245, 3) := by decide +kernel
theorem dX11_version_107 : decode cX11_version 107 = .ok (.iload_n 1, 1) := by decide +kernel
theorem dX11_version_108 : decode cX11_version 108 = .ok (.invokevirtual 157, 3) := by decide +kernel
theorem dX11_version_111 : decode cX11_version 111 = .ok (.ireturn, 1) := by decide +kernel
theorem dX11_version_112 : decode cX11_version 112 = .ok (.bipush (-2), 2) := by decide +kernel
theorem dX11_version_114 : decode cX11_version 114 = .ok (.ireturn, 1) := by decide +kernel
theorem dX11_node_0 : decode cX11_node 0 = .ok (.aload_n 0, 1) := by decide +kernel
theorem dX11_node_1 : decode cX11_node 1 = .ok (.getfield 61, 3) := by decide +kernel
theorem dX11_node_4 : decode cX11_node 4 = .ok (.iload_n 1, 1) := by decide +kernel
theorem dX11_node_5 : decode cX11_node 5 = .ok (.invokevirtual 248, 3) := by decide +kernel
theorem dX11_node_8 : decode cX11_node 8 = .ok (.ifCond .ne 6, 3) := by decide +kernel
theorem dX11_node_11 : decode cX11_node 11 = .ok (.bipush (-2), 2) := by decide +kernel
theorem dX11_node_13 : decode cX11_node 13 = .ok (.ireturn, 1) := by decide +kernel
theorem dX11_node_14 : decode cX11_node 14 = .ok (.iload_n 2, 1) := by decide +kernel
theorem dX11_node_15 : decode cX11_node 15 = .ok (.tableswitch 127 0 6 #[41, 53, 65, 77, 89, 101, 110], 41) := by decide +kernel
theorem dX11_node_56 : decode cX11_node 56 = .ok (.aload_n 0, 1) := by decide +kernel
theorem dX11_node_57 : decode cX11_node 57 = .ok (.getfield 61, 3) := by decide +kernel
theorem dX11_node_60 : decode cX11_node 60 = .ok (.getfield 251, 3) := by decide +kernel
theorem dX11_node_63 : decode cX11_node 63 = .ok (.iload_n 1, 1) := by decide +kernel
theorem dX11_node_64 : decode cX11_node 64 = .ok (.invokevirtual 157, 3) := by decide +kernel
theorem dX11_node_67 : decode cX11_node 67 = .ok (.ireturn, 1) := by decide +kernel
theorem dX11_node_68 : decode cX11_node 68 = .ok (.aload_n 0, 1) := by decide +kernel
theorem dX11_node_69 : decode cX11_node 69 = .ok (.getfield 61, 3) := by decide +kernel
theorem dX11_node_72 : decode cX11_node 72 = .ok (.getfield 254, 3) := by decide +kernel
theorem dX11_node_75 : decode cX11_node 75 = .ok (.iload_n 1, 1) := by decide +kernel
theorem dX11_node_76 : decode cX11_node 76 = .ok (.invokevirtual 157, 3) := by decide +kernel
theorem dX11_node_79 : decode cX11_node 79 = .ok (.ireturn, 1) := by decide +kernel
theorem dX11_node_80 : decode cX11_node 80 = .ok (.aload_n 0, 1) := by decide +kernel
theorem dX11_node_81 : decode cX11_node 81 = .ok (.getfield 61, 3) := by decide +kernel
theorem dX11_node_84 : decode cX11_node 84 = .ok (.getfield 257, 3) := by decide +kernel
theorem dX11_node_87 : decode cX11_node 87 = .ok (.iload_n 1, 1) := by decide +kernel
theorem dX11_node_88 : decode cX11_node 88 = .ok (.invokevirtual 157, 3) := by decide +kernel
theorem dX11_node_91 : decode cX11_node 91 = .ok (.ireturn, 1) := by decide +kernel
theorem dX11_node_92 : decode cX11_node 92 = .ok (.aload_n 0, 1) := by decide +kernel
theorem dX11_node_93 : decode cX11_node 93 = .ok (.getfield 61, 3) := by decide +kernel
theorem dX11_node_96 : decode cX11_node 96 = .ok (.getfield 260, 3) := by decide +kernel
theorem dX11_node_99 : decode cX11_node 99 = .ok (.iload_n 1, 1) := by decide +kernel
theorem dX11_node_100 : decode cX11_node 100 = .ok (.invokevirtual 157, 3) := by decide +kernel
theorem dX11_node_103 : decode cX11_node 103 = .ok (.ireturn, 1) := by decide +kernel
theorem dX11_node_104 : decode cX11_node 104 = .ok (.aload_n 0, 1) := by decide +kernel
theorem dX11_node_105 : decode cX11_node 105 = .ok (.getfield 61, 3) := by decide +kernel
theorem dX11_node_108 : decode cX11_node 108 = .ok (.getfield 263, 3) := by decide +kernel
theorem dX11_node_111 : decode cX11_node 111 = .ok (.iload_n 1, 1) := by decide +kernel
theorem dX11_node_112 : decode cX11_node 112 = .ok (.invokevirtual 157, 3) := by decide +kernel
theorem dX11_node_115 : decode cX11_node 115 = .ok (.ireturn, 1) := by decide +kernel
theorem dX11_node_116 : decode cX11_node 116 = .ok (.aload_n 0, 1) := by decide +kernel
theorem dX11_node_117 : decode cX11_node 117 = .ok (.getfield 61, 3) := by decide +kernel
theorem dX11_node_120 : decode cX11_node 120 = .ok (.iload_n 1, 1) := by decide +kernel
theorem dX11_node_121 : decode cX11_node 121 = .ok (.invokevirtual 266, 3) := by decide +kernel
theorem dX11_node_124 : decode cX11_node 124 = .ok (.ireturn, 1) := by decide +kernel
theorem dX11_node_125 : decode cX11_node 125 = .ok (.aload_n 0, 1) := by decide +kernel
theorem dX11_node_126 : decode cX11_node 126 = .ok (.getfield 61, 3) := by decide +kernel
theorem dX11_node_129 : decode cX11_node 129 = .ok (.iload_n 1, 1) := by decide +kernel
theorem dX11_node_130 : decode cX11_node 130 = .ok (.invokevirtual 269, 3) := by decide +kernel
theorem dX11_node_133 : decode cX11_node 133 = .ok (.ifCond .eq 7, 3) := by decide +kernel
theorem dX11_node_136 : decode cX11_node 136 = .ok (.iconst 1, 1) := by decide +kernel
theorem dX11_node_137 : decode cX11_node 137 = .ok (.goto 4, 3) := by decide +kernel
theorem dX11_node_140 : decode cX11_node 140 = .ok (.iconst 0, 1) := by decide +kernel
theorem dX11_node_141 : decode cX11_node 141 = .ok (.ireturn, 1) := by decide +kernel
theorem dX11_node_142 : decode cX11_node 142 = .ok (.bipush (-2), 2) := by decide +kernel
theorem dX11_node_144 : decode cX11_node 144 = .ok (.ireturn, 1) := by decide +kernel
theorem dX11_change_0 : decode cX11_change 0 = .ok (.aload_n 0, 1) := by decide +kernel
theorem dX11_change_1 : decode cX11_change 1 = .ok (.getfield 61, 3) := by decide +kernel
theorem dX11_change_4 : decode cX11_change 4 = .ok (.iload_n 1, 1) := by decide +kernel
theorem dX11_change_5 : decode cX11_change 5 = .ok (.invokevirtual 248, 3) := by decide +kernel
theorem dX11_change_8 : decode cX11_change 8 = .ok (.ifCond .eq 22, 3) := by decide +kernel
theorem dX11_change_11 : decode cX11_change 11 = .ok (.iload_n 2, 1) := by decide +kernel
theorem dX11_change_12 : decode cX11_change 12 = .ok (.ifCond .lt 18, 3) := by decide +kernel
theorem dX11_change_15 : decode cX11_change 15 = .ok (.iload_n 2, 1) := by decide +kernel
theorem dX11_change_16 : decode cX11_change 16 = .ok (.aload_n 0, 1) := by decide +kernel
theorem dX11_change_17 : decode cX11_change 17 = .ok (.getfield 61, 3) := by decide +kernel
theorem dX11_change_20 : decode cX11_change 20 = .ok (.getfield 263, 3) := by decide +kernel
theorem dX11_change_23 : decode cX11_change 23 = .ok (.iload_n 1, 1) := by decide +kernel
theorem dX11_change_24 : decode cX11_change 24 = .ok (.invokevirtual 157, 3) := by decide +kernel
theorem dX11_change_27 : decode cX11_change 27 = .ok (.if_icmp .lt 6, 3) := by decide +kernel
theorem dX11_change_30 : decode cX11_change 30 = .ok (.bipush (-2), 2) := by decide +kernel
theorem dX11_change_32 : decode cX11_change 32 = .ok (.ireturn, 1) := by decide +kernel
theorem dX11_change_33 : decode cX11_change 33 = .ok (.iload_n 1, 1) := by decide +kernel
theorem dX11_change_34 : decode cX11_change 34 = .ok (.bipush 6, 2) := by decide +kernel
theorem dX11_change_36 : decode cX11_change 36 = .ok (.imul, 1) := by decide +kernel
theorem dX11_change_37 : decode cX11_change 37 = .ok (.iload_n 2, 1) := by decide +kernel
theorem dX11_change_38 : decode cX11_change 38 = .ok (.iadd, 1) := by decide +kernel
theorem dX11_change_39 : decode cX11_change 39 = .ok (.istore 4, 2) := by decide +kernel
theorem dX11_change_41 : decode cX11_change 41 = .ok (.iload_n 3, 1) := by decide +kernel
theorem dX11_change_42 : decode cX11_change 42 = .ok (.tableswitch 65 0 2 #[26, 39, 52], 26) := by decide +kernel
theorem dX11_change_68 : decode cX11_change 68 = .ok (.aload_n 0, 1) := by decide +kernel
theorem dX11_change_69 : decode cX11_change 69 = .ok (.getfield 61, 3) := by decide +kernel
theorem dX11_change_72 : decode cX11_change 72 = .ok (.getfield 272, 3) := by decide +kernel
theorem dX11_change_75 : decode cX11_change 75 = .ok (.iload 4, 2) := by decide +kernel
theorem dX11_change_77 : decode cX11_change 77 = .ok (.invokevirtual 157, 3) := by decide +kernel
theorem dX11_change_80 : decode cX11_change 80 = .ok (.ireturn, 1) := by decide +kernel
theorem dX11_change_81 : decode cX11_change 81 = .ok (.aload_n 0, 1) := by decide +kernel
theorem dX11_change_82 : decode cX11_change 82 = .ok (.getfield 61, 3) := by decide +kernel
theorem dX11_change_85 : decode cX11_change 85 = .ok (.getfield 275, 3) := by decide +kernel
theorem dX11_change_88 : decode cX11_change 88 = .ok (.iload 4, 2) := by decide +kernel
theorem dX11_change_90 : decode cX11_change 90 = .ok (.invokevirtual 157, 3) := by decide +kernel
theorem dX11_change_93 : decode cX11_change 93 = .ok (.ireturn, 1) := by decide +kernel
theorem dX11_change_94 : decode cX11_change 94 = .ok (.aload_n 0, 1) := by decide +kernel
theorem dX11_change_95 : decode cX11_change 95 = .ok (.getfield 61, 3) := by decide +kernel
theorem dX11_change_98 : decode cX11_change 98 = .ok (.getfield 278, 3) := by decide +kernel
theorem dX11_change_101 : decode cX11_change 101 = .ok (.iload 4, 2) := by decide +kernel
theorem dX11_change_103 : decode cX11_change 103 = .ok (.invokevirtual 157, 3) := by decide +kernel
theorem dX11_change_106 : decode cX11_change 106 = .ok (.ireturn, 1) := by decide +kernel
theorem dX11_change_107 : decode cX11_change 107 = .ok (.bipush (-2), 2) := by decide +kernel
theorem dX11_change_109 : decode cX11_change 109 = .ok (.ireturn, 1) := by decide +kernel
theorem dX11_read_0 : decode cX11_read 0 = .ok (.aload_n 0, 1) := by decide +kernel
theorem dX11_read_1 : decode cX11_read 1 = .ok (.getfield 61, 3) := by decide +kernel
theorem dX11_read_4 : decode cX11_read 4 = .ok (.iload_n 1, 1) := by decide +kernel
theorem dX11_read_5 : decode cX11_read 5 = .ok (.invokevirtual 248, 3) := by decide +kernel
theorem dX11_read_8 : decode cX11_read 8 = .ok (.ifCond .eq 29, 3) := by decide +kernel
theorem dX11_read_11 : decode cX11_read 11 = .ok (.aload_n 0, 1) := by decide +kernel
theorem dX11_read_12 : decode cX11_read 12 = .ok (.getfield 61, 3) := by decide +kernel
theorem dX11_read_15 : decode cX11_read 15 = .ok (.iload_n 3, 1) := by decide +kernel
theorem dX11_read_16 : decode cX11_read 16 = .ok (.invokevirtual 230, 3) := by decide +kernel
theorem dX11_read_19 : decode cX11_read 19 = .ok (.ifCond .eq 18, 3) := by decide +kernel
theorem dX11_read_22 : decode cX11_read 22 = .ok (.iload_n 3, 1) := by decide +kernel
theorem dX11_read_23 : decode cX11_read 23 = .ok (.aload_n 0, 1) := by decide +kernel
theorem dX11_read_24 : decode cX11_read 24 = .ok (.getfield 61, 3) := by decide +kernel
theorem dX11_read_27 : decode cX11_read 27 = .ok (.getfield 254, 3) := by decide +kernel
theorem dX11_read_30 : decode cX11_read 30 = .ok (.iload_n 1, 1) := by decide +kernel
theorem dX11_read_31 : decode cX11_read 31 = .ok (.invokevirtual 157, 3) := by decide +kernel
theorem dX11_read_34 : decode cX11_read 34 = .ok (.if_icmp .ge 6, 3) := by decide +kernel
theorem dX11_read_37 : decode cX11_read 37 = .ok (.bipush (-2), 2) := by decide +kernel
theorem dX11_read_39 : decode cX11_read 39 = .ok (.ireturn, 1) := by decide +kernel
theorem dX11_read_40 : decode cX11_read 40 = .ok (.iload_n 2, 1) := by decide +kernel
theorem dX11_read_41 : decode cX11_read 41 = .ok (.ifCond .eq 11, 3) := by decide +kernel
theorem dX11_read_44 : decode cX11_read 44 = .ok (.iload_n 2, 1) := by decide +kernel
theorem dX11_read_45 : decode cX11_read 45 = .ok (.iconst 1, 1) := by decide +kernel
theorem dX11_read_46 : decode cX11_read 46 = .ok (.if_icmp .eq 6, 3) := by decide +kernel
theorem dX11_read_49 : decode cX11_read 49 = .ok (.bipush (-2), 2) := by decide +kernel
theorem dX11_read_51 : decode cX11_read 51 = .ok (.ireturn, 1) := by decide +kernel
theorem dX11_read_52 : decode cX11_read 52 = .ok (.aload_n 0, 1) := by decide +kernel
theorem dX11_read_53 : decode cX11_read 53 = .ok (.getfield 61, 3) := by decide +kernel
theorem dX11_read_56 : decode cX11_read 56 = .ok (.iload_n 1, 1) := by decide +kernel
theorem dX11_read_57 : decode cX11_read 57 = .ok (.iload_n 2, 1) := by decide +kernel
theorem dX11_read_58 : decode cX11_read 58 = .ok (.iload_n 3, 1) := by decide +kernel
theorem dX11_read_59 : decode cX11_read 59 = .ok (.invokevirtual 281, 3) := by decide +kernel
theorem dX11_read_62 : decode cX11_read 62 = .ok (.ireturn, 1) := by decide +kernel
theorem dX11_row_0 : decode cX11_row 0 = .ok (.aload_n 0, 1) := by decide +kernel
theorem dX11_row_1 : decode cX11_row 1 = .ok (.getfield 18, 3) := by decide +kernel
theorem dX11_row_4 : decode cX11_row 4 = .ok (.invokevirtual 116, 3) := by decide +kernel
theorem dX11_row_7 : decode cX11_row 7 = .ok (.aload_n 0, 1) := by decide +kernel
theorem dX11_row_8 : decode cX11_row 8 = .ok (.getfield 61, 3) := by decide +kernel
theorem dX11_row_11 : decode cX11_row 11 = .ok (.iload_n 1, 1) := by decide +kernel
theorem dX11_row_12 : decode cX11_row 12 = .ok (.invokevirtual 230, 3) := by decide +kernel
theorem dX11_row_15 : decode cX11_row 15 = .ok (.ifCond .ne 5, 3) := by decide +kernel
theorem dX11_row_18 : decode cX11_row 18 = .ok (.iconst (-1), 1) := by decide +kernel
theorem dX11_row_19 : decode cX11_row 19 = .ok (.ireturn, 1) := by decide +kernel
theorem dX11_row_20 : decode cX11_row 20 = .ok (.aload_n 0, 1) := by decide +kernel
theorem dX11_row_21 : decode cX11_row 21 = .ok (.getfield 89, 3) := by decide +kernel
theorem dX11_row_24 : decode cX11_row 24 = .ok (.iload_n 1, 1) := by decide +kernel
theorem dX11_row_25 : decode cX11_row 25 = .ok (.invokevirtual 239, 3) := by decide +kernel
theorem dX11_row_28 : decode cX11_row 28 = .ok (.aload_n 0, 1) := by decide +kernel
theorem dX11_row_29 : decode cX11_row 29 = .ok (.getfield 18, 3) := by decide +kernel
theorem dX11_row_32 : decode cX11_row 32 = .ok (.aload_n 0, 1) := by decide +kernel
theorem dX11_row_33 : decode cX11_row 33 = .ok (.getfield 54, 3) := by decide +kernel
theorem dX11_row_36 : decode cX11_row 36 = .ok (.getfield 285, 3) := by decide +kernel
theorem dX11_row_39 : decode cX11_row 39 = .ok (.invokevirtual 288, 3) := by decide +kernel
theorem dX11_row_42 : decode cX11_row 42 = .ok (.aload_n 0, 1) := by decide +kernel
theorem dX11_row_43 : decode cX11_row 43 = .ok (.getfield 18, 3) := by decide +kernel
theorem dX11_row_46 : decode cX11_row 46 = .ok (.invokevirtual 100, 3) := by decide +kernel
theorem dX11_row_49 : decode cX11_row 49 = .ok (.ireturn, 1) := by decide +kernel
theorem dX11_shape_0 : decode cX11_shape 0 = .ok (.aload_n 0, 1) := by decide +kernel
theorem dX11_shape_1 : decode cX11_shape 1 = .ok (.getfield 18, 3) := by decide +kernel
theorem dX11_shape_4 : decode cX11_shape 4 = .ok (.invokevirtual 116, 3) := by decide +kernel
theorem dX11_shape_7 : decode cX11_shape 7 = .ok (.aload_n 0, 1) := by decide +kernel
theorem dX11_shape_8 : decode cX11_shape 8 = .ok (.getfield 61, 3) := by decide +kernel
theorem dX11_shape_11 : decode cX11_shape 11 = .ok (.iload_n 1, 1) := by decide +kernel
theorem dX11_shape_12 : decode cX11_shape 12 = .ok (.invokevirtual 230, 3) := by decide +kernel
theorem dX11_shape_15 : decode cX11_shape 15 = .ok (.ifCond .ne 5, 3) := by decide +kernel
theorem dX11_shape_18 : decode cX11_shape 18 = .ok (.iconst (-1), 1) := by decide +kernel
theorem dX11_shape_19 : decode cX11_shape 19 = .ok (.ireturn, 1) := by decide +kernel
theorem dX11_shape_20 : decode cX11_shape 20 = .ok (.aload_n 0, 1) := by decide +kernel
theorem dX11_shape_21 : decode cX11_shape 21 = .ok (.getfield 89, 3) := by decide +kernel
theorem dX11_shape_24 : decode cX11_shape 24 = .ok (.iload_n 1, 1) := by decide +kernel
theorem dX11_shape_25 : decode cX11_shape 25 = .ok (.invokevirtual 239, 3) := by decide +kernel
theorem dX11_shape_28 : decode cX11_shape 28 = .ok (.aload_n 0, 1) := by decide +kernel
theorem dX11_shape_29 : decode cX11_shape 29 = .ok (.getfield 18, 3) := by decide +kernel
theorem dX11_shape_32 : decode cX11_shape 32 = .ok (.aload_n 0, 1) := by decide +kernel
theorem dX11_shape_33 : decode cX11_shape 33 = .ok (.getfield 54, 3) := by decide +kernel
theorem dX11_shape_36 : decode cX11_shape 36 = .ok (.getfield 290, 3) := by decide +kernel
theorem dX11_shape_39 : decode cX11_shape 39 = .ok (.invokevirtual 288, 3) := by decide +kernel
theorem dX11_shape_42 : decode cX11_shape 42 = .ok (.aload_n 0, 1) := by decide +kernel
theorem dX11_shape_43 : decode cX11_shape 43 = .ok (.getfield 54, 3) := by decide +kernel
theorem dX11_shape_46 : decode cX11_shape 46 = .ok (.getfield 242, 3) := by decide +kernel
theorem dX11_shape_49 : decode cX11_shape 49 = .ok (.ireturn, 1) := by decide +kernel
theorem dX11_lies_0 : decode cX11_lies 0 = .ok (.iload_n 1, 1) := by decide +kernel
theorem dX11_lies_1 : decode cX11_lies 1 = .ok (.ifCond .lt 25, 3) := by decide +kernel
theorem dX11_lies_4 : decode cX11_lies 4 = .ok (.iload_n 1, 1) := by decide +kernel
theorem dX11_lies_5 : decode cX11_lies 5 = .ok (.aload_n 0, 1) := by decide +kernel
theorem dX11_lies_6 : decode cX11_lies 6 = .ok (.getfield 18, 3) := by decide +kernel
theorem dX11_lies_9 : decode cX11_lies 9 = .ok (.invokevirtual 100, 3) := by decide +kernel
theorem dX11_lies_12 : decode cX11_lies 12 = .ok (.if_icmp .ge 14, 3) := by decide +kernel
theorem dX11_lies_15 : decode cX11_lies 15 = .ok (.aload_n 0, 1) := by decide +kernel
theorem dX11_lies_16 : decode cX11_lies 16 = .ok (.getfield 18, 3) := by decide +kernel
theorem dX11_lies_19 : decode cX11_lies 19 = .ok (.iload_n 1, 1) := by decide +kernel
theorem dX11_lies_20 : decode cX11_lies 20 = .ok (.invokevirtual 157, 3) := by decide +kernel
theorem dX11_lies_23 : decode cX11_lies 23 = .ok (.goto 5, 3) := by decide +kernel
theorem dX11_lies_26 : decode cX11_lies 26 = .ok (.bipush (-2), 2) := by decide +kernel
theorem dX11_lies_28 : decode cX11_lies 28 = .ok (.ireturn, 1) := by decide +kernel
theorem dX11_below_0 : decode cX11_below 0 = .ok (.aload_n 0, 1) := by decide +kernel
theorem dX11_below_1 : decode cX11_below 1 = .ok (.getfield 89, 3) := by decide +kernel
theorem dX11_below_4 : decode cX11_below 4 = .ok (.iload_n 1, 1) := by decide +kernel
theorem dX11_below_5 : decode cX11_below 5 = .ok (.iload_n 2, 1) := by decide +kernel
theorem dX11_below_6 : decode cX11_below 6 = .ok (.invokevirtual 293, 3) := by decide +kernel
theorem dX11_below_9 : decode cX11_below 9 = .ok (.ifCond .eq 13, 3) := by decide +kernel
theorem dX11_below_12 : decode cX11_below 12 = .ok (.aload_n 0, 1) := by decide +kernel
theorem dX11_below_13 : decode cX11_below 13 = .ok (.getfield 89, 3) := by decide +kernel
theorem dX11_below_16 : decode cX11_below 16 = .ok (.invokevirtual 296, 3) := by decide +kernel
theorem dX11_below_19 : decode cX11_below 19 = .ok (.goto 5, 3) := by decide +kernel
theorem dX11_below_22 : decode cX11_below 22 = .ok (.bipush (-2), 2) := by decide +kernel
theorem dX11_below_24 : decode cX11_below 24 = .ok (.ireturn, 1) := by decide +kernel
theorem dX11_above_0 : decode cX11_above 0 = .ok (.aload_n 0, 1) := by decide +kernel
theorem dX11_above_1 : decode cX11_above 1 = .ok (.getfield 89, 3) := by decide +kernel
theorem dX11_above_4 : decode cX11_above 4 = .ok (.iload_n 1, 1) := by decide +kernel
theorem dX11_above_5 : decode cX11_above 5 = .ok (.iload_n 2, 1) := by decide +kernel
theorem dX11_above_6 : decode cX11_above 6 = .ok (.invokevirtual 293, 3) := by decide +kernel
theorem dX11_above_9 : decode cX11_above 9 = .ok (.ifCond .eq 13, 3) := by decide +kernel
theorem dX11_above_12 : decode cX11_above 12 = .ok (.aload_n 0, 1) := by decide +kernel
theorem dX11_above_13 : decode cX11_above 13 = .ok (.getfield 89, 3) := by decide +kernel
theorem dX11_above_16 : decode cX11_above 16 = .ok (.invokevirtual 299, 3) := by decide +kernel
theorem dX11_above_19 : decode cX11_above 19 = .ok (.goto 5, 3) := by decide +kernel
theorem dX11_above_22 : decode cX11_above 22 = .ok (.bipush (-2), 2) := by decide +kernel
theorem dX11_above_24 : decode cX11_above 24 = .ok (.ireturn, 1) := by decide +kernel
theorem dX11_on_0 : decode cX11_on 0 = .ok (.aload_n 0, 1) := by decide +kernel
theorem dX11_on_1 : decode cX11_on 1 = .ok (.getfield 89, 3) := by decide +kernel
theorem dX11_on_4 : decode cX11_on 4 = .ok (.iload_n 1, 1) := by decide +kernel
theorem dX11_on_5 : decode cX11_on 5 = .ok (.iload_n 2, 1) := by decide +kernel
theorem dX11_on_6 : decode cX11_on 6 = .ok (.invokevirtual 293, 3) := by decide +kernel
theorem dX11_on_9 : decode cX11_on 9 = .ok (.ifCond .ne 6, 3) := by decide +kernel
theorem dX11_on_12 : decode cX11_on 12 = .ok (.bipush (-2), 2) := by decide +kernel
theorem dX11_on_14 : decode cX11_on 14 = .ok (.ireturn, 1) := by decide +kernel
theorem dX11_on_15 : decode cX11_on 15 = .ok (.aload_n 0, 1) := by decide +kernel
theorem dX11_on_16 : decode cX11_on 16 = .ok (.getfield 89, 3) := by decide +kernel
theorem dX11_on_19 : decode cX11_on 19 = .ok (.invokevirtual 296, 3) := by decide +kernel
theorem dX11_on_22 : decode cX11_on 22 = .ok (.istore_n 3, 1) := by decide +kernel
theorem dX11_on_23 : decode cX11_on 23 = .ok (.iload_n 3, 1) := by decide +kernel
theorem dX11_on_24 : decode cX11_on 24 = .ok (.iconst (-1), 1) := by decide +kernel
theorem dX11_on_25 : decode cX11_on 25 = .ok (.if_icmp .eq 20, 3) := by decide +kernel
theorem dX11_on_28 : decode cX11_on 28 = .ok (.aload_n 0, 1) := by decide +kernel
theorem dX11_on_29 : decode cX11_on 29 = .ok (.getfield 28, 3) := by decide +kernel
theorem dX11_on_32 : decode cX11_on 32 = .ok (.iload_n 3, 1) := by decide +kernel
theorem dX11_on_33 : decode cX11_on 33 = .ok (.iload_n 1, 1) := by decide +kernel
theorem dX11_on_34 : decode cX11_on 34 = .ok (.iload_n 2, 1) := by decide +kernel
theorem dX11_on_35 : decode cX11_on 35 = .ok (.invokevirtual 302, 3) := by decide +kernel
theorem dX11_on_38 : decode cX11_on 38 = .ok (.ifCond .ne 7, 3) := by decide +kernel
theorem dX11_on_41 : decode cX11_on 41 = .ok (.iconst 1, 1) := by decide +kernel
theorem dX11_on_42 : decode cX11_on 42 = .ok (.goto 4, 3) := by decide +kernel
theorem dX11_on_45 : decode cX11_on 45 = .ok (.iconst 0, 1) := by decide +kernel
theorem dX11_on_46 : decode cX11_on 46 = .ok (.ireturn, 1) := by decide +kernel
theorem dX11_depth_0 : decode cX11_depth 0 = .ok (.aload_n 0, 1) := by decide +kernel
theorem dX11_depth_1 : decode cX11_depth 1 = .ok (.getfield 18, 3) := by decide +kernel
theorem dX11_depth_4 : decode cX11_depth 4 = .ok (.invokevirtual 116, 3) := by decide +kernel
theorem dX11_depth_7 : decode cX11_depth 7 = .ok (.aload_n 0, 1) := by decide +kernel
theorem dX11_depth_8 : decode cX11_depth 8 = .ok (.getfield 89, 3) := by decide +kernel
theorem dX11_depth_11 : decode cX11_depth 11 = .ok (.iload_n 1, 1) := by decide +kernel
theorem dX11_depth_12 : decode cX11_depth 12 = .ok (.iload_n 2, 1) := by decide +kernel
theorem dX11_depth_13 : decode cX11_depth 13 = .ok (.invokevirtual 293, 3) := by decide +kernel
theorem dX11_depth_16 : decode cX11_depth 16 = .ok (.ifCond .ne 6, 3) := by decide +kernel
theorem dX11_depth_19 : decode cX11_depth 19 = .ok (.bipush (-2), 2) := by decide +kernel
theorem dX11_depth_21 : decode cX11_depth 21 = .ok (.ireturn, 1) := by decide +kernel
theorem dX11_depth_22 : decode cX11_depth 22 = .ok (.aload_n 0, 1) := by decide +kernel
theorem dX11_depth_23 : decode cX11_depth 23 = .ok (.getfield 54, 3) := by decide +kernel
theorem dX11_depth_26 : decode cX11_depth 26 = .ok (.getfield 305, 3) := by decide +kernel
theorem dX11_depth_29 : decode cX11_depth 29 = .ok (.istore_n 3, 1) := by decide +kernel
theorem dX11_depth_30 : decode cX11_depth 30 = .ok (.iconst 0, 1) := by decide +kernel
theorem dX11_depth_31 : decode cX11_depth 31 = .ok (.istore 4, 2) := by decide +kernel
theorem dX11_depth_33 : decode cX11_depth 33 = .ok (.iload 4, 2) := by decide +kernel
theorem dX11_depth_35 : decode cX11_depth 35 = .ok (.bipush 8, 2) := by decide +kernel
theorem dX11_depth_37 : decode cX11_depth 37 = .ok (.if_icmp .ge 73, 3) := by decide +kernel
theorem dX11_depth_40 : decode cX11_depth 40 = .ok (.iload_n 3, 1) := by decide +kernel
theorem dX11_depth_41 : decode cX11_depth 41 = .ok (.iconst (-1), 1) := by decide +kernel
theorem dX11_depth_42 : decode cX11_depth 42 = .ok (.if_icmp .eq 68, 3) := by decide +kernel
theorem dX11_depth_45 : decode cX11_depth 45 = .ok (.aload_n 0, 1) := by decide +kernel
theorem dX11_depth_46 : decode cX11_depth 46 = .ok (.getfield 18, 3) := by decide +kernel
theorem dX11_depth_49 : decode cX11_depth 49 = .ok (.iload_n 3, 1) := by decide +kernel
theorem dX11_depth_50 : decode cX11_depth 50 = .ok (.invokevirtual 107, 3) := by decide +kernel
theorem dX11_depth_53 : decode cX11_depth 53 = .ok (.aload_n 0, 1) := by decide +kernel
theorem dX11_depth_54 : decode cX11_depth 54 = .ok (.getfield 28, 3) := by decide +kernel
theorem dX11_depth_57 : decode cX11_depth 57 = .ok (.iload_n 3, 1) := by decide +kernel
theorem dX11_depth_58 : decode cX11_depth 58 = .ok (.iload_n 1, 1) := by decide +kernel
theorem dX11_depth_59 : decode cX11_depth 59 = .ok (.iload_n 2, 1) := by decide +kernel
theorem dX11_depth_60 : decode cX11_depth 60 = .ok (.invokevirtual 302, 3) := by decide +kernel
theorem dX11_depth_63 : decode cX11_depth 63 = .ok (.ifCond .le 7, 3) := by decide +kernel
theorem dX11_depth_66 : decode cX11_depth 66 = .ok (.iconst 1, 1) := by decide +kernel
theorem dX11_depth_67 : decode cX11_depth 67 = .ok (.goto 4, 3) := by decide +kernel
theorem dX11_depth_70 : decode cX11_depth 70 = .ok (.iconst 0, 1) := by decide +kernel
theorem dX11_depth_71 : decode cX11_depth 71 = .ok (.istore 5, 2) := by decide +kernel
theorem dX11_depth_73 : decode cX11_depth 73 = .ok (.iload 5, 2) := by decide +kernel
theorem dX11_depth_75 : decode cX11_depth 75 = .ok (.ifCond .eq 17, 3) := by decide +kernel
theorem dX11_depth_78 : decode cX11_depth 78 = .ok (.aload_n 0, 1) := by decide +kernel
theorem dX11_depth_79 : decode cX11_depth 79 = .ok (.getfield 54, 3) := by decide +kernel
theorem dX11_depth_82 : decode cX11_depth 82 = .ok (.getfield 307, 3) := by decide +kernel
theorem dX11_depth_85 : decode cX11_depth 85 = .ok (.iload_n 3, 1) := by decide +kernel
theorem dX11_depth_86 : decode cX11_depth 86 = .ok (.invokevirtual 157, 3) := by decide +kernel
theorem dX11_depth_89 : decode cX11_depth 89 = .ok (.goto 14, 3) := by decide +kernel
theorem dX11_depth_92 : decode cX11_depth 92 = .ok (.aload_n 0, 1) := by decide +kernel
theorem dX11_depth_93 : decode cX11_depth 93 = .ok (.getfield 54, 3) := by decide +kernel
theorem dX11_depth_96 : decode cX11_depth 96 = .ok (.getfield 310, 3) := by decide +kernel
theorem dX11_depth_99 : decode cX11_depth 99 = .ok (.iload_n 3, 1) := by decide +kernel
theorem dX11_depth_100 : decode cX11_depth 100 = .ok (.invokevirtual 157, 3) := by decide +kernel
theorem dX11_depth_103 : decode cX11_depth 103 = .ok (.istore_n 3, 1) := by decide +kernel
theorem dX11_depth_104 : decode cX11_depth 104 = .ok (.iinc 4 1, 3) := by decide +kernel
theorem dX11_depth_107 : decode cX11_depth 107 = .ok (.goto (-74), 3) := by decide +kernel
theorem dX11_depth_110 : decode cX11_depth 110 = .ok (.aload_n 0, 1) := by decide +kernel
theorem dX11_depth_111 : decode cX11_depth 111 = .ok (.getfield 18, 3) := by decide +kernel
theorem dX11_depth_114 : decode cX11_depth 114 = .ok (.invokevirtual 100, 3) := by decide +kernel
theorem dX11_depth_117 : decode cX11_depth 117 = .ok (.ireturn, 1) := by decide +kernel
theorem dX11_gap_0 : decode cX11_gap 0 = .ok (.iload_n 3, 1) := by decide +kernel
theorem dX11_gap_1 : decode cX11_gap 1 = .ok (.ifCond .lt 20, 3) := by decide +kernel
theorem dX11_gap_4 : decode cX11_gap 4 = .ok (.iload_n 3, 1) := by decide +kernel
theorem dX11_gap_5 : decode cX11_gap 5 = .ok (.iconst 3, 1) := by decide +kernel
theorem dX11_gap_6 : decode cX11_gap 6 = .ok (.if_icmp .gt 15, 3) := by decide +kernel
theorem dX11_gap_9 : decode cX11_gap 9 = .ok (.aload_n 0, 1) := by decide +kernel
theorem dX11_gap_10 : decode cX11_gap 10 = .ok (.getfield 89, 3) := by decide +kernel
theorem dX11_gap_13 : decode cX11_gap 13 = .ok (.iload_n 1, 1) := by decide +kernel
theorem dX11_gap_14 : decode cX11_gap 14 = .ok (.iload_n 2, 1) := by decide +kernel
theorem dX11_gap_15 : decode cX11_gap 15 = .ok (.invokevirtual 293, 3) := by decide +kernel
theorem dX11_gap_18 : decode cX11_gap 18 = .ok (.ifCond .ne 5, 3) := by decide +kernel
theorem dX11_gap_21 : decode cX11_gap 21 = .ok (.iconst (-1), 1) := by decide +kernel
theorem dX11_gap_22 : decode cX11_gap 22 = .ok (.ireturn, 1) := by decide +kernel
theorem dX11_gap_23 : decode cX11_gap 23 = .ok (.iload_n 3, 1) := by decide +kernel
theorem dX11_gap_24 : decode cX11_gap 24 = .ok (.iconst 2, 1) := by decide +kernel
theorem dX11_gap_25 : decode cX11_gap 25 = .ok (.if_icmp .ge 13, 3) := by decide +kernel
theorem dX11_gap_28 : decode cX11_gap 28 = .ok (.aload_n 0, 1) := by decide +kernel
theorem dX11_gap_29 : decode cX11_gap 29 = .ok (.getfield 89, 3) := by decide +kernel
theorem dX11_gap_32 : decode cX11_gap 32 = .ok (.invokevirtual 296, 3) := by decide +kernel
theorem dX11_gap_35 : decode cX11_gap 35 = .ok (.goto 10, 3) := by decide +kernel
theorem dX11_gap_38 : decode cX11_gap 38 = .ok (.aload_n 0, 1) := by decide +kernel
theorem dX11_gap_39 : decode cX11_gap 39 = .ok (.getfield 89, 3) := by decide +kernel
theorem dX11_gap_42 : decode cX11_gap 42 = .ok (.invokevirtual 299, 3) := by decide +kernel
theorem dX11_gap_45 : decode cX11_gap 45 = .ok (.istore 4, 2) := by decide +kernel
theorem dX11_gap_47 : decode cX11_gap 47 = .ok (.iload 4, 2) := by decide +kernel
theorem dX11_gap_49 : decode cX11_gap 49 = .ok (.iconst (-1), 1) := by decide +kernel
theorem dX11_gap_50 : decode cX11_gap 50 = .ok (.if_icmp .ne 5, 3) := by decide +kernel
theorem dX11_gap_53 : decode cX11_gap 53 = .ok (.iconst (-1), 1) := by decide +kernel
theorem dX11_gap_54 : decode cX11_gap 54 = .ok (.ireturn, 1) := by decide +kernel
theorem dX11_gap_55 : decode cX11_gap 55 = .ok (.aload_n 0, 1) := by decide +kernel
theorem dX11_gap_56 : decode cX11_gap 56 = .ok (.getfield 28, 3) := by decide +kernel
theorem dX11_gap_59 : decode cX11_gap 59 = .ok (.iload 4, 2) := by decide +kernel
theorem dX11_gap_61 : decode cX11_gap 61 = .ok (.iload_n 1, 1) := by decide +kernel
theorem dX11_gap_62 : decode cX11_gap 62 = .ok (.iload_n 2, 1) := by decide +kernel
theorem dX11_gap_63 : decode cX11_gap 63 = .ok (.invokevirtual 302, 3) := by decide +kernel
theorem dX11_gap_66 : decode cX11_gap 66 = .ok (.invokestatic 313, 3) := by decide +kernel
theorem dX11_gap_69 : decode cX11_gap 69 = .ok (.istore 5, 2) := by decide +kernel
theorem dX11_gap_71 : decode cX11_gap 71 = .ok (.aload_n 0, 1) := by decide +kernel
theorem dX11_gap_72 : decode cX11_gap 72 = .ok (.getfield 28, 3) := by decide +kernel
theorem dX11_gap_75 : decode cX11_gap 75 = .ok (.getfield 318, 3) := by decide +kernel
theorem dX11_gap_78 : decode cX11_gap 78 = .ok (.iload 4, 2) := by decide +kernel
theorem dX11_gap_80 : decode cX11_gap 80 = .ok (.invokevirtual 157, 3) := by decide +kernel
theorem dX11_gap_83 : decode cX11_gap 83 = .ok (.istore 6, 2) := by decide +kernel
theorem dX11_gap_85 : decode cX11_gap 85 = .ok (.iload_n 3, 1) := by decide +kernel
theorem dX11_gap_86 : decode cX11_gap 86 = .ok (.ifCond .eq 8, 3) := by decide +kernel
theorem dX11_gap_89 : decode cX11_gap 89 = .ok (.iload_n 3, 1) := by decide +kernel
theorem dX11_gap_90 : decode cX11_gap 90 = .ok (.iconst 2, 1) := by decide +kernel
theorem dX11_gap_91 : decode cX11_gap 91 = .ok (.if_icmp .ne 8, 3) := by decide +kernel
theorem dX11_gap_94 : decode cX11_gap 94 = .ok (.iload 5, 2) := by decide +kernel
theorem dX11_gap_96 : decode cX11_gap 96 = .ok (.goto 5, 3) := by decide +kernel
theorem dX11_gap_99 : decode cX11_gap 99 = .ok (.iload 6, 2) := by decide +kernel
theorem dX11_gap_101 : decode cX11_gap 101 = .ok (.istore 7, 2) := by decide +kernel
theorem dX11_gap_103 : decode cX11_gap 103 = .ok (.iload 5, 2) := by decide +kernel
theorem dX11_gap_105 : decode cX11_gap 105 = .ok (.iload 6, 2) := by decide +kernel
theorem dX11_gap_107 : decode cX11_gap 107 = .ok (.invokestatic 321, 3) := by decide +kernel
theorem dX11_gap_110 : decode cX11_gap 110 = .ok (.istore 8, 2) := by decide +kernel
theorem dX11_gap_112 : decode cX11_gap 112 = .ok (.iload 8, 2) := by decide +kernel
theorem dX11_gap_114 : decode cX11_gap 114 = .ok (.ifCond .ne 7, 3) := by decide +kernel
theorem dX11_gap_117 : decode cX11_gap 117 = .ok (.iconst (-1), 1) := by decide +kernel
theorem dX11_gap_118 : decode cX11_gap 118 = .ok (.goto 8, 3) := by decide +kernel
theorem dX11_gap_121 : decode cX11_gap 121 = .ok (.iload 7, 2) := by decide +kernel
theorem dX11_gap_123 : decode cX11_gap 123 = .ok (.iload 8, 2) := by decide +kernel
theorem dX11_gap_125 : decode cX11_gap 125 = .ok (.idiv, 1) := by decide +kernel
theorem dX11_gap_126 : decode cX11_gap 126 = .ok (.ireturn, 1) := by decide +kernel
theorem dX11_commonPart_0 : decode cX11_commonPart 0 = .ok (.iload_n 0, 1) := by decide +kernel
theorem dX11_commonPart_1 : decode cX11_commonPart 1 = .ok (.istore_n 2, 1) := by decide +kernel
theorem dX11_commonPart_2 : decode cX11_commonPart 2 = .ok (.iload_n 1, 1) := by decide +kernel
theorem dX11_commonPart_3 : decode cX11_commonPart 3 = .ok (.istore_n 3, 1) := by decide +kernel
theorem dX11_commonPart_4 : decode cX11_commonPart 4 = .ok (.iconst 0, 1) := by decide +kernel
theorem dX11_commonPart_5 : decode cX11_commonPart 5 = .ok (.istore 4, 2) := by decide +kernel
theorem dX11_commonPart_7 : decode cX11_commonPart 7 = .ok (.iload 4, 2) := by decide +kernel
theorem dX11_commonPart_9 : decode cX11_commonPart 9 = .ok (.bipush 100, 2) := by decide +kernel
theorem dX11_commonPart_11 : decode cX11_commonPart 11 = .ok (.if_icmp .ge 23, 3) := by decide +kernel
theorem dX11_commonPart_14 : decode cX11_commonPart 14 = .ok (.iload_n 3, 1) := by decide +kernel
theorem dX11_commonPart_15 : decode cX11_commonPart 15 = .ok (.ifCond .eq 19, 3) := by decide +kernel
theorem dX11_commonPart_18 : decode cX11_commonPart 18 = .ok (.iload_n 2, 1) := by decide +kernel
theorem dX11_commonPart_19 : decode cX11_commonPart 19 = .ok (.iload_n 3, 1) := by decide +kernel
theorem dX11_commonPart_20 : decode cX11_commonPart 20 = .ok (.irem, 1) := by decide +kernel
theorem dX11_commonPart_21 : decode cX11_commonPart 21 = .ok (.istore 5, 2) := by decide +kernel
theorem dX11_commonPart_23 : decode cX11_commonPart 23 = .ok (.iload_n 3, 1) := by decide +kernel
theorem dX11_commonPart_24 : decode cX11_commonPart 24 = .ok (.istore_n 2, 1) := by decide +kernel
theorem dX11_commonPart_25 : decode cX11_commonPart 25 = .ok (.iload 5, 2) := by decide +kernel
theorem dX11_commonPart_27 : decode cX11_commonPart 27 = .ok (.istore_n 3, 1) := by decide +kernel
theorem dX11_commonPart_28 : decode cX11_commonPart 28 = .ok (.iinc 4 1, 3) := by decide +kernel
theorem dX11_commonPart_31 : decode cX11_commonPart 31 = .ok (.goto (-24), 3) := by decide +kernel
theorem dX11_commonPart_34 : decode cX11_commonPart 34 = .ok (.iload_n 2, 1) := by decide +kernel
theorem dX11_commonPart_35 : decode cX11_commonPart 35 = .ok (.ireturn, 1) := by decide +kernel
theorem dX11_crossed_0 : decode cX11_crossed 0 = .ok (.aload_n 0, 1) := by decide +kernel
theorem dX11_crossed_1 : decode cX11_crossed 1 = .ok (.getfield 89, 3) := by decide +kernel
theorem dX11_crossed_4 : decode cX11_crossed 4 = .ok (.iload_n 1, 1) := by decide +kernel
theorem dX11_crossed_5 : decode cX11_crossed 5 = .ok (.iload_n 2, 1) := by decide +kernel
theorem dX11_crossed_6 : decode cX11_crossed 6 = .ok (.invokevirtual 293, 3) := by decide +kernel
theorem dX11_crossed_9 : decode cX11_crossed 9 = .ok (.ifCond .eq 13, 3) := by decide +kernel
theorem dX11_crossed_12 : decode cX11_crossed 12 = .ok (.aload_n 0, 1) := by decide +kernel
theorem dX11_crossed_13 : decode cX11_crossed 13 = .ok (.getfield 89, 3) := by decide +kernel
theorem dX11_crossed_16 : decode cX11_crossed 16 = .ok (.getfield 325, 3) := by decide +kernel
theorem dX11_crossed_19 : decode cX11_crossed 19 = .ok (.goto 5, 3) := by decide +kernel
theorem dX11_crossed_22 : decode cX11_crossed 22 = .ok (.bipush (-2), 2) := by decide +kernel
theorem dX11_crossed_24 : decode cX11_crossed 24 = .ok (.ireturn, 1) := by decide +kernel
theorem dX11_same_0 : decode cX11_same 0 = .ok (.aload_n 0, 1) := by decide +kernel
theorem dX11_same_1 : decode cX11_same 1 = .ok (.getfield 89, 3) := by decide +kernel
theorem dX11_same_4 : decode cX11_same 4 = .ok (.iload_n 1, 1) := by decide +kernel
theorem dX11_same_5 : decode cX11_same 5 = .ok (.iload_n 2, 1) := by decide +kernel
theorem dX11_same_6 : decode cX11_same 6 = .ok (.invokevirtual 293, 3) := by decide +kernel
theorem dX11_same_9 : decode cX11_same 9 = .ok (.ifCond .ne 6, 3) := by decide +kernel
theorem dX11_same_12 : decode cX11_same 12 = .ok (.bipush (-2), 2) := by decide +kernel
theorem dX11_same_14 : decode cX11_same 14 = .ok (.ireturn, 1) := by decide +kernel
theorem dX11_same_15 : decode cX11_same 15 = .ok (.aload_n 0, 1) := by decide +kernel
theorem dX11_same_16 : decode cX11_same 16 = .ok (.getfield 89, 3) := by decide +kernel
theorem dX11_same_19 : decode cX11_same 19 = .ok (.invokevirtual 296, 3) := by decide +kernel
theorem dX11_same_22 : decode cX11_same 22 = .ok (.istore 5, 2) := by decide +kernel
theorem dX11_same_24 : decode cX11_same 24 = .ok (.aload_n 0, 1) := by decide +kernel
theorem dX11_same_25 : decode cX11_same 25 = .ok (.getfield 89, 3) := by decide +kernel
theorem dX11_same_28 : decode cX11_same 28 = .ok (.iload_n 3, 1) := by decide +kernel
theorem dX11_same_29 : decode cX11_same 29 = .ok (.iload 4, 2) := by decide +kernel
theorem dX11_same_31 : decode cX11_same 31 = .ok (.invokevirtual 293, 3) := by decide +kernel
theorem dX11_same_34 : decode cX11_same 34 = .ok (.ifCond .ne 6, 3) := by decide +kernel
theorem dX11_same_37 : decode cX11_same 37 = .ok (.bipush (-2), 2) := by decide +kernel
theorem dX11_same_39 : decode cX11_same 39 = .ok (.ireturn, 1) := by decide +kernel
theorem dX11_same_40 : decode cX11_same 40 = .ok (.iload 5, 2) := by decide +kernel
theorem dX11_same_42 : decode cX11_same 42 = .ok (.aload_n 0, 1) := by decide +kernel
theorem dX11_same_43 : decode cX11_same 43 = .ok (.getfield 89, 3) := by decide +kernel
theorem dX11_same_46 : decode cX11_same 46 = .ok (.invokevirtual 296, 3) := by decide +kernel
theorem dX11_same_49 : decode cX11_same 49 = .ok (.if_icmp .ne 7, 3) := by decide +kernel
theorem dX11_same_52 : decode cX11_same 52 = .ok (.iconst 1, 1) := by decide +kernel
theorem dX11_same_53 : decode cX11_same 53 = .ok (.goto 4, 3) := by decide +kernel
theorem dX11_same_56 : decode cX11_same 56 = .ok (.iconst 0, 1) := by decide +kernel
theorem dX11_same_57 : decode cX11_same 57 = .ok (.ireturn, 1) := by decide +kernel
theorem dX11_unlike_0 : decode cX11_unlike 0 = .ok (.aload_n 0, 1) := by decide +kernel
theorem dX11_unlike_1 : decode cX11_unlike 1 = .ok (.getfield 61, 3) := by decide +kernel
theorem dX11_unlike_4 : decode cX11_unlike 4 = .ok (.iload_n 1, 1) := by decide +kernel
theorem dX11_unlike_5 : decode cX11_unlike 5 = .ok (.invokevirtual 230, 3) := by decide +kernel
theorem dX11_unlike_8 : decode cX11_unlike 8 = .ok (.ifCond .eq 14, 3) := by decide +kernel
theorem dX11_unlike_11 : decode cX11_unlike 11 = .ok (.aload_n 0, 1) := by decide +kernel
theorem dX11_unlike_12 : decode cX11_unlike 12 = .ok (.getfield 61, 3) := by decide +kernel
theorem dX11_unlike_15 : decode cX11_unlike 15 = .ok (.iload_n 2, 1) := by decide +kernel
theorem dX11_unlike_16 : decode cX11_unlike 16 = .ok (.invokevirtual 230, 3) := by decide +kernel
theorem dX11_unlike_19 : decode cX11_unlike 19 = .ok (.ifCond .ne 5, 3) := by decide +kernel
theorem dX11_unlike_22 : decode cX11_unlike 22 = .ok (.iconst (-1), 1) := by decide +kernel
theorem dX11_unlike_23 : decode cX11_unlike 23 = .ok (.ireturn, 1) := by decide +kernel
theorem dX11_unlike_24 : decode cX11_unlike 24 = .ok (.aload_n 0, 1) := by decide +kernel
theorem dX11_unlike_25 : decode cX11_unlike 25 = .ok (.getfield 61, 3) := by decide +kernel
theorem dX11_unlike_28 : decode cX11_unlike 28 = .ok (.getfield 209, 3) := by decide +kernel
theorem dX11_unlike_31 : decode cX11_unlike 31 = .ok (.iload_n 1, 1) := by decide +kernel
theorem dX11_unlike_32 : decode cX11_unlike 32 = .ok (.invokevirtual 157, 3) := by decide +kernel
theorem dX11_unlike_35 : decode cX11_unlike 35 = .ok (.aload_n 0, 1) := by decide +kernel
theorem dX11_unlike_36 : decode cX11_unlike 36 = .ok (.getfield 61, 3) := by decide +kernel
theorem dX11_unlike_39 : decode cX11_unlike 39 = .ok (.getfield 209, 3) := by decide +kernel
theorem dX11_unlike_42 : decode cX11_unlike 42 = .ok (.iload_n 2, 1) := by decide +kernel
theorem dX11_unlike_43 : decode cX11_unlike 43 = .ok (.invokevirtual 157, 3) := by decide +kernel
theorem dX11_unlike_46 : decode cX11_unlike 46 = .ok (.ixor, 1) := by decide +kernel
theorem dX11_unlike_47 : decode cX11_unlike 47 = .ok (.invokestatic 212, 3) := by decide +kernel
theorem dX11_unlike_50 : decode cX11_unlike 50 = .ok (.ireturn, 1) := by decide +kernel
theorem dX11_shared_0 : decode cX11_shared 0 = .ok (.aload_n 0, 1) := by decide +kernel
theorem dX11_shared_1 : decode cX11_shared 1 = .ok (.getfield 61, 3) := by decide +kernel
theorem dX11_shared_4 : decode cX11_shared 4 = .ok (.iload_n 1, 1) := by decide +kernel
theorem dX11_shared_5 : decode cX11_shared 5 = .ok (.invokevirtual 230, 3) := by decide +kernel
theorem dX11_shared_8 : decode cX11_shared 8 = .ok (.ifCond .eq 14, 3) := by decide +kernel
theorem dX11_shared_11 : decode cX11_shared 11 = .ok (.aload_n 0, 1) := by decide +kernel
theorem dX11_shared_12 : decode cX11_shared 12 = .ok (.getfield 61, 3) := by decide +kernel
theorem dX11_shared_15 : decode cX11_shared 15 = .ok (.iload_n 2, 1) := by decide +kernel
theorem dX11_shared_16 : decode cX11_shared 16 = .ok (.invokevirtual 230, 3) := by decide +kernel
theorem dX11_shared_19 : decode cX11_shared 19 = .ok (.ifCond .ne 5, 3) := by decide +kernel
theorem dX11_shared_22 : decode cX11_shared 22 = .ok (.iconst (-1), 1) := by decide +kernel
theorem dX11_shared_23 : decode cX11_shared 23 = .ok (.ireturn, 1) := by decide +kernel
theorem dX11_shared_24 : decode cX11_shared 24 = .ok (.iconst 0, 1) := by decide +kernel
theorem dX11_shared_25 : decode cX11_shared 25 = .ok (.istore_n 3, 1) := by decide +kernel
theorem dX11_shared_26 : decode cX11_shared 26 = .ok (.iconst 0, 1) := by decide +kernel
theorem dX11_shared_27 : decode cX11_shared 27 = .ok (.istore 4, 2) := by decide +kernel
theorem dX11_shared_29 : decode cX11_shared 29 = .ok (.iload 4, 2) := by decide +kernel
theorem dX11_shared_31 : decode cX11_shared 31 = .ok (.aload_n 0, 1) := by decide +kernel
theorem dX11_shared_32 : decode cX11_shared 32 = .ok (.getfield 28, 3) := by decide +kernel
theorem dX11_shared_35 : decode cX11_shared 35 = .ok (.invokevirtual 137, 3) := by decide +kernel
theorem dX11_shared_38 : decode cX11_shared 38 = .ok (.if_icmp .ge 45, 3) := by decide +kernel
theorem dX11_shared_41 : decode cX11_shared 41 = .ok (.aload_n 0, 1) := by decide +kernel
theorem dX11_shared_42 : decode cX11_shared 42 = .ok (.getfield 61, 3) := by decide +kernel
theorem dX11_shared_45 : decode cX11_shared 45 = .ok (.iload 4, 2) := by decide +kernel
theorem dX11_shared_47 : decode cX11_shared 47 = .ok (.iload_n 1, 1) := by decide +kernel
theorem dX11_shared_48 : decode cX11_shared 48 = .ok (.invokevirtual 328, 3) := by decide +kernel
theorem dX11_shared_51 : decode cX11_shared 51 = .ok (.istore 5, 2) := by decide +kernel
theorem dX11_shared_53 : decode cX11_shared 53 = .ok (.iload 5, 2) := by decide +kernel
theorem dX11_shared_55 : decode cX11_shared 55 = .ok (.iconst (-1), 1) := by decide +kernel
theorem dX11_shared_56 : decode cX11_shared 56 = .ok (.if_icmp .eq 21, 3) := by decide +kernel
theorem dX11_shared_59 : decode cX11_shared 59 = .ok (.iload 5, 2) := by decide +kernel
theorem dX11_shared_61 : decode cX11_shared 61 = .ok (.aload_n 0, 1) := by decide +kernel
theorem dX11_shared_62 : decode cX11_shared 62 = .ok (.getfield 61, 3) := by decide +kernel
theorem dX11_shared_65 : decode cX11_shared 65 = .ok (.iload 4, 2) := by decide +kernel
theorem dX11_shared_67 : decode cX11_shared 67 = .ok (.iload_n 2, 1) := by decide +kernel
theorem dX11_shared_68 : decode cX11_shared 68 = .ok (.invokevirtual 328, 3) := by decide +kernel
theorem dX11_shared_71 : decode cX11_shared 71 = .ok (.if_icmp .ne 6, 3) := by decide +kernel
theorem dX11_shared_74 : decode cX11_shared 74 = .ok (.iinc 3 1, 3) := by decide +kernel
theorem dX11_shared_77 : decode cX11_shared 77 = .ok (.iinc 4 1, 3) := by decide +kernel
theorem dX11_shared_80 : decode cX11_shared 80 = .ok (.goto (-51), 3) := by decide +kernel
theorem dX11_shared_83 : decode cX11_shared 83 = .ok (.iload_n 3, 1) := by decide +kernel
theorem dX11_shared_84 : decode cX11_shared 84 = .ok (.ireturn, 1) := by decide +kernel
theorem dX11_written_0 : decode cX11_written 0 = .ok (.aload_n 0, 1) := by decide +kernel
theorem dX11_written_1 : decode cX11_written 1 = .ok (.getfield 61, 3) := by decide +kernel
theorem dX11_written_4 : decode cX11_written 4 = .ok (.invokevirtual 331, 3) := by decide +kernel
theorem dX11_written_7 : decode cX11_written 7 = .ok (.ireturn, 1) := by decide +kernel
theorem dX11_copies_0 : decode cX11_copies 0 = .ok (.iload_n 1, 1) := by decide +kernel
theorem dX11_copies_1 : decode cX11_copies 1 = .ok (.iconst (-1), 1) := by decide +kernel
theorem dX11_copies_2 : decode cX11_copies 2 = .ok (.if_icmp .eq 14, 3) := by decide +kernel
theorem dX11_copies_5 : decode cX11_copies 5 = .ok (.aload_n 0, 1) := by decide +kernel
theorem dX11_copies_6 : decode cX11_copies 6 = .ok (.getfield 28, 3) := by decide +kernel
theorem dX11_copies_9 : decode cX11_copies 9 = .ok (.iload_n 1, 1) := by decide +kernel
theorem dX11_copies_10 : decode cX11_copies 10 = .ok (.invokevirtual 147, 3) := by decide +kernel
theorem dX11_copies_13 : decode cX11_copies 13 = .ok (.ifCond .eq 14, 3) := by decide +kernel
theorem dX11_copies_16 : decode cX11_copies 16 = .ok (.aload_n 0, 1) := by decide +kernel
theorem dX11_copies_17 : decode cX11_copies 17 = .ok (.getfield 61, 3) := by decide +kernel
theorem dX11_copies_20 : decode cX11_copies 20 = .ok (.iload_n 1, 1) := by decide +kernel
theorem dX11_copies_21 : decode cX11_copies 21 = .ok (.invokevirtual 334, 3) := by decide +kernel
theorem dX11_copies_24 : decode cX11_copies 24 = .ok (.goto 5, 3) := by decide +kernel
theorem dX11_copies_27 : decode cX11_copies 27 = .ok (.bipush (-2), 2) := by decide +kernel
theorem dX11_copies_29 : decode cX11_copies 29 = .ok (.ireturn, 1) := by decide +kernel
theorem dX11_dearest_0 : decode cX11_dearest 0 = .ok (.iconst (-1), 1) := by decide +kernel
theorem dX11_dearest_1 : decode cX11_dearest 1 = .ok (.istore_n 1, 1) := by decide +kernel
theorem dX11_dearest_2 : decode cX11_dearest 2 = .ok (.iconst 1, 1) := by decide +kernel
theorem dX11_dearest_3 : decode cX11_dearest 3 = .ok (.istore_n 2, 1) := by decide +kernel
theorem dX11_dearest_4 : decode cX11_dearest 4 = .ok (.iload_n 2, 1) := by decide +kernel
theorem dX11_dearest_5 : decode cX11_dearest 5 = .ok (.aload_n 0, 1) := by decide +kernel
theorem dX11_dearest_6 : decode cX11_dearest 6 = .ok (.getfield 61, 3) := by decide +kernel
theorem dX11_dearest_9 : decode cX11_dearest 9 = .ok (.invokevirtual 151, 3) := by decide +kernel
theorem dX11_dearest_12 : decode cX11_dearest 12 = .ok (.if_icmp .gt 41, 3) := by decide +kernel
theorem dX11_dearest_15 : decode cX11_dearest 15 = .ok (.iload_n 1, 1) := by decide +kernel
theorem dX11_dearest_16 : decode cX11_dearest 16 = .ok (.iconst (-1), 1) := by decide +kernel
theorem dX11_dearest_17 : decode cX11_dearest 17 = .ok (.if_icmp .eq 28, 3) := by decide +kernel
theorem dX11_dearest_20 : decode cX11_dearest 20 = .ok (.aload_n 0, 1) := by decide +kernel
theorem dX11_dearest_21 : decode cX11_dearest 21 = .ok (.getfield 61, 3) := by decide +kernel
theorem dX11_dearest_24 : decode cX11_dearest 24 = .ok (.getfield 245, 3) := by decide +kernel
theorem dX11_dearest_27 : decode cX11_dearest 27 = .ok (.iload_n 2, 1) := by decide +kernel
theorem dX11_dearest_28 : decode cX11_dearest 28 = .ok (.invokevirtual 157, 3) := by decide +kernel
theorem dX11_dearest_31 : decode cX11_dearest 31 = .ok (.aload_n 0, 1) := by decide +kernel
theorem dX11_dearest_32 : decode cX11_dearest 32 = .ok (.getfield 61, 3) := by decide +kernel
theorem dX11_dearest_35 : decode cX11_dearest 35 = .ok (.getfield 245, 3) := by decide +kernel
theorem dX11_dearest_38 : decode cX11_dearest 38 = .ok (.iload_n 1, 1) := by decide +kernel
theorem dX11_dearest_39 : decode cX11_dearest 39 = .ok (.invokevirtual 157, 3) := by decide +kernel
theorem dX11_dearest_42 : decode cX11_dearest 42 = .ok (.if_icmp .le 5, 3) := by decide +kernel
theorem dX11_dearest_45 : decode cX11_dearest 45 = .ok (.iload_n 2, 1) := by decide +kernel
theorem dX11_dearest_46 : decode cX11_dearest 46 = .ok (.istore_n 1, 1) := by decide +kernel
theorem dX11_dearest_47 : decode cX11_dearest 47 = .ok (.iinc 2 1, 3) := by decide +kernel
theorem dX11_dearest_50 : decode cX11_dearest 50 = .ok (.goto (-46), 3) := by decide +kernel
theorem dX11_dearest_53 : decode cX11_dearest 53 = .ok (.iload_n 1, 1) := by decide +kernel
theorem dX11_dearest_54 : decode cX11_dearest 54 = .ok (.ireturn, 1) := by decide +kernel
theorem dX11_paid_0 : decode cX11_paid 0 = .ok (.aload_n 0, 1) := by decide +kernel
theorem dX11_paid_1 : decode cX11_paid 1 = .ok (.getfield 61, 3) := by decide +kernel
theorem dX11_paid_4 : decode cX11_paid 4 = .ok (.iconst (-1), 1) := by decide +kernel
theorem dX11_paid_5 : decode cX11_paid 5 = .ok (.invokevirtual 334, 3) := by decide +kernel
theorem dX11_paid_8 : decode cX11_paid 8 = .ok (.aload_n 0, 1) := by decide +kernel
theorem dX11_paid_9 : decode cX11_paid 9 = .ok (.getfield 28, 3) := by decide +kernel
theorem dX11_paid_12 : decode cX11_paid 12 = .ok (.getfield 337, 3) := by decide +kernel
theorem dX11_paid_15 : decode cX11_paid 15 = .ok (.iconst 1, 1) := by decide +kernel
theorem dX11_paid_16 : decode cX11_paid 16 = .ok (.isub, 1) := by decide +kernel
theorem dX11_paid_17 : decode cX11_paid 17 = .ok (.imul, 1) := by decide +kernel
theorem dX11_paid_18 : decode cX11_paid 18 = .ok (.istore_n 1, 1) := by decide +kernel
theorem dX11_paid_19 : decode cX11_paid 19 = .ok (.aload_n 0, 1) := by decide +kernel
theorem dX11_paid_20 : decode cX11_paid 20 = .ok (.getfield 61, 3) := by decide +kernel
theorem dX11_paid_23 : decode cX11_paid 23 = .ok (.invokevirtual 331, 3) := by decide +kernel
theorem dX11_paid_26 : decode cX11_paid 26 = .ok (.iload_n 1, 1) := by decide +kernel
theorem dX11_paid_27 : decode cX11_paid 27 = .ok (.isub, 1) := by decide +kernel
theorem dX11_paid_28 : decode cX11_paid 28 = .ok (.iconst 0, 1) := by decide +kernel
theorem dX11_paid_29 : decode cX11_paid 29 = .ok (.invokestatic 340, 3) := by decide +kernel
theorem dX11_paid_32 : decode cX11_paid 32 = .ok (.ireturn, 1) := by decide +kernel
theorem dX11_credit_0 : decode cX11_credit 0 = .ok (.iconst 0, 1) := by decide +kernel
theorem dX11_credit_1 : decode cX11_credit 1 = .ok (.istore_n 1, 1) := by decide +kernel
theorem dX11_credit_2 : decode cX11_credit 2 = .ok (.iconst 0, 1) := by decide +kernel
theorem dX11_credit_3 : decode cX11_credit 3 = .ok (.istore_n 2, 1) := by decide +kernel
theorem dX11_credit_4 : decode cX11_credit 4 = .ok (.iload_n 2, 1) := by decide +kernel
theorem dX11_credit_5 : decode cX11_credit 5 = .ok (.aload_n 0, 1) := by decide +kernel
theorem dX11_credit_6 : decode cX11_credit 6 = .ok (.getfield 28, 3) := by decide +kernel
theorem dX11_credit_9 : decode cX11_credit 9 = .ok (.invokevirtual 137, 3) := by decide +kernel
theorem dX11_credit_12 : decode cX11_credit 12 = .ok (.if_icmp .ge 44, 3) := by decide +kernel
theorem dX11_credit_15 : decode cX11_credit 15 = .ok (.aload_n 0, 1) := by decide +kernel
theorem dX11_credit_16 : decode cX11_credit 16 = .ok (.getfield 61, 3) := by decide +kernel
theorem dX11_credit_19 : decode cX11_credit 19 = .ok (.getfield 177, 3) := by decide +kernel
theorem dX11_credit_22 : decode cX11_credit 22 = .ok (.iload_n 2, 1) := by decide +kernel
theorem dX11_credit_23 : decode cX11_credit 23 = .ok (.invokevirtual 157, 3) := by decide +kernel
theorem dX11_credit_26 : decode cX11_credit 26 = .ok (.istore_n 3, 1) := by decide +kernel
theorem dX11_credit_27 : decode cX11_credit 27 = .ok (.iload_n 1, 1) := by decide +kernel
theorem dX11_credit_28 : decode cX11_credit 28 = .ok (.iload_n 3, 1) := by decide +kernel
theorem dX11_credit_29 : decode cX11_credit 29 = .ok (.iconst (-1), 1) := by decide +kernel
theorem dX11_credit_30 : decode cX11_credit 30 = .ok (.if_icmp .ne 7, 3) := by decide +kernel
theorem dX11_credit_33 : decode cX11_credit 33 = .ok (.iconst 0, 1) := by decide +kernel
theorem dX11_credit_34 : decode cX11_credit 34 = .ok (.goto 14, 3) := by decide +kernel
theorem dX11_credit_37 : decode cX11_credit 37 = .ok (.aload_n 0, 1) := by decide +kernel
theorem dX11_credit_38 : decode cX11_credit 38 = .ok (.getfield 61, 3) := by decide +kernel
theorem dX11_credit_41 : decode cX11_credit 41 = .ok (.getfield 263, 3) := by decide +kernel
theorem dX11_credit_44 : decode cX11_credit 44 = .ok (.iload_n 3, 1) := by decide +kernel
theorem dX11_credit_45 : decode cX11_credit 45 = .ok (.invokevirtual 157, 3) := by decide +kernel
theorem dX11_credit_48 : decode cX11_credit 48 = .ok (.iadd, 1) := by decide +kernel
theorem dX11_credit_49 : decode cX11_credit 49 = .ok (.istore_n 1, 1) := by decide +kernel
theorem dX11_credit_50 : decode cX11_credit 50 = .ok (.iinc 2 1, 3) := by decide +kernel
theorem dX11_credit_53 : decode cX11_credit 53 = .ok (.goto (-49), 3) := by decide +kernel
theorem dX11_credit_56 : decode cX11_credit 56 = .ok (.iload_n 1, 1) := by decide +kernel
theorem dX11_credit_57 : decode cX11_credit 57 = .ok (.ireturn, 1) := by decide +kernel
theorem dX11_law_0 : decode cX11_law 0 = .ok (.iload_n 1, 1) := by decide +kernel
theorem dX11_law_1 : decode cX11_law 1 = .ok (.iconst 1, 1) := by decide +kernel
theorem dX11_law_2 : decode cX11_law 2 = .ok (.if_icmp .lt 9, 3) := by decide +kernel
theorem dX11_law_5 : decode cX11_law 5 = .ok (.iload_n 1, 1) := by decide +kernel
theorem dX11_law_6 : decode cX11_law 6 = .ok (.bipush 6, 2) := by decide +kernel
theorem dX11_law_8 : decode cX11_law 8 = .ok (.if_icmp .le 5, 3) := by decide +kernel
theorem dX11_law_11 : decode cX11_law 11 = .ok (.iconst (-1), 1) := by decide +kernel
theorem dX11_law_12 : decode cX11_law 12 = .ok (.ireturn, 1) := by decide +kernel
theorem dX11_law_13 : decode cX11_law 13 = .ok (.aload_n 0, 1) := by decide +kernel
theorem dX11_law_14 : decode cX11_law 14 = .ok (.getfield 65, 3) := by decide +kernel
theorem dX11_law_17 : decode cX11_law 17 = .ok (.invokevirtual 126, 3) := by decide +kernel
theorem dX11_law_20 : decode cX11_law 20 = .ok (.iconst 1, 1) := by decide +kernel
theorem dX11_law_21 : decode cX11_law 21 = .ok (.istore_n 2, 1) := by decide +kernel
theorem dX11_law_22 : decode cX11_law 22 = .ok (.iload_n 2, 1) := by decide +kernel
theorem dX11_law_23 : decode cX11_law 23 = .ok (.aload_n 0, 1) := by decide +kernel
theorem dX11_law_24 : decode cX11_law 24 = .ok (.getfield 61, 3) := by decide +kernel
theorem dX11_law_27 : decode cX11_law 27 = .ok (.invokevirtual 151, 3) := by decide +kernel
theorem dX11_law_30 : decode cX11_law 30 = .ok (.if_icmp .gt 53, 3) := by decide +kernel
theorem dX11_law_33 : decode cX11_law 33 = .ok (.aload_n 0, 1) := by decide +kernel
theorem dX11_law_34 : decode cX11_law 34 = .ok (.getfield 89, 3) := by decide +kernel
theorem dX11_law_37 : decode cX11_law 37 = .ok (.iload_n 2, 1) := by decide +kernel
theorem dX11_law_38 : decode cX11_law 38 = .ok (.invokevirtual 239, 3) := by decide +kernel
theorem dX11_law_41 : decode cX11_law 41 = .ok (.aload_n 0, 1) := by decide +kernel
theorem dX11_law_42 : decode cX11_law 42 = .ok (.getfield 65, 3) := by decide +kernel
theorem dX11_law_45 : decode cX11_law 45 = .ok (.aload_n 0, 1) := by decide +kernel
theorem dX11_law_46 : decode cX11_law 46 = .ok (.getfield 54, 3) := by decide +kernel
theorem dX11_law_49 : decode cX11_law 49 = .ok (.aload_n 0, 1) := by decide +kernel
theorem dX11_law_50 : decode cX11_law 50 = .ok (.getfield 61, 3) := by decide +kernel
theorem dX11_law_53 : decode cX11_law 53 = .ok (.getfield 233, 3) := by decide +kernel
theorem dX11_law_56 : decode cX11_law 56 = .ok (.iload_n 2, 1) := by decide +kernel
theorem dX11_law_57 : decode cX11_law 57 = .ok (.invokevirtual 157, 3) := by decide +kernel
theorem dX11_law_60 : decode cX11_law 60 = .ok (.aload_n 0, 1) := by decide +kernel
theorem dX11_law_61 : decode cX11_law 61 = .ok (.getfield 61, 3) := by decide +kernel
theorem dX11_law_64 : decode cX11_law 64 = .ok (.getfield 209, 3) := by decide +kernel
theorem dX11_law_67 : decode cX11_law 67 = .ok (.iload_n 2, 1) := by decide +kernel
theorem dX11_law_68 : decode cX11_law 68 = .ok (.invokevirtual 157, 3) := by decide +kernel
theorem dX11_law_71 : decode cX11_law 71 = .ok (.iconst 0, 1) := by decide +kernel
theorem dX11_law_72 : decode cX11_law 72 = .ok (.iconst 0, 1) := by decide +kernel
theorem dX11_law_73 : decode cX11_law 73 = .ok (.iload_n 1, 1) := by decide +kernel
theorem dX11_law_74 : decode cX11_law 74 = .ok (.invokevirtual 343, 3) := by decide +kernel
theorem dX11_law_77 : decode cX11_law 77 = .ok (.iinc 2 1, 3) := by decide +kernel
theorem dX11_law_80 : decode cX11_law 80 = .ok (.goto (-58), 3) := by decide +kernel
theorem dX11_law_83 : decode cX11_law 83 = .ok (.aload_n 0, 1) := by decide +kernel
theorem dX11_law_84 : decode cX11_law 84 = .ok (.getfield 65, 3) := by decide +kernel
theorem dX11_law_87 : decode cX11_law 87 = .ok (.iconst (-1), 1) := by decide +kernel
theorem dX11_law_88 : decode cX11_law 88 = .ok (.invokevirtual 334, 3) := by decide +kernel
theorem dX11_law_91 : decode cX11_law 91 = .ok (.ireturn, 1) := by decide +kernel
theorem dX11_busiest_0 : decode cX11_busiest 0 = .ok (.iconst (-1), 1) := by decide +kernel
theorem dX11_busiest_1 : decode cX11_busiest 1 = .ok (.istore_n 1, 1) := by decide +kernel
theorem dX11_busiest_2 : decode cX11_busiest 2 = .ok (.iconst 0, 1) := by decide +kernel
theorem dX11_busiest_3 : decode cX11_busiest 3 = .ok (.istore_n 2, 1) := by decide +kernel
theorem dX11_busiest_4 : decode cX11_busiest 4 = .ok (.iload_n 2, 1) := by decide +kernel
theorem dX11_busiest_5 : decode cX11_busiest 5 = .ok (.aload_n 0, 1) := by decide +kernel
theorem dX11_busiest_6 : decode cX11_busiest 6 = .ok (.getfield 28, 3) := by decide +kernel
theorem dX11_busiest_9 : decode cX11_busiest 9 = .ok (.invokevirtual 137, 3) := by decide +kernel
theorem dX11_busiest_12 : decode cX11_busiest 12 = .ok (.if_icmp .ge 35, 3) := by decide +kernel
theorem dX11_busiest_15 : decode cX11_busiest 15 = .ok (.iload_n 1, 1) := by decide +kernel
theorem dX11_busiest_16 : decode cX11_busiest 16 = .ok (.iconst (-1), 1) := by decide +kernel
theorem dX11_busiest_17 : decode cX11_busiest 17 = .ok (.if_icmp .eq 22, 3) := by decide +kernel
theorem dX11_busiest_20 : decode cX11_busiest 20 = .ok (.aload_n 0, 1) := by decide +kernel
theorem dX11_busiest_21 : decode cX11_busiest 21 = .ok (.getfield 61, 3) := by decide +kernel
theorem dX11_busiest_24 : decode cX11_busiest 24 = .ok (.iload_n 2, 1) := by decide +kernel
theorem dX11_busiest_25 : decode cX11_busiest 25 = .ok (.invokevirtual 334, 3) := by decide +kernel
theorem dX11_busiest_28 : decode cX11_busiest 28 = .ok (.aload_n 0, 1) := by decide +kernel
theorem dX11_busiest_29 : decode cX11_busiest 29 = .ok (.getfield 61, 3) := by decide +kernel
theorem dX11_busiest_32 : decode cX11_busiest 32 = .ok (.iload_n 1, 1) := by decide +kernel
theorem dX11_busiest_33 : decode cX11_busiest 33 = .ok (.invokevirtual 334, 3) := by decide +kernel
theorem dX11_busiest_36 : decode cX11_busiest 36 = .ok (.if_icmp .le 5, 3) := by decide +kernel
theorem dX11_busiest_39 : decode cX11_busiest 39 = .ok (.iload_n 2, 1) := by decide +kernel
theorem dX11_busiest_40 : decode cX11_busiest 40 = .ok (.istore_n 1, 1) := by decide +kernel
theorem dX11_busiest_41 : decode cX11_busiest 41 = .ok (.iinc 2 1, 3) := by decide +kernel
theorem dX11_busiest_44 : decode cX11_busiest 44 = .ok (.goto (-40), 3) := by decide +kernel
theorem dX11_busiest_47 : decode cX11_busiest 47 = .ok (.iload_n 1, 1) := by decide +kernel
theorem dX11_busiest_48 : decode cX11_busiest 48 = .ok (.ireturn, 1) := by decide +kernel
theorem dX11_widest_0 : decode cX11_widest 0 = .ok (.iconst 0, 1) := by decide +kernel
theorem dX11_widest_1 : decode cX11_widest 1 = .ok (.istore_n 1, 1) := by decide +kernel
theorem dX11_widest_2 : decode cX11_widest 2 = .ok (.iconst 1, 1) := by decide +kernel
theorem dX11_widest_3 : decode cX11_widest 3 = .ok (.istore_n 2, 1) := by decide +kernel
theorem dX11_widest_4 : decode cX11_widest 4 = .ok (.iload_n 2, 1) := by decide +kernel
theorem dX11_widest_5 : decode cX11_widest 5 = .ok (.aload_n 0, 1) := by decide +kernel
theorem dX11_widest_6 : decode cX11_widest 6 = .ok (.getfield 61, 3) := by decide +kernel
theorem dX11_widest_9 : decode cX11_widest 9 = .ok (.invokevirtual 151, 3) := by decide +kernel
theorem dX11_widest_12 : decode cX11_widest 12 = .ok (.if_icmp .gt 42, 3) := by decide +kernel
theorem dX11_widest_15 : decode cX11_widest 15 = .ok (.aload_n 0, 1) := by decide +kernel
theorem dX11_widest_16 : decode cX11_widest 16 = .ok (.getfield 61, 3) := by decide +kernel
theorem dX11_widest_19 : decode cX11_widest 19 = .ok (.getfield 209, 3) := by decide +kernel
theorem dX11_widest_22 : decode cX11_widest 22 = .ok (.iload_n 2, 1) := by decide +kernel
theorem dX11_widest_23 : decode cX11_widest 23 = .ok (.invokevirtual 157, 3) := by decide +kernel
theorem dX11_widest_26 : decode cX11_widest 26 = .ok (.invokestatic 212, 3) := by decide +kernel
theorem dX11_widest_29 : decode cX11_widest 29 = .ok (.aload_n 0, 1) := by decide +kernel
theorem dX11_widest_30 : decode cX11_widest 30 = .ok (.getfield 61, 3) := by decide +kernel
theorem dX11_widest_33 : decode cX11_widest 33 = .ok (.getfield 209, 3) := by decide +kernel
theorem dX11_widest_36 : decode cX11_widest 36 = .ok (.iload_n 1, 1) := by decide +kernel
theorem dX11_widest_37 : decode cX11_widest 37 = .ok (.invokevirtual 157, 3) := by decide +kernel
theorem dX11_widest_40 : decode cX11_widest 40 = .ok (.invokestatic 212, 3) := by decide +kernel
theorem dX11_widest_43 : decode cX11_widest 43 = .ok (.if_icmp .le 5, 3) := by decide +kernel
theorem dX11_widest_46 : decode cX11_widest 46 = .ok (.iload_n 2, 1) := by decide +kernel
theorem dX11_widest_47 : decode cX11_widest 47 = .ok (.istore_n 1, 1) := by decide +kernel
theorem dX11_widest_48 : decode cX11_widest 48 = .ok (.iinc 2 1, 3) := by decide +kernel
theorem dX11_widest_51 : decode cX11_widest 51 = .ok (.goto (-47), 3) := by decide +kernel
theorem dX11_widest_54 : decode cX11_widest 54 = .ok (.iload_n 1, 1) := by decide +kernel
theorem dX11_widest_55 : decode cX11_widest 55 = .ok (.ireturn, 1) := by decide +kernel
theorem dX11_highest_0 : decode cX11_highest 0 = .ok (.iconst 0, 1) := by decide +kernel
theorem dX11_highest_1 : decode cX11_highest 1 = .ok (.istore_n 1, 1) := by decide +kernel
theorem dX11_highest_2 : decode cX11_highest 2 = .ok (.iconst 0, 1) := by decide +kernel
theorem dX11_highest_3 : decode cX11_highest 3 = .ok (.istore_n 2, 1) := by decide +kernel
theorem dX11_highest_4 : decode cX11_highest 4 = .ok (.iconst 1, 1) := by decide +kernel
theorem dX11_highest_5 : decode cX11_highest 5 = .ok (.istore_n 3, 1) := by decide +kernel
theorem dX11_highest_6 : decode cX11_highest 6 = .ok (.iload_n 3, 1) := by decide +kernel
theorem dX11_highest_7 : decode cX11_highest 7 = .ok (.aload_n 0, 1) := by decide +kernel
theorem dX11_highest_8 : decode cX11_highest 8 = .ok (.getfield 61, 3) := by decide +kernel
theorem dX11_highest_11 : decode cX11_highest 11 = .ok (.invokevirtual 151, 3) := by decide +kernel
theorem dX11_highest_14 : decode cX11_highest 14 = .ok (.if_icmp .gt 38, 3) := by decide +kernel
theorem dX11_highest_17 : decode cX11_highest 17 = .ok (.aload_n 0, 1) := by decide +kernel
theorem dX11_highest_18 : decode cX11_highest 18 = .ok (.getfield 89, 3) := by decide +kernel
theorem dX11_highest_21 : decode cX11_highest 21 = .ok (.iload_n 3, 1) := by decide +kernel
theorem dX11_highest_22 : decode cX11_highest 22 = .ok (.invokevirtual 239, 3) := by decide +kernel
theorem dX11_highest_25 : decode cX11_highest 25 = .ok (.aload_n 0, 1) := by decide +kernel
theorem dX11_highest_26 : decode cX11_highest 26 = .ok (.getfield 54, 3) := by decide +kernel
theorem dX11_highest_29 : decode cX11_highest 29 = .ok (.getfield 242, 3) := by decide +kernel
theorem dX11_highest_32 : decode cX11_highest 32 = .ok (.iload_n 2, 1) := by decide +kernel
theorem dX11_highest_33 : decode cX11_highest 33 = .ok (.if_icmp .le 13, 3) := by decide +kernel
theorem dX11_highest_36 : decode cX11_highest 36 = .ok (.aload_n 0, 1) := by decide +kernel
theorem dX11_highest_37 : decode cX11_highest 37 = .ok (.getfield 54, 3) := by decide +kernel
theorem dX11_highest_40 : decode cX11_highest 40 = .ok (.getfield 242, 3) := by decide +kernel
theorem dX11_highest_43 : decode cX11_highest 43 = .ok (.istore_n 2, 1) := by decide +kernel
theorem dX11_highest_44 : decode cX11_highest 44 = .ok (.iload_n 3, 1) := by decide +kernel
theorem dX11_highest_45 : decode cX11_highest 45 = .ok (.istore_n 1, 1) := by decide +kernel
theorem dX11_highest_46 : decode cX11_highest 46 = .ok (.iinc 3 1, 3) := by decide +kernel
theorem dX11_highest_49 : decode cX11_highest 49 = .ok (.goto (-43), 3) := by decide +kernel
theorem dX11_highest_52 : decode cX11_highest 52 = .ok (.iload_n 1, 1) := by decide +kernel
theorem dX11_highest_53 : decode cX11_highest 53 = .ok (.ireturn, 1) := by decide +kernel
theorem dX11_stays_0 : decode cX11_stays 0 = .ok (.aload_n 0, 1) := by decide +kernel
theorem dX11_stays_1 : decode cX11_stays 1 = .ok (.getfield 28, 3) := by decide +kernel
theorem dX11_stays_4 : decode cX11_stays 4 = .ok (.iload_n 1, 1) := by decide +kernel
theorem dX11_stays_5 : decode cX11_stays 5 = .ok (.invokevirtual 147, 3) := by decide +kernel
theorem dX11_stays_8 : decode cX11_stays 8 = .ok (.ifCond .ne 5, 3) := by decide +kernel
theorem dX11_stays_11 : decode cX11_stays 11 = .ok (.iconst (-1), 1) := by decide +kernel
theorem dX11_stays_12 : decode cX11_stays 12 = .ok (.ireturn, 1) := by decide +kernel
theorem dX11_stays_13 : decode cX11_stays 13 = .ok (.iconst 0, 1) := by decide +kernel
theorem dX11_stays_14 : decode cX11_stays 14 = .ok (.istore_n 2, 1) := by decide +kernel
theorem dX11_stays_15 : decode cX11_stays 15 = .ok (.iconst 0, 1) := by decide +kernel
theorem dX11_stays_16 : decode cX11_stays 16 = .ok (.istore_n 3, 1) := by decide +kernel
theorem dX11_stays_17 : decode cX11_stays 17 = .ok (.iload_n 3, 1) := by decide +kernel
theorem dX11_stays_18 : decode cX11_stays 18 = .ok (.aload_n 0, 1) := by decide +kernel
theorem dX11_stays_19 : decode cX11_stays 19 = .ok (.getfield 61, 3) := by decide +kernel
theorem dX11_stays_22 : decode cX11_stays 22 = .ok (.invokevirtual 151, 3) := by decide +kernel
theorem dX11_stays_25 : decode cX11_stays 25 = .ok (.if_icmp .gt 29, 3) := by decide +kernel
theorem dX11_stays_28 : decode cX11_stays 28 = .ok (.iload_n 2, 1) := by decide +kernel
theorem dX11_stays_29 : decode cX11_stays 29 = .ok (.aload_n 0, 1) := by decide +kernel
theorem dX11_stays_30 : decode cX11_stays 30 = .ok (.getfield 61, 3) := by decide +kernel
theorem dX11_stays_33 : decode cX11_stays 33 = .ok (.iload_n 3, 1) := by decide +kernel
theorem dX11_stays_34 : decode cX11_stays 34 = .ok (.iload_n 1, 1) := by decide +kernel
theorem dX11_stays_35 : decode cX11_stays 35 = .ok (.invokevirtual 170, 3) := by decide +kernel
theorem dX11_stays_38 : decode cX11_stays 38 = .ok (.ifCond .eq 7, 3) := by decide +kernel
theorem dX11_stays_41 : decode cX11_stays 41 = .ok (.iconst 1, 1) := by decide +kernel
theorem dX11_stays_42 : decode cX11_stays 42 = .ok (.goto 4, 3) := by decide +kernel
theorem dX11_stays_45 : decode cX11_stays 45 = .ok (.iconst 0, 1) := by decide +kernel
theorem dX11_stays_46 : decode cX11_stays 46 = .ok (.iadd, 1) := by decide +kernel
theorem dX11_stays_47 : decode cX11_stays 47 = .ok (.istore_n 2, 1) := by decide +kernel
theorem dX11_stays_48 : decode cX11_stays 48 = .ok (.iinc 3 1, 3) := by decide +kernel
theorem dX11_stays_51 : decode cX11_stays 51 = .ok (.goto (-34), 3) := by decide +kernel
theorem dX11_stays_54 : decode cX11_stays 54 = .ok (.iload_n 2, 1) := by decide +kernel
theorem dX11_stays_55 : decode cX11_stays 55 = .ok (.ireturn, 1) := by decide +kernel
theorem dX11_sight_0 : decode cX11_sight 0 = .ok (.aload_n 0, 1) := by decide +kernel
theorem dX11_sight_1 : decode cX11_sight 1 = .ok (.getfield 28, 3) := by decide +kernel
theorem dX11_sight_4 : decode cX11_sight 4 = .ok (.iload_n 1, 1) := by decide +kernel
theorem dX11_sight_5 : decode cX11_sight 5 = .ok (.invokevirtual 147, 3) := by decide +kernel
theorem dX11_sight_8 : decode cX11_sight 8 = .ok (.ifCond .eq 12, 3) := by decide +kernel
theorem dX11_sight_11 : decode cX11_sight 11 = .ok (.iload_n 2, 1) := by decide +kernel
theorem dX11_sight_12 : decode cX11_sight 12 = .ok (.ifCond .lt 8, 3) := by decide +kernel
theorem dX11_sight_15 : decode cX11_sight 15 = .ok (.iload_n 2, 1) := by decide +kernel
theorem dX11_sight_16 : decode cX11_sight 16 = .ok (.iconst 1, 1) := by decide +kernel
theorem dX11_sight_17 : decode cX11_sight 17 = .ok (.if_icmp .le 5, 3) := by decide +kernel
theorem dX11_sight_20 : decode cX11_sight 20 = .ok (.iconst (-1), 1) := by decide +kernel
theorem dX11_sight_21 : decode cX11_sight 21 = .ok (.ireturn, 1) := by decide +kernel
theorem dX11_sight_22 : decode cX11_sight 22 = .ok (.aload_n 0, 1) := by decide +kernel
theorem dX11_sight_23 : decode cX11_sight 23 = .ok (.getfield 89, 3) := by decide +kernel
theorem dX11_sight_26 : decode cX11_sight 26 = .ok (.iload_n 1, 1) := by decide +kernel
theorem dX11_sight_27 : decode cX11_sight 27 = .ok (.iload_n 2, 1) := by decide +kernel
theorem dX11_sight_28 : decode cX11_sight 28 = .ok (.ifCond .ne 7, 3) := by decide +kernel
theorem dX11_sight_31 : decode cX11_sight 31 = .ok (.iconst 1, 1) := by decide +kernel
theorem dX11_sight_32 : decode cX11_sight 32 = .ok (.goto 4, 3) := by decide +kernel
theorem dX11_sight_35 : decode cX11_sight 35 = .ok (.iconst (-1), 1) := by decide +kernel
theorem dX11_sight_36 : decode cX11_sight 36 = .ok (.invokevirtual 347, 3) := by decide +kernel
theorem dX11_sight_39 : decode cX11_sight 39 = .ok (.ireturn, 1) := by decide +kernel
theorem dX11_trapezes_0 : decode cX11_trapezes 0 = .ok (.aload_n 0, 1) := by decide +kernel
theorem dX11_trapezes_1 : decode cX11_trapezes 1 = .ok (.getfield 89, 3) := by decide +kernel
theorem dX11_trapezes_4 : decode cX11_trapezes 4 = .ok (.invokevirtual 350, 3) := by decide +kernel
theorem dX11_trapezes_7 : decode cX11_trapezes 7 = .ok (.ireturn, 1) := by decide +kernel
theorem dX11_area_0 : decode cX11_area 0 = .ok (.iload_n 1, 1) := by decide +kernel
theorem dX11_area_1 : decode cX11_area 1 = .ok (.iconst (-1), 1) := by decide +kernel
theorem dX11_area_2 : decode cX11_area 2 = .ok (.if_icmp .eq 17, 3) := by decide +kernel
theorem dX11_area_5 : decode cX11_area 5 = .ok (.aload_n 0, 1) := by decide +kernel
theorem dX11_area_6 : decode cX11_area 6 = .ok (.getfield 28, 3) := by decide +kernel
theorem dX11_area_9 : decode cX11_area 9 = .ok (.iload_n 1, 1) := by decide +kernel
theorem dX11_area_10 : decode cX11_area 10 = .ok (.invokevirtual 147, 3) := by decide +kernel
theorem dX11_area_13 : decode cX11_area 13 = .ok (.ifCond .ne 6, 3) := by decide +kernel
theorem dX11_area_16 : decode cX11_area 16 = .ok (.bipush (-2), 2) := by decide +kernel
theorem dX11_area_18 : decode cX11_area 18 = .ok (.ireturn, 1) := by decide +kernel
theorem dX11_area_19 : decode cX11_area 19 = .ok (.aload_n 0, 1) := by decide +kernel
theorem dX11_area_20 : decode cX11_area 20 = .ok (.getfield 89, 3) := by decide +kernel
theorem dX11_area_23 : decode cX11_area 23 = .ok (.invokevirtual 353, 3) := by decide +kernel
theorem dX11_area_26 : decode cX11_area 26 = .ok (.aload_n 0, 1) := by decide +kernel
theorem dX11_area_27 : decode cX11_area 27 = .ok (.getfield 89, 3) := by decide +kernel
theorem dX11_area_30 : decode cX11_area 30 = .ok (.getfield 356, 3) := by decide +kernel
theorem dX11_area_33 : decode cX11_area 33 = .ok (.iload_n 1, 1) := by decide +kernel
theorem dX11_area_34 : decode cX11_area 34 = .ok (.iconst 1, 1) := by decide +kernel
theorem dX11_area_35 : decode cX11_area 35 = .ok (.iadd, 1) := by decide +kernel
theorem dX11_area_36 : decode cX11_area 36 = .ok (.invokevirtual 157, 3) := by decide +kernel
theorem dX11_area_39 : decode cX11_area 39 = .ok (.ireturn, 1) := by decide +kernel
theorem dX11_largest_0 : decode cX11_largest 0 = .ok (.aload_n 0, 1) := by decide +kernel
theorem dX11_largest_1 : decode cX11_largest 1 = .ok (.getfield 89, 3) := by decide +kernel
theorem dX11_largest_4 : decode cX11_largest 4 = .ok (.invokevirtual 353, 3) := by decide +kernel
theorem dX11_largest_7 : decode cX11_largest 7 = .ok (.iconst (-1), 1) := by decide +kernel
theorem dX11_largest_8 : decode cX11_largest 8 = .ok (.istore_n 1, 1) := by decide +kernel
theorem dX11_largest_9 : decode cX11_largest 9 = .ok (.iconst 0, 1) := by decide +kernel
theorem dX11_largest_10 : decode cX11_largest 10 = .ok (.istore_n 2, 1) := by decide +kernel
theorem dX11_largest_11 : decode cX11_largest 11 = .ok (.iload_n 2, 1) := by decide +kernel
theorem dX11_largest_12 : decode cX11_largest 12 = .ok (.aload_n 0, 1) := by decide +kernel
theorem dX11_largest_13 : decode cX11_largest 13 = .ok (.getfield 28, 3) := by decide +kernel
theorem dX11_largest_16 : decode cX11_largest 16 = .ok (.invokevirtual 137, 3) := by decide +kernel
theorem dX11_largest_19 : decode cX11_largest 19 = .ok (.if_icmp .ge 45, 3) := by decide +kernel
theorem dX11_largest_22 : decode cX11_largest 22 = .ok (.iload_n 1, 1) := by decide +kernel
theorem dX11_largest_23 : decode cX11_largest 23 = .ok (.iconst (-1), 1) := by decide +kernel
theorem dX11_largest_24 : decode cX11_largest 24 = .ok (.if_icmp .eq 32, 3) := by decide +kernel
theorem dX11_largest_27 : decode cX11_largest 27 = .ok (.aload_n 0, 1) := by decide +kernel
theorem dX11_largest_28 : decode cX11_largest 28 = .ok (.getfield 89, 3) := by decide +kernel
theorem dX11_largest_31 : decode cX11_largest 31 = .ok (.getfield 356, 3) := by decide +kernel
theorem dX11_largest_34 : decode cX11_largest 34 = .ok (.iload_n 2, 1) := by decide +kernel
theorem dX11_largest_35 : decode cX11_largest 35 = .ok (.iconst 1, 1) := by decide +kernel
theorem dX11_largest_36 : decode cX11_largest 36 = .ok (.iadd, 1) := by decide +kernel
theorem dX11_largest_37 : decode cX11_largest 37 = .ok (.invokevirtual 157, 3) := by decide +kernel
theorem dX11_largest_40 : decode cX11_largest 40 = .ok (.aload_n 0, 1) := by decide +kernel
theorem dX11_largest_41 : decode cX11_largest 41 = .ok (.getfield 89, 3) := by decide +kernel
theorem dX11_largest_44 : decode cX11_largest 44 = .ok (.getfield 356, 3) := by decide +kernel
theorem dX11_largest_47 : decode cX11_largest 47 = .ok (.iload_n 1, 1) := by decide +kernel
theorem dX11_largest_48 : decode cX11_largest 48 = .ok (.iconst 1, 1) := by decide +kernel
theorem dX11_largest_49 : decode cX11_largest 49 = .ok (.iadd, 1) := by decide +kernel
theorem dX11_largest_50 : decode cX11_largest 50 = .ok (.invokevirtual 157, 3) := by decide +kernel
theorem dX11_largest_53 : decode cX11_largest 53 = .ok (.if_icmp .le 5, 3) := by decide +kernel
theorem dX11_largest_56 : decode cX11_largest 56 = .ok (.iload_n 2, 1) := by decide +kernel
theorem dX11_largest_57 : decode cX11_largest 57 = .ok (.istore_n 1, 1) := by decide +kernel
theorem dX11_largest_58 : decode cX11_largest 58 = .ok (.iinc 2 1, 3) := by decide +kernel
theorem dX11_largest_61 : decode cX11_largest 61 = .ok (.goto (-50), 3) := by decide +kernel
theorem dX11_largest_64 : decode cX11_largest 64 = .ok (.iload_n 1, 1) := by decide +kernel
theorem dX11_largest_65 : decode cX11_largest 65 = .ok (.ireturn, 1) := by decide +kernel
theorem dX11_hidden_0 : decode cX11_hidden 0 = .ok (.aload_n 0, 1) := by decide +kernel
theorem dX11_hidden_1 : decode cX11_hidden 1 = .ok (.getfield 89, 3) := by decide +kernel
theorem dX11_hidden_4 : decode cX11_hidden 4 = .ok (.iconst 0, 1) := by decide +kernel
theorem dX11_hidden_5 : decode cX11_hidden 5 = .ok (.invokevirtual 359, 3) := by decide +kernel
theorem dX11_hidden_8 : decode cX11_hidden 8 = .ok (.ifCond .ne 5, 3) := by decide +kernel
theorem dX11_hidden_11 : decode cX11_hidden 11 = .ok (.iconst (-1), 1) := by decide +kernel
theorem dX11_hidden_12 : decode cX11_hidden 12 = .ok (.ireturn, 1) := by decide +kernel
theorem dX11_hidden_13 : decode cX11_hidden 13 = .ok (.iload_n 1, 1) := by decide +kernel
theorem dX11_hidden_14 : decode cX11_hidden 14 = .ok (.tableswitch 71 0 2 #[26, 41, 56], 26) := by decide +kernel
theorem dX11_hidden_40 : decode cX11_hidden 40 = .ok (.aload_n 0, 1) := by decide +kernel
theorem dX11_hidden_41 : decode cX11_hidden 41 = .ok (.getfield 89, 3) := by decide +kernel
theorem dX11_hidden_44 : decode cX11_hidden 44 = .ok (.invokevirtual 362, 3) := by decide +kernel
theorem dX11_hidden_47 : decode cX11_hidden 47 = .ok (.aload_n 0, 1) := by decide +kernel
theorem dX11_hidden_48 : decode cX11_hidden 48 = .ok (.getfield 89, 3) := by decide +kernel
theorem dX11_hidden_51 : decode cX11_hidden 51 = .ok (.getfield 365, 3) := by decide +kernel
theorem dX11_hidden_54 : decode cX11_hidden 54 = .ok (.ireturn, 1) := by decide +kernel
theorem dX11_hidden_55 : decode cX11_hidden 55 = .ok (.aload_n 0, 1) := by decide +kernel
theorem dX11_hidden_56 : decode cX11_hidden 56 = .ok (.getfield 89, 3) := by decide +kernel
theorem dX11_hidden_59 : decode cX11_hidden 59 = .ok (.invokevirtual 362, 3) := by decide +kernel
theorem dX11_hidden_62 : decode cX11_hidden 62 = .ok (.aload_n 0, 1) := by decide +kernel
theorem dX11_hidden_63 : decode cX11_hidden 63 = .ok (.getfield 89, 3) := by decide +kernel
theorem dX11_hidden_66 : decode cX11_hidden 66 = .ok (.getfield 368, 3) := by decide +kernel
theorem dX11_hidden_69 : decode cX11_hidden 69 = .ok (.ireturn, 1) := by decide +kernel
theorem dX11_hidden_70 : decode cX11_hidden 70 = .ok (.aload_n 0, 1) := by decide +kernel
theorem dX11_hidden_71 : decode cX11_hidden 71 = .ok (.getfield 89, 3) := by decide +kernel
theorem dX11_hidden_74 : decode cX11_hidden 74 = .ok (.invokevirtual 362, 3) := by decide +kernel
theorem dX11_hidden_77 : decode cX11_hidden 77 = .ok (.aload_n 0, 1) := by decide +kernel
theorem dX11_hidden_78 : decode cX11_hidden 78 = .ok (.getfield 89, 3) := by decide +kernel
theorem dX11_hidden_81 : decode cX11_hidden 81 = .ok (.getfield 371, 3) := by decide +kernel
theorem dX11_hidden_84 : decode cX11_hidden 84 = .ok (.ireturn, 1) := by decide +kernel
theorem dX11_hidden_85 : decode cX11_hidden 85 = .ok (.iconst (-1), 1) := by decide +kernel
theorem dX11_hidden_86 : decode cX11_hidden 86 = .ok (.ireturn, 1) := by decide +kernel
theorem dX11_seen_0 : decode cX11_seen 0 = .ok (.iload_n 1, 1) := by decide +kernel
theorem dX11_seen_1 : decode cX11_seen 1 = .ok (.iconst (-1), 1) := by decide +kernel
theorem dX11_seen_2 : decode cX11_seen 2 = .ok (.if_icmp .eq 16, 3) := by decide +kernel
theorem dX11_seen_5 : decode cX11_seen 5 = .ok (.aload_n 0, 1) := by decide +kernel
theorem dX11_seen_6 : decode cX11_seen 6 = .ok (.getfield 28, 3) := by decide +kernel
theorem dX11_seen_9 : decode cX11_seen 9 = .ok (.iload_n 1, 1) := by decide +kernel
theorem dX11_seen_10 : decode cX11_seen 10 = .ok (.invokevirtual 147, 3) := by decide +kernel
theorem dX11_seen_13 : decode cX11_seen 13 = .ok (.ifCond .ne 5, 3) := by decide +kernel
theorem dX11_seen_16 : decode cX11_seen 16 = .ok (.iconst (-1), 1) := by decide +kernel
theorem dX11_seen_17 : decode cX11_seen 17 = .ok (.ireturn, 1) := by decide +kernel
theorem dX11_seen_18 : decode cX11_seen 18 = .ok (.aload_n 0, 1) := by decide +kernel
theorem dX11_seen_19 : decode cX11_seen 19 = .ok (.getfield 96, 3) := by decide +kernel
theorem dX11_seen_22 : decode cX11_seen 22 = .ok (.iload_n 1, 1) := by decide +kernel
theorem dX11_seen_23 : decode cX11_seen 23 = .ok (.iload_n 2, 1) := by decide +kernel
theorem dX11_seen_24 : decode cX11_seen 24 = .ok (.invokevirtual 374, 3) := by decide +kernel
theorem dX11_seen_27 : decode cX11_seen 27 = .ok (.ireturn, 1) := by decide +kernel
theorem dX11_untell_0 : decode cX11_untell 0 = .ok (.aload_n 0, 1) := by decide +kernel
theorem dX11_untell_1 : decode cX11_untell 1 = .ok (.getfield 96, 3) := by decide +kernel
theorem dX11_untell_4 : decode cX11_untell 4 = .ok (.iload_n 1, 1) := by decide +kernel
theorem dX11_untell_5 : decode cX11_untell 5 = .ok (.invokevirtual 378, 3) := by decide +kernel
theorem dX11_untell_8 : decode cX11_untell 8 = .ok (.ireturn, 1) := by decide +kernel
theorem dX11_later_0 : decode cX11_later 0 = .ok (.aload_n 0, 1) := by decide +kernel
theorem dX11_later_1 : decode cX11_later 1 = .ok (.getfield 96, 3) := by decide +kernel
theorem dX11_later_4 : decode cX11_later 4 = .ok (.iload_n 1, 1) := by decide +kernel
theorem dX11_later_5 : decode cX11_later 5 = .ok (.invokevirtual 380, 3) := by decide +kernel
theorem dX11_later_8 : decode cX11_later 8 = .ok (.ireturn, 1) := by decide +kernel
theorem dX11_fits_0 : decode cX11_fits 0 = .ok (.aload_n 0, 1) := by decide +kernel
theorem dX11_fits_1 : decode cX11_fits 1 = .ok (.getfield 96, 3) := by decide +kernel
theorem dX11_fits_4 : decode cX11_fits 4 = .ok (.iload_n 1, 1) := by decide +kernel
theorem dX11_fits_5 : decode cX11_fits 5 = .ok (.iload_n 2, 1) := by decide +kernel
theorem dX11_fits_6 : decode cX11_fits 6 = .ok (.invokevirtual 383, 3) := by decide +kernel
theorem dX11_fits_9 : decode cX11_fits 9 = .ok (.ifCond .eq 16, 3) := by decide +kernel
theorem dX11_fits_12 : decode cX11_fits 12 = .ok (.aload_n 0, 1) := by decide +kernel
theorem dX11_fits_13 : decode cX11_fits 13 = .ok (.getfield 96, 3) := by decide +kernel
theorem dX11_fits_16 : decode cX11_fits 16 = .ok (.getfield 386, 3) := by decide +kernel
theorem dX11_fits_19 : decode cX11_fits 19 = .ok (.invokevirtual 100, 3) := by decide +kernel
theorem dX11_fits_22 : decode cX11_fits 22 = .ok (.goto 4, 3) := by decide +kernel
theorem dX11_fits_25 : decode cX11_fits 25 = .ok (.iconst (-1), 1) := by decide +kernel
theorem dX11_fits_26 : decode cX11_fits 26 = .ok (.ireturn, 1) := by decide +kernel
theorem dX11_sure_0 : decode cX11_sure 0 = .ok (.iload_n 2, 1) := by decide +kernel
theorem dX11_sure_1 : decode cX11_sure 1 = .ok (.ifCond .lt 20, 3) := by decide +kernel
theorem dX11_sure_4 : decode cX11_sure 4 = .ok (.iload_n 2, 1) := by decide +kernel
theorem dX11_sure_5 : decode cX11_sure 5 = .ok (.iconst 1, 1) := by decide +kernel
theorem dX11_sure_6 : decode cX11_sure 6 = .ok (.if_icmp .gt 15, 3) := by decide +kernel
theorem dX11_sure_9 : decode cX11_sure 9 = .ok (.aload_n 0, 1) := by decide +kernel
theorem dX11_sure_10 : decode cX11_sure 10 = .ok (.getfield 96, 3) := by decide +kernel
theorem dX11_sure_13 : decode cX11_sure 13 = .ok (.iload_n 1, 1) := by decide +kernel
theorem dX11_sure_14 : decode cX11_sure 14 = .ok (.iload_n 3, 1) := by decide +kernel
theorem dX11_sure_15 : decode cX11_sure 15 = .ok (.invokevirtual 383, 3) := by decide +kernel
theorem dX11_sure_18 : decode cX11_sure 18 = .ok (.ifCond .ne 5, 3) := by decide +kernel
theorem dX11_sure_21 : decode cX11_sure 21 = .ok (.iconst (-1), 1) := by decide +kernel
theorem dX11_sure_22 : decode cX11_sure 22 = .ok (.ireturn, 1) := by decide +kernel
theorem dX11_sure_23 : decode cX11_sure 23 = .ok (.aload_n 0, 1) := by decide +kernel
theorem dX11_sure_24 : decode cX11_sure 24 = .ok (.getfield 96, 3) := by decide +kernel
theorem dX11_sure_27 : decode cX11_sure 27 = .ok (.getfield 386, 3) := by decide +kernel
theorem dX11_sure_30 : decode cX11_sure 30 = .ok (.iload_n 2, 1) := by decide +kernel
theorem dX11_sure_31 : decode cX11_sure 31 = .ok (.ifCond .ne 7, 3) := by decide +kernel
theorem dX11_sure_34 : decode cX11_sure 34 = .ok (.iconst 0, 1) := by decide +kernel
theorem dX11_sure_35 : decode cX11_sure 35 = .ok (.goto 15, 3) := by decide +kernel
theorem dX11_sure_38 : decode cX11_sure 38 = .ok (.aload_n 0, 1) := by decide +kernel
theorem dX11_sure_39 : decode cX11_sure 39 = .ok (.getfield 96, 3) := by decide +kernel
theorem dX11_sure_42 : decode cX11_sure 42 = .ok (.getfield 386, 3) := by decide +kernel
theorem dX11_sure_45 : decode cX11_sure 45 = .ok (.invokevirtual 100, 3) := by decide +kernel
theorem dX11_sure_48 : decode cX11_sure 48 = .ok (.iconst 1, 1) := by decide +kernel
theorem dX11_sure_49 : decode cX11_sure 49 = .ok (.isub, 1) := by decide +kernel
theorem dX11_sure_50 : decode cX11_sure 50 = .ok (.invokevirtual 157, 3) := by decide +kernel
theorem dX11_sure_53 : decode cX11_sure 53 = .ok (.ireturn, 1) := by decide +kernel
theorem dX11_ask_0 : decode cX11_ask 0 = .ok (.iload_n 2, 1) := by decide +kernel
theorem dX11_ask_1 : decode cX11_ask 1 = .ok (.ifCond .lt 20, 3) := by decide +kernel
theorem dX11_ask_4 : decode cX11_ask 4 = .ok (.iload_n 2, 1) := by decide +kernel
theorem dX11_ask_5 : decode cX11_ask 5 = .ok (.iconst 1, 1) := by decide +kernel
theorem dX11_ask_6 : decode cX11_ask 6 = .ok (.if_icmp .gt 15, 3) := by decide +kernel
theorem dX11_ask_9 : decode cX11_ask 9 = .ok (.aload_n 0, 1) := by decide +kernel
theorem dX11_ask_10 : decode cX11_ask 10 = .ok (.getfield 96, 3) := by decide +kernel
theorem dX11_ask_13 : decode cX11_ask 13 = .ok (.iload_n 1, 1) := by decide +kernel
theorem dX11_ask_14 : decode cX11_ask 14 = .ok (.iload_n 3, 1) := by decide +kernel
theorem dX11_ask_15 : decode cX11_ask 15 = .ok (.invokevirtual 383, 3) := by decide +kernel
theorem dX11_ask_18 : decode cX11_ask 18 = .ok (.ifCond .ne 5, 3) := by decide +kernel
theorem dX11_ask_21 : decode cX11_ask 21 = .ok (.iconst (-1), 1) := by decide +kernel
theorem dX11_ask_22 : decode cX11_ask 22 = .ok (.ireturn, 1) := by decide +kernel
theorem dX11_ask_23 : decode cX11_ask 23 = .ok (.aload_n 0, 1) := by decide +kernel
theorem dX11_ask_24 : decode cX11_ask 24 = .ok (.getfield 96, 3) := by decide +kernel
theorem dX11_ask_27 : decode cX11_ask 27 = .ok (.invokevirtual 389, 3) := by decide +kernel
theorem dX11_ask_30 : decode cX11_ask 30 = .ok (.istore 4, 2) := by decide +kernel
theorem dX11_ask_32 : decode cX11_ask 32 = .ok (.iload_n 2, 1) := by decide +kernel
theorem dX11_ask_33 : decode cX11_ask 33 = .ok (.ifCond .eq 9, 3) := by decide +kernel
theorem dX11_ask_36 : decode cX11_ask 36 = .ok (.iload 4, 2) := by decide +kernel
theorem dX11_ask_38 : decode cX11_ask 38 = .ok (.iconst (-1), 1) := by decide +kernel
theorem dX11_ask_39 : decode cX11_ask 39 = .ok (.if_icmp .ne 8, 3) := by decide +kernel
theorem dX11_ask_42 : decode cX11_ask 42 = .ok (.iload 4, 2) := by decide +kernel
theorem dX11_ask_44 : decode cX11_ask 44 = .ok (.goto 12, 3) := by decide +kernel
theorem dX11_ask_47 : decode cX11_ask 47 = .ok (.aload_n 0, 1) := by decide +kernel
theorem dX11_ask_48 : decode cX11_ask 48 = .ok (.getfield 96, 3) := by decide +kernel
theorem dX11_ask_51 : decode cX11_ask 51 = .ok (.iload 4, 2) := by decide +kernel
theorem dX11_ask_53 : decode cX11_ask 53 = .ok (.invokevirtual 392, 3) := by decide +kernel
theorem dX11_ask_56 : decode cX11_ask 56 = .ok (.ireturn, 1) := by decide +kernel
theorem dX11_about_0 : decode cX11_about 0 = .ok (.aload_n 0, 1) := by decide +kernel
theorem dX11_about_1 : decode cX11_about 1 = .ok (.getfield 61, 3) := by decide +kernel
theorem dX11_about_4 : decode cX11_about 4 = .ok (.invokevirtual 151, 3) := by decide +kernel
theorem dX11_about_7 : decode cX11_about 7 = .ok (.istore_n 2, 1) := by decide +kernel
theorem dX11_about_8 : decode cX11_about 8 = .ok (.iload_n 1, 1) := by decide +kernel
theorem dX11_about_9 : decode cX11_about 9 = .ok (.tableswitch 190 0 12 #[67, 75, 77, 89, 101, 112, 120, 128, 147, 158, 166, 174, 182], 67) := by decide +kernel
theorem dX11_about_76 : decode cX11_about 76 = .ok (.aload_n 0, 1) := by decide +kernel
theorem dX11_about_77 : decode cX11_about 77 = .ok (.getfield 28, 3) := by decide +kernel
theorem dX11_about_80 : decode cX11_about 80 = .ok (.invokevirtual 137, 3) := by decide +kernel
theorem dX11_about_83 : decode cX11_about 83 = .ok (.ireturn, 1) := by decide +kernel
theorem dX11_about_84 : decode cX11_about 84 = .ok (.iload_n 2, 1) := by decide +kernel
theorem dX11_about_85 : decode cX11_about 85 = .ok (.ireturn, 1) := by decide +kernel
theorem dX11_about_86 : decode cX11_about 86 = .ok (.aload_n 0, 1) := by decide +kernel
theorem dX11_about_87 : decode cX11_about 87 = .ok (.getfield 61, 3) := by decide +kernel
theorem dX11_about_90 : decode cX11_about 90 = .ok (.getfield 233, 3) := by decide +kernel
theorem dX11_about_93 : decode cX11_about 93 = .ok (.iload_n 2, 1) := by decide +kernel
theorem dX11_about_94 : decode cX11_about 94 = .ok (.invokevirtual 157, 3) := by decide +kernel
theorem dX11_about_97 : decode cX11_about 97 = .ok (.ireturn, 1) := by decide +kernel
theorem dX11_about_98 : decode cX11_about 98 = .ok (.aload_n 0, 1) := by decide +kernel
theorem dX11_about_99 : decode cX11_about 99 = .ok (.getfield 61, 3) := by decide +kernel
theorem dX11_about_102 : decode cX11_about 102 = .ok (.getfield 209, 3) := by decide +kernel
theorem dX11_about_105 : decode cX11_about 105 = .ok (.iload_n 2, 1) := by decide +kernel
theorem dX11_about_106 : decode cX11_about 106 = .ok (.invokevirtual 157, 3) := by decide +kernel
theorem dX11_about_109 : decode cX11_about 109 = .ok (.ireturn, 1) := by decide +kernel
theorem dX11_about_110 : decode cX11_about 110 = .ok (.aload_n 0, 1) := by decide +kernel
theorem dX11_about_111 : decode cX11_about 111 = .ok (.getfield 61, 3) := by decide +kernel
theorem dX11_about_114 : decode cX11_about 114 = .ok (.getfield 251, 3) := by decide +kernel
theorem dX11_about_117 : decode cX11_about 117 = .ok (.invokevirtual 100, 3) := by decide +kernel
theorem dX11_about_120 : decode cX11_about 120 = .ok (.ireturn, 1) := by decide +kernel
theorem dX11_about_121 : decode cX11_about 121 = .ok (.aload_n 0, 1) := by decide +kernel
theorem dX11_about_122 : decode cX11_about 122 = .ok (.getfield 28, 3) := by decide +kernel
theorem dX11_about_125 : decode cX11_about 125 = .ok (.getfield 337, 3) := by decide +kernel
theorem dX11_about_128 : decode cX11_about 128 = .ok (.ireturn, 1) := by decide +kernel
theorem dX11_about_129 : decode cX11_about 129 = .ok (.aload_n 0, 1) := by decide +kernel
theorem dX11_about_130 : decode cX11_about 130 = .ok (.getfield 82, 3) := by decide +kernel
theorem dX11_about_133 : decode cX11_about 133 = .ok (.getfield 395, 3) := by decide +kernel
theorem dX11_about_136 : decode cX11_about 136 = .ok (.ireturn, 1) := by decide +kernel
theorem dX11_about_137 : decode cX11_about 137 = .ok (.aload_n 0, 1) := by decide +kernel
theorem dX11_about_138 : decode cX11_about 138 = .ok (.getfield 82, 3) := by decide +kernel
theorem dX11_about_141 : decode cX11_about 141 = .ok (.getfield 398, 3) := by decide +kernel
theorem dX11_about_144 : decode cX11_about 144 = .ok (.invokevirtual 100, 3) := by decide +kernel
theorem dX11_about_147 : decode cX11_about 147 = .ok (.aload_n 0, 1) := by decide +kernel
theorem dX11_about_148 : decode cX11_about 148 = .ok (.getfield 82, 3) := by decide +kernel
theorem dX11_about_151 : decode cX11_about 151 = .ok (.getfield 395, 3) := by decide +kernel
theorem dX11_about_154 : decode cX11_about 154 = .ok (.isub, 1) := by decide +kernel
theorem dX11_about_155 : decode cX11_about 155 = .ok (.ireturn, 1) := by decide +kernel
theorem dX11_about_156 : decode cX11_about 156 = .ok (.aload_n 0, 1) := by decide +kernel
theorem dX11_about_157 : decode cX11_about 157 = .ok (.getfield 96, 3) := by decide +kernel
theorem dX11_about_160 : decode cX11_about 160 = .ok (.getfield 401, 3) := by decide +kernel
theorem dX11_about_163 : decode cX11_about 163 = .ok (.invokevirtual 100, 3) := by decide +kernel
theorem dX11_about_166 : decode cX11_about 166 = .ok (.ireturn, 1) := by decide +kernel
theorem dX11_about_167 : decode cX11_about 167 = .ok (.aload_n 0, 1) := by decide +kernel
theorem dX11_about_168 : decode cX11_about 168 = .ok (.getfield 96, 3) := by decide +kernel
theorem dX11_about_171 : decode cX11_about 171 = .ok (.getfield 404, 3) := by decide +kernel
theorem dX11_about_174 : decode cX11_about 174 = .ok (.ireturn, 1) := by decide +kernel
theorem dX11_about_175 : decode cX11_about 175 = .ok (.aload_n 0, 1) := by decide +kernel
theorem dX11_about_176 : decode cX11_about 176 = .ok (.getfield 14, 3) := by decide +kernel
theorem dX11_about_179 : decode cX11_about 179 = .ok (.invokevirtual 100, 3) := by decide +kernel
theorem dX11_about_182 : decode cX11_about 182 = .ok (.ireturn, 1) := by decide +kernel
theorem dX11_about_183 : decode cX11_about 183 = .ok (.aload_n 0, 1) := by decide +kernel
theorem dX11_about_184 : decode cX11_about 184 = .ok (.getfield 28, 3) := by decide +kernel
theorem dX11_about_187 : decode cX11_about 187 = .ok (.getfield 407, 3) := by decide +kernel
theorem dX11_about_190 : decode cX11_about 190 = .ok (.ireturn, 1) := by decide +kernel
theorem dX11_about_191 : decode cX11_about 191 = .ok (.aload_n 0, 1) := by decide +kernel
theorem dX11_about_192 : decode cX11_about 192 = .ok (.getfield 18, 3) := by decide +kernel
theorem dX11_about_195 : decode cX11_about 195 = .ok (.invokevirtual 100, 3) := by decide +kernel
theorem dX11_about_198 : decode cX11_about 198 = .ok (.ireturn, 1) := by decide +kernel
theorem dX11_about_199 : decode cX11_about 199 = .ok (.iconst (-1), 1) := by decide +kernel
theorem dX11_about_200 : decode cX11_about 200 = .ok (.ireturn, 1) := by decide +kernel
theorem dX12_init_0 : decode cX12_init 0 = .ok (.aload_n 0, 1) := by decide +kernel
theorem dX12_init_1 : decode cX12_init 1 = .ok (.invokespecial 1, 3) := by decide +kernel
theorem dX12_init_4 : decode cX12_init 4 = .ok (.aload_n 0, 1) := by decide +kernel
theorem dX12_init_5 : decode cX12_init 5 = .ok (.sipush 1600, 3) := by decide +kernel
theorem dX12_init_8 : decode cX12_init 8 = .ok (.newarray .int, 2) := by decide +kernel
theorem dX12_init_10 : decode cX12_init 10 = .ok (.putfield 7, 3) := by decide +kernel
theorem dX12_init_13 : decode cX12_init 13 = .ok (.aload_n 0, 1) := by decide +kernel
theorem dX12_init_14 : decode cX12_init 14 = .ok (.iconst (-1), 1) := by decide +kernel
theorem dX12_init_15 : decode cX12_init 15 = .ok (.putfield 13, 3) := by decide +kernel
theorem dX12_init_18 : decode cX12_init 18 = .ok (.aload_n 0, 1) := by decide +kernel
theorem dX12_init_19 : decode cX12_init 19 = .ok (.sipush 320, 3) := by decide +kernel
theorem dX12_init_22 : decode cX12_init 22 = .ok (.newarray .int, 2) := by decide +kernel
theorem dX12_init_24 : decode cX12_init 24 = .ok (.putfield 17, 3) := by decide +kernel
theorem dX12_init_27 : decode cX12_init 27 = .ok (.aload_n 0, 1) := by decide +kernel
theorem dX12_init_28 : decode cX12_init 28 = .ok (.sipush 320, 3) := by decide +kernel
theorem dX12_init_31 : decode cX12_init 31 = .ok (.newarray .int, 2) := by decide +kernel
theorem dX12_init_33 : decode cX12_init 33 = .ok (.putfield 20, 3) := by decide +kernel
theorem dX12_init_36 : decode cX12_init 36 = .ok (.aload_n 0, 1) := by decide +kernel
theorem dX12_init_37 : decode cX12_init 37 = .ok (.sipush 320, 3) := by decide +kernel
theorem dX12_init_40 : decode cX12_init 40 = .ok (.newarray .int, 2) := by decide +kernel
theorem dX12_init_42 : decode cX12_init 42 = .ok (.putfield 23, 3) := by decide +kernel
theorem dX12_init_45 : decode cX12_init 45 = .ok (.aload_n 0, 1) := by decide +kernel
theorem dX12_init_46 : decode cX12_init 46 = .ok (.sipush 320, 3) := by decide +kernel
theorem dX12_init_49 : decode cX12_init 49 = .ok (.newarray .int, 2) := by decide +kernel
theorem dX12_init_51 : decode cX12_init 51 = .ok (.putfield 26, 3) := by decide +kernel
theorem dX12_init_54 : decode cX12_init 54 = .ok (.aload_n 0, 1) := by decide +kernel
theorem dX12_init_55 : decode cX12_init 55 = .ok (.sipush 160, 3) := by decide +kernel
theorem dX12_init_58 : decode cX12_init 58 = .ok (.newarray .int, 2) := by decide +kernel
theorem dX12_init_60 : decode cX12_init 60 = .ok (.putfield 29, 3) := by decide +kernel
theorem dX12_init_63 : decode cX12_init 63 = .ok (.aload_n 0, 1) := by decide +kernel
theorem dX12_init_64 : decode cX12_init 64 = .ok (.bipush 64, 2) := by decide +kernel
theorem dX12_init_66 : decode cX12_init 66 = .ok (.newarray .int, 2) := by decide +kernel
theorem dX12_init_68 : decode cX12_init 68 = .ok (.putfield 32, 3) := by decide +kernel
theorem dX12_init_71 : decode cX12_init 71 = .ok (.aload_n 0, 1) := by decide +kernel
theorem dX12_init_72 : decode cX12_init 72 = .ok (.iconst 5, 1) := by decide +kernel
theorem dX12_init_73 : decode cX12_init 73 = .ok (.newarray .int, 2) := by decide +kernel
theorem dX12_init_75 : decode cX12_init 75 = .ok (.putfield 35, 3) := by decide +kernel
theorem dX12_init_78 : decode cX12_init 78 = .ok (.aload_n 0, 1) := by decide +kernel
theorem dX12_init_79 : decode cX12_init 79 = .ok (.bipush 8, 2) := by decide +kernel
theorem dX12_init_81 : decode cX12_init 81 = .ok (.newarray .long, 2) := by decide +kernel
theorem dX12_init_83 : decode cX12_init 83 = .ok (.putfield 38, 3) := by decide +kernel
theorem dX12_init_86 : decode cX12_init 86 = .ok (.aload_n 0, 1) := by decide +kernel
theorem dX12_init_87 : decode cX12_init 87 = .ok (.bipush 8, 2) := by decide +kernel
theorem dX12_init_89 : decode cX12_init 89 = .ok (.newarray .int, 2) := by decide +kernel
theorem dX12_init_91 : decode cX12_init 91 = .ok (.putfield 42, 3) := by decide +kernel
theorem dX12_init_94 : decode cX12_init 94 = .ok (.aload_n 0, 1) := by decide +kernel
theorem dX12_init_95 : decode cX12_init 95 = .ok (.bipush 8, 2) := by decide +kernel
theorem dX12_init_97 : decode cX12_init 97 = .ok (.newarray .int, 2) := by decide +kernel
theorem dX12_init_99 : decode cX12_init 99 = .ok (.putfield 45, 3) := by decide +kernel
theorem dX12_init_102 : decode cX12_init 102 = .ok (.aload_n 0, 1) := by decide +kernel
theorem dX12_init_103 : decode cX12_init 103 = .ok (.bipush 8, 2) := by decide +kernel
theorem dX12_init_105 : decode cX12_init 105 = .ok (.newarray .int, 2) := by decide +kernel
theorem dX12_init_107 : decode cX12_init 107 = .ok (.putfield 48, 3) := by decide +kernel
theorem dX12_init_110 : decode cX12_init 110 = .ok (.aload_n 0, 1) := by decide +kernel
theorem dX12_init_111 : decode cX12_init 111 = .ok (.bipush 8, 2) := by decide +kernel
theorem dX12_init_113 : decode cX12_init 113 = .ok (.newarray .int, 2) := by decide +kernel
theorem dX12_init_115 : decode cX12_init 115 = .ok (.putfield 51, 3) := by decide +kernel
theorem dX12_init_118 : decode cX12_init 118 = .ok (.aload_n 0, 1) := by decide +kernel
theorem dX12_init_119 : decode cX12_init 119 = .ok (.bipush 8, 2) := by decide +kernel
theorem dX12_init_121 : decode cX12_init 121 = .ok (.newarray .int, 2) := by decide +kernel
theorem dX12_init_123 : decode cX12_init 123 = .ok (.putfield 54, 3) := by decide +kernel
theorem dX12_init_126 : decode cX12_init 126 = .ok (.aload_n 0, 1) := by decide +kernel
theorem dX12_init_127 : decode cX12_init 127 = .ok (.bipush 8, 2) := by decide +kernel
theorem dX12_init_129 : decode cX12_init 129 = .ok (.newarray .int, 2) := by decide +kernel
theorem dX12_init_131 : decode cX12_init 131 = .ok (.putfield 57, 3) := by decide +kernel
theorem dX12_init_134 : decode cX12_init 134 = .ok (.aload_n 0, 1) := by decide +kernel
theorem dX12_init_135 : decode cX12_init 135 = .ok (.bipush 8, 2) := by decide +kernel
theorem dX12_init_137 : decode cX12_init 137 = .ok (.newarray .int, 2) := by decide +kernel
theorem dX12_init_139 : decode cX12_init 139 = .ok (.putfield 60, 3) := by decide +kernel
theorem dX12_init_142 : decode cX12_init 142 = .ok (.aload_n 0, 1) := by decide +kernel
theorem dX12_init_143 : decode cX12_init 143 = .ok (.bipush 8, 2) := by decide +kernel
theorem dX12_init_145 : decode cX12_init 145 = .ok (.newarray .int, 2) := by decide +kernel
theorem dX12_init_147 : decode cX12_init 147 = .ok (.putfield 63, 3) := by decide +kernel
theorem dX12_init_150 : decode cX12_init 150 = .ok (.aload_n 0, 1) := by decide +kernel
theorem dX12_init_151 : decode cX12_init 151 = .ok (.bipush 8, 2) := by decide +kernel
theorem dX12_init_153 : decode cX12_init 153 = .ok (.newarray .int, 2) := by decide +kernel
theorem dX12_init_155 : decode cX12_init 155 = .ok (.putfield 66, 3) := by decide +kernel
theorem dX12_init_158 : decode cX12_init 158 = .ok (.aload_n 0, 1) := by decide +kernel
theorem dX12_init_159 : decode cX12_init 159 = .ok (.iconst 3, 1) := by decide +kernel
theorem dX12_init_160 : decode cX12_init 160 = .ok (.putfield 69, 3) := by decide +kernel
theorem dX12_init_163 : decode cX12_init 163 = .ok (.aload_n 0, 1) := by decide +kernel
theorem dX12_init_164 : decode cX12_init 164 = .ok (.bipush 16, 2) := by decide +kernel
theorem dX12_init_166 : decode cX12_init 166 = .ok (.newarray .int, 2) := by decide +kernel
theorem dX12_init_168 : decode cX12_init 168 = .ok (.putfield 72, 3) := by decide +kernel
theorem dX12_init_171 : decode cX12_init 171 = .ok (.aload_n 0, 1) := by decide +kernel
theorem dX12_init_172 : decode cX12_init 172 = .ok (.sipush 7565, 3) := by decide +kernel
theorem dX12_init_175 : decode cX12_init 175 = .ok (.newarray .int, 2) := by decide +kernel
theorem dX12_init_177 : decode cX12_init 177 = .ok (.putfield 75, 3) := by decide +kernel
theorem dX12_init_180 : decode cX12_init 180 = .ok (.aload_n 0, 1) := by decide +kernel
theorem dX12_init_181 : decode cX12_init 181 = .ok (.bipush 8, 2) := by decide +kernel
theorem dX12_init_183 : decode cX12_init 183 = .ok (.newarray .int, 2) := by decide +kernel
theorem dX12_init_185 : decode cX12_init 185 = .ok (.putfield 78, 3) := by decide +kernel
theorem dX12_init_188 : decode cX12_init 188 = .ok (.aload_n 0, 1) := by decide +kernel
theorem dX12_init_189 : decode cX12_init 189 = .ok (.bipush 8, 2) := by decide +kernel
theorem dX12_init_191 : decode cX12_init 191 = .ok (.newarray .int, 2) := by decide +kernel
theorem dX12_init_193 : decode cX12_init 193 = .ok (.putfield 81, 3) := by decide +kernel
theorem dX12_init_196 : decode cX12_init 196 = .ok (.aload_n 0, 1) := by decide +kernel
theorem dX12_init_197 : decode cX12_init 197 = .ok (.bipush 8, 2) := by decide +kernel
theorem dX12_init_199 : decode cX12_init 199 = .ok (.newarray .int, 2) := by decide +kernel
theorem dX12_init_201 : decode cX12_init 201 = .ok (.putfield 84, 3) := by decide +kernel
theorem dX12_init_204 : decode cX12_init 204 = .ok (.aload_n 0, 1) := by decide +kernel
theorem dX12_init_205 : decode cX12_init 205 = .ok (.bipush 8, 2) := by decide +kernel
theorem dX12_init_207 : decode cX12_init 207 = .ok (.newarray .int, 2) := by decide +kernel
theorem dX12_init_209 : decode cX12_init 209 = .ok (.putfield 87, 3) := by decide +kernel
theorem dX12_init_212 : decode cX12_init 212 = .ok (.aload_n 0, 1) := by decide +kernel
theorem dX12_init_213 : decode cX12_init 213 = .ok (.bipush 16, 2) := by decide +kernel
theorem dX12_init_215 : decode cX12_init 215 = .ok (.newarray .int, 2) := by decide +kernel
theorem dX12_init_217 : decode cX12_init 217 = .ok (.putfield 90, 3) := by decide +kernel
theorem dX12_init_220 : decode cX12_init 220 = .ok (.aload_n 0, 1) := by decide +kernel
theorem dX12_init_221 : decode cX12_init 221 = .ok (.bipush 8, 2) := by decide +kernel
theorem dX12_init_223 : decode cX12_init 223 = .ok (.newarray .int, 2) := by decide +kernel
theorem dX12_init_225 : decode cX12_init 225 = .ok (.putfield 93, 3) := by decide +kernel
theorem dX12_init_228 : decode cX12_init 228 = .ok (.aload_n 0, 1) := by decide +kernel
theorem dX12_init_229 : decode cX12_init 229 = .ok (.bipush 8, 2) := by decide +kernel
theorem dX12_init_231 : decode cX12_init 231 = .ok (.newarray .int, 2) := by decide +kernel
theorem dX12_init_233 : decode cX12_init 233 = .ok (.putfield 96, 3) := by decide +kernel
theorem dX12_init_236 : decode cX12_init 236 = .ok (.aload_n 0, 1) := by decide +kernel
theorem dX12_init_237 : decode cX12_init 237 = .ok (.bipush 8, 2) := by decide +kernel
theorem dX12_init_239 : decode cX12_init 239 = .ok (.newarray .int, 2) := by decide +kernel
theorem dX12_init_241 : decode cX12_init 241 = .ok (.putfield 99, 3) := by decide +kernel
theorem dX12_init_244 : decode cX12_init 244 = .ok (.aload_n 0, 1) := by decide +kernel
theorem dX12_init_245 : decode cX12_init 245 = .ok (.bipush 8, 2) := by decide +kernel
theorem dX12_init_247 : decode cX12_init 247 = .ok (.newarray .int, 2) := by decide +kernel
theorem dX12_init_249 : decode cX12_init 249 = .ok (.putfield 102, 3) := by decide +kernel
theorem dX12_init_252 : decode cX12_init 252 = .ok (.aload_n 0, 1) := by decide +kernel
theorem dX12_init_253 : decode cX12_init 253 = .ok (.bipush 8, 2) := by decide +kernel
theorem dX12_init_255 : decode cX12_init 255 = .ok (.newarray .int, 2) := by decide +kernel
theorem dX12_init_257 : decode cX12_init 257 = .ok (.putfield 105, 3) := by decide +kernel
theorem dX12_init_260 : decode cX12_init 260 = .ok (.aload_n 0, 1) := by decide +kernel
theorem dX12_init_261 : decode cX12_init 261 = .ok (.bipush 8, 2) := by decide +kernel
theorem dX12_init_263 : decode cX12_init 263 = .ok (.newarray .int, 2) := by decide +kernel
theorem dX12_init_265 : decode cX12_init 265 = .ok (.putfield 108, 3) := by decide +kernel
theorem dX12_init_268 : decode cX12_init 268 = .ok (.aload_n 0, 1) := by decide +kernel
theorem dX12_init_269 : decode cX12_init 269 = .ok (.bipush 8, 2) := by decide +kernel
theorem dX12_init_271 : decode cX12_init 271 = .ok (.newarray .int, 2) := by decide +kernel
theorem dX12_init_273 : decode cX12_init 273 = .ok (.putfield 111, 3) := by decide +kernel
theorem dX12_init_276 : decode cX12_init 276 = .ok (.aload_n 0, 1) := by decide +kernel
theorem dX12_init_277 : decode cX12_init 277 = .ok (.bipush 8, 2) := by decide +kernel
theorem dX12_init_279 : decode cX12_init 279 = .ok (.newarray .int, 2) := by decide +kernel
theorem dX12_init_281 : decode cX12_init 281 = .ok (.putfield 114, 3) := by decide +kernel
theorem dX12_init_284 : decode cX12_init 284 = .ok (.aload_n 0, 1) := by decide +kernel
theorem dX12_init_285 : decode cX12_init 285 = .ok (.bipush 8, 2) := by decide +kernel
theorem dX12_init_287 : decode cX12_init 287 = .ok (.newarray .int, 2) := by decide +kernel
theorem dX12_init_289 : decode cX12_init 289 = .ok (.putfield 117, 3) := by decide +kernel
theorem dX12_init_292 : decode cX12_init 292 = .ok (.aload_n 0, 1) := by decide +kernel
theorem dX12_init_293 : decode cX12_init 293 = .ok (.bipush 9, 2) := by decide +kernel
theorem dX12_init_295 : decode cX12_init 295 = .ok (.newarray .int, 2) := by decide +kernel
theorem dX12_init_297 : decode cX12_init 297 = .ok (.putfield 120, 3) := by decide +kernel
theorem dX12_init_300 : decode cX12_init 300 = .ok (.aload_n 0, 1) := by decide +kernel
theorem dX12_init_301 : decode cX12_init 301 = .ok (.bipush 30, 2) := by decide +kernel
theorem dX12_init_303 : decode cX12_init 303 = .ok (.newarray .int, 2) := by decide +kernel
theorem dX12_init_305 : decode cX12_init 305 = .ok (.putfield 123, 3) := by decide +kernel
theorem dX12_init_308 : decode cX12_init 308 = .ok (.aload_n 0, 1) := by decide +kernel
theorem dX12_init_309 : decode cX12_init 309 = .ok (.bipush 30, 2) := by decide +kernel
theorem dX12_init_311 : decode cX12_init 311 = .ok (.newarray .int, 2) := by decide +kernel
theorem dX12_init_313 : decode cX12_init 313 = .ok (.putfield 126, 3) := by decide +kernel
theorem dX12_init_316 : decode cX12_init 316 = .ok (.aload_n 0, 1) := by decide +kernel
theorem dX12_init_317 : decode cX12_init 317 = .ok (.bipush 30, 2) := by decide +kernel
theorem dX12_init_319 : decode cX12_init 319 = .ok (.newarray .int, 2) := by decide +kernel
theorem dX12_init_321 : decode cX12_init 321 = .ok (.putfield 129, 3) := by decide +kernel
theorem dX12_init_324 : decode cX12_init 324 = .ok (.aload_n 0, 1) := by decide +kernel
theorem dX12_init_325 : decode cX12_init 325 = .ok (.bipush 30, 2) := by decide +kernel
theorem dX12_init_327 : decode cX12_init 327 = .ok (.newarray .boolean, 2) := by decide +kernel
theorem dX12_init_329 : decode cX12_init 329 = .ok (.putfield 132, 3) := by decide +kernel
theorem dX12_init_332 : decode cX12_init 332 = .ok (.aload_n 0, 1) := by decide +kernel
theorem dX12_init_333 : decode cX12_init 333 = .ok (.bipush 61, 2) := by decide +kernel
theorem dX12_init_335 : decode cX12_init 335 = .ok (.newarray .int, 2) := by decide +kernel
theorem dX12_init_337 : decode cX12_init 337 = .ok (.putfield 136, 3) := by decide +kernel
theorem dX12_init_340 : decode cX12_init 340 = .ok (.aload_n 0, 1) := by decide +kernel
theorem dX12_init_341 : decode cX12_init 341 = .ok (.bipush 61, 2) := by decide +kernel
theorem dX12_init_343 : decode cX12_init 343 = .ok (.newarray .boolean, 2) := by decide +kernel
theorem dX12_init_345 : decode cX12_init 345 = .ok (.putfield 139, 3) := by decide +kernel
theorem dX12_init_348 : decode cX12_init 348 = .ok (.aload_n 0, 1) := by decide +kernel
theorem dX12_init_349 : decode cX12_init 349 = .ok (.iconst 3, 1) := by decide +kernel
theorem dX12_init_350 : decode cX12_init 350 = .ok (.newarray .boolean, 2) := by decide +kernel
theorem dX12_init_352 : decode cX12_init 352 = .ok (.putfield 142, 3) := by decide +kernel
theorem dX12_init_355 : decode cX12_init 355 = .ok (.aload_n 0, 1) := by decide +kernel
theorem dX12_init_356 : decode cX12_init 356 = .ok (.sipush 22695, 3) := by decide +kernel
theorem dX12_init_359 : decode cX12_init 359 = .ok (.newarray .int, 2) := by decide +kernel
theorem dX12_init_361 : decode cX12_init 361 = .ok (.putfield 145, 3) := by decide +kernel
theorem dX12_init_364 : decode cX12_init 364 = .ok (.aload_n 0, 1) := by decide +kernel
theorem dX12_init_365 : decode cX12_init 365 = .ok (.iconst 3, 1) := by decide +kernel
theorem dX12_init_366 : decode cX12_init 366 = .ok (.newarray .int, 2) := by decide +kernel
theorem dX12_init_368 : decode cX12_init 368 = .ok (.putfield 148, 3) := by decide +kernel
theorem dX12_init_371 : decode cX12_init 371 = .ok (.return_, 1) := by decide +kernel
theorem dX12_feed_0 : decode cX12_feed 0 = .ok (.aload_n 0, 1) := by decide +kernel
theorem dX12_feed_1 : decode cX12_feed 1 = .ok (.getfield 151, 3) := by decide +kernel
theorem dX12_feed_4 : decode cX12_feed 4 = .ok (.bipush 20, 2) := by decide +kernel
theorem dX12_feed_6 : decode cX12_feed 6 = .ok (.iadd, 1) := by decide +kernel
theorem dX12_feed_7 : decode cX12_feed 7 = .ok (.sipush 1600, 3) := by decide +kernel
theorem dX12_feed_10 : decode cX12_feed 10 = .ok (.if_icmp .le 5, 3) := by decide +kernel
theorem dX12_feed_13 : decode cX12_feed 13 = .ok (.iconst (-1), 1) := by decide +kernel
theorem dX12_feed_14 : decode cX12_feed 14 = .ok (.ireturn, 1) := by decide +kernel
theorem dX12_feed_15 : decode cX12_feed 15 = .ok (.aload_n 0, 1) := by decide +kernel
theorem dX12_feed_16 : decode cX12_feed 16 = .ok (.iload_n 1, 1) := by decide +kernel
theorem dX12_feed_17 : decode cX12_feed 17 = .ok (.invokevirtual 154, 3) := by decide +kernel
theorem dX12_feed_20 : decode cX12_feed 20 = .ok (.aload_n 0, 1) := by decide +kernel
theorem dX12_feed_21 : decode cX12_feed 21 = .ok (.iload_n 2, 1) := by decide +kernel
theorem dX12_feed_22 : decode cX12_feed 22 = .ok (.invokevirtual 154, 3) := by decide +kernel
theorem dX12_feed_25 : decode cX12_feed 25 = .ok (.aload_n 0, 1) := by decide +kernel
theorem dX12_feed_26 : decode cX12_feed 26 = .ok (.iload_n 3, 1) := by decide +kernel
theorem dX12_feed_27 : decode cX12_feed 27 = .ok (.invokevirtual 154, 3) := by decide +kernel
theorem dX12_feed_30 : decode cX12_feed 30 = .ok (.aload_n 0, 1) := by decide +kernel
theorem dX12_feed_31 : decode cX12_feed 31 = .ok (.iload 4, 2) := by decide +kernel
theorem dX12_feed_33 : decode cX12_feed 33 = .ok (.invokevirtual 154, 3) := by decide +kernel
theorem dX12_feed_36 : decode cX12_feed 36 = .ok (.aload_n 0, 1) := by decide +kernel
theorem dX12_feed_37 : decode cX12_feed 37 = .ok (.iload 5, 2) := by decide +kernel
theorem dX12_feed_39 : decode cX12_feed 39 = .ok (.invokevirtual 154, 3) := by decide +kernel
theorem dX12_feed_42 : decode cX12_feed 42 = .ok (.aload_n 0, 1) := by decide +kernel
theorem dX12_feed_43 : decode cX12_feed 43 = .ok (.getfield 151, 3) := by decide +kernel
theorem dX12_feed_46 : decode cX12_feed 46 = .ok (.ireturn, 1) := by decide +kernel
theorem dX12_four_0 : decode cX12_four 0 = .ok (.bipush 24, 2) := by decide +kernel
theorem dX12_four_2 : decode cX12_four 2 = .ok (.istore_n 2, 1) := by decide +kernel
theorem dX12_four_3 : decode cX12_four 3 = .ok (.iload_n 2, 1) := by decide +kernel
theorem dX12_four_4 : decode cX12_four 4 = .ok (.ifCond .lt 35, 3) := by decide +kernel
theorem dX12_four_7 : decode cX12_four 7 = .ok (.aload_n 0, 1) := by decide +kernel
theorem dX12_four_8 : decode cX12_four 8 = .ok (.getfield 7, 3) := by decide +kernel
theorem dX12_four_11 : decode cX12_four 11 = .ok (.aload_n 0, 1) := by decide +kernel
theorem dX12_four_12 : decode cX12_four 12 = .ok (.getfield 151, 3) := by decide +kernel
theorem dX12_four_15 : decode cX12_four 15 = .ok (.iload_n 1, 1) := by decide +kernel
theorem dX12_four_16 : decode cX12_four 16 = .ok (.iload_n 2, 1) := by decide +kernel
theorem dX12_four_17 : decode cX12_four 17 = .ok (.ishr, 1) := by decide +kernel
theorem dX12_four_18 : decode cX12_four 18 = .ok (.sipush 255, 3) := by decide +kernel
theorem dX12_four_21 : decode cX12_four 21 = .ok (.iand, 1) := by decide +kernel
theorem dX12_four_22 : decode cX12_four 22 = .ok (.iastore, 1) := by decide +kernel
theorem dX12_four_23 : decode cX12_four 23 = .ok (.aload_n 0, 1) := by decide +kernel
theorem dX12_four_24 : decode cX12_four 24 = .ok (.dup, 1) := by decide +kernel
theorem dX12_four_25 : decode cX12_four 25 = .ok (.getfield 151, 3) := by decide +kernel
theorem dX12_four_28 : decode cX12_four 28 = .ok (.iconst 1, 1) := by decide +kernel
theorem dX12_four_29 : decode cX12_four 29 = .ok (.iadd, 1) := by decide +kernel
theorem dX12_four_30 : decode cX12_four 30 = .ok (.putfield 151, 3) := by decide +kernel
theorem dX12_four_33 : decode cX12_four 33 = .ok (.iinc 2 (-8), 3) := by decide +kernel
theorem dX12_four_36 : decode cX12_four 36 = .ok (.goto (-33), 3) := by decide +kernel
theorem dX12_four_39 : decode cX12_four 39 = .ok (.return_, 1) := by decide +kernel
theorem dX12_end_0 : decode cX12_end 0 = .ok (.iload_n 1, 1) := by decide +kernel
theorem dX12_end_1 : decode cX12_end 1 = .ok (.ifCond .lt 11, 3) := by decide +kernel
theorem dX12_end_4 : decode cX12_end 4 = .ok (.iload_n 1, 1) := by decide +kernel
theorem dX12_end_5 : decode cX12_end 5 = .ok (.aload_n 0, 1) := by decide +kernel
theorem dX12_end_6 : decode cX12_end 6 = .ok (.getfield 151, 3) := by decide +kernel
theorem dX12_end_9 : decode cX12_end 9 = .ok (.if_icmp .le 5, 3) := by decide +kernel
theorem dX12_end_12 : decode cX12_end 12 = .ok (.iconst (-1), 1) := by decide +kernel
theorem dX12_end_13 : decode cX12_end 13 = .ok (.ireturn, 1) := by decide +kernel
theorem dX12_end_14 : decode cX12_end 14 = .ok (.aload_n 0, 1) := by decide +kernel
theorem dX12_end_15 : decode cX12_end 15 = .ok (.iload_n 1, 1) := by decide +kernel
theorem dX12_end_16 : decode cX12_end 16 = .ok (.putfield 151, 3) := by decide +kernel
theorem dX12_end_19 : decode cX12_end 19 = .ok (.iload_n 1, 1) := by decide +kernel
theorem dX12_end_20 : decode cX12_end 20 = .ok (.ireturn, 1) := by decide +kernel
theorem dX12_here_0 : decode cX12_here 0 = .ok (.aload_n 0, 1) := by decide +kernel
theorem dX12_here_1 : decode cX12_here 1 = .ok (.getfield 158, 3) := by decide +kernel
theorem dX12_here_4 : decode cX12_here 4 = .ok (.iload_n 1, 1) := by decide +kernel
theorem dX12_here_5 : decode cX12_here 5 = .ok (.iadd, 1) := by decide +kernel
theorem dX12_here_6 : decode cX12_here 6 = .ok (.aload_n 0, 1) := by decide +kernel
theorem dX12_here_7 : decode cX12_here 7 = .ok (.getfield 161, 3) := by decide +kernel
theorem dX12_here_10 : decode cX12_here 10 = .ok (.if_icmp .ge 17, 3) := by decide +kernel
theorem dX12_here_13 : decode cX12_here 13 = .ok (.aload_n 0, 1) := by decide +kernel
theorem dX12_here_14 : decode cX12_here 14 = .ok (.getfield 7, 3) := by decide +kernel
theorem dX12_here_17 : decode cX12_here 17 = .ok (.aload_n 0, 1) := by decide +kernel
theorem dX12_here_18 : decode cX12_here 18 = .ok (.getfield 158, 3) := by decide +kernel
theorem dX12_here_21 : decode cX12_here 21 = .ok (.iload_n 1, 1) := by decide +kernel
theorem dX12_here_22 : decode cX12_here 22 = .ok (.iadd, 1) := by decide +kernel
theorem dX12_here_23 : decode cX12_here 23 = .ok (.iaload, 1) := by decide +kernel
theorem dX12_here_24 : decode cX12_here 24 = .ok (.goto 4, 3) := by decide +kernel
theorem dX12_here_27 : decode cX12_here 27 = .ok (.iconst (-1), 1) := by decide +kernel
theorem dX12_here_28 : decode cX12_here 28 = .ok (.ireturn, 1) := by decide +kernel
theorem dX12_isLetter_0 : decode cX12_isLetter 0 = .ok (.iload_n 0, 1) := by decide +kernel
theorem dX12_isLetter_1 : decode cX12_isLetter 1 = .ok (.bipush 97, 2) := by decide +kernel
theorem dX12_isLetter_3 : decode cX12_isLetter 3 = .ok (.if_icmp .lt 13, 3) := by decide +kernel
theorem dX12_isLetter_6 : decode cX12_isLetter 6 = .ok (.iload_n 0, 1) := by decide +kernel
theorem dX12_isLetter_7 : decode cX12_isLetter 7 = .ok (.bipush 122, 2) := by decide +kernel
theorem dX12_isLetter_9 : decode cX12_isLetter 9 = .ok (.if_icmp .gt 7, 3) := by decide +kernel
theorem dX12_isLetter_12 : decode cX12_isLetter 12 = .ok (.iconst 1, 1) := by decide +kernel
theorem dX12_isLetter_13 : decode cX12_isLetter 13 = .ok (.goto 4, 3) := by decide +kernel
theorem dX12_isLetter_16 : decode cX12_isLetter 16 = .ok (.iconst 0, 1) := by decide +kernel
theorem dX12_isLetter_17 : decode cX12_isLetter 17 = .ok (.ireturn, 1) := by decide +kernel
theorem dX12_isDigit_0 : decode cX12_isDigit 0 = .ok (.iload_n 0, 1) := by decide +kernel
theorem dX12_isDigit_1 : decode cX12_isDigit 1 = .ok (.bipush 48, 2) := by decide +kernel
theorem dX12_isDigit_3 : decode cX12_isDigit 3 = .ok (.if_icmp .lt 13, 3) := by decide +kernel
theorem dX12_isDigit_6 : decode cX12_isDigit 6 = .ok (.iload_n 0, 1) := by decide +kernel
theorem dX12_isDigit_7 : decode cX12_isDigit 7 = .ok (.bipush 57, 2) := by decide +kernel
theorem dX12_isDigit_9 : decode cX12_isDigit 9 = .ok (.if_icmp .gt 7, 3) := by decide +kernel
theorem dX12_isDigit_12 : decode cX12_isDigit 12 = .ok (.iconst 1, 1) := by decide +kernel
theorem dX12_isDigit_13 : decode cX12_isDigit 13 = .ok (.goto 4, 3) := by decide +kernel
theorem dX12_isDigit_16 : decode cX12_isDigit 16 = .ok (.iconst 0, 1) := by decide +kernel
theorem dX12_isDigit_17 : decode cX12_isDigit 17 = .ok (.ireturn, 1) := by decide +kernel
theorem dX12_isSign_0 : decode cX12_isSign 0 = .ok (.iload_n 0, 1) := by decide +kernel
theorem dX12_isSign_1 : decode cX12_isSign 1 = .ok (.bipush 59, 2) := by decide +kernel
theorem dX12_isSign_3 : decode cX12_isSign 3 = .ok (.if_icmp .eq 63, 3) := by decide +kernel
theorem dX12_isSign_6 : decode cX12_isSign 6 = .ok (.iload_n 0, 1) := by decide +kernel
theorem dX12_isSign_7 : decode cX12_isSign 7 = .ok (.bipush 40, 2) := by decide +kernel
theorem dX12_isSign_9 : decode cX12_isSign 9 = .ok (.if_icmp .eq 57, 3) := by decide +kernel
theorem dX12_isSign_12 : decode cX12_isSign 12 = .ok (.iload_n 0, 1) := by decide +kernel
theorem dX12_isSign_13 : decode cX12_isSign 13 = .ok (.bipush 41, 2) := by decide +kernel
theorem dX12_isSign_15 : decode cX12_isSign 15 = .ok (.if_icmp .eq 51, 3) := by decide +kernel
theorem dX12_isSign_18 : decode cX12_isSign 18 = .ok (.iload_n 0, 1) := by decide +kernel
theorem dX12_isSign_19 : decode cX12_isSign 19 = .ok (.bipush 60, 2) := by decide +kernel
theorem dX12_isSign_21 : decode cX12_isSign 21 = .ok (.if_icmp .eq 45, 3) := by decide +kernel
theorem dX12_isSign_24 : decode cX12_isSign 24 = .ok (.iload_n 0, 1) := by decide +kernel
theorem dX12_isSign_25 : decode cX12_isSign 25 = .ok (.bipush 62, 2) := by decide +kernel
theorem dX12_isSign_27 : decode cX12_isSign 27 = .ok (.if_icmp .eq 39, 3) := by decide +kernel
theorem dX12_isSign_30 : decode cX12_isSign 30 = .ok (.iload_n 0, 1) := by decide +kernel
theorem dX12_isSign_31 : decode cX12_isSign 31 = .ok (.bipush 61, 2) := by decide +kernel
theorem dX12_isSign_33 : decode cX12_isSign 33 = .ok (.if_icmp .eq 33, 3) := by decide +kernel
theorem dX12_isSign_36 : decode cX12_isSign 36 = .ok (.iload_n 0, 1) := by decide +kernel
theorem dX12_isSign_37 : decode cX12_isSign 37 = .ok (.bipush 43, 2) := by decide +kernel
theorem dX12_isSign_39 : decode cX12_isSign 39 = .ok (.if_icmp .eq 27, 3) := by decide +kernel
theorem dX12_isSign_42 : decode cX12_isSign 42 = .ok (.iload_n 0, 1) := by decide +kernel
theorem dX12_isSign_43 : decode cX12_isSign 43 = .ok (.bipush 45, 2) := by decide +kernel
theorem dX12_isSign_45 : decode cX12_isSign 45 = .ok (.if_icmp .eq 21, 3) := by decide +kernel
theorem dX12_isSign_48 : decode cX12_isSign 48 = .ok (.iload_n 0, 1) := by decide +kernel
theorem dX12_isSign_49 : decode cX12_isSign 49 = .ok (.bipush 42, 2) := by decide +kernel
theorem dX12_isSign_51 : decode cX12_isSign 51 = .ok (.if_icmp .eq 15, 3) := by decide +kernel
theorem dX12_isSign_54 : decode cX12_isSign 54 = .ok (.iload_n 0, 1) := by decide +kernel
theorem dX12_isSign_55 : decode cX12_isSign 55 = .ok (.bipush 47, 2) := by decide +kernel
theorem dX12_isSign_57 : decode cX12_isSign 57 = .ok (.if_icmp .eq 9, 3) := by decide +kernel
theorem dX12_isSign_60 : decode cX12_isSign 60 = .ok (.iload_n 0, 1) := by decide +kernel
theorem dX12_isSign_61 : decode cX12_isSign 61 = .ok (.bipush 37, 2) := by decide +kernel
theorem dX12_isSign_63 : decode cX12_isSign 63 = .ok (.if_icmp .ne 7, 3) := by decide +kernel
theorem dX12_isSign_66 : decode cX12_isSign 66 = .ok (.iconst 1, 1) := by decide +kernel
theorem dX12_isSign_67 : decode cX12_isSign 67 = .ok (.goto 4, 3) := by decide +kernel
theorem dX12_isSign_70 : decode cX12_isSign 70 = .ok (.iconst 0, 1) := by decide +kernel
theorem dX12_isSign_71 : decode cX12_isSign 71 = .ok (.ireturn, 1) := by decide +kernel
theorem dX12_token_0 : decode cX12_token 0 = .ok (.aload_n 0, 1) := by decide +kernel
theorem dX12_token_1 : decode cX12_token 1 = .ok (.iconst 0, 1) := by decide +kernel
theorem dX12_token_2 : decode cX12_token 2 = .ok (.invokevirtual 164, 3) := by decide +kernel
theorem dX12_token_5 : decode cX12_token 5 = .ok (.bipush 32, 2) := by decide +kernel
theorem dX12_token_7 : decode cX12_token 7 = .ok (.if_icmp .eq 13, 3) := by decide +kernel
theorem dX12_token_10 : decode cX12_token 10 = .ok (.aload_n 0, 1) := by decide +kernel
theorem dX12_token_11 : decode cX12_token 11 = .ok (.iconst 0, 1) := by decide +kernel
theorem dX12_token_12 : decode cX12_token 12 = .ok (.invokevirtual 164, 3) := by decide +kernel
theorem dX12_token_15 : decode cX12_token 15 = .ok (.bipush 10, 2) := by decide +kernel
theorem dX12_token_17 : decode cX12_token 17 = .ok (.if_icmp .ne 16, 3) := by decide +kernel
theorem dX12_token_20 : decode cX12_token 20 = .ok (.aload_n 0, 1) := by decide +kernel
theorem dX12_token_21 : decode cX12_token 21 = .ok (.dup, 1) := by decide +kernel
theorem dX12_token_22 : decode cX12_token 22 = .ok (.getfield 158, 3) := by decide +kernel
theorem dX12_token_25 : decode cX12_token 25 = .ok (.iconst 1, 1) := by decide +kernel
theorem dX12_token_26 : decode cX12_token 26 = .ok (.iadd, 1) := by decide +kernel
theorem dX12_token_27 : decode cX12_token 27 = .ok (.putfield 158, 3) := by decide +kernel
theorem dX12_token_30 : decode cX12_token 30 = .ok (.goto (-30), 3) := by decide +kernel
theorem dX12_token_33 : decode cX12_token 33 = .ok (.aload_n 0, 1) := by decide +kernel
theorem dX12_token_34 : decode cX12_token 34 = .ok (.aload_n 0, 1) := by decide +kernel
theorem dX12_token_35 : decode cX12_token 35 = .ok (.getfield 158, 3) := by decide +kernel
theorem dX12_token_38 : decode cX12_token 38 = .ok (.putfield 168, 3) := by decide +kernel
theorem dX12_token_41 : decode cX12_token 41 = .ok (.aload_n 0, 1) := by decide +kernel
theorem dX12_token_42 : decode cX12_token 42 = .ok (.iconst 0, 1) := by decide +kernel
theorem dX12_token_43 : decode cX12_token 43 = .ok (.invokevirtual 164, 3) := by decide +kernel
theorem dX12_token_46 : decode cX12_token 46 = .ok (.istore_n 1, 1) := by decide +kernel
theorem dX12_token_47 : decode cX12_token 47 = .ok (.iconst 0, 1) := by decide +kernel
theorem dX12_token_48 : decode cX12_token 48 = .ok (.istore_n 2, 1) := by decide +kernel
theorem dX12_token_49 : decode cX12_token 49 = .ok (.aload_n 0, 1) := by decide +kernel
theorem dX12_token_50 : decode cX12_token 50 = .ok (.lconst 0, 1) := by decide +kernel
theorem dX12_token_51 : decode cX12_token 51 = .ok (.putfield 171, 3) := by decide +kernel
theorem dX12_token_54 : decode cX12_token 54 = .ok (.aload_n 0, 1) := by decide +kernel
theorem dX12_token_55 : decode cX12_token 55 = .ok (.iconst 0, 1) := by decide +kernel
theorem dX12_token_56 : decode cX12_token 56 = .ok (.putfield 175, 3) := by decide +kernel
theorem dX12_token_59 : decode cX12_token 59 = .ok (.iload_n 1, 1) := by decide +kernel
theorem dX12_token_60 : decode cX12_token 60 = .ok (.ifCond .ge 11, 3) := by decide +kernel
theorem dX12_token_63 : decode cX12_token 63 = .ok (.aload_n 0, 1) := by decide +kernel
theorem dX12_token_64 : decode cX12_token 64 = .ok (.iconst 0, 1) := by decide +kernel
theorem dX12_token_65 : decode cX12_token 65 = .ok (.putfield 178, 3) := by decide +kernel
theorem dX12_token_68 : decode cX12_token 68 = .ok (.goto 164, 3) := by decide +kernel
theorem dX12_token_71 : decode cX12_token 71 = .ok (.iload_n 1, 1) := by decide +kernel
theorem dX12_token_72 : decode cX12_token 72 = .ok (.invokestatic 181, 3) := by decide +kernel
theorem dX12_token_75 : decode cX12_token 75 = .ok (.ifCond .eq 62, 3) := by decide +kernel
theorem dX12_token_78 : decode cX12_token 78 = .ok (.aload_n 0, 1) := by decide +kernel
theorem dX12_token_79 : decode cX12_token 79 = .ok (.iload_n 2, 1) := by decide +kernel
theorem dX12_token_80 : decode cX12_token 80 = .ok (.invokevirtual 164, 3) := by decide +kernel
theorem dX12_token_83 : decode cX12_token 83 = .ok (.invokestatic 181, 3) := by decide +kernel
theorem dX12_token_86 : decode cX12_token 86 = .ok (.ifCond .eq 33, 3) := by decide +kernel
theorem dX12_token_89 : decode cX12_token 89 = .ok (.iload_n 2, 1) := by decide +kernel
theorem dX12_token_90 : decode cX12_token 90 = .ok (.bipush 8, 2) := by decide +kernel
theorem dX12_token_92 : decode cX12_token 92 = .ok (.if_icmp .ge 21, 3) := by decide +kernel
theorem dX12_token_95 : decode cX12_token 95 = .ok (.aload_n 0, 1) := by decide +kernel
theorem dX12_token_96 : decode cX12_token 96 = .ok (.aload_n 0, 1) := by decide +kernel
theorem dX12_token_97 : decode cX12_token 97 = .ok (.getfield 171, 3) := by decide +kernel
theorem dX12_token_100 : decode cX12_token 100 = .ok (.bipush 8, 2) := by decide +kernel
theorem dX12_token_102 : decode cX12_token 102 = .ok (.lshl, 1) := by decide +kernel
theorem dX12_token_103 : decode cX12_token 103 = .ok (.aload_n 0, 1) := by decide +kernel
theorem dX12_token_104 : decode cX12_token 104 = .ok (.iload_n 2, 1) := by decide +kernel
theorem dX12_token_105 : decode cX12_token 105 = .ok (.invokevirtual 164, 3) := by decide +kernel
theorem dX12_token_108 : decode cX12_token 108 = .ok (.i2l, 1) := by decide +kernel
theorem dX12_token_109 : decode cX12_token 109 = .ok (.lor, 1) := by decide +kernel
theorem dX12_token_110 : decode cX12_token 110 = .ok (.putfield 171, 3) := by decide +kernel
theorem dX12_token_113 : decode cX12_token 113 = .ok (.iinc 2 1, 3) := by decide +kernel
theorem dX12_token_116 : decode cX12_token 116 = .ok (.goto (-38), 3) := by decide +kernel
theorem dX12_token_119 : decode cX12_token 119 = .ok (.aload_n 0, 1) := by decide +kernel
theorem dX12_token_120 : decode cX12_token 120 = .ok (.iload_n 2, 1) := by decide +kernel
theorem dX12_token_121 : decode cX12_token 121 = .ok (.bipush 8, 2) := by decide +kernel
theorem dX12_token_123 : decode cX12_token 123 = .ok (.if_icmp .le 7, 3) := by decide +kernel
theorem dX12_token_126 : decode cX12_token 126 = .ok (.iconst 3, 1) := by decide +kernel
theorem dX12_token_127 : decode cX12_token 127 = .ok (.goto 4, 3) := by decide +kernel
theorem dX12_token_130 : decode cX12_token 130 = .ok (.iconst 1, 1) := by decide +kernel
theorem dX12_token_131 : decode cX12_token 131 = .ok (.putfield 178, 3) := by decide +kernel
theorem dX12_token_134 : decode cX12_token 134 = .ok (.goto 98, 3) := by decide +kernel
theorem dX12_token_137 : decode cX12_token 137 = .ok (.iload_n 1, 1) := by decide +kernel
theorem dX12_token_138 : decode cX12_token 138 = .ok (.invokestatic 185, 3) := by decide +kernel
theorem dX12_token_141 : decode cX12_token 141 = .ok (.ifCond .eq 73, 3) := by decide +kernel
theorem dX12_token_144 : decode cX12_token 144 = .ok (.aload_n 0, 1) := by decide +kernel
theorem dX12_token_145 : decode cX12_token 145 = .ok (.iload_n 2, 1) := by decide +kernel
theorem dX12_token_146 : decode cX12_token 146 = .ok (.invokevirtual 164, 3) := by decide +kernel
theorem dX12_token_149 : decode cX12_token 149 = .ok (.invokestatic 185, 3) := by decide +kernel
theorem dX12_token_152 : decode cX12_token 152 = .ok (.ifCond .eq 34, 3) := by decide +kernel
theorem dX12_token_155 : decode cX12_token 155 = .ok (.iload_n 2, 1) := by decide +kernel
theorem dX12_token_156 : decode cX12_token 156 = .ok (.iconst 4, 1) := by decide +kernel
theorem dX12_token_157 : decode cX12_token 157 = .ok (.if_icmp .ge 23, 3) := by decide +kernel
theorem dX12_token_160 : decode cX12_token 160 = .ok (.aload_n 0, 1) := by decide +kernel
theorem dX12_token_161 : decode cX12_token 161 = .ok (.bipush 10, 2) := by decide +kernel
theorem dX12_token_163 : decode cX12_token 163 = .ok (.aload_n 0, 1) := by decide +kernel
theorem dX12_token_164 : decode cX12_token 164 = .ok (.getfield 175, 3) := by decide +kernel
theorem dX12_token_167 : decode cX12_token 167 = .ok (.imul, 1) := by decide +kernel
theorem dX12_token_168 : decode cX12_token 168 = .ok (.aload_n 0, 1) := by decide +kernel
theorem dX12_token_169 : decode cX12_token 169 = .ok (.iload_n 2, 1) := by decide +kernel
theorem dX12_token_170 : decode cX12_token 170 = .ok (.invokevirtual 164, 3) := by decide +kernel
theorem dX12_token_173 : decode cX12_token 173 = .ok (.iadd, 1) := by decide +kernel
theorem dX12_token_174 : decode cX12_token 174 = .ok (.bipush 48, 2) := by decide +kernel
theorem dX12_token_176 : decode cX12_token 176 = .ok (.isub, 1) := by decide +kernel
theorem dX12_token_177 : decode cX12_token 177 = .ok (.putfield 175, 3) := by decide +kernel
theorem dX12_token_180 : decode cX12_token 180 = .ok (.iinc 2 1, 3) := by decide +kernel
theorem dX12_token_183 : decode cX12_token 183 = .ok (.goto (-39), 3) := by decide +kernel
theorem dX12_token_186 : decode cX12_token 186 = .ok (.aload_n 0, 1) := by decide +kernel
theorem dX12_token_187 : decode cX12_token 187 = .ok (.iload_n 2, 1) := by decide +kernel
theorem dX12_token_188 : decode cX12_token 188 = .ok (.iconst 4, 1) := by decide +kernel
theorem dX12_token_189 : decode cX12_token 189 = .ok (.if_icmp .gt 14, 3) := by decide +kernel
theorem dX12_token_192 : decode cX12_token 192 = .ok (.aload_n 0, 1) := by decide +kernel
theorem dX12_token_193 : decode cX12_token 193 = .ok (.iload_n 2, 1) := by decide +kernel
theorem dX12_token_194 : decode cX12_token 194 = .ok (.invokevirtual 164, 3) := by decide +kernel
theorem dX12_token_197 : decode cX12_token 197 = .ok (.invokestatic 181, 3) := by decide +kernel
theorem dX12_token_200 : decode cX12_token 200 = .ok (.ifCond .eq 7, 3) := by decide +kernel
theorem dX12_token_203 : decode cX12_token 203 = .ok (.iconst 3, 1) := by decide +kernel
theorem dX12_token_204 : decode cX12_token 204 = .ok (.goto 4, 3) := by decide +kernel
theorem dX12_token_207 : decode cX12_token 207 = .ok (.iconst 2, 1) := by decide +kernel
theorem dX12_token_208 : decode cX12_token 208 = .ok (.putfield 178, 3) := by decide +kernel
theorem dX12_token_211 : decode cX12_token 211 = .ok (.goto 21, 3) := by decide +kernel
theorem dX12_token_214 : decode cX12_token 214 = .ok (.iconst 1, 1) := by decide +kernel
theorem dX12_token_215 : decode cX12_token 215 = .ok (.istore_n 2, 1) := by decide +kernel
theorem dX12_token_216 : decode cX12_token 216 = .ok (.aload_n 0, 1) := by decide +kernel
theorem dX12_token_217 : decode cX12_token 217 = .ok (.iload_n 1, 1) := by decide +kernel
theorem dX12_token_218 : decode cX12_token 218 = .ok (.invokestatic 188, 3) := by decide +kernel
theorem dX12_token_221 : decode cX12_token 221 = .ok (.ifCond .eq 7, 3) := by decide +kernel
theorem dX12_token_224 : decode cX12_token 224 = .ok (.iload_n 1, 1) := by decide +kernel
theorem dX12_token_225 : decode cX12_token 225 = .ok (.goto 4, 3) := by decide +kernel
theorem dX12_token_228 : decode cX12_token 228 = .ok (.iconst 3, 1) := by decide +kernel
theorem dX12_token_229 : decode cX12_token 229 = .ok (.putfield 178, 3) := by decide +kernel
theorem dX12_token_232 : decode cX12_token 232 = .ok (.aload_n 0, 1) := by decide +kernel
theorem dX12_token_233 : decode cX12_token 233 = .ok (.getfield 178, 3) := by decide +kernel
theorem dX12_token_236 : decode cX12_token 236 = .ok (.iconst 3, 1) := by decide +kernel
theorem dX12_token_237 : decode cX12_token 237 = .ok (.if_icmp .eq 13, 3) := by decide +kernel
theorem dX12_token_240 : decode cX12_token 240 = .ok (.aload_n 0, 1) := by decide +kernel
theorem dX12_token_241 : decode cX12_token 241 = .ok (.dup, 1) := by decide +kernel
theorem dX12_token_242 : decode cX12_token 242 = .ok (.getfield 158, 3) := by decide +kernel
theorem dX12_token_245 : decode cX12_token 245 = .ok (.iload_n 2, 1) := by decide +kernel
theorem dX12_token_246 : decode cX12_token 246 = .ok (.iadd, 1) := by decide +kernel
theorem dX12_token_247 : decode cX12_token 247 = .ok (.putfield 158, 3) := by decide +kernel
theorem dX12_token_250 : decode cX12_token 250 = .ok (.return_, 1) := by decide +kernel
theorem dX12_wrong_0 : decode cX12_wrong 0 = .ok (.aload_n 0, 1) := by decide +kernel
theorem dX12_wrong_1 : decode cX12_wrong 1 = .ok (.getfield 191, 3) := by decide +kernel
theorem dX12_wrong_4 : decode cX12_wrong 4 = .ok (.ifCond .le 4, 3) := by decide +kernel
theorem dX12_wrong_7 : decode cX12_wrong 7 = .ok (.return_, 1) := by decide +kernel
theorem dX12_wrong_8 : decode cX12_wrong 8 = .ok (.aload_n 0, 1) := by decide +kernel
theorem dX12_wrong_9 : decode cX12_wrong 9 = .ok (.aload_n 0, 1) := by decide +kernel
theorem dX12_wrong_10 : decode cX12_wrong 10 = .ok (.getfield 178, 3) := by decide +kernel
theorem dX12_wrong_13 : decode cX12_wrong 13 = .ok (.iconst 3, 1) := by decide +kernel
theorem dX12_wrong_14 : decode cX12_wrong 14 = .ok (.if_icmp .ne 7, 3) := by decide +kernel
theorem dX12_wrong_17 : decode cX12_wrong 17 = .ok (.iconst 1, 1) := by decide +kernel
theorem dX12_wrong_18 : decode cX12_wrong 18 = .ok (.goto 4, 3) := by decide +kernel
theorem dX12_wrong_21 : decode cX12_wrong 21 = .ok (.iload_n 1, 1) := by decide +kernel
theorem dX12_wrong_22 : decode cX12_wrong 22 = .ok (.putfield 191, 3) := by decide +kernel
theorem dX12_wrong_25 : decode cX12_wrong 25 = .ok (.aload_n 0, 1) := by decide +kernel
theorem dX12_wrong_26 : decode cX12_wrong 26 = .ok (.aload_n 0, 1) := by decide +kernel
theorem dX12_wrong_27 : decode cX12_wrong 27 = .ok (.getfield 168, 3) := by decide +kernel
theorem dX12_wrong_30 : decode cX12_wrong 30 = .ok (.putfield 13, 3) := by decide +kernel
theorem dX12_wrong_33 : decode cX12_wrong 33 = .ok (.return_, 1) := by decide +kernel
theorem dX12_isWord_0 : decode cX12_isWord 0 = .ok (.aload_n 0, 1) := by decide +kernel
theorem dX12_isWord_1 : decode cX12_isWord 1 = .ok (.getfield 178, 3) := by decide +kernel
theorem dX12_isWord_4 : decode cX12_isWord 4 = .ok (.iconst 1, 1) := by decide +kernel
theorem dX12_isWord_5 : decode cX12_isWord 5 = .ok (.if_icmp .ne 16, 3) := by decide +kernel
theorem dX12_isWord_8 : decode cX12_isWord 8 = .ok (.aload_n 0, 1) := by decide +kernel
theorem dX12_isWord_9 : decode cX12_isWord 9 = .ok (.getfield 171, 3) := by decide +kernel
theorem dX12_isWord_12 : decode cX12_isWord 12 = .ok (.lload_n 1, 1) := by decide +kernel
theorem dX12_isWord_13 : decode cX12_isWord 13 = .ok (.lcmp, 1) := by decide +kernel
theorem dX12_isWord_14 : decode cX12_isWord 14 = .ok (.ifCond .ne 7, 3) := by decide +kernel
theorem dX12_isWord_17 : decode cX12_isWord 17 = .ok (.iconst 1, 1) := by decide +kernel
theorem dX12_isWord_18 : decode cX12_isWord 18 = .ok (.goto 4, 3) := by decide +kernel
theorem dX12_isWord_21 : decode cX12_isWord 21 = .ok (.iconst 0, 1) := by decide +kernel
theorem dX12_isWord_22 : decode cX12_isWord 22 = .ok (.ireturn, 1) := by decide +kernel
theorem dX12_isOwn_0 : decode cX12_isOwn 0 = .ok (.aload_n 0, 1) := by decide +kernel
theorem dX12_isOwn_1 : decode cX12_isOwn 1 = .ok (.getfield 171, 3) := by decide +kernel
theorem dX12_isOwn_4 : decode cX12_isOwn 4 = .ok (.ldc2_w 194, 3) := by decide +kernel
theorem dX12_isOwn_7 : decode cX12_isOwn 7 = .ok (.lcmp, 1) := by decide +kernel
theorem dX12_isOwn_8 : decode cX12_isOwn 8 = .ok (.ifCond .eq 146, 3) := by decide +kernel
theorem dX12_isOwn_11 : decode cX12_isOwn 11 = .ok (.aload_n 0, 1) := by decide +kernel
theorem dX12_isOwn_12 : decode cX12_isOwn 12 = .ok (.getfield 171, 3) := by decide +kernel
theorem dX12_isOwn_15 : decode cX12_isOwn 15 = .ok (.ldc2_w 196, 3) := by decide +kernel
theorem dX12_isOwn_18 : decode cX12_isOwn 18 = .ok (.lcmp, 1) := by decide +kernel
theorem dX12_isOwn_19 : decode cX12_isOwn 19 = .ok (.ifCond .eq 135, 3) := by decide +kernel
theorem dX12_isOwn_22 : decode cX12_isOwn 22 = .ok (.aload_n 0, 1) := by decide +kernel
theorem dX12_isOwn_23 : decode cX12_isOwn 23 = .ok (.getfield 171, 3) := by decide +kernel
theorem dX12_isOwn_26 : decode cX12_isOwn 26 = .ok (.ldc2_w 198, 3) := by decide +kernel
theorem dX12_isOwn_29 : decode cX12_isOwn 29 = .ok (.lcmp, 1) := by decide +kernel
theorem dX12_isOwn_30 : decode cX12_isOwn 30 = .ok (.ifCond .eq 124, 3) := by decide +kernel
theorem dX12_isOwn_33 : decode cX12_isOwn 33 = .ok (.aload_n 0, 1) := by decide +kernel
theorem dX12_isOwn_34 : decode cX12_isOwn 34 = .ok (.getfield 171, 3) := by decide +kernel
theorem dX12_isOwn_37 : decode cX12_isOwn 37 = .ok (.ldc2_w 200, 3) := by decide +kernel
theorem dX12_isOwn_40 : decode cX12_isOwn 40 = .ok (.lcmp, 1) := by decide +kernel
theorem dX12_isOwn_41 : decode cX12_isOwn 41 = .ok (.ifCond .eq 113, 3) := by decide +kernel
theorem dX12_isOwn_44 : decode cX12_isOwn 44 = .ok (.aload_n 0, 1) := by decide +kernel
theorem dX12_isOwn_45 : decode cX12_isOwn 45 = .ok (.getfield 171, 3) := by decide +kernel
theorem dX12_isOwn_48 : decode cX12_isOwn 48 = .ok (.ldc2_w 202, 3) := by decide +kernel
theorem dX12_isOwn_51 : decode cX12_isOwn 51 = .ok (.lcmp, 1) := by decide +kernel
theorem dX12_isOwn_52 : decode cX12_isOwn 52 = .ok (.ifCond .eq 102, 3) := by decide +kernel
theorem dX12_isOwn_55 : decode cX12_isOwn 55 = .ok (.aload_n 0, 1) := by decide +kernel
theorem dX12_isOwn_56 : decode cX12_isOwn 56 = .ok (.getfield 171, 3) := by decide +kernel
theorem dX12_isOwn_59 : decode cX12_isOwn 59 = .ok (.ldc2_w 204, 3) := by decide +kernel
theorem dX12_isOwn_62 : decode cX12_isOwn 62 = .ok (.lcmp, 1) := by decide +kernel
theorem dX12_isOwn_63 : decode cX12_isOwn 63 = .ok (.ifCond .eq 91, 3) := by decide +kernel
theorem dX12_isOwn_66 : decode cX12_isOwn 66 = .ok (.aload_n 0, 1) := by decide +kernel
theorem dX12_isOwn_67 : decode cX12_isOwn 67 = .ok (.getfield 171, 3) := by decide +kernel
theorem dX12_isOwn_70 : decode cX12_isOwn 70 = .ok (.ldc2_w 206, 3) := by decide +kernel
theorem dX12_isOwn_73 : decode cX12_isOwn 73 = .ok (.lcmp, 1) := by decide +kernel
theorem dX12_isOwn_74 : decode cX12_isOwn 74 = .ok (.ifCond .eq 80, 3) := by decide +kernel
theorem dX12_isOwn_77 : decode cX12_isOwn 77 = .ok (.aload_n 0, 1) := by decide +kernel
theorem dX12_isOwn_78 : decode cX12_isOwn 78 = .ok (.getfield 171, 3) := by decide +kernel
theorem dX12_isOwn_81 : decode cX12_isOwn 81 = .ok (.ldc2_w 208, 3) := by decide +kernel
theorem dX12_isOwn_84 : decode cX12_isOwn 84 = .ok (.lcmp, 1) := by decide +kernel
theorem dX12_isOwn_85 : decode cX12_isOwn 85 = .ok (.ifCond .eq 69, 3) := by decide +kernel
theorem dX12_isOwn_88 : decode cX12_isOwn 88 = .ok (.aload_n 0, 1) := by decide +kernel
theorem dX12_isOwn_89 : decode cX12_isOwn 89 = .ok (.getfield 171, 3) := by decide +kernel
theorem dX12_isOwn_92 : decode cX12_isOwn 92 = .ok (.ldc2_w 210, 3) := by decide +kernel
theorem dX12_isOwn_95 : decode cX12_isOwn 95 = .ok (.lcmp, 1) := by decide +kernel
theorem dX12_isOwn_96 : decode cX12_isOwn 96 = .ok (.ifCond .eq 58, 3) := by decide +kernel
theorem dX12_isOwn_99 : decode cX12_isOwn 99 = .ok (.aload_n 0, 1) := by decide +kernel
theorem dX12_isOwn_100 : decode cX12_isOwn 100 = .ok (.getfield 171, 3) := by decide +kernel
theorem dX12_isOwn_103 : decode cX12_isOwn 103 = .ok (.ldc2_w 212, 3) := by decide +kernel
theorem dX12_isOwn_106 : decode cX12_isOwn 106 = .ok (.lcmp, 1) := by decide +kernel
theorem dX12_isOwn_107 : decode cX12_isOwn 107 = .ok (.ifCond .eq 47, 3) := by decide +kernel
theorem dX12_isOwn_110 : decode cX12_isOwn 110 = .ok (.aload_n 0, 1) := by decide +kernel
theorem dX12_isOwn_111 : decode cX12_isOwn 111 = .ok (.getfield 171, 3) := by decide +kernel
theorem dX12_isOwn_114 : decode cX12_isOwn 114 = .ok (.ldc2_w 214, 3) := by decide +kernel
theorem dX12_isOwn_117 : decode cX12_isOwn 117 = .ok (.lcmp, 1) := by decide +kernel
theorem dX12_isOwn_118 : decode cX12_isOwn 118 = .ok (.ifCond .eq 36, 3) := by decide +kernel
theorem dX12_isOwn_121 : decode cX12_isOwn 121 = .ok (.aload_n 0, 1) := by decide +kernel
theorem dX12_isOwn_122 : decode cX12_isOwn 122 = .ok (.getfield 171, 3) := by decide +kernel
theorem dX12_isOwn_125 : decode cX12_isOwn 125 = .ok (.ldc2_w 216, 3) := by decide +kernel
theorem dX12_isOwn_128 : decode cX12_isOwn 128 = .ok (.lcmp, 1) := by decide +kernel
theorem dX12_isOwn_129 : decode cX12_isOwn 129 = .ok (.ifCond .eq 25, 3) := by decide +kernel
theorem dX12_isOwn_132 : decode cX12_isOwn 132 = .ok (.aload_n 0, 1) := by decide +kernel
theorem dX12_isOwn_133 : decode cX12_isOwn 133 = .ok (.getfield 171, 3) := by decide +kernel
theorem dX12_isOwn_136 : decode cX12_isOwn 136 = .ok (.ldc2_w 218, 3) := by decide +kernel
theorem dX12_isOwn_139 : decode cX12_isOwn 139 = .ok (.lcmp, 1) := by decide +kernel
theorem dX12_isOwn_140 : decode cX12_isOwn 140 = .ok (.ifCond .eq 14, 3) := by decide +kernel
theorem dX12_isOwn_143 : decode cX12_isOwn 143 = .ok (.aload_n 0, 1) := by decide +kernel
theorem dX12_isOwn_144 : decode cX12_isOwn 144 = .ok (.getfield 171, 3) := by decide +kernel
theorem dX12_isOwn_147 : decode cX12_isOwn 147 = .ok (.ldc2_w 220, 3) := by decide +kernel
theorem dX12_isOwn_150 : decode cX12_isOwn 150 = .ok (.lcmp, 1) := by decide +kernel
theorem dX12_isOwn_151 : decode cX12_isOwn 151 = .ok (.ifCond .ne 7, 3) := by decide +kernel
theorem dX12_isOwn_154 : decode cX12_isOwn 154 = .ok (.iconst 1, 1) := by decide +kernel
theorem dX12_isOwn_155 : decode cX12_isOwn 155 = .ok (.goto 4, 3) := by decide +kernel
theorem dX12_isOwn_158 : decode cX12_isOwn 158 = .ok (.iconst 0, 1) := by decide +kernel
theorem dX12_isOwn_159 : decode cX12_isOwn 159 = .ok (.ireturn, 1) := by decide +kernel
theorem dX12_isName_0 : decode cX12_isName 0 = .ok (.aload_n 0, 1) := by decide +kernel
theorem dX12_isName_1 : decode cX12_isName 1 = .ok (.getfield 178, 3) := by decide +kernel
theorem dX12_isName_4 : decode cX12_isName 4 = .ok (.iconst 1, 1) := by decide +kernel
theorem dX12_isName_5 : decode cX12_isName 5 = .ok (.if_icmp .ne 14, 3) := by decide +kernel
theorem dX12_isName_8 : decode cX12_isName 8 = .ok (.aload_n 0, 1) := by decide +kernel
theorem dX12_isName_9 : decode cX12_isName 9 = .ok (.invokevirtual 222, 3) := by decide +kernel
theorem dX12_isName_12 : decode cX12_isName 12 = .ok (.ifCond .ne 7, 3) := by decide +kernel
theorem dX12_isName_15 : decode cX12_isName 15 = .ok (.iconst 1, 1) := by decide +kernel
theorem dX12_isName_16 : decode cX12_isName 16 = .ok (.goto 4, 3) := by decide +kernel
theorem dX12_isName_19 : decode cX12_isName 19 = .ok (.iconst 0, 1) := by decide +kernel
theorem dX12_isName_20 : decode cX12_isName 20 = .ok (.ireturn, 1) := by decide +kernel
theorem dX12_want_0 : decode cX12_want 0 = .ok (.aload_n 0, 1) := by decide +kernel
theorem dX12_want_1 : decode cX12_want 1 = .ok (.getfield 191, 3) := by decide +kernel
theorem dX12_want_4 : decode cX12_want 4 = .ok (.ifCond .le 4, 3) := by decide +kernel
theorem dX12_want_7 : decode cX12_want 7 = .ok (.return_, 1) := by decide +kernel
theorem dX12_want_8 : decode cX12_want 8 = .ok (.aload_n 0, 1) := by decide +kernel
theorem dX12_want_9 : decode cX12_want 9 = .ok (.lload_n 1, 1) := by decide +kernel
theorem dX12_want_10 : decode cX12_want 10 = .ok (.invokevirtual 226, 3) := by decide +kernel
theorem dX12_want_13 : decode cX12_want 13 = .ok (.ifCond .ne 11, 3) := by decide +kernel
theorem dX12_want_16 : decode cX12_want 16 = .ok (.aload_n 0, 1) := by decide +kernel
theorem dX12_want_17 : decode cX12_want 17 = .ok (.iconst 2, 1) := by decide +kernel
theorem dX12_want_18 : decode cX12_want 18 = .ok (.invokevirtual 230, 3) := by decide +kernel
theorem dX12_want_21 : decode cX12_want 21 = .ok (.goto 7, 3) := by decide +kernel
theorem dX12_want_24 : decode cX12_want 24 = .ok (.aload_n 0, 1) := by decide +kernel
theorem dX12_want_25 : decode cX12_want 25 = .ok (.invokevirtual 233, 3) := by decide +kernel
theorem dX12_want_28 : decode cX12_want 28 = .ok (.return_, 1) := by decide +kernel
theorem dX12_numberHere_0 : decode cX12_numberHere 0 = .ok (.aload_n 0, 1) := by decide +kernel
theorem dX12_numberHere_1 : decode cX12_numberHere 1 = .ok (.getfield 191, 3) := by decide +kernel
theorem dX12_numberHere_4 : decode cX12_numberHere 4 = .ok (.ifCond .le 5, 3) := by decide +kernel
theorem dX12_numberHere_7 : decode cX12_numberHere 7 = .ok (.iconst 0, 1) := by decide +kernel
theorem dX12_numberHere_8 : decode cX12_numberHere 8 = .ok (.ireturn, 1) := by decide +kernel
theorem dX12_numberHere_9 : decode cX12_numberHere 9 = .ok (.aload_n 0, 1) := by decide +kernel
theorem dX12_numberHere_10 : decode cX12_numberHere 10 = .ok (.getfield 178, 3) := by decide +kernel
theorem dX12_numberHere_13 : decode cX12_numberHere 13 = .ok (.iconst 2, 1) := by decide +kernel
theorem dX12_numberHere_14 : decode cX12_numberHere 14 = .ok (.if_icmp .eq 11, 3) := by decide +kernel
theorem dX12_numberHere_17 : decode cX12_numberHere 17 = .ok (.aload_n 0, 1) := by decide +kernel
theorem dX12_numberHere_18 : decode cX12_numberHere 18 = .ok (.iconst 2, 1) := by decide +kernel
theorem dX12_numberHere_19 : decode cX12_numberHere 19 = .ok (.invokevirtual 230, 3) := by decide +kernel
theorem dX12_numberHere_22 : decode cX12_numberHere 22 = .ok (.goto 24, 3) := by decide +kernel
theorem dX12_numberHere_25 : decode cX12_numberHere 25 = .ok (.aload_n 0, 1) := by decide +kernel
theorem dX12_numberHere_26 : decode cX12_numberHere 26 = .ok (.getfield 175, 3) := by decide +kernel
theorem dX12_numberHere_29 : decode cX12_numberHere 29 = .ok (.iload_n 1, 1) := by decide +kernel
theorem dX12_numberHere_30 : decode cX12_numberHere 30 = .ok (.if_icmp .lt 11, 3) := by decide +kernel
theorem dX12_numberHere_33 : decode cX12_numberHere 33 = .ok (.aload_n 0, 1) := by decide +kernel
theorem dX12_numberHere_34 : decode cX12_numberHere 34 = .ok (.getfield 175, 3) := by decide +kernel
theorem dX12_numberHere_37 : decode cX12_numberHere 37 = .ok (.iload_n 2, 1) := by decide +kernel
theorem dX12_numberHere_38 : decode cX12_numberHere 38 = .ok (.if_icmp .le 8, 3) := by decide +kernel
theorem dX12_numberHere_41 : decode cX12_numberHere 41 = .ok (.aload_n 0, 1) := by decide +kernel
theorem dX12_numberHere_42 : decode cX12_numberHere 42 = .ok (.iconst 4, 1) := by decide +kernel
theorem dX12_numberHere_43 : decode cX12_numberHere 43 = .ok (.invokevirtual 230, 3) := by decide +kernel
theorem dX12_numberHere_46 : decode cX12_numberHere 46 = .ok (.aload_n 0, 1) := by decide +kernel
theorem dX12_numberHere_47 : decode cX12_numberHere 47 = .ok (.getfield 175, 3) := by decide +kernel
theorem dX12_numberHere_50 : decode cX12_numberHere 50 = .ok (.ireturn, 1) := by decide +kernel
theorem dX12_toldNumber_0 : decode cX12_toldNumber 0 = .ok (.aload_n 0, 1) := by decide +kernel
theorem dX12_toldNumber_1 : decode cX12_toldNumber 1 = .ok (.iload_n 1, 1) := by decide +kernel
theorem dX12_toldNumber_2 : decode cX12_toldNumber 2 = .ok (.iload_n 2, 1) := by decide +kernel
theorem dX12_toldNumber_3 : decode cX12_toldNumber 3 = .ok (.invokevirtual 236, 3) := by decide +kernel
theorem dX12_toldNumber_6 : decode cX12_toldNumber 6 = .ok (.istore_n 3, 1) := by decide +kernel
theorem dX12_toldNumber_7 : decode cX12_toldNumber 7 = .ok (.aload_n 0, 1) := by decide +kernel
theorem dX12_toldNumber_8 : decode cX12_toldNumber 8 = .ok (.getfield 191, 3) := by decide +kernel
theorem dX12_toldNumber_11 : decode cX12_toldNumber 11 = .ok (.ifCond .ne 7, 3) := by decide +kernel
theorem dX12_toldNumber_14 : decode cX12_toldNumber 14 = .ok (.aload_n 0, 1) := by decide +kernel
theorem dX12_toldNumber_15 : decode cX12_toldNumber 15 = .ok (.invokevirtual 233, 3) := by decide +kernel
theorem dX12_toldNumber_18 : decode cX12_toldNumber 18 = .ok (.iload_n 3, 1) := by decide +kernel
theorem dX12_toldNumber_19 : decode cX12_toldNumber 19 = .ok (.ireturn, 1) := by decide +kernel
theorem dX12_told_0 : decode cX12_told 0 = .ok (.aload_n 0, 1) := by decide +kernel
theorem dX12_told_1 : decode cX12_told 1 = .ok (.lload_n 1, 1) := by decide +kernel
theorem dX12_told_2 : decode cX12_told 2 = .ok (.invokevirtual 240, 3) := by decide +kernel
theorem dX12_told_5 : decode cX12_told 5 = .ok (.aload_n 0, 1) := by decide +kernel
theorem dX12_told_6 : decode cX12_told 6 = .ok (.iload_n 3, 1) := by decide +kernel
theorem dX12_told_7 : decode cX12_told 7 = .ok (.iload 4, 2) := by decide +kernel
theorem dX12_told_9 : decode cX12_told 9 = .ok (.invokevirtual 244, 3) := by decide +kernel
theorem dX12_told_12 : decode cX12_told 12 = .ok (.ireturn, 1) := by decide +kernel
theorem dX12_add_0 : decode cX12_add 0 = .ok (.aload_n 0, 1) := by decide +kernel
theorem dX12_add_1 : decode cX12_add 1 = .ok (.getfield 17, 3) := by decide +kernel
theorem dX12_add_4 : decode cX12_add 4 = .ok (.aload_n 0, 1) := by decide +kernel
theorem dX12_add_5 : decode cX12_add 5 = .ok (.getfield 247, 3) := by decide +kernel
theorem dX12_add_8 : decode cX12_add 8 = .ok (.iload_n 1, 1) := by decide +kernel
theorem dX12_add_9 : decode cX12_add 9 = .ok (.iastore, 1) := by decide +kernel
theorem dX12_add_10 : decode cX12_add 10 = .ok (.aload_n 0, 1) := by decide +kernel
theorem dX12_add_11 : decode cX12_add 11 = .ok (.getfield 20, 3) := by decide +kernel
theorem dX12_add_14 : decode cX12_add 14 = .ok (.aload_n 0, 1) := by decide +kernel
theorem dX12_add_15 : decode cX12_add 15 = .ok (.getfield 247, 3) := by decide +kernel
theorem dX12_add_18 : decode cX12_add 18 = .ok (.iload_n 2, 1) := by decide +kernel
theorem dX12_add_19 : decode cX12_add 19 = .ok (.iastore, 1) := by decide +kernel
theorem dX12_add_20 : decode cX12_add 20 = .ok (.aload_n 0, 1) := by decide +kernel
theorem dX12_add_21 : decode cX12_add 21 = .ok (.dup, 1) := by decide +kernel
theorem dX12_add_22 : decode cX12_add 22 = .ok (.getfield 247, 3) := by decide +kernel
theorem dX12_add_25 : decode cX12_add 25 = .ok (.iconst 1, 1) := by decide +kernel
theorem dX12_add_26 : decode cX12_add 26 = .ok (.iadd, 1) := by decide +kernel
theorem dX12_add_27 : decode cX12_add 27 = .ok (.putfield 247, 3) := by decide +kernel
theorem dX12_add_30 : decode cX12_add 30 = .ok (.return_, 1) := by decide +kernel
theorem dX12_tight_0 : decode cX12_tight 0 = .ok (.iload_n 0, 1) := by decide +kernel
theorem dX12_tight_1 : decode cX12_tight 1 = .ok (.lookupswitch 85 #[(21, 79), (38, 77), (43, 83), (45, 83), (60, 81), (61, 81), (62, 81), (124, 75)], 75) := by decide +kernel
theorem dX12_tight_76 : decode cX12_tight 76 = .ok (.iconst 1, 1) := by decide +kernel
theorem dX12_tight_77 : decode cX12_tight 77 = .ok (.ireturn, 1) := by decide +kernel
theorem dX12_tight_78 : decode cX12_tight 78 = .ok (.iconst 2, 1) := by decide +kernel
theorem dX12_tight_79 : decode cX12_tight 79 = .ok (.ireturn, 1) := by decide +kernel
theorem dX12_tight_80 : decode cX12_tight 80 = .ok (.iconst 3, 1) := by decide +kernel
theorem dX12_tight_81 : decode cX12_tight 81 = .ok (.ireturn, 1) := by decide +kernel
theorem dX12_tight_82 : decode cX12_tight 82 = .ok (.iconst 4, 1) := by decide +kernel
theorem dX12_tight_83 : decode cX12_tight 83 = .ok (.ireturn, 1) := by decide +kernel
theorem dX12_tight_84 : decode cX12_tight 84 = .ok (.iconst 5, 1) := by decide +kernel
theorem dX12_tight_85 : decode cX12_tight 85 = .ok (.ireturn, 1) := by decide +kernel
theorem dX12_tight_86 : decode cX12_tight 86 = .ok (.bipush 6, 2) := by decide +kernel
theorem dX12_tight_88 : decode cX12_tight 88 = .ok (.ireturn, 1) := by decide +kernel
theorem dX12_close_0 : decode cX12_close 0 = .ok (.aload_n 0, 1) := by decide +kernel
theorem dX12_close_1 : decode cX12_close 1 = .ok (.getfield 250, 3) := by decide +kernel
theorem dX12_close_4 : decode cX12_close 4 = .ok (.ifCond .le 97, 3) := by decide +kernel
theorem dX12_close_7 : decode cX12_close 7 = .ok (.aload_n 0, 1) := by decide +kernel
theorem dX12_close_8 : decode cX12_close 8 = .ok (.getfield 29, 3) := by decide +kernel
theorem dX12_close_11 : decode cX12_close 11 = .ok (.aload_n 0, 1) := by decide +kernel
theorem dX12_close_12 : decode cX12_close 12 = .ok (.getfield 250, 3) := by decide +kernel
theorem dX12_close_15 : decode cX12_close 15 = .ok (.iconst 1, 1) := by decide +kernel
theorem dX12_close_16 : decode cX12_close 16 = .ok (.isub, 1) := by decide +kernel
theorem dX12_close_17 : decode cX12_close 17 = .ok (.iaload, 1) := by decide +kernel
theorem dX12_close_18 : decode cX12_close 18 = .ok (.bipush 20, 2) := by decide +kernel
theorem dX12_close_20 : decode cX12_close 20 = .ok (.if_icmp .eq 81, 3) := by decide +kernel
theorem dX12_close_23 : decode cX12_close 23 = .ok (.aload_n 0, 1) := by decide +kernel
theorem dX12_close_24 : decode cX12_close 24 = .ok (.getfield 29, 3) := by decide +kernel
theorem dX12_close_27 : decode cX12_close 27 = .ok (.aload_n 0, 1) := by decide +kernel
theorem dX12_close_28 : decode cX12_close 28 = .ok (.getfield 250, 3) := by decide +kernel
theorem dX12_close_31 : decode cX12_close 31 = .ok (.iconst 1, 1) := by decide +kernel
theorem dX12_close_32 : decode cX12_close 32 = .ok (.isub, 1) := by decide +kernel
theorem dX12_close_33 : decode cX12_close 33 = .ok (.iaload, 1) := by decide +kernel
theorem dX12_close_34 : decode cX12_close 34 = .ok (.invokestatic 253, 3) := by decide +kernel
theorem dX12_close_37 : decode cX12_close 37 = .ok (.iload_n 1, 1) := by decide +kernel
theorem dX12_close_38 : decode cX12_close 38 = .ok (.if_icmp .lt 63, 3) := by decide +kernel
theorem dX12_close_41 : decode cX12_close 41 = .ok (.aload_n 0, 1) := by decide +kernel
theorem dX12_close_42 : decode cX12_close 42 = .ok (.dup, 1) := by decide +kernel
theorem dX12_close_43 : decode cX12_close 43 = .ok (.getfield 250, 3) := by decide +kernel
theorem dX12_close_46 : decode cX12_close 46 = .ok (.iconst 1, 1) := by decide +kernel
theorem dX12_close_47 : decode cX12_close 47 = .ok (.isub, 1) := by decide +kernel
theorem dX12_close_48 : decode cX12_close 48 = .ok (.putfield 250, 3) := by decide +kernel
theorem dX12_close_51 : decode cX12_close 51 = .ok (.aload_n 0, 1) := by decide +kernel
theorem dX12_close_52 : decode cX12_close 52 = .ok (.getfield 29, 3) := by decide +kernel
theorem dX12_close_55 : decode cX12_close 55 = .ok (.aload_n 0, 1) := by decide +kernel
theorem dX12_close_56 : decode cX12_close 56 = .ok (.getfield 250, 3) := by decide +kernel
theorem dX12_close_59 : decode cX12_close 59 = .ok (.iaload, 1) := by decide +kernel
theorem dX12_close_60 : decode cX12_close 60 = .ok (.bipush 21, 2) := by decide +kernel
theorem dX12_close_62 : decode cX12_close 62 = .ok (.if_icmp .ne 22, 3) := by decide +kernel
theorem dX12_close_65 : decode cX12_close 65 = .ok (.aload_n 0, 1) := by decide +kernel
theorem dX12_close_66 : decode cX12_close 66 = .ok (.iconst 2, 1) := by decide +kernel
theorem dX12_close_67 : decode cX12_close 67 = .ok (.iconst 0, 1) := by decide +kernel
theorem dX12_close_68 : decode cX12_close 68 = .ok (.invokevirtual 256, 3) := by decide +kernel
theorem dX12_close_71 : decode cX12_close 71 = .ok (.aload_n 0, 1) := by decide +kernel
theorem dX12_close_72 : decode cX12_close 72 = .ok (.dup, 1) := by decide +kernel
theorem dX12_close_73 : decode cX12_close 73 = .ok (.getfield 260, 3) := by decide +kernel
theorem dX12_close_76 : decode cX12_close 76 = .ok (.iconst 1, 1) := by decide +kernel
theorem dX12_close_77 : decode cX12_close 77 = .ok (.isub, 1) := by decide +kernel
theorem dX12_close_78 : decode cX12_close 78 = .ok (.putfield 260, 3) := by decide +kernel
theorem dX12_close_81 : decode cX12_close 81 = .ok (.goto (-81), 3) := by decide +kernel
theorem dX12_close_84 : decode cX12_close 84 = .ok (.aload_n 0, 1) := by decide +kernel
theorem dX12_close_85 : decode cX12_close 85 = .ok (.iconst 3, 1) := by decide +kernel
theorem dX12_close_86 : decode cX12_close 86 = .ok (.aload_n 0, 1) := by decide +kernel
theorem dX12_close_87 : decode cX12_close 87 = .ok (.getfield 29, 3) := by decide +kernel
theorem dX12_close_90 : decode cX12_close 90 = .ok (.aload_n 0, 1) := by decide +kernel
theorem dX12_close_91 : decode cX12_close 91 = .ok (.getfield 250, 3) := by decide +kernel
theorem dX12_close_94 : decode cX12_close 94 = .ok (.iaload, 1) := by decide +kernel
theorem dX12_close_95 : decode cX12_close 95 = .ok (.invokevirtual 256, 3) := by decide +kernel
theorem dX12_close_98 : decode cX12_close 98 = .ok (.goto (-98), 3) := by decide +kernel
theorem dX12_close_101 : decode cX12_close 101 = .ok (.return_, 1) := by decide +kernel
theorem dX12_hasRelation_0 : decode cX12_hasRelation 0 = .ok (.aload_n 0, 1) := by decide +kernel
theorem dX12_hasRelation_1 : decode cX12_hasRelation 1 = .ok (.getfield 250, 3) := by decide +kernel
theorem dX12_hasRelation_4 : decode cX12_hasRelation 4 = .ok (.iconst 1, 1) := by decide +kernel
theorem dX12_hasRelation_5 : decode cX12_hasRelation 5 = .ok (.isub, 1) := by decide +kernel
theorem dX12_hasRelation_6 : decode cX12_hasRelation 6 = .ok (.istore_n 1, 1) := by decide +kernel
theorem dX12_hasRelation_7 : decode cX12_hasRelation 7 = .ok (.iload_n 1, 1) := by decide +kernel
theorem dX12_hasRelation_8 : decode cX12_hasRelation 8 = .ok (.ifCond .lt 33, 3) := by decide +kernel
theorem dX12_hasRelation_11 : decode cX12_hasRelation 11 = .ok (.aload_n 0, 1) := by decide +kernel
theorem dX12_hasRelation_12 : decode cX12_hasRelation 12 = .ok (.getfield 29, 3) := by decide +kernel
theorem dX12_hasRelation_15 : decode cX12_hasRelation 15 = .ok (.iload_n 1, 1) := by decide +kernel
theorem dX12_hasRelation_16 : decode cX12_hasRelation 16 = .ok (.iaload, 1) := by decide +kernel
theorem dX12_hasRelation_17 : decode cX12_hasRelation 17 = .ok (.bipush 20, 2) := by decide +kernel
theorem dX12_hasRelation_19 : decode cX12_hasRelation 19 = .ok (.if_icmp .eq 22, 3) := by decide +kernel
theorem dX12_hasRelation_22 : decode cX12_hasRelation 22 = .ok (.aload_n 0, 1) := by decide +kernel
theorem dX12_hasRelation_23 : decode cX12_hasRelation 23 = .ok (.getfield 29, 3) := by decide +kernel
theorem dX12_hasRelation_26 : decode cX12_hasRelation 26 = .ok (.iload_n 1, 1) := by decide +kernel
theorem dX12_hasRelation_27 : decode cX12_hasRelation 27 = .ok (.iaload, 1) := by decide +kernel
theorem dX12_hasRelation_28 : decode cX12_hasRelation 28 = .ok (.invokestatic 253, 3) := by decide +kernel
theorem dX12_hasRelation_31 : decode cX12_hasRelation 31 = .ok (.iconst 4, 1) := by decide +kernel
theorem dX12_hasRelation_32 : decode cX12_hasRelation 32 = .ok (.if_icmp .le 9, 3) := by decide +kernel
theorem dX12_hasRelation_35 : decode cX12_hasRelation 35 = .ok (.iinc 1 (-1), 3) := by decide +kernel
theorem dX12_hasRelation_38 : decode cX12_hasRelation 38 = .ok (.goto (-31), 3) := by decide +kernel
theorem dX12_hasRelation_41 : decode cX12_hasRelation 41 = .ok (.iload_n 1, 1) := by decide +kernel
theorem dX12_hasRelation_42 : decode cX12_hasRelation 42 = .ok (.ifCond .lt 31, 3) := by decide +kernel
theorem dX12_hasRelation_45 : decode cX12_hasRelation 45 = .ok (.aload_n 0, 1) := by decide +kernel
theorem dX12_hasRelation_46 : decode cX12_hasRelation 46 = .ok (.getfield 29, 3) := by decide +kernel
theorem dX12_hasRelation_49 : decode cX12_hasRelation 49 = .ok (.iload_n 1, 1) := by decide +kernel
theorem dX12_hasRelation_50 : decode cX12_hasRelation 50 = .ok (.iaload, 1) := by decide +kernel
theorem dX12_hasRelation_51 : decode cX12_hasRelation 51 = .ok (.bipush 20, 2) := by decide +kernel
theorem dX12_hasRelation_53 : decode cX12_hasRelation 53 = .ok (.if_icmp .eq 20, 3) := by decide +kernel
theorem dX12_hasRelation_56 : decode cX12_hasRelation 56 = .ok (.aload_n 0, 1) := by decide +kernel
theorem dX12_hasRelation_57 : decode cX12_hasRelation 57 = .ok (.getfield 29, 3) := by decide +kernel
theorem dX12_hasRelation_60 : decode cX12_hasRelation 60 = .ok (.iload_n 1, 1) := by decide +kernel
theorem dX12_hasRelation_61 : decode cX12_hasRelation 61 = .ok (.iaload, 1) := by decide +kernel
theorem dX12_hasRelation_62 : decode cX12_hasRelation 62 = .ok (.invokestatic 253, 3) := by decide +kernel
theorem dX12_hasRelation_65 : decode cX12_hasRelation 65 = .ok (.iconst 4, 1) := by decide +kernel
theorem dX12_hasRelation_66 : decode cX12_hasRelation 66 = .ok (.if_icmp .ne 7, 3) := by decide +kernel
theorem dX12_hasRelation_69 : decode cX12_hasRelation 69 = .ok (.iconst 1, 1) := by decide +kernel
theorem dX12_hasRelation_70 : decode cX12_hasRelation 70 = .ok (.goto 4, 3) := by decide +kernel
theorem dX12_hasRelation_73 : decode cX12_hasRelation 73 = .ok (.iconst 0, 1) := by decide +kernel
theorem dX12_hasRelation_74 : decode cX12_hasRelation 74 = .ok (.ireturn, 1) := by decide +kernel
theorem dX12_mayNot_0 : decode cX12_mayNot 0 = .ok (.aload_n 0, 1) := by decide +kernel
theorem dX12_mayNot_1 : decode cX12_mayNot 1 = .ok (.getfield 250, 3) := by decide +kernel
theorem dX12_mayNot_4 : decode cX12_mayNot 4 = .ok (.ifCond .eq 37, 3) := by decide +kernel
theorem dX12_mayNot_7 : decode cX12_mayNot 7 = .ok (.aload_n 0, 1) := by decide +kernel
theorem dX12_mayNot_8 : decode cX12_mayNot 8 = .ok (.getfield 29, 3) := by decide +kernel
theorem dX12_mayNot_11 : decode cX12_mayNot 11 = .ok (.aload_n 0, 1) := by decide +kernel
theorem dX12_mayNot_12 : decode cX12_mayNot 12 = .ok (.getfield 250, 3) := by decide +kernel
theorem dX12_mayNot_15 : decode cX12_mayNot 15 = .ok (.iconst 1, 1) := by decide +kernel
theorem dX12_mayNot_16 : decode cX12_mayNot 16 = .ok (.isub, 1) := by decide +kernel
theorem dX12_mayNot_17 : decode cX12_mayNot 17 = .ok (.iaload, 1) := by decide +kernel
theorem dX12_mayNot_18 : decode cX12_mayNot 18 = .ok (.bipush 20, 2) := by decide +kernel
theorem dX12_mayNot_20 : decode cX12_mayNot 20 = .ok (.if_icmp .eq 21, 3) := by decide +kernel
theorem dX12_mayNot_23 : decode cX12_mayNot 23 = .ok (.aload_n 0, 1) := by decide +kernel
theorem dX12_mayNot_24 : decode cX12_mayNot 24 = .ok (.getfield 29, 3) := by decide +kernel
theorem dX12_mayNot_27 : decode cX12_mayNot 27 = .ok (.aload_n 0, 1) := by decide +kernel
theorem dX12_mayNot_28 : decode cX12_mayNot 28 = .ok (.getfield 250, 3) := by decide +kernel
theorem dX12_mayNot_31 : decode cX12_mayNot 31 = .ok (.iconst 1, 1) := by decide +kernel
theorem dX12_mayNot_32 : decode cX12_mayNot 32 = .ok (.isub, 1) := by decide +kernel
theorem dX12_mayNot_33 : decode cX12_mayNot 33 = .ok (.iaload, 1) := by decide +kernel
theorem dX12_mayNot_34 : decode cX12_mayNot 34 = .ok (.invokestatic 253, 3) := by decide +kernel
theorem dX12_mayNot_37 : decode cX12_mayNot 37 = .ok (.iconst 4, 1) := by decide +kernel
theorem dX12_mayNot_38 : decode cX12_mayNot 38 = .ok (.if_icmp .ge 7, 3) := by decide +kernel
theorem dX12_mayNot_41 : decode cX12_mayNot 41 = .ok (.iconst 1, 1) := by decide +kernel
theorem dX12_mayNot_42 : decode cX12_mayNot 42 = .ok (.goto 4, 3) := by decide +kernel
theorem dX12_mayNot_45 : decode cX12_mayNot 45 = .ok (.iconst 0, 1) := by decide +kernel
theorem dX12_mayNot_46 : decode cX12_mayNot 46 = .ok (.ireturn, 1) := by decide +kernel
theorem dX12_asked_0 : decode cX12_asked 0 = .ok (.aload_n 0, 1) := by decide +kernel
theorem dX12_asked_1 : decode cX12_asked 1 = .ok (.getfield 178, 3) := by decide +kernel
theorem dX12_asked_4 : decode cX12_asked 4 = .ok (.iconst 1, 1) := by decide +kernel
theorem dX12_asked_5 : decode cX12_asked 5 = .ok (.if_icmp .eq 5, 3) := by decide +kernel
theorem dX12_asked_8 : decode cX12_asked 8 = .ok (.iconst (-1), 1) := by decide +kernel
theorem dX12_asked_9 : decode cX12_asked 9 = .ok (.ireturn, 1) := by decide +kernel
theorem dX12_asked_10 : decode cX12_asked 10 = .ok (.aload_n 0, 1) := by decide +kernel
theorem dX12_asked_11 : decode cX12_asked 11 = .ok (.getfield 171, 3) := by decide +kernel
theorem dX12_asked_14 : decode cX12_asked 14 = .ok (.ldc2_w 206, 3) := by decide +kernel
theorem dX12_asked_17 : decode cX12_asked 17 = .ok (.lcmp, 1) := by decide +kernel
theorem dX12_asked_18 : decode cX12_asked 18 = .ok (.ifCond .ne 5, 3) := by decide +kernel
theorem dX12_asked_21 : decode cX12_asked 21 = .ok (.iconst 0, 1) := by decide +kernel
theorem dX12_asked_22 : decode cX12_asked 22 = .ok (.ireturn, 1) := by decide +kernel
theorem dX12_asked_23 : decode cX12_asked 23 = .ok (.aload_n 0, 1) := by decide +kernel
theorem dX12_asked_24 : decode cX12_asked 24 = .ok (.getfield 171, 3) := by decide +kernel
theorem dX12_asked_27 : decode cX12_asked 27 = .ok (.ldc2_w 208, 3) := by decide +kernel
theorem dX12_asked_30 : decode cX12_asked 30 = .ok (.lcmp, 1) := by decide +kernel
theorem dX12_asked_31 : decode cX12_asked 31 = .ok (.ifCond .ne 5, 3) := by decide +kernel
theorem dX12_asked_34 : decode cX12_asked 34 = .ok (.iconst 1, 1) := by decide +kernel
theorem dX12_asked_35 : decode cX12_asked 35 = .ok (.ireturn, 1) := by decide +kernel
theorem dX12_asked_36 : decode cX12_asked 36 = .ok (.aload_n 0, 1) := by decide +kernel
theorem dX12_asked_37 : decode cX12_asked 37 = .ok (.getfield 171, 3) := by decide +kernel
theorem dX12_asked_40 : decode cX12_asked 40 = .ok (.ldc2_w 210, 3) := by decide +kernel
theorem dX12_asked_43 : decode cX12_asked 43 = .ok (.lcmp, 1) := by decide +kernel
theorem dX12_asked_44 : decode cX12_asked 44 = .ok (.ifCond .ne 5, 3) := by decide +kernel
theorem dX12_asked_47 : decode cX12_asked 47 = .ok (.iconst 2, 1) := by decide +kernel
theorem dX12_asked_48 : decode cX12_asked 48 = .ok (.ireturn, 1) := by decide +kernel
theorem dX12_asked_49 : decode cX12_asked 49 = .ok (.aload_n 0, 1) := by decide +kernel
theorem dX12_asked_50 : decode cX12_asked 50 = .ok (.getfield 171, 3) := by decide +kernel
theorem dX12_asked_53 : decode cX12_asked 53 = .ok (.ldc2_w 212, 3) := by decide +kernel
theorem dX12_asked_56 : decode cX12_asked 56 = .ok (.lcmp, 1) := by decide +kernel
theorem dX12_asked_57 : decode cX12_asked 57 = .ok (.ifCond .ne 5, 3) := by decide +kernel
theorem dX12_asked_60 : decode cX12_asked 60 = .ok (.iconst 3, 1) := by decide +kernel
theorem dX12_asked_61 : decode cX12_asked 61 = .ok (.ireturn, 1) := by decide +kernel
theorem dX12_asked_62 : decode cX12_asked 62 = .ok (.aload_n 0, 1) := by decide +kernel
theorem dX12_asked_63 : decode cX12_asked 63 = .ok (.getfield 171, 3) := by decide +kernel
theorem dX12_asked_66 : decode cX12_asked 66 = .ok (.ldc2_w 214, 3) := by decide +kernel
theorem dX12_asked_69 : decode cX12_asked 69 = .ok (.lcmp, 1) := by decide +kernel
theorem dX12_asked_70 : decode cX12_asked 70 = .ok (.ifCond .ne 7, 3) := by decide +kernel
theorem dX12_asked_73 : decode cX12_asked 73 = .ok (.iconst 4, 1) := by decide +kernel
theorem dX12_asked_74 : decode cX12_asked 74 = .ok (.goto 4, 3) := by decide +kernel
theorem dX12_asked_77 : decode cX12_asked 77 = .ok (.iconst (-1), 1) := by decide +kernel
theorem dX12_asked_78 : decode cX12_asked 78 = .ok (.ireturn, 1) := by decide +kernel
theorem dX12_isFull_0 : decode cX12_isFull 0 = .ok (.aload_n 0, 1) := by decide +kernel
theorem dX12_isFull_1 : decode cX12_isFull 1 = .ok (.getfield 263, 3) := by decide +kernel
theorem dX12_isFull_4 : decode cX12_isFull 4 = .ok (.bipush 60, 2) := by decide +kernel
theorem dX12_isFull_6 : decode cX12_isFull 6 = .ok (.if_icmp .eq 12, 3) := by decide +kernel
theorem dX12_isFull_9 : decode cX12_isFull 9 = .ok (.aload_n 0, 1) := by decide +kernel
theorem dX12_isFull_10 : decode cX12_isFull 10 = .ok (.getfield 266, 3) := by decide +kernel
theorem dX12_isFull_13 : decode cX12_isFull 13 = .ok (.bipush 30, 2) := by decide +kernel
theorem dX12_isFull_15 : decode cX12_isFull 15 = .ok (.if_icmp .ne 7, 3) := by decide +kernel
theorem dX12_isFull_18 : decode cX12_isFull 18 = .ok (.iconst 1, 1) := by decide +kernel
