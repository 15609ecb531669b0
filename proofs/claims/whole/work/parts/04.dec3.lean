theorem dX12_repeats_0 : decode cX12_repeats 0 = .ok (.aload_n 0, 1) := by decide +kernel
theorem dX12_repeats_1 : decode cX12_repeats 1 = .ok (.invokevirtual 550, 3) := by decide +kernel
theorem dX12_repeats_4 : decode cX12_repeats 4 = .ok (.istore_n 1, 1) := by decide +kernel
theorem dX12_repeats_5 : decode cX12_repeats 5 = .ok (.aload_n 0, 1) := by decide +kernel
theorem dX12_repeats_6 : decode cX12_repeats 6 = .ok (.bipush 14, 2) := by decide +kernel
theorem dX12_repeats_8 : decode cX12_repeats 8 = .ok (.invokevirtual 574, 3) := by decide +kernel
theorem dX12_repeats_11 : decode cX12_repeats 11 = .ok (.ifCond .eq 5, 3) := by decide +kernel
theorem dX12_repeats_14 : decode cX12_repeats 14 = .ok (.iconst 0, 1) := by decide +kernel
theorem dX12_repeats_15 : decode cX12_repeats 15 = .ok (.ireturn, 1) := by decide +kernel
theorem dX12_repeats_16 : decode cX12_repeats 16 = .ok (.aload_n 0, 1) := by decide +kernel
theorem dX12_repeats_17 : decode cX12_repeats 17 = .ok (.bipush 13, 2) := by decide +kernel
theorem dX12_repeats_19 : decode cX12_repeats 19 = .ok (.iconst 1, 1) := by decide +kernel
theorem dX12_repeats_20 : decode cX12_repeats 20 = .ok (.invokevirtual 191, 3) := by decide +kernel
theorem dX12_repeats_23 : decode cX12_repeats 23 = .ok (.iconst 1, 1) := by decide +kernel
theorem dX12_repeats_24 : decode cX12_repeats 24 = .ok (.istore_n 2, 1) := by decide +kernel
theorem dX12_repeats_25 : decode cX12_repeats 25 = .ok (.iload_n 2, 1) := by decide +kernel
theorem dX12_repeats_26 : decode cX12_repeats 26 = .ok (.sipush 1000, 3) := by decide +kernel
theorem dX12_repeats_29 : decode cX12_repeats 29 = .ok (.if_icmp .gt 44, 3) := by decide +kernel
theorem dX12_repeats_32 : decode cX12_repeats 32 = .ok (.aload_n 0, 1) := by decide +kernel
theorem dX12_repeats_33 : decode cX12_repeats 33 = .ok (.bipush 13, 2) := by decide +kernel
theorem dX12_repeats_35 : decode cX12_repeats 35 = .ok (.bipush 10, 2) := by decide +kernel
theorem dX12_repeats_37 : decode cX12_repeats 37 = .ok (.invokevirtual 194, 3) := by decide +kernel
theorem dX12_repeats_40 : decode cX12_repeats 40 = .ok (.aload_n 0, 1) := by decide +kernel
theorem dX12_repeats_41 : decode cX12_repeats 41 = .ok (.bipush 13, 2) := by decide +kernel
theorem dX12_repeats_43 : decode cX12_repeats 43 = .ok (.bipush 14, 2) := by decide +kernel
theorem dX12_repeats_45 : decode cX12_repeats 45 = .ok (.invokevirtual 204, 3) := by decide +kernel
theorem dX12_repeats_48 : decode cX12_repeats 48 = .ok (.aload_n 0, 1) := by decide +kernel
theorem dX12_repeats_49 : decode cX12_repeats 49 = .ok (.bipush 13, 2) := by decide +kernel
theorem dX12_repeats_51 : decode cX12_repeats 51 = .ok (.bipush 10, 2) := by decide +kernel
theorem dX12_repeats_53 : decode cX12_repeats 53 = .ok (.invokevirtual 181, 3) := by decide +kernel
theorem dX12_repeats_56 : decode cX12_repeats 56 = .ok (.aload_n 0, 1) := by decide +kernel
theorem dX12_repeats_57 : decode cX12_repeats 57 = .ok (.bipush 13, 2) := by decide +kernel
theorem dX12_repeats_59 : decode cX12_repeats 59 = .ok (.invokevirtual 574, 3) := by decide +kernel
theorem dX12_repeats_62 : decode cX12_repeats 62 = .ok (.ifCond .eq 5, 3) := by decide +kernel
theorem dX12_repeats_65 : decode cX12_repeats 65 = .ok (.iload_n 2, 1) := by decide +kernel
theorem dX12_repeats_66 : decode cX12_repeats 66 = .ok (.ireturn, 1) := by decide +kernel
theorem dX12_repeats_67 : decode cX12_repeats 67 = .ok (.iinc 2 1, 3) := by decide +kernel
theorem dX12_repeats_70 : decode cX12_repeats 70 = .ok (.goto (-45), 3) := by decide +kernel
theorem dX12_repeats_73 : decode cX12_repeats 73 = .ok (.iconst (-1), 1) := by decide +kernel
theorem dX12_repeats_74 : decode cX12_repeats 74 = .ok (.ireturn, 1) := by decide +kernel
theorem dX12_ends_0 : decode cX12_ends 0 = .ok (.aload_n 0, 1) := by decide +kernel
theorem dX12_ends_1 : decode cX12_ends 1 = .ok (.iconst 0, 1) := by decide +kernel
theorem dX12_ends_2 : decode cX12_ends 2 = .ok (.putfield 1, 3) := by decide +kernel
theorem dX12_ends_5 : decode cX12_ends 5 = .ok (.aload_n 0, 1) := by decide +kernel
theorem dX12_ends_6 : decode cX12_ends 6 = .ok (.invokevirtual 550, 3) := by decide +kernel
theorem dX12_ends_9 : decode cX12_ends 9 = .ok (.istore_n 1, 1) := by decide +kernel
theorem dX12_ends_10 : decode cX12_ends 10 = .ok (.aload_n 0, 1) := by decide +kernel
theorem dX12_ends_11 : decode cX12_ends 11 = .ok (.bipush 14, 2) := by decide +kernel
theorem dX12_ends_13 : decode cX12_ends 13 = .ok (.invokevirtual 574, 3) := by decide +kernel
theorem dX12_ends_16 : decode cX12_ends 16 = .ok (.ireturn, 1) := by decide +kernel
theorem dX12_ahead_0 : decode cX12_ahead 0 = .ok (.aload_n 0, 1) := by decide +kernel
theorem dX12_ahead_1 : decode cX12_ahead 1 = .ok (.iconst 0, 1) := by decide +kernel
theorem dX12_ahead_2 : decode cX12_ahead 2 = .ok (.putfield 1, 3) := by decide +kernel
theorem dX12_ahead_5 : decode cX12_ahead 5 = .ok (.aload_n 0, 1) := by decide +kernel
theorem dX12_ahead_6 : decode cX12_ahead 6 = .ok (.invokevirtual 550, 3) := by decide +kernel
theorem dX12_ahead_9 : decode cX12_ahead 9 = .ok (.ireturn, 1) := by decide +kernel
theorem dX12_repeating_0 : decode cX12_repeating 0 = .ok (.aload_n 0, 1) := by decide +kernel
theorem dX12_repeating_1 : decode cX12_repeating 1 = .ok (.iconst 0, 1) := by decide +kernel
theorem dX12_repeating_2 : decode cX12_repeating 2 = .ok (.putfield 1, 3) := by decide +kernel
theorem dX12_repeating_5 : decode cX12_repeating 5 = .ok (.aload_n 0, 1) := by decide +kernel
theorem dX12_repeating_6 : decode cX12_repeating 6 = .ok (.invokevirtual 553, 3) := by decide +kernel
theorem dX12_repeating_9 : decode cX12_repeating 9 = .ok (.ireturn, 1) := by decide +kernel
theorem dX12_decimal_0 : decode cX12_decimal 0 = .ok (.aload_n 0, 1) := by decide +kernel
theorem dX12_decimal_1 : decode cX12_decimal 1 = .ok (.iconst 0, 1) := by decide +kernel
theorem dX12_decimal_2 : decode cX12_decimal 2 = .ok (.putfield 1, 3) := by decide +kernel
theorem dX12_decimal_5 : decode cX12_decimal 5 = .ok (.aload_n 0, 1) := by decide +kernel
theorem dX12_decimal_6 : decode cX12_decimal 6 = .ok (.iload_n 1, 1) := by decide +kernel
theorem dX12_decimal_7 : decode cX12_decimal 7 = .ok (.iconst 1, 1) := by decide +kernel
theorem dX12_decimal_8 : decode cX12_decimal 8 = .ok (.sipush 1000, 3) := by decide +kernel
theorem dX12_decimal_11 : decode cX12_decimal 11 = .ok (.invokestatic 251, 3) := by decide +kernel
theorem dX12_decimal_14 : decode cX12_decimal 14 = .ok (.iconst 1, 1) := by decide +kernel
theorem dX12_decimal_15 : decode cX12_decimal 15 = .ok (.invokevirtual 291, 3) := by decide +kernel
theorem dX12_decimal_18 : decode cX12_decimal 18 = .ok (.ifCond .eq 5, 3) := by decide +kernel
theorem dX12_decimal_21 : decode cX12_decimal 21 = .ok (.iconst 0, 1) := by decide +kernel
theorem dX12_decimal_22 : decode cX12_decimal 22 = .ok (.ireturn, 1) := by decide +kernel
theorem dX12_decimal_23 : decode cX12_decimal 23 = .ok (.aload_n 0, 1) := by decide +kernel
theorem dX12_decimal_24 : decode cX12_decimal 24 = .ok (.iconst 0, 1) := by decide +kernel
theorem dX12_decimal_25 : decode cX12_decimal 25 = .ok (.aload_n 0, 1) := by decide +kernel
theorem dX12_decimal_26 : decode cX12_decimal 26 = .ok (.getfield 170, 3) := by decide +kernel
theorem dX12_decimal_29 : decode cX12_decimal 29 = .ok (.iconst 0, 1) := by decide +kernel
theorem dX12_decimal_30 : decode cX12_decimal 30 = .ok (.invokevirtual 228, 3) := by decide +kernel
theorem dX12_decimal_33 : decode cX12_decimal 33 = .ok (.aload_n 0, 1) := by decide +kernel
theorem dX12_decimal_34 : decode cX12_decimal 34 = .ok (.iconst 1, 1) := by decide +kernel
theorem dX12_decimal_35 : decode cX12_decimal 35 = .ok (.aload_n 0, 1) := by decide +kernel
theorem dX12_decimal_36 : decode cX12_decimal 36 = .ok (.getfield 170, 3) := by decide +kernel
theorem dX12_decimal_39 : decode cX12_decimal 39 = .ok (.iconst 1, 1) := by decide +kernel
theorem dX12_decimal_40 : decode cX12_decimal 40 = .ok (.invokevirtual 228, 3) := by decide +kernel
theorem dX12_decimal_43 : decode cX12_decimal 43 = .ok (.aload_n 0, 1) := by decide +kernel
theorem dX12_decimal_44 : decode cX12_decimal 44 = .ok (.iconst 0, 1) := by decide +kernel
theorem dX12_decimal_45 : decode cX12_decimal 45 = .ok (.iconst 1, 1) := by decide +kernel
theorem dX12_decimal_46 : decode cX12_decimal 46 = .ok (.invokevirtual 204, 3) := by decide +kernel
theorem dX12_decimal_49 : decode cX12_decimal 49 = .ok (.aload_n 0, 1) := by decide +kernel
theorem dX12_decimal_50 : decode cX12_decimal 50 = .ok (.bipush 13, 2) := by decide +kernel
theorem dX12_decimal_52 : decode cX12_decimal 52 = .ok (.bipush 10, 2) := by decide +kernel
theorem dX12_decimal_54 : decode cX12_decimal 54 = .ok (.invokevirtual 181, 3) := by decide +kernel
theorem dX12_decimal_57 : decode cX12_decimal 57 = .ok (.iconst 0, 1) := by decide +kernel
theorem dX12_decimal_58 : decode cX12_decimal 58 = .ok (.istore_n 2, 1) := by decide +kernel
theorem dX12_decimal_59 : decode cX12_decimal 59 = .ok (.iconst 0, 1) := by decide +kernel
theorem dX12_decimal_60 : decode cX12_decimal 60 = .ok (.istore_n 3, 1) := by decide +kernel
theorem dX12_decimal_61 : decode cX12_decimal 61 = .ok (.iload_n 3, 1) := by decide +kernel
theorem dX12_decimal_62 : decode cX12_decimal 62 = .ok (.iload_n 1, 1) := by decide +kernel
theorem dX12_decimal_63 : decode cX12_decimal 63 = .ok (.if_icmp .ge 14, 3) := by decide +kernel
theorem dX12_decimal_66 : decode cX12_decimal 66 = .ok (.aload_n 0, 1) := by decide +kernel
theorem dX12_decimal_67 : decode cX12_decimal 67 = .ok (.invokevirtual 562, 3) := by decide +kernel
theorem dX12_decimal_70 : decode cX12_decimal 70 = .ok (.istore_n 2, 1) := by decide +kernel
theorem dX12_decimal_71 : decode cX12_decimal 71 = .ok (.iinc 3 1, 3) := by decide +kernel
theorem dX12_decimal_74 : decode cX12_decimal 74 = .ok (.goto (-13), 3) := by decide +kernel
theorem dX12_decimal_77 : decode cX12_decimal 77 = .ok (.iload_n 2, 1) := by decide +kernel
theorem dX12_decimal_78 : decode cX12_decimal 78 = .ok (.ireturn, 1) := by decide +kernel
theorem dX12_continues_0 : decode cX12_continues 0 = .ok (.aload_n 0, 1) := by decide +kernel
theorem dX12_continues_1 : decode cX12_continues 1 = .ok (.iconst 0, 1) := by decide +kernel
theorem dX12_continues_2 : decode cX12_continues 2 = .ok (.putfield 577, 3) := by decide +kernel
theorem dX12_continues_5 : decode cX12_continues 5 = .ok (.aload_n 0, 1) := by decide +kernel
theorem dX12_continues_6 : decode cX12_continues 6 = .ok (.bipush 12, 2) := by decide +kernel
theorem dX12_continues_8 : decode cX12_continues 8 = .ok (.aload_n 0, 1) := by decide +kernel
theorem dX12_continues_9 : decode cX12_continues 9 = .ok (.getfield 170, 3) := by decide +kernel
theorem dX12_continues_12 : decode cX12_continues 12 = .ok (.invokevirtual 276, 3) := by decide +kernel
theorem dX12_continues_15 : decode cX12_continues 15 = .ok (.aload_n 0, 1) := by decide +kernel
theorem dX12_continues_16 : decode cX12_continues 16 = .ok (.iconst 4, 1) := by decide +kernel
theorem dX12_continues_17 : decode cX12_continues 17 = .ok (.bipush 6, 2) := by decide +kernel
theorem dX12_continues_19 : decode cX12_continues 19 = .ok (.invokevirtual 181, 3) := by decide +kernel
theorem dX12_continues_22 : decode cX12_continues 22 = .ok (.aload_n 0, 1) := by decide +kernel
theorem dX12_continues_23 : decode cX12_continues 23 = .ok (.getfield 20, 3) := by decide +kernel
theorem dX12_continues_26 : decode cX12_continues 26 = .ok (.aload_n 0, 1) := by decide +kernel
theorem dX12_continues_27 : decode cX12_continues 27 = .ok (.getfield 170, 3) := by decide +kernel
theorem dX12_continues_30 : decode cX12_continues 30 = .ok (.iaload, 1) := by decide +kernel
theorem dX12_continues_31 : decode cX12_continues 31 = .ok (.istore_n 2, 1) := by decide +kernel
theorem dX12_continues_32 : decode cX12_continues 32 = .ok (.aload_n 0, 1) := by decide +kernel
theorem dX12_continues_33 : decode cX12_continues 33 = .ok (.iconst 5, 1) := by decide +kernel
theorem dX12_continues_34 : decode cX12_continues 34 = .ok (.iconst 4, 1) := by decide +kernel
theorem dX12_continues_35 : decode cX12_continues 35 = .ok (.iconst 1, 1) := by decide +kernel
theorem dX12_continues_36 : decode cX12_continues 36 = .ok (.invokevirtual 235, 3) := by decide +kernel
theorem dX12_continues_39 : decode cX12_continues 39 = .ok (.iload_n 2, 1) := by decide +kernel
theorem dX12_continues_40 : decode cX12_continues 40 = .ok (.ifCond .lt 20, 3) := by decide +kernel
theorem dX12_continues_43 : decode cX12_continues 43 = .ok (.aload_n 0, 1) := by decide +kernel
theorem dX12_continues_44 : decode cX12_continues 44 = .ok (.bipush 13, 2) := by decide +kernel
theorem dX12_continues_46 : decode cX12_continues 46 = .ok (.iconst 0, 1) := by decide +kernel
theorem dX12_continues_47 : decode cX12_continues 47 = .ok (.invokevirtual 181, 3) := by decide +kernel
theorem dX12_continues_50 : decode cX12_continues 50 = .ok (.aload_n 0, 1) := by decide +kernel
theorem dX12_continues_51 : decode cX12_continues 51 = .ok (.bipush 13, 2) := by decide +kernel
theorem dX12_continues_53 : decode cX12_continues 53 = .ok (.iconst 5, 1) := by decide +kernel
theorem dX12_continues_54 : decode cX12_continues 54 = .ok (.invokevirtual 242, 3) := by decide +kernel
theorem dX12_continues_57 : decode cX12_continues 57 = .ok (.goto 17, 3) := by decide +kernel
theorem dX12_continues_60 : decode cX12_continues 60 = .ok (.aload_n 0, 1) := by decide +kernel
theorem dX12_continues_61 : decode cX12_continues 61 = .ok (.bipush 13, 2) := by decide +kernel
theorem dX12_continues_63 : decode cX12_continues 63 = .ok (.iconst 5, 1) := by decide +kernel
theorem dX12_continues_64 : decode cX12_continues 64 = .ok (.invokevirtual 181, 3) := by decide +kernel
theorem dX12_continues_67 : decode cX12_continues 67 = .ok (.aload_n 0, 1) := by decide +kernel
theorem dX12_continues_68 : decode cX12_continues 68 = .ok (.bipush 13, 2) := by decide +kernel
theorem dX12_continues_70 : decode cX12_continues 70 = .ok (.iconst 0, 1) := by decide +kernel
theorem dX12_continues_71 : decode cX12_continues 71 = .ok (.invokevirtual 242, 3) := by decide +kernel
theorem dX12_continues_74 : decode cX12_continues 74 = .ok (.aload_n 0, 1) := by decide +kernel
theorem dX12_continues_75 : decode cX12_continues 75 = .ok (.bipush 14, 2) := by decide +kernel
theorem dX12_continues_77 : decode cX12_continues 77 = .ok (.iconst 1, 1) := by decide +kernel
theorem dX12_continues_78 : decode cX12_continues 78 = .ok (.invokevirtual 181, 3) := by decide +kernel
theorem dX12_continues_81 : decode cX12_continues 81 = .ok (.aload_n 0, 1) := by decide +kernel
theorem dX12_continues_82 : decode cX12_continues 82 = .ok (.iconst 1, 1) := by decide +kernel
theorem dX12_continues_83 : decode cX12_continues 83 = .ok (.putfield 577, 3) := by decide +kernel
theorem dX12_continues_86 : decode cX12_continues 86 = .ok (.iload_n 1, 1) := by decide +kernel
theorem dX12_continues_87 : decode cX12_continues 87 = .ok (.ifCond .ne 19, 3) := by decide +kernel
theorem dX12_continues_90 : decode cX12_continues 90 = .ok (.aload_n 0, 1) := by decide +kernel
theorem dX12_continues_91 : decode cX12_continues 91 = .ok (.getfield 17, 3) := by decide +kernel
theorem dX12_continues_94 : decode cX12_continues 94 = .ok (.bipush 6, 2) := by decide +kernel
theorem dX12_continues_96 : decode cX12_continues 96 = .ok (.iaload, 1) := by decide +kernel
theorem dX12_continues_97 : decode cX12_continues 97 = .ok (.ifCond .ne 7, 3) := by decide +kernel
theorem dX12_continues_100 : decode cX12_continues 100 = .ok (.iconst 0, 1) := by decide +kernel
theorem dX12_continues_101 : decode cX12_continues 101 = .ok (.goto 4, 3) := by decide +kernel
theorem dX12_continues_104 : decode cX12_continues 104 = .ok (.iload_n 2, 1) := by decide +kernel
theorem dX12_continues_105 : decode cX12_continues 105 = .ok (.ireturn, 1) := by decide +kernel
theorem dX12_continues_106 : decode cX12_continues 106 = .ok (.aload_n 0, 1) := by decide +kernel
theorem dX12_continues_107 : decode cX12_continues 107 = .ok (.getfield 17, 3) := by decide +kernel
theorem dX12_continues_110 : decode cX12_continues 110 = .ok (.bipush 13, 2) := by decide +kernel
theorem dX12_continues_112 : decode cX12_continues 112 = .ok (.iaload, 1) := by decide +kernel
theorem dX12_continues_113 : decode cX12_continues 113 = .ok (.ifCond .le 57, 3) := by decide +kernel
theorem dX12_continues_116 : decode cX12_continues 116 = .ok (.aload_n 0, 1) := by decide +kernel
theorem dX12_continues_117 : decode cX12_continues 117 = .ok (.bipush 14, 2) := by decide +kernel
theorem dX12_continues_119 : decode cX12_continues 119 = .ok (.bipush 13, 2) := by decide +kernel
theorem dX12_continues_121 : decode cX12_continues 121 = .ok (.invokevirtual 204, 3) := by decide +kernel
theorem dX12_continues_124 : decode cX12_continues 124 = .ok (.aload_n 0, 1) := by decide +kernel
theorem dX12_continues_125 : decode cX12_continues 125 = .ok (.bipush 6, 2) := by decide +kernel
theorem dX12_continues_127 : decode cX12_continues 127 = .ok (.bipush 9, 2) := by decide +kernel
theorem dX12_continues_129 : decode cX12_continues 129 = .ok (.invokevirtual 181, 3) := by decide +kernel
theorem dX12_continues_132 : decode cX12_continues 132 = .ok (.aload_n 0, 1) := by decide +kernel
theorem dX12_continues_133 : decode cX12_continues 133 = .ok (.bipush 14, 2) := by decide +kernel
theorem dX12_continues_135 : decode cX12_continues 135 = .ok (.bipush 13, 2) := by decide +kernel
theorem dX12_continues_137 : decode cX12_continues 137 = .ok (.invokevirtual 181, 3) := by decide +kernel
theorem dX12_continues_140 : decode cX12_continues 140 = .ok (.aload_n 0, 1) := by decide +kernel
theorem dX12_continues_141 : decode cX12_continues 141 = .ok (.bipush 13, 2) := by decide +kernel
theorem dX12_continues_143 : decode cX12_continues 143 = .ok (.bipush 10, 2) := by decide +kernel
theorem dX12_continues_145 : decode cX12_continues 145 = .ok (.invokevirtual 181, 3) := by decide +kernel
theorem dX12_continues_148 : decode cX12_continues 148 = .ok (.aload_n 0, 1) := by decide +kernel
theorem dX12_continues_149 : decode cX12_continues 149 = .ok (.dup, 1) := by decide +kernel
theorem dX12_continues_150 : decode cX12_continues 150 = .ok (.getfield 577, 3) := by decide +kernel
theorem dX12_continues_153 : decode cX12_continues 153 = .ok (.iconst 1, 1) := by decide +kernel
theorem dX12_continues_154 : decode cX12_continues 154 = .ok (.iadd, 1) := by decide +kernel
theorem dX12_continues_155 : decode cX12_continues 155 = .ok (.putfield 577, 3) := by decide +kernel
theorem dX12_continues_158 : decode cX12_continues 158 = .ok (.iload_n 1, 1) := by decide +kernel
theorem dX12_continues_159 : decode cX12_continues 159 = .ok (.aload_n 0, 1) := by decide +kernel
theorem dX12_continues_160 : decode cX12_continues 160 = .ok (.getfield 577, 3) := by decide +kernel
theorem dX12_continues_163 : decode cX12_continues 163 = .ok (.iconst 1, 1) := by decide +kernel
theorem dX12_continues_164 : decode cX12_continues 164 = .ok (.isub, 1) := by decide +kernel
theorem dX12_continues_165 : decode cX12_continues 165 = .ok (.if_icmp .ne (-59), 3) := by decide +kernel
theorem dX12_continues_168 : decode cX12_continues 168 = .ok (.iconst 1, 1) := by decide +kernel
theorem dX12_continues_169 : decode cX12_continues 169 = .ok (.ireturn, 1) := by decide +kernel
theorem dX12_continues_170 : decode cX12_continues 170 = .ok (.bipush (-2), 2) := by decide +kernel
theorem dX12_continues_172 : decode cX12_continues 172 = .ok (.ireturn, 1) := by decide +kernel
theorem dX12_continued_0 : decode cX12_continued 0 = .ok (.aload_n 0, 1) := by decide +kernel
theorem dX12_continued_1 : decode cX12_continued 1 = .ok (.iconst 0, 1) := by decide +kernel
theorem dX12_continued_2 : decode cX12_continued 2 = .ok (.putfield 1, 3) := by decide +kernel
theorem dX12_continued_5 : decode cX12_continued 5 = .ok (.aload_n 0, 1) := by decide +kernel
theorem dX12_continued_6 : decode cX12_continued 6 = .ok (.iconst (-1), 1) := by decide +kernel
theorem dX12_continued_7 : decode cX12_continued 7 = .ok (.invokevirtual 580, 3) := by decide +kernel
theorem dX12_continued_10 : decode cX12_continued 10 = .ok (.istore_n 1, 1) := by decide +kernel
theorem dX12_continued_11 : decode cX12_continued 11 = .ok (.aload_n 0, 1) := by decide +kernel
theorem dX12_continued_12 : decode cX12_continued 12 = .ok (.getfield 577, 3) := by decide +kernel
theorem dX12_continued_15 : decode cX12_continued 15 = .ok (.ireturn, 1) := by decide +kernel
theorem dX12_takeContinued_0 : decode cX12_takeContinued 0 = .ok (.aload_n 0, 1) := by decide +kernel
theorem dX12_takeContinued_1 : decode cX12_takeContinued 1 = .ok (.iconst 0, 1) := by decide +kernel
theorem dX12_takeContinued_2 : decode cX12_takeContinued 2 = .ok (.putfield 1, 3) := by decide +kernel
theorem dX12_takeContinued_5 : decode cX12_takeContinued 5 = .ok (.iload_n 1, 1) := by decide +kernel
theorem dX12_takeContinued_6 : decode cX12_takeContinued 6 = .ok (.ifCond .ge 8, 3) := by decide +kernel
theorem dX12_takeContinued_9 : decode cX12_takeContinued 9 = .ok (.bipush (-2), 2) := by decide +kernel
theorem dX12_takeContinued_11 : decode cX12_takeContinued 11 = .ok (.goto 8, 3) := by decide +kernel
theorem dX12_takeContinued_14 : decode cX12_takeContinued 14 = .ok (.aload_n 0, 1) := by decide +kernel
theorem dX12_takeContinued_15 : decode cX12_takeContinued 15 = .ok (.iload_n 1, 1) := by decide +kernel
theorem dX12_takeContinued_16 : decode cX12_takeContinued 16 = .ok (.invokevirtual 580, 3) := by decide +kernel
theorem dX12_takeContinued_19 : decode cX12_takeContinued 19 = .ok (.istore_n 2, 1) := by decide +kernel
theorem dX12_takeContinued_20 : decode cX12_takeContinued 20 = .ok (.aload_n 0, 1) := by decide +kernel
theorem dX12_takeContinued_21 : decode cX12_takeContinued 21 = .ok (.iload_n 2, 1) := by decide +kernel
theorem dX12_takeContinued_22 : decode cX12_takeContinued 22 = .ok (.bipush (-2), 2) := by decide +kernel
theorem dX12_takeContinued_24 : decode cX12_takeContinued 24 = .ok (.if_icmp .le 7, 3) := by decide +kernel
theorem dX12_takeContinued_27 : decode cX12_takeContinued 27 = .ok (.iconst 1, 1) := by decide +kernel
theorem dX12_takeContinued_28 : decode cX12_takeContinued 28 = .ok (.goto 4, 3) := by decide +kernel
theorem dX12_takeContinued_31 : decode cX12_takeContinued 31 = .ok (.iconst 0, 1) := by decide +kernel
theorem dX12_takeContinued_32 : decode cX12_takeContinued 32 = .ok (.iconst 1, 1) := by decide +kernel
theorem dX12_takeContinued_33 : decode cX12_takeContinued 33 = .ok (.invokevirtual 291, 3) := by decide +kernel
theorem dX12_takeContinued_36 : decode cX12_takeContinued 36 = .ok (.ifCond .eq 5, 3) := by decide +kernel
theorem dX12_takeContinued_39 : decode cX12_takeContinued 39 = .ok (.iconst 0, 1) := by decide +kernel
theorem dX12_takeContinued_40 : decode cX12_takeContinued 40 = .ok (.ireturn, 1) := by decide +kernel
theorem dX12_takeContinued_41 : decode cX12_takeContinued 41 = .ok (.aload_n 0, 1) := by decide +kernel
theorem dX12_takeContinued_42 : decode cX12_takeContinued 42 = .ok (.bipush 7, 2) := by decide +kernel
theorem dX12_takeContinued_44 : decode cX12_takeContinued 44 = .ok (.iconst 1, 1) := by decide +kernel
theorem dX12_takeContinued_45 : decode cX12_takeContinued 45 = .ok (.invokevirtual 191, 3) := by decide +kernel
theorem dX12_takeContinued_48 : decode cX12_takeContinued 48 = .ok (.aload_n 0, 1) := by decide +kernel
theorem dX12_takeContinued_49 : decode cX12_takeContinued 49 = .ok (.aload_n 0, 1) := by decide +kernel
theorem dX12_takeContinued_50 : decode cX12_takeContinued 50 = .ok (.iload_n 2, 1) := by decide +kernel
theorem dX12_takeContinued_51 : decode cX12_takeContinued 51 = .ok (.invokevirtual 340, 3) := by decide +kernel
theorem dX12_takeContinued_54 : decode cX12_takeContinued 54 = .ok (.invokevirtual 568, 3) := by decide +kernel
theorem dX12_takeContinued_57 : decode cX12_takeContinued 57 = .ok (.ireturn, 1) := by decide +kernel
theorem dX12_looks_0 : decode cX12_looks 0 = .ok (.aload_n 0, 1) := by decide +kernel
theorem dX12_looks_1 : decode cX12_looks 1 = .ok (.getfield 583, 3) := by decide +kernel
theorem dX12_looks_4 : decode cX12_looks 4 = .ok (.ifCond .le 47, 3) := by decide +kernel
theorem dX12_looks_7 : decode cX12_looks 7 = .ok (.aload_n 0, 1) := by decide +kernel
theorem dX12_looks_8 : decode cX12_looks 8 = .ok (.bipush 6, 2) := by decide +kernel
theorem dX12_looks_10 : decode cX12_looks 10 = .ok (.iconst 5, 1) := by decide +kernel
theorem dX12_looks_11 : decode cX12_looks 11 = .ok (.invokevirtual 181, 3) := by decide +kernel
theorem dX12_looks_14 : decode cX12_looks 14 = .ok (.aload_n 0, 1) := by decide +kernel
theorem dX12_looks_15 : decode cX12_looks 15 = .ok (.bipush 6, 2) := by decide +kernel
theorem dX12_looks_17 : decode cX12_looks 17 = .ok (.aload_n 0, 1) := by decide +kernel
theorem dX12_looks_18 : decode cX12_looks 18 = .ok (.getfield 583, 3) := by decide +kernel
theorem dX12_looks_21 : decode cX12_looks 21 = .ok (.invokevirtual 194, 3) := by decide +kernel
theorem dX12_looks_24 : decode cX12_looks 24 = .ok (.aload_n 0, 1) := by decide +kernel
theorem dX12_looks_25 : decode cX12_looks 25 = .ok (.bipush 7, 2) := by decide +kernel
theorem dX12_looks_27 : decode cX12_looks 27 = .ok (.bipush 14, 2) := by decide +kernel
theorem dX12_looks_29 : decode cX12_looks 29 = .ok (.invokevirtual 181, 3) := by decide +kernel
theorem dX12_looks_32 : decode cX12_looks 32 = .ok (.aload_n 0, 1) := by decide +kernel
theorem dX12_looks_33 : decode cX12_looks 33 = .ok (.bipush 7, 2) := by decide +kernel
theorem dX12_looks_35 : decode cX12_looks 35 = .ok (.iload_n 1, 1) := by decide +kernel
theorem dX12_looks_36 : decode cX12_looks 36 = .ok (.invokevirtual 194, 3) := by decide +kernel
theorem dX12_looks_39 : decode cX12_looks 39 = .ok (.aload_n 0, 1) := by decide +kernel
theorem dX12_looks_40 : decode cX12_looks 40 = .ok (.bipush 6, 2) := by decide +kernel
theorem dX12_looks_42 : decode cX12_looks 42 = .ok (.bipush 7, 2) := by decide +kernel
theorem dX12_looks_44 : decode cX12_looks 44 = .ok (.invokevirtual 185, 3) := by decide +kernel
theorem dX12_looks_47 : decode cX12_looks 47 = .ok (.ifCond .lt 4, 3) := by decide +kernel
theorem dX12_looks_50 : decode cX12_looks 50 = .ok (.return_, 1) := by decide +kernel
theorem dX12_looks_51 : decode cX12_looks 51 = .ok (.aload_n 0, 1) := by decide +kernel
theorem dX12_looks_52 : decode cX12_looks 52 = .ok (.bipush 13, 2) := by decide +kernel
theorem dX12_looks_54 : decode cX12_looks 54 = .ok (.iconst 4, 1) := by decide +kernel
theorem dX12_looks_55 : decode cX12_looks 55 = .ok (.invokevirtual 181, 3) := by decide +kernel
theorem dX12_looks_58 : decode cX12_looks 58 = .ok (.aload_n 0, 1) := by decide +kernel
theorem dX12_looks_59 : decode cX12_looks 59 = .ok (.bipush 14, 2) := by decide +kernel
theorem dX12_looks_61 : decode cX12_looks 61 = .ok (.iconst 5, 1) := by decide +kernel
theorem dX12_looks_62 : decode cX12_looks 62 = .ok (.invokevirtual 181, 3) := by decide +kernel
theorem dX12_looks_65 : decode cX12_looks 65 = .ok (.aload_n 0, 1) := by decide +kernel
theorem dX12_looks_66 : decode cX12_looks 66 = .ok (.iload_n 1, 1) := by decide +kernel
theorem dX12_looks_67 : decode cX12_looks 67 = .ok (.putfield 583, 3) := by decide +kernel
theorem dX12_looks_70 : decode cX12_looks 70 = .ok (.aload_n 0, 1) := by decide +kernel
theorem dX12_looks_71 : decode cX12_looks 71 = .ok (.iload_n 2, 1) := by decide +kernel
theorem dX12_looks_72 : decode cX12_looks 72 = .ok (.putfield 586, 3) := by decide +kernel
theorem dX12_looks_75 : decode cX12_looks 75 = .ok (.return_, 1) := by decide +kernel
theorem dX12_takeBest_0 : decode cX12_takeBest 0 = .ok (.aload_n 0, 1) := by decide +kernel
theorem dX12_takeBest_1 : decode cX12_takeBest 1 = .ok (.iconst 0, 1) := by decide +kernel
theorem dX12_takeBest_2 : decode cX12_takeBest 2 = .ok (.putfield 1, 3) := by decide +kernel
theorem dX12_takeBest_5 : decode cX12_takeBest 5 = .ok (.aload_n 0, 1) := by decide +kernel
theorem dX12_takeBest_6 : decode cX12_takeBest 6 = .ok (.iload_n 1, 1) := by decide +kernel
theorem dX12_takeBest_7 : decode cX12_takeBest 7 = .ok (.iconst 1, 1) := by decide +kernel
theorem dX12_takeBest_8 : decode cX12_takeBest 8 = .ok (.sipush 1000, 3) := by decide +kernel
theorem dX12_takeBest_11 : decode cX12_takeBest 11 = .ok (.invokestatic 251, 3) := by decide +kernel
theorem dX12_takeBest_14 : decode cX12_takeBest 14 = .ok (.iconst 1, 1) := by decide +kernel
theorem dX12_takeBest_15 : decode cX12_takeBest 15 = .ok (.invokevirtual 291, 3) := by decide +kernel
theorem dX12_takeBest_18 : decode cX12_takeBest 18 = .ok (.ifCond .eq 5, 3) := by decide +kernel
theorem dX12_takeBest_21 : decode cX12_takeBest 21 = .ok (.iconst 0, 1) := by decide +kernel
theorem dX12_takeBest_22 : decode cX12_takeBest 22 = .ok (.ireturn, 1) := by decide +kernel
theorem dX12_takeBest_23 : decode cX12_takeBest 23 = .ok (.aload_n 0, 1) := by decide +kernel
theorem dX12_takeBest_24 : decode cX12_takeBest 24 = .ok (.iconst 0, 1) := by decide +kernel
theorem dX12_takeBest_25 : decode cX12_takeBest 25 = .ok (.putfield 583, 3) := by decide +kernel
theorem dX12_takeBest_28 : decode cX12_takeBest 28 = .ok (.aload_n 0, 1) := by decide +kernel
theorem dX12_takeBest_29 : decode cX12_takeBest 29 = .ok (.getfield 20, 3) := by decide +kernel
theorem dX12_takeBest_32 : decode cX12_takeBest 32 = .ok (.aload_n 0, 1) := by decide +kernel
theorem dX12_takeBest_33 : decode cX12_takeBest 33 = .ok (.getfield 170, 3) := by decide +kernel
theorem dX12_takeBest_36 : decode cX12_takeBest 36 = .ok (.iaload, 1) := by decide +kernel
theorem dX12_takeBest_37 : decode cX12_takeBest 37 = .ok (.istore_n 2, 1) := by decide +kernel
theorem dX12_takeBest_38 : decode cX12_takeBest 38 = .ok (.iconst 1, 1) := by decide +kernel
theorem dX12_takeBest_39 : decode cX12_takeBest 39 = .ok (.istore_n 3, 1) := by decide +kernel
theorem dX12_takeBest_40 : decode cX12_takeBest 40 = .ok (.iload_n 3, 1) := by decide +kernel
theorem dX12_takeBest_41 : decode cX12_takeBest 41 = .ok (.iload_n 1, 1) := by decide +kernel
theorem dX12_takeBest_42 : decode cX12_takeBest 42 = .ok (.if_icmp .gt 145, 3) := by decide +kernel
theorem dX12_takeBest_45 : decode cX12_takeBest 45 = .ok (.aload_n 0, 1) := by decide +kernel
theorem dX12_takeBest_46 : decode cX12_takeBest 46 = .ok (.iconst 0, 1) := by decide +kernel
theorem dX12_takeBest_47 : decode cX12_takeBest 47 = .ok (.aload_n 0, 1) := by decide +kernel
theorem dX12_takeBest_48 : decode cX12_takeBest 48 = .ok (.getfield 170, 3) := by decide +kernel
theorem dX12_takeBest_51 : decode cX12_takeBest 51 = .ok (.iconst 0, 1) := by decide +kernel
theorem dX12_takeBest_52 : decode cX12_takeBest 52 = .ok (.invokevirtual 228, 3) := by decide +kernel
theorem dX12_takeBest_55 : decode cX12_takeBest 55 = .ok (.aload_n 0, 1) := by decide +kernel
theorem dX12_takeBest_56 : decode cX12_takeBest 56 = .ok (.iconst 1, 1) := by decide +kernel
theorem dX12_takeBest_57 : decode cX12_takeBest 57 = .ok (.aload_n 0, 1) := by decide +kernel
theorem dX12_takeBest_58 : decode cX12_takeBest 58 = .ok (.getfield 170, 3) := by decide +kernel
theorem dX12_takeBest_61 : decode cX12_takeBest 61 = .ok (.iconst 1, 1) := by decide +kernel
theorem dX12_takeBest_62 : decode cX12_takeBest 62 = .ok (.invokevirtual 228, 3) := by decide +kernel
theorem dX12_takeBest_65 : decode cX12_takeBest 65 = .ok (.aload_n 0, 1) := by decide +kernel
theorem dX12_takeBest_66 : decode cX12_takeBest 66 = .ok (.iconst 0, 1) := by decide +kernel
theorem dX12_takeBest_67 : decode cX12_takeBest 67 = .ok (.iload_n 3, 1) := by decide +kernel
theorem dX12_takeBest_68 : decode cX12_takeBest 68 = .ok (.invokevirtual 194, 3) := by decide +kernel
theorem dX12_takeBest_71 : decode cX12_takeBest 71 = .ok (.aload_n 0, 1) := by decide +kernel
theorem dX12_takeBest_72 : decode cX12_takeBest 72 = .ok (.iconst 0, 1) := by decide +kernel
theorem dX12_takeBest_73 : decode cX12_takeBest 73 = .ok (.iconst 1, 1) := by decide +kernel
theorem dX12_takeBest_74 : decode cX12_takeBest 74 = .ok (.invokevirtual 204, 3) := by decide +kernel
theorem dX12_takeBest_77 : decode cX12_takeBest 77 = .ok (.iconst 0, 1) := by decide +kernel
theorem dX12_takeBest_78 : decode cX12_takeBest 78 = .ok (.istore 4, 2) := by decide +kernel
theorem dX12_takeBest_80 : decode cX12_takeBest 80 = .ok (.iload 4, 2) := by decide +kernel
theorem dX12_takeBest_82 : decode cX12_takeBest 82 = .ok (.iconst 2, 1) := by decide +kernel
theorem dX12_takeBest_83 : decode cX12_takeBest 83 = .ok (.if_icmp .ge 98, 3) := by decide +kernel
theorem dX12_takeBest_86 : decode cX12_takeBest 86 = .ok (.iload 4, 2) := by decide +kernel
theorem dX12_takeBest_88 : decode cX12_takeBest 88 = .ok (.ifCond .ne 7, 3) := by decide +kernel
theorem dX12_takeBest_91 : decode cX12_takeBest 91 = .ok (.iconst 1, 1) := by decide +kernel
theorem dX12_takeBest_92 : decode cX12_takeBest 92 = .ok (.goto 4, 3) := by decide +kernel
theorem dX12_takeBest_95 : decode cX12_takeBest 95 = .ok (.iconst 0, 1) := by decide +kernel
theorem dX12_takeBest_96 : decode cX12_takeBest 96 = .ok (.iload_n 2, 1) := by decide +kernel
theorem dX12_takeBest_97 : decode cX12_takeBest 97 = .ok (.ifCond .ge 7, 3) := by decide +kernel
theorem dX12_takeBest_100 : decode cX12_takeBest 100 = .ok (.iconst 1, 1) := by decide +kernel
theorem dX12_takeBest_101 : decode cX12_takeBest 101 = .ok (.goto 4, 3) := by decide +kernel
theorem dX12_takeBest_104 : decode cX12_takeBest 104 = .ok (.iconst 0, 1) := by decide +kernel
theorem dX12_takeBest_105 : decode cX12_takeBest 105 = .ok (.if_icmp .ne 7, 3) := by decide +kernel
theorem dX12_takeBest_108 : decode cX12_takeBest 108 = .ok (.iconst 1, 1) := by decide +kernel
theorem dX12_takeBest_109 : decode cX12_takeBest 109 = .ok (.goto 4, 3) := by decide +kernel
theorem dX12_takeBest_112 : decode cX12_takeBest 112 = .ok (.iconst 0, 1) := by decide +kernel
theorem dX12_takeBest_113 : decode cX12_takeBest 113 = .ok (.istore 5, 2) := by decide +kernel
theorem dX12_takeBest_115 : decode cX12_takeBest 115 = .ok (.aload_n 0, 1) := by decide +kernel
theorem dX12_takeBest_116 : decode cX12_takeBest 116 = .ok (.iconst 4, 1) := by decide +kernel
theorem dX12_takeBest_117 : decode cX12_takeBest 117 = .ok (.bipush 9, 2) := by decide +kernel
theorem dX12_takeBest_119 : decode cX12_takeBest 119 = .ok (.invokevirtual 181, 3) := by decide +kernel
theorem dX12_takeBest_122 : decode cX12_takeBest 122 = .ok (.aload_n 0, 1) := by decide +kernel
theorem dX12_takeBest_123 : decode cX12_takeBest 123 = .ok (.iconst 5, 1) := by decide +kernel
theorem dX12_takeBest_124 : decode cX12_takeBest 124 = .ok (.bipush 10, 2) := by decide +kernel
theorem dX12_takeBest_126 : decode cX12_takeBest 126 = .ok (.invokevirtual 181, 3) := by decide +kernel
theorem dX12_takeBest_129 : decode cX12_takeBest 129 = .ok (.iload 5, 2) := by decide +kernel
theorem dX12_takeBest_131 : decode cX12_takeBest 131 = .ok (.ifCond .eq 30, 3) := by decide +kernel
theorem dX12_takeBest_134 : decode cX12_takeBest 134 = .ok (.aload_n 0, 1) := by decide +kernel
theorem dX12_takeBest_135 : decode cX12_takeBest 135 = .ok (.bipush 6, 2) := by decide +kernel
theorem dX12_takeBest_137 : decode cX12_takeBest 137 = .ok (.iconst 1, 1) := by decide +kernel
theorem dX12_takeBest_138 : decode cX12_takeBest 138 = .ok (.invokevirtual 191, 3) := by decide +kernel
theorem dX12_takeBest_141 : decode cX12_takeBest 141 = .ok (.aload_n 0, 1) := by decide +kernel
theorem dX12_takeBest_142 : decode cX12_takeBest 142 = .ok (.iconst 4, 1) := by decide +kernel
theorem dX12_takeBest_143 : decode cX12_takeBest 143 = .ok (.bipush 6, 2) := by decide +kernel
theorem dX12_takeBest_145 : decode cX12_takeBest 145 = .ok (.invokevirtual 239, 3) := by decide +kernel
theorem dX12_takeBest_148 : decode cX12_takeBest 148 = .ok (.aload_n 0, 1) := by decide +kernel
theorem dX12_takeBest_149 : decode cX12_takeBest 149 = .ok (.iconst 5, 1) := by decide +kernel
theorem dX12_takeBest_150 : decode cX12_takeBest 150 = .ok (.iconst 1, 1) := by decide +kernel
theorem dX12_takeBest_151 : decode cX12_takeBest 151 = .ok (.invokevirtual 181, 3) := by decide +kernel
theorem dX12_takeBest_154 : decode cX12_takeBest 154 = .ok (.aload_n 0, 1) := by decide +kernel
theorem dX12_takeBest_155 : decode cX12_takeBest 155 = .ok (.iconst 5, 1) := by decide +kernel
theorem dX12_takeBest_156 : decode cX12_takeBest 156 = .ok (.bipush 10, 2) := by decide +kernel
theorem dX12_takeBest_158 : decode cX12_takeBest 158 = .ok (.invokevirtual 242, 3) := by decide +kernel
theorem dX12_takeBest_161 : decode cX12_takeBest 161 = .ok (.aload_n 0, 1) := by decide +kernel
theorem dX12_takeBest_162 : decode cX12_takeBest 162 = .ok (.iload_n 3, 1) := by decide +kernel
theorem dX12_takeBest_163 : decode cX12_takeBest 163 = .ok (.iload_n 2, 1) := by decide +kernel
theorem dX12_takeBest_164 : decode cX12_takeBest 164 = .ok (.ifCond .ge 7, 3) := by decide +kernel
theorem dX12_takeBest_167 : decode cX12_takeBest 167 = .ok (.iconst (-1), 1) := by decide +kernel
theorem dX12_takeBest_168 : decode cX12_takeBest 168 = .ok (.goto 4, 3) := by decide +kernel
theorem dX12_takeBest_171 : decode cX12_takeBest 171 = .ok (.iconst 1, 1) := by decide +kernel
theorem dX12_takeBest_172 : decode cX12_takeBest 172 = .ok (.invokevirtual 589, 3) := by decide +kernel
theorem dX12_takeBest_175 : decode cX12_takeBest 175 = .ok (.iinc 4 1, 3) := by decide +kernel
theorem dX12_takeBest_178 : decode cX12_takeBest 178 = .ok (.goto (-98), 3) := by decide +kernel
theorem dX12_takeBest_181 : decode cX12_takeBest 181 = .ok (.iinc 3 1, 3) := by decide +kernel
theorem dX12_takeBest_184 : decode cX12_takeBest 184 = .ok (.goto (-144), 3) := by decide +kernel
theorem dX12_takeBest_187 : decode cX12_takeBest 187 = .ok (.aload_n 0, 1) := by decide +kernel
theorem dX12_takeBest_188 : decode cX12_takeBest 188 = .ok (.bipush 6, 2) := by decide +kernel
theorem dX12_takeBest_190 : decode cX12_takeBest 190 = .ok (.bipush 13, 2) := by decide +kernel
theorem dX12_takeBest_192 : decode cX12_takeBest 192 = .ok (.invokevirtual 181, 3) := by decide +kernel
theorem dX12_takeBest_195 : decode cX12_takeBest 195 = .ok (.aload_n 0, 1) := by decide +kernel
theorem dX12_takeBest_196 : decode cX12_takeBest 196 = .ok (.bipush 7, 2) := by decide +kernel
theorem dX12_takeBest_198 : decode cX12_takeBest 198 = .ok (.aload_n 0, 1) := by decide +kernel
theorem dX12_takeBest_199 : decode cX12_takeBest 199 = .ok (.getfield 583, 3) := by decide +kernel
theorem dX12_takeBest_202 : decode cX12_takeBest 202 = .ok (.invokevirtual 191, 3) := by decide +kernel
theorem dX12_takeBest_205 : decode cX12_takeBest 205 = .ok (.aload_n 0, 1) := by decide +kernel
theorem dX12_takeBest_206 : decode cX12_takeBest 206 = .ok (.getfield 170, 3) := by decide +kernel
theorem dX12_takeBest_209 : decode cX12_takeBest 209 = .ok (.istore_n 3, 1) := by decide +kernel
theorem dX12_takeBest_210 : decode cX12_takeBest 210 = .ok (.aload_n 0, 1) := by decide +kernel
theorem dX12_takeBest_211 : decode cX12_takeBest 211 = .ok (.aload_n 0, 1) := by decide +kernel
theorem dX12_takeBest_212 : decode cX12_takeBest 212 = .ok (.aload_n 0, 1) := by decide +kernel
theorem dX12_takeBest_213 : decode cX12_takeBest 213 = .ok (.getfield 586, 3) := by decide +kernel
theorem dX12_takeBest_216 : decode cX12_takeBest 216 = .ok (.invokevirtual 340, 3) := by decide +kernel
theorem dX12_takeBest_219 : decode cX12_takeBest 219 = .ok (.invokevirtual 568, 3) := by decide +kernel
theorem dX12_takeBest_222 : decode cX12_takeBest 222 = .ok (.istore 4, 2) := by decide +kernel
theorem dX12_takeBest_224 : decode cX12_takeBest 224 = .ok (.aload_n 0, 1) := by decide +kernel
theorem dX12_takeBest_225 : decode cX12_takeBest 225 = .ok (.aload_n 0, 1) := by decide +kernel
theorem dX12_takeBest_226 : decode cX12_takeBest 226 = .ok (.getfield 170, 3) := by decide +kernel
theorem dX12_takeBest_229 : decode cX12_takeBest 229 = .ok (.iload_n 3, 1) := by decide +kernel
theorem dX12_takeBest_230 : decode cX12_takeBest 230 = .ok (.invokevirtual 279, 3) := by decide +kernel
theorem dX12_takeBest_233 : decode cX12_takeBest 233 = .ok (.ireturn, 1) := by decide +kernel
theorem dX12_findsUnits_0 : decode cX12_findsUnits 0 = .ok (.aload_n 0, 1) := by decide +kernel
theorem dX12_findsUnits_1 : decode cX12_findsUnits 1 = .ok (.getfield 20, 3) := by decide +kernel
theorem dX12_findsUnits_4 : decode cX12_findsUnits 4 = .ok (.aload_n 0, 1) := by decide +kernel
theorem dX12_findsUnits_5 : decode cX12_findsUnits 5 = .ok (.getfield 170, 3) := by decide +kernel
theorem dX12_findsUnits_8 : decode cX12_findsUnits 8 = .ok (.iaload, 1) := by decide +kernel
theorem dX12_findsUnits_9 : decode cX12_findsUnits 9 = .ok (.ifCond .gt 5, 3) := by decide +kernel
theorem dX12_findsUnits_12 : decode cX12_findsUnits 12 = .ok (.iconst (-1), 1) := by decide +kernel
theorem dX12_findsUnits_13 : decode cX12_findsUnits 13 = .ok (.ireturn, 1) := by decide +kernel
theorem dX12_findsUnits_14 : decode cX12_findsUnits 14 = .ok (.aload_n 0, 1) := by decide +kernel
theorem dX12_findsUnits_15 : decode cX12_findsUnits 15 = .ok (.bipush 13, 2) := by decide +kernel
theorem dX12_findsUnits_17 : decode cX12_findsUnits 17 = .ok (.aload_n 0, 1) := by decide +kernel
theorem dX12_findsUnits_18 : decode cX12_findsUnits 18 = .ok (.getfield 170, 3) := by decide +kernel
theorem dX12_findsUnits_21 : decode cX12_findsUnits 21 = .ok (.iconst 0, 1) := by decide +kernel
theorem dX12_findsUnits_22 : decode cX12_findsUnits 22 = .ok (.invokevirtual 228, 3) := by decide +kernel
theorem dX12_findsUnits_25 : decode cX12_findsUnits 25 = .ok (.aload_n 0, 1) := by decide +kernel
theorem dX12_findsUnits_26 : decode cX12_findsUnits 26 = .ok (.bipush 14, 2) := by decide +kernel
theorem dX12_findsUnits_28 : decode cX12_findsUnits 28 = .ok (.aload_n 0, 1) := by decide +kernel
theorem dX12_findsUnits_29 : decode cX12_findsUnits 29 = .ok (.getfield 170, 3) := by decide +kernel
theorem dX12_findsUnits_32 : decode cX12_findsUnits 32 = .ok (.iconst 1, 1) := by decide +kernel
theorem dX12_findsUnits_33 : decode cX12_findsUnits 33 = .ok (.invokevirtual 228, 3) := by decide +kernel
theorem dX12_findsUnits_36 : decode cX12_findsUnits 36 = .ok (.aload_n 0, 1) := by decide +kernel
theorem dX12_findsUnits_37 : decode cX12_findsUnits 37 = .ok (.bipush 13, 2) := by decide +kernel
theorem dX12_findsUnits_39 : decode cX12_findsUnits 39 = .ok (.bipush 14, 2) := by decide +kernel
theorem dX12_findsUnits_41 : decode cX12_findsUnits 41 = .ok (.invokevirtual 185, 3) := by decide +kernel
theorem dX12_findsUnits_44 : decode cX12_findsUnits 44 = .ok (.ifCond .lt 5, 3) := by decide +kernel
theorem dX12_findsUnits_47 : decode cX12_findsUnits 47 = .ok (.iconst (-1), 1) := by decide +kernel
theorem dX12_findsUnits_48 : decode cX12_findsUnits 48 = .ok (.ireturn, 1) := by decide +kernel
theorem dX12_findsUnits_49 : decode cX12_findsUnits 49 = .ok (.iconst 0, 1) := by decide +kernel
theorem dX12_findsUnits_50 : decode cX12_findsUnits 50 = .ok (.istore_n 1, 1) := by decide +kernel
theorem dX12_findsUnits_51 : decode cX12_findsUnits 51 = .ok (.aload_n 0, 1) := by decide +kernel
theorem dX12_findsUnits_52 : decode cX12_findsUnits 52 = .ok (.getfield 17, 3) := by decide +kernel
theorem dX12_findsUnits_55 : decode cX12_findsUnits 55 = .ok (.bipush 13, 2) := by decide +kernel
theorem dX12_findsUnits_57 : decode cX12_findsUnits 57 = .ok (.iaload, 1) := by decide +kernel
theorem dX12_findsUnits_58 : decode cX12_findsUnits 58 = .ok (.ifCond .le 159, 3) := by decide +kernel
theorem dX12_findsUnits_61 : decode cX12_findsUnits 61 = .ok (.iload_n 1, 1) := by decide +kernel
theorem dX12_findsUnits_62 : decode cX12_findsUnits 62 = .ok (.bipush 8, 2) := by decide +kernel
theorem dX12_findsUnits_64 : decode cX12_findsUnits 64 = .ok (.if_icmp .ne 5, 3) := by decide +kernel
theorem dX12_findsUnits_67 : decode cX12_findsUnits 67 = .ok (.iconst (-1), 1) := by decide +kernel
theorem dX12_findsUnits_68 : decode cX12_findsUnits 68 = .ok (.ireturn, 1) := by decide +kernel
theorem dX12_findsUnits_69 : decode cX12_findsUnits 69 = .ok (.aload_n 0, 1) := by decide +kernel
theorem dX12_findsUnits_70 : decode cX12_findsUnits 70 = .ok (.bipush 14, 2) := by decide +kernel
theorem dX12_findsUnits_72 : decode cX12_findsUnits 72 = .ok (.bipush 13, 2) := by decide +kernel
theorem dX12_findsUnits_74 : decode cX12_findsUnits 74 = .ok (.invokevirtual 204, 3) := by decide +kernel
theorem dX12_findsUnits_77 : decode cX12_findsUnits 77 = .ok (.aload_n 0, 1) := by decide +kernel
theorem dX12_findsUnits_78 : decode cX12_findsUnits 78 = .ok (.bipush 6, 2) := by decide +kernel
theorem dX12_findsUnits_80 : decode cX12_findsUnits 80 = .ok (.bipush 9, 2) := by decide +kernel
theorem dX12_findsUnits_82 : decode cX12_findsUnits 82 = .ok (.invokevirtual 181, 3) := by decide +kernel
theorem dX12_findsUnits_85 : decode cX12_findsUnits 85 = .ok (.aload_n 0, 1) := by decide +kernel
theorem dX12_findsUnits_86 : decode cX12_findsUnits 86 = .ok (.iconst 4, 1) := by decide +kernel
theorem dX12_findsUnits_87 : decode cX12_findsUnits 87 = .ok (.iconst 1, 1) := by decide +kernel
theorem dX12_findsUnits_88 : decode cX12_findsUnits 88 = .ok (.invokevirtual 191, 3) := by decide +kernel
theorem dX12_findsUnits_91 : decode cX12_findsUnits 91 = .ok (.aload_n 0, 1) := by decide +kernel
theorem dX12_findsUnits_92 : decode cX12_findsUnits 92 = .ok (.getfield 17, 3) := by decide +kernel
theorem dX12_findsUnits_95 : decode cX12_findsUnits 95 = .ok (.bipush 10, 2) := by decide +kernel
theorem dX12_findsUnits_97 : decode cX12_findsUnits 97 = .ok (.iaload, 1) := by decide +kernel
theorem dX12_findsUnits_98 : decode cX12_findsUnits 98 = .ok (.ifCond .le 10, 3) := by decide +kernel
theorem dX12_findsUnits_101 : decode cX12_findsUnits 101 = .ok (.aload_n 0, 1) := by decide +kernel
theorem dX12_findsUnits_102 : decode cX12_findsUnits 102 = .ok (.bipush 6, 2) := by decide +kernel
theorem dX12_findsUnits_104 : decode cX12_findsUnits 104 = .ok (.iconst 4, 1) := by decide +kernel
theorem dX12_findsUnits_105 : decode cX12_findsUnits 105 = .ok (.invokevirtual 239, 3) := by decide +kernel
theorem dX12_findsUnits_108 : decode cX12_findsUnits 108 = .ok (.aload_n 0, 1) := by decide +kernel
theorem dX12_findsUnits_109 : decode cX12_findsUnits 109 = .ok (.iconst 5, 1) := by decide +kernel
theorem dX12_findsUnits_110 : decode cX12_findsUnits 110 = .ok (.bipush 6, 2) := by decide +kernel
theorem dX12_findsUnits_112 : decode cX12_findsUnits 112 = .ok (.invokevirtual 181, 3) := by decide +kernel
theorem dX12_findsUnits_115 : decode cX12_findsUnits 115 = .ok (.aload_n 0, 1) := by decide +kernel
theorem dX12_findsUnits_116 : decode cX12_findsUnits 116 = .ok (.bipush 7, 2) := by decide +kernel
theorem dX12_findsUnits_118 : decode cX12_findsUnits 118 = .ok (.iconst 1, 1) := by decide +kernel
theorem dX12_findsUnits_119 : decode cX12_findsUnits 119 = .ok (.invokevirtual 191, 3) := by decide +kernel
theorem dX12_findsUnits_122 : decode cX12_findsUnits 122 = .ok (.aload_n 0, 1) := by decide +kernel
theorem dX12_findsUnits_123 : decode cX12_findsUnits 123 = .ok (.getfield 157, 3) := by decide +kernel
theorem dX12_findsUnits_126 : decode cX12_findsUnits 126 = .ok (.iload_n 1, 1) := by decide +kernel
theorem dX12_findsUnits_127 : decode cX12_findsUnits 127 = .ok (.aload_n 0, 1) := by decide +kernel
theorem dX12_findsUnits_128 : decode cX12_findsUnits 128 = .ok (.iconst 1, 1) := by decide +kernel
theorem dX12_findsUnits_129 : decode cX12_findsUnits 129 = .ok (.invokevirtual 340, 3) := by decide +kernel
theorem dX12_findsUnits_132 : decode cX12_findsUnits 132 = .ok (.iastore, 1) := by decide +kernel
theorem dX12_findsUnits_133 : decode cX12_findsUnits 133 = .ok (.aload_n 0, 1) := by decide +kernel
theorem dX12_findsUnits_134 : decode cX12_findsUnits 134 = .ok (.getfield 157, 3) := by decide +kernel
theorem dX12_findsUnits_137 : decode cX12_findsUnits 137 = .ok (.iload_n 1, 1) := by decide +kernel
theorem dX12_findsUnits_138 : decode cX12_findsUnits 138 = .ok (.iaload, 1) := by decide +kernel
theorem dX12_findsUnits_139 : decode cX12_findsUnits 139 = .ok (.iconst (-1), 1) := by decide +kernel
theorem dX12_findsUnits_140 : decode cX12_findsUnits 140 = .ok (.if_icmp .ne 5, 3) := by decide +kernel
theorem dX12_findsUnits_143 : decode cX12_findsUnits 143 = .ok (.iconst (-1), 1) := by decide +kernel
theorem dX12_findsUnits_144 : decode cX12_findsUnits 144 = .ok (.ireturn, 1) := by decide +kernel
theorem dX12_findsUnits_145 : decode cX12_findsUnits 145 = .ok (.iinc 1 1, 3) := by decide +kernel
theorem dX12_findsUnits_148 : decode cX12_findsUnits 148 = .ok (.aload_n 0, 1) := by decide +kernel
theorem dX12_findsUnits_149 : decode cX12_findsUnits 149 = .ok (.bipush 6, 2) := by decide +kernel
theorem dX12_findsUnits_151 : decode cX12_findsUnits 151 = .ok (.bipush 13, 2) := by decide +kernel
theorem dX12_findsUnits_153 : decode cX12_findsUnits 153 = .ok (.iconst 5, 1) := by decide +kernel
theorem dX12_findsUnits_154 : decode cX12_findsUnits 154 = .ok (.invokevirtual 235, 3) := by decide +kernel
theorem dX12_findsUnits_157 : decode cX12_findsUnits 157 = .ok (.aload_n 0, 1) := by decide +kernel
theorem dX12_findsUnits_158 : decode cX12_findsUnits 158 = .ok (.bipush 6, 2) := by decide +kernel
theorem dX12_findsUnits_160 : decode cX12_findsUnits 160 = .ok (.bipush 14, 2) := by decide +kernel
theorem dX12_findsUnits_162 : decode cX12_findsUnits 162 = .ok (.invokevirtual 242, 3) := by decide +kernel
theorem dX12_findsUnits_165 : decode cX12_findsUnits 165 = .ok (.aload_n 0, 1) := by decide +kernel
theorem dX12_findsUnits_166 : decode cX12_findsUnits 166 = .ok (.bipush 7, 2) := by decide +kernel
theorem dX12_findsUnits_168 : decode cX12_findsUnits 168 = .ok (.bipush 14, 2) := by decide +kernel
theorem dX12_findsUnits_170 : decode cX12_findsUnits 170 = .ok (.iconst 5, 1) := by decide +kernel
theorem dX12_findsUnits_171 : decode cX12_findsUnits 171 = .ok (.invokevirtual 235, 3) := by decide +kernel
theorem dX12_findsUnits_174 : decode cX12_findsUnits 174 = .ok (.aload_n 0, 1) := by decide +kernel
theorem dX12_findsUnits_175 : decode cX12_findsUnits 175 = .ok (.invokevirtual 210, 3) := by decide +kernel
theorem dX12_findsUnits_178 : decode cX12_findsUnits 178 = .ok (.aload_n 0, 1) := by decide +kernel
theorem dX12_findsUnits_179 : decode cX12_findsUnits 179 = .ok (.bipush 6, 2) := by decide +kernel
theorem dX12_findsUnits_181 : decode cX12_findsUnits 181 = .ok (.invokevirtual 213, 3) := by decide +kernel
theorem dX12_findsUnits_184 : decode cX12_findsUnits 184 = .ok (.ifCond .eq 12, 3) := by decide +kernel
theorem dX12_findsUnits_187 : decode cX12_findsUnits 187 = .ok (.aload_n 0, 1) := by decide +kernel
theorem dX12_findsUnits_188 : decode cX12_findsUnits 188 = .ok (.bipush 7, 2) := by decide +kernel
theorem dX12_findsUnits_190 : decode cX12_findsUnits 190 = .ok (.invokevirtual 213, 3) := by decide +kernel
theorem dX12_findsUnits_193 : decode cX12_findsUnits 193 = .ok (.ifCond .ne 5, 3) := by decide +kernel
theorem dX12_findsUnits_196 : decode cX12_findsUnits 196 = .ok (.iconst (-1), 1) := by decide +kernel
theorem dX12_findsUnits_197 : decode cX12_findsUnits 197 = .ok (.ireturn, 1) := by decide +kernel
theorem dX12_findsUnits_198 : decode cX12_findsUnits 198 = .ok (.aload_n 0, 1) := by decide +kernel
theorem dX12_findsUnits_199 : decode cX12_findsUnits 199 = .ok (.bipush 13, 2) := by decide +kernel
theorem dX12_findsUnits_201 : decode cX12_findsUnits 201 = .ok (.bipush 6, 2) := by decide +kernel
theorem dX12_findsUnits_203 : decode cX12_findsUnits 203 = .ok (.invokevirtual 181, 3) := by decide +kernel
theorem dX12_findsUnits_206 : decode cX12_findsUnits 206 = .ok (.aload_n 0, 1) := by decide +kernel
theorem dX12_findsUnits_207 : decode cX12_findsUnits 207 = .ok (.bipush 14, 2) := by decide +kernel
theorem dX12_findsUnits_209 : decode cX12_findsUnits 209 = .ok (.bipush 7, 2) := by decide +kernel
theorem dX12_findsUnits_211 : decode cX12_findsUnits 211 = .ok (.invokevirtual 181, 3) := by decide +kernel
theorem dX12_findsUnits_214 : decode cX12_findsUnits 214 = .ok (.goto (-163), 3) := by decide +kernel
theorem dX12_findsUnits_217 : decode cX12_findsUnits 217 = .ok (.iload_n 1, 1) := by decide +kernel
theorem dX12_findsUnits_218 : decode cX12_findsUnits 218 = .ok (.ireturn, 1) := by decide +kernel
theorem dX12_units_0 : decode cX12_units 0 = .ok (.aload_n 0, 1) := by decide +kernel
theorem dX12_units_1 : decode cX12_units 1 = .ok (.iconst 0, 1) := by decide +kernel
theorem dX12_units_2 : decode cX12_units 2 = .ok (.putfield 1, 3) := by decide +kernel
theorem dX12_units_5 : decode cX12_units 5 = .ok (.aload_n 0, 1) := by decide +kernel
theorem dX12_units_6 : decode cX12_units 6 = .ok (.getfield 160, 3) := by decide +kernel
theorem dX12_units_9 : decode cX12_units 9 = .ok (.istore_n 1, 1) := by decide +kernel
theorem dX12_units_10 : decode cX12_units 10 = .ok (.aload_n 0, 1) := by decide +kernel
theorem dX12_units_11 : decode cX12_units 11 = .ok (.invokevirtual 592, 3) := by decide +kernel
theorem dX12_units_14 : decode cX12_units 14 = .ok (.istore_n 2, 1) := by decide +kernel
theorem dX12_units_15 : decode cX12_units 15 = .ok (.aload_n 0, 1) := by decide +kernel
theorem dX12_units_16 : decode cX12_units 16 = .ok (.iload_n 1, 1) := by decide +kernel
theorem dX12_units_17 : decode cX12_units 17 = .ok (.putfield 160, 3) := by decide +kernel
theorem dX12_units_20 : decode cX12_units 20 = .ok (.iload_n 2, 1) := by decide +kernel
theorem dX12_units_21 : decode cX12_units 21 = .ok (.ireturn, 1) := by decide +kernel
theorem dX12_takeUnit_0 : decode cX12_takeUnit 0 = .ok (.aload_n 0, 1) := by decide +kernel
theorem dX12_takeUnit_1 : decode cX12_takeUnit 1 = .ok (.iconst 0, 1) := by decide +kernel
theorem dX12_takeUnit_2 : decode cX12_takeUnit 2 = .ok (.putfield 1, 3) := by decide +kernel
theorem dX12_takeUnit_5 : decode cX12_takeUnit 5 = .ok (.aload_n 0, 1) := by decide +kernel
theorem dX12_takeUnit_6 : decode cX12_takeUnit 6 = .ok (.getfield 160, 3) := by decide +kernel
theorem dX12_takeUnit_9 : decode cX12_takeUnit 9 = .ok (.istore_n 2, 1) := by decide +kernel
theorem dX12_takeUnit_10 : decode cX12_takeUnit 10 = .ok (.aload_n 0, 1) := by decide +kernel
theorem dX12_takeUnit_11 : decode cX12_takeUnit 11 = .ok (.invokevirtual 592, 3) := by decide +kernel
theorem dX12_takeUnit_14 : decode cX12_takeUnit 14 = .ok (.istore_n 3, 1) := by decide +kernel
theorem dX12_takeUnit_15 : decode cX12_takeUnit 15 = .ok (.aload_n 0, 1) := by decide +kernel
theorem dX12_takeUnit_16 : decode cX12_takeUnit 16 = .ok (.iload_n 2, 1) := by decide +kernel
theorem dX12_takeUnit_17 : decode cX12_takeUnit 17 = .ok (.putfield 160, 3) := by decide +kernel
theorem dX12_takeUnit_20 : decode cX12_takeUnit 20 = .ok (.aload_n 0, 1) := by decide +kernel
theorem dX12_takeUnit_21 : decode cX12_takeUnit 21 = .ok (.iload_n 1, 1) := by decide +kernel
theorem dX12_takeUnit_22 : decode cX12_takeUnit 22 = .ok (.iconst 0, 1) := by decide +kernel
theorem dX12_takeUnit_23 : decode cX12_takeUnit 23 = .ok (.iload_n 3, 1) := by decide +kernel
theorem dX12_takeUnit_24 : decode cX12_takeUnit 24 = .ok (.iconst 1, 1) := by decide +kernel
theorem dX12_takeUnit_25 : decode cX12_takeUnit 25 = .ok (.isub, 1) := by decide +kernel
theorem dX12_takeUnit_26 : decode cX12_takeUnit 26 = .ok (.invokestatic 251, 3) := by decide +kernel
theorem dX12_takeUnit_29 : decode cX12_takeUnit 29 = .ok (.iconst 1, 1) := by decide +kernel
theorem dX12_takeUnit_30 : decode cX12_takeUnit 30 = .ok (.invokevirtual 291, 3) := by decide +kernel
theorem dX12_takeUnit_33 : decode cX12_takeUnit 33 = .ok (.ifCond .eq 5, 3) := by decide +kernel
theorem dX12_takeUnit_36 : decode cX12_takeUnit 36 = .ok (.iconst 0, 1) := by decide +kernel
theorem dX12_takeUnit_37 : decode cX12_takeUnit 37 = .ok (.ireturn, 1) := by decide +kernel
theorem dX12_takeUnit_38 : decode cX12_takeUnit 38 = .ok (.aload_n 0, 1) := by decide +kernel
theorem dX12_takeUnit_39 : decode cX12_takeUnit 39 = .ok (.bipush 7, 2) := by decide +kernel
theorem dX12_takeUnit_41 : decode cX12_takeUnit 41 = .ok (.aload_n 0, 1) := by decide +kernel
theorem dX12_takeUnit_42 : decode cX12_takeUnit 42 = .ok (.getfield 157, 3) := by decide +kernel
theorem dX12_takeUnit_45 : decode cX12_takeUnit 45 = .ok (.iload_n 1, 1) := by decide +kernel
theorem dX12_takeUnit_46 : decode cX12_takeUnit 46 = .ok (.iaload, 1) := by decide +kernel
theorem dX12_takeUnit_47 : decode cX12_takeUnit 47 = .ok (.iconst 0, 1) := by decide +kernel
theorem dX12_takeUnit_48 : decode cX12_takeUnit 48 = .ok (.invokevirtual 228, 3) := by decide +kernel
theorem dX12_takeUnit_51 : decode cX12_takeUnit 51 = .ok (.aload_n 0, 1) := by decide +kernel
theorem dX12_takeUnit_52 : decode cX12_takeUnit 52 = .ok (.bipush 6, 2) := by decide +kernel
theorem dX12_takeUnit_54 : decode cX12_takeUnit 54 = .ok (.iconst 1, 1) := by decide +kernel
theorem dX12_takeUnit_55 : decode cX12_takeUnit 55 = .ok (.invokevirtual 191, 3) := by decide +kernel
theorem dX12_takeUnit_58 : decode cX12_takeUnit 58 = .ok (.aload_n 0, 1) := by decide +kernel
theorem dX12_takeUnit_59 : decode cX12_takeUnit 59 = .ok (.aload_n 0, 1) := by decide +kernel
theorem dX12_takeUnit_60 : decode cX12_takeUnit 60 = .ok (.iconst 1, 1) := by decide +kernel
theorem dX12_takeUnit_61 : decode cX12_takeUnit 61 = .ok (.invokevirtual 340, 3) := by decide +kernel
theorem dX12_takeUnit_64 : decode cX12_takeUnit 64 = .ok (.invokevirtual 568, 3) := by decide +kernel
theorem dX12_takeUnit_67 : decode cX12_takeUnit 67 = .ok (.istore 4, 2) := by decide +kernel
theorem dX12_takeUnit_69 : decode cX12_takeUnit 69 = .ok (.aload_n 0, 1) := by decide +kernel
theorem dX12_takeUnit_70 : decode cX12_takeUnit 70 = .ok (.iconst 1, 1) := by decide +kernel
theorem dX12_takeUnit_71 : decode cX12_takeUnit 71 = .ok (.invokevirtual 546, 3) := by decide +kernel
theorem dX12_takeUnit_74 : decode cX12_takeUnit 74 = .ok (.aload_n 0, 1) := by decide +kernel
theorem dX12_takeUnit_75 : decode cX12_takeUnit 75 = .ok (.getfield 540, 3) := by decide +kernel
theorem dX12_takeUnit_78 : decode cX12_takeUnit 78 = .ok (.ireturn, 1) := by decide +kernel
theorem dX12_noRow_0 : decode cX12_noRow 0 = .ok (.aload_n 0, 1) := by decide +kernel
theorem dX12_noRow_1 : decode cX12_noRow 1 = .ok (.iload_n 1, 1) := by decide +kernel
theorem dX12_noRow_2 : decode cX12_noRow 2 = .ok (.iconst 0, 1) := by decide +kernel
theorem dX12_noRow_3 : decode cX12_noRow 3 = .ok (.iconst 2, 1) := by decide +kernel
theorem dX12_noRow_4 : decode cX12_noRow 4 = .ok (.invokestatic 251, 3) := by decide +kernel
theorem dX12_noRow_7 : decode cX12_noRow 7 = .ok (.iconst 1, 1) := by decide +kernel
theorem dX12_noRow_8 : decode cX12_noRow 8 = .ok (.invokevirtual 291, 3) := by decide +kernel
theorem dX12_noRow_11 : decode cX12_noRow 11 = .ok (.ireturn, 1) := by decide +kernel
theorem dX12_manyBelow_0 : decode cX12_manyBelow 0 = .ok (.iconst 0, 1) := by decide +kernel
theorem dX12_manyBelow_1 : decode cX12_manyBelow 1 = .ok (.istore_n 2, 1) := by decide +kernel
theorem dX12_manyBelow_2 : decode cX12_manyBelow 2 = .ok (.iconst 0, 1) := by decide +kernel
theorem dX12_manyBelow_3 : decode cX12_manyBelow 3 = .ok (.istore_n 3, 1) := by decide +kernel
theorem dX12_manyBelow_4 : decode cX12_manyBelow 4 = .ok (.iload_n 3, 1) := by decide +kernel
theorem dX12_manyBelow_5 : decode cX12_manyBelow 5 = .ok (.aload_n 0, 1) := by decide +kernel
theorem dX12_manyBelow_6 : decode cX12_manyBelow 6 = .ok (.getfield 136, 3) := by decide +kernel
theorem dX12_manyBelow_9 : decode cX12_manyBelow 9 = .ok (.iload_n 1, 1) := by decide +kernel
theorem dX12_manyBelow_10 : decode cX12_manyBelow 10 = .ok (.iaload, 1) := by decide +kernel
theorem dX12_manyBelow_11 : decode cX12_manyBelow 11 = .ok (.if_icmp .ge 39, 3) := by decide +kernel
theorem dX12_manyBelow_14 : decode cX12_manyBelow 14 = .ok (.iload_n 2, 1) := by decide +kernel
theorem dX12_manyBelow_15 : decode cX12_manyBelow 15 = .ok (.aload_n 0, 1) := by decide +kernel
theorem dX12_manyBelow_16 : decode cX12_manyBelow 16 = .ok (.aload_n 0, 1) := by decide +kernel
theorem dX12_manyBelow_17 : decode cX12_manyBelow 17 = .ok (.getfield 133, 3) := by decide +kernel
theorem dX12_manyBelow_20 : decode cX12_manyBelow 20 = .ok (.bipush 50, 2) := by decide +kernel
theorem dX12_manyBelow_22 : decode cX12_manyBelow 22 = .ok (.iload_n 1, 1) := by decide +kernel
theorem dX12_manyBelow_23 : decode cX12_manyBelow 23 = .ok (.imul, 1) := by decide +kernel
theorem dX12_manyBelow_24 : decode cX12_manyBelow 24 = .ok (.iload_n 3, 1) := by decide +kernel
theorem dX12_manyBelow_25 : decode cX12_manyBelow 25 = .ok (.iadd, 1) := by decide +kernel
theorem dX12_manyBelow_26 : decode cX12_manyBelow 26 = .ok (.iaload, 1) := by decide +kernel
theorem dX12_manyBelow_27 : decode cX12_manyBelow 27 = .ok (.aload_n 0, 1) := by decide +kernel
theorem dX12_manyBelow_28 : decode cX12_manyBelow 28 = .ok (.getfield 170, 3) := by decide +kernel
theorem dX12_manyBelow_31 : decode cX12_manyBelow 31 = .ok (.invokevirtual 279, 3) := by decide +kernel
theorem dX12_manyBelow_34 : decode cX12_manyBelow 34 = .ok (.ifCond .ge 7, 3) := by decide +kernel
theorem dX12_manyBelow_37 : decode cX12_manyBelow 37 = .ok (.iconst 1, 1) := by decide +kernel
theorem dX12_manyBelow_38 : decode cX12_manyBelow 38 = .ok (.goto 4, 3) := by decide +kernel
theorem dX12_manyBelow_41 : decode cX12_manyBelow 41 = .ok (.iconst 0, 1) := by decide +kernel
theorem dX12_manyBelow_42 : decode cX12_manyBelow 42 = .ok (.iadd, 1) := by decide +kernel
theorem dX12_manyBelow_43 : decode cX12_manyBelow 43 = .ok (.istore_n 2, 1) := by decide +kernel
theorem dX12_manyBelow_44 : decode cX12_manyBelow 44 = .ok (.iinc 3 1, 3) := by decide +kernel
theorem dX12_manyBelow_47 : decode cX12_manyBelow 47 = .ok (.goto (-43), 3) := by decide +kernel
theorem dX12_manyBelow_50 : decode cX12_manyBelow 50 = .ok (.iload_n 2, 1) := by decide +kernel
theorem dX12_manyBelow_51 : decode cX12_manyBelow 51 = .ok (.ireturn, 1) := by decide +kernel
theorem dX12_manySame_0 : decode cX12_manySame 0 = .ok (.iconst 0, 1) := by decide +kernel
theorem dX12_manySame_1 : decode cX12_manySame 1 = .ok (.istore_n 2, 1) := by decide +kernel
theorem dX12_manySame_2 : decode cX12_manySame 2 = .ok (.iconst 0, 1) := by decide +kernel
theorem dX12_manySame_3 : decode cX12_manySame 3 = .ok (.istore_n 3, 1) := by decide +kernel
theorem dX12_manySame_4 : decode cX12_manySame 4 = .ok (.iload_n 3, 1) := by decide +kernel
theorem dX12_manySame_5 : decode cX12_manySame 5 = .ok (.aload_n 0, 1) := by decide +kernel
theorem dX12_manySame_6 : decode cX12_manySame 6 = .ok (.getfield 136, 3) := by decide +kernel
theorem dX12_manySame_9 : decode cX12_manySame 9 = .ok (.iload_n 1, 1) := by decide +kernel
theorem dX12_manySame_10 : decode cX12_manySame 10 = .ok (.iaload, 1) := by decide +kernel
theorem dX12_manySame_11 : decode cX12_manySame 11 = .ok (.if_icmp .ge 39, 3) := by decide +kernel
theorem dX12_manySame_14 : decode cX12_manySame 14 = .ok (.iload_n 2, 1) := by decide +kernel
theorem dX12_manySame_15 : decode cX12_manySame 15 = .ok (.aload_n 0, 1) := by decide +kernel
theorem dX12_manySame_16 : decode cX12_manySame 16 = .ok (.aload_n 0, 1) := by decide +kernel
theorem dX12_manySame_17 : decode cX12_manySame 17 = .ok (.getfield 133, 3) := by decide +kernel
theorem dX12_manySame_20 : decode cX12_manySame 20 = .ok (.bipush 50, 2) := by decide +kernel
theorem dX12_manySame_22 : decode cX12_manySame 22 = .ok (.iload_n 1, 1) := by decide +kernel
theorem dX12_manySame_23 : decode cX12_manySame 23 = .ok (.imul, 1) := by decide +kernel
theorem dX12_manySame_24 : decode cX12_manySame 24 = .ok (.iload_n 3, 1) := by decide +kernel
theorem dX12_manySame_25 : decode cX12_manySame 25 = .ok (.iadd, 1) := by decide +kernel
theorem dX12_manySame_26 : decode cX12_manySame 26 = .ok (.iaload, 1) := by decide +kernel
theorem dX12_manySame_27 : decode cX12_manySame 27 = .ok (.aload_n 0, 1) := by decide +kernel
theorem dX12_manySame_28 : decode cX12_manySame 28 = .ok (.getfield 170, 3) := by decide +kernel
theorem dX12_manySame_31 : decode cX12_manySame 31 = .ok (.invokevirtual 279, 3) := by decide +kernel
theorem dX12_manySame_34 : decode cX12_manySame 34 = .ok (.ifCond .ne 7, 3) := by decide +kernel
theorem dX12_manySame_37 : decode cX12_manySame 37 = .ok (.iconst 1, 1) := by decide +kernel
theorem dX12_manySame_38 : decode cX12_manySame 38 = .ok (.goto 4, 3) := by decide +kernel
theorem dX12_manySame_41 : decode cX12_manySame 41 = .ok (.iconst 0, 1) := by decide +kernel
theorem dX12_manySame_42 : decode cX12_manySame 42 = .ok (.iadd, 1) := by decide +kernel
theorem dX12_manySame_43 : decode cX12_manySame 43 = .ok (.istore_n 2, 1) := by decide +kernel
theorem dX12_manySame_44 : decode cX12_manySame 44 = .ok (.iinc 3 1, 3) := by decide +kernel
theorem dX12_manySame_47 : decode cX12_manySame 47 = .ok (.goto (-43), 3) := by decide +kernel
theorem dX12_manySame_50 : decode cX12_manySame 50 = .ok (.iload_n 2, 1) := by decide +kernel
theorem dX12_manySame_51 : decode cX12_manySame 51 = .ok (.ireturn, 1) := by decide +kernel
theorem dX12_put_0 : decode cX12_put 0 = .ok (.aload_n 0, 1) := by decide +kernel
theorem dX12_put_1 : decode cX12_put 1 = .ok (.iconst 0, 1) := by decide +kernel
theorem dX12_put_2 : decode cX12_put 2 = .ok (.putfield 1, 3) := by decide +kernel
theorem dX12_put_5 : decode cX12_put 5 = .ok (.aload_n 0, 1) := by decide +kernel
theorem dX12_put_6 : decode cX12_put 6 = .ok (.iload_n 1, 1) := by decide +kernel
theorem dX12_put_7 : decode cX12_put 7 = .ok (.invokevirtual 595, 3) := by decide +kernel
theorem dX12_put_10 : decode cX12_put 10 = .ok (.ifCond .ne 27, 3) := by decide +kernel
theorem dX12_put_13 : decode cX12_put 13 = .ok (.aload_n 0, 1) := by decide +kernel
theorem dX12_put_14 : decode cX12_put 14 = .ok (.aload_n 0, 1) := by decide +kernel
theorem dX12_put_15 : decode cX12_put 15 = .ok (.getfield 136, 3) := by decide +kernel
theorem dX12_put_18 : decode cX12_put 18 = .ok (.iload_n 1, 1) := by decide +kernel
theorem dX12_put_19 : decode cX12_put 19 = .ok (.iaload, 1) := by decide +kernel
theorem dX12_put_20 : decode cX12_put 20 = .ok (.bipush 50, 2) := by decide +kernel
theorem dX12_put_22 : decode cX12_put 22 = .ok (.if_icmp .ge 7, 3) := by decide +kernel
theorem dX12_put_25 : decode cX12_put 25 = .ok (.iconst 1, 1) := by decide +kernel
theorem dX12_put_26 : decode cX12_put 26 = .ok (.goto 4, 3) := by decide +kernel
theorem dX12_put_29 : decode cX12_put 29 = .ok (.iconst 0, 1) := by decide +kernel
theorem dX12_put_30 : decode cX12_put 30 = .ok (.iconst 2, 1) := by decide +kernel
theorem dX12_put_31 : decode cX12_put 31 = .ok (.invokevirtual 291, 3) := by decide +kernel
theorem dX12_put_34 : decode cX12_put 34 = .ok (.ifCond .eq 5, 3) := by decide +kernel
theorem dX12_put_37 : decode cX12_put 37 = .ok (.iconst 0, 1) := by decide +kernel
theorem dX12_put_38 : decode cX12_put 38 = .ok (.ireturn, 1) := by decide +kernel
theorem dX12_put_39 : decode cX12_put 39 = .ok (.aload_n 0, 1) := by decide +kernel
theorem dX12_put_40 : decode cX12_put 40 = .ok (.invokevirtual 494, 3) := by decide +kernel
theorem dX12_put_43 : decode cX12_put 43 = .ok (.aload_n 0, 1) := by decide +kernel
theorem dX12_put_44 : decode cX12_put 44 = .ok (.iload_n 1, 1) := by decide +kernel
theorem dX12_put_45 : decode cX12_put 45 = .ok (.invokevirtual 598, 3) := by decide +kernel
theorem dX12_put_48 : decode cX12_put 48 = .ok (.istore_n 2, 1) := by decide +kernel
theorem dX12_put_49 : decode cX12_put 49 = .ok (.aload_n 0, 1) := by decide +kernel
theorem dX12_put_50 : decode cX12_put 50 = .ok (.getfield 136, 3) := by decide +kernel
theorem dX12_put_53 : decode cX12_put 53 = .ok (.iload_n 1, 1) := by decide +kernel
theorem dX12_put_54 : decode cX12_put 54 = .ok (.iaload, 1) := by decide +kernel
theorem dX12_put_55 : decode cX12_put 55 = .ok (.istore_n 3, 1) := by decide +kernel
theorem dX12_put_56 : decode cX12_put 56 = .ok (.iload_n 3, 1) := by decide +kernel
theorem dX12_put_57 : decode cX12_put 57 = .ok (.iload_n 2, 1) := by decide +kernel
theorem dX12_put_58 : decode cX12_put 58 = .ok (.if_icmp .le 33, 3) := by decide +kernel
theorem dX12_put_61 : decode cX12_put 61 = .ok (.aload_n 0, 1) := by decide +kernel
theorem dX12_put_62 : decode cX12_put 62 = .ok (.getfield 133, 3) := by decide +kernel
theorem dX12_put_65 : decode cX12_put 65 = .ok (.bipush 50, 2) := by decide +kernel
theorem dX12_put_67 : decode cX12_put 67 = .ok (.iload_n 1, 1) := by decide +kernel
theorem dX12_put_68 : decode cX12_put 68 = .ok (.imul, 1) := by decide +kernel
theorem dX12_put_69 : decode cX12_put 69 = .ok (.iload_n 3, 1) := by decide +kernel
theorem dX12_put_70 : decode cX12_put 70 = .ok (.iadd, 1) := by decide +kernel
theorem dX12_put_71 : decode cX12_put 71 = .ok (.aload_n 0, 1) := by decide +kernel
theorem dX12_put_72 : decode cX12_put 72 = .ok (.getfield 133, 3) := by decide +kernel
theorem dX12_put_75 : decode cX12_put 75 = .ok (.bipush 50, 2) := by decide +kernel
theorem dX12_put_77 : decode cX12_put 77 = .ok (.iload_n 1, 1) := by decide +kernel
theorem dX12_put_78 : decode cX12_put 78 = .ok (.imul, 1) := by decide +kernel
theorem dX12_put_79 : decode cX12_put 79 = .ok (.iload_n 3, 1) := by decide +kernel
theorem dX12_put_80 : decode cX12_put 80 = .ok (.iadd, 1) := by decide +kernel
theorem dX12_put_81 : decode cX12_put 81 = .ok (.iconst 1, 1) := by decide +kernel
theorem dX12_put_82 : decode cX12_put 82 = .ok (.isub, 1) := by decide +kernel
theorem dX12_put_83 : decode cX12_put 83 = .ok (.iaload, 1) := by decide +kernel
theorem dX12_put_84 : decode cX12_put 84 = .ok (.iastore, 1) := by decide +kernel
theorem dX12_put_85 : decode cX12_put 85 = .ok (.iinc 3 (-1), 3) := by decide +kernel
theorem dX12_put_88 : decode cX12_put 88 = .ok (.goto (-32), 3) := by decide +kernel
theorem dX12_put_91 : decode cX12_put 91 = .ok (.aload_n 0, 1) := by decide +kernel
theorem dX12_put_92 : decode cX12_put 92 = .ok (.getfield 133, 3) := by decide +kernel
theorem dX12_put_95 : decode cX12_put 95 = .ok (.bipush 50, 2) := by decide +kernel
theorem dX12_put_97 : decode cX12_put 97 = .ok (.iload_n 1, 1) := by decide +kernel
theorem dX12_put_98 : decode cX12_put 98 = .ok (.imul, 1) := by decide +kernel
theorem dX12_put_99 : decode cX12_put 99 = .ok (.iload_n 2, 1) := by decide +kernel
theorem dX12_put_100 : decode cX12_put 100 = .ok (.iadd, 1) := by decide +kernel
theorem dX12_put_101 : decode cX12_put 101 = .ok (.aload_n 0, 1) := by decide +kernel
theorem dX12_put_102 : decode cX12_put 102 = .ok (.getfield 170, 3) := by decide +kernel
theorem dX12_put_105 : decode cX12_put 105 = .ok (.iastore, 1) := by decide +kernel
theorem dX12_put_106 : decode cX12_put 106 = .ok (.aload_n 0, 1) := by decide +kernel
theorem dX12_put_107 : decode cX12_put 107 = .ok (.getfield 136, 3) := by decide +kernel
theorem dX12_put_110 : decode cX12_put 110 = .ok (.iload_n 1, 1) := by decide +kernel
theorem dX12_put_111 : decode cX12_put 111 = .ok (.dup2, 1) := by decide +kernel
theorem dX12_put_112 : decode cX12_put 112 = .ok (.iaload, 1) := by decide +kernel
theorem dX12_put_113 : decode cX12_put 113 = .ok (.iconst 1, 1) := by decide +kernel
theorem dX12_put_114 : decode cX12_put 114 = .ok (.iadd, 1) := by decide +kernel
theorem dX12_put_115 : decode cX12_put 115 = .ok (.iastore, 1) := by decide +kernel
theorem dX12_put_116 : decode cX12_put 116 = .ok (.aload_n 0, 1) := by decide +kernel
theorem dX12_put_117 : decode cX12_put 117 = .ok (.invokevirtual 509, 3) := by decide +kernel
theorem dX12_put_120 : decode cX12_put 120 = .ok (.aload_n 0, 1) := by decide +kernel
theorem dX12_put_121 : decode cX12_put 121 = .ok (.getfield 136, 3) := by decide +kernel
theorem dX12_put_124 : decode cX12_put 124 = .ok (.iload_n 1, 1) := by decide +kernel
theorem dX12_put_125 : decode cX12_put 125 = .ok (.iaload, 1) := by decide +kernel
theorem dX12_put_126 : decode cX12_put 126 = .ok (.ireturn, 1) := by decide +kernel
theorem dX12_out_0 : decode cX12_out 0 = .ok (.aload_n 0, 1) := by decide +kernel
theorem dX12_out_1 : decode cX12_out 1 = .ok (.iconst 0, 1) := by decide +kernel
theorem dX12_out_2 : decode cX12_out 2 = .ok (.putfield 1, 3) := by decide +kernel
theorem dX12_out_5 : decode cX12_out 5 = .ok (.aload_n 0, 1) := by decide +kernel
theorem dX12_out_6 : decode cX12_out 6 = .ok (.iload_n 1, 1) := by decide +kernel
theorem dX12_out_7 : decode cX12_out 7 = .ok (.invokevirtual 595, 3) := by decide +kernel
theorem dX12_out_10 : decode cX12_out 10 = .ok (.ifCond .ne 24, 3) := by decide +kernel
theorem dX12_out_13 : decode cX12_out 13 = .ok (.aload_n 0, 1) := by decide +kernel
theorem dX12_out_14 : decode cX12_out 14 = .ok (.aload_n 0, 1) := by decide +kernel
theorem dX12_out_15 : decode cX12_out 15 = .ok (.iload_n 1, 1) := by decide +kernel
theorem dX12_out_16 : decode cX12_out 16 = .ok (.invokevirtual 601, 3) := by decide +kernel
theorem dX12_out_19 : decode cX12_out 19 = .ok (.ifCond .le 7, 3) := by decide +kernel
theorem dX12_out_22 : decode cX12_out 22 = .ok (.iconst 1, 1) := by decide +kernel
theorem dX12_out_23 : decode cX12_out 23 = .ok (.goto 4, 3) := by decide +kernel
theorem dX12_out_26 : decode cX12_out 26 = .ok (.iconst 0, 1) := by decide +kernel
theorem dX12_out_27 : decode cX12_out 27 = .ok (.iconst 2, 1) := by decide +kernel
theorem dX12_out_28 : decode cX12_out 28 = .ok (.invokevirtual 291, 3) := by decide +kernel
theorem dX12_out_31 : decode cX12_out 31 = .ok (.ifCond .eq 5, 3) := by decide +kernel
theorem dX12_out_34 : decode cX12_out 34 = .ok (.iconst 0, 1) := by decide +kernel
theorem dX12_out_35 : decode cX12_out 35 = .ok (.ireturn, 1) := by decide +kernel
theorem dX12_out_36 : decode cX12_out 36 = .ok (.aload_n 0, 1) := by decide +kernel
theorem dX12_out_37 : decode cX12_out 37 = .ok (.invokevirtual 494, 3) := by decide +kernel
theorem dX12_out_40 : decode cX12_out 40 = .ok (.aload_n 0, 1) := by decide +kernel
theorem dX12_out_41 : decode cX12_out 41 = .ok (.iload_n 1, 1) := by decide +kernel
theorem dX12_out_42 : decode cX12_out 42 = .ok (.invokevirtual 598, 3) := by decide +kernel
theorem dX12_out_45 : decode cX12_out 45 = .ok (.istore_n 2, 1) := by decide +kernel
theorem dX12_out_46 : decode cX12_out 46 = .ok (.aload_n 0, 1) := by decide +kernel
theorem dX12_out_47 : decode cX12_out 47 = .ok (.getfield 136, 3) := by decide +kernel
theorem dX12_out_50 : decode cX12_out 50 = .ok (.iload_n 1, 1) := by decide +kernel
theorem dX12_out_51 : decode cX12_out 51 = .ok (.dup2, 1) := by decide +kernel
theorem dX12_out_52 : decode cX12_out 52 = .ok (.iaload, 1) := by decide +kernel
theorem dX12_out_53 : decode cX12_out 53 = .ok (.iconst 1, 1) := by decide +kernel
theorem dX12_out_54 : decode cX12_out 54 = .ok (.isub, 1) := by decide +kernel
theorem dX12_out_55 : decode cX12_out 55 = .ok (.iastore, 1) := by decide +kernel
theorem dX12_out_56 : decode cX12_out 56 = .ok (.iload_n 2, 1) := by decide +kernel
theorem dX12_out_57 : decode cX12_out 57 = .ok (.istore_n 3, 1) := by decide +kernel
theorem dX12_out_58 : decode cX12_out 58 = .ok (.iload_n 3, 1) := by decide +kernel
theorem dX12_out_59 : decode cX12_out 59 = .ok (.aload_n 0, 1) := by decide +kernel
theorem dX12_out_60 : decode cX12_out 60 = .ok (.getfield 136, 3) := by decide +kernel
theorem dX12_out_63 : decode cX12_out 63 = .ok (.iload_n 1, 1) := by decide +kernel
theorem dX12_out_64 : decode cX12_out 64 = .ok (.iaload, 1) := by decide +kernel
theorem dX12_out_65 : decode cX12_out 65 = .ok (.if_icmp .ge 33, 3) := by decide +kernel
theorem dX12_out_68 : decode cX12_out 68 = .ok (.aload_n 0, 1) := by decide +kernel
theorem dX12_out_69 : decode cX12_out 69 = .ok (.getfield 133, 3) := by decide +kernel
theorem dX12_out_72 : decode cX12_out 72 = .ok (.bipush 50, 2) := by decide +kernel
theorem dX12_out_74 : decode cX12_out 74 = .ok (.iload_n 1, 1) := by decide +kernel
theorem dX12_out_75 : decode cX12_out 75 = .ok (.imul, 1) := by decide +kernel
theorem dX12_out_76 : decode cX12_out 76 = .ok (.iload_n 3, 1) := by decide +kernel
theorem dX12_out_77 : decode cX12_out 77 = .ok (.iadd, 1) := by decide +kernel
theorem dX12_out_78 : decode cX12_out 78 = .ok (.aload_n 0, 1) := by decide +kernel
theorem dX12_out_79 : decode cX12_out 79 = .ok (.getfield 133, 3) := by decide +kernel
theorem dX12_out_82 : decode cX12_out 82 = .ok (.bipush 50, 2) := by decide +kernel
theorem dX12_out_84 : decode cX12_out 84 = .ok (.iload_n 1, 1) := by decide +kernel
theorem dX12_out_85 : decode cX12_out 85 = .ok (.imul, 1) := by decide +kernel
theorem dX12_out_86 : decode cX12_out 86 = .ok (.iload_n 3, 1) := by decide +kernel
theorem dX12_out_87 : decode cX12_out 87 = .ok (.iadd, 1) := by decide +kernel
theorem dX12_out_88 : decode cX12_out 88 = .ok (.iconst 1, 1) := by decide +kernel
theorem dX12_out_89 : decode cX12_out 89 = .ok (.iadd, 1) := by decide +kernel
theorem dX12_out_90 : decode cX12_out 90 = .ok (.iaload, 1) := by decide +kernel
theorem dX12_out_91 : decode cX12_out 91 = .ok (.iastore, 1) := by decide +kernel
theorem dX12_out_92 : decode cX12_out 92 = .ok (.iinc 3 1, 3) := by decide +kernel
theorem dX12_out_95 : decode cX12_out 95 = .ok (.goto (-37), 3) := by decide +kernel
theorem dX12_out_98 : decode cX12_out 98 = .ok (.aload_n 0, 1) := by decide +kernel
theorem dX12_out_99 : decode cX12_out 99 = .ok (.invokevirtual 509, 3) := by decide +kernel
theorem dX12_out_102 : decode cX12_out 102 = .ok (.aload_n 0, 1) := by decide +kernel
theorem dX12_out_103 : decode cX12_out 103 = .ok (.getfield 136, 3) := by decide +kernel
theorem dX12_out_106 : decode cX12_out 106 = .ok (.iload_n 1, 1) := by decide +kernel
theorem dX12_out_107 : decode cX12_out 107 = .ok (.iaload, 1) := by decide +kernel
theorem dX12_out_108 : decode cX12_out 108 = .ok (.ireturn, 1) := by decide +kernel
theorem dX12_empty_0 : decode cX12_empty 0 = .ok (.aload_n 0, 1) := by decide +kernel
theorem dX12_empty_1 : decode cX12_empty 1 = .ok (.iconst 0, 1) := by decide +kernel
theorem dX12_empty_2 : decode cX12_empty 2 = .ok (.putfield 1, 3) := by decide +kernel
theorem dX12_empty_5 : decode cX12_empty 5 = .ok (.aload_n 0, 1) := by decide +kernel
theorem dX12_empty_6 : decode cX12_empty 6 = .ok (.iload_n 1, 1) := by decide +kernel
theorem dX12_empty_7 : decode cX12_empty 7 = .ok (.invokevirtual 595, 3) := by decide +kernel
theorem dX12_empty_10 : decode cX12_empty 10 = .ok (.ifCond .eq 5, 3) := by decide +kernel
theorem dX12_empty_13 : decode cX12_empty 13 = .ok (.iconst 0, 1) := by decide +kernel
theorem dX12_empty_14 : decode cX12_empty 14 = .ok (.ireturn, 1) := by decide +kernel
theorem dX12_empty_15 : decode cX12_empty 15 = .ok (.aload_n 0, 1) := by decide +kernel
theorem dX12_empty_16 : decode cX12_empty 16 = .ok (.invokevirtual 494, 3) := by decide +kernel
theorem dX12_empty_19 : decode cX12_empty 19 = .ok (.aload_n 0, 1) := by decide +kernel
theorem dX12_empty_20 : decode cX12_empty 20 = .ok (.getfield 136, 3) := by decide +kernel
theorem dX12_empty_23 : decode cX12_empty 23 = .ok (.iload_n 1, 1) := by decide +kernel
theorem dX12_empty_24 : decode cX12_empty 24 = .ok (.iaload, 1) := by decide +kernel
theorem dX12_empty_25 : decode cX12_empty 25 = .ok (.istore_n 2, 1) := by decide +kernel
theorem dX12_empty_26 : decode cX12_empty 26 = .ok (.aload_n 0, 1) := by decide +kernel
theorem dX12_empty_27 : decode cX12_empty 27 = .ok (.getfield 136, 3) := by decide +kernel
theorem dX12_empty_30 : decode cX12_empty 30 = .ok (.iload_n 1, 1) := by decide +kernel
theorem dX12_empty_31 : decode cX12_empty 31 = .ok (.iconst 0, 1) := by decide +kernel
theorem dX12_empty_32 : decode cX12_empty 32 = .ok (.iastore, 1) := by decide +kernel
theorem dX12_empty_33 : decode cX12_empty 33 = .ok (.aload_n 0, 1) := by decide +kernel
theorem dX12_empty_34 : decode cX12_empty 34 = .ok (.invokevirtual 509, 3) := by decide +kernel
theorem dX12_empty_37 : decode cX12_empty 37 = .ok (.iload_n 2, 1) := by decide +kernel
theorem dX12_empty_38 : decode cX12_empty 38 = .ok (.ireturn, 1) := by decide +kernel
theorem dX12_count_0 : decode cX12_count 0 = .ok (.aload_n 0, 1) := by decide +kernel
theorem dX12_count_1 : decode cX12_count 1 = .ok (.iconst 0, 1) := by decide +kernel
theorem dX12_count_2 : decode cX12_count 2 = .ok (.putfield 1, 3) := by decide +kernel
theorem dX12_count_5 : decode cX12_count 5 = .ok (.aload_n 0, 1) := by decide +kernel
theorem dX12_count_6 : decode cX12_count 6 = .ok (.iload_n 1, 1) := by decide +kernel
theorem dX12_count_7 : decode cX12_count 7 = .ok (.invokevirtual 595, 3) := by decide +kernel
theorem dX12_count_10 : decode cX12_count 10 = .ok (.ifCond .eq 7, 3) := by decide +kernel
theorem dX12_count_13 : decode cX12_count 13 = .ok (.iconst 0, 1) := by decide +kernel
theorem dX12_count_14 : decode cX12_count 14 = .ok (.goto 20, 3) := by decide +kernel
theorem dX12_count_17 : decode cX12_count 17 = .ok (.iload_n 2, 1) := by decide +kernel
theorem dX12_count_18 : decode cX12_count 18 = .ok (.ifCond .eq 11, 3) := by decide +kernel
theorem dX12_count_21 : decode cX12_count 21 = .ok (.aload_n 0, 1) := by decide +kernel
theorem dX12_count_22 : decode cX12_count 22 = .ok (.iload_n 1, 1) := by decide +kernel
theorem dX12_count_23 : decode cX12_count 23 = .ok (.invokevirtual 601, 3) := by decide +kernel
theorem dX12_count_26 : decode cX12_count 26 = .ok (.goto 8, 3) := by decide +kernel
theorem dX12_count_29 : decode cX12_count 29 = .ok (.aload_n 0, 1) := by decide +kernel
theorem dX12_count_30 : decode cX12_count 30 = .ok (.iload_n 1, 1) := by decide +kernel
theorem dX12_count_31 : decode cX12_count 31 = .ok (.invokevirtual 598, 3) := by decide +kernel
theorem dX12_count_34 : decode cX12_count 34 = .ok (.ireturn, 1) := by decide +kernel
theorem dX12_takeLeast_0 : decode cX12_takeLeast 0 = .ok (.aload_n 0, 1) := by decide +kernel
theorem dX12_takeLeast_1 : decode cX12_takeLeast 1 = .ok (.iconst 0, 1) := by decide +kernel
theorem dX12_takeLeast_2 : decode cX12_takeLeast 2 = .ok (.putfield 1, 3) := by decide +kernel
theorem dX12_takeLeast_5 : decode cX12_takeLeast 5 = .ok (.aload_n 0, 1) := by decide +kernel
theorem dX12_takeLeast_6 : decode cX12_takeLeast 6 = .ok (.iload_n 1, 1) := by decide +kernel
theorem dX12_takeLeast_7 : decode cX12_takeLeast 7 = .ok (.invokevirtual 595, 3) := by decide +kernel
theorem dX12_takeLeast_10 : decode cX12_takeLeast 10 = .ok (.ifCond .ne 24, 3) := by decide +kernel
theorem dX12_takeLeast_13 : decode cX12_takeLeast 13 = .ok (.aload_n 0, 1) := by decide +kernel
theorem dX12_takeLeast_14 : decode cX12_takeLeast 14 = .ok (.iload_n 2, 1) := by decide +kernel
theorem dX12_takeLeast_15 : decode cX12_takeLeast 15 = .ok (.iconst 0, 1) := by decide +kernel
theorem dX12_takeLeast_16 : decode cX12_takeLeast 16 = .ok (.aload_n 0, 1) := by decide +kernel
theorem dX12_takeLeast_17 : decode cX12_takeLeast 17 = .ok (.getfield 136, 3) := by decide +kernel
theorem dX12_takeLeast_20 : decode cX12_takeLeast 20 = .ok (.iload_n 1, 1) := by decide +kernel
theorem dX12_takeLeast_21 : decode cX12_takeLeast 21 = .ok (.iaload, 1) := by decide +kernel
theorem dX12_takeLeast_22 : decode cX12_takeLeast 22 = .ok (.iconst 1, 1) := by decide +kernel
theorem dX12_takeLeast_23 : decode cX12_takeLeast 23 = .ok (.isub, 1) := by decide +kernel
theorem dX12_takeLeast_24 : decode cX12_takeLeast 24 = .ok (.invokestatic 251, 3) := by decide +kernel
theorem dX12_takeLeast_27 : decode cX12_takeLeast 27 = .ok (.iconst 2, 1) := by decide +kernel
theorem dX12_takeLeast_28 : decode cX12_takeLeast 28 = .ok (.invokevirtual 291, 3) := by decide +kernel
theorem dX12_takeLeast_31 : decode cX12_takeLeast 31 = .ok (.ifCond .eq 7, 3) := by decide +kernel
theorem dX12_takeLeast_34 : decode cX12_takeLeast 34 = .ok (.iconst 0, 1) := by decide +kernel
theorem dX12_takeLeast_35 : decode cX12_takeLeast 35 = .ok (.goto 18, 3) := by decide +kernel
theorem dX12_takeLeast_38 : decode cX12_takeLeast 38 = .ok (.aload_n 0, 1) := by decide +kernel
theorem dX12_takeLeast_39 : decode cX12_takeLeast 39 = .ok (.aload_n 0, 1) := by decide +kernel
theorem dX12_takeLeast_40 : decode cX12_takeLeast 40 = .ok (.getfield 133, 3) := by decide +kernel
theorem dX12_takeLeast_43 : decode cX12_takeLeast 43 = .ok (.bipush 50, 2) := by decide +kernel
theorem dX12_takeLeast_45 : decode cX12_takeLeast 45 = .ok (.iload_n 1, 1) := by decide +kernel
theorem dX12_takeLeast_46 : decode cX12_takeLeast 46 = .ok (.imul, 1) := by decide +kernel
theorem dX12_takeLeast_47 : decode cX12_takeLeast 47 = .ok (.iload_n 2, 1) := by decide +kernel
theorem dX12_takeLeast_48 : decode cX12_takeLeast 48 = .ok (.iadd, 1) := by decide +kernel
theorem dX12_takeLeast_49 : decode cX12_takeLeast 49 = .ok (.iaload, 1) := by decide +kernel
theorem dX12_takeLeast_50 : decode cX12_takeLeast 50 = .ok (.invokevirtual 568, 3) := by decide +kernel
theorem dX12_takeLeast_53 : decode cX12_takeLeast 53 = .ok (.ireturn, 1) := by decide +kernel
theorem dX12_takeNext_0 : decode cX12_takeNext 0 = .ok (.aload_n 0, 1) := by decide +kernel
theorem dX12_takeNext_1 : decode cX12_takeNext 1 = .ok (.iconst 0, 1) := by decide +kernel
theorem dX12_takeNext_2 : decode cX12_takeNext 2 = .ok (.putfield 1, 3) := by decide +kernel
theorem dX12_takeNext_5 : decode cX12_takeNext 5 = .ok (.aload_n 0, 1) := by decide +kernel
theorem dX12_takeNext_6 : decode cX12_takeNext 6 = .ok (.iload_n 1, 1) := by decide +kernel
theorem dX12_takeNext_7 : decode cX12_takeNext 7 = .ok (.invokevirtual 595, 3) := by decide +kernel
theorem dX12_takeNext_10 : decode cX12_takeNext 10 = .ok (.ifCond .eq 5, 3) := by decide +kernel
theorem dX12_takeNext_13 : decode cX12_takeNext 13 = .ok (.iconst 0, 1) := by decide +kernel
theorem dX12_takeNext_14 : decode cX12_takeNext 14 = .ok (.ireturn, 1) := by decide +kernel
theorem dX12_takeNext_15 : decode cX12_takeNext 15 = .ok (.aload_n 0, 1) := by decide +kernel
theorem dX12_takeNext_16 : decode cX12_takeNext 16 = .ok (.iload_n 1, 1) := by decide +kernel
theorem dX12_takeNext_17 : decode cX12_takeNext 17 = .ok (.invokevirtual 598, 3) := by decide +kernel
theorem dX12_takeNext_20 : decode cX12_takeNext 20 = .ok (.aload_n 0, 1) := by decide +kernel
theorem dX12_takeNext_21 : decode cX12_takeNext 21 = .ok (.iload_n 1, 1) := by decide +kernel
theorem dX12_takeNext_22 : decode cX12_takeNext 22 = .ok (.invokevirtual 601, 3) := by decide +kernel
theorem dX12_takeNext_25 : decode cX12_takeNext 25 = .ok (.iadd, 1) := by decide +kernel
theorem dX12_takeNext_26 : decode cX12_takeNext 26 = .ok (.istore_n 2, 1) := by decide +kernel
theorem dX12_takeNext_27 : decode cX12_takeNext 27 = .ok (.aload_n 0, 1) := by decide +kernel
theorem dX12_takeNext_28 : decode cX12_takeNext 28 = .ok (.iload_n 2, 1) := by decide +kernel
theorem dX12_takeNext_29 : decode cX12_takeNext 29 = .ok (.aload_n 0, 1) := by decide +kernel
theorem dX12_takeNext_30 : decode cX12_takeNext 30 = .ok (.getfield 136, 3) := by decide +kernel
theorem dX12_takeNext_33 : decode cX12_takeNext 33 = .ok (.iload_n 1, 1) := by decide +kernel
theorem dX12_takeNext_34 : decode cX12_takeNext 34 = .ok (.iaload, 1) := by decide +kernel
theorem dX12_takeNext_35 : decode cX12_takeNext 35 = .ok (.if_icmp .ge 7, 3) := by decide +kernel
theorem dX12_takeNext_38 : decode cX12_takeNext 38 = .ok (.iconst 1, 1) := by decide +kernel
theorem dX12_takeNext_39 : decode cX12_takeNext 39 = .ok (.goto 4, 3) := by decide +kernel
theorem dX12_takeNext_42 : decode cX12_takeNext 42 = .ok (.iconst 0, 1) := by decide +kernel
theorem dX12_takeNext_43 : decode cX12_takeNext 43 = .ok (.iconst 2, 1) := by decide +kernel
theorem dX12_takeNext_44 : decode cX12_takeNext 44 = .ok (.invokevirtual 291, 3) := by decide +kernel
theorem dX12_takeNext_47 : decode cX12_takeNext 47 = .ok (.ifCond .eq 5, 3) := by decide +kernel
theorem dX12_takeNext_50 : decode cX12_takeNext 50 = .ok (.iconst 0, 1) := by decide +kernel
theorem dX12_takeNext_51 : decode cX12_takeNext 51 = .ok (.ireturn, 1) := by decide +kernel
theorem dX12_takeNext_52 : decode cX12_takeNext 52 = .ok (.aload_n 0, 1) := by decide +kernel
theorem dX12_takeNext_53 : decode cX12_takeNext 53 = .ok (.aload_n 0, 1) := by decide +kernel
theorem dX12_takeNext_54 : decode cX12_takeNext 54 = .ok (.getfield 133, 3) := by decide +kernel
theorem dX12_takeNext_57 : decode cX12_takeNext 57 = .ok (.bipush 50, 2) := by decide +kernel
theorem dX12_takeNext_59 : decode cX12_takeNext 59 = .ok (.iload_n 1, 1) := by decide +kernel
theorem dX12_takeNext_60 : decode cX12_takeNext 60 = .ok (.imul, 1) := by decide +kernel
theorem dX12_takeNext_61 : decode cX12_takeNext 61 = .ok (.iload_n 2, 1) := by decide +kernel
theorem dX12_takeNext_62 : decode cX12_takeNext 62 = .ok (.iadd, 1) := by decide +kernel
theorem dX12_takeNext_63 : decode cX12_takeNext 63 = .ok (.iaload, 1) := by decide +kernel
theorem dX12_takeNext_64 : decode cX12_takeNext 64 = .ok (.invokevirtual 568, 3) := by decide +kernel
theorem dX12_takeNext_67 : decode cX12_takeNext 67 = .ok (.istore_n 3, 1) := by decide +kernel
theorem dX12_takeNext_68 : decode cX12_takeNext 68 = .ok (.aload_n 0, 1) := by decide +kernel
theorem dX12_takeNext_69 : decode cX12_takeNext 69 = .ok (.iload_n 1, 1) := by decide +kernel
theorem dX12_takeNext_70 : decode cX12_takeNext 70 = .ok (.invokevirtual 601, 3) := by decide +kernel
theorem dX12_takeNext_73 : decode cX12_takeNext 73 = .ok (.ireturn, 1) := by decide +kernel
theorem dX12_joinsAll_0 : decode cX12_joinsAll 0 = .ok (.aload_n 0, 1) := by decide +kernel
theorem dX12_joinsAll_1 : decode cX12_joinsAll 1 = .ok (.bipush 13, 2) := by decide +kernel
theorem dX12_joinsAll_3 : decode cX12_joinsAll 3 = .ok (.iload_n 2, 1) := by decide +kernel
theorem dX12_joinsAll_4 : decode cX12_joinsAll 4 = .ok (.ifCond .eq 7, 3) := by decide +kernel
theorem dX12_joinsAll_7 : decode cX12_joinsAll 7 = .ok (.iconst 0, 1) := by decide +kernel
theorem dX12_joinsAll_8 : decode cX12_joinsAll 8 = .ok (.goto 4, 3) := by decide +kernel
theorem dX12_joinsAll_11 : decode cX12_joinsAll 11 = .ok (.iconst 1, 1) := by decide +kernel
theorem dX12_joinsAll_12 : decode cX12_joinsAll 12 = .ok (.invokevirtual 191, 3) := by decide +kernel
theorem dX12_joinsAll_15 : decode cX12_joinsAll 15 = .ok (.aload_n 0, 1) := by decide +kernel
theorem dX12_joinsAll_16 : decode cX12_joinsAll 16 = .ok (.bipush 14, 2) := by decide +kernel
theorem dX12_joinsAll_18 : decode cX12_joinsAll 18 = .ok (.iconst 1, 1) := by decide +kernel
theorem dX12_joinsAll_19 : decode cX12_joinsAll 19 = .ok (.invokevirtual 191, 3) := by decide +kernel
theorem dX12_joinsAll_22 : decode cX12_joinsAll 22 = .ok (.iload_n 2, 1) := by decide +kernel
theorem dX12_joinsAll_23 : decode cX12_joinsAll 23 = .ok (.ifCond .eq 7, 3) := by decide +kernel
theorem dX12_joinsAll_26 : decode cX12_joinsAll 26 = .ok (.iconst 0, 1) := by decide +kernel
theorem dX12_joinsAll_27 : decode cX12_joinsAll 27 = .ok (.goto 4, 3) := by decide +kernel
theorem dX12_joinsAll_30 : decode cX12_joinsAll 30 = .ok (.iconst 1, 1) := by decide +kernel
theorem dX12_joinsAll_31 : decode cX12_joinsAll 31 = .ok (.istore_n 3, 1) := by decide +kernel
theorem dX12_joinsAll_32 : decode cX12_joinsAll 32 = .ok (.iconst 0, 1) := by decide +kernel
theorem dX12_joinsAll_33 : decode cX12_joinsAll 33 = .ok (.istore 4, 2) := by decide +kernel
theorem dX12_joinsAll_35 : decode cX12_joinsAll 35 = .ok (.iload 4, 2) := by decide +kernel
theorem dX12_joinsAll_37 : decode cX12_joinsAll 37 = .ok (.aload_n 0, 1) := by decide +kernel
theorem dX12_joinsAll_38 : decode cX12_joinsAll 38 = .ok (.getfield 136, 3) := by decide +kernel
theorem dX12_joinsAll_41 : decode cX12_joinsAll 41 = .ok (.iload_n 1, 1) := by decide +kernel
theorem dX12_joinsAll_42 : decode cX12_joinsAll 42 = .ok (.iaload, 1) := by decide +kernel
theorem dX12_joinsAll_43 : decode cX12_joinsAll 43 = .ok (.if_icmp .ge 127, 3) := by decide +kernel
theorem dX12_joinsAll_46 : decode cX12_joinsAll 46 = .ok (.aload_n 0, 1) := by decide +kernel
theorem dX12_joinsAll_47 : decode cX12_joinsAll 47 = .ok (.getfield 133, 3) := by decide +kernel
theorem dX12_joinsAll_50 : decode cX12_joinsAll 50 = .ok (.bipush 50, 2) := by decide +kernel
theorem dX12_joinsAll_52 : decode cX12_joinsAll 52 = .ok (.iload_n 1, 1) := by decide +kernel
theorem dX12_joinsAll_53 : decode cX12_joinsAll 53 = .ok (.imul, 1) := by decide +kernel
theorem dX12_joinsAll_54 : decode cX12_joinsAll 54 = .ok (.iload 4, 2) := by decide +kernel
theorem dX12_joinsAll_56 : decode cX12_joinsAll 56 = .ok (.iadd, 1) := by decide +kernel
theorem dX12_joinsAll_57 : decode cX12_joinsAll 57 = .ok (.iaload, 1) := by decide +kernel
theorem dX12_joinsAll_58 : decode cX12_joinsAll 58 = .ok (.istore 5, 2) := by decide +kernel
theorem dX12_joinsAll_60 : decode cX12_joinsAll 60 = .ok (.aload_n 0, 1) := by decide +kernel
theorem dX12_joinsAll_61 : decode cX12_joinsAll 61 = .ok (.iconst 2, 1) := by decide +kernel
theorem dX12_joinsAll_62 : decode cX12_joinsAll 62 = .ok (.iload 5, 2) := by decide +kernel
theorem dX12_joinsAll_64 : decode cX12_joinsAll 64 = .ok (.iconst 0, 1) := by decide +kernel
theorem dX12_joinsAll_65 : decode cX12_joinsAll 65 = .ok (.invokevirtual 228, 3) := by decide +kernel
theorem dX12_joinsAll_68 : decode cX12_joinsAll 68 = .ok (.aload_n 0, 1) := by decide +kernel
theorem dX12_joinsAll_69 : decode cX12_joinsAll 69 = .ok (.iconst 3, 1) := by decide +kernel
theorem dX12_joinsAll_70 : decode cX12_joinsAll 70 = .ok (.iload 5, 2) := by decide +kernel
theorem dX12_joinsAll_72 : decode cX12_joinsAll 72 = .ok (.iconst 1, 1) := by decide +kernel
theorem dX12_joinsAll_73 : decode cX12_joinsAll 73 = .ok (.invokevirtual 228, 3) := by decide +kernel
theorem dX12_joinsAll_76 : decode cX12_joinsAll 76 = .ok (.iload_n 2, 1) := by decide +kernel
theorem dX12_joinsAll_77 : decode cX12_joinsAll 77 = .ok (.ifCond .eq 43, 3) := by decide +kernel
theorem dX12_joinsAll_80 : decode cX12_joinsAll 80 = .ok (.aload_n 0, 1) := by decide +kernel
theorem dX12_joinsAll_81 : decode cX12_joinsAll 81 = .ok (.iconst 4, 1) := by decide +kernel
theorem dX12_joinsAll_82 : decode cX12_joinsAll 82 = .ok (.bipush 13, 2) := by decide +kernel
theorem dX12_joinsAll_84 : decode cX12_joinsAll 84 = .ok (.iconst 3, 1) := by decide +kernel
theorem dX12_joinsAll_85 : decode cX12_joinsAll 85 = .ok (.invokevirtual 235, 3) := by decide +kernel
theorem dX12_joinsAll_88 : decode cX12_joinsAll 88 = .ok (.aload_n 0, 1) := by decide +kernel
theorem dX12_joinsAll_89 : decode cX12_joinsAll 89 = .ok (.iconst 5, 1) := by decide +kernel
theorem dX12_joinsAll_90 : decode cX12_joinsAll 90 = .ok (.iconst 2, 1) := by decide +kernel
theorem dX12_joinsAll_91 : decode cX12_joinsAll 91 = .ok (.bipush 14, 2) := by decide +kernel
theorem dX12_joinsAll_93 : decode cX12_joinsAll 93 = .ok (.invokevirtual 235, 3) := by decide +kernel
theorem dX12_joinsAll_96 : decode cX12_joinsAll 96 = .ok (.aload_n 0, 1) := by decide +kernel
theorem dX12_joinsAll_97 : decode cX12_joinsAll 97 = .ok (.iload_n 3, 1) := by decide +kernel
theorem dX12_joinsAll_98 : decode cX12_joinsAll 98 = .ok (.aload_n 0, 1) := by decide +kernel
theorem dX12_joinsAll_99 : decode cX12_joinsAll 99 = .ok (.getfield 20, 3) := by decide +kernel
theorem dX12_joinsAll_102 : decode cX12_joinsAll 102 = .ok (.iload 5, 2) := by decide +kernel
theorem dX12_joinsAll_104 : decode cX12_joinsAll 104 = .ok (.iaload, 1) := by decide +kernel
theorem dX12_joinsAll_105 : decode cX12_joinsAll 105 = .ok (.invokevirtual 255, 3) := by decide +kernel
theorem dX12_joinsAll_108 : decode cX12_joinsAll 108 = .ok (.istore_n 3, 1) := by decide +kernel
theorem dX12_joinsAll_109 : decode cX12_joinsAll 109 = .ok (.aload_n 0, 1) := by decide +kernel
theorem dX12_joinsAll_110 : decode cX12_joinsAll 110 = .ok (.bipush 13, 2) := by decide +kernel
theorem dX12_joinsAll_112 : decode cX12_joinsAll 112 = .ok (.bipush 6, 2) := by decide +kernel
theorem dX12_joinsAll_114 : decode cX12_joinsAll 114 = .ok (.invokevirtual 181, 3) := by decide +kernel
theorem dX12_joinsAll_117 : decode cX12_joinsAll 117 = .ok (.goto 30, 3) := by decide +kernel
theorem dX12_joinsAll_120 : decode cX12_joinsAll 120 = .ok (.aload_n 0, 1) := by decide +kernel
theorem dX12_joinsAll_121 : decode cX12_joinsAll 121 = .ok (.bipush 6, 2) := by decide +kernel
theorem dX12_joinsAll_123 : decode cX12_joinsAll 123 = .ok (.bipush 13, 2) := by decide +kernel
theorem dX12_joinsAll_125 : decode cX12_joinsAll 125 = .ok (.iconst 2, 1) := by decide +kernel
theorem dX12_joinsAll_126 : decode cX12_joinsAll 126 = .ok (.invokevirtual 235, 3) := by decide +kernel
theorem dX12_joinsAll_129 : decode cX12_joinsAll 129 = .ok (.aload_n 0, 1) := by decide +kernel
theorem dX12_joinsAll_130 : decode cX12_joinsAll 130 = .ok (.bipush 13, 2) := by decide +kernel
theorem dX12_joinsAll_132 : decode cX12_joinsAll 132 = .ok (.bipush 6, 2) := by decide +kernel
theorem dX12_joinsAll_134 : decode cX12_joinsAll 134 = .ok (.invokevirtual 181, 3) := by decide +kernel
theorem dX12_joinsAll_137 : decode cX12_joinsAll 137 = .ok (.iload_n 3, 1) := by decide +kernel
theorem dX12_joinsAll_138 : decode cX12_joinsAll 138 = .ok (.aload_n 0, 1) := by decide +kernel
theorem dX12_joinsAll_139 : decode cX12_joinsAll 139 = .ok (.getfield 20, 3) := by decide +kernel
theorem dX12_joinsAll_142 : decode cX12_joinsAll 142 = .ok (.iload 5, 2) := by decide +kernel
theorem dX12_joinsAll_144 : decode cX12_joinsAll 144 = .ok (.iaload, 1) := by decide +kernel
theorem dX12_joinsAll_145 : decode cX12_joinsAll 145 = .ok (.imul, 1) := by decide +kernel
theorem dX12_joinsAll_146 : decode cX12_joinsAll 146 = .ok (.istore_n 3, 1) := by decide +kernel
theorem dX12_joinsAll_147 : decode cX12_joinsAll 147 = .ok (.aload_n 0, 1) := by decide +kernel
theorem dX12_joinsAll_148 : decode cX12_joinsAll 148 = .ok (.bipush 7, 2) := by decide +kernel
theorem dX12_joinsAll_150 : decode cX12_joinsAll 150 = .ok (.bipush 14, 2) := by decide +kernel
theorem dX12_joinsAll_152 : decode cX12_joinsAll 152 = .ok (.iconst 3, 1) := by decide +kernel
theorem dX12_joinsAll_153 : decode cX12_joinsAll 153 = .ok (.invokevirtual 235, 3) := by decide +kernel
theorem dX12_joinsAll_156 : decode cX12_joinsAll 156 = .ok (.aload_n 0, 1) := by decide +kernel
theorem dX12_joinsAll_157 : decode cX12_joinsAll 157 = .ok (.bipush 14, 2) := by decide +kernel
theorem dX12_joinsAll_159 : decode cX12_joinsAll 159 = .ok (.bipush 7, 2) := by decide +kernel
theorem dX12_joinsAll_161 : decode cX12_joinsAll 161 = .ok (.invokevirtual 181, 3) := by decide +kernel
theorem dX12_joinsAll_164 : decode cX12_joinsAll 164 = .ok (.iinc 4 1, 3) := by decide +kernel
theorem dX12_joinsAll_167 : decode cX12_joinsAll 167 = .ok (.goto (-132), 3) := by decide +kernel
theorem dX12_joinsAll_170 : decode cX12_joinsAll 170 = .ok (.iload_n 3, 1) := by decide +kernel
theorem dX12_joinsAll_171 : decode cX12_joinsAll 171 = .ok (.ireturn, 1) := by decide +kernel
theorem dX12_takeAll_0 : decode cX12_takeAll 0 = .ok (.aload_n 0, 1) := by decide +kernel
theorem dX12_takeAll_1 : decode cX12_takeAll 1 = .ok (.iconst 0, 1) := by decide +kernel
theorem dX12_takeAll_2 : decode cX12_takeAll 2 = .ok (.putfield 1, 3) := by decide +kernel
theorem dX12_takeAll_5 : decode cX12_takeAll 5 = .ok (.aload_n 0, 1) := by decide +kernel
theorem dX12_takeAll_6 : decode cX12_takeAll 6 = .ok (.iload_n 1, 1) := by decide +kernel
theorem dX12_takeAll_7 : decode cX12_takeAll 7 = .ok (.invokevirtual 595, 3) := by decide +kernel
theorem dX12_takeAll_10 : decode cX12_takeAll 10 = .ok (.ifCond .ne 44, 3) := by decide +kernel
theorem dX12_takeAll_13 : decode cX12_takeAll 13 = .ok (.aload_n 0, 1) := by decide +kernel
theorem dX12_takeAll_14 : decode cX12_takeAll 14 = .ok (.iload_n 2, 1) := by decide +kernel
theorem dX12_takeAll_15 : decode cX12_takeAll 15 = .ok (.iconst 0, 1) := by decide +kernel
theorem dX12_takeAll_16 : decode cX12_takeAll 16 = .ok (.iconst 2, 1) := by decide +kernel
theorem dX12_takeAll_17 : decode cX12_takeAll 17 = .ok (.invokestatic 251, 3) := by decide +kernel
theorem dX12_takeAll_20 : decode cX12_takeAll 20 = .ok (.iconst 1, 1) := by decide +kernel
theorem dX12_takeAll_21 : decode cX12_takeAll 21 = .ok (.invokevirtual 291, 3) := by decide +kernel
theorem dX12_takeAll_24 : decode cX12_takeAll 24 = .ok (.ifCond .ne 30, 3) := by decide +kernel
theorem dX12_takeAll_27 : decode cX12_takeAll 27 = .ok (.aload_n 0, 1) := by decide +kernel
theorem dX12_takeAll_28 : decode cX12_takeAll 28 = .ok (.iload_n 2, 1) := by decide +kernel
theorem dX12_takeAll_29 : decode cX12_takeAll 29 = .ok (.iconst 2, 1) := by decide +kernel
theorem dX12_takeAll_30 : decode cX12_takeAll 30 = .ok (.if_icmp .lt 12, 3) := by decide +kernel
theorem dX12_takeAll_33 : decode cX12_takeAll 33 = .ok (.aload_n 0, 1) := by decide +kernel
theorem dX12_takeAll_34 : decode cX12_takeAll 34 = .ok (.getfield 136, 3) := by decide +kernel
theorem dX12_takeAll_37 : decode cX12_takeAll 37 = .ok (.iload_n 1, 1) := by decide +kernel
theorem dX12_takeAll_38 : decode cX12_takeAll 38 = .ok (.iaload, 1) := by decide +kernel
theorem dX12_takeAll_39 : decode cX12_takeAll 39 = .ok (.ifCond .le 7, 3) := by decide +kernel
theorem dX12_takeAll_42 : decode cX12_takeAll 42 = .ok (.iconst 1, 1) := by decide +kernel
theorem dX12_takeAll_43 : decode cX12_takeAll 43 = .ok (.goto 4, 3) := by decide +kernel
theorem dX12_takeAll_46 : decode cX12_takeAll 46 = .ok (.iconst 0, 1) := by decide +kernel
theorem dX12_takeAll_47 : decode cX12_takeAll 47 = .ok (.iconst 2, 1) := by decide +kernel
theorem dX12_takeAll_48 : decode cX12_takeAll 48 = .ok (.invokevirtual 291, 3) := by decide +kernel
theorem dX12_takeAll_51 : decode cX12_takeAll 51 = .ok (.ifCond .eq 5, 3) := by decide +kernel
theorem dX12_takeAll_54 : decode cX12_takeAll 54 = .ok (.iconst 0, 1) := by decide +kernel
theorem dX12_takeAll_55 : decode cX12_takeAll 55 = .ok (.ireturn, 1) := by decide +kernel
theorem dX12_takeAll_56 : decode cX12_takeAll 56 = .ok (.aload_n 0, 1) := by decide +kernel
theorem dX12_takeAll_57 : decode cX12_takeAll 57 = .ok (.iload_n 1, 1) := by decide +kernel
theorem dX12_takeAll_58 : decode cX12_takeAll 58 = .ok (.iload_n 2, 1) := by decide +kernel
theorem dX12_takeAll_59 : decode cX12_takeAll 59 = .ok (.iconst 1, 1) := by decide +kernel
theorem dX12_takeAll_60 : decode cX12_takeAll 60 = .ok (.if_icmp .eq 7, 3) := by decide +kernel
theorem dX12_takeAll_63 : decode cX12_takeAll 63 = .ok (.iconst 1, 1) := by decide +kernel
theorem dX12_takeAll_64 : decode cX12_takeAll 64 = .ok (.goto 4, 3) := by decide +kernel
theorem dX12_takeAll_67 : decode cX12_takeAll 67 = .ok (.iconst 0, 1) := by decide +kernel
theorem dX12_takeAll_68 : decode cX12_takeAll 68 = .ok (.invokevirtual 604, 3) := by decide +kernel
theorem dX12_takeAll_71 : decode cX12_takeAll 71 = .ok (.istore_n 3, 1) := by decide +kernel
theorem dX12_takeAll_72 : decode cX12_takeAll 72 = .ok (.iload_n 2, 1) := by decide +kernel
theorem dX12_takeAll_73 : decode cX12_takeAll 73 = .ok (.iconst 2, 1) := by decide +kernel
theorem dX12_takeAll_74 : decode cX12_takeAll 74 = .ok (.if_icmp .ne 15, 3) := by decide +kernel
theorem dX12_takeAll_77 : decode cX12_takeAll 77 = .ok (.aload_n 0, 1) := by decide +kernel
theorem dX12_takeAll_78 : decode cX12_takeAll 78 = .ok (.bipush 14, 2) := by decide +kernel
theorem dX12_takeAll_80 : decode cX12_takeAll 80 = .ok (.aload_n 0, 1) := by decide +kernel
theorem dX12_takeAll_81 : decode cX12_takeAll 81 = .ok (.getfield 136, 3) := by decide +kernel
theorem dX12_takeAll_84 : decode cX12_takeAll 84 = .ok (.iload_n 1, 1) := by decide +kernel
theorem dX12_takeAll_85 : decode cX12_takeAll 85 = .ok (.iaload, 1) := by decide +kernel
theorem dX12_takeAll_86 : decode cX12_takeAll 86 = .ok (.invokevirtual 194, 3) := by decide +kernel
theorem dX12_takeAll_89 : decode cX12_takeAll 89 = .ok (.aload_n 0, 1) := by decide +kernel
theorem dX12_takeAll_90 : decode cX12_takeAll 90 = .ok (.bipush 6, 2) := by decide +kernel
theorem dX12_takeAll_92 : decode cX12_takeAll 92 = .ok (.bipush 13, 2) := by decide +kernel
theorem dX12_takeAll_94 : decode cX12_takeAll 94 = .ok (.invokevirtual 181, 3) := by decide +kernel
theorem dX12_takeAll_97 : decode cX12_takeAll 97 = .ok (.aload_n 0, 1) := by decide +kernel
theorem dX12_takeAll_98 : decode cX12_takeAll 98 = .ok (.bipush 7, 2) := by decide +kernel
theorem dX12_takeAll_100 : decode cX12_takeAll 100 = .ok (.bipush 14, 2) := by decide +kernel
theorem dX12_takeAll_102 : decode cX12_takeAll 102 = .ok (.invokevirtual 181, 3) := by decide +kernel
theorem dX12_takeAll_105 : decode cX12_takeAll 105 = .ok (.aload_n 0, 1) := by decide +kernel
theorem dX12_takeAll_106 : decode cX12_takeAll 106 = .ok (.iload_n 3, 1) := by decide +kernel
theorem dX12_takeAll_107 : decode cX12_takeAll 107 = .ok (.invokevirtual 340, 3) := by decide +kernel
theorem dX12_takeAll_110 : decode cX12_takeAll 110 = .ok (.istore 4, 2) := by decide +kernel
theorem dX12_takeAll_112 : decode cX12_takeAll 112 = .ok (.aload_n 0, 1) := by decide +kernel
theorem dX12_takeAll_113 : decode cX12_takeAll 113 = .ok (.iload 4, 2) := by decide +kernel
theorem dX12_takeAll_115 : decode cX12_takeAll 115 = .ok (.iconst (-1), 1) := by decide +kernel
theorem dX12_takeAll_116 : decode cX12_takeAll 116 = .ok (.if_icmp .eq 7, 3) := by decide +kernel
theorem dX12_takeAll_119 : decode cX12_takeAll 119 = .ok (.iconst 1, 1) := by decide +kernel
theorem dX12_takeAll_120 : decode cX12_takeAll 120 = .ok (.goto 4, 3) := by decide +kernel
theorem dX12_takeAll_123 : decode cX12_takeAll 123 = .ok (.iconst 0, 1) := by decide +kernel
theorem dX12_takeAll_124 : decode cX12_takeAll 124 = .ok (.iconst 3, 1) := by decide +kernel
theorem dX12_takeAll_125 : decode cX12_takeAll 125 = .ok (.invokevirtual 291, 3) := by decide +kernel
theorem dX12_takeAll_128 : decode cX12_takeAll 128 = .ok (.ifCond .eq 7, 3) := by decide +kernel
theorem dX12_takeAll_131 : decode cX12_takeAll 131 = .ok (.iconst 0, 1) := by decide +kernel
theorem dX12_takeAll_132 : decode cX12_takeAll 132 = .ok (.goto 9, 3) := by decide +kernel
theorem dX12_takeAll_135 : decode cX12_takeAll 135 = .ok (.aload_n 0, 1) := by decide +kernel
theorem dX12_takeAll_136 : decode cX12_takeAll 136 = .ok (.iload 4, 2) := by decide +kernel
theorem dX12_takeAll_138 : decode cX12_takeAll 138 = .ok (.invokevirtual 568, 3) := by decide +kernel
theorem dX12_takeAll_141 : decode cX12_takeAll 141 = .ok (.ireturn, 1) := by decide +kernel
theorem dX12_meanDigits_0 : decode cX12_meanDigits 0 = .ok (.aload_n 0, 1) := by decide +kernel
theorem dX12_meanDigits_1 : decode cX12_meanDigits 1 = .ok (.iconst 0, 1) := by decide +kernel
theorem dX12_meanDigits_2 : decode cX12_meanDigits 2 = .ok (.putfield 1, 3) := by decide +kernel
theorem dX12_meanDigits_5 : decode cX12_meanDigits 5 = .ok (.iconst 0, 1) := by decide +kernel
theorem dX12_meanDigits_6 : decode cX12_meanDigits 6 = .ok (.istore_n 1, 1) := by decide +kernel
theorem dX12_meanDigits_7 : decode cX12_meanDigits 7 = .ok (.iconst 0, 1) := by decide +kernel
theorem dX12_meanDigits_8 : decode cX12_meanDigits 8 = .ok (.istore_n 2, 1) := by decide +kernel
theorem dX12_meanDigits_9 : decode cX12_meanDigits 9 = .ok (.iload_n 2, 1) := by decide +kernel
theorem dX12_meanDigits_10 : decode cX12_meanDigits 10 = .ok (.aload_n 0, 1) := by decide +kernel
theorem dX12_meanDigits_11 : decode cX12_meanDigits 11 = .ok (.getfield 411, 3) := by decide +kernel
theorem dX12_meanDigits_14 : decode cX12_meanDigits 14 = .ok (.if_icmp .ge 38, 3) := by decide +kernel
theorem dX12_meanDigits_17 : decode cX12_meanDigits 17 = .ok (.aload_n 0, 1) := by decide +kernel
theorem dX12_meanDigits_18 : decode cX12_meanDigits 18 = .ok (.iconst 0, 1) := by decide +kernel
theorem dX12_meanDigits_19 : decode cX12_meanDigits 19 = .ok (.putfield 540, 3) := by decide +kernel
theorem dX12_meanDigits_22 : decode cX12_meanDigits 22 = .ok (.aload_n 0, 1) := by decide +kernel
theorem dX12_meanDigits_23 : decode cX12_meanDigits 23 = .ok (.iconst 0, 1) := by decide +kernel
theorem dX12_meanDigits_24 : decode cX12_meanDigits 24 = .ok (.aload_n 0, 1) := by decide +kernel
theorem dX12_meanDigits_25 : decode cX12_meanDigits 25 = .ok (.getfield 75, 3) := by decide +kernel
theorem dX12_meanDigits_28 : decode cX12_meanDigits 28 = .ok (.iload_n 2, 1) := by decide +kernel
theorem dX12_meanDigits_29 : decode cX12_meanDigits 29 = .ok (.iaload, 1) := by decide +kernel
theorem dX12_meanDigits_30 : decode cX12_meanDigits 30 = .ok (.iconst 1, 1) := by decide +kernel
theorem dX12_meanDigits_31 : decode cX12_meanDigits 31 = .ok (.invokevirtual 228, 3) := by decide +kernel
theorem dX12_meanDigits_34 : decode cX12_meanDigits 34 = .ok (.aload_n 0, 1) := by decide +kernel
theorem dX12_meanDigits_35 : decode cX12_meanDigits 35 = .ok (.iconst 0, 1) := by decide +kernel
theorem dX12_meanDigits_36 : decode cX12_meanDigits 36 = .ok (.invokevirtual 543, 3) := by decide +kernel
theorem dX12_meanDigits_39 : decode cX12_meanDigits 39 = .ok (.iload_n 1, 1) := by decide +kernel
theorem dX12_meanDigits_40 : decode cX12_meanDigits 40 = .ok (.aload_n 0, 1) := by decide +kernel
theorem dX12_meanDigits_41 : decode cX12_meanDigits 41 = .ok (.getfield 540, 3) := by decide +kernel
theorem dX12_meanDigits_44 : decode cX12_meanDigits 44 = .ok (.iadd, 1) := by decide +kernel
theorem dX12_meanDigits_45 : decode cX12_meanDigits 45 = .ok (.istore_n 1, 1) := by decide +kernel
theorem dX12_meanDigits_46 : decode cX12_meanDigits 46 = .ok (.iinc 2 1, 3) := by decide +kernel
theorem dX12_meanDigits_49 : decode cX12_meanDigits 49 = .ok (.goto (-40), 3) := by decide +kernel
theorem dX12_meanDigits_52 : decode cX12_meanDigits 52 = .ok (.aload_n 0, 1) := by decide +kernel
theorem dX12_meanDigits_53 : decode cX12_meanDigits 53 = .ok (.getfield 411, 3) := by decide +kernel
theorem dX12_meanDigits_56 : decode cX12_meanDigits 56 = .ok (.ifCond .ne 7, 3) := by decide +kernel
theorem dX12_meanDigits_59 : decode cX12_meanDigits 59 = .ok (.dconst 0, 1) := by decide +kernel
theorem dX12_meanDigits_60 : decode cX12_meanDigits 60 = .ok (.goto 11, 3) := by decide +kernel
theorem dX12_meanDigits_63 : decode cX12_meanDigits 63 = .ok (.iload_n 1, 1) := by decide +kernel
theorem dX12_meanDigits_64 : decode cX12_meanDigits 64 = .ok (.i2d, 1) := by decide +kernel
theorem dX12_meanDigits_65 : decode cX12_meanDigits 65 = .ok (.aload_n 0, 1) := by decide +kernel
theorem dX12_meanDigits_66 : decode cX12_meanDigits 66 = .ok (.getfield 411, 3) := by decide +kernel
theorem dX12_meanDigits_69 : decode cX12_meanDigits 69 = .ok (.i2d, 1) := by decide +kernel
theorem dX12_meanDigits_70 : decode cX12_meanDigits 70 = .ok (.ddiv, 1) := by decide +kernel
theorem dX12_meanDigits_71 : decode cX12_meanDigits 71 = .ok (.dreturn, 1) := by decide +kernel
theorem dX12_wholes_0 : decode cX12_wholes 0 = .ok (.aload_n 0, 1) := by decide +kernel
theorem dX12_wholes_1 : decode cX12_wholes 1 = .ok (.iconst 0, 1) := by decide +kernel
theorem dX12_wholes_2 : decode cX12_wholes 2 = .ok (.putfield 1, 3) := by decide +kernel
theorem dX12_wholes_5 : decode cX12_wholes 5 = .ok (.iconst 0, 1) := by decide +kernel
theorem dX12_wholes_6 : decode cX12_wholes 6 = .ok (.istore_n 1, 1) := by decide +kernel
theorem dX12_wholes_7 : decode cX12_wholes 7 = .ok (.iconst 0, 1) := by decide +kernel
theorem dX12_wholes_8 : decode cX12_wholes 8 = .ok (.istore_n 2, 1) := by decide +kernel
theorem dX12_wholes_9 : decode cX12_wholes 9 = .ok (.iload_n 2, 1) := by decide +kernel
theorem dX12_wholes_10 : decode cX12_wholes 10 = .ok (.bipush 10, 2) := by decide +kernel
theorem dX12_wholes_12 : decode cX12_wholes 12 = .ok (.if_icmp .ge 30, 3) := by decide +kernel
theorem dX12_wholes_15 : decode cX12_wholes 15 = .ok (.iload_n 1, 1) := by decide +kernel
theorem dX12_wholes_16 : decode cX12_wholes 16 = .ok (.aload_n 0, 1) := by decide +kernel
theorem dX12_wholes_17 : decode cX12_wholes 17 = .ok (.aload_n 0, 1) := by decide +kernel
theorem dX12_wholes_18 : decode cX12_wholes 18 = .ok (.getfield 148, 3) := by decide +kernel
theorem dX12_wholes_21 : decode cX12_wholes 21 = .ok (.iload_n 2, 1) := by decide +kernel
theorem dX12_wholes_22 : decode cX12_wholes 22 = .ok (.iaload, 1) := by decide +kernel
theorem dX12_wholes_23 : decode cX12_wholes 23 = .ok (.invokevirtual 245, 3) := by decide +kernel
theorem dX12_wholes_26 : decode cX12_wholes 26 = .ok (.ifCond .eq 7, 3) := by decide +kernel
theorem dX12_wholes_29 : decode cX12_wholes 29 = .ok (.iconst 1, 1) := by decide +kernel
theorem dX12_wholes_30 : decode cX12_wholes 30 = .ok (.goto 4, 3) := by decide +kernel
theorem dX12_wholes_33 : decode cX12_wholes 33 = .ok (.iconst 0, 1) := by decide +kernel
theorem dX12_wholes_34 : decode cX12_wholes 34 = .ok (.iadd, 1) := by decide +kernel
theorem dX12_wholes_35 : decode cX12_wholes 35 = .ok (.istore_n 1, 1) := by decide +kernel
theorem dX12_wholes_36 : decode cX12_wholes 36 = .ok (.iinc 2 1, 3) := by decide +kernel
theorem dX12_wholes_39 : decode cX12_wholes 39 = .ok (.goto (-30), 3) := by decide +kernel
theorem dX12_wholes_42 : decode cX12_wholes 42 = .ok (.iload_n 1, 1) := by decide +kernel
theorem dX12_wholes_43 : decode cX12_wholes 43 = .ok (.i2f, 1) := by decide +kernel
theorem dX12_wholes_44 : decode cX12_wholes 44 = .ok (.ldc_w 607, 3) := by decide +kernel
theorem dX12_wholes_47 : decode cX12_wholes 47 = .ok (.fdiv, 1) := by decide +kernel
theorem dX12_wholes_48 : decode cX12_wholes 48 = .ok (.freturn, 1) := by decide +kernel
theorem dX12_errors_0 : decode cX12_errors 0 = .ok (.aload_n 0, 1) := by decide +kernel
theorem dX12_errors_1 : decode cX12_errors 1 = .ok (.iconst 0, 1) := by decide +kernel
theorem dX12_errors_2 : decode cX12_errors 2 = .ok (.putfield 1, 3) := by decide +kernel
theorem dX12_errors_5 : decode cX12_errors 5 = .ok (.iconst 0, 1) := by decide +kernel
theorem dX12_errors_6 : decode cX12_errors 6 = .ok (.ireturn, 1) := by decide +kernel
theorem dJ5_init_d00df_0 : decode cJ5_init_d00df 0 = .ok (.aload_n 0, 1) := by decide +kernel
theorem dJ5_init_d00df_1 : decode cJ5_init_d00df 1 = .ok (.invokespecial 3, 3) := by decide +kernel
theorem dJ5_init_d00df_4 : decode cJ5_init_d00df 4 = .ok (.getstatic 18, 3) := by decide +kernel
theorem dJ5_init_d00df_7 : decode cJ5_init_d00df 7 = .ok (.ifCond .eq 18, 3) := by decide +kernel
theorem dJ5_init_d00df_10 : decode cJ5_init_d00df 10 = .ok (.aload_n 0, 1) := by decide +kernel
theorem dJ5_init_d00df_11 : decode cJ5_init_d00df 11 = .ok (.iload_n 1, 1) := by decide +kernel
theorem dJ5_init_d00df_12 : decode cJ5_init_d00df 12 = .ok (.newarray .byte, 2) := by decide +kernel
theorem dJ5_init_d00df_14 : decode cJ5_init_d00df 14 = .ok (.putfield 15, 3) := by decide +kernel
theorem dJ5_init_d00df_17 : decode cJ5_init_d00df 17 = .ok (.aload_n 0, 1) := by decide +kernel
theorem dJ5_init_d00df_18 : decode cJ5_init_d00df 18 = .ok (.iconst 0, 1) := by decide +kernel
theorem dJ5_init_d00df_19 : decode cJ5_init_d00df 19 = .ok (.putfield 22, 3) := by decide +kernel
theorem dJ5_init_d00df_22 : decode cJ5_init_d00df 22 = .ok (.goto 16, 3) := by decide +kernel
theorem dJ5_init_d00df_25 : decode cJ5_init_d00df 25 = .ok (.aload_n 0, 1) := by decide +kernel
theorem dJ5_init_d00df_26 : decode cJ5_init_d00df 26 = .ok (.iload_n 1, 1) := by decide +kernel
theorem dJ5_init_d00df_27 : decode cJ5_init_d00df 27 = .ok (.invokestatic 26, 3) := by decide +kernel
theorem dJ5_init_d00df_30 : decode cJ5_init_d00df 30 = .ok (.putfield 15, 3) := by decide +kernel
theorem dJ5_init_d00df_33 : decode cJ5_init_d00df 33 = .ok (.aload_n 0, 1) := by decide +kernel
theorem dJ5_init_d00df_34 : decode cJ5_init_d00df 34 = .ok (.iconst 1, 1) := by decide +kernel
theorem dJ5_init_d00df_35 : decode cJ5_init_d00df 35 = .ok (.putfield 22, 3) := by decide +kernel
theorem dJ5_init_d00df_38 : decode cJ5_init_d00df 38 = .ok (.return_, 1) := by decide +kernel
theorem dJ5_length_8abf5_0 : decode cJ5_length_8abf5 0 = .ok (.aload_n 0, 1) := by decide +kernel
theorem dJ5_length_8abf5_1 : decode cJ5_length_8abf5 1 = .ok (.getfield 79, 3) := by decide +kernel
theorem dJ5_length_8abf5_4 : decode cJ5_length_8abf5 4 = .ok (.ireturn, 1) := by decide +kernel
theorem dJ5_ensureCapacityInternal_d00df_0 : decode cJ5_ensureCapacityInternal_d00df 0 = .ok (.aload_n 0, 1) := by decide +kernel
theorem dJ5_ensureCapacityInternal_d00df_1 : decode cJ5_ensureCapacityInternal_d00df 1 = .ok (.getfield 15, 3) := by decide +kernel
theorem dJ5_ensureCapacityInternal_d00df_4 : decode cJ5_ensureCapacityInternal_d00df 4 = .ok (.arraylength, 1) := by decide +kernel
theorem dJ5_ensureCapacityInternal_d00df_5 : decode cJ5_ensureCapacityInternal_d00df 5 = .ok (.aload_n 0, 1) := by decide +kernel
theorem dJ5_ensureCapacityInternal_d00df_6 : decode cJ5_ensureCapacityInternal_d00df 6 = .ok (.getfield 22, 3) := by decide +kernel
theorem dJ5_ensureCapacityInternal_d00df_9 : decode cJ5_ensureCapacityInternal_d00df 9 = .ok (.ishr, 1) := by decide +kernel
theorem dJ5_ensureCapacityInternal_d00df_10 : decode cJ5_ensureCapacityInternal_d00df 10 = .ok (.istore_n 2, 1) := by decide +kernel
theorem dJ5_ensureCapacityInternal_d00df_11 : decode cJ5_ensureCapacityInternal_d00df 11 = .ok (.iload_n 1, 1) := by decide +kernel
theorem dJ5_ensureCapacityInternal_d00df_12 : decode cJ5_ensureCapacityInternal_d00df 12 = .ok (.iload_n 2, 1) := by decide +kernel
theorem dJ5_ensureCapacityInternal_d00df_13 : decode cJ5_ensureCapacityInternal_d00df 13 = .ok (.isub, 1) := by decide +kernel
theorem dJ5_ensureCapacityInternal_d00df_14 : decode cJ5_ensureCapacityInternal_d00df 14 = .ok (.ifCond .le 24, 3) := by decide +kernel
theorem dJ5_ensureCapacityInternal_d00df_17 : decode cJ5_ensureCapacityInternal_d00df 17 = .ok (.aload_n 0, 1) := by decide +kernel
theorem dJ5_ensureCapacityInternal_d00df_18 : decode cJ5_ensureCapacityInternal_d00df 18 = .ok (.aload_n 0, 1) := by decide +kernel
theorem dJ5_ensureCapacityInternal_d00df_19 : decode cJ5_ensureCapacityInternal_d00df 19 = .ok (.getfield 15, 3) := by decide +kernel
theorem dJ5_ensureCapacityInternal_d00df_22 : decode cJ5_ensureCapacityInternal_d00df 22 = .ok (.aload_n 0, 1) := by decide +kernel
theorem dJ5_ensureCapacityInternal_d00df_23 : decode cJ5_ensureCapacityInternal_d00df 23 = .ok (.iload_n 1, 1) := by decide +kernel
theorem dJ5_ensureCapacityInternal_d00df_24 : decode cJ5_ensureCapacityInternal_d00df 24 = .ok (.invokevirtual 104, 3) := by decide +kernel
theorem dJ5_ensureCapacityInternal_d00df_27 : decode cJ5_ensureCapacityInternal_d00df 27 = .ok (.aload_n 0, 1) := by decide +kernel
theorem dJ5_ensureCapacityInternal_d00df_28 : decode cJ5_ensureCapacityInternal_d00df 28 = .ok (.getfield 22, 3) := by decide +kernel
theorem dJ5_ensureCapacityInternal_d00df_31 : decode cJ5_ensureCapacityInternal_d00df 31 = .ok (.ishl, 1) := by decide +kernel
theorem dJ5_ensureCapacityInternal_d00df_32 : decode cJ5_ensureCapacityInternal_d00df 32 = .ok (.invokestatic 108, 3) := by decide +kernel
theorem dJ5_ensureCapacityInternal_d00df_35 : decode cJ5_ensureCapacityInternal_d00df 35 = .ok (.putfield 15, 3) := by decide +kernel
theorem dJ5_ensureCapacityInternal_d00df_38 : decode cJ5_ensureCapacityInternal_d00df 38 = .ok (.return_, 1) := by decide +kernel
theorem dJ5_newCapacity_0f7a4_0 : decode cJ5_newCapacity_0f7a4 0 = .ok (.aload_n 0, 1) := by decide +kernel
theorem dJ5_newCapacity_0f7a4_1 : decode cJ5_newCapacity_0f7a4 1 = .ok (.getfield 15, 3) := by decide +kernel
theorem dJ5_newCapacity_0f7a4_4 : decode cJ5_newCapacity_0f7a4 4 = .ok (.arraylength, 1) := by decide +kernel
theorem dJ5_newCapacity_0f7a4_5 : decode cJ5_newCapacity_0f7a4 5 = .ok (.istore_n 2, 1) := by decide +kernel
theorem dJ5_newCapacity_0f7a4_6 : decode cJ5_newCapacity_0f7a4 6 = .ok (.iload_n 1, 1) := by decide +kernel
theorem dJ5_newCapacity_0f7a4_7 : decode cJ5_newCapacity_0f7a4 7 = .ok (.aload_n 0, 1) := by decide +kernel
theorem dJ5_newCapacity_0f7a4_8 : decode cJ5_newCapacity_0f7a4 8 = .ok (.getfield 22, 3) := by decide +kernel
theorem dJ5_newCapacity_0f7a4_11 : decode cJ5_newCapacity_0f7a4 11 = .ok (.ishl, 1) := by decide +kernel
theorem dJ5_newCapacity_0f7a4_12 : decode cJ5_newCapacity_0f7a4 12 = .ok (.istore_n 3, 1) := by decide +kernel
theorem dJ5_newCapacity_0f7a4_13 : decode cJ5_newCapacity_0f7a4 13 = .ok (.iload_n 3, 1) := by decide +kernel
theorem dJ5_newCapacity_0f7a4_14 : decode cJ5_newCapacity_0f7a4 14 = .ok (.iload_n 2, 1) := by decide +kernel
theorem dJ5_newCapacity_0f7a4_15 : decode cJ5_newCapacity_0f7a4 15 = .ok (.isub, 1) := by decide +kernel
theorem dJ5_newCapacity_0f7a4_16 : decode cJ5_newCapacity_0f7a4 16 = .ok (.istore 4, 2) := by decide +kernel
theorem dJ5_newCapacity_0f7a4_18 : decode cJ5_newCapacity_0f7a4 18 = .ok (.iload_n 2, 1) := by decide +kernel
theorem dJ5_newCapacity_0f7a4_19 : decode cJ5_newCapacity_0f7a4 19 = .ok (.iload 4, 2) := by decide +kernel
theorem dJ5_newCapacity_0f7a4_21 : decode cJ5_newCapacity_0f7a4 21 = .ok (.iload_n 2, 1) := by decide +kernel
theorem dJ5_newCapacity_0f7a4_22 : decode cJ5_newCapacity_0f7a4 22 = .ok (.iconst 2, 1) := by decide +kernel
theorem dJ5_newCapacity_0f7a4_23 : decode cJ5_newCapacity_0f7a4 23 = .ok (.aload_n 0, 1) := by decide +kernel
theorem dJ5_newCapacity_0f7a4_24 : decode cJ5_newCapacity_0f7a4 24 = .ok (.getfield 22, 3) := by decide +kernel
theorem dJ5_newCapacity_0f7a4_27 : decode cJ5_newCapacity_0f7a4 27 = .ok (.ishl, 1) := by decide +kernel
theorem dJ5_newCapacity_0f7a4_28 : decode cJ5_newCapacity_0f7a4 28 = .ok (.iadd, 1) := by decide +kernel
theorem dJ5_newCapacity_0f7a4_29 : decode cJ5_newCapacity_0f7a4 29 = .ok (.invokestatic 114, 3) := by decide +kernel
theorem dJ5_newCapacity_0f7a4_32 : decode cJ5_newCapacity_0f7a4 32 = .ok (.istore 5, 2) := by decide +kernel
theorem dJ5_newCapacity_0f7a4_34 : decode cJ5_newCapacity_0f7a4 34 = .ok (.iload 5, 2) := by decide +kernel
theorem dJ5_newCapacity_0f7a4_36 : decode cJ5_newCapacity_0f7a4 36 = .ok (.ldc 39, 2) := by decide +kernel
theorem dJ5_newCapacity_0f7a4_38 : decode cJ5_newCapacity_0f7a4 38 = .ok (.if_icmp .ne 13, 3) := by decide +kernel
theorem dJ5_newCapacity_0f7a4_41 : decode cJ5_newCapacity_0f7a4 41 = .ok (.new 120, 3) := by decide +kernel
theorem dJ5_newCapacity_0f7a4_44 : decode cJ5_newCapacity_0f7a4 44 = .ok (.dup, 1) := by decide +kernel
theorem dJ5_newCapacity_0f7a4_45 : decode cJ5_newCapacity_0f7a4 45 = .ok (.ldc 122, 2) := by decide +kernel
theorem dJ5_newCapacity_0f7a4_47 : decode cJ5_newCapacity_0f7a4 47 = .ok (.invokespecial 124, 3) := by decide +kernel
theorem dJ5_newCapacity_0f7a4_50 : decode cJ5_newCapacity_0f7a4 50 = .ok (.athrow, 1) := by decide +kernel
theorem dJ5_newCapacity_0f7a4_51 : decode cJ5_newCapacity_0f7a4 51 = .ok (.iload 5, 2) := by decide +kernel
theorem dJ5_newCapacity_0f7a4_53 : decode cJ5_newCapacity_0f7a4 53 = .ok (.aload_n 0, 1) := by decide +kernel
theorem dJ5_newCapacity_0f7a4_54 : decode cJ5_newCapacity_0f7a4 54 = .ok (.getfield 22, 3) := by decide +kernel
theorem dJ5_newCapacity_0f7a4_57 : decode cJ5_newCapacity_0f7a4 57 = .ok (.ishr, 1) := by decide +kernel
theorem dJ5_newCapacity_0f7a4_58 : decode cJ5_newCapacity_0f7a4 58 = .ok (.ireturn, 1) := by decide +kernel
theorem dJ5_inflate_da8c8_0 : decode cJ5_inflate_da8c8 0 = .ok (.aload_n 0, 1) := by decide +kernel
theorem dJ5_inflate_da8c8_1 : decode cJ5_inflate_da8c8 1 = .ok (.invokevirtual 83, 3) := by decide +kernel
theorem dJ5_inflate_da8c8_4 : decode cJ5_inflate_da8c8 4 = .ok (.ifCond .ne 4, 3) := by decide +kernel
theorem dJ5_inflate_da8c8_7 : decode cJ5_inflate_da8c8 7 = .ok (.return_, 1) := by decide +kernel
theorem dJ5_inflate_da8c8_8 : decode cJ5_inflate_da8c8 8 = .ok (.aload_n 0, 1) := by decide +kernel
theorem dJ5_inflate_da8c8_9 : decode cJ5_inflate_da8c8 9 = .ok (.getfield 15, 3) := by decide +kernel
theorem dJ5_inflate_da8c8_12 : decode cJ5_inflate_da8c8 12 = .ok (.arraylength, 1) := by decide +kernel
theorem dJ5_inflate_da8c8_13 : decode cJ5_inflate_da8c8 13 = .ok (.invokestatic 26, 3) := by decide +kernel
theorem dJ5_inflate_da8c8_16 : decode cJ5_inflate_da8c8 16 = .ok (.astore_n 1, 1) := by decide +kernel
theorem dJ5_inflate_da8c8_17 : decode cJ5_inflate_da8c8 17 = .ok (.aload_n 0, 1) := by decide +kernel
theorem dJ5_inflate_da8c8_18 : decode cJ5_inflate_da8c8 18 = .ok (.getfield 15, 3) := by decide +kernel
theorem dJ5_inflate_da8c8_21 : decode cJ5_inflate_da8c8 21 = .ok (.iconst 0, 1) := by decide +kernel
theorem dJ5_inflate_da8c8_22 : decode cJ5_inflate_da8c8 22 = .ok (.aload_n 1, 1) := by decide +kernel
theorem dJ5_inflate_da8c8_23 : decode cJ5_inflate_da8c8 23 = .ok (.iconst 0, 1) := by decide +kernel
theorem dJ5_inflate_da8c8_24 : decode cJ5_inflate_da8c8 24 = .ok (.aload_n 0, 1) := by decide +kernel
theorem dJ5_inflate_da8c8_25 : decode cJ5_inflate_da8c8 25 = .ok (.getfield 79, 3) := by decide +kernel
theorem dJ5_inflate_da8c8_28 : decode cJ5_inflate_da8c8 28 = .ok (.invokestatic 125, 3) := by decide +kernel
theorem dJ5_inflate_da8c8_31 : decode cJ5_inflate_da8c8 31 = .ok (.aload_n 0, 1) := by decide +kernel
theorem dJ5_inflate_da8c8_32 : decode cJ5_inflate_da8c8 32 = .ok (.aload_n 1, 1) := by decide +kernel
theorem dJ5_inflate_da8c8_33 : decode cJ5_inflate_da8c8 33 = .ok (.putfield 15, 3) := by decide +kernel
theorem dJ5_inflate_da8c8_36 : decode cJ5_inflate_da8c8 36 = .ok (.aload_n 0, 1) := by decide +kernel
theorem dJ5_inflate_da8c8_37 : decode cJ5_inflate_da8c8 37 = .ok (.iconst 1, 1) := by decide +kernel
theorem dJ5_inflate_da8c8_38 : decode cJ5_inflate_da8c8 38 = .ok (.putfield 22, 3) := by decide +kernel
theorem dJ5_inflate_da8c8_41 : decode cJ5_inflate_da8c8 41 = .ok (.return_, 1) := by decide +kernel
theorem dJ5_setLength_d00df_0 : decode cJ5_setLength_d00df 0 = .ok (.iload_n 1, 1) := by decide +kernel
theorem dJ5_setLength_d00df_1 : decode cJ5_setLength_d00df 1 = .ok (.ifCond .ge 12, 3) := by decide +kernel
theorem dJ5_setLength_d00df_4 : decode cJ5_setLength_d00df 4 = .ok (.new 129, 3) := by decide +kernel
theorem dJ5_setLength_d00df_7 : decode cJ5_setLength_d00df 7 = .ok (.dup, 1) := by decide +kernel
theorem dJ5_setLength_d00df_8 : decode cJ5_setLength_d00df 8 = .ok (.iload_n 1, 1) := by decide +kernel
theorem dJ5_setLength_d00df_9 : decode cJ5_setLength_d00df 9 = .ok (.invokespecial 131, 3) := by decide +kernel
theorem dJ5_setLength_d00df_12 : decode cJ5_setLength_d00df 12 = .ok (.athrow, 1) := by decide +kernel
theorem dJ5_setLength_d00df_13 : decode cJ5_setLength_d00df 13 = .ok (.aload_n 0, 1) := by decide +kernel
theorem dJ5_setLength_d00df_14 : decode cJ5_setLength_d00df 14 = .ok (.iload_n 1, 1) := by decide +kernel
theorem dJ5_setLength_d00df_15 : decode cJ5_setLength_d00df 15 = .ok (.invokevirtual 100, 3) := by decide +kernel
theorem dJ5_setLength_d00df_18 : decode cJ5_setLength_d00df 18 = .ok (.aload_n 0, 1) := by decide +kernel
theorem dJ5_setLength_d00df_19 : decode cJ5_setLength_d00df 19 = .ok (.getfield 79, 3) := by decide +kernel
theorem dJ5_setLength_d00df_22 : decode cJ5_setLength_d00df 22 = .ok (.iload_n 1, 1) := by decide +kernel
theorem dJ5_setLength_d00df_23 : decode cJ5_setLength_d00df 23 = .ok (.if_icmp .ge 40, 3) := by decide +kernel
theorem dJ5_setLength_d00df_26 : decode cJ5_setLength_d00df 26 = .ok (.aload_n 0, 1) := by decide +kernel
theorem dJ5_setLength_d00df_27 : decode cJ5_setLength_d00df 27 = .ok (.invokevirtual 83, 3) := by decide +kernel
theorem dJ5_setLength_d00df_30 : decode cJ5_setLength_d00df 30 = .ok (.ifCond .eq 18, 3) := by decide +kernel
theorem dJ5_setLength_d00df_33 : decode cJ5_setLength_d00df 33 = .ok (.aload_n 0, 1) := by decide +kernel
theorem dJ5_setLength_d00df_34 : decode cJ5_setLength_d00df 34 = .ok (.getfield 15, 3) := by decide +kernel
theorem dJ5_setLength_d00df_37 : decode cJ5_setLength_d00df 37 = .ok (.aload_n 0, 1) := by decide +kernel
theorem dJ5_setLength_d00df_38 : decode cJ5_setLength_d00df 38 = .ok (.getfield 79, 3) := by decide +kernel
theorem dJ5_setLength_d00df_41 : decode cJ5_setLength_d00df 41 = .ok (.iload_n 1, 1) := by decide +kernel
theorem dJ5_setLength_d00df_42 : decode cJ5_setLength_d00df 42 = .ok (.invokestatic 133, 3) := by decide +kernel
theorem dJ5_setLength_d00df_45 : decode cJ5_setLength_d00df 45 = .ok (.goto 31, 3) := by decide +kernel
theorem dJ5_setLength_d00df_48 : decode cJ5_setLength_d00df 48 = .ok (.aload_n 0, 1) := by decide +kernel
theorem dJ5_setLength_d00df_49 : decode cJ5_setLength_d00df 49 = .ok (.getfield 15, 3) := by decide +kernel
theorem dJ5_setLength_d00df_52 : decode cJ5_setLength_d00df 52 = .ok (.aload_n 0, 1) := by decide +kernel
theorem dJ5_setLength_d00df_53 : decode cJ5_setLength_d00df 53 = .ok (.getfield 79, 3) := by decide +kernel
theorem dJ5_setLength_d00df_56 : decode cJ5_setLength_d00df 56 = .ok (.iload_n 1, 1) := by decide +kernel
theorem dJ5_setLength_d00df_57 : decode cJ5_setLength_d00df 57 = .ok (.invokestatic 137, 3) := by decide +kernel
theorem dJ5_setLength_d00df_60 : decode cJ5_setLength_d00df 60 = .ok (.goto 16, 3) := by decide +kernel
theorem dJ5_setLength_d00df_63 : decode cJ5_setLength_d00df 63 = .ok (.aload_n 0, 1) := by decide +kernel
theorem dJ5_setLength_d00df_64 : decode cJ5_setLength_d00df 64 = .ok (.getfield 79, 3) := by decide +kernel
theorem dJ5_setLength_d00df_67 : decode cJ5_setLength_d00df 67 = .ok (.iload_n 1, 1) := by decide +kernel
theorem dJ5_setLength_d00df_68 : decode cJ5_setLength_d00df 68 = .ok (.if_icmp .le 8, 3) := by decide +kernel
theorem dJ5_setLength_d00df_71 : decode cJ5_setLength_d00df 71 = .ok (.aload_n 0, 1) := by decide +kernel
theorem dJ5_setLength_d00df_72 : decode cJ5_setLength_d00df 72 = .ok (.iconst 1, 1) := by decide +kernel
theorem dJ5_setLength_d00df_73 : decode cJ5_setLength_d00df 73 = .ok (.putfield 73, 3) := by decide +kernel
theorem dJ5_setLength_d00df_76 : decode cJ5_setLength_d00df 76 = .ok (.aload_n 0, 1) := by decide +kernel
theorem dJ5_setLength_d00df_77 : decode cJ5_setLength_d00df 77 = .ok (.iload_n 1, 1) := by decide +kernel
theorem dJ5_setLength_d00df_78 : decode cJ5_setLength_d00df 78 = .ok (.putfield 79, 3) := by decide +kernel
theorem dJ5_setLength_d00df_81 : decode cJ5_setLength_d00df 81 = .ok (.return_, 1) := by decide +kernel
theorem dJ5_charAt_5068e_0 : decode cJ5_charAt_5068e 0 = .ok (.aload_n 0, 1) := by decide +kernel
theorem dJ5_charAt_5068e_1 : decode cJ5_charAt_5068e 1 = .ok (.getfield 22, 3) := by decide +kernel
theorem dJ5_charAt_5068e_4 : decode cJ5_charAt_5068e 4 = .ok (.istore_n 2, 1) := by decide +kernel
theorem dJ5_charAt_5068e_5 : decode cJ5_charAt_5068e 5 = .ok (.aload_n 0, 1) := by decide +kernel
theorem dJ5_charAt_5068e_6 : decode cJ5_charAt_5068e 6 = .ok (.getfield 15, 3) := by decide +kernel
theorem dJ5_charAt_5068e_9 : decode cJ5_charAt_5068e 9 = .ok (.astore_n 3, 1) := by decide +kernel
theorem dJ5_charAt_5068e_10 : decode cJ5_charAt_5068e 10 = .ok (.aload_n 0, 1) := by decide +kernel
theorem dJ5_charAt_5068e_11 : decode cJ5_charAt_5068e 11 = .ok (.getfield 79, 3) := by decide +kernel
theorem dJ5_charAt_5068e_14 : decode cJ5_charAt_5068e 14 = .ok (.aload_n 3, 1) := by decide +kernel
theorem dJ5_charAt_5068e_15 : decode cJ5_charAt_5068e 15 = .ok (.arraylength, 1) := by decide +kernel
theorem dJ5_charAt_5068e_16 : decode cJ5_charAt_5068e 16 = .ok (.iload_n 2, 1) := by decide +kernel
theorem dJ5_charAt_5068e_17 : decode cJ5_charAt_5068e 17 = .ok (.ishr, 1) := by decide +kernel
theorem dJ5_charAt_5068e_18 : decode cJ5_charAt_5068e 18 = .ok (.invokestatic 138, 3) := by decide +kernel
theorem dJ5_charAt_5068e_21 : decode cJ5_charAt_5068e 21 = .ok (.istore 4, 2) := by decide +kernel
theorem dJ5_charAt_5068e_23 : decode cJ5_charAt_5068e 23 = .ok (.iload_n 1, 1) := by decide +kernel
theorem dJ5_charAt_5068e_24 : decode cJ5_charAt_5068e 24 = .ok (.iload 4, 2) := by decide +kernel
theorem dJ5_charAt_5068e_26 : decode cJ5_charAt_5068e 26 = .ok (.invokestatic 144, 3) := by decide +kernel
theorem dJ5_charAt_5068e_29 : decode cJ5_charAt_5068e 29 = .ok (.iload_n 2, 1) := by decide +kernel
theorem dJ5_charAt_5068e_30 : decode cJ5_charAt_5068e 30 = .ok (.ifCond .ne 12, 3) := by decide +kernel
theorem dJ5_charAt_5068e_33 : decode cJ5_charAt_5068e 33 = .ok (.aload_n 3, 1) := by decide +kernel
theorem dJ5_charAt_5068e_34 : decode cJ5_charAt_5068e 34 = .ok (.iload_n 1, 1) := by decide +kernel
theorem dJ5_charAt_5068e_35 : decode cJ5_charAt_5068e 35 = .ok (.baload, 1) := by decide +kernel
theorem dJ5_charAt_5068e_36 : decode cJ5_charAt_5068e 36 = .ok (.sipush 255, 3) := by decide +kernel
theorem dJ5_charAt_5068e_39 : decode cJ5_charAt_5068e 39 = .ok (.iand, 1) := by decide +kernel
theorem dJ5_charAt_5068e_40 : decode cJ5_charAt_5068e 40 = .ok (.i2c, 1) := by decide +kernel
theorem dJ5_charAt_5068e_41 : decode cJ5_charAt_5068e 41 = .ok (.ireturn, 1) := by decide +kernel
theorem dJ5_charAt_5068e_42 : decode cJ5_charAt_5068e 42 = .ok (.aload_n 3, 1) := by decide +kernel
theorem dJ5_charAt_5068e_43 : decode cJ5_charAt_5068e 43 = .ok (.iload_n 1, 1) := by decide +kernel
theorem dJ5_charAt_5068e_44 : decode cJ5_charAt_5068e 44 = .ok (.invokestatic 148, 3) := by decide +kernel
theorem dJ5_charAt_5068e_47 : decode cJ5_charAt_5068e 47 = .ok (.ireturn, 1) := by decide +kernel
theorem dJ5_append_cf1ce_0 : decode cJ5_append_cf1ce 0 = .ok (.aload_n 1, 1) := by decide +kernel
theorem dJ5_append_cf1ce_1 : decode cJ5_append_cf1ce 1 = .ok (.ifnonnull 8, 3) := by decide +kernel
theorem dJ5_append_cf1ce_4 : decode cJ5_append_cf1ce 4 = .ok (.aload_n 0, 1) := by decide +kernel
theorem dJ5_append_cf1ce_5 : decode cJ5_append_cf1ce 5 = .ok (.invokevirtual 204, 3) := by decide +kernel
theorem dJ5_append_cf1ce_8 : decode cJ5_append_cf1ce 8 = .ok (.areturn, 1) := by decide +kernel
theorem dJ5_append_cf1ce_9 : decode cJ5_append_cf1ce 9 = .ok (.aload_n 1, 1) := by decide +kernel
theorem dJ5_append_cf1ce_10 : decode cJ5_append_cf1ce 10 = .ok (.invokevirtual 32, 3) := by decide +kernel
theorem dJ5_append_cf1ce_13 : decode cJ5_append_cf1ce 13 = .ok (.istore_n 2, 1) := by decide +kernel
theorem dJ5_append_cf1ce_14 : decode cJ5_append_cf1ce 14 = .ok (.aload_n 0, 1) := by decide +kernel
theorem dJ5_append_cf1ce_15 : decode cJ5_append_cf1ce 15 = .ok (.aload_n 0, 1) := by decide +kernel
theorem dJ5_append_cf1ce_16 : decode cJ5_append_cf1ce 16 = .ok (.getfield 79, 3) := by decide +kernel
theorem dJ5_append_cf1ce_19 : decode cJ5_append_cf1ce 19 = .ok (.iload_n 2, 1) := by decide +kernel
theorem dJ5_append_cf1ce_20 : decode cJ5_append_cf1ce 20 = .ok (.iadd, 1) := by decide +kernel
theorem dJ5_append_cf1ce_21 : decode cJ5_append_cf1ce 21 = .ok (.invokevirtual 100, 3) := by decide +kernel
theorem dJ5_append_cf1ce_24 : decode cJ5_append_cf1ce 24 = .ok (.aload_n 0, 1) := by decide +kernel
theorem dJ5_append_cf1ce_25 : decode cJ5_append_cf1ce 25 = .ok (.aload_n 0, 1) := by decide +kernel
theorem dJ5_append_cf1ce_26 : decode cJ5_append_cf1ce 26 = .ok (.getfield 79, 3) := by decide +kernel
theorem dJ5_append_cf1ce_29 : decode cJ5_append_cf1ce 29 = .ok (.aload_n 1, 1) := by decide +kernel
theorem dJ5_append_cf1ce_30 : decode cJ5_append_cf1ce 30 = .ok (.invokevirtual 208, 3) := by decide +kernel
theorem dJ5_append_cf1ce_33 : decode cJ5_append_cf1ce 33 = .ok (.aload_n 0, 1) := by decide +kernel
theorem dJ5_append_cf1ce_34 : decode cJ5_append_cf1ce 34 = .ok (.dup, 1) := by decide +kernel
theorem dJ5_append_cf1ce_35 : decode cJ5_append_cf1ce 35 = .ok (.getfield 79, 3) := by decide +kernel
theorem dJ5_append_cf1ce_38 : decode cJ5_append_cf1ce 38 = .ok (.iload_n 2, 1) := by decide +kernel
theorem dJ5_append_cf1ce_39 : decode cJ5_append_cf1ce 39 = .ok (.iadd, 1) := by decide +kernel
theorem dJ5_append_cf1ce_40 : decode cJ5_append_cf1ce 40 = .ok (.putfield 79, 3) := by decide +kernel
theorem dJ5_append_cf1ce_43 : decode cJ5_append_cf1ce 43 = .ok (.aload_n 0, 1) := by decide +kernel
theorem dJ5_append_cf1ce_44 : decode cJ5_append_cf1ce 44 = .ok (.areturn, 1) := by decide +kernel
theorem dJ5_appendNull_278bc_0 : decode cJ5_appendNull_278bc 0 = .ok (.aload_n 0, 1) := by decide +kernel
theorem dJ5_appendNull_278bc_1 : decode cJ5_appendNull_278bc 1 = .ok (.aload_n 0, 1) := by decide +kernel
theorem dJ5_appendNull_278bc_2 : decode cJ5_appendNull_278bc 2 = .ok (.getfield 79, 3) := by decide +kernel
theorem dJ5_appendNull_278bc_5 : decode cJ5_appendNull_278bc 5 = .ok (.iconst 4, 1) := by decide +kernel
theorem dJ5_appendNull_278bc_6 : decode cJ5_appendNull_278bc 6 = .ok (.iadd, 1) := by decide +kernel
theorem dJ5_appendNull_278bc_7 : decode cJ5_appendNull_278bc 7 = .ok (.invokevirtual 100, 3) := by decide +kernel
theorem dJ5_appendNull_278bc_10 : decode cJ5_appendNull_278bc 10 = .ok (.aload_n 0, 1) := by decide +kernel
theorem dJ5_appendNull_278bc_11 : decode cJ5_appendNull_278bc 11 = .ok (.getfield 79, 3) := by decide +kernel
theorem dJ5_appendNull_278bc_14 : decode cJ5_appendNull_278bc 14 = .ok (.istore_n 1, 1) := by decide +kernel
theorem dJ5_appendNull_278bc_15 : decode cJ5_appendNull_278bc 15 = .ok (.aload_n 0, 1) := by decide +kernel
theorem dJ5_appendNull_278bc_16 : decode cJ5_appendNull_278bc 16 = .ok (.getfield 15, 3) := by decide +kernel
theorem dJ5_appendNull_278bc_19 : decode cJ5_appendNull_278bc 19 = .ok (.astore_n 2, 1) := by decide +kernel
theorem dJ5_appendNull_278bc_20 : decode cJ5_appendNull_278bc 20 = .ok (.aload_n 0, 1) := by decide +kernel
theorem dJ5_appendNull_278bc_21 : decode cJ5_appendNull_278bc 21 = .ok (.invokevirtual 83, 3) := by decide +kernel
theorem dJ5_appendNull_278bc_24 : decode cJ5_appendNull_278bc 24 = .ok (.ifCond .eq 38, 3) := by decide +kernel
theorem dJ5_appendNull_278bc_27 : decode cJ5_appendNull_278bc 27 = .ok (.aload_n 2, 1) := by decide +kernel
theorem dJ5_appendNull_278bc_28 : decode cJ5_appendNull_278bc 28 = .ok (.iload_n 1, 1) := by decide +kernel
theorem dJ5_appendNull_278bc_29 : decode cJ5_appendNull_278bc 29 = .ok (.iinc 1 1, 3) := by decide +kernel
theorem dJ5_appendNull_278bc_32 : decode cJ5_appendNull_278bc 32 = .ok (.bipush 110, 2) := by decide +kernel
theorem dJ5_appendNull_278bc_34 : decode cJ5_appendNull_278bc 34 = .ok (.bastore, 1) := by decide +kernel
theorem dJ5_appendNull_278bc_35 : decode cJ5_appendNull_278bc 35 = .ok (.aload_n 2, 1) := by decide +kernel
theorem dJ5_appendNull_278bc_36 : decode cJ5_appendNull_278bc 36 = .ok (.iload_n 1, 1) := by decide +kernel
theorem dJ5_appendNull_278bc_37 : decode cJ5_appendNull_278bc 37 = .ok (.iinc 1 1, 3) := by decide +kernel
theorem dJ5_appendNull_278bc_40 : decode cJ5_appendNull_278bc 40 = .ok (.bipush 117, 2) := by decide +kernel
theorem dJ5_appendNull_278bc_42 : decode cJ5_appendNull_278bc 42 = .ok (.bastore, 1) := by decide +kernel
theorem dJ5_appendNull_278bc_43 : decode cJ5_appendNull_278bc 43 = .ok (.aload_n 2, 1) := by decide +kernel
theorem dJ5_appendNull_278bc_44 : decode cJ5_appendNull_278bc 44 = .ok (.iload_n 1, 1) := by decide +kernel
theorem dJ5_appendNull_278bc_45 : decode cJ5_appendNull_278bc 45 = .ok (.iinc 1 1, 3) := by decide +kernel
theorem dJ5_appendNull_278bc_48 : decode cJ5_appendNull_278bc 48 = .ok (.bipush 108, 2) := by decide +kernel
theorem dJ5_appendNull_278bc_50 : decode cJ5_appendNull_278bc 50 = .ok (.bastore, 1) := by decide +kernel
theorem dJ5_appendNull_278bc_51 : decode cJ5_appendNull_278bc 51 = .ok (.aload_n 2, 1) := by decide +kernel
theorem dJ5_appendNull_278bc_52 : decode cJ5_appendNull_278bc 52 = .ok (.iload_n 1, 1) := by decide +kernel
theorem dJ5_appendNull_278bc_53 : decode cJ5_appendNull_278bc 53 = .ok (.iinc 1 1, 3) := by decide +kernel
theorem dJ5_appendNull_278bc_56 : decode cJ5_appendNull_278bc 56 = .ok (.bipush 108, 2) := by decide +kernel
theorem dJ5_appendNull_278bc_58 : decode cJ5_appendNull_278bc 58 = .ok (.bastore, 1) := by decide +kernel
theorem dJ5_appendNull_278bc_59 : decode cJ5_appendNull_278bc 59 = .ok (.goto 17, 3) := by decide +kernel
theorem dJ5_appendNull_278bc_62 : decode cJ5_appendNull_278bc 62 = .ok (.aload_n 2, 1) := by decide +kernel
theorem dJ5_appendNull_278bc_63 : decode cJ5_appendNull_278bc 63 = .ok (.iload_n 1, 1) := by decide +kernel
theorem dJ5_appendNull_278bc_64 : decode cJ5_appendNull_278bc 64 = .ok (.bipush 110, 2) := by decide +kernel
theorem dJ5_appendNull_278bc_66 : decode cJ5_appendNull_278bc 66 = .ok (.bipush 117, 2) := by decide +kernel
theorem dJ5_appendNull_278bc_68 : decode cJ5_appendNull_278bc 68 = .ok (.bipush 108, 2) := by decide +kernel
theorem dJ5_appendNull_278bc_70 : decode cJ5_appendNull_278bc 70 = .ok (.bipush 108, 2) := by decide +kernel
theorem dJ5_appendNull_278bc_72 : decode cJ5_appendNull_278bc 72 = .ok (.invokestatic 226, 3) := by decide +kernel
theorem dJ5_appendNull_278bc_75 : decode cJ5_appendNull_278bc 75 = .ok (.istore_n 1, 1) := by decide +kernel
theorem dJ5_appendNull_278bc_76 : decode cJ5_appendNull_278bc 76 = .ok (.aload_n 0, 1) := by decide +kernel
theorem dJ5_appendNull_278bc_77 : decode cJ5_appendNull_278bc 77 = .ok (.iload_n 1, 1) := by decide +kernel
theorem dJ5_appendNull_278bc_78 : decode cJ5_appendNull_278bc 78 = .ok (.putfield 79, 3) := by decide +kernel
theorem dJ5_appendNull_278bc_81 : decode cJ5_appendNull_278bc 81 = .ok (.aload_n 0, 1) := by decide +kernel
theorem dJ5_appendNull_278bc_82 : decode cJ5_appendNull_278bc 82 = .ok (.areturn, 1) := by decide +kernel
theorem dJ5_append_3fe6f_0 : decode cJ5_append_3fe6f 0 = .ok (.aload_n 0, 1) := by decide +kernel
theorem dJ5_append_3fe6f_1 : decode cJ5_append_3fe6f 1 = .ok (.aload_n 0, 1) := by decide +kernel
theorem dJ5_append_3fe6f_2 : decode cJ5_append_3fe6f 2 = .ok (.getfield 79, 3) := by decide +kernel
theorem dJ5_append_3fe6f_5 : decode cJ5_append_3fe6f 5 = .ok (.iconst 1, 1) := by decide +kernel
theorem dJ5_append_3fe6f_6 : decode cJ5_append_3fe6f 6 = .ok (.iadd, 1) := by decide +kernel
theorem dJ5_append_3fe6f_7 : decode cJ5_append_3fe6f 7 = .ok (.invokevirtual 100, 3) := by decide +kernel
theorem dJ5_append_3fe6f_10 : decode cJ5_append_3fe6f 10 = .ok (.aload_n 0, 1) := by decide +kernel
theorem dJ5_append_3fe6f_11 : decode cJ5_append_3fe6f 11 = .ok (.invokevirtual 83, 3) := by decide +kernel
theorem dJ5_append_3fe6f_14 : decode cJ5_append_3fe6f 14 = .ok (.ifCond .eq 31, 3) := by decide +kernel
theorem dJ5_append_3fe6f_17 : decode cJ5_append_3fe6f 17 = .ok (.iload_n 1, 1) := by decide +kernel
theorem dJ5_append_3fe6f_18 : decode cJ5_append_3fe6f 18 = .ok (.invokestatic 191, 3) := by decide +kernel
theorem dJ5_append_3fe6f_21 : decode cJ5_append_3fe6f 21 = .ok (.ifCond .eq 24, 3) := by decide +kernel
theorem dJ5_append_3fe6f_24 : decode cJ5_append_3fe6f 24 = .ok (.aload_n 0, 1) := by decide +kernel
theorem dJ5_append_3fe6f_25 : decode cJ5_append_3fe6f 25 = .ok (.getfield 15, 3) := by decide +kernel
theorem dJ5_append_3fe6f_28 : decode cJ5_append_3fe6f 28 = .ok (.aload_n 0, 1) := by decide +kernel
theorem dJ5_append_3fe6f_29 : decode cJ5_append_3fe6f 29 = .ok (.dup, 1) := by decide +kernel
theorem dJ5_append_3fe6f_30 : decode cJ5_append_3fe6f 30 = .ok (.getfield 79, 3) := by decide +kernel
theorem dJ5_append_3fe6f_33 : decode cJ5_append_3fe6f 33 = .ok (.dup_x1, 1) := by decide +kernel
theorem dJ5_append_3fe6f_34 : decode cJ5_append_3fe6f 34 = .ok (.iconst 1, 1) := by decide +kernel
theorem dJ5_append_3fe6f_35 : decode cJ5_append_3fe6f 35 = .ok (.iadd, 1) := by decide +kernel
theorem dJ5_append_3fe6f_36 : decode cJ5_append_3fe6f 36 = .ok (.putfield 79, 3) := by decide +kernel
theorem dJ5_append_3fe6f_39 : decode cJ5_append_3fe6f 39 = .ok (.iload_n 1, 1) := by decide +kernel
theorem dJ5_append_3fe6f_40 : decode cJ5_append_3fe6f 40 = .ok (.i2b, 1) := by decide +kernel
theorem dJ5_append_3fe6f_41 : decode cJ5_append_3fe6f 41 = .ok (.bastore, 1) := by decide +kernel
theorem dJ5_append_3fe6f_42 : decode cJ5_append_3fe6f 42 = .ok (.goto 33, 3) := by decide +kernel
theorem dJ5_append_3fe6f_45 : decode cJ5_append_3fe6f 45 = .ok (.aload_n 0, 1) := by decide +kernel
theorem dJ5_append_3fe6f_46 : decode cJ5_append_3fe6f 46 = .ok (.invokevirtual 83, 3) := by decide +kernel
theorem dJ5_append_3fe6f_49 : decode cJ5_append_3fe6f 49 = .ok (.ifCond .eq 7, 3) := by decide +kernel
theorem dJ5_append_3fe6f_52 : decode cJ5_append_3fe6f 52 = .ok (.aload_n 0, 1) := by decide +kernel
theorem dJ5_append_3fe6f_53 : decode cJ5_append_3fe6f 53 = .ok (.invokevirtual 195, 3) := by decide +kernel
theorem dJ5_append_3fe6f_56 : decode cJ5_append_3fe6f 56 = .ok (.aload_n 0, 1) := by decide +kernel
theorem dJ5_append_3fe6f_57 : decode cJ5_append_3fe6f 57 = .ok (.getfield 15, 3) := by decide +kernel
theorem dJ5_append_3fe6f_60 : decode cJ5_append_3fe6f 60 = .ok (.aload_n 0, 1) := by decide +kernel
theorem dJ5_append_3fe6f_61 : decode cJ5_append_3fe6f 61 = .ok (.dup, 1) := by decide +kernel
theorem dJ5_append_3fe6f_62 : decode cJ5_append_3fe6f 62 = .ok (.getfield 79, 3) := by decide +kernel
theorem dJ5_append_3fe6f_65 : decode cJ5_append_3fe6f 65 = .ok (.dup_x1, 1) := by decide +kernel
theorem dJ5_append_3fe6f_66 : decode cJ5_append_3fe6f 66 = .ok (.iconst 1, 1) := by decide +kernel
theorem dJ5_append_3fe6f_67 : decode cJ5_append_3fe6f 67 = .ok (.iadd, 1) := by decide +kernel
theorem dJ5_append_3fe6f_68 : decode cJ5_append_3fe6f 68 = .ok (.putfield 79, 3) := by decide +kernel
theorem dJ5_append_3fe6f_71 : decode cJ5_append_3fe6f 71 = .ok (.iload_n 1, 1) := by decide +kernel
theorem dJ5_append_3fe6f_72 : decode cJ5_append_3fe6f 72 = .ok (.invokestatic 197, 3) := by decide +kernel
theorem dJ5_append_3fe6f_75 : decode cJ5_append_3fe6f 75 = .ok (.aload_n 0, 1) := by decide +kernel
theorem dJ5_append_3fe6f_76 : decode cJ5_append_3fe6f 76 = .ok (.areturn, 1) := by decide +kernel
theorem dJ5_append_c97b9_0 : decode cJ5_append_c97b9 0 = .ok (.aload_n 0, 1) := by decide +kernel
theorem dJ5_append_c97b9_1 : decode cJ5_append_c97b9 1 = .ok (.getfield 79, 3) := by decide +kernel
theorem dJ5_append_c97b9_4 : decode cJ5_append_c97b9 4 = .ok (.istore_n 2, 1) := by decide +kernel
theorem dJ5_append_c97b9_5 : decode cJ5_append_c97b9 5 = .ok (.iload_n 2, 1) := by decide +kernel
theorem dJ5_append_c97b9_6 : decode cJ5_append_c97b9 6 = .ok (.iload_n 1, 1) := by decide +kernel
theorem dJ5_append_c97b9_7 : decode cJ5_append_c97b9 7 = .ok (.invokestatic 245, 3) := by decide +kernel
theorem dJ5_append_c97b9_10 : decode cJ5_append_c97b9 10 = .ok (.iadd, 1) := by decide +kernel
theorem dJ5_append_c97b9_11 : decode cJ5_append_c97b9 11 = .ok (.istore_n 3, 1) := by decide +kernel
theorem dJ5_append_c97b9_12 : decode cJ5_append_c97b9 12 = .ok (.aload_n 0, 1) := by decide +kernel
theorem dJ5_append_c97b9_13 : decode cJ5_append_c97b9 13 = .ok (.iload_n 3, 1) := by decide +kernel
theorem dJ5_append_c97b9_14 : decode cJ5_append_c97b9 14 = .ok (.invokevirtual 100, 3) := by decide +kernel
theorem dJ5_append_c97b9_17 : decode cJ5_append_c97b9 17 = .ok (.aload_n 0, 1) := by decide +kernel
theorem dJ5_append_c97b9_18 : decode cJ5_append_c97b9 18 = .ok (.invokevirtual 83, 3) := by decide +kernel
theorem dJ5_append_c97b9_21 : decode cJ5_append_c97b9 21 = .ok (.ifCond .eq 16, 3) := by decide +kernel
theorem dJ5_append_c97b9_24 : decode cJ5_append_c97b9 24 = .ok (.iload_n 1, 1) := by decide +kernel
theorem dJ5_append_c97b9_25 : decode cJ5_append_c97b9 25 = .ok (.iload_n 3, 1) := by decide +kernel
theorem dJ5_append_c97b9_26 : decode cJ5_append_c97b9 26 = .ok (.aload_n 0, 1) := by decide +kernel
theorem dJ5_append_c97b9_27 : decode cJ5_append_c97b9 27 = .ok (.getfield 15, 3) := by decide +kernel
theorem dJ5_append_c97b9_30 : decode cJ5_append_c97b9 30 = .ok (.invokestatic 248, 3) := by decide +kernel
theorem dJ5_append_c97b9_33 : decode cJ5_append_c97b9 33 = .ok (.pop, 1) := by decide +kernel
theorem dJ5_append_c97b9_34 : decode cJ5_append_c97b9 34 = .ok (.goto 14, 3) := by decide +kernel
theorem dJ5_append_c97b9_37 : decode cJ5_append_c97b9 37 = .ok (.iload_n 1, 1) := by decide +kernel
theorem dJ5_append_c97b9_38 : decode cJ5_append_c97b9 38 = .ok (.iload_n 2, 1) := by decide +kernel
theorem dJ5_append_c97b9_39 : decode cJ5_append_c97b9 39 = .ok (.iload_n 3, 1) := by decide +kernel
theorem dJ5_append_c97b9_40 : decode cJ5_append_c97b9 40 = .ok (.aload_n 0, 1) := by decide +kernel
theorem dJ5_append_c97b9_41 : decode cJ5_append_c97b9 41 = .ok (.getfield 15, 3) := by decide +kernel
theorem dJ5_append_c97b9_44 : decode cJ5_append_c97b9 44 = .ok (.invokestatic 251, 3) := by decide +kernel
theorem dJ5_append_c97b9_47 : decode cJ5_append_c97b9 47 = .ok (.pop, 1) := by decide +kernel
theorem dJ5_append_c97b9_48 : decode cJ5_append_c97b9 48 = .ok (.aload_n 0, 1) := by decide +kernel
theorem dJ5_append_c97b9_49 : decode cJ5_append_c97b9 49 = .ok (.iload_n 3, 1) := by decide +kernel
theorem dJ5_append_c97b9_50 : decode cJ5_append_c97b9 50 = .ok (.putfield 79, 3) := by decide +kernel
theorem dJ5_append_c97b9_53 : decode cJ5_append_c97b9 53 = .ok (.aload_n 0, 1) := by decide +kernel
theorem dJ5_append_c97b9_54 : decode cJ5_append_c97b9 54 = .ok (.areturn, 1) := by decide +kernel
theorem dJ5_getValue_6d5f1_0 : decode cJ5_getValue_6d5f1 0 = .ok (.aload_n 0, 1) := by decide +kernel
theorem dJ5_getValue_6d5f1_1 : decode cJ5_getValue_6d5f1 1 = .ok (.getfield 15, 3) := by decide +kernel
theorem dJ5_getValue_6d5f1_4 : decode cJ5_getValue_6d5f1 4 = .ok (.areturn, 1) := by decide +kernel
theorem dJ5_isLatin1_aae02_0 : decode cJ5_isLatin1_aae02 0 = .ok (.getstatic 18, 3) := by decide +kernel
theorem dJ5_isLatin1_aae02_3 : decode cJ5_isLatin1_aae02 3 = .ok (.ifCond .eq 14, 3) := by decide +kernel
theorem dJ5_isLatin1_aae02_6 : decode cJ5_isLatin1_aae02 6 = .ok (.aload_n 0, 1) := by decide +kernel
theorem dJ5_isLatin1_aae02_7 : decode cJ5_isLatin1_aae02 7 = .ok (.getfield 22, 3) := by decide +kernel
theorem dJ5_isLatin1_aae02_10 : decode cJ5_isLatin1_aae02 10 = .ok (.ifCond .ne 7, 3) := by decide +kernel
theorem dJ5_isLatin1_aae02_13 : decode cJ5_isLatin1_aae02 13 = .ok (.iconst 1, 1) := by decide +kernel
theorem dJ5_isLatin1_aae02_14 : decode cJ5_isLatin1_aae02 14 = .ok (.goto 4, 3) := by decide +kernel
theorem dJ5_isLatin1_aae02_17 : decode cJ5_isLatin1_aae02 17 = .ok (.iconst 0, 1) := by decide +kernel
theorem dJ5_isLatin1_aae02_18 : decode cJ5_isLatin1_aae02 18 = .ok (.ireturn, 1) := by decide +kernel
theorem dJ5_inflateIfNeededFor_a7421_0 : decode cJ5_inflateIfNeededFor_a7421 0 = .ok (.getstatic 18, 3) := by decide +kernel
theorem dJ5_inflateIfNeededFor_a7421_3 : decode cJ5_inflateIfNeededFor_a7421 3 = .ok (.ifCond .eq 18, 3) := by decide +kernel
theorem dJ5_inflateIfNeededFor_a7421_6 : decode cJ5_inflateIfNeededFor_a7421 6 = .ok (.aload_n 0, 1) := by decide +kernel
theorem dJ5_inflateIfNeededFor_a7421_7 : decode cJ5_inflateIfNeededFor_a7421 7 = .ok (.getfield 22, 3) := by decide +kernel
theorem dJ5_inflateIfNeededFor_a7421_10 : decode cJ5_inflateIfNeededFor_a7421 10 = .ok (.aload_n 1, 1) := by decide +kernel
theorem dJ5_inflateIfNeededFor_a7421_11 : decode cJ5_inflateIfNeededFor_a7421 11 = .ok (.invokevirtual 40, 3) := by decide +kernel
theorem dJ5_inflateIfNeededFor_a7421_14 : decode cJ5_inflateIfNeededFor_a7421 14 = .ok (.if_icmp .eq 7, 3) := by decide +kernel
theorem dJ5_inflateIfNeededFor_a7421_17 : decode cJ5_inflateIfNeededFor_a7421 17 = .ok (.aload_n 0, 1) := by decide +kernel
theorem dJ5_inflateIfNeededFor_a7421_18 : decode cJ5_inflateIfNeededFor_a7421 18 = .ok (.invokevirtual 195, 3) := by decide +kernel
theorem dJ5_inflateIfNeededFor_a7421_21 : decode cJ5_inflateIfNeededFor_a7421 21 = .ok (.return_, 1) := by decide +kernel
theorem dJ5_putStringAt_47b60_0 : decode cJ5_putStringAt_47b60 0 = .ok (.aload_n 0, 1) := by decide +kernel
theorem dJ5_putStringAt_47b60_1 : decode cJ5_putStringAt_47b60 1 = .ok (.aload_n 2, 1) := by decide +kernel
theorem dJ5_putStringAt_47b60_2 : decode cJ5_putStringAt_47b60 2 = .ok (.invokevirtual 397, 3) := by decide +kernel
theorem dJ5_putStringAt_47b60_5 : decode cJ5_putStringAt_47b60 5 = .ok (.aload_n 2, 1) := by decide +kernel
theorem dJ5_putStringAt_47b60_6 : decode cJ5_putStringAt_47b60 6 = .ok (.aload_n 0, 1) := by decide +kernel
theorem dJ5_putStringAt_47b60_7 : decode cJ5_putStringAt_47b60 7 = .ok (.getfield 15, 3) := by decide +kernel
theorem dJ5_putStringAt_47b60_10 : decode cJ5_putStringAt_47b60 10 = .ok (.iload_n 1, 1) := by decide +kernel
theorem dJ5_putStringAt_47b60_11 : decode cJ5_putStringAt_47b60 11 = .ok (.aload_n 0, 1) := by decide +kernel
theorem dJ5_putStringAt_47b60_12 : decode cJ5_putStringAt_47b60 12 = .ok (.getfield 22, 3) := by decide +kernel
theorem dJ5_putStringAt_47b60_15 : decode cJ5_putStringAt_47b60 15 = .ok (.invokevirtual 399, 3) := by decide +kernel
theorem dJ5_putStringAt_47b60_18 : decode cJ5_putStringAt_47b60 18 = .ok (.return_, 1) := by decide +kernel
theorem dJx00060_init_a7421_0 : decode cJx00060_init_a7421 0 = .ok (.aload_n 0, 1) := by decide +kernel
theorem dJx00060_init_a7421_1 : decode cJx00060_init_a7421 1 = .ok (.aload_n 1, 1) := by decide +kernel
theorem dJx00060_init_a7421_2 : decode cJx00060_init_a7421 2 = .ok (.invokespecial 7, 3) := by decide +kernel
theorem dJx00060_init_a7421_5 : decode cJx00060_init_a7421 5 = .ok (.return_, 1) := by decide +kernel
theorem dJx00060_init_d00df_0 : decode cJx00060_init_d00df 0 = .ok (.aload_n 0, 1) := by decide +kernel
theorem dJx00060_init_d00df_1 : decode cJx00060_init_d00df 1 = .ok (.new 10, 3) := by decide +kernel
theorem dJx00060_init_d00df_4 : decode cJx00060_init_d00df 4 = .ok (.dup, 1) := by decide +kernel
theorem dJx00060_init_d00df_5 : decode cJx00060_init_d00df 5 = .ok (.invokespecial 12, 3) := by decide +kernel
theorem dJx00060_init_d00df_8 : decode cJx00060_init_d00df 8 = .ok (.ldc 13, 2) := by decide +kernel
theorem dJx00060_init_d00df_10 : decode cJx00060_init_d00df 10 = .ok (.invokevirtual 15, 3) := by decide +kernel
theorem dJx00060_init_d00df_13 : decode cJx00060_init_d00df 13 = .ok (.iload_n 1, 1) := by decide +kernel
theorem dJx00060_init_d00df_14 : decode cJx00060_init_d00df 14 = .ok (.invokevirtual 19, 3) := by decide +kernel
theorem dJx00060_init_d00df_17 : decode cJx00060_init_d00df 17 = .ok (.invokevirtual 22, 3) := by decide +kernel
theorem dJx00060_init_d00df_20 : decode cJx00060_init_d00df 20 = .ok (.invokespecial 7, 3) := by decide +kernel
theorem dJx00060_init_d00df_23 : decode cJx00060_init_d00df 23 = .ok (.return_, 1) := by decide +kernel
theorem dJ6_getChars_ba4f3_0 : decode cJ6_getChars_ba4f3 0 = .ok (.iload_n 1, 1) := by decide +kernel
theorem dJ6_getChars_ba4f3_1 : decode cJ6_getChars_ba4f3 1 = .ok (.istore 5, 2) := by decide +kernel
theorem dJ6_getChars_ba4f3_3 : decode cJ6_getChars_ba4f3 3 = .ok (.iload_n 0, 1) := by decide +kernel
theorem dJ6_getChars_ba4f3_4 : decode cJ6_getChars_ba4f3 4 = .ok (.ifCond .ge 7, 3) := by decide +kernel
theorem dJ6_getChars_ba4f3_7 : decode cJ6_getChars_ba4f3 7 = .ok (.iconst 1, 1) := by decide +kernel
theorem dJ6_getChars_ba4f3_8 : decode cJ6_getChars_ba4f3 8 = .ok (.goto 4, 3) := by decide +kernel
theorem dJ6_getChars_ba4f3_11 : decode cJ6_getChars_ba4f3 11 = .ok (.iconst 0, 1) := by decide +kernel
theorem dJ6_getChars_ba4f3_12 : decode cJ6_getChars_ba4f3 12 = .ok (.istore 6, 2) := by decide +kernel
theorem dJ6_getChars_ba4f3_14 : decode cJ6_getChars_ba4f3 14 = .ok (.iload 6, 2) := by decide +kernel
theorem dJ6_getChars_ba4f3_16 : decode cJ6_getChars_ba4f3 16 = .ok (.ifCond .ne 6, 3) := by decide +kernel
theorem dJ6_getChars_ba4f3_19 : decode cJ6_getChars_ba4f3 19 = .ok (.iload_n 0, 1) := by decide +kernel
theorem dJ6_getChars_ba4f3_20 : decode cJ6_getChars_ba4f3 20 = .ok (.ineg, 1) := by decide +kernel
theorem dJ6_getChars_ba4f3_21 : decode cJ6_getChars_ba4f3 21 = .ok (.istore_n 0, 1) := by decide +kernel
theorem dJ6_getChars_ba4f3_22 : decode cJ6_getChars_ba4f3 22 = .ok (.iload_n 0, 1) := by decide +kernel
theorem dJ6_getChars_ba4f3_23 : decode cJ6_getChars_ba4f3 23 = .ok (.bipush (-100), 2) := by decide +kernel
theorem dJ6_getChars_ba4f3_25 : decode cJ6_getChars_ba4f3 25 = .ok (.if_icmp .gt 47, 3) := by decide +kernel
theorem dJ6_getChars_ba4f3_28 : decode cJ6_getChars_ba4f3 28 = .ok (.iload_n 0, 1) := by decide +kernel
theorem dJ6_getChars_ba4f3_29 : decode cJ6_getChars_ba4f3 29 = .ok (.bipush 100, 2) := by decide +kernel
theorem dJ6_getChars_ba4f3_31 : decode cJ6_getChars_ba4f3 31 = .ok (.idiv, 1) := by decide +kernel
theorem dJ6_getChars_ba4f3_32 : decode cJ6_getChars_ba4f3 32 = .ok (.istore_n 3, 1) := by decide +kernel
theorem dJ6_getChars_ba4f3_33 : decode cJ6_getChars_ba4f3 33 = .ok (.iload_n 3, 1) := by decide +kernel
theorem dJ6_getChars_ba4f3_34 : decode cJ6_getChars_ba4f3 34 = .ok (.bipush 100, 2) := by decide +kernel
theorem dJ6_getChars_ba4f3_36 : decode cJ6_getChars_ba4f3 36 = .ok (.imul, 1) := by decide +kernel
theorem dJ6_getChars_ba4f3_37 : decode cJ6_getChars_ba4f3 37 = .ok (.iload_n 0, 1) := by decide +kernel
theorem dJ6_getChars_ba4f3_38 : decode cJ6_getChars_ba4f3 38 = .ok (.isub, 1) := by decide +kernel
theorem dJ6_getChars_ba4f3_39 : decode cJ6_getChars_ba4f3 39 = .ok (.istore 4, 2) := by decide +kernel
theorem dJ6_getChars_ba4f3_41 : decode cJ6_getChars_ba4f3 41 = .ok (.iload_n 3, 1) := by decide +kernel
theorem dJ6_getChars_ba4f3_42 : decode cJ6_getChars_ba4f3 42 = .ok (.istore_n 0, 1) := by decide +kernel
theorem dJ6_getChars_ba4f3_43 : decode cJ6_getChars_ba4f3 43 = .ok (.aload_n 2, 1) := by decide +kernel
theorem dJ6_getChars_ba4f3_44 : decode cJ6_getChars_ba4f3 44 = .ok (.iinc 5 (-1), 3) := by decide +kernel
theorem dJ6_getChars_ba4f3_47 : decode cJ6_getChars_ba4f3 47 = .ok (.iload 5, 2) := by decide +kernel
theorem dJ6_getChars_ba4f3_49 : decode cJ6_getChars_ba4f3 49 = .ok (.getstatic 83, 3) := by decide +kernel
theorem dJ6_getChars_ba4f3_52 : decode cJ6_getChars_ba4f3 52 = .ok (.iload 4, 2) := by decide +kernel
theorem dJ6_getChars_ba4f3_54 : decode cJ6_getChars_ba4f3 54 = .ok (.baload, 1) := by decide +kernel
theorem dJ6_getChars_ba4f3_55 : decode cJ6_getChars_ba4f3 55 = .ok (.bastore, 1) := by decide +kernel
theorem dJ6_getChars_ba4f3_56 : decode cJ6_getChars_ba4f3 56 = .ok (.aload_n 2, 1) := by decide +kernel
theorem dJ6_getChars_ba4f3_57 : decode cJ6_getChars_ba4f3 57 = .ok (.iinc 5 (-1), 3) := by decide +kernel
theorem dJ6_getChars_ba4f3_60 : decode cJ6_getChars_ba4f3 60 = .ok (.iload 5, 2) := by decide +kernel
theorem dJ6_getChars_ba4f3_62 : decode cJ6_getChars_ba4f3 62 = .ok (.getstatic 87, 3) := by decide +kernel
theorem dJ6_getChars_ba4f3_65 : decode cJ6_getChars_ba4f3 65 = .ok (.iload 4, 2) := by decide +kernel
theorem dJ6_getChars_ba4f3_67 : decode cJ6_getChars_ba4f3 67 = .ok (.baload, 1) := by decide +kernel
theorem dJ6_getChars_ba4f3_68 : decode cJ6_getChars_ba4f3 68 = .ok (.bastore, 1) := by decide +kernel
theorem dJ6_getChars_ba4f3_69 : decode cJ6_getChars_ba4f3 69 = .ok (.goto (-47), 3) := by decide +kernel
theorem dJ6_getChars_ba4f3_72 : decode cJ6_getChars_ba4f3 72 = .ok (.aload_n 2, 1) := by decide +kernel
theorem dJ6_getChars_ba4f3_73 : decode cJ6_getChars_ba4f3 73 = .ok (.iinc 5 (-1), 3) := by decide +kernel
theorem dJ6_getChars_ba4f3_76 : decode cJ6_getChars_ba4f3 76 = .ok (.iload 5, 2) := by decide +kernel
theorem dJ6_getChars_ba4f3_78 : decode cJ6_getChars_ba4f3 78 = .ok (.getstatic 83, 3) := by decide +kernel
theorem dJ6_getChars_ba4f3_81 : decode cJ6_getChars_ba4f3 81 = .ok (.iload_n 0, 1) := by decide +kernel
theorem dJ6_getChars_ba4f3_82 : decode cJ6_getChars_ba4f3 82 = .ok (.ineg, 1) := by decide +kernel
theorem dJ6_getChars_ba4f3_83 : decode cJ6_getChars_ba4f3 83 = .ok (.baload, 1) := by decide +kernel
theorem dJ6_getChars_ba4f3_84 : decode cJ6_getChars_ba4f3 84 = .ok (.bastore, 1) := by decide +kernel
theorem dJ6_getChars_ba4f3_85 : decode cJ6_getChars_ba4f3 85 = .ok (.iload_n 0, 1) := by decide +kernel
theorem dJ6_getChars_ba4f3_86 : decode cJ6_getChars_ba4f3 86 = .ok (.bipush (-9), 2) := by decide +kernel
theorem dJ6_getChars_ba4f3_88 : decode cJ6_getChars_ba4f3 88 = .ok (.if_icmp .ge 16, 3) := by decide +kernel
theorem dJ6_getChars_ba4f3_91 : decode cJ6_getChars_ba4f3 91 = .ok (.aload_n 2, 1) := by decide +kernel
theorem dJ6_getChars_ba4f3_92 : decode cJ6_getChars_ba4f3 92 = .ok (.iinc 5 (-1), 3) := by decide +kernel
theorem dJ6_getChars_ba4f3_95 : decode cJ6_getChars_ba4f3 95 = .ok (.iload 5, 2) := by decide +kernel
theorem dJ6_getChars_ba4f3_97 : decode cJ6_getChars_ba4f3 97 = .ok (.getstatic 87, 3) := by decide +kernel
theorem dJ6_getChars_ba4f3_100 : decode cJ6_getChars_ba4f3 100 = .ok (.iload_n 0, 1) := by decide +kernel
theorem dJ6_getChars_ba4f3_101 : decode cJ6_getChars_ba4f3 101 = .ok (.ineg, 1) := by decide +kernel
theorem dJ6_getChars_ba4f3_102 : decode cJ6_getChars_ba4f3 102 = .ok (.baload, 1) := by decide +kernel
theorem dJ6_getChars_ba4f3_103 : decode cJ6_getChars_ba4f3 103 = .ok (.bastore, 1) := by decide +kernel
theorem dJ6_getChars_ba4f3_104 : decode cJ6_getChars_ba4f3 104 = .ok (.iload 6, 2) := by decide +kernel
theorem dJ6_getChars_ba4f3_106 : decode cJ6_getChars_ba4f3 106 = .ok (.ifCond .eq 12, 3) := by decide +kernel
theorem dJ6_getChars_ba4f3_109 : decode cJ6_getChars_ba4f3 109 = .ok (.aload_n 2, 1) := by decide +kernel
theorem dJ6_getChars_ba4f3_110 : decode cJ6_getChars_ba4f3 110 = .ok (.iinc 5 (-1), 3) := by decide +kernel
theorem dJ6_getChars_ba4f3_113 : decode cJ6_getChars_ba4f3 113 = .ok (.iload 5, 2) := by decide +kernel
theorem dJ6_getChars_ba4f3_115 : decode cJ6_getChars_ba4f3 115 = .ok (.bipush 45, 2) := by decide +kernel
theorem dJ6_getChars_ba4f3_117 : decode cJ6_getChars_ba4f3 117 = .ok (.bastore, 1) := by decide +kernel
theorem dJ6_getChars_ba4f3_118 : decode cJ6_getChars_ba4f3 118 = .ok (.iload 5, 2) := by decide +kernel
theorem dJ6_getChars_ba4f3_120 : decode cJ6_getChars_ba4f3 120 = .ok (.ireturn, 1) := by decide +kernel
theorem dJ6_stringSize_0f7a4_0 : decode cJ6_stringSize_0f7a4 0 = .ok (.iconst 1, 1) := by decide +kernel
theorem dJ6_stringSize_0f7a4_1 : decode cJ6_stringSize_0f7a4 1 = .ok (.istore_n 1, 1) := by decide +kernel
theorem dJ6_stringSize_0f7a4_2 : decode cJ6_stringSize_0f7a4 2 = .ok (.iload_n 0, 1) := by decide +kernel
theorem dJ6_stringSize_0f7a4_3 : decode cJ6_stringSize_0f7a4 3 = .ok (.ifCond .lt 8, 3) := by decide +kernel
theorem dJ6_stringSize_0f7a4_6 : decode cJ6_stringSize_0f7a4 6 = .ok (.iconst 0, 1) := by decide +kernel
theorem dJ6_stringSize_0f7a4_7 : decode cJ6_stringSize_0f7a4 7 = .ok (.istore_n 1, 1) := by decide +kernel
theorem dJ6_stringSize_0f7a4_8 : decode cJ6_stringSize_0f7a4 8 = .ok (.iload_n 0, 1) := by decide +kernel
theorem dJ6_stringSize_0f7a4_9 : decode cJ6_stringSize_0f7a4 9 = .ok (.ineg, 1) := by decide +kernel
theorem dJ6_stringSize_0f7a4_10 : decode cJ6_stringSize_0f7a4 10 = .ok (.istore_n 0, 1) := by decide +kernel
theorem dJ6_stringSize_0f7a4_11 : decode cJ6_stringSize_0f7a4 11 = .ok (.bipush (-10), 2) := by decide +kernel
theorem dJ6_stringSize_0f7a4_13 : decode cJ6_stringSize_0f7a4 13 = .ok (.istore_n 2, 1) := by decide +kernel
theorem dJ6_stringSize_0f7a4_14 : decode cJ6_stringSize_0f7a4 14 = .ok (.iconst 1, 1) := by decide +kernel
theorem dJ6_stringSize_0f7a4_15 : decode cJ6_stringSize_0f7a4 15 = .ok (.istore_n 3, 1) := by decide +kernel
theorem dJ6_stringSize_0f7a4_16 : decode cJ6_stringSize_0f7a4 16 = .ok (.iload_n 3, 1) := by decide +kernel
theorem dJ6_stringSize_0f7a4_17 : decode cJ6_stringSize_0f7a4 17 = .ok (.bipush 10, 2) := by decide +kernel
theorem dJ6_stringSize_0f7a4_19 : decode cJ6_stringSize_0f7a4 19 = .ok (.if_icmp .ge 23, 3) := by decide +kernel
theorem dJ6_stringSize_0f7a4_22 : decode cJ6_stringSize_0f7a4 22 = .ok (.iload_n 0, 1) := by decide +kernel
theorem dJ6_stringSize_0f7a4_23 : decode cJ6_stringSize_0f7a4 23 = .ok (.iload_n 2, 1) := by decide +kernel
theorem dJ6_stringSize_0f7a4_24 : decode cJ6_stringSize_0f7a4 24 = .ok (.if_icmp .le 7, 3) := by decide +kernel
theorem dJ6_stringSize_0f7a4_27 : decode cJ6_stringSize_0f7a4 27 = .ok (.iload_n 3, 1) := by decide +kernel
theorem dJ6_stringSize_0f7a4_28 : decode cJ6_stringSize_0f7a4 28 = .ok (.iload_n 1, 1) := by decide +kernel
theorem dJ6_stringSize_0f7a4_29 : decode cJ6_stringSize_0f7a4 29 = .ok (.iadd, 1) := by decide +kernel
theorem dJ6_stringSize_0f7a4_30 : decode cJ6_stringSize_0f7a4 30 = .ok (.ireturn, 1) := by decide +kernel
theorem dJ6_stringSize_0f7a4_31 : decode cJ6_stringSize_0f7a4 31 = .ok (.bipush 10, 2) := by decide +kernel
theorem dJ6_stringSize_0f7a4_33 : decode cJ6_stringSize_0f7a4 33 = .ok (.iload_n 2, 1) := by decide +kernel
theorem dJ6_stringSize_0f7a4_34 : decode cJ6_stringSize_0f7a4 34 = .ok (.imul, 1) := by decide +kernel
theorem dJ6_stringSize_0f7a4_35 : decode cJ6_stringSize_0f7a4 35 = .ok (.istore_n 2, 1) := by decide +kernel
theorem dJ6_stringSize_0f7a4_36 : decode cJ6_stringSize_0f7a4 36 = .ok (.iinc 3 1, 3) := by decide +kernel
theorem dJ6_stringSize_0f7a4_39 : decode cJ6_stringSize_0f7a4 39 = .ok (.goto (-23), 3) := by decide +kernel
theorem dJ6_stringSize_0f7a4_42 : decode cJ6_stringSize_0f7a4 42 = .ok (.bipush 10, 2) := by decide +kernel
theorem dJ6_stringSize_0f7a4_44 : decode cJ6_stringSize_0f7a4 44 = .ok (.iload_n 1, 1) := by decide +kernel
theorem dJ6_stringSize_0f7a4_45 : decode cJ6_stringSize_0f7a4 45 = .ok (.iadd, 1) := by decide +kernel
theorem dJ6_stringSize_0f7a4_46 : decode cJ6_stringSize_0f7a4 46 = .ok (.ireturn, 1) := by decide +kernel
theorem dJ6_bitCount_0f7a4_0 : decode cJ6_bitCount_0f7a4 0 = .ok (.iload_n 0, 1) := by decide +kernel
theorem dJ6_bitCount_0f7a4_1 : decode cJ6_bitCount_0f7a4 1 = .ok (.iload_n 0, 1) := by decide +kernel
theorem dJ6_bitCount_0f7a4_2 : decode cJ6_bitCount_0f7a4 2 = .ok (.iconst 1, 1) := by decide +kernel
theorem dJ6_bitCount_0f7a4_3 : decode cJ6_bitCount_0f7a4 3 = .ok (.iushr, 1) := by decide +kernel
theorem dJ6_bitCount_0f7a4_4 : decode cJ6_bitCount_0f7a4 4 = .ok (.ldc_w 265, 3) := by decide +kernel
theorem dJ6_bitCount_0f7a4_7 : decode cJ6_bitCount_0f7a4 7 = .ok (.iand, 1) := by decide +kernel
theorem dJ6_bitCount_0f7a4_8 : decode cJ6_bitCount_0f7a4 8 = .ok (.isub, 1) := by decide +kernel
theorem dJ6_bitCount_0f7a4_9 : decode cJ6_bitCount_0f7a4 9 = .ok (.istore_n 0, 1) := by decide +kernel
theorem dJ6_bitCount_0f7a4_10 : decode cJ6_bitCount_0f7a4 10 = .ok (.iload_n 0, 1) := by decide +kernel
theorem dJ6_bitCount_0f7a4_11 : decode cJ6_bitCount_0f7a4 11 = .ok (.ldc_w 266, 3) := by decide +kernel
theorem dJ6_bitCount_0f7a4_14 : decode cJ6_bitCount_0f7a4 14 = .ok (.iand, 1) := by decide +kernel
theorem dJ6_bitCount_0f7a4_15 : decode cJ6_bitCount_0f7a4 15 = .ok (.iload_n 0, 1) := by decide +kernel
theorem dJ6_bitCount_0f7a4_16 : decode cJ6_bitCount_0f7a4 16 = .ok (.iconst 2, 1) := by decide +kernel
theorem dJ6_bitCount_0f7a4_17 : decode cJ6_bitCount_0f7a4 17 = .ok (.iushr, 1) := by decide +kernel
theorem dJ6_bitCount_0f7a4_18 : decode cJ6_bitCount_0f7a4 18 = .ok (.ldc_w 266, 3) := by decide +kernel
theorem dJ6_bitCount_0f7a4_21 : decode cJ6_bitCount_0f7a4 21 = .ok (.iand, 1) := by decide +kernel
theorem dJ6_bitCount_0f7a4_22 : decode cJ6_bitCount_0f7a4 22 = .ok (.iadd, 1) := by decide +kernel
theorem dJ6_bitCount_0f7a4_23 : decode cJ6_bitCount_0f7a4 23 = .ok (.istore_n 0, 1) := by decide +kernel
theorem dJ6_bitCount_0f7a4_24 : decode cJ6_bitCount_0f7a4 24 = .ok (.iload_n 0, 1) := by decide +kernel
theorem dJ6_bitCount_0f7a4_25 : decode cJ6_bitCount_0f7a4 25 = .ok (.iload_n 0, 1) := by decide +kernel
theorem dJ6_bitCount_0f7a4_26 : decode cJ6_bitCount_0f7a4 26 = .ok (.iconst 4, 1) := by decide +kernel
theorem dJ6_bitCount_0f7a4_27 : decode cJ6_bitCount_0f7a4 27 = .ok (.iushr, 1) := by decide +kernel
theorem dJ6_bitCount_0f7a4_28 : decode cJ6_bitCount_0f7a4 28 = .ok (.iadd, 1) := by decide +kernel
theorem dJ6_bitCount_0f7a4_29 : decode cJ6_bitCount_0f7a4 29 = .ok (.ldc_w 267, 3) := by decide +kernel
theorem dJ6_bitCount_0f7a4_32 : decode cJ6_bitCount_0f7a4 32 = .ok (.iand, 1) := by decide +kernel
theorem dJ6_bitCount_0f7a4_33 : decode cJ6_bitCount_0f7a4 33 = .ok (.istore_n 0, 1) := by decide +kernel
theorem dJ6_bitCount_0f7a4_34 : decode cJ6_bitCount_0f7a4 34 = .ok (.iload_n 0, 1) := by decide +kernel
theorem dJ6_bitCount_0f7a4_35 : decode cJ6_bitCount_0f7a4 35 = .ok (.iload_n 0, 1) := by decide +kernel
theorem dJ6_bitCount_0f7a4_36 : decode cJ6_bitCount_0f7a4 36 = .ok (.bipush 8, 2) := by decide +kernel
theorem dJ6_bitCount_0f7a4_38 : decode cJ6_bitCount_0f7a4 38 = .ok (.iushr, 1) := by decide +kernel
theorem dJ6_bitCount_0f7a4_39 : decode cJ6_bitCount_0f7a4 39 = .ok (.iadd, 1) := by decide +kernel
theorem dJ6_bitCount_0f7a4_40 : decode cJ6_bitCount_0f7a4 40 = .ok (.istore_n 0, 1) := by decide +kernel
theorem dJ6_bitCount_0f7a4_41 : decode cJ6_bitCount_0f7a4 41 = .ok (.iload_n 0, 1) := by decide +kernel
theorem dJ6_bitCount_0f7a4_42 : decode cJ6_bitCount_0f7a4 42 = .ok (.iload_n 0, 1) := by decide +kernel
theorem dJ6_bitCount_0f7a4_43 : decode cJ6_bitCount_0f7a4 43 = .ok (.bipush 16, 2) := by decide +kernel
theorem dJ6_bitCount_0f7a4_45 : decode cJ6_bitCount_0f7a4 45 = .ok (.iushr, 1) := by decide +kernel
theorem dJ6_bitCount_0f7a4_46 : decode cJ6_bitCount_0f7a4 46 = .ok (.iadd, 1) := by decide +kernel
theorem dJ6_bitCount_0f7a4_47 : decode cJ6_bitCount_0f7a4 47 = .ok (.istore_n 0, 1) := by decide +kernel
theorem dJ6_bitCount_0f7a4_48 : decode cJ6_bitCount_0f7a4 48 = .ok (.iload_n 0, 1) := by decide +kernel
theorem dJ6_bitCount_0f7a4_49 : decode cJ6_bitCount_0f7a4 49 = .ok (.bipush 63, 2) := by decide +kernel
theorem dJ6_bitCount_0f7a4_51 : decode cJ6_bitCount_0f7a4 51 = .ok (.iand, 1) := by decide +kernel
theorem dJ6_bitCount_0f7a4_52 : decode cJ6_bitCount_0f7a4 52 = .ok (.ireturn, 1) := by decide +kernel
theorem dJ9_floorMod_f86c9_0 : decode cJ9_floorMod_f86c9 0 = .ok (.lload_n 0, 1) := by decide +kernel
theorem dJ9_floorMod_f86c9_1 : decode cJ9_floorMod_f86c9 1 = .ok (.lload_n 2, 1) := by decide +kernel
theorem dJ9_floorMod_f86c9_2 : decode cJ9_floorMod_f86c9 2 = .ok (.lrem, 1) := by decide +kernel
theorem dJ9_floorMod_f86c9_3 : decode cJ9_floorMod_f86c9 3 = .ok (.lstore 4, 2) := by decide +kernel
theorem dJ9_floorMod_f86c9_5 : decode cJ9_floorMod_f86c9 5 = .ok (.lload_n 0, 1) := by decide +kernel
theorem dJ9_floorMod_f86c9_6 : decode cJ9_floorMod_f86c9 6 = .ok (.lload_n 2, 1) := by decide +kernel
theorem dJ9_floorMod_f86c9_7 : decode cJ9_floorMod_f86c9 7 = .ok (.lxor, 1) := by decide +kernel
theorem dJ9_floorMod_f86c9_8 : decode cJ9_floorMod_f86c9 8 = .ok (.lconst 0, 1) := by decide +kernel
theorem dJ9_floorMod_f86c9_9 : decode cJ9_floorMod_f86c9 9 = .ok (.lcmp, 1) := by decide +kernel
theorem dJ9_floorMod_f86c9_10 : decode cJ9_floorMod_f86c9 10 = .ok (.ifCond .ge 15, 3) := by decide +kernel
theorem dJ9_floorMod_f86c9_13 : decode cJ9_floorMod_f86c9 13 = .ok (.lload 4, 2) := by decide +kernel
theorem dJ9_floorMod_f86c9_15 : decode cJ9_floorMod_f86c9 15 = .ok (.lconst 0, 1) := by decide +kernel
theorem dJ9_floorMod_f86c9_16 : decode cJ9_floorMod_f86c9 16 = .ok (.lcmp, 1) := by decide +kernel
theorem dJ9_floorMod_f86c9_17 : decode cJ9_floorMod_f86c9 17 = .ok (.ifCond .eq 8, 3) := by decide +kernel
theorem dJ9_floorMod_f86c9_20 : decode cJ9_floorMod_f86c9 20 = .ok (.lload 4, 2) := by decide +kernel
theorem dJ9_floorMod_f86c9_22 : decode cJ9_floorMod_f86c9 22 = .ok (.lload_n 2, 1) := by decide +kernel
theorem dJ9_floorMod_f86c9_23 : decode cJ9_floorMod_f86c9 23 = .ok (.ladd, 1) := by decide +kernel
theorem dJ9_floorMod_f86c9_24 : decode cJ9_floorMod_f86c9 24 = .ok (.lreturn, 1) := by decide +kernel
theorem dJ9_floorMod_f86c9_25 : decode cJ9_floorMod_f86c9 25 = .ok (.lload 4, 2) := by decide +kernel
theorem dJ9_floorMod_f86c9_27 : decode cJ9_floorMod_f86c9 27 = .ok (.lreturn, 1) := by decide +kernel
theorem dJ9_abs_0f7a4_0 : decode cJ9_abs_0f7a4 0 = .ok (.iload_n 0, 1) := by decide +kernel
theorem dJ9_abs_0f7a4_1 : decode cJ9_abs_0f7a4 1 = .ok (.ifCond .ge 8, 3) := by decide +kernel
theorem dJ9_abs_0f7a4_4 : decode cJ9_abs_0f7a4 4 = .ok (.iload_n 0, 1) := by decide +kernel
theorem dJ9_abs_0f7a4_5 : decode cJ9_abs_0f7a4 5 = .ok (.ineg, 1) := by decide +kernel
theorem dJ9_abs_0f7a4_6 : decode cJ9_abs_0f7a4 6 = .ok (.goto 4, 3) := by decide +kernel
theorem dJ9_abs_0f7a4_9 : decode cJ9_abs_0f7a4 9 = .ok (.iload_n 0, 1) := by decide +kernel
theorem dJ9_abs_0f7a4_10 : decode cJ9_abs_0f7a4 10 = .ok (.ireturn, 1) := by decide +kernel
theorem dJ9_max_7cf53_0 : decode cJ9_max_7cf53 0 = .ok (.iload_n 0, 1) := by decide +kernel
theorem dJ9_max_7cf53_1 : decode cJ9_max_7cf53 1 = .ok (.iload_n 1, 1) := by decide +kernel
theorem dJ9_max_7cf53_2 : decode cJ9_max_7cf53 2 = .ok (.if_icmp .lt 7, 3) := by decide +kernel
theorem dJ9_max_7cf53_5 : decode cJ9_max_7cf53 5 = .ok (.iload_n 0, 1) := by decide +kernel
theorem dJ9_max_7cf53_6 : decode cJ9_max_7cf53 6 = .ok (.goto 4, 3) := by decide +kernel
theorem dJ9_max_7cf53_9 : decode cJ9_max_7cf53 9 = .ok (.iload_n 1, 1) := by decide +kernel
theorem dJ9_max_7cf53_10 : decode cJ9_max_7cf53 10 = .ok (.ireturn, 1) := by decide +kernel
theorem dJ9_min_7cf53_0 : decode cJ9_min_7cf53 0 = .ok (.iload_n 0, 1) := by decide +kernel
theorem dJ9_min_7cf53_1 : decode cJ9_min_7cf53 1 = .ok (.iload_n 1, 1) := by decide +kernel
theorem dJ9_min_7cf53_2 : decode cJ9_min_7cf53 2 = .ok (.if_icmp .gt 7, 3) := by decide +kernel
theorem dJ9_min_7cf53_5 : decode cJ9_min_7cf53 5 = .ok (.iload_n 0, 1) := by decide +kernel
theorem dJ9_min_7cf53_6 : decode cJ9_min_7cf53 6 = .ok (.goto 4, 3) := by decide +kernel
theorem dJ9_min_7cf53_9 : decode cJ9_min_7cf53 9 = .ok (.iload_n 1, 1) := by decide +kernel
theorem dJ9_min_7cf53_10 : decode cJ9_min_7cf53 10 = .ok (.ireturn, 1) := by decide +kernel
theorem dJ9_min_f86c9_0 : decode cJ9_min_f86c9 0 = .ok (.lload_n 0, 1) := by decide +kernel
theorem dJ9_min_f86c9_1 : decode cJ9_min_f86c9 1 = .ok (.lload_n 2, 1) := by decide +kernel
theorem dJ9_min_f86c9_2 : decode cJ9_min_f86c9 2 = .ok (.lcmp, 1) := by decide +kernel
theorem dJ9_min_f86c9_3 : decode cJ9_min_f86c9 3 = .ok (.ifCond .gt 7, 3) := by decide +kernel
theorem dJ9_min_f86c9_6 : decode cJ9_min_f86c9 6 = .ok (.lload_n 0, 1) := by decide +kernel
theorem dJ9_min_f86c9_7 : decode cJ9_min_f86c9 7 = .ok (.goto 4, 3) := by decide +kernel
theorem dJ9_min_f86c9_10 : decode cJ9_min_f86c9 10 = .ok (.lload_n 2, 1) := by decide +kernel
theorem dJ9_min_f86c9_11 : decode cJ9_min_f86c9 11 = .ok (.lreturn, 1) := by decide +kernel
theorem dJ0_init_81219_0 : decode cJ0_init_81219 0 = .ok (.aload_n 0, 1) := by decide +kernel
theorem dJ0_init_81219_1 : decode cJ0_init_81219 1 = .ok (.aload_n 1, 1) := by decide +kernel
theorem dJ0_init_81219_2 : decode cJ0_init_81219 2 = .ok (.aconst_null, 1) := by decide +kernel
theorem dJ0_init_81219_3 : decode cJ0_init_81219 3 = .ok (.invokespecial 489, 3) := by decide +kernel
theorem dJ0_init_81219_6 : decode cJ0_init_81219 6 = .ok (.return_, 1) := by decide +kernel
theorem dJ0_length_8abf5_0 : decode cJ0_length_8abf5 0 = .ok (.aload_n 0, 1) := by decide +kernel
theorem dJ0_length_8abf5_1 : decode cJ0_length_8abf5 1 = .ok (.getfield 9, 3) := by decide +kernel
theorem dJ0_length_8abf5_4 : decode cJ0_length_8abf5 4 = .ok (.arraylength, 1) := by decide +kernel
theorem dJ0_length_8abf5_5 : decode cJ0_length_8abf5 5 = .ok (.aload_n 0, 1) := by decide +kernel
theorem dJ0_length_8abf5_6 : decode cJ0_length_8abf5 6 = .ok (.invokevirtual 335, 3) := by decide +kernel
theorem dJ0_length_8abf5_9 : decode cJ0_length_8abf5 9 = .ok (.ishr, 1) := by decide +kernel
theorem dJ0_length_8abf5_10 : decode cJ0_length_8abf5 10 = .ok (.ireturn, 1) := by decide +kernel
theorem dJ0_getBytes_840e7_0 : decode cJ0_getBytes_840e7 0 = .ok (.aload_n 0, 1) := by decide +kernel
theorem dJ0_getBytes_840e7_1 : decode cJ0_getBytes_840e7 1 = .ok (.invokevirtual 335, 3) := by decide +kernel
theorem dJ0_getBytes_840e7_4 : decode cJ0_getBytes_840e7 4 = .ok (.iload_n 3, 1) := by decide +kernel
theorem dJ0_getBytes_840e7_5 : decode cJ0_getBytes_840e7 5 = .ok (.if_icmp .ne 23, 3) := by decide +kernel
theorem dJ0_getBytes_840e7_8 : decode cJ0_getBytes_840e7 8 = .ok (.aload_n 0, 1) := by decide +kernel
theorem dJ0_getBytes_840e7_9 : decode cJ0_getBytes_840e7 9 = .ok (.getfield 9, 3) := by decide +kernel
theorem dJ0_getBytes_840e7_12 : decode cJ0_getBytes_840e7 12 = .ok (.iconst 0, 1) := by decide +kernel
theorem dJ0_getBytes_840e7_13 : decode cJ0_getBytes_840e7 13 = .ok (.aload_n 1, 1) := by decide +kernel
theorem dJ0_getBytes_840e7_14 : decode cJ0_getBytes_840e7 14 = .ok (.iload_n 2, 1) := by decide +kernel
theorem dJ0_getBytes_840e7_15 : decode cJ0_getBytes_840e7 15 = .ok (.iload_n 3, 1) := by decide +kernel
theorem dJ0_getBytes_840e7_16 : decode cJ0_getBytes_840e7 16 = .ok (.ishl, 1) := by decide +kernel
theorem dJ0_getBytes_840e7_17 : decode cJ0_getBytes_840e7 17 = .ok (.aload_n 0, 1) := by decide +kernel
theorem dJ0_getBytes_840e7_18 : decode cJ0_getBytes_840e7 18 = .ok (.getfield 9, 3) := by decide +kernel
theorem dJ0_getBytes_840e7_21 : decode cJ0_getBytes_840e7 21 = .ok (.arraylength, 1) := by decide +kernel
theorem dJ0_getBytes_840e7_22 : decode cJ0_getBytes_840e7 22 = .ok (.invokestatic 212, 3) := by decide +kernel
theorem dJ0_getBytes_840e7_25 : decode cJ0_getBytes_840e7 25 = .ok (.goto 18, 3) := by decide +kernel
theorem dJ0_getBytes_840e7_28 : decode cJ0_getBytes_840e7 28 = .ok (.aload_n 0, 1) := by decide +kernel
theorem dJ0_getBytes_840e7_29 : decode cJ0_getBytes_840e7 29 = .ok (.getfield 9, 3) := by decide +kernel
theorem dJ0_getBytes_840e7_32 : decode cJ0_getBytes_840e7 32 = .ok (.iconst 0, 1) := by decide +kernel
theorem dJ0_getBytes_840e7_33 : decode cJ0_getBytes_840e7 33 = .ok (.aload_n 1, 1) := by decide +kernel
theorem dJ0_getBytes_840e7_34 : decode cJ0_getBytes_840e7 34 = .ok (.iload_n 2, 1) := by decide +kernel
theorem dJ0_getBytes_840e7_35 : decode cJ0_getBytes_840e7 35 = .ok (.aload_n 0, 1) := by decide +kernel
theorem dJ0_getBytes_840e7_36 : decode cJ0_getBytes_840e7 36 = .ok (.getfield 9, 3) := by decide +kernel
theorem dJ0_getBytes_840e7_39 : decode cJ0_getBytes_840e7 39 = .ok (.arraylength, 1) := by decide +kernel
theorem dJ0_getBytes_840e7_40 : decode cJ0_getBytes_840e7 40 = .ok (.invokestatic 106, 3) := by decide +kernel
theorem dJ0_getBytes_840e7_43 : decode cJ0_getBytes_840e7 43 = .ok (.return_, 1) := by decide +kernel
theorem dJ0_init_db425_0 : decode cJ0_init_db425 0 = .ok (.aload_n 0, 1) := by decide +kernel
theorem dJ0_init_db425_1 : decode cJ0_init_db425 1 = .ok (.invokespecial 1, 3) := by decide +kernel
theorem dJ0_init_db425_4 : decode cJ0_init_db425 4 = .ok (.aload_n 1, 1) := by decide +kernel
theorem dJ0_init_db425_5 : decode cJ0_init_db425 5 = .ok (.invokevirtual 552, 3) := by decide +kernel
theorem dJ0_init_db425_8 : decode cJ0_init_db425 8 = .ok (.astore_n 3, 1) := by decide +kernel
theorem dJ0_init_db425_9 : decode cJ0_init_db425 9 = .ok (.aload_n 1, 1) := by decide +kernel
theorem dJ0_init_db425_10 : decode cJ0_init_db425 10 = .ok (.invokevirtual 549, 3) := by decide +kernel
theorem dJ0_init_db425_13 : decode cJ0_init_db425 13 = .ok (.istore 4, 2) := by decide +kernel
theorem dJ0_init_db425_15 : decode cJ0_init_db425 15 = .ok (.aload_n 1, 1) := by decide +kernel
theorem dJ0_init_db425_16 : decode cJ0_init_db425 16 = .ok (.invokevirtual 1047, 3) := by decide +kernel
theorem dJ0_init_db425_19 : decode cJ0_init_db425 19 = .ok (.ifCond .eq 22, 3) := by decide +kernel
theorem dJ0_init_db425_22 : decode cJ0_init_db425 22 = .ok (.aload_n 0, 1) := by decide +kernel
theorem dJ0_init_db425_23 : decode cJ0_init_db425 23 = .ok (.iconst 0, 1) := by decide +kernel
theorem dJ0_init_db425_24 : decode cJ0_init_db425 24 = .ok (.putfield 15, 3) := by decide +kernel
theorem dJ0_init_db425_27 : decode cJ0_init_db425 27 = .ok (.aload_n 0, 1) := by decide +kernel
theorem dJ0_init_db425_28 : decode cJ0_init_db425 28 = .ok (.aload_n 3, 1) := by decide +kernel
theorem dJ0_init_db425_29 : decode cJ0_init_db425 29 = .ok (.iconst 0, 1) := by decide +kernel
theorem dJ0_init_db425_30 : decode cJ0_init_db425 30 = .ok (.iload 4, 2) := by decide +kernel
theorem dJ0_init_db425_32 : decode cJ0_init_db425 32 = .ok (.invokestatic 54, 3) := by decide +kernel
theorem dJ0_init_db425_35 : decode cJ0_init_db425 35 = .ok (.putfield 9, 3) := by decide +kernel
theorem dJ0_init_db425_38 : decode cJ0_init_db425 38 = .ok (.goto 59, 3) := by decide +kernel
theorem dJ0_init_db425_41 : decode cJ0_init_db425 41 = .ok (.getstatic 38, 3) := by decide +kernel
theorem dJ0_init_db425_44 : decode cJ0_init_db425 44 = .ok (.ifCond .eq 35, 3) := by decide +kernel
theorem dJ0_init_db425_47 : decode cJ0_init_db425 47 = .ok (.aload_n 1, 1) := by decide +kernel
theorem dJ0_init_db425_48 : decode cJ0_init_db425 48 = .ok (.getfield 1048, 3) := by decide +kernel
theorem dJ0_init_db425_51 : decode cJ0_init_db425 51 = .ok (.ifCond .eq 28, 3) := by decide +kernel
theorem dJ0_init_db425_54 : decode cJ0_init_db425 54 = .ok (.aload_n 0, 1) := by decide +kernel
theorem dJ0_init_db425_55 : decode cJ0_init_db425 55 = .ok (.aload_n 3, 1) := by decide +kernel
theorem dJ0_init_db425_56 : decode cJ0_init_db425 56 = .ok (.iconst 0, 1) := by decide +kernel
theorem dJ0_init_db425_57 : decode cJ0_init_db425 57 = .ok (.iload 4, 2) := by decide +kernel
theorem dJ0_init_db425_59 : decode cJ0_init_db425 59 = .ok (.invokestatic 1051, 3) := by decide +kernel
theorem dJ0_init_db425_62 : decode cJ0_init_db425 62 = .ok (.putfield 9, 3) := by decide +kernel
theorem dJ0_init_db425_65 : decode cJ0_init_db425 65 = .ok (.aload_n 0, 1) := by decide +kernel
theorem dJ0_init_db425_66 : decode cJ0_init_db425 66 = .ok (.aload_n 0, 1) := by decide +kernel
theorem dJ0_init_db425_67 : decode cJ0_init_db425 67 = .ok (.getfield 9, 3) := by decide +kernel
theorem dJ0_init_db425_70 : decode cJ0_init_db425 70 = .ok (.iload 4, 2) := by decide +kernel
theorem dJ0_init_db425_72 : decode cJ0_init_db425 72 = .ok (.invokestatic 47, 3) := by decide +kernel
theorem dJ0_init_db425_75 : decode cJ0_init_db425 75 = .ok (.putfield 15, 3) := by decide +kernel
theorem dJ0_init_db425_78 : decode cJ0_init_db425 78 = .ok (.return_, 1) := by decide +kernel
theorem dJ0_init_db425_79 : decode cJ0_init_db425 79 = .ok (.aload_n 0, 1) := by decide +kernel
theorem dJ0_init_db425_80 : decode cJ0_init_db425 80 = .ok (.iconst 1, 1) := by decide +kernel
theorem dJ0_init_db425_81 : decode cJ0_init_db425 81 = .ok (.putfield 15, 3) := by decide +kernel
theorem dJ0_init_db425_84 : decode cJ0_init_db425 84 = .ok (.aload_n 0, 1) := by decide +kernel
theorem dJ0_init_db425_85 : decode cJ0_init_db425 85 = .ok (.aload_n 3, 1) := by decide +kernel
theorem dJ0_init_db425_86 : decode cJ0_init_db425 86 = .ok (.iconst 0, 1) := by decide +kernel
theorem dJ0_init_db425_87 : decode cJ0_init_db425 87 = .ok (.iload 4, 2) := by decide +kernel
theorem dJ0_init_db425_89 : decode cJ0_init_db425 89 = .ok (.iconst 1, 1) := by decide +kernel
theorem dJ0_init_db425_90 : decode cJ0_init_db425 90 = .ok (.ishl, 1) := by decide +kernel
theorem dJ0_init_db425_91 : decode cJ0_init_db425 91 = .ok (.invokestatic 54, 3) := by decide +kernel
theorem dJ0_init_db425_94 : decode cJ0_init_db425 94 = .ok (.putfield 9, 3) := by decide +kernel
theorem dJ0_init_db425_97 : decode cJ0_init_db425 97 = .ok (.return_, 1) := by decide +kernel
theorem dJ0_coder_7d493_0 : decode cJ0_coder_7d493 0 = .ok (.getstatic 38, 3) := by decide +kernel
theorem dJ0_coder_7d493_3 : decode cJ0_coder_7d493 3 = .ok (.ifCond .eq 10, 3) := by decide +kernel
theorem dJ0_coder_7d493_6 : decode cJ0_coder_7d493 6 = .ok (.aload_n 0, 1) := by decide +kernel
theorem dJ0_coder_7d493_7 : decode cJ0_coder_7d493 7 = .ok (.getfield 15, 3) := by decide +kernel
theorem dJ0_coder_7d493_10 : decode cJ0_coder_7d493 10 = .ok (.goto 4, 3) := by decide +kernel
theorem dJ0_coder_7d493_13 : decode cJ0_coder_7d493 13 = .ok (.iconst 1, 1) := by decide +kernel
theorem dJ0_coder_7d493_14 : decode cJ0_coder_7d493 14 = .ok (.ireturn, 1) := by decide +kernel
theorem dJ0_checkIndex_df160_0 : decode cJ0_checkIndex_df160 0 = .ok (.iload_n 0, 1) := by decide +kernel
theorem dJ0_checkIndex_df160_1 : decode cJ0_checkIndex_df160 1 = .ok (.iload_n 1, 1) := by decide +kernel
theorem dJ0_checkIndex_df160_2 : decode cJ0_checkIndex_df160 2 = .ok (.getstatic 1053, 3) := by decide +kernel
theorem dJ0_checkIndex_df160_5 : decode cJ0_checkIndex_df160 5 = .ok (.invokestatic 1059, 3) := by decide +kernel
theorem dJ0_checkIndex_df160_8 : decode cJ0_checkIndex_df160 8 = .ok (.pop, 1) := by decide +kernel
theorem dJ0_checkIndex_df160_9 : decode cJ0_checkIndex_df160 9 = .ok (.return_, 1) := by decide +kernel
theorem dJ0_checkBoundsOffCount_cabcc_0 : decode cJ0_checkBoundsOffCount_cabcc 0 = .ok (.iload_n 0, 1) := by decide +kernel
theorem dJ0_checkBoundsOffCount_cabcc_1 : decode cJ0_checkBoundsOffCount_cabcc 1 = .ok (.iload_n 1, 1) := by decide +kernel
theorem dJ0_checkBoundsOffCount_cabcc_2 : decode cJ0_checkBoundsOffCount_cabcc 2 = .ok (.iload_n 2, 1) := by decide +kernel
theorem dJ0_checkBoundsOffCount_cabcc_3 : decode cJ0_checkBoundsOffCount_cabcc 3 = .ok (.getstatic 1053, 3) := by decide +kernel
theorem dJ0_checkBoundsOffCount_cabcc_6 : decode cJ0_checkBoundsOffCount_cabcc 6 = .ok (.invokestatic 1065, 3) := by decide +kernel
theorem dJ0_checkBoundsOffCount_cabcc_9 : decode cJ0_checkBoundsOffCount_cabcc 9 = .ok (.ireturn, 1) := by decide +kernel
theorem dJ0_checkBoundsBeginEnd_23922_0 : decode cJ0_checkBoundsBeginEnd_23922 0 = .ok (.iload_n 0, 1) := by decide +kernel
theorem dJ0_checkBoundsBeginEnd_23922_1 : decode cJ0_checkBoundsBeginEnd_23922 1 = .ok (.iload_n 1, 1) := by decide +kernel
theorem dJ0_checkBoundsBeginEnd_23922_2 : decode cJ0_checkBoundsBeginEnd_23922 2 = .ok (.iload_n 2, 1) := by decide +kernel
theorem dJ0_checkBoundsBeginEnd_23922_3 : decode cJ0_checkBoundsBeginEnd_23922 3 = .ok (.getstatic 1053, 3) := by decide +kernel
theorem dJ0_checkBoundsBeginEnd_23922_6 : decode cJ0_checkBoundsBeginEnd_23922 6 = .ok (.invokestatic 1062, 3) := by decide +kernel
theorem dJ0_checkBoundsBeginEnd_23922_9 : decode cJ0_checkBoundsBeginEnd_23922 9 = .ok (.pop, 1) := by decide +kernel
theorem dJ0_checkBoundsBeginEnd_23922_10 : decode cJ0_checkBoundsBeginEnd_23922 10 = .ok (.return_, 1) := by decide +kernel
theorem dJ4_init_da8c8_0 : decode cJ4_init_da8c8 0 = .ok (.aload_n 0, 1) := by decide +kernel
theorem dJ4_init_da8c8_1 : decode cJ4_init_da8c8 1 = .ok (.bipush 16, 2) := by decide +kernel
theorem dJ4_init_da8c8_3 : decode cJ4_init_da8c8 3 = .ok (.invokespecial 1, 3) := by decide +kernel
theorem dJ4_init_da8c8_6 : decode cJ4_init_da8c8 6 = .ok (.return_, 1) := by decide +kernel
theorem dJ4_append_15ec4_0 : decode cJ4_append_15ec4 0 = .ok (.aload_n 0, 1) := by decide +kernel
theorem dJ4_append_15ec4_1 : decode cJ4_append_15ec4 1 = .ok (.aload_n 1, 1) := by decide +kernel
theorem dJ4_append_15ec4_2 : decode cJ4_append_15ec4 2 = .ok (.invokespecial 29, 3) := by decide +kernel
theorem dJ4_append_15ec4_5 : decode cJ4_append_15ec4 5 = .ok (.pop, 1) := by decide +kernel
theorem dJ4_append_15ec4_6 : decode cJ4_append_15ec4 6 = .ok (.aload_n 0, 1) := by decide +kernel
theorem dJ4_append_15ec4_7 : decode cJ4_append_15ec4 7 = .ok (.areturn, 1) := by decide +kernel
theorem dJ4_append_cf468_0 : decode cJ4_append_cf468 0 = .ok (.aload_n 0, 1) := by decide +kernel
theorem dJ4_append_cf468_1 : decode cJ4_append_cf468 1 = .ok (.iload_n 1, 1) := by decide +kernel
theorem dJ4_append_cf468_2 : decode cJ4_append_cf468 2 = .ok (.invokespecial 50, 3) := by decide +kernel
theorem dJ4_append_cf468_5 : decode cJ4_append_cf468 5 = .ok (.pop, 1) := by decide +kernel
theorem dJ4_append_cf468_6 : decode cJ4_append_cf468 6 = .ok (.aload_n 0, 1) := by decide +kernel
theorem dJ4_append_cf468_7 : decode cJ4_append_cf468 7 = .ok (.areturn, 1) := by decide +kernel
theorem dJ4_append_bf812_0 : decode cJ4_append_bf812 0 = .ok (.aload_n 0, 1) := by decide +kernel
theorem dJ4_append_bf812_1 : decode cJ4_append_bf812 1 = .ok (.iload_n 1, 1) := by decide +kernel
theorem dJ4_append_bf812_2 : decode cJ4_append_bf812 2 = .ok (.invokespecial 53, 3) := by decide +kernel
theorem dJ4_append_bf812_5 : decode cJ4_append_bf812 5 = .ok (.pop, 1) := by decide +kernel
theorem dJ4_append_bf812_6 : decode cJ4_append_bf812 6 = .ok (.aload_n 0, 1) := by decide +kernel
theorem dJ4_append_bf812_7 : decode cJ4_append_bf812 7 = .ok (.areturn, 1) := by decide +kernel
theorem dJ4_toString_0e30d_0 : decode cJ4_toString_0e30d 0 = .ok (.new 18, 3) := by decide +kernel
theorem dJ4_toString_0e30d_3 : decode cJ4_toString_0e30d 3 = .ok (.dup, 1) := by decide +kernel
theorem dJ4_toString_0e30d_4 : decode cJ4_toString_0e30d 4 = .ok (.aload_n 0, 1) := by decide +kernel
theorem dJ4_toString_0e30d_5 : decode cJ4_toString_0e30d 5 = .ok (.invokespecial 137, 3) := by decide +kernel
theorem dJ4_toString_0e30d_8 : decode cJ4_toString_0e30d 8 = .ok (.areturn, 1) := by decide +kernel
theorem dJ4_charAt_5068e_0 : decode cJ4_charAt_5068e 0 = .ok (.aload_n 0, 1) := by decide +kernel
theorem dJ4_charAt_5068e_1 : decode cJ4_charAt_5068e 1 = .ok (.iload_n 1, 1) := by decide +kernel
theorem dJ4_charAt_5068e_2 : decode cJ4_charAt_5068e 2 = .ok (.invokespecial 329, 3) := by decide +kernel
theorem dJ4_charAt_5068e_5 : decode cJ4_charAt_5068e 5 = .ok (.ireturn, 1) := by decide +kernel
theorem dJ4_setLength_d00df_0 : decode cJ4_setLength_d00df 0 = .ok (.aload_n 0, 1) := by decide +kernel
theorem dJ4_setLength_d00df_1 : decode cJ4_setLength_d00df 1 = .ok (.iload_n 1, 1) := by decide +kernel
theorem dJ4_setLength_d00df_2 : decode cJ4_setLength_d00df 2 = .ok (.invokespecial 333, 3) := by decide +kernel
theorem dJ4_setLength_d00df_5 : decode cJ4_setLength_d00df 5 = .ok (.return_, 1) := by decide +kernel
theorem dJ4_length_8abf5_0 : decode cJ4_length_8abf5 0 = .ok (.aload_n 0, 1) := by decide +kernel
theorem dJ4_length_8abf5_1 : decode cJ4_length_8abf5 1 = .ok (.invokespecial 343, 3) := by decide +kernel
theorem dJ4_length_8abf5_4 : decode cJ4_length_8abf5 4 = .ok (.ireturn, 1) := by decide +kernel
theorem dJx7c733_init_d00df_0 : decode cJx7c733_init_d00df 0 = .ok (.aload_n 0, 1) := by decide +kernel
theorem dJx7c733_init_d00df_1 : decode cJx7c733_init_d00df 1 = .ok (.new 10, 3) := by decide +kernel
theorem dJx7c733_init_d00df_4 : decode cJx7c733_init_d00df 4 = .ok (.dup, 1) := by decide +kernel
theorem dJx7c733_init_d00df_5 : decode cJx7c733_init_d00df 5 = .ok (.invokespecial 12, 3) := by decide +kernel
theorem dJx7c733_init_d00df_8 : decode cJx7c733_init_d00df 8 = .ok (.ldc 13, 2) := by decide +kernel
theorem dJx7c733_init_d00df_10 : decode cJx7c733_init_d00df 10 = .ok (.invokevirtual 15, 3) := by decide +kernel
theorem dJx7c733_init_d00df_13 : decode cJx7c733_init_d00df 13 = .ok (.iload_n 1, 1) := by decide +kernel
theorem dJx7c733_init_d00df_14 : decode cJx7c733_init_d00df 14 = .ok (.invokevirtual 19, 3) := by decide +kernel
theorem dJx7c733_init_d00df_17 : decode cJx7c733_init_d00df 17 = .ok (.invokevirtual 22, 3) := by decide +kernel
theorem dJx7c733_init_d00df_20 : decode cJx7c733_init_d00df 20 = .ok (.invokespecial 7, 3) := by decide +kernel
theorem dJx7c733_init_d00df_23 : decode cJx7c733_init_d00df 23 = .ok (.return_, 1) := by decide +kernel
theorem dJ1_canEncode_fc78d_0 : decode cJ1_canEncode_fc78d 0 = .ok (.iload_n 0, 1) := by decide +kernel
theorem dJ1_canEncode_fc78d_1 : decode cJ1_canEncode_fc78d 1 = .ok (.sipush 255, 3) := by decide +kernel
theorem dJ1_canEncode_fc78d_4 : decode cJ1_canEncode_fc78d 4 = .ok (.if_icmp .gt 7, 3) := by decide +kernel
theorem dJ1_canEncode_fc78d_7 : decode cJ1_canEncode_fc78d 7 = .ok (.iconst 1, 1) := by decide +kernel
theorem dJ1_canEncode_fc78d_8 : decode cJ1_canEncode_fc78d 8 = .ok (.goto 4, 3) := by decide +kernel
theorem dJ1_canEncode_fc78d_11 : decode cJ1_canEncode_fc78d 11 = .ok (.iconst 0, 1) := by decide +kernel
theorem dJ1_canEncode_fc78d_12 : decode cJ1_canEncode_fc78d 12 = .ok (.ireturn, 1) := by decide +kernel
theorem dJ1_fillNull_b72d1_0 : decode cJ1_fillNull_b72d1 0 = .ok (.aload_n 0, 1) := by decide +kernel
theorem dJ1_fillNull_b72d1_1 : decode cJ1_fillNull_b72d1 1 = .ok (.iload_n 1, 1) := by decide +kernel
theorem dJ1_fillNull_b72d1_2 : decode cJ1_fillNull_b72d1 2 = .ok (.iload_n 2, 1) := by decide +kernel
theorem dJ1_fillNull_b72d1_3 : decode cJ1_fillNull_b72d1 3 = .ok (.iconst 0, 1) := by decide +kernel
theorem dJ1_fillNull_b72d1_4 : decode cJ1_fillNull_b72d1 4 = .ok (.invokestatic 236, 3) := by decide +kernel
theorem dJ1_fillNull_b72d1_7 : decode cJ1_fillNull_b72d1 7 = .ok (.return_, 1) := by decide +kernel
theorem dJ1_inflate_0e8fd_0 : decode cJ1_inflate_0e8fd 0 = .ok (.aload_n 0, 1) := by decide +kernel
theorem dJ1_inflate_0e8fd_1 : decode cJ1_inflate_0e8fd 1 = .ok (.iload_n 1, 1) := by decide +kernel
theorem dJ1_inflate_0e8fd_2 : decode cJ1_inflate_0e8fd 2 = .ok (.aload_n 2, 1) := by decide +kernel
theorem dJ1_inflate_0e8fd_3 : decode cJ1_inflate_0e8fd 3 = .ok (.iload_n 3, 1) := by decide +kernel
theorem dJ1_inflate_0e8fd_4 : decode cJ1_inflate_0e8fd 4 = .ok (.iload 4, 2) := by decide +kernel
theorem dJ1_inflate_0e8fd_6 : decode cJ1_inflate_0e8fd 6 = .ok (.invokestatic 240, 3) := by decide +kernel
theorem dJ1_inflate_0e8fd_9 : decode cJ1_inflate_0e8fd 9 = .ok (.return_, 1) := by decide +kernel
theorem dJ2_newBytesFor_77867_0 : decode cJ2_newBytesFor_77867 0 = .ok (.iload_n 0, 1) := by decide +kernel
theorem dJ2_newBytesFor_77867_1 : decode cJ2_newBytesFor_77867 1 = .ok (.invokestatic 11, 3) := by decide +kernel
theorem dJ2_newBytesFor_77867_4 : decode cJ2_newBytesFor_77867 4 = .ok (.newarray .byte, 2) := by decide +kernel
theorem dJ2_newBytesFor_77867_6 : decode cJ2_newBytesFor_77867 6 = .ok (.areturn, 1) := by decide +kernel
theorem dJ2_newBytesLength_0f7a4_0 : decode cJ2_newBytesLength_0f7a4 0 = .ok (.iload_n 0, 1) := by decide +kernel
theorem dJ2_newBytesLength_0f7a4_1 : decode cJ2_newBytesLength_0f7a4 1 = .ok (.ifCond .ge 11, 3) := by decide +kernel
theorem dJ2_newBytesLength_0f7a4_4 : decode cJ2_newBytesLength_0f7a4 4 = .ok (.new 17, 3) := by decide +kernel
theorem dJ2_newBytesLength_0f7a4_7 : decode cJ2_newBytesLength_0f7a4 7 = .ok (.dup, 1) := by decide +kernel
theorem dJ2_newBytesLength_0f7a4_8 : decode cJ2_newBytesLength_0f7a4 8 = .ok (.invokespecial 19, 3) := by decide +kernel
theorem dJ2_newBytesLength_0f7a4_11 : decode cJ2_newBytesLength_0f7a4 11 = .ok (.athrow, 1) := by decide +kernel
theorem dJ2_newBytesLength_0f7a4_12 : decode cJ2_newBytesLength_0f7a4 12 = .ok (.iload_n 0, 1) := by decide +kernel
theorem dJ2_newBytesLength_0f7a4_13 : decode cJ2_newBytesLength_0f7a4 13 = .ok (.ldc 20, 2) := by decide +kernel
theorem dJ2_newBytesLength_0f7a4_15 : decode cJ2_newBytesLength_0f7a4 15 = .ok (.if_icmp .lt 40, 3) := by decide +kernel
theorem dJ2_newBytesLength_0f7a4_18 : decode cJ2_newBytesLength_0f7a4 18 = .ok (.new 21, 3) := by decide +kernel
theorem dJ2_newBytesLength_0f7a4_21 : decode cJ2_newBytesLength_0f7a4 21 = .ok (.dup, 1) := by decide +kernel
theorem dJ2_newBytesLength_0f7a4_22 : decode cJ2_newBytesLength_0f7a4 22 = .ok (.new 23, 3) := by decide +kernel
theorem dJ2_newBytesLength_0f7a4_25 : decode cJ2_newBytesLength_0f7a4 25 = .ok (.dup, 1) := by decide +kernel
theorem dJ2_newBytesLength_0f7a4_26 : decode cJ2_newBytesLength_0f7a4 26 = .ok (.invokespecial 25, 3) := by decide +kernel
theorem dJ2_newBytesLength_0f7a4_29 : decode cJ2_newBytesLength_0f7a4 29 = .ok (.ldc 26, 2) := by decide +kernel
theorem dJ2_newBytesLength_0f7a4_31 : decode cJ2_newBytesLength_0f7a4 31 = .ok (.invokevirtual 28, 3) := by decide +kernel
theorem dJ2_newBytesLength_0f7a4_34 : decode cJ2_newBytesLength_0f7a4 34 = .ok (.iload_n 0, 1) := by decide +kernel
theorem dJ2_newBytesLength_0f7a4_35 : decode cJ2_newBytesLength_0f7a4 35 = .ok (.invokevirtual 32, 3) := by decide +kernel
theorem dJ2_newBytesLength_0f7a4_38 : decode cJ2_newBytesLength_0f7a4 38 = .ok (.ldc 35, 2) := by decide +kernel
theorem dJ2_newBytesLength_0f7a4_40 : decode cJ2_newBytesLength_0f7a4 40 = .ok (.invokevirtual 28, 3) := by decide +kernel
theorem dJ2_newBytesLength_0f7a4_43 : decode cJ2_newBytesLength_0f7a4 43 = .ok (.ldc 20, 2) := by decide +kernel
theorem dJ2_newBytesLength_0f7a4_45 : decode cJ2_newBytesLength_0f7a4 45 = .ok (.invokevirtual 32, 3) := by decide +kernel
theorem dJ2_newBytesLength_0f7a4_48 : decode cJ2_newBytesLength_0f7a4 48 = .ok (.invokevirtual 37, 3) := by decide +kernel
theorem dJ2_newBytesLength_0f7a4_51 : decode cJ2_newBytesLength_0f7a4 51 = .ok (.invokespecial 41, 3) := by decide +kernel
theorem dJ2_newBytesLength_0f7a4_54 : decode cJ2_newBytesLength_0f7a4 54 = .ok (.athrow, 1) := by decide +kernel
theorem dJ2_newBytesLength_0f7a4_55 : decode cJ2_newBytesLength_0f7a4 55 = .ok (.iload_n 0, 1) := by decide +kernel
theorem dJ2_newBytesLength_0f7a4_56 : decode cJ2_newBytesLength_0f7a4 56 = .ok (.iconst 1, 1) := by decide +kernel
theorem dJ2_newBytesLength_0f7a4_57 : decode cJ2_newBytesLength_0f7a4 57 = .ok (.ishl, 1) := by decide +kernel
theorem dJ2_newBytesLength_0f7a4_58 : decode cJ2_newBytesLength_0f7a4 58 = .ok (.ireturn, 1) := by decide +kernel
theorem dJ2_putChar_b72d1_0 : decode cJ2_putChar_b72d1 0 = .ok (.getstatic 44, 3) := by decide +kernel
theorem dJ2_putChar_b72d1_3 : decode cJ2_putChar_b72d1 3 = .ok (.ifCond .ne 25, 3) := by decide +kernel
theorem dJ2_putChar_b72d1_6 : decode cJ2_putChar_b72d1 6 = .ok (.iload_n 1, 1) := by decide +kernel
theorem dJ2_putChar_b72d1_7 : decode cJ2_putChar_b72d1 7 = .ok (.ifCond .lt 11, 3) := by decide +kernel
theorem dJ2_putChar_b72d1_10 : decode cJ2_putChar_b72d1 10 = .ok (.iload_n 1, 1) := by decide +kernel
theorem dJ2_putChar_b72d1_11 : decode cJ2_putChar_b72d1 11 = .ok (.aload_n 0, 1) := by decide +kernel
theorem dJ2_putChar_b72d1_12 : decode cJ2_putChar_b72d1 12 = .ok (.invokestatic 48, 3) := by decide +kernel
theorem dJ2_putChar_b72d1_15 : decode cJ2_putChar_b72d1 15 = .ok (.if_icmp .lt 13, 3) := by decide +kernel
theorem dJ2_putChar_b72d1_18 : decode cJ2_putChar_b72d1 18 = .ok (.new 52, 3) := by decide +kernel
theorem dJ2_putChar_b72d1_21 : decode cJ2_putChar_b72d1 21 = .ok (.dup, 1) := by decide +kernel
theorem dJ2_putChar_b72d1_22 : decode cJ2_putChar_b72d1 22 = .ok (.ldc 54, 2) := by decide +kernel
theorem dJ2_putChar_b72d1_24 : decode cJ2_putChar_b72d1 24 = .ok (.invokespecial 56, 3) := by decide +kernel
theorem dJ2_putChar_b72d1_27 : decode cJ2_putChar_b72d1 27 = .ok (.athrow, 1) := by decide +kernel
theorem dJ2_putChar_b72d1_28 : decode cJ2_putChar_b72d1 28 = .ok (.iload_n 1, 1) := by decide +kernel
theorem dJ2_putChar_b72d1_29 : decode cJ2_putChar_b72d1 29 = .ok (.iconst 1, 1) := by decide +kernel
theorem dJ2_putChar_b72d1_30 : decode cJ2_putChar_b72d1 30 = .ok (.ishl, 1) := by decide +kernel
theorem dJ2_putChar_b72d1_31 : decode cJ2_putChar_b72d1 31 = .ok (.istore_n 1, 1) := by decide +kernel
theorem dJ2_putChar_b72d1_32 : decode cJ2_putChar_b72d1 32 = .ok (.aload_n 0, 1) := by decide +kernel
theorem dJ2_putChar_b72d1_33 : decode cJ2_putChar_b72d1 33 = .ok (.iload_n 1, 1) := by decide +kernel
theorem dJ2_putChar_b72d1_34 : decode cJ2_putChar_b72d1 34 = .ok (.iinc 1 1, 3) := by decide +kernel
theorem dJ2_putChar_b72d1_37 : decode cJ2_putChar_b72d1 37 = .ok (.iload_n 2, 1) := by decide +kernel
theorem dJ2_putChar_b72d1_38 : decode cJ2_putChar_b72d1 38 = .ok (.getstatic 59, 3) := by decide +kernel
theorem dJ2_putChar_b72d1_41 : decode cJ2_putChar_b72d1 41 = .ok (.ishr, 1) := by decide +kernel
theorem dJ2_putChar_b72d1_42 : decode cJ2_putChar_b72d1 42 = .ok (.i2b, 1) := by decide +kernel
theorem dJ2_putChar_b72d1_43 : decode cJ2_putChar_b72d1 43 = .ok (.bastore, 1) := by decide +kernel
theorem dJ2_putChar_b72d1_44 : decode cJ2_putChar_b72d1 44 = .ok (.aload_n 0, 1) := by decide +kernel
theorem dJ2_putChar_b72d1_45 : decode cJ2_putChar_b72d1 45 = .ok (.iload_n 1, 1) := by decide +kernel
theorem dJ2_putChar_b72d1_46 : decode cJ2_putChar_b72d1 46 = .ok (.iload_n 2, 1) := by decide +kernel
theorem dJ2_putChar_b72d1_47 : decode cJ2_putChar_b72d1 47 = .ok (.getstatic 63, 3) := by decide +kernel
theorem dJ2_putChar_b72d1_50 : decode cJ2_putChar_b72d1 50 = .ok (.ishr, 1) := by decide +kernel
theorem dJ2_putChar_b72d1_51 : decode cJ2_putChar_b72d1 51 = .ok (.i2b, 1) := by decide +kernel
theorem dJ2_putChar_b72d1_52 : decode cJ2_putChar_b72d1 52 = .ok (.bastore, 1) := by decide +kernel
theorem dJ2_putChar_b72d1_53 : decode cJ2_putChar_b72d1 53 = .ok (.return_, 1) := by decide +kernel
theorem dJ2_getChar_3b067_0 : decode cJ2_getChar_3b067 0 = .ok (.getstatic 44, 3) := by decide +kernel
theorem dJ2_getChar_3b067_3 : decode cJ2_getChar_3b067 3 = .ok (.ifCond .ne 25, 3) := by decide +kernel
theorem dJ2_getChar_3b067_6 : decode cJ2_getChar_3b067 6 = .ok (.iload_n 1, 1) := by decide +kernel
theorem dJ2_getChar_3b067_7 : decode cJ2_getChar_3b067 7 = .ok (.ifCond .lt 11, 3) := by decide +kernel
theorem dJ2_getChar_3b067_10 : decode cJ2_getChar_3b067 10 = .ok (.iload_n 1, 1) := by decide +kernel
theorem dJ2_getChar_3b067_11 : decode cJ2_getChar_3b067 11 = .ok (.aload_n 0, 1) := by decide +kernel
theorem dJ2_getChar_3b067_12 : decode cJ2_getChar_3b067 12 = .ok (.invokestatic 48, 3) := by decide +kernel
theorem dJ2_getChar_3b067_15 : decode cJ2_getChar_3b067 15 = .ok (.if_icmp .lt 13, 3) := by decide +kernel
theorem dJ2_getChar_3b067_18 : decode cJ2_getChar_3b067 18 = .ok (.new 52, 3) := by decide +kernel
theorem dJ2_getChar_3b067_21 : decode cJ2_getChar_3b067 21 = .ok (.dup, 1) := by decide +kernel
theorem dJ2_getChar_3b067_22 : decode cJ2_getChar_3b067 22 = .ok (.ldc 54, 2) := by decide +kernel
theorem dJ2_getChar_3b067_24 : decode cJ2_getChar_3b067 24 = .ok (.invokespecial 56, 3) := by decide +kernel
theorem dJ2_getChar_3b067_27 : decode cJ2_getChar_3b067 27 = .ok (.athrow, 1) := by decide +kernel
theorem dJ2_getChar_3b067_28 : decode cJ2_getChar_3b067 28 = .ok (.iload_n 1, 1) := by decide +kernel
theorem dJ2_getChar_3b067_29 : decode cJ2_getChar_3b067 29 = .ok (.iconst 1, 1) := by decide +kernel
theorem dJ2_getChar_3b067_30 : decode cJ2_getChar_3b067 30 = .ok (.ishl, 1) := by decide +kernel
theorem dJ2_getChar_3b067_31 : decode cJ2_getChar_3b067 31 = .ok (.istore_n 1, 1) := by decide +kernel
theorem dJ2_getChar_3b067_32 : decode cJ2_getChar_3b067 32 = .ok (.aload_n 0, 1) := by decide +kernel
theorem dJ2_getChar_3b067_33 : decode cJ2_getChar_3b067 33 = .ok (.iload_n 1, 1) := by decide +kernel
theorem dJ2_getChar_3b067_34 : decode cJ2_getChar_3b067 34 = .ok (.iinc 1 1, 3) := by decide +kernel
theorem dJ2_getChar_3b067_37 : decode cJ2_getChar_3b067 37 = .ok (.baload, 1) := by decide +kernel
theorem dJ2_getChar_3b067_38 : decode cJ2_getChar_3b067 38 = .ok (.sipush 255, 3) := by decide +kernel
theorem dJ2_getChar_3b067_41 : decode cJ2_getChar_3b067 41 = .ok (.iand, 1) := by decide +kernel
theorem dJ2_getChar_3b067_42 : decode cJ2_getChar_3b067 42 = .ok (.getstatic 59, 3) := by decide +kernel
theorem dJ2_getChar_3b067_45 : decode cJ2_getChar_3b067 45 = .ok (.ishl, 1) := by decide +kernel
theorem dJ2_getChar_3b067_46 : decode cJ2_getChar_3b067 46 = .ok (.aload_n 0, 1) := by decide +kernel
theorem dJ2_getChar_3b067_47 : decode cJ2_getChar_3b067 47 = .ok (.iload_n 1, 1) := by decide +kernel
theorem dJ2_getChar_3b067_48 : decode cJ2_getChar_3b067 48 = .ok (.baload, 1) := by decide +kernel
theorem dJ2_getChar_3b067_49 : decode cJ2_getChar_3b067 49 = .ok (.sipush 255, 3) := by decide +kernel
theorem dJ2_getChar_3b067_52 : decode cJ2_getChar_3b067 52 = .ok (.iand, 1) := by decide +kernel
theorem dJ2_getChar_3b067_53 : decode cJ2_getChar_3b067 53 = .ok (.getstatic 63, 3) := by decide +kernel
theorem dJ2_getChar_3b067_56 : decode cJ2_getChar_3b067 56 = .ok (.ishl, 1) := by decide +kernel
theorem dJ2_getChar_3b067_57 : decode cJ2_getChar_3b067 57 = .ok (.ior, 1) := by decide +kernel
theorem dJ2_getChar_3b067_58 : decode cJ2_getChar_3b067 58 = .ok (.i2c, 1) := by decide +kernel
theorem dJ2_getChar_3b067_59 : decode cJ2_getChar_3b067 59 = .ok (.ireturn, 1) := by decide +kernel
theorem dJ2_length_9d52b_0 : decode cJ2_length_9d52b 0 = .ok (.aload_n 0, 1) := by decide +kernel
theorem dJ2_length_9d52b_1 : decode cJ2_length_9d52b 1 = .ok (.arraylength, 1) := by decide +kernel
theorem dJ2_length_9d52b_2 : decode cJ2_length_9d52b 2 = .ok (.iconst 1, 1) := by decide +kernel
theorem dJ2_length_9d52b_3 : decode cJ2_length_9d52b 3 = .ok (.ishr, 1) := by decide +kernel
theorem dJ2_length_9d52b_4 : decode cJ2_length_9d52b 4 = .ok (.ireturn, 1) := by decide +kernel
theorem dJ2_coderFromArrayLen_85cad_0 : decode cJ2_coderFromArrayLen_85cad 0 = .ok (.iload_n 1, 1) := by decide +kernel
theorem dJ2_coderFromArrayLen_85cad_1 : decode cJ2_coderFromArrayLen_85cad 1 = .ok (.aload_n 0, 1) := by decide +kernel
theorem dJ2_coderFromArrayLen_85cad_2 : decode cJ2_coderFromArrayLen_85cad 2 = .ok (.arraylength, 1) := by decide +kernel
theorem dJ2_coderFromArrayLen_85cad_3 : decode cJ2_coderFromArrayLen_85cad 3 = .ok (.isub, 1) := by decide +kernel
theorem dJ2_coderFromArrayLen_85cad_4 : decode cJ2_coderFromArrayLen_85cad 4 = .ok (.bipush 31, 2) := by decide +kernel
theorem dJ2_coderFromArrayLen_85cad_6 : decode cJ2_coderFromArrayLen_85cad 6 = .ok (.iushr, 1) := by decide +kernel
theorem dJ2_coderFromArrayLen_85cad_7 : decode cJ2_coderFromArrayLen_85cad 7 = .ok (.i2b, 1) := by decide +kernel
theorem dJ2_coderFromArrayLen_85cad_8 : decode cJ2_coderFromArrayLen_85cad 8 = .ok (.ireturn, 1) := by decide +kernel
theorem dJ2_compress_39247_0 : decode cJ2_compress_39247 0 = .ok (.iload_n 2, 1) := by decide +kernel
theorem dJ2_compress_39247_1 : decode cJ2_compress_39247 1 = .ok (.newarray .byte, 2) := by decide +kernel
theorem dJ2_compress_39247_3 : decode cJ2_compress_39247 3 = .ok (.astore_n 3, 1) := by decide +kernel
theorem dJ2_compress_39247_4 : decode cJ2_compress_39247 4 = .ok (.aload_n 0, 1) := by decide +kernel
theorem dJ2_compress_39247_5 : decode cJ2_compress_39247 5 = .ok (.iload_n 1, 1) := by decide +kernel
theorem dJ2_compress_39247_6 : decode cJ2_compress_39247 6 = .ok (.aload_n 3, 1) := by decide +kernel
theorem dJ2_compress_39247_7 : decode cJ2_compress_39247 7 = .ok (.iconst 0, 1) := by decide +kernel
theorem dJ2_compress_39247_8 : decode cJ2_compress_39247 8 = .ok (.iload_n 2, 1) := by decide +kernel
theorem dJ2_compress_39247_9 : decode cJ2_compress_39247 9 = .ok (.invokestatic 123, 3) := by decide +kernel
theorem dJ2_compress_39247_12 : decode cJ2_compress_39247 12 = .ok (.istore 4, 2) := by decide +kernel
theorem dJ2_compress_39247_14 : decode cJ2_compress_39247 14 = .ok (.iload 4, 2) := by decide +kernel
theorem dJ2_compress_39247_16 : decode cJ2_compress_39247 16 = .ok (.iload_n 2, 1) := by decide +kernel
theorem dJ2_compress_39247_17 : decode cJ2_compress_39247 17 = .ok (.if_icmp .eq 47, 3) := by decide +kernel
theorem dJ2_compress_39247_20 : decode cJ2_compress_39247 20 = .ok (.aload_n 0, 1) := by decide +kernel
theorem dJ2_compress_39247_21 : decode cJ2_compress_39247 21 = .ok (.iload_n 1, 1) := by decide +kernel
theorem dJ2_compress_39247_22 : decode cJ2_compress_39247 22 = .ok (.iconst 1, 1) := by decide +kernel
theorem dJ2_compress_39247_23 : decode cJ2_compress_39247 23 = .ok (.ishl, 1) := by decide +kernel
theorem dJ2_compress_39247_24 : decode cJ2_compress_39247 24 = .ok (.iload_n 1, 1) := by decide +kernel
theorem dJ2_compress_39247_25 : decode cJ2_compress_39247 25 = .ok (.iload_n 2, 1) := by decide +kernel
theorem dJ2_compress_39247_26 : decode cJ2_compress_39247 26 = .ok (.iadd, 1) := by decide +kernel
theorem dJ2_compress_39247_27 : decode cJ2_compress_39247 27 = .ok (.invokestatic 11, 3) := by decide +kernel
theorem dJ2_compress_39247_30 : decode cJ2_compress_39247 30 = .ok (.invokestatic 126, 3) := by decide +kernel
theorem dJ2_compress_39247_33 : decode cJ2_compress_39247 33 = .ok (.astore 5, 2) := by decide +kernel
theorem dJ2_compress_39247_35 : decode cJ2_compress_39247 35 = .ok (.aload 5, 2) := by decide +kernel
theorem dJ2_compress_39247_37 : decode cJ2_compress_39247 37 = .ok (.iload 4, 2) := by decide +kernel
theorem dJ2_compress_39247_39 : decode cJ2_compress_39247 39 = .ok (.invokestatic 71, 3) := by decide +kernel
theorem dJ2_compress_39247_42 : decode cJ2_compress_39247 42 = .ok (.sipush 255, 3) := by decide +kernel
theorem dJ2_compress_39247_45 : decode cJ2_compress_39247 45 = .ok (.if_icmp .gt 16, 3) := by decide +kernel
theorem dJ2_compress_39247_48 : decode cJ2_compress_39247 48 = .ok (.aload 5, 2) := by decide +kernel
theorem dJ2_compress_39247_50 : decode cJ2_compress_39247 50 = .ok (.iconst 0, 1) := by decide +kernel
theorem dJ2_compress_39247_51 : decode cJ2_compress_39247 51 = .ok (.aload_n 3, 1) := by decide +kernel
theorem dJ2_compress_39247_52 : decode cJ2_compress_39247 52 = .ok (.iconst 0, 1) := by decide +kernel
theorem dJ2_compress_39247_53 : decode cJ2_compress_39247 53 = .ok (.iload_n 2, 1) := by decide +kernel
theorem dJ2_compress_39247_54 : decode cJ2_compress_39247 54 = .ok (.invokestatic 123, 3) := by decide +kernel
theorem dJ2_compress_39247_57 : decode cJ2_compress_39247 57 = .ok (.iload_n 2, 1) := by decide +kernel
theorem dJ2_compress_39247_58 : decode cJ2_compress_39247 58 = .ok (.if_icmp .eq 6, 3) := by decide +kernel
theorem dJ2_compress_39247_61 : decode cJ2_compress_39247 61 = .ok (.aload 5, 2) := by decide +kernel
theorem dJ2_compress_39247_63 : decode cJ2_compress_39247 63 = .ok (.areturn, 1) := by decide +kernel
theorem dJ2_compress_39247_64 : decode cJ2_compress_39247 64 = .ok (.aload_n 3, 1) := by decide +kernel
theorem dJ2_compress_39247_65 : decode cJ2_compress_39247 65 = .ok (.areturn, 1) := by decide +kernel
theorem dJ2_compress_5af95_0 : decode cJ2_compress_5af95 0 = .ok (.iload_n 1, 1) := by decide +kernel
theorem dJ2_compress_5af95_1 : decode cJ2_compress_5af95 1 = .ok (.iload 4, 2) := by decide +kernel
theorem dJ2_compress_5af95_3 : decode cJ2_compress_5af95 3 = .ok (.aload_n 0, 1) := by decide +kernel
theorem dJ2_compress_5af95_4 : decode cJ2_compress_5af95 4 = .ok (.invokestatic 173, 3) := by decide +kernel
theorem dJ2_compress_5af95_7 : decode cJ2_compress_5af95 7 = .ok (.iconst 0, 1) := by decide +kernel
theorem dJ2_compress_5af95_8 : decode cJ2_compress_5af95 8 = .ok (.istore 5, 2) := by decide +kernel
theorem dJ2_compress_5af95_10 : decode cJ2_compress_5af95 10 = .ok (.iload 5, 2) := by decide +kernel
theorem dJ2_compress_5af95_12 : decode cJ2_compress_5af95 12 = .ok (.iload 4, 2) := by decide +kernel
theorem dJ2_compress_5af95_14 : decode cJ2_compress_5af95 14 = .ok (.if_icmp .ge 39, 3) := by decide +kernel
theorem dJ2_compress_5af95_17 : decode cJ2_compress_5af95 17 = .ok (.aload_n 0, 1) := by decide +kernel
theorem dJ2_compress_5af95_18 : decode cJ2_compress_5af95 18 = .ok (.iload_n 1, 1) := by decide +kernel
theorem dJ2_compress_5af95_19 : decode cJ2_compress_5af95 19 = .ok (.invokestatic 71, 3) := by decide +kernel
theorem dJ2_compress_5af95_22 : decode cJ2_compress_5af95 22 = .ok (.istore 6, 2) := by decide +kernel
theorem dJ2_compress_5af95_24 : decode cJ2_compress_5af95 24 = .ok (.iload 6, 2) := by decide +kernel
theorem dJ2_compress_5af95_26 : decode cJ2_compress_5af95 26 = .ok (.sipush 255, 3) := by decide +kernel
theorem dJ2_compress_5af95_29 : decode cJ2_compress_5af95 29 = .ok (.if_icmp .le 6, 3) := by decide +kernel
theorem dJ2_compress_5af95_32 : decode cJ2_compress_5af95 32 = .ok (.iload 5, 2) := by decide +kernel
theorem dJ2_compress_5af95_34 : decode cJ2_compress_5af95 34 = .ok (.ireturn, 1) := by decide +kernel
theorem dJ2_compress_5af95_35 : decode cJ2_compress_5af95 35 = .ok (.aload_n 2, 1) := by decide +kernel
theorem dJ2_compress_5af95_36 : decode cJ2_compress_5af95 36 = .ok (.iload_n 3, 1) := by decide +kernel
theorem dJ2_compress_5af95_37 : decode cJ2_compress_5af95 37 = .ok (.iload 6, 2) := by decide +kernel
theorem dJ2_compress_5af95_39 : decode cJ2_compress_5af95 39 = .ok (.i2b, 1) := by decide +kernel
theorem dJ2_compress_5af95_40 : decode cJ2_compress_5af95 40 = .ok (.bastore, 1) := by decide +kernel
theorem dJ2_compress_5af95_41 : decode cJ2_compress_5af95 41 = .ok (.iinc 1 1, 3) := by decide +kernel
theorem dJ2_compress_5af95_44 : decode cJ2_compress_5af95 44 = .ok (.iinc 3 1, 3) := by decide +kernel
theorem dJ2_compress_5af95_47 : decode cJ2_compress_5af95 47 = .ok (.iinc 5 1, 3) := by decide +kernel
theorem dJ2_compress_5af95_50 : decode cJ2_compress_5af95 50 = .ok (.goto (-40), 3) := by decide +kernel
theorem dJ2_compress_5af95_53 : decode cJ2_compress_5af95 53 = .ok (.iload 4, 2) := by decide +kernel
theorem dJ2_compress_5af95_55 : decode cJ2_compress_5af95 55 = .ok (.ireturn, 1) := by decide +kernel
theorem dJ2_fillNull_b72d1_0 : decode cJ2_fillNull_b72d1 0 = .ok (.aload_n 0, 1) := by decide +kernel
theorem dJ2_fillNull_b72d1_1 : decode cJ2_fillNull_b72d1 1 = .ok (.iload_n 1, 1) := by decide +kernel
theorem dJ2_fillNull_b72d1_2 : decode cJ2_fillNull_b72d1 2 = .ok (.iconst 1, 1) := by decide +kernel
theorem dJ2_fillNull_b72d1_3 : decode cJ2_fillNull_b72d1 3 = .ok (.ishl, 1) := by decide +kernel
theorem dJ2_fillNull_b72d1_4 : decode cJ2_fillNull_b72d1 4 = .ok (.iload_n 2, 1) := by decide +kernel
theorem dJ2_fillNull_b72d1_5 : decode cJ2_fillNull_b72d1 5 = .ok (.iconst 1, 1) := by decide +kernel
theorem dJ2_fillNull_b72d1_6 : decode cJ2_fillNull_b72d1 6 = .ok (.ishl, 1) := by decide +kernel
theorem dJ2_fillNull_b72d1_7 : decode cJ2_fillNull_b72d1 7 = .ok (.iconst 0, 1) := by decide +kernel
theorem dJ2_fillNull_b72d1_8 : decode cJ2_fillNull_b72d1 8 = .ok (.invokestatic 380, 3) := by decide +kernel
theorem dJ2_fillNull_b72d1_11 : decode cJ2_fillNull_b72d1 11 = .ok (.return_, 1) := by decide +kernel
theorem dJ2_putCharSB_b72d1_0 : decode cJ2_putCharSB_b72d1 0 = .ok (.iload_n 1, 1) := by decide +kernel
theorem dJ2_putCharSB_b72d1_1 : decode cJ2_putCharSB_b72d1 1 = .ok (.aload_n 0, 1) := by decide +kernel
theorem dJ2_putCharSB_b72d1_2 : decode cJ2_putCharSB_b72d1 2 = .ok (.invokestatic 67, 3) := by decide +kernel
theorem dJ2_putCharSB_b72d1_5 : decode cJ2_putCharSB_b72d1 5 = .ok (.aload_n 0, 1) := by decide +kernel
theorem dJ2_putCharSB_b72d1_6 : decode cJ2_putCharSB_b72d1 6 = .ok (.iload_n 1, 1) := by decide +kernel
theorem dJ2_putCharSB_b72d1_7 : decode cJ2_putCharSB_b72d1 7 = .ok (.iload_n 2, 1) := by decide +kernel
theorem dJ2_putCharSB_b72d1_8 : decode cJ2_putCharSB_b72d1 8 = .ok (.invokestatic 111, 3) := by decide +kernel
theorem dJ2_putCharSB_b72d1_11 : decode cJ2_putCharSB_b72d1 11 = .ok (.return_, 1) := by decide +kernel
theorem dJ2_getChars_46870_0 : decode cJ2_getChars_46870 0 = .ok (.iload_n 1, 1) := by decide +kernel
theorem dJ2_getChars_46870_1 : decode cJ2_getChars_46870 1 = .ok (.iload_n 2, 1) := by decide +kernel
theorem dJ2_getChars_46870_2 : decode cJ2_getChars_46870 2 = .ok (.aload_n 3, 1) := by decide +kernel
theorem dJ2_getChars_46870_3 : decode cJ2_getChars_46870 3 = .ok (.invokestatic 96, 3) := by decide +kernel
theorem dJ2_getChars_46870_6 : decode cJ2_getChars_46870 6 = .ok (.iload_n 0, 1) := by decide +kernel
theorem dJ2_getChars_46870_7 : decode cJ2_getChars_46870 7 = .ok (.iload_n 2, 1) := by decide +kernel
theorem dJ2_getChars_46870_8 : decode cJ2_getChars_46870 8 = .ok (.aload_n 3, 1) := by decide +kernel
theorem dJ2_getChars_46870_9 : decode cJ2_getChars_46870 9 = .ok (.invokestatic 393, 3) := by decide +kernel
theorem dJ2_getChars_46870_12 : decode cJ2_getChars_46870 12 = .ok (.istore 4, 2) := by decide +kernel
theorem dJ2_getChars_46870_14 : decode cJ2_getChars_46870 14 = .ok (.getstatic 44, 3) := by decide +kernel
theorem dJ2_getChars_46870_17 : decode cJ2_getChars_46870 17 = .ok (.ifCond .ne 17, 3) := by decide +kernel
theorem dJ2_getChars_46870_20 : decode cJ2_getChars_46870 20 = .ok (.iload_n 1, 1) := by decide +kernel
theorem dJ2_getChars_46870_21 : decode cJ2_getChars_46870 21 = .ok (.iload 4, 2) := by decide +kernel
theorem dJ2_getChars_46870_23 : decode cJ2_getChars_46870 23 = .ok (.if_icmp .eq 11, 3) := by decide +kernel
theorem dJ2_getChars_46870_26 : decode cJ2_getChars_46870 26 = .ok (.new 52, 3) := by decide +kernel
theorem dJ2_getChars_46870_29 : decode cJ2_getChars_46870 29 = .ok (.dup, 1) := by decide +kernel
theorem dJ2_getChars_46870_30 : decode cJ2_getChars_46870 30 = .ok (.invokespecial 66, 3) := by decide +kernel
theorem dJ2_getChars_46870_33 : decode cJ2_getChars_46870 33 = .ok (.athrow, 1) := by decide +kernel
theorem dJ2_getChars_46870_34 : decode cJ2_getChars_46870 34 = .ok (.iload 4, 2) := by decide +kernel
theorem dJ2_getChars_46870_36 : decode cJ2_getChars_46870 36 = .ok (.ireturn, 1) := by decide +kernel
theorem dJ2_putCharsAt_cd4e5_0 : decode cJ2_putCharsAt_cd4e5 0 = .ok (.iload_n 1, 1) := by decide +kernel
theorem dJ2_putCharsAt_cd4e5_1 : decode cJ2_putCharsAt_cd4e5 1 = .ok (.iconst 4, 1) := by decide +kernel
theorem dJ2_putCharsAt_cd4e5_2 : decode cJ2_putCharsAt_cd4e5 2 = .ok (.iadd, 1) := by decide +kernel
theorem dJ2_putCharsAt_cd4e5_3 : decode cJ2_putCharsAt_cd4e5 3 = .ok (.istore 6, 2) := by decide +kernel
theorem dJ2_putCharsAt_cd4e5_5 : decode cJ2_putCharsAt_cd4e5 5 = .ok (.iload_n 1, 1) := by decide +kernel
theorem dJ2_putCharsAt_cd4e5_6 : decode cJ2_putCharsAt_cd4e5 6 = .ok (.iload 6, 2) := by decide +kernel
theorem dJ2_putCharsAt_cd4e5_8 : decode cJ2_putCharsAt_cd4e5 8 = .ok (.aload_n 0, 1) := by decide +kernel
theorem dJ2_putCharsAt_cd4e5_9 : decode cJ2_putCharsAt_cd4e5 9 = .ok (.invokestatic 96, 3) := by decide +kernel
theorem dJ2_putCharsAt_cd4e5_12 : decode cJ2_putCharsAt_cd4e5 12 = .ok (.aload_n 0, 1) := by decide +kernel
theorem dJ2_putCharsAt_cd4e5_13 : decode cJ2_putCharsAt_cd4e5 13 = .ok (.iload_n 1, 1) := by decide +kernel
theorem dJ2_putCharsAt_cd4e5_14 : decode cJ2_putCharsAt_cd4e5 14 = .ok (.iinc 1 1, 3) := by decide +kernel
theorem dJ2_putCharsAt_cd4e5_17 : decode cJ2_putCharsAt_cd4e5 17 = .ok (.iload_n 2, 1) := by decide +kernel
theorem dJ2_putCharsAt_cd4e5_18 : decode cJ2_putCharsAt_cd4e5 18 = .ok (.invokestatic 111, 3) := by decide +kernel
theorem dJ2_putCharsAt_cd4e5_21 : decode cJ2_putCharsAt_cd4e5 21 = .ok (.aload_n 0, 1) := by decide +kernel
theorem dJ2_putCharsAt_cd4e5_22 : decode cJ2_putCharsAt_cd4e5 22 = .ok (.iload_n 1, 1) := by decide +kernel
theorem dJ2_putCharsAt_cd4e5_23 : decode cJ2_putCharsAt_cd4e5 23 = .ok (.iinc 1 1, 3) := by decide +kernel
theorem dJ2_putCharsAt_cd4e5_26 : decode cJ2_putCharsAt_cd4e5 26 = .ok (.iload_n 3, 1) := by decide +kernel
theorem dJ2_putCharsAt_cd4e5_27 : decode cJ2_putCharsAt_cd4e5 27 = .ok (.invokestatic 111, 3) := by decide +kernel
theorem dJ2_putCharsAt_cd4e5_30 : decode cJ2_putCharsAt_cd4e5 30 = .ok (.aload_n 0, 1) := by decide +kernel
theorem dJ2_putCharsAt_cd4e5_31 : decode cJ2_putCharsAt_cd4e5 31 = .ok (.iload_n 1, 1) := by decide +kernel
theorem dJ2_putCharsAt_cd4e5_32 : decode cJ2_putCharsAt_cd4e5 32 = .ok (.iinc 1 1, 3) := by decide +kernel
theorem dJ2_putCharsAt_cd4e5_35 : decode cJ2_putCharsAt_cd4e5 35 = .ok (.iload 4, 2) := by decide +kernel
theorem dJ2_putCharsAt_cd4e5_37 : decode cJ2_putCharsAt_cd4e5 37 = .ok (.invokestatic 111, 3) := by decide +kernel
theorem dJ2_putCharsAt_cd4e5_40 : decode cJ2_putCharsAt_cd4e5 40 = .ok (.aload_n 0, 1) := by decide +kernel
theorem dJ2_putCharsAt_cd4e5_41 : decode cJ2_putCharsAt_cd4e5 41 = .ok (.iload_n 1, 1) := by decide +kernel
theorem dJ2_putCharsAt_cd4e5_42 : decode cJ2_putCharsAt_cd4e5 42 = .ok (.iinc 1 1, 3) := by decide +kernel
theorem dJ2_putCharsAt_cd4e5_45 : decode cJ2_putCharsAt_cd4e5 45 = .ok (.iload 5, 2) := by decide +kernel
theorem dJ2_putCharsAt_cd4e5_47 : decode cJ2_putCharsAt_cd4e5 47 = .ok (.invokestatic 111, 3) := by decide +kernel
theorem dJ2_putCharsAt_cd4e5_50 : decode cJ2_putCharsAt_cd4e5 50 = .ok (.getstatic 44, 3) := by decide +kernel
theorem dJ2_putCharsAt_cd4e5_53 : decode cJ2_putCharsAt_cd4e5 53 = .ok (.ifCond .ne 17, 3) := by decide +kernel
theorem dJ2_putCharsAt_cd4e5_56 : decode cJ2_putCharsAt_cd4e5 56 = .ok (.iload_n 1, 1) := by decide +kernel
theorem dJ2_putCharsAt_cd4e5_57 : decode cJ2_putCharsAt_cd4e5 57 = .ok (.iload 6, 2) := by decide +kernel
theorem dJ2_putCharsAt_cd4e5_59 : decode cJ2_putCharsAt_cd4e5 59 = .ok (.if_icmp .eq 11, 3) := by decide +kernel
theorem dJ2_putCharsAt_cd4e5_62 : decode cJ2_putCharsAt_cd4e5 62 = .ok (.new 52, 3) := by decide +kernel
theorem dJ2_putCharsAt_cd4e5_65 : decode cJ2_putCharsAt_cd4e5 65 = .ok (.dup, 1) := by decide +kernel
theorem dJ2_putCharsAt_cd4e5_66 : decode cJ2_putCharsAt_cd4e5 66 = .ok (.invokespecial 66, 3) := by decide +kernel
theorem dJ2_putCharsAt_cd4e5_69 : decode cJ2_putCharsAt_cd4e5 69 = .ok (.athrow, 1) := by decide +kernel
theorem dJ2_putCharsAt_cd4e5_70 : decode cJ2_putCharsAt_cd4e5 70 = .ok (.iload 6, 2) := by decide +kernel
theorem dJ2_putCharsAt_cd4e5_72 : decode cJ2_putCharsAt_cd4e5 72 = .ok (.ireturn, 1) := by decide +kernel
theorem dJ2_inflate_0e8fd_0 : decode cJ2_inflate_0e8fd 0 = .ok (.iload_n 3, 1) := by decide +kernel
theorem dJ2_inflate_0e8fd_1 : decode cJ2_inflate_0e8fd 1 = .ok (.iload 4, 2) := by decide +kernel
theorem dJ2_inflate_0e8fd_3 : decode cJ2_inflate_0e8fd 3 = .ok (.aload_n 2, 1) := by decide +kernel
theorem dJ2_inflate_0e8fd_4 : decode cJ2_inflate_0e8fd 4 = .ok (.invokestatic 173, 3) := by decide +kernel
theorem dJ2_inflate_0e8fd_7 : decode cJ2_inflate_0e8fd 7 = .ok (.iconst 0, 1) := by decide +kernel
theorem dJ2_inflate_0e8fd_8 : decode cJ2_inflate_0e8fd 8 = .ok (.istore 5, 2) := by decide +kernel
theorem dJ2_inflate_0e8fd_10 : decode cJ2_inflate_0e8fd 10 = .ok (.iload 5, 2) := by decide +kernel
theorem dJ2_inflate_0e8fd_12 : decode cJ2_inflate_0e8fd 12 = .ok (.iload 4, 2) := by decide +kernel
theorem dJ2_inflate_0e8fd_14 : decode cJ2_inflate_0e8fd 14 = .ok (.if_icmp .ge 27, 3) := by decide +kernel
theorem dJ2_inflate_0e8fd_17 : decode cJ2_inflate_0e8fd 17 = .ok (.aload_n 2, 1) := by decide +kernel
theorem dJ2_inflate_0e8fd_18 : decode cJ2_inflate_0e8fd 18 = .ok (.iload_n 3, 1) := by decide +kernel
theorem dJ2_inflate_0e8fd_19 : decode cJ2_inflate_0e8fd 19 = .ok (.iinc 3 1, 3) := by decide +kernel
theorem dJ2_inflate_0e8fd_22 : decode cJ2_inflate_0e8fd 22 = .ok (.aload_n 0, 1) := by decide +kernel
theorem dJ2_inflate_0e8fd_23 : decode cJ2_inflate_0e8fd 23 = .ok (.iload_n 1, 1) := by decide +kernel
theorem dJ2_inflate_0e8fd_24 : decode cJ2_inflate_0e8fd 24 = .ok (.iinc 1 1, 3) := by decide +kernel
theorem dJ2_inflate_0e8fd_27 : decode cJ2_inflate_0e8fd 27 = .ok (.baload, 1) := by decide +kernel
theorem dJ2_inflate_0e8fd_28 : decode cJ2_inflate_0e8fd 28 = .ok (.sipush 255, 3) := by decide +kernel
theorem dJ2_inflate_0e8fd_31 : decode cJ2_inflate_0e8fd 31 = .ok (.iand, 1) := by decide +kernel
theorem dJ2_inflate_0e8fd_32 : decode cJ2_inflate_0e8fd 32 = .ok (.invokestatic 111, 3) := by decide +kernel
theorem dJ2_inflate_0e8fd_35 : decode cJ2_inflate_0e8fd 35 = .ok (.iinc 5 1, 3) := by decide +kernel
theorem dJ2_inflate_0e8fd_38 : decode cJ2_inflate_0e8fd 38 = .ok (.goto (-28), 3) := by decide +kernel
theorem dJ2_inflate_0e8fd_41 : decode cJ2_inflate_0e8fd 41 = .ok (.return_, 1) := by decide +kernel
theorem dJ2_getChars_ba4f3_0 : decode cJ2_getChars_ba4f3 0 = .ok (.iload_n 1, 1) := by decide +kernel
theorem dJ2_getChars_ba4f3_1 : decode cJ2_getChars_ba4f3 1 = .ok (.istore 5, 2) := by decide +kernel
theorem dJ2_getChars_ba4f3_3 : decode cJ2_getChars_ba4f3 3 = .ok (.iload_n 0, 1) := by decide +kernel
theorem dJ2_getChars_ba4f3_4 : decode cJ2_getChars_ba4f3 4 = .ok (.ifCond .ge 7, 3) := by decide +kernel
theorem dJ2_getChars_ba4f3_7 : decode cJ2_getChars_ba4f3 7 = .ok (.iconst 1, 1) := by decide +kernel
theorem dJ2_getChars_ba4f3_8 : decode cJ2_getChars_ba4f3 8 = .ok (.goto 4, 3) := by decide +kernel
theorem dJ2_getChars_ba4f3_11 : decode cJ2_getChars_ba4f3 11 = .ok (.iconst 0, 1) := by decide +kernel
theorem dJ2_getChars_ba4f3_12 : decode cJ2_getChars_ba4f3 12 = .ok (.istore 6, 2) := by decide +kernel
theorem dJ2_getChars_ba4f3_14 : decode cJ2_getChars_ba4f3 14 = .ok (.iload 6, 2) := by decide +kernel
theorem dJ2_getChars_ba4f3_16 : decode cJ2_getChars_ba4f3 16 = .ok (.ifCond .ne 6, 3) := by decide +kernel
theorem dJ2_getChars_ba4f3_19 : decode cJ2_getChars_ba4f3 19 = .ok (.iload_n 0, 1) := by decide +kernel
theorem dJ2_getChars_ba4f3_20 : decode cJ2_getChars_ba4f3 20 = .ok (.ineg, 1) := by decide +kernel
theorem dJ2_getChars_ba4f3_21 : decode cJ2_getChars_ba4f3 21 = .ok (.istore_n 0, 1) := by decide +kernel
theorem dJ2_getChars_ba4f3_22 : decode cJ2_getChars_ba4f3 22 = .ok (.iload_n 0, 1) := by decide +kernel
theorem dJ2_getChars_ba4f3_23 : decode cJ2_getChars_ba4f3 23 = .ok (.bipush (-100), 2) := by decide +kernel
theorem dJ2_getChars_ba4f3_25 : decode cJ2_getChars_ba4f3 25 = .ok (.if_icmp .gt 51, 3) := by decide +kernel
theorem dJ2_getChars_ba4f3_28 : decode cJ2_getChars_ba4f3 28 = .ok (.iload_n 0, 1) := by decide +kernel
theorem dJ2_getChars_ba4f3_29 : decode cJ2_getChars_ba4f3 29 = .ok (.bipush 100, 2) := by decide +kernel
theorem dJ2_getChars_ba4f3_31 : decode cJ2_getChars_ba4f3 31 = .ok (.idiv, 1) := by decide +kernel
theorem dJ2_getChars_ba4f3_32 : decode cJ2_getChars_ba4f3 32 = .ok (.istore_n 3, 1) := by decide +kernel
theorem dJ2_getChars_ba4f3_33 : decode cJ2_getChars_ba4f3 33 = .ok (.iload_n 3, 1) := by decide +kernel
theorem dJ2_getChars_ba4f3_34 : decode cJ2_getChars_ba4f3 34 = .ok (.bipush 100, 2) := by decide +kernel
theorem dJ2_getChars_ba4f3_36 : decode cJ2_getChars_ba4f3 36 = .ok (.imul, 1) := by decide +kernel
theorem dJ2_getChars_ba4f3_37 : decode cJ2_getChars_ba4f3 37 = .ok (.iload_n 0, 1) := by decide +kernel
theorem dJ2_getChars_ba4f3_38 : decode cJ2_getChars_ba4f3 38 = .ok (.isub, 1) := by decide +kernel
theorem dJ2_getChars_ba4f3_39 : decode cJ2_getChars_ba4f3 39 = .ok (.istore 4, 2) := by decide +kernel
theorem dJ2_getChars_ba4f3_41 : decode cJ2_getChars_ba4f3 41 = .ok (.iload_n 3, 1) := by decide +kernel
theorem dJ2_getChars_ba4f3_42 : decode cJ2_getChars_ba4f3 42 = .ok (.istore_n 0, 1) := by decide +kernel
theorem dJ2_getChars_ba4f3_43 : decode cJ2_getChars_ba4f3 43 = .ok (.aload_n 2, 1) := by decide +kernel
theorem dJ2_getChars_ba4f3_44 : decode cJ2_getChars_ba4f3 44 = .ok (.iinc 5 (-1), 3) := by decide +kernel
theorem dJ2_getChars_ba4f3_47 : decode cJ2_getChars_ba4f3 47 = .ok (.iload 5, 2) := by decide +kernel
theorem dJ2_getChars_ba4f3_49 : decode cJ2_getChars_ba4f3 49 = .ok (.getstatic 403, 3) := by decide +kernel
theorem dJ2_getChars_ba4f3_52 : decode cJ2_getChars_ba4f3 52 = .ok (.iload 4, 2) := by decide +kernel
theorem dJ2_getChars_ba4f3_54 : decode cJ2_getChars_ba4f3 54 = .ok (.baload, 1) := by decide +kernel
theorem dJ2_getChars_ba4f3_55 : decode cJ2_getChars_ba4f3 55 = .ok (.invokestatic 111, 3) := by decide +kernel
theorem dJ2_getChars_ba4f3_58 : decode cJ2_getChars_ba4f3 58 = .ok (.aload_n 2, 1) := by decide +kernel
theorem dJ2_getChars_ba4f3_59 : decode cJ2_getChars_ba4f3 59 = .ok (.iinc 5 (-1), 3) := by decide +kernel
theorem dJ2_getChars_ba4f3_62 : decode cJ2_getChars_ba4f3 62 = .ok (.iload 5, 2) := by decide +kernel
theorem dJ2_getChars_ba4f3_64 : decode cJ2_getChars_ba4f3 64 = .ok (.getstatic 407, 3) := by decide +kernel
theorem dJ2_getChars_ba4f3_67 : decode cJ2_getChars_ba4f3 67 = .ok (.iload 4, 2) := by decide +kernel
theorem dJ2_getChars_ba4f3_69 : decode cJ2_getChars_ba4f3 69 = .ok (.baload, 1) := by decide +kernel
theorem dJ2_getChars_ba4f3_70 : decode cJ2_getChars_ba4f3 70 = .ok (.invokestatic 111, 3) := by decide +kernel
theorem dJ2_getChars_ba4f3_73 : decode cJ2_getChars_ba4f3 73 = .ok (.goto (-51), 3) := by decide +kernel
theorem dJ2_getChars_ba4f3_76 : decode cJ2_getChars_ba4f3 76 = .ok (.aload_n 2, 1) := by decide +kernel
theorem dJ2_getChars_ba4f3_77 : decode cJ2_getChars_ba4f3 77 = .ok (.iinc 5 (-1), 3) := by decide +kernel
theorem dJ2_getChars_ba4f3_80 : decode cJ2_getChars_ba4f3 80 = .ok (.iload 5, 2) := by decide +kernel
theorem dJ2_getChars_ba4f3_82 : decode cJ2_getChars_ba4f3 82 = .ok (.getstatic 403, 3) := by decide +kernel
theorem dJ2_getChars_ba4f3_85 : decode cJ2_getChars_ba4f3 85 = .ok (.iload_n 0, 1) := by decide +kernel
theorem dJ2_getChars_ba4f3_86 : decode cJ2_getChars_ba4f3 86 = .ok (.ineg, 1) := by decide +kernel
theorem dJ2_getChars_ba4f3_87 : decode cJ2_getChars_ba4f3 87 = .ok (.baload, 1) := by decide +kernel
theorem dJ2_getChars_ba4f3_88 : decode cJ2_getChars_ba4f3 88 = .ok (.invokestatic 111, 3) := by decide +kernel
theorem dJ2_getChars_ba4f3_91 : decode cJ2_getChars_ba4f3 91 = .ok (.iload_n 0, 1) := by decide +kernel
theorem dJ2_getChars_ba4f3_92 : decode cJ2_getChars_ba4f3 92 = .ok (.bipush (-9), 2) := by decide +kernel
theorem dJ2_getChars_ba4f3_94 : decode cJ2_getChars_ba4f3 94 = .ok (.if_icmp .ge 18, 3) := by decide +kernel
theorem dJ2_getChars_ba4f3_97 : decode cJ2_getChars_ba4f3 97 = .ok (.aload_n 2, 1) := by decide +kernel
theorem dJ2_getChars_ba4f3_98 : decode cJ2_getChars_ba4f3 98 = .ok (.iinc 5 (-1), 3) := by decide +kernel
theorem dJ2_getChars_ba4f3_101 : decode cJ2_getChars_ba4f3 101 = .ok (.iload 5, 2) := by decide +kernel
theorem dJ2_getChars_ba4f3_103 : decode cJ2_getChars_ba4f3 103 = .ok (.getstatic 407, 3) := by decide +kernel
theorem dJ2_getChars_ba4f3_106 : decode cJ2_getChars_ba4f3 106 = .ok (.iload_n 0, 1) := by decide +kernel
theorem dJ2_getChars_ba4f3_107 : decode cJ2_getChars_ba4f3 107 = .ok (.ineg, 1) := by decide +kernel
theorem dJ2_getChars_ba4f3_108 : decode cJ2_getChars_ba4f3 108 = .ok (.baload, 1) := by decide +kernel
theorem dJ2_getChars_ba4f3_109 : decode cJ2_getChars_ba4f3 109 = .ok (.invokestatic 111, 3) := by decide +kernel
theorem dJ2_getChars_ba4f3_112 : decode cJ2_getChars_ba4f3 112 = .ok (.iload 6, 2) := by decide +kernel
theorem dJ2_getChars_ba4f3_114 : decode cJ2_getChars_ba4f3 114 = .ok (.ifCond .eq 14, 3) := by decide +kernel
theorem dJ2_getChars_ba4f3_117 : decode cJ2_getChars_ba4f3 117 = .ok (.aload_n 2, 1) := by decide +kernel
theorem dJ2_getChars_ba4f3_118 : decode cJ2_getChars_ba4f3 118 = .ok (.iinc 5 (-1), 3) := by decide +kernel
theorem dJ2_getChars_ba4f3_121 : decode cJ2_getChars_ba4f3 121 = .ok (.iload 5, 2) := by decide +kernel
theorem dJ2_getChars_ba4f3_123 : decode cJ2_getChars_ba4f3 123 = .ok (.bipush 45, 2) := by decide +kernel
theorem dJ2_getChars_ba4f3_125 : decode cJ2_getChars_ba4f3 125 = .ok (.invokestatic 111, 3) := by decide +kernel
theorem dJ2_getChars_ba4f3_128 : decode cJ2_getChars_ba4f3 128 = .ok (.iload 5, 2) := by decide +kernel
theorem dJ2_getChars_ba4f3_130 : decode cJ2_getChars_ba4f3 130 = .ok (.ireturn, 1) := by decide +kernel
theorem dJ2_checkIndex_2214a_0 : decode cJ2_checkIndex_2214a 0 = .ok (.iload_n 0, 1) := by decide +kernel
theorem dJ2_checkIndex_2214a_1 : decode cJ2_checkIndex_2214a 1 = .ok (.aload_n 1, 1) := by decide +kernel
theorem dJ2_checkIndex_2214a_2 : decode cJ2_checkIndex_2214a 2 = .ok (.invokestatic 48, 3) := by decide +kernel
theorem dJ2_checkIndex_2214a_5 : decode cJ2_checkIndex_2214a 5 = .ok (.invokestatic 414, 3) := by decide +kernel
theorem dJ2_checkIndex_2214a_8 : decode cJ2_checkIndex_2214a 8 = .ok (.return_, 1) := by decide +kernel
theorem dJ2_checkBoundsBeginEnd_d044e_0 : decode cJ2_checkBoundsBeginEnd_d044e 0 = .ok (.iload_n 0, 1) := by decide +kernel
theorem dJ2_checkBoundsBeginEnd_d044e_1 : decode cJ2_checkBoundsBeginEnd_d044e 1 = .ok (.iload_n 1, 1) := by decide +kernel
theorem dJ2_checkBoundsBeginEnd_d044e_2 : decode cJ2_checkBoundsBeginEnd_d044e 2 = .ok (.aload_n 2, 1) := by decide +kernel
theorem dJ2_checkBoundsBeginEnd_d044e_3 : decode cJ2_checkBoundsBeginEnd_d044e 3 = .ok (.invokestatic 48, 3) := by decide +kernel
theorem dJ2_checkBoundsBeginEnd_d044e_6 : decode cJ2_checkBoundsBeginEnd_d044e 6 = .ok (.invokestatic 241, 3) := by decide +kernel
theorem dJ2_checkBoundsBeginEnd_d044e_9 : decode cJ2_checkBoundsBeginEnd_d044e 9 = .ok (.return_, 1) := by decide +kernel
theorem dJ2_checkBoundsOffCount_d044e_0 : decode cJ2_checkBoundsOffCount_d044e 0 = .ok (.iload_n 0, 1) := by decide +kernel
theorem dJ2_checkBoundsOffCount_d044e_1 : decode cJ2_checkBoundsOffCount_d044e 1 = .ok (.iload_n 1, 1) := by decide +kernel
theorem dJ2_checkBoundsOffCount_d044e_2 : decode cJ2_checkBoundsOffCount_d044e 2 = .ok (.aload_n 2, 1) := by decide +kernel
theorem dJ2_checkBoundsOffCount_d044e_3 : decode cJ2_checkBoundsOffCount_d044e 3 = .ok (.invokestatic 48, 3) := by decide +kernel
theorem dJ2_checkBoundsOffCount_d044e_6 : decode cJ2_checkBoundsOffCount_d044e 6 = .ok (.invokestatic 419, 3) := by decide +kernel
theorem dJ2_checkBoundsOffCount_d044e_9 : decode cJ2_checkBoundsOffCount_d044e 9 = .ok (.pop, 1) := by decide +kernel
theorem dJ2_checkBoundsOffCount_d044e_10 : decode cJ2_checkBoundsOffCount_d044e 10 = .ok (.return_, 1) := by decide +kernel
theorem dJ7_rangeCheck_23922_0 : decode cJ7_rangeCheck_23922 0 = .ok (.iload_n 1, 1) := by decide +kernel
theorem dJ7_rangeCheck_23922_1 : decode cJ7_rangeCheck_23922 1 = .ok (.iload_n 2, 1) := by decide +kernel
theorem dJ7_rangeCheck_23922_2 : decode cJ7_rangeCheck_23922 2 = .ok (.if_icmp .le 44, 3) := by decide +kernel
theorem dJ7_rangeCheck_23922_5 : decode cJ7_rangeCheck_23922 5 = .ok (.new 43, 3) := by decide +kernel
theorem dJ7_rangeCheck_23922_8 : decode cJ7_rangeCheck_23922 8 = .ok (.dup, 1) := by decide +kernel
theorem dJ7_rangeCheck_23922_9 : decode cJ7_rangeCheck_23922 9 = .ok (.new 45, 3) := by decide +kernel
theorem dJ7_rangeCheck_23922_12 : decode cJ7_rangeCheck_23922 12 = .ok (.dup, 1) := by decide +kernel
theorem dJ7_rangeCheck_23922_13 : decode cJ7_rangeCheck_23922 13 = .ok (.invokespecial 47, 3) := by decide +kernel
theorem dJ7_rangeCheck_23922_16 : decode cJ7_rangeCheck_23922 16 = .ok (.ldc 48, 2) := by decide +kernel
theorem dJ7_rangeCheck_23922_18 : decode cJ7_rangeCheck_23922 18 = .ok (.invokevirtual 50, 3) := by decide +kernel
theorem dJ7_rangeCheck_23922_21 : decode cJ7_rangeCheck_23922 21 = .ok (.iload_n 1, 1) := by decide +kernel
theorem dJ7_rangeCheck_23922_22 : decode cJ7_rangeCheck_23922 22 = .ok (.invokevirtual 54, 3) := by decide +kernel
theorem dJ7_rangeCheck_23922_25 : decode cJ7_rangeCheck_23922 25 = .ok (.ldc 57, 2) := by decide +kernel
theorem dJ7_rangeCheck_23922_27 : decode cJ7_rangeCheck_23922 27 = .ok (.invokevirtual 50, 3) := by decide +kernel
theorem dJ7_rangeCheck_23922_30 : decode cJ7_rangeCheck_23922 30 = .ok (.iload_n 2, 1) := by decide +kernel
theorem dJ7_rangeCheck_23922_31 : decode cJ7_rangeCheck_23922 31 = .ok (.invokevirtual 54, 3) := by decide +kernel
theorem dJ7_rangeCheck_23922_34 : decode cJ7_rangeCheck_23922 34 = .ok (.ldc 59, 2) := by decide +kernel
theorem dJ7_rangeCheck_23922_36 : decode cJ7_rangeCheck_23922 36 = .ok (.invokevirtual 50, 3) := by decide +kernel
theorem dJ7_rangeCheck_23922_39 : decode cJ7_rangeCheck_23922 39 = .ok (.invokevirtual 61, 3) := by decide +kernel
theorem dJ7_rangeCheck_23922_42 : decode cJ7_rangeCheck_23922 42 = .ok (.invokespecial 65, 3) := by decide +kernel
theorem dJ7_rangeCheck_23922_45 : decode cJ7_rangeCheck_23922 45 = .ok (.athrow, 1) := by decide +kernel
theorem dJ7_rangeCheck_23922_46 : decode cJ7_rangeCheck_23922 46 = .ok (.iload_n 1, 1) := by decide +kernel
theorem dJ7_rangeCheck_23922_47 : decode cJ7_rangeCheck_23922 47 = .ok (.ifCond .ge 12, 3) := by decide +kernel
theorem dJ7_rangeCheck_23922_50 : decode cJ7_rangeCheck_23922 50 = .ok (.new 68, 3) := by decide +kernel
theorem dJ7_rangeCheck_23922_53 : decode cJ7_rangeCheck_23922 53 = .ok (.dup, 1) := by decide +kernel
theorem dJ7_rangeCheck_23922_54 : decode cJ7_rangeCheck_23922 54 = .ok (.iload_n 1, 1) := by decide +kernel
theorem dJ7_rangeCheck_23922_55 : decode cJ7_rangeCheck_23922 55 = .ok (.invokespecial 70, 3) := by decide +kernel
theorem dJ7_rangeCheck_23922_58 : decode cJ7_rangeCheck_23922 58 = .ok (.athrow, 1) := by decide +kernel
theorem dJ7_rangeCheck_23922_59 : decode cJ7_rangeCheck_23922 59 = .ok (.iload_n 2, 1) := by decide +kernel
theorem dJ7_rangeCheck_23922_60 : decode cJ7_rangeCheck_23922 60 = .ok (.iload_n 0, 1) := by decide +kernel
theorem dJ7_rangeCheck_23922_61 : decode cJ7_rangeCheck_23922 61 = .ok (.if_icmp .le 12, 3) := by decide +kernel
theorem dJ7_rangeCheck_23922_64 : decode cJ7_rangeCheck_23922 64 = .ok (.new 68, 3) := by decide +kernel
theorem dJ7_rangeCheck_23922_67 : decode cJ7_rangeCheck_23922 67 = .ok (.dup, 1) := by decide +kernel
theorem dJ7_rangeCheck_23922_68 : decode cJ7_rangeCheck_23922 68 = .ok (.iload_n 2, 1) := by decide +kernel
theorem dJ7_rangeCheck_23922_69 : decode cJ7_rangeCheck_23922 69 = .ok (.invokespecial 70, 3) := by decide +kernel
theorem dJ7_rangeCheck_23922_72 : decode cJ7_rangeCheck_23922 72 = .ok (.athrow, 1) := by decide +kernel
theorem dJ7_rangeCheck_23922_73 : decode cJ7_rangeCheck_23922 73 = .ok (.return_, 1) := by decide +kernel
theorem dJ7_fill_eb02e_0 : decode cJ7_fill_eb02e 0 = .ok (.aload_n 0, 1) := by decide +kernel
theorem dJ7_fill_eb02e_1 : decode cJ7_fill_eb02e 1 = .ok (.arraylength, 1) := by decide +kernel
theorem dJ7_fill_eb02e_2 : decode cJ7_fill_eb02e 2 = .ok (.iload_n 1, 1) := by decide +kernel
theorem dJ7_fill_eb02e_3 : decode cJ7_fill_eb02e 3 = .ok (.iload_n 2, 1) := by decide +kernel
theorem dJ7_fill_eb02e_4 : decode cJ7_fill_eb02e 4 = .ok (.invokestatic 13, 3) := by decide +kernel
theorem dJ7_fill_eb02e_7 : decode cJ7_fill_eb02e 7 = .ok (.iload_n 1, 1) := by decide +kernel
theorem dJ7_fill_eb02e_8 : decode cJ7_fill_eb02e 8 = .ok (.istore 4, 2) := by decide +kernel
theorem dJ7_fill_eb02e_10 : decode cJ7_fill_eb02e 10 = .ok (.iload 4, 2) := by decide +kernel
theorem dJ7_fill_eb02e_12 : decode cJ7_fill_eb02e 12 = .ok (.iload_n 2, 1) := by decide +kernel
theorem dJ7_fill_eb02e_13 : decode cJ7_fill_eb02e 13 = .ok (.if_icmp .ge 14, 3) := by decide +kernel
theorem dJ7_fill_eb02e_16 : decode cJ7_fill_eb02e 16 = .ok (.aload_n 0, 1) := by decide +kernel
theorem dJ7_fill_eb02e_17 : decode cJ7_fill_eb02e 17 = .ok (.iload 4, 2) := by decide +kernel
theorem dJ7_fill_eb02e_19 : decode cJ7_fill_eb02e 19 = .ok (.iload_n 3, 1) := by decide +kernel
theorem dJ7_fill_eb02e_20 : decode cJ7_fill_eb02e 20 = .ok (.bastore, 1) := by decide +kernel
theorem dJ7_fill_eb02e_21 : decode cJ7_fill_eb02e 21 = .ok (.iinc 4 1, 3) := by decide +kernel
theorem dJ7_fill_eb02e_24 : decode cJ7_fill_eb02e 24 = .ok (.goto (-14), 3) := by decide +kernel
theorem dJ7_fill_eb02e_27 : decode cJ7_fill_eb02e 27 = .ok (.return_, 1) := by decide +kernel
theorem dJ7_copyOf_9075b_0 : decode cJ7_copyOf_9075b 0 = .ok (.iload_n 1, 1) := by decide +kernel
theorem dJ7_copyOf_9075b_1 : decode cJ7_copyOf_9075b 1 = .ok (.aload_n 0, 1) := by decide +kernel
theorem dJ7_copyOf_9075b_2 : decode cJ7_copyOf_9075b 2 = .ok (.arraylength, 1) := by decide +kernel
theorem dJ7_copyOf_9075b_3 : decode cJ7_copyOf_9075b 3 = .ok (.if_icmp .ne 11, 3) := by decide +kernel
theorem dJ7_copyOf_9075b_6 : decode cJ7_copyOf_9075b 6 = .ok (.aload_n 0, 1) := by decide +kernel
theorem dJ7_copyOf_9075b_7 : decode cJ7_copyOf_9075b 7 = .ok (.invokevirtual 310, 3) := by decide +kernel
theorem dJ7_copyOf_9075b_10 : decode cJ7_copyOf_9075b 10 = .ok (.checkcast 311, 3) := by decide +kernel
theorem dJ7_copyOf_9075b_13 : decode cJ7_copyOf_9075b 13 = .ok (.areturn, 1) := by decide +kernel
theorem dJ7_copyOf_9075b_14 : decode cJ7_copyOf_9075b 14 = .ok (.iload_n 1, 1) := by decide +kernel
theorem dJ7_copyOf_9075b_15 : decode cJ7_copyOf_9075b 15 = .ok (.newarray .byte, 2) := by decide +kernel
theorem dJ7_copyOf_9075b_17 : decode cJ7_copyOf_9075b 17 = .ok (.astore_n 2, 1) := by decide +kernel
theorem dJ7_copyOf_9075b_18 : decode cJ7_copyOf_9075b 18 = .ok (.aload_n 0, 1) := by decide +kernel
theorem dJ7_copyOf_9075b_19 : decode cJ7_copyOf_9075b 19 = .ok (.iconst 0, 1) := by decide +kernel
theorem dJ7_copyOf_9075b_20 : decode cJ7_copyOf_9075b 20 = .ok (.aload_n 2, 1) := by decide +kernel
theorem dJ7_copyOf_9075b_21 : decode cJ7_copyOf_9075b 21 = .ok (.iconst 0, 1) := by decide +kernel
theorem dJ7_copyOf_9075b_22 : decode cJ7_copyOf_9075b 22 = .ok (.aload_n 0, 1) := by decide +kernel
theorem dJ7_copyOf_9075b_23 : decode cJ7_copyOf_9075b 23 = .ok (.arraylength, 1) := by decide +kernel
theorem dJ7_copyOf_9075b_24 : decode cJ7_copyOf_9075b 24 = .ok (.iload_n 1, 1) := by decide +kernel
theorem dJ7_copyOf_9075b_25 : decode cJ7_copyOf_9075b 25 = .ok (.invokestatic 304, 3) := by decide +kernel
theorem dJ7_copyOf_9075b_28 : decode cJ7_copyOf_9075b 28 = .ok (.invokestatic 150, 3) := by decide +kernel
theorem dJ7_copyOf_9075b_31 : decode cJ7_copyOf_9075b 31 = .ok (.aload_n 2, 1) := by decide +kernel
theorem dJ7_copyOf_9075b_32 : decode cJ7_copyOf_9075b 32 = .ok (.areturn, 1) := by decide +kernel
theorem dJ7_copyOf_59c91_0 : decode cJ7_copyOf_59c91 0 = .ok (.iload_n 1, 1) := by decide +kernel
theorem dJ7_copyOf_59c91_1 : decode cJ7_copyOf_59c91 1 = .ok (.aload_n 0, 1) := by decide +kernel
theorem dJ7_copyOf_59c91_2 : decode cJ7_copyOf_59c91 2 = .ok (.arraylength, 1) := by decide +kernel
theorem dJ7_copyOf_59c91_3 : decode cJ7_copyOf_59c91 3 = .ok (.if_icmp .ne 11, 3) := by decide +kernel
theorem dJ7_copyOf_59c91_6 : decode cJ7_copyOf_59c91 6 = .ok (.aload_n 0, 1) := by decide +kernel
theorem dJ7_copyOf_59c91_7 : decode cJ7_copyOf_59c91 7 = .ok (.invokevirtual 316, 3) := by decide +kernel
theorem dJ7_copyOf_59c91_10 : decode cJ7_copyOf_59c91 10 = .ok (.checkcast 317, 3) := by decide +kernel
theorem dJ7_copyOf_59c91_13 : decode cJ7_copyOf_59c91 13 = .ok (.areturn, 1) := by decide +kernel
theorem dJ7_copyOf_59c91_14 : decode cJ7_copyOf_59c91 14 = .ok (.iload_n 1, 1) := by decide +kernel
theorem dJ7_copyOf_59c91_15 : decode cJ7_copyOf_59c91 15 = .ok (.newarray .int, 2) := by decide +kernel
theorem dJ7_copyOf_59c91_17 : decode cJ7_copyOf_59c91 17 = .ok (.astore_n 2, 1) := by decide +kernel
theorem dJ7_copyOf_59c91_18 : decode cJ7_copyOf_59c91 18 = .ok (.aload_n 0, 1) := by decide +kernel
theorem dJ7_copyOf_59c91_19 : decode cJ7_copyOf_59c91 19 = .ok (.iconst 0, 1) := by decide +kernel
theorem dJ7_copyOf_59c91_20 : decode cJ7_copyOf_59c91 20 = .ok (.aload_n 2, 1) := by decide +kernel
theorem dJ7_copyOf_59c91_21 : decode cJ7_copyOf_59c91 21 = .ok (.iconst 0, 1) := by decide +kernel
theorem dJ7_copyOf_59c91_22 : decode cJ7_copyOf_59c91 22 = .ok (.aload_n 0, 1) := by decide +kernel
theorem dJ7_copyOf_59c91_23 : decode cJ7_copyOf_59c91 23 = .ok (.arraylength, 1) := by decide +kernel
theorem dJ7_copyOf_59c91_24 : decode cJ7_copyOf_59c91 24 = .ok (.iload_n 1, 1) := by decide +kernel
theorem dJ7_copyOf_59c91_25 : decode cJ7_copyOf_59c91 25 = .ok (.invokestatic 304, 3) := by decide +kernel
theorem dJ7_copyOf_59c91_28 : decode cJ7_copyOf_59c91 28 = .ok (.invokestatic 150, 3) := by decide +kernel
theorem dJ7_copyOf_59c91_31 : decode cJ7_copyOf_59c91 31 = .ok (.aload_n 2, 1) := by decide +kernel
theorem dJ7_copyOf_59c91_32 : decode cJ7_copyOf_59c91 32 = .ok (.areturn, 1) := by decide +kernel
theorem dJ7_checkLength_df160_0 : decode cJ7_checkLength_df160 0 = .ok (.iload_n 1, 1) := by decide +kernel
theorem dJ7_checkLength_df160_1 : decode cJ7_checkLength_df160 1 = .ok (.iload_n 0, 1) := by decide +kernel
theorem dJ7_checkLength_df160_2 : decode cJ7_checkLength_df160 2 = .ok (.if_icmp .ge 35, 3) := by decide +kernel
theorem dJ7_checkLength_df160_5 : decode cJ7_checkLength_df160 5 = .ok (.new 43, 3) := by decide +kernel
theorem dJ7_checkLength_df160_8 : decode cJ7_checkLength_df160 8 = .ok (.dup, 1) := by decide +kernel
theorem dJ7_checkLength_df160_9 : decode cJ7_checkLength_df160 9 = .ok (.new 45, 3) := by decide +kernel
theorem dJ7_checkLength_df160_12 : decode cJ7_checkLength_df160 12 = .ok (.dup, 1) := by decide +kernel
theorem dJ7_checkLength_df160_13 : decode cJ7_checkLength_df160 13 = .ok (.invokespecial 47, 3) := by decide +kernel
theorem dJ7_checkLength_df160_16 : decode cJ7_checkLength_df160 16 = .ok (.iload_n 0, 1) := by decide +kernel
theorem dJ7_checkLength_df160_17 : decode cJ7_checkLength_df160 17 = .ok (.invokevirtual 54, 3) := by decide +kernel
theorem dJ7_checkLength_df160_20 : decode cJ7_checkLength_df160 20 = .ok (.ldc_w 337, 3) := by decide +kernel
theorem dJ7_checkLength_df160_23 : decode cJ7_checkLength_df160 23 = .ok (.invokevirtual 50, 3) := by decide +kernel
theorem dJ7_checkLength_df160_26 : decode cJ7_checkLength_df160 26 = .ok (.iload_n 1, 1) := by decide +kernel
theorem dJ7_checkLength_df160_27 : decode cJ7_checkLength_df160 27 = .ok (.invokevirtual 54, 3) := by decide +kernel
theorem dJ7_checkLength_df160_30 : decode cJ7_checkLength_df160 30 = .ok (.invokevirtual 61, 3) := by decide +kernel
theorem dJ7_checkLength_df160_33 : decode cJ7_checkLength_df160 33 = .ok (.invokespecial 65, 3) := by decide +kernel
theorem dJ7_checkLength_df160_36 : decode cJ7_checkLength_df160 36 = .ok (.athrow, 1) := by decide +kernel
theorem dJ7_checkLength_df160_37 : decode cJ7_checkLength_df160 37 = .ok (.return_, 1) := by decide +kernel
theorem dJ7_copyOfRange_39247_0 : decode cJ7_copyOfRange_39247 0 = .ok (.iload_n 1, 1) := by decide +kernel
theorem dJ7_copyOfRange_39247_1 : decode cJ7_copyOfRange_39247 1 = .ok (.ifCond .ne 9, 3) := by decide +kernel
theorem dJ7_copyOfRange_39247_4 : decode cJ7_copyOfRange_39247 4 = .ok (.iload_n 2, 1) := by decide +kernel
theorem dJ7_copyOfRange_39247_5 : decode cJ7_copyOfRange_39247 5 = .ok (.aload_n 0, 1) := by decide +kernel
theorem dJ7_copyOfRange_39247_6 : decode cJ7_copyOfRange_39247 6 = .ok (.arraylength, 1) := by decide +kernel
theorem dJ7_copyOfRange_39247_7 : decode cJ7_copyOfRange_39247 7 = .ok (.if_icmp .eq 10, 3) := by decide +kernel
theorem dJ7_copyOfRange_39247_10 : decode cJ7_copyOfRange_39247 10 = .ok (.aload_n 0, 1) := by decide +kernel
theorem dJ7_copyOfRange_39247_11 : decode cJ7_copyOfRange_39247 11 = .ok (.iload_n 1, 1) := by decide +kernel
theorem dJ7_copyOfRange_39247_12 : decode cJ7_copyOfRange_39247 12 = .ok (.iload_n 2, 1) := by decide +kernel
theorem dJ7_copyOfRange_39247_13 : decode cJ7_copyOfRange_39247 13 = .ok (.invokestatic 339, 3) := by decide +kernel
theorem dJ7_copyOfRange_39247_16 : decode cJ7_copyOfRange_39247 16 = .ok (.areturn, 1) := by decide +kernel
theorem dJ7_copyOfRange_39247_17 : decode cJ7_copyOfRange_39247 17 = .ok (.aload_n 0, 1) := by decide +kernel
theorem dJ7_copyOfRange_39247_18 : decode cJ7_copyOfRange_39247 18 = .ok (.invokevirtual 310, 3) := by decide +kernel
theorem dJ7_copyOfRange_39247_21 : decode cJ7_copyOfRange_39247 21 = .ok (.checkcast 311, 3) := by decide +kernel
theorem dJ7_copyOfRange_39247_24 : decode cJ7_copyOfRange_39247 24 = .ok (.areturn, 1) := by decide +kernel
theorem dJ7_copyOfRangeByte_39247_0 : decode cJ7_copyOfRangeByte_39247 0 = .ok (.iload_n 1, 1) := by decide +kernel
theorem dJ7_copyOfRangeByte_39247_1 : decode cJ7_copyOfRangeByte_39247 1 = .ok (.iload_n 2, 1) := by decide +kernel
theorem dJ7_copyOfRangeByte_39247_2 : decode cJ7_copyOfRangeByte_39247 2 = .ok (.invokestatic 343, 3) := by decide +kernel
theorem dJ7_copyOfRangeByte_39247_5 : decode cJ7_copyOfRangeByte_39247 5 = .ok (.iload_n 2, 1) := by decide +kernel
theorem dJ7_copyOfRangeByte_39247_6 : decode cJ7_copyOfRangeByte_39247 6 = .ok (.iload_n 1, 1) := by decide +kernel
theorem dJ7_copyOfRangeByte_39247_7 : decode cJ7_copyOfRangeByte_39247 7 = .ok (.isub, 1) := by decide +kernel
theorem dJ7_copyOfRangeByte_39247_8 : decode cJ7_copyOfRangeByte_39247 8 = .ok (.istore_n 3, 1) := by decide +kernel
theorem dJ7_copyOfRangeByte_39247_9 : decode cJ7_copyOfRangeByte_39247 9 = .ok (.iload_n 3, 1) := by decide +kernel
theorem dJ7_copyOfRangeByte_39247_10 : decode cJ7_copyOfRangeByte_39247 10 = .ok (.newarray .byte, 2) := by decide +kernel
theorem dJ7_copyOfRangeByte_39247_12 : decode cJ7_copyOfRangeByte_39247 12 = .ok (.astore 4, 2) := by decide +kernel
theorem dJ7_copyOfRangeByte_39247_14 : decode cJ7_copyOfRangeByte_39247 14 = .ok (.aload_n 0, 1) := by decide +kernel
theorem dJ7_copyOfRangeByte_39247_15 : decode cJ7_copyOfRangeByte_39247 15 = .ok (.iload_n 1, 1) := by decide +kernel
theorem dJ7_copyOfRangeByte_39247_16 : decode cJ7_copyOfRangeByte_39247 16 = .ok (.aload 4, 2) := by decide +kernel
theorem dJ7_copyOfRangeByte_39247_18 : decode cJ7_copyOfRangeByte_39247 18 = .ok (.iconst 0, 1) := by decide +kernel
theorem dJ7_copyOfRangeByte_39247_19 : decode cJ7_copyOfRangeByte_39247 19 = .ok (.aload_n 0, 1) := by decide +kernel
theorem dJ7_copyOfRangeByte_39247_20 : decode cJ7_copyOfRangeByte_39247 20 = .ok (.arraylength, 1) := by decide +kernel
theorem dJ7_copyOfRangeByte_39247_21 : decode cJ7_copyOfRangeByte_39247 21 = .ok (.iload_n 1, 1) := by decide +kernel
theorem dJ7_copyOfRangeByte_39247_22 : decode cJ7_copyOfRangeByte_39247 22 = .ok (.isub, 1) := by decide +kernel
theorem dJ7_copyOfRangeByte_39247_23 : decode cJ7_copyOfRangeByte_39247 23 = .ok (.iload_n 3, 1) := by decide +kernel
theorem dJ7_copyOfRangeByte_39247_24 : decode cJ7_copyOfRangeByte_39247 24 = .ok (.invokestatic 304, 3) := by decide +kernel
theorem dJ7_copyOfRangeByte_39247_27 : decode cJ7_copyOfRangeByte_39247 27 = .ok (.invokestatic 150, 3) := by decide +kernel
theorem dJ7_copyOfRangeByte_39247_30 : decode cJ7_copyOfRangeByte_39247 30 = .ok (.aload 4, 2) := by decide +kernel
theorem dJ7_copyOfRangeByte_39247_32 : decode cJ7_copyOfRangeByte_39247 32 = .ok (.areturn, 1) := by decide +kernel
theorem dJ8_newLength_cabcc_0 : decode cJ8_newLength_cabcc 0 = .ok (.iload_n 0, 1) := by decide +kernel
theorem dJ8_newLength_cabcc_1 : decode cJ8_newLength_cabcc 1 = .ok (.iload_n 1, 1) := by decide +kernel
theorem dJ8_newLength_cabcc_2 : decode cJ8_newLength_cabcc 2 = .ok (.iload_n 2, 1) := by decide +kernel
theorem dJ8_newLength_cabcc_3 : decode cJ8_newLength_cabcc 3 = .ok (.invokestatic 194, 3) := by decide +kernel
theorem dJ8_newLength_cabcc_6 : decode cJ8_newLength_cabcc 6 = .ok (.iadd, 1) := by decide +kernel
theorem dJ8_newLength_cabcc_7 : decode cJ8_newLength_cabcc 7 = .ok (.istore_n 3, 1) := by decide +kernel
theorem dJ8_newLength_cabcc_8 : decode cJ8_newLength_cabcc 8 = .ok (.iconst 0, 1) := by decide +kernel
theorem dJ8_newLength_cabcc_9 : decode cJ8_newLength_cabcc 9 = .ok (.iload_n 3, 1) := by decide +kernel
theorem dJ8_newLength_cabcc_10 : decode cJ8_newLength_cabcc 10 = .ok (.if_icmp .ge 11, 3) := by decide +kernel
theorem dJ8_newLength_cabcc_13 : decode cJ8_newLength_cabcc 13 = .ok (.iload_n 3, 1) := by decide +kernel
theorem dJ8_newLength_cabcc_14 : decode cJ8_newLength_cabcc 14 = .ok (.ldc 200, 2) := by decide +kernel
theorem dJ8_newLength_cabcc_16 : decode cJ8_newLength_cabcc 16 = .ok (.if_icmp .gt 5, 3) := by decide +kernel
theorem dJ8_newLength_cabcc_19 : decode cJ8_newLength_cabcc 19 = .ok (.iload_n 3, 1) := by decide +kernel
theorem dJ8_newLength_cabcc_20 : decode cJ8_newLength_cabcc 20 = .ok (.ireturn, 1) := by decide +kernel
theorem dJ8_newLength_cabcc_21 : decode cJ8_newLength_cabcc 21 = .ok (.iload_n 0, 1) := by decide +kernel
theorem dJ8_newLength_cabcc_22 : decode cJ8_newLength_cabcc 22 = .ok (.iload_n 1, 1) := by decide +kernel
theorem dJ8_newLength_cabcc_23 : decode cJ8_newLength_cabcc 23 = .ok (.invokestatic 201, 3) := by decide +kernel
theorem dJ8_newLength_cabcc_26 : decode cJ8_newLength_cabcc 26 = .ok (.ireturn, 1) := by decide +kernel
theorem dJ8_hugeLength_7cf53_0 : decode cJ8_hugeLength_7cf53 0 = .ok (.iload_n 0, 1) := by decide +kernel
theorem dJ8_hugeLength_7cf53_1 : decode cJ8_hugeLength_7cf53 1 = .ok (.iload_n 1, 1) := by decide +kernel
theorem dJ8_hugeLength_7cf53_2 : decode cJ8_hugeLength_7cf53 2 = .ok (.iadd, 1) := by decide +kernel
theorem dJ8_hugeLength_7cf53_3 : decode cJ8_hugeLength_7cf53 3 = .ok (.istore_n 2, 1) := by decide +kernel
theorem dJ8_hugeLength_7cf53_4 : decode cJ8_hugeLength_7cf53 4 = .ok (.iload_n 2, 1) := by decide +kernel
theorem dJ8_hugeLength_7cf53_5 : decode cJ8_hugeLength_7cf53 5 = .ok (.ifCond .ge 44, 3) := by decide +kernel
theorem dJ8_hugeLength_7cf53_8 : decode cJ8_hugeLength_7cf53 8 = .ok (.new 204, 3) := by decide +kernel
theorem dJ8_hugeLength_7cf53_11 : decode cJ8_hugeLength_7cf53 11 = .ok (.dup, 1) := by decide +kernel
theorem dJ8_hugeLength_7cf53_12 : decode cJ8_hugeLength_7cf53 12 = .ok (.new 89, 3) := by decide +kernel
theorem dJ8_hugeLength_7cf53_15 : decode cJ8_hugeLength_7cf53 15 = .ok (.dup, 1) := by decide +kernel
theorem dJ8_hugeLength_7cf53_16 : decode cJ8_hugeLength_7cf53 16 = .ok (.invokespecial 91, 3) := by decide +kernel
theorem dJ8_hugeLength_7cf53_19 : decode cJ8_hugeLength_7cf53 19 = .ok (.ldc 206, 2) := by decide +kernel
theorem dJ8_hugeLength_7cf53_21 : decode cJ8_hugeLength_7cf53 21 = .ok (.invokevirtual 94, 3) := by decide +kernel
theorem dJ8_hugeLength_7cf53_24 : decode cJ8_hugeLength_7cf53 24 = .ok (.iload_n 0, 1) := by decide +kernel
theorem dJ8_hugeLength_7cf53_25 : decode cJ8_hugeLength_7cf53 25 = .ok (.invokevirtual 98, 3) := by decide +kernel
theorem dJ8_hugeLength_7cf53_28 : decode cJ8_hugeLength_7cf53 28 = .ok (.ldc 208, 2) := by decide +kernel
theorem dJ8_hugeLength_7cf53_30 : decode cJ8_hugeLength_7cf53 30 = .ok (.invokevirtual 94, 3) := by decide +kernel
theorem dJ8_hugeLength_7cf53_33 : decode cJ8_hugeLength_7cf53 33 = .ok (.iload_n 1, 1) := by decide +kernel
theorem dJ8_hugeLength_7cf53_34 : decode cJ8_hugeLength_7cf53 34 = .ok (.invokevirtual 98, 3) := by decide +kernel
theorem dJ8_hugeLength_7cf53_37 : decode cJ8_hugeLength_7cf53 37 = .ok (.ldc 210, 2) := by decide +kernel
theorem dJ8_hugeLength_7cf53_39 : decode cJ8_hugeLength_7cf53 39 = .ok (.invokevirtual 94, 3) := by decide +kernel
theorem dJ8_hugeLength_7cf53_42 : decode cJ8_hugeLength_7cf53 42 = .ok (.invokevirtual 101, 3) := by decide +kernel
theorem dJ8_hugeLength_7cf53_45 : decode cJ8_hugeLength_7cf53 45 = .ok (.invokespecial 212, 3) := by decide +kernel
theorem dJ8_hugeLength_7cf53_48 : decode cJ8_hugeLength_7cf53 48 = .ok (.athrow, 1) := by decide +kernel
theorem dJ8_hugeLength_7cf53_49 : decode cJ8_hugeLength_7cf53 49 = .ok (.iload_n 2, 1) := by decide +kernel
theorem dJ8_hugeLength_7cf53_50 : decode cJ8_hugeLength_7cf53 50 = .ok (.ldc 200, 2) := by decide +kernel
theorem dJ8_hugeLength_7cf53_52 : decode cJ8_hugeLength_7cf53 52 = .ok (.if_icmp .gt 6, 3) := by decide +kernel
theorem dJ8_hugeLength_7cf53_55 : decode cJ8_hugeLength_7cf53 55 = .ok (.ldc 200, 2) := by decide +kernel
theorem dJ8_hugeLength_7cf53_57 : decode cJ8_hugeLength_7cf53 57 = .ok (.ireturn, 1) := by decide +kernel
theorem dJ8_hugeLength_7cf53_58 : decode cJ8_hugeLength_7cf53 58 = .ok (.iload_n 2, 1) := by decide +kernel
theorem dJ8_hugeLength_7cf53_59 : decode cJ8_hugeLength_7cf53 59 = .ok (.ireturn, 1) := by decide +kernel
theorem dJ3_checkIndex_8e157_0 : decode cJ3_checkIndex_8e157 0 = .ok (.iload_n 0, 1) := by decide +kernel
theorem dJ3_checkIndex_8e157_1 : decode cJ3_checkIndex_8e157 1 = .ok (.ifCond .lt 8, 3) := by decide +kernel
theorem dJ3_checkIndex_8e157_4 : decode cJ3_checkIndex_8e157 4 = .ok (.iload_n 0, 1) := by decide +kernel
theorem dJ3_checkIndex_8e157_5 : decode cJ3_checkIndex_8e157 5 = .ok (.iload_n 1, 1) := by decide +kernel
theorem dJ3_checkIndex_8e157_6 : decode cJ3_checkIndex_8e157 6 = .ok (.if_icmp .lt 10, 3) := by decide +kernel
theorem dJ3_checkIndex_8e157_9 : decode cJ3_checkIndex_8e157 9 = .ok (.aload_n 2, 1) := by decide +kernel
theorem dJ3_checkIndex_8e157_10 : decode cJ3_checkIndex_8e157 10 = .ok (.iload_n 0, 1) := by decide +kernel
theorem dJ3_checkIndex_8e157_11 : decode cJ3_checkIndex_8e157 11 = .ok (.iload_n 1, 1) := by decide +kernel
theorem dJ3_checkIndex_8e157_12 : decode cJ3_checkIndex_8e157 12 = .ok (.invokestatic 95, 3) := by decide +kernel
theorem dJ3_checkIndex_8e157_15 : decode cJ3_checkIndex_8e157 15 = .ok (.athrow, 1) := by decide +kernel
theorem dJ3_checkIndex_8e157_16 : decode cJ3_checkIndex_8e157 16 = .ok (.iload_n 0, 1) := by decide +kernel
theorem dJ3_checkIndex_8e157_17 : decode cJ3_checkIndex_8e157 17 = .ok (.ireturn, 1) := by decide +kernel
theorem dJ3_checkFromToIndex_8c36e_0 : decode cJ3_checkFromToIndex_8c36e 0 = .ok (.iload_n 0, 1) := by decide +kernel
theorem dJ3_checkFromToIndex_8c36e_1 : decode cJ3_checkFromToIndex_8c36e 1 = .ok (.ifCond .lt 13, 3) := by decide +kernel
theorem dJ3_checkFromToIndex_8c36e_4 : decode cJ3_checkFromToIndex_8c36e 4 = .ok (.iload_n 0, 1) := by decide +kernel
theorem dJ3_checkFromToIndex_8c36e_5 : decode cJ3_checkFromToIndex_8c36e 5 = .ok (.iload_n 1, 1) := by decide +kernel
theorem dJ3_checkFromToIndex_8c36e_6 : decode cJ3_checkFromToIndex_8c36e 6 = .ok (.if_icmp .gt 8, 3) := by decide +kernel
theorem dJ3_checkFromToIndex_8c36e_9 : decode cJ3_checkFromToIndex_8c36e 9 = .ok (.iload_n 1, 1) := by decide +kernel
theorem dJ3_checkFromToIndex_8c36e_10 : decode cJ3_checkFromToIndex_8c36e 10 = .ok (.iload_n 2, 1) := by decide +kernel
theorem dJ3_checkFromToIndex_8c36e_11 : decode cJ3_checkFromToIndex_8c36e 11 = .ok (.if_icmp .le 11, 3) := by decide +kernel
theorem dJ3_checkFromToIndex_8c36e_14 : decode cJ3_checkFromToIndex_8c36e 14 = .ok (.aload_n 3, 1) := by decide +kernel
theorem dJ3_checkFromToIndex_8c36e_15 : decode cJ3_checkFromToIndex_8c36e 15 = .ok (.iload_n 0, 1) := by decide +kernel
theorem dJ3_checkFromToIndex_8c36e_16 : decode cJ3_checkFromToIndex_8c36e 16 = .ok (.iload_n 1, 1) := by decide +kernel
theorem dJ3_checkFromToIndex_8c36e_17 : decode cJ3_checkFromToIndex_8c36e 17 = .ok (.iload_n 2, 1) := by decide +kernel
theorem dJ3_checkFromToIndex_8c36e_18 : decode cJ3_checkFromToIndex_8c36e 18 = .ok (.invokestatic 99, 3) := by decide +kernel
theorem dJ3_checkFromToIndex_8c36e_21 : decode cJ3_checkFromToIndex_8c36e 21 = .ok (.athrow, 1) := by decide +kernel
theorem dJ3_checkFromToIndex_8c36e_22 : decode cJ3_checkFromToIndex_8c36e 22 = .ok (.iload_n 0, 1) := by decide +kernel
theorem dJ3_checkFromToIndex_8c36e_23 : decode cJ3_checkFromToIndex_8c36e 23 = .ok (.ireturn, 1) := by decide +kernel
theorem dJ3_checkFromIndexSize_8c36e_0 : decode cJ3_checkFromIndexSize_8c36e 0 = .ok (.iload_n 2, 1) := by decide +kernel
theorem dJ3_checkFromIndexSize_8c36e_1 : decode cJ3_checkFromIndexSize_8c36e 1 = .ok (.iload_n 0, 1) := by decide +kernel
theorem dJ3_checkFromIndexSize_8c36e_2 : decode cJ3_checkFromIndexSize_8c36e 2 = .ok (.ior, 1) := by decide +kernel
theorem dJ3_checkFromIndexSize_8c36e_3 : decode cJ3_checkFromIndexSize_8c36e 3 = .ok (.iload_n 1, 1) := by decide +kernel
theorem dJ3_checkFromIndexSize_8c36e_4 : decode cJ3_checkFromIndexSize_8c36e 4 = .ok (.ior, 1) := by decide +kernel
theorem dJ3_checkFromIndexSize_8c36e_5 : decode cJ3_checkFromIndexSize_8c36e 5 = .ok (.ifCond .lt 10, 3) := by decide +kernel
theorem dJ3_checkFromIndexSize_8c36e_8 : decode cJ3_checkFromIndexSize_8c36e 8 = .ok (.iload_n 1, 1) := by decide +kernel
theorem dJ3_checkFromIndexSize_8c36e_9 : decode cJ3_checkFromIndexSize_8c36e 9 = .ok (.iload_n 2, 1) := by decide +kernel
theorem dJ3_checkFromIndexSize_8c36e_10 : decode cJ3_checkFromIndexSize_8c36e 10 = .ok (.iload_n 0, 1) := by decide +kernel
theorem dJ3_checkFromIndexSize_8c36e_11 : decode cJ3_checkFromIndexSize_8c36e 11 = .ok (.isub, 1) := by decide +kernel
theorem dJ3_checkFromIndexSize_8c36e_12 : decode cJ3_checkFromIndexSize_8c36e 12 = .ok (.if_icmp .le 11, 3) := by decide +kernel
theorem dJ3_checkFromIndexSize_8c36e_15 : decode cJ3_checkFromIndexSize_8c36e 15 = .ok (.aload_n 3, 1) := by decide +kernel
theorem dJ3_checkFromIndexSize_8c36e_16 : decode cJ3_checkFromIndexSize_8c36e 16 = .ok (.iload_n 0, 1) := by decide +kernel
theorem dJ3_checkFromIndexSize_8c36e_17 : decode cJ3_checkFromIndexSize_8c36e 17 = .ok (.iload_n 1, 1) := by decide +kernel
theorem dJ3_checkFromIndexSize_8c36e_18 : decode cJ3_checkFromIndexSize_8c36e 18 = .ok (.iload_n 2, 1) := by decide +kernel
theorem dJ3_checkFromIndexSize_8c36e_19 : decode cJ3_checkFromIndexSize_8c36e 19 = .ok (.invokestatic 103, 3) := by decide +kernel
theorem dJ3_checkFromIndexSize_8c36e_22 : decode cJ3_checkFromIndexSize_8c36e 22 = .ok (.athrow, 1) := by decide +kernel
theorem dJ3_checkFromIndexSize_8c36e_23 : decode cJ3_checkFromIndexSize_8c36e 23 = .ok (.iload_n 0, 1) := by decide +kernel
theorem dJ3_checkFromIndexSize_8c36e_24 : decode cJ3_checkFromIndexSize_8c36e 24 = .ok (.ireturn, 1) := by decide +kernel
theorem dL_append_0 : decode cL_append 0 = .ok (.aload 6, 2) := by decide +kernel
theorem dL_append_2 : decode cL_append 2 = .ok (.iconst 0, 1) := by decide +kernel
theorem dL_append_3 : decode cL_append 3 = .ok (.aload_n 0, 1) := by decide +kernel
theorem dL_append_4 : decode cL_append 4 = .ok (.iload_n 1, 1) := by decide +kernel
theorem dL_append_5 : decode cL_append 5 = .ok (.iload_n 2, 1) := by decide +kernel
theorem dL_append_6 : decode cL_append 6 = .ok (.iload_n 3, 1) := by decide +kernel
theorem dL_append_7 : decode cL_append 7 = .ok (.iload 4, 2) := by decide +kernel
theorem dL_append_9 : decode cL_append 9 = .ok (.iload 5, 2) := by decide +kernel
theorem dL_append_11 : decode cL_append 11 = .ok (.invokevirtual 7, 3) := by decide +kernel
theorem dL_append_14 : decode cL_append 14 = .ok (.i2l, 1) := by decide +kernel
theorem dL_append_15 : decode cL_append 15 = .ok (.lastore, 1) := by decide +kernel
theorem dL_append_16 : decode cL_append 16 = .ok (.goto 7, 3) := by decide +kernel
theorem dL_append_19 : decode cL_append 19 = .ok (.astore 7, 2) := by decide +kernel
theorem dL_append_21 : decode cL_append 21 = .ok (.iconst 1, 1) := by decide +kernel
theorem dL_append_22 : decode cL_append 22 = .ok (.ireturn, 1) := by decide +kernel
theorem dL_append_23 : decode cL_append 23 = .ok (.iconst 0, 1) := by decide +kernel
theorem dL_append_24 : decode cL_append 24 = .ok (.ireturn, 1) := by decide +kernel
theorem dL_run_0 : decode cL_run 0 = .ok (.aload_n 1, 1) := by decide +kernel
theorem dL_run_1 : decode cL_run 1 = .ok (.iconst 0, 1) := by decide +kernel
theorem dL_run_2 : decode cL_run 2 = .ok (.aload_n 0, 1) := by decide +kernel
theorem dL_run_3 : decode cL_run 3 = .ok (.invokevirtual 15, 3) := by decide +kernel
theorem dL_run_6 : decode cL_run 6 = .ok (.i2l, 1) := by decide +kernel
theorem dL_run_7 : decode cL_run 7 = .ok (.lastore, 1) := by decide +kernel
theorem dL_run_8 : decode cL_run 8 = .ok (.goto 9, 3) := by decide +kernel
theorem dL_run_11 : decode cL_run 11 = .ok (.astore_n 2, 1) := by decide +kernel
theorem dL_run_12 : decode cL_run 12 = .ok (.iconst 1, 1) := by decide +kernel
theorem dL_run_13 : decode cL_run 13 = .ok (.ireturn, 1) := by decide +kernel
theorem dL_run_14 : decode cL_run 14 = .ok (.astore_n 2, 1) := by decide +kernel
theorem dL_run_15 : decode cL_run 15 = .ok (.iconst 2, 1) := by decide +kernel
theorem dL_run_16 : decode cL_run 16 = .ok (.ireturn, 1) := by decide +kernel
theorem dL_run_17 : decode cL_run 17 = .ok (.iconst 0, 1) := by decide +kernel
theorem dL_run_18 : decode cL_run 18 = .ok (.ireturn, 1) := by decide +kernel
theorem dL_refused_0 : decode cL_refused 0 = .ok (.aload_n 2, 1) := by decide +kernel
theorem dL_refused_1 : decode cL_refused 1 = .ok (.iconst 0, 1) := by decide +kernel
theorem dL_refused_2 : decode cL_refused 2 = .ok (.aload_n 0, 1) := by decide +kernel
theorem dL_refused_3 : decode cL_refused 3 = .ok (.iload_n 1, 1) := by decide +kernel
theorem dL_refused_4 : decode cL_refused 4 = .ok (.invokevirtual 23, 3) := by decide +kernel
theorem dL_refused_7 : decode cL_refused 7 = .ok (.i2l, 1) := by decide +kernel
theorem dL_refused_8 : decode cL_refused 8 = .ok (.lastore, 1) := by decide +kernel
theorem dL_refused_9 : decode cL_refused 9 = .ok (.goto 6, 3) := by decide +kernel
theorem dL_refused_12 : decode cL_refused 12 = .ok (.astore_n 3, 1) := by decide +kernel
theorem dL_refused_13 : decode cL_refused 13 = .ok (.iconst 1, 1) := by decide +kernel
theorem dL_refused_14 : decode cL_refused 14 = .ok (.ireturn, 1) := by decide +kernel
theorem dL_refused_15 : decode cL_refused 15 = .ok (.iconst 0, 1) := by decide +kernel
theorem dL_refused_16 : decode cL_refused 16 = .ok (.ireturn, 1) := by decide +kernel
theorem dL_ringAt_0 : decode cL_ringAt 0 = .ok (.aload_n 2, 1) := by decide +kernel
theorem dL_ringAt_1 : decode cL_ringAt 1 = .ok (.iconst 0, 1) := by decide +kernel
theorem dL_ringAt_2 : decode cL_ringAt 2 = .ok (.aload_n 0, 1) := by decide +kernel
theorem dL_ringAt_3 : decode cL_ringAt 3 = .ok (.iload_n 1, 1) := by decide +kernel
theorem dL_ringAt_4 : decode cL_ringAt 4 = .ok (.invokevirtual 27, 3) := by decide +kernel
theorem dL_ringAt_7 : decode cL_ringAt 7 = .ok (.i2l, 1) := by decide +kernel
theorem dL_ringAt_8 : decode cL_ringAt 8 = .ok (.lastore, 1) := by decide +kernel
theorem dL_ringAt_9 : decode cL_ringAt 9 = .ok (.goto 6, 3) := by decide +kernel
theorem dL_ringAt_12 : decode cL_ringAt 12 = .ok (.astore_n 3, 1) := by decide +kernel
theorem dL_ringAt_13 : decode cL_ringAt 13 = .ok (.iconst 1, 1) := by decide +kernel
theorem dL_ringAt_14 : decode cL_ringAt 14 = .ok (.ireturn, 1) := by decide +kernel
theorem dL_ringAt_15 : decode cL_ringAt 15 = .ok (.iconst 0, 1) := by decide +kernel
theorem dL_ringAt_16 : decode cL_ringAt 16 = .ok (.ireturn, 1) := by decide +kernel
theorem dL_digit_0 : decode cL_digit 0 = .ok (.aload_n 3, 1) := by decide +kernel
theorem dL_digit_1 : decode cL_digit 1 = .ok (.iconst 0, 1) := by decide +kernel
theorem dL_digit_2 : decode cL_digit 2 = .ok (.aload_n 0, 1) := by decide +kernel
theorem dL_digit_3 : decode cL_digit 3 = .ok (.iload_n 1, 1) := by decide +kernel
theorem dL_digit_4 : decode cL_digit 4 = .ok (.iload_n 2, 1) := by decide +kernel
theorem dL_digit_5 : decode cL_digit 5 = .ok (.invokevirtual 32, 3) := by decide +kernel
theorem dL_digit_8 : decode cL_digit 8 = .ok (.i2l, 1) := by decide +kernel
theorem dL_digit_9 : decode cL_digit 9 = .ok (.lastore, 1) := by decide +kernel
theorem dL_digit_10 : decode cL_digit 10 = .ok (.goto 7, 3) := by decide +kernel
theorem dL_digit_13 : decode cL_digit 13 = .ok (.astore 4, 2) := by decide +kernel
theorem dL_digit_15 : decode cL_digit 15 = .ok (.iconst 1, 1) := by decide +kernel
theorem dL_digit_16 : decode cL_digit 16 = .ok (.ireturn, 1) := by decide +kernel
theorem dL_digit_17 : decode cL_digit 17 = .ok (.iconst 0, 1) := by decide +kernel
theorem dL_digit_18 : decode cL_digit 18 = .ok (.ireturn, 1) := by decide +kernel
theorem dL_writtenAt_0 : decode cL_writtenAt 0 = .ok (.aload_n 2, 1) := by decide +kernel
theorem dL_writtenAt_1 : decode cL_writtenAt 1 = .ok (.iconst 0, 1) := by decide +kernel
theorem dL_writtenAt_2 : decode cL_writtenAt 2 = .ok (.aload_n 0, 1) := by decide +kernel
theorem dL_writtenAt_3 : decode cL_writtenAt 3 = .ok (.iload_n 1, 1) := by decide +kernel
theorem dL_writtenAt_4 : decode cL_writtenAt 4 = .ok (.invokevirtual 36, 3) := by decide +kernel
theorem dL_writtenAt_7 : decode cL_writtenAt 7 = .ok (.i2l, 1) := by decide +kernel
theorem dL_writtenAt_8 : decode cL_writtenAt 8 = .ok (.lastore, 1) := by decide +kernel
theorem dL_writtenAt_9 : decode cL_writtenAt 9 = .ok (.goto 6, 3) := by decide +kernel
theorem dL_writtenAt_12 : decode cL_writtenAt 12 = .ok (.astore_n 3, 1) := by decide +kernel
theorem dL_writtenAt_13 : decode cL_writtenAt 13 = .ok (.iconst 1, 1) := by decide +kernel
theorem dL_writtenAt_14 : decode cL_writtenAt 14 = .ok (.ireturn, 1) := by decide +kernel
theorem dL_writtenAt_15 : decode cL_writtenAt 15 = .ok (.iconst 0, 1) := by decide +kernel
theorem dL_writtenAt_16 : decode cL_writtenAt 16 = .ok (.ireturn, 1) := by decide +kernel
theorem dL_keep_0 : decode cL_keep 0 = .ok (.aload_n 2, 1) := by decide +kernel
theorem dL_keep_1 : decode cL_keep 1 = .ok (.iconst 0, 1) := by decide +kernel
theorem dL_keep_2 : decode cL_keep 2 = .ok (.aload_n 0, 1) := by decide +kernel
theorem dL_keep_3 : decode cL_keep 3 = .ok (.iload_n 1, 1) := by decide +kernel
theorem dL_keep_4 : decode cL_keep 4 = .ok (.invokevirtual 40, 3) := by decide +kernel
theorem dL_keep_7 : decode cL_keep 7 = .ok (.i2l, 1) := by decide +kernel
theorem dL_keep_8 : decode cL_keep 8 = .ok (.lastore, 1) := by decide +kernel
theorem dL_keep_9 : decode cL_keep 9 = .ok (.goto 6, 3) := by decide +kernel
theorem dL_keep_12 : decode cL_keep 12 = .ok (.astore_n 3, 1) := by decide +kernel
theorem dL_keep_13 : decode cL_keep 13 = .ok (.iconst 1, 1) := by decide +kernel
theorem dL_keep_14 : decode cL_keep 14 = .ok (.ireturn, 1) := by decide +kernel
theorem dL_keep_15 : decode cL_keep 15 = .ok (.iconst 0, 1) := by decide +kernel
theorem dL_keep_16 : decode cL_keep 16 = .ok (.ireturn, 1) := by decide +kernel
theorem dL_take_0 : decode cL_take 0 = .ok (.aload_n 2, 1) := by decide +kernel
theorem dL_take_1 : decode cL_take 1 = .ok (.iconst 0, 1) := by decide +kernel
theorem dL_take_2 : decode cL_take 2 = .ok (.aload_n 0, 1) := by decide +kernel
theorem dL_take_3 : decode cL_take 3 = .ok (.iload_n 1, 1) := by decide +kernel
theorem dL_take_4 : decode cL_take 4 = .ok (.invokevirtual 43, 3) := by decide +kernel
theorem dL_take_7 : decode cL_take 7 = .ok (.i2l, 1) := by decide +kernel
theorem dL_take_8 : decode cL_take 8 = .ok (.lastore, 1) := by decide +kernel
theorem dL_take_9 : decode cL_take 9 = .ok (.goto 6, 3) := by decide +kernel
theorem dL_take_12 : decode cL_take 12 = .ok (.astore_n 3, 1) := by decide +kernel
theorem dL_take_13 : decode cL_take 13 = .ok (.iconst 1, 1) := by decide +kernel
theorem dL_take_14 : decode cL_take 14 = .ok (.ireturn, 1) := by decide +kernel
theorem dL_take_15 : decode cL_take 15 = .ok (.iconst 0, 1) := by decide +kernel
theorem dL_take_16 : decode cL_take 16 = .ok (.ireturn, 1) := by decide +kernel
theorem dL_compare_0 : decode cL_compare 0 = .ok (.aload_n 3, 1) := by decide +kernel
theorem dL_compare_1 : decode cL_compare 1 = .ok (.iconst 0, 1) := by decide +kernel
theorem dL_compare_2 : decode cL_compare 2 = .ok (.aload_n 0, 1) := by decide +kernel
theorem dL_compare_3 : decode cL_compare 3 = .ok (.iload_n 1, 1) := by decide +kernel
theorem dL_compare_4 : decode cL_compare 4 = .ok (.iload_n 2, 1) := by decide +kernel
theorem dL_compare_5 : decode cL_compare 5 = .ok (.invokevirtual 46, 3) := by decide +kernel
theorem dL_compare_8 : decode cL_compare 8 = .ok (.i2l, 1) := by decide +kernel
theorem dL_compare_9 : decode cL_compare 9 = .ok (.lastore, 1) := by decide +kernel
theorem dL_compare_10 : decode cL_compare 10 = .ok (.goto 7, 3) := by decide +kernel
theorem dL_compare_13 : decode cL_compare 13 = .ok (.astore 4, 2) := by decide +kernel
theorem dL_compare_15 : decode cL_compare 15 = .ok (.iconst 1, 1) := by decide +kernel
theorem dL_compare_16 : decode cL_compare 16 = .ok (.ireturn, 1) := by decide +kernel
theorem dL_compare_17 : decode cL_compare 17 = .ok (.iconst 0, 1) := by decide +kernel
theorem dL_compare_18 : decode cL_compare 18 = .ok (.ireturn, 1) := by decide +kernel
theorem dL_nameAt_0 : decode cL_nameAt 0 = .ok (.aload_n 2, 1) := by decide +kernel
theorem dL_nameAt_1 : decode cL_nameAt 1 = .ok (.iconst 0, 1) := by decide +kernel
theorem dL_nameAt_2 : decode cL_nameAt 2 = .ok (.aload_n 0, 1) := by decide +kernel
theorem dL_nameAt_3 : decode cL_nameAt 3 = .ok (.iload_n 1, 1) := by decide +kernel
theorem dL_nameAt_4 : decode cL_nameAt 4 = .ok (.invokevirtual 50, 3) := by decide +kernel
theorem dL_nameAt_7 : decode cL_nameAt 7 = .ok (.i2l, 1) := by decide +kernel
theorem dL_nameAt_8 : decode cL_nameAt 8 = .ok (.lastore, 1) := by decide +kernel
theorem dL_nameAt_9 : decode cL_nameAt 9 = .ok (.goto 6, 3) := by decide +kernel
theorem dL_nameAt_12 : decode cL_nameAt 12 = .ok (.astore_n 3, 1) := by decide +kernel
theorem dL_nameAt_13 : decode cL_nameAt 13 = .ok (.iconst 1, 1) := by decide +kernel
theorem dL_nameAt_14 : decode cL_nameAt 14 = .ok (.ireturn, 1) := by decide +kernel
theorem dL_nameAt_15 : decode cL_nameAt 15 = .ok (.iconst 0, 1) := by decide +kernel
theorem dL_nameAt_16 : decode cL_nameAt 16 = .ok (.ireturn, 1) := by decide +kernel
theorem dL_takeName_0 : decode cL_takeName 0 = .ok (.aload_n 2, 1) := by decide +kernel
theorem dL_takeName_1 : decode cL_takeName 1 = .ok (.iconst 0, 1) := by decide +kernel
theorem dL_takeName_2 : decode cL_takeName 2 = .ok (.aload_n 0, 1) := by decide +kernel
theorem dL_takeName_3 : decode cL_takeName 3 = .ok (.iload_n 1, 1) := by decide +kernel
theorem dL_takeName_4 : decode cL_takeName 4 = .ok (.invokevirtual 53, 3) := by decide +kernel
theorem dL_takeName_7 : decode cL_takeName 7 = .ok (.i2l, 1) := by decide +kernel
theorem dL_takeName_8 : decode cL_takeName 8 = .ok (.lastore, 1) := by decide +kernel
theorem dL_takeName_9 : decode cL_takeName 9 = .ok (.goto 6, 3) := by decide +kernel
theorem dL_takeName_12 : decode cL_takeName 12 = .ok (.astore_n 3, 1) := by decide +kernel
theorem dL_takeName_13 : decode cL_takeName 13 = .ok (.iconst 1, 1) := by decide +kernel
theorem dL_takeName_14 : decode cL_takeName 14 = .ok (.ireturn, 1) := by decide +kernel
theorem dL_takeName_15 : decode cL_takeName 15 = .ok (.iconst 0, 1) := by decide +kernel
theorem dL_takeName_16 : decode cL_takeName 16 = .ok (.ireturn, 1) := by decide +kernel
theorem dL_parameters_0 : decode cL_parameters 0 = .ok (.aload_n 2, 1) := by decide +kernel
theorem dL_parameters_1 : decode cL_parameters 1 = .ok (.iconst 0, 1) := by decide +kernel
theorem dL_parameters_2 : decode cL_parameters 2 = .ok (.aload_n 0, 1) := by decide +kernel
theorem dL_parameters_3 : decode cL_parameters 3 = .ok (.iload_n 1, 1) := by decide +kernel
theorem dL_parameters_4 : decode cL_parameters 4 = .ok (.invokevirtual 58, 3) := by decide +kernel
theorem dL_parameters_7 : decode cL_parameters 7 = .ok (.i2l, 1) := by decide +kernel
theorem dL_parameters_8 : decode cL_parameters 8 = .ok (.lastore, 1) := by decide +kernel
theorem dL_parameters_9 : decode cL_parameters 9 = .ok (.goto 6, 3) := by decide +kernel
theorem dL_parameters_12 : decode cL_parameters 12 = .ok (.astore_n 3, 1) := by decide +kernel
theorem dL_parameters_13 : decode cL_parameters 13 = .ok (.iconst 1, 1) := by decide +kernel
theorem dL_parameters_14 : decode cL_parameters 14 = .ok (.ireturn, 1) := by decide +kernel
theorem dL_parameters_15 : decode cL_parameters 15 = .ok (.iconst 0, 1) := by decide +kernel
theorem dL_parameters_16 : decode cL_parameters 16 = .ok (.ireturn, 1) := by decide +kernel
theorem dL_drop_0 : decode cL_drop 0 = .ok (.aload_n 3, 1) := by decide +kernel
theorem dL_drop_1 : decode cL_drop 1 = .ok (.iconst 0, 1) := by decide +kernel
theorem dL_drop_2 : decode cL_drop 2 = .ok (.aload_n 0, 1) := by decide +kernel
theorem dL_drop_3 : decode cL_drop 3 = .ok (.iload_n 1, 1) := by decide +kernel
theorem dL_drop_4 : decode cL_drop 4 = .ok (.iload_n 2, 1) := by decide +kernel
theorem dL_drop_5 : decode cL_drop 5 = .ok (.invokevirtual 61, 3) := by decide +kernel
theorem dL_drop_8 : decode cL_drop 8 = .ok (.i2l, 1) := by decide +kernel
theorem dL_drop_9 : decode cL_drop 9 = .ok (.lastore, 1) := by decide +kernel
theorem dL_drop_10 : decode cL_drop 10 = .ok (.goto 11, 3) := by decide +kernel
theorem dL_drop_13 : decode cL_drop 13 = .ok (.astore 4, 2) := by decide +kernel
theorem dL_drop_15 : decode cL_drop 15 = .ok (.iconst 1, 1) := by decide +kernel
theorem dL_drop_16 : decode cL_drop 16 = .ok (.ireturn, 1) := by decide +kernel
theorem dL_drop_17 : decode cL_drop 17 = .ok (.astore 4, 2) := by decide +kernel
theorem dL_drop_19 : decode cL_drop 19 = .ok (.iconst 2, 1) := by decide +kernel
theorem dL_drop_20 : decode cL_drop 20 = .ok (.ireturn, 1) := by decide +kernel
theorem dL_drop_21 : decode cL_drop 21 = .ok (.iconst 0, 1) := by decide +kernel
theorem dL_drop_22 : decode cL_drop 22 = .ok (.ireturn, 1) := by decide +kernel
theorem dL_stepAt_0 : decode cL_stepAt 0 = .ok (.aload_n 2, 1) := by decide +kernel
theorem dL_stepAt_1 : decode cL_stepAt 1 = .ok (.iconst 0, 1) := by decide +kernel
theorem dL_stepAt_2 : decode cL_stepAt 2 = .ok (.aload_n 0, 1) := by decide +kernel
theorem dL_stepAt_3 : decode cL_stepAt 3 = .ok (.iload_n 1, 1) := by decide +kernel
theorem dL_stepAt_4 : decode cL_stepAt 4 = .ok (.invokevirtual 65, 3) := by decide +kernel
theorem dL_stepAt_7 : decode cL_stepAt 7 = .ok (.i2l, 1) := by decide +kernel
theorem dL_stepAt_8 : decode cL_stepAt 8 = .ok (.lastore, 1) := by decide +kernel
theorem dL_stepAt_9 : decode cL_stepAt 9 = .ok (.goto 6, 3) := by decide +kernel
theorem dL_stepAt_12 : decode cL_stepAt 12 = .ok (.astore_n 3, 1) := by decide +kernel
theorem dL_stepAt_13 : decode cL_stepAt 13 = .ok (.iconst 1, 1) := by decide +kernel
theorem dL_stepAt_14 : decode cL_stepAt 14 = .ok (.ireturn, 1) := by decide +kernel
theorem dL_stepAt_15 : decode cL_stepAt 15 = .ok (.iconst 0, 1) := by decide +kernel
theorem dL_stepAt_16 : decode cL_stepAt 16 = .ok (.ireturn, 1) := by decide +kernel
theorem dL_takeStep_0 : decode cL_takeStep 0 = .ok (.aload_n 2, 1) := by decide +kernel
theorem dL_takeStep_1 : decode cL_takeStep 1 = .ok (.iconst 0, 1) := by decide +kernel
theorem dL_takeStep_2 : decode cL_takeStep 2 = .ok (.aload_n 0, 1) := by decide +kernel
theorem dL_takeStep_3 : decode cL_takeStep 3 = .ok (.iload_n 1, 1) := by decide +kernel
theorem dL_takeStep_4 : decode cL_takeStep 4 = .ok (.invokevirtual 68, 3) := by decide +kernel
theorem dL_takeStep_7 : decode cL_takeStep 7 = .ok (.i2l, 1) := by decide +kernel
theorem dL_takeStep_8 : decode cL_takeStep 8 = .ok (.lastore, 1) := by decide +kernel
theorem dL_takeStep_9 : decode cL_takeStep 9 = .ok (.goto 6, 3) := by decide +kernel
theorem dL_takeStep_12 : decode cL_takeStep 12 = .ok (.astore_n 3, 1) := by decide +kernel
theorem dL_takeStep_13 : decode cL_takeStep 13 = .ok (.iconst 1, 1) := by decide +kernel
theorem dL_takeStep_14 : decode cL_takeStep 14 = .ok (.ireturn, 1) := by decide +kernel
theorem dL_takeStep_15 : decode cL_takeStep 15 = .ok (.iconst 0, 1) := by decide +kernel
theorem dL_takeStep_16 : decode cL_takeStep 16 = .ok (.ireturn, 1) := by decide +kernel
theorem dL_decimal_0 : decode cL_decimal 0 = .ok (.aload_n 2, 1) := by decide +kernel
theorem dL_decimal_1 : decode cL_decimal 1 = .ok (.iconst 0, 1) := by decide +kernel
theorem dL_decimal_2 : decode cL_decimal 2 = .ok (.aload_n 0, 1) := by decide +kernel
theorem dL_decimal_3 : decode cL_decimal 3 = .ok (.iload_n 1, 1) := by decide +kernel
theorem dL_decimal_4 : decode cL_decimal 4 = .ok (.invokevirtual 71, 3) := by decide +kernel
theorem dL_decimal_7 : decode cL_decimal 7 = .ok (.i2l, 1) := by decide +kernel
theorem dL_decimal_8 : decode cL_decimal 8 = .ok (.lastore, 1) := by decide +kernel
theorem dL_decimal_9 : decode cL_decimal 9 = .ok (.goto 6, 3) := by decide +kernel
theorem dL_decimal_12 : decode cL_decimal 12 = .ok (.astore_n 3, 1) := by decide +kernel
theorem dL_decimal_13 : decode cL_decimal 13 = .ok (.iconst 1, 1) := by decide +kernel
theorem dL_decimal_14 : decode cL_decimal 14 = .ok (.ireturn, 1) := by decide +kernel
theorem dL_decimal_15 : decode cL_decimal 15 = .ok (.iconst 0, 1) := by decide +kernel
theorem dL_decimal_16 : decode cL_decimal 16 = .ok (.ireturn, 1) := by decide +kernel
theorem dL_takeContinued_0 : decode cL_takeContinued 0 = .ok (.aload_n 2, 1) := by decide +kernel
theorem dL_takeContinued_1 : decode cL_takeContinued 1 = .ok (.iconst 0, 1) := by decide +kernel
theorem dL_takeContinued_2 : decode cL_takeContinued 2 = .ok (.aload_n 0, 1) := by decide +kernel
theorem dL_takeContinued_3 : decode cL_takeContinued 3 = .ok (.iload_n 1, 1) := by decide +kernel
theorem dL_takeContinued_4 : decode cL_takeContinued 4 = .ok (.invokevirtual 74, 3) := by decide +kernel
theorem dL_takeContinued_7 : decode cL_takeContinued 7 = .ok (.i2l, 1) := by decide +kernel
theorem dL_takeContinued_8 : decode cL_takeContinued 8 = .ok (.lastore, 1) := by decide +kernel
theorem dL_takeContinued_9 : decode cL_takeContinued 9 = .ok (.goto 6, 3) := by decide +kernel
theorem dL_takeContinued_12 : decode cL_takeContinued 12 = .ok (.astore_n 3, 1) := by decide +kernel
theorem dL_takeContinued_13 : decode cL_takeContinued 13 = .ok (.iconst 1, 1) := by decide +kernel
theorem dL_takeContinued_14 : decode cL_takeContinued 14 = .ok (.ireturn, 1) := by decide +kernel
theorem dL_takeContinued_15 : decode cL_takeContinued 15 = .ok (.iconst 0, 1) := by decide +kernel
theorem dL_takeContinued_16 : decode cL_takeContinued 16 = .ok (.ireturn, 1) := by decide +kernel
theorem dL_takeBest_0 : decode cL_takeBest 0 = .ok (.aload_n 2, 1) := by decide +kernel
theorem dL_takeBest_1 : decode cL_takeBest 1 = .ok (.iconst 0, 1) := by decide +kernel
theorem dL_takeBest_2 : decode cL_takeBest 2 = .ok (.aload_n 0, 1) := by decide +kernel
theorem dL_takeBest_3 : decode cL_takeBest 3 = .ok (.iload_n 1, 1) := by decide +kernel
theorem dL_takeBest_4 : decode cL_takeBest 4 = .ok (.invokevirtual 77, 3) := by decide +kernel
theorem dL_takeBest_7 : decode cL_takeBest 7 = .ok (.i2l, 1) := by decide +kernel
theorem dL_takeBest_8 : decode cL_takeBest 8 = .ok (.lastore, 1) := by decide +kernel
theorem dL_takeBest_9 : decode cL_takeBest 9 = .ok (.goto 6, 3) := by decide +kernel
theorem dL_takeBest_12 : decode cL_takeBest 12 = .ok (.astore_n 3, 1) := by decide +kernel
theorem dL_takeBest_13 : decode cL_takeBest 13 = .ok (.iconst 1, 1) := by decide +kernel
theorem dL_takeBest_14 : decode cL_takeBest 14 = .ok (.ireturn, 1) := by decide +kernel
theorem dL_takeBest_15 : decode cL_takeBest 15 = .ok (.iconst 0, 1) := by decide +kernel
theorem dL_takeBest_16 : decode cL_takeBest 16 = .ok (.ireturn, 1) := by decide +kernel
theorem dL_takeUnit_0 : decode cL_takeUnit 0 = .ok (.aload_n 2, 1) := by decide +kernel
theorem dL_takeUnit_1 : decode cL_takeUnit 1 = .ok (.iconst 0, 1) := by decide +kernel
theorem dL_takeUnit_2 : decode cL_takeUnit 2 = .ok (.aload_n 0, 1) := by decide +kernel
theorem dL_takeUnit_3 : decode cL_takeUnit 3 = .ok (.iload_n 1, 1) := by decide +kernel
theorem dL_takeUnit_4 : decode cL_takeUnit 4 = .ok (.invokevirtual 80, 3) := by decide +kernel
theorem dL_takeUnit_7 : decode cL_takeUnit 7 = .ok (.i2l, 1) := by decide +kernel
theorem dL_takeUnit_8 : decode cL_takeUnit 8 = .ok (.lastore, 1) := by decide +kernel
theorem dL_takeUnit_9 : decode cL_takeUnit 9 = .ok (.goto 6, 3) := by decide +kernel
theorem dL_takeUnit_12 : decode cL_takeUnit 12 = .ok (.astore_n 3, 1) := by decide +kernel
theorem dL_takeUnit_13 : decode cL_takeUnit 13 = .ok (.iconst 1, 1) := by decide +kernel
theorem dL_takeUnit_14 : decode cL_takeUnit 14 = .ok (.ireturn, 1) := by decide +kernel
theorem dL_takeUnit_15 : decode cL_takeUnit 15 = .ok (.iconst 0, 1) := by decide +kernel
theorem dL_takeUnit_16 : decode cL_takeUnit 16 = .ok (.ireturn, 1) := by decide +kernel
theorem dL_put_0 : decode cL_put 0 = .ok (.aload_n 2, 1) := by decide +kernel
theorem dL_put_1 : decode cL_put 1 = .ok (.iconst 0, 1) := by decide +kernel
theorem dL_put_2 : decode cL_put 2 = .ok (.aload_n 0, 1) := by decide +kernel
theorem dL_put_3 : decode cL_put 3 = .ok (.iload_n 1, 1) := by decide +kernel
theorem dL_put_4 : decode cL_put 4 = .ok (.invokevirtual 83, 3) := by decide +kernel
theorem dL_put_7 : decode cL_put 7 = .ok (.i2l, 1) := by decide +kernel
theorem dL_put_8 : decode cL_put 8 = .ok (.lastore, 1) := by decide +kernel
theorem dL_put_9 : decode cL_put 9 = .ok (.goto 9, 3) := by decide +kernel
theorem dL_put_12 : decode cL_put 12 = .ok (.astore_n 3, 1) := by decide +kernel
theorem dL_put_13 : decode cL_put 13 = .ok (.iconst 1, 1) := by decide +kernel
theorem dL_put_14 : decode cL_put 14 = .ok (.ireturn, 1) := by decide +kernel
theorem dL_put_15 : decode cL_put 15 = .ok (.astore_n 3, 1) := by decide +kernel
theorem dL_put_16 : decode cL_put 16 = .ok (.iconst 2, 1) := by decide +kernel
theorem dL_put_17 : decode cL_put 17 = .ok (.ireturn, 1) := by decide +kernel
theorem dL_put_18 : decode cL_put 18 = .ok (.iconst 0, 1) := by decide +kernel
theorem dL_put_19 : decode cL_put 19 = .ok (.ireturn, 1) := by decide +kernel
theorem dL_out_0 : decode cL_out 0 = .ok (.aload_n 2, 1) := by decide +kernel
theorem dL_out_1 : decode cL_out 1 = .ok (.iconst 0, 1) := by decide +kernel
theorem dL_out_2 : decode cL_out 2 = .ok (.aload_n 0, 1) := by decide +kernel
theorem dL_out_3 : decode cL_out 3 = .ok (.iload_n 1, 1) := by decide +kernel
theorem dL_out_4 : decode cL_out 4 = .ok (.invokevirtual 86, 3) := by decide +kernel
theorem dL_out_7 : decode cL_out 7 = .ok (.i2l, 1) := by decide +kernel
theorem dL_out_8 : decode cL_out 8 = .ok (.lastore, 1) := by decide +kernel
theorem dL_out_9 : decode cL_out 9 = .ok (.goto 9, 3) := by decide +kernel
theorem dL_out_12 : decode cL_out 12 = .ok (.astore_n 3, 1) := by decide +kernel
theorem dL_out_13 : decode cL_out 13 = .ok (.iconst 1, 1) := by decide +kernel
theorem dL_out_14 : decode cL_out 14 = .ok (.ireturn, 1) := by decide +kernel
theorem dL_out_15 : decode cL_out 15 = .ok (.astore_n 3, 1) := by decide +kernel
theorem dL_out_16 : decode cL_out 16 = .ok (.iconst 2, 1) := by decide +kernel
theorem dL_out_17 : decode cL_out 17 = .ok (.ireturn, 1) := by decide +kernel
theorem dL_out_18 : decode cL_out 18 = .ok (.iconst 0, 1) := by decide +kernel
theorem dL_out_19 : decode cL_out 19 = .ok (.ireturn, 1) := by decide +kernel
theorem dL_empty_0 : decode cL_empty 0 = .ok (.aload_n 2, 1) := by decide +kernel
theorem dL_empty_1 : decode cL_empty 1 = .ok (.iconst 0, 1) := by decide +kernel
theorem dL_empty_2 : decode cL_empty 2 = .ok (.aload_n 0, 1) := by decide +kernel
theorem dL_empty_3 : decode cL_empty 3 = .ok (.iload_n 1, 1) := by decide +kernel
theorem dL_empty_4 : decode cL_empty 4 = .ok (.invokevirtual 89, 3) := by decide +kernel
theorem dL_empty_7 : decode cL_empty 7 = .ok (.i2l, 1) := by decide +kernel
theorem dL_empty_8 : decode cL_empty 8 = .ok (.lastore, 1) := by decide +kernel
theorem dL_empty_9 : decode cL_empty 9 = .ok (.goto 6, 3) := by decide +kernel
theorem dL_empty_12 : decode cL_empty 12 = .ok (.astore_n 3, 1) := by decide +kernel
theorem dL_empty_13 : decode cL_empty 13 = .ok (.iconst 1, 1) := by decide +kernel
theorem dL_empty_14 : decode cL_empty 14 = .ok (.ireturn, 1) := by decide +kernel
theorem dL_empty_15 : decode cL_empty 15 = .ok (.iconst 0, 1) := by decide +kernel
theorem dL_empty_16 : decode cL_empty 16 = .ok (.ireturn, 1) := by decide +kernel
theorem dL_count_0 : decode cL_count 0 = .ok (.aload_n 3, 1) := by decide +kernel
theorem dL_count_1 : decode cL_count 1 = .ok (.iconst 0, 1) := by decide +kernel
theorem dL_count_2 : decode cL_count 2 = .ok (.aload_n 0, 1) := by decide +kernel
theorem dL_count_3 : decode cL_count 3 = .ok (.iload_n 1, 1) := by decide +kernel
theorem dL_count_4 : decode cL_count 4 = .ok (.iload_n 2, 1) := by decide +kernel
theorem dL_count_5 : decode cL_count 5 = .ok (.invokevirtual 92, 3) := by decide +kernel
theorem dL_count_8 : decode cL_count 8 = .ok (.i2l, 1) := by decide +kernel
theorem dL_count_9 : decode cL_count 9 = .ok (.lastore, 1) := by decide +kernel
theorem dL_count_10 : decode cL_count 10 = .ok (.goto 7, 3) := by decide +kernel
theorem dL_count_13 : decode cL_count 13 = .ok (.astore 4, 2) := by decide +kernel
theorem dL_count_15 : decode cL_count 15 = .ok (.iconst 1, 1) := by decide +kernel
theorem dL_count_16 : decode cL_count 16 = .ok (.ireturn, 1) := by decide +kernel
theorem dL_count_17 : decode cL_count 17 = .ok (.iconst 0, 1) := by decide +kernel
theorem dL_count_18 : decode cL_count 18 = .ok (.ireturn, 1) := by decide +kernel
theorem dL_takeLeast_0 : decode cL_takeLeast 0 = .ok (.aload_n 3, 1) := by decide +kernel
theorem dL_takeLeast_1 : decode cL_takeLeast 1 = .ok (.iconst 0, 1) := by decide +kernel
theorem dL_takeLeast_2 : decode cL_takeLeast 2 = .ok (.aload_n 0, 1) := by decide +kernel
theorem dL_takeLeast_3 : decode cL_takeLeast 3 = .ok (.iload_n 1, 1) := by decide +kernel
theorem dL_takeLeast_4 : decode cL_takeLeast 4 = .ok (.iload_n 2, 1) := by decide +kernel
theorem dL_takeLeast_5 : decode cL_takeLeast 5 = .ok (.invokevirtual 95, 3) := by decide +kernel
theorem dL_takeLeast_8 : decode cL_takeLeast 8 = .ok (.i2l, 1) := by decide +kernel
theorem dL_takeLeast_9 : decode cL_takeLeast 9 = .ok (.lastore, 1) := by decide +kernel
theorem dL_takeLeast_10 : decode cL_takeLeast 10 = .ok (.goto 11, 3) := by decide +kernel
theorem dL_takeLeast_13 : decode cL_takeLeast 13 = .ok (.astore 4, 2) := by decide +kernel
theorem dL_takeLeast_15 : decode cL_takeLeast 15 = .ok (.iconst 1, 1) := by decide +kernel
theorem dL_takeLeast_16 : decode cL_takeLeast 16 = .ok (.ireturn, 1) := by decide +kernel
theorem dL_takeLeast_17 : decode cL_takeLeast 17 = .ok (.astore 4, 2) := by decide +kernel
theorem dL_takeLeast_19 : decode cL_takeLeast 19 = .ok (.iconst 2, 1) := by decide +kernel
theorem dL_takeLeast_20 : decode cL_takeLeast 20 = .ok (.ireturn, 1) := by decide +kernel
theorem dL_takeLeast_21 : decode cL_takeLeast 21 = .ok (.iconst 0, 1) := by decide +kernel
theorem dL_takeLeast_22 : decode cL_takeLeast 22 = .ok (.ireturn, 1) := by decide +kernel
theorem dL_takeNext_0 : decode cL_takeNext 0 = .ok (.aload_n 2, 1) := by decide +kernel
theorem dL_takeNext_1 : decode cL_takeNext 1 = .ok (.iconst 0, 1) := by decide +kernel
theorem dL_takeNext_2 : decode cL_takeNext 2 = .ok (.aload_n 0, 1) := by decide +kernel
theorem dL_takeNext_3 : decode cL_takeNext 3 = .ok (.iload_n 1, 1) := by decide +kernel
theorem dL_takeNext_4 : decode cL_takeNext 4 = .ok (.invokevirtual 98, 3) := by decide +kernel
theorem dL_takeNext_7 : decode cL_takeNext 7 = .ok (.i2l, 1) := by decide +kernel
theorem dL_takeNext_8 : decode cL_takeNext 8 = .ok (.lastore, 1) := by decide +kernel
theorem dL_takeNext_9 : decode cL_takeNext 9 = .ok (.goto 9, 3) := by decide +kernel
theorem dL_takeNext_12 : decode cL_takeNext 12 = .ok (.astore_n 3, 1) := by decide +kernel
theorem dL_takeNext_13 : decode cL_takeNext 13 = .ok (.iconst 1, 1) := by decide +kernel
theorem dL_takeNext_14 : decode cL_takeNext 14 = .ok (.ireturn, 1) := by decide +kernel
theorem dL_takeNext_15 : decode cL_takeNext 15 = .ok (.astore_n 3, 1) := by decide +kernel
theorem dL_takeNext_16 : decode cL_takeNext 16 = .ok (.iconst 2, 1) := by decide +kernel
theorem dL_takeNext_17 : decode cL_takeNext 17 = .ok (.ireturn, 1) := by decide +kernel
theorem dL_takeNext_18 : decode cL_takeNext 18 = .ok (.iconst 0, 1) := by decide +kernel
theorem dL_takeNext_19 : decode cL_takeNext 19 = .ok (.ireturn, 1) := by decide +kernel
theorem dL_takeAll_0 : decode cL_takeAll 0 = .ok (.aload_n 3, 1) := by decide +kernel
theorem dL_takeAll_1 : decode cL_takeAll 1 = .ok (.iconst 0, 1) := by decide +kernel
theorem dL_takeAll_2 : decode cL_takeAll 2 = .ok (.aload_n 0, 1) := by decide +kernel
theorem dL_takeAll_3 : decode cL_takeAll 3 = .ok (.iload_n 1, 1) := by decide +kernel
theorem dL_takeAll_4 : decode cL_takeAll 4 = .ok (.iload_n 2, 1) := by decide +kernel
theorem dL_takeAll_5 : decode cL_takeAll 5 = .ok (.invokevirtual 101, 3) := by decide +kernel
theorem dL_takeAll_8 : decode cL_takeAll 8 = .ok (.i2l, 1) := by decide +kernel
theorem dL_takeAll_9 : decode cL_takeAll 9 = .ok (.lastore, 1) := by decide +kernel
theorem dL_takeAll_10 : decode cL_takeAll 10 = .ok (.goto 15, 3) := by decide +kernel
theorem dL_takeAll_13 : decode cL_takeAll 13 = .ok (.astore 4, 2) := by decide +kernel
theorem dL_takeAll_15 : decode cL_takeAll 15 = .ok (.iconst 1, 1) := by decide +kernel
theorem dL_takeAll_16 : decode cL_takeAll 16 = .ok (.ireturn, 1) := by decide +kernel
theorem dL_takeAll_17 : decode cL_takeAll 17 = .ok (.astore 4, 2) := by decide +kernel
theorem dL_takeAll_19 : decode cL_takeAll 19 = .ok (.iconst 2, 1) := by decide +kernel
theorem dL_takeAll_20 : decode cL_takeAll 20 = .ok (.ireturn, 1) := by decide +kernel
theorem dL_takeAll_21 : decode cL_takeAll 21 = .ok (.astore 4, 2) := by decide +kernel
theorem dL_takeAll_23 : decode cL_takeAll 23 = .ok (.iconst 3, 1) := by decide +kernel
theorem dL_takeAll_24 : decode cL_takeAll 24 = .ok (.ireturn, 1) := by decide +kernel
theorem dL_takeAll_25 : decode cL_takeAll 25 = .ok (.iconst 0, 1) := by decide +kernel
theorem dL_takeAll_26 : decode cL_takeAll 26 = .ok (.ireturn, 1) := by decide +kernel
theorem dL_law_0 : decode cL_law 0 = .ok (.new 8, 3) := by decide +kernel
theorem dL_law_3 : decode cL_law 3 = .ok (.dup, 1) := by decide +kernel
theorem dL_law_4 : decode cL_law 4 = .ok (.invokespecial 104, 3) := by decide +kernel
theorem dL_law_7 : decode cL_law 7 = .ok (.astore_n 1, 1) := by decide +kernel
theorem dL_law_8 : decode cL_law 8 = .ok (.new 105, 3) := by decide +kernel
theorem dL_law_11 : decode cL_law 11 = .ok (.dup, 1) := by decide +kernel
theorem dL_law_12 : decode cL_law 12 = .ok (.invokespecial 107, 3) := by decide +kernel
theorem dL_law_15 : decode cL_law 15 = .ok (.astore_n 2, 1) := by decide +kernel
theorem dL_law_16 : decode cL_law 16 = .ok (.iconst 1, 1) := by decide +kernel
theorem dL_law_17 : decode cL_law 17 = .ok (.newarray .long, 2) := by decide +kernel
theorem dL_law_19 : decode cL_law 19 = .ok (.astore_n 3, 1) := by decide +kernel
theorem dL_law_20 : decode cL_law 20 = .ok (.iconst 0, 1) := by decide +kernel
theorem dL_law_21 : decode cL_law 21 = .ok (.istore 4, 2) := by decide +kernel
theorem dL_law_23 : decode cL_law 23 = .ok (.iload 4, 2) := by decide +kernel
theorem dL_law_25 : decode cL_law 25 = .ok (.aload_n 0, 1) := by decide +kernel
theorem dL_law_26 : decode cL_law 26 = .ok (.arraylength, 1) := by decide +kernel
theorem dL_law_27 : decode cL_law 27 = .ok (.bipush 6, 2) := by decide +kernel
theorem dL_law_29 : decode cL_law 29 = .ok (.isub, 1) := by decide +kernel
theorem dL_law_30 : decode cL_law 30 = .ok (.if_icmp .gt 2356, 3) := by decide +kernel
theorem dL_law_33 : decode cL_law 33 = .ok (.aload_n 0, 1) := by decide +kernel
theorem dL_law_34 : decode cL_law 34 = .ok (.iload 4, 2) := by decide +kernel
theorem dL_law_36 : decode cL_law 36 = .ok (.iaload, 1) := by decide +kernel
theorem dL_law_37 : decode cL_law 37 = .ok (.bipush 63, 2) := by decide +kernel
theorem dL_law_39 : decode cL_law 39 = .ok (.iand, 1) := by decide +kernel
theorem dL_law_40 : decode cL_law 40 = .ok (.tableswitch 2340 0 47 #[208, 312, 325, 369, 382, 438, 451, 464, 520, 533, 574, 658, 699, 755, 811, 867, 935, 948, 1004, 1060, 1073, 1129, 1222, 1275, 1359, 1372, 1428, 1484, 1497, 1510, 1523, 1579, 1592, 1648, 1704, 1717, 1773, 1829, 1885, 1941, 2025, 2093, 2149, 2217, 2230, 2243, 2284, 2327], 208) := by decide +kernel
theorem dL_law_248 : decode cL_law 248 = .ok (.aload_n 1, 1) := by decide +kernel
theorem dL_law_249 : decode cL_law 249 = .ok (.aload_n 0, 1) := by decide +kernel
theorem dL_law_250 : decode cL_law 250 = .ok (.iload 4, 2) := by decide +kernel
theorem dL_law_252 : decode cL_law 252 = .ok (.iconst 1, 1) := by decide +kernel
theorem dL_law_253 : decode cL_law 253 = .ok (.iadd, 1) := by decide +kernel
theorem dL_law_254 : decode cL_law 254 = .ok (.iaload, 1) := by decide +kernel
theorem dL_law_255 : decode cL_law 255 = .ok (.aload_n 0, 1) := by decide +kernel
theorem dL_law_256 : decode cL_law 256 = .ok (.iload 4, 2) := by decide +kernel
theorem dL_law_258 : decode cL_law 258 = .ok (.iconst 2, 1) := by decide +kernel
theorem dL_law_259 : decode cL_law 259 = .ok (.iadd, 1) := by decide +kernel
theorem dL_law_260 : decode cL_law 260 = .ok (.iaload, 1) := by decide +kernel
theorem dL_law_261 : decode cL_law 261 = .ok (.aload_n 0, 1) := by decide +kernel
theorem dL_law_262 : decode cL_law 262 = .ok (.iload 4, 2) := by decide +kernel
theorem dL_law_264 : decode cL_law 264 = .ok (.iconst 3, 1) := by decide +kernel
theorem dL_law_265 : decode cL_law 265 = .ok (.iadd, 1) := by decide +kernel
theorem dL_law_266 : decode cL_law 266 = .ok (.iaload, 1) := by decide +kernel
theorem dL_law_267 : decode cL_law 267 = .ok (.aload_n 0, 1) := by decide +kernel
theorem dL_law_268 : decode cL_law 268 = .ok (.iload 4, 2) := by decide +kernel
theorem dL_law_270 : decode cL_law 270 = .ok (.iconst 4, 1) := by decide +kernel
theorem dL_law_271 : decode cL_law 271 = .ok (.iadd, 1) := by decide +kernel
theorem dL_law_272 : decode cL_law 272 = .ok (.iaload, 1) := by decide +kernel
theorem dL_law_273 : decode cL_law 273 = .ok (.aload_n 0, 1) := by decide +kernel
theorem dL_law_274 : decode cL_law 274 = .ok (.iload 4, 2) := by decide +kernel
theorem dL_law_276 : decode cL_law 276 = .ok (.iconst 5, 1) := by decide +kernel
theorem dL_law_277 : decode cL_law 277 = .ok (.iadd, 1) := by decide +kernel
theorem dL_law_278 : decode cL_law 278 = .ok (.iaload, 1) := by decide +kernel
theorem dL_law_279 : decode cL_law 279 = .ok (.aload_n 3, 1) := by decide +kernel
theorem dL_law_280 : decode cL_law 280 = .ok (.invokestatic 108, 3) := by decide +kernel
theorem dL_law_283 : decode cL_law 283 = .ok (.istore 5, 2) := by decide +kernel
theorem dL_law_285 : decode cL_law 285 = .ok (.aload_n 2, 1) := by decide +kernel
theorem dL_law_286 : decode cL_law 286 = .ok (.aload_n 0, 1) := by decide +kernel
theorem dL_law_287 : decode cL_law 287 = .ok (.iload 4, 2) := by decide +kernel
theorem dL_law_289 : decode cL_law 289 = .ok (.iconst 1, 1) := by decide +kernel
theorem dL_law_290 : decode cL_law 290 = .ok (.iadd, 1) := by decide +kernel
theorem dL_law_291 : decode cL_law 291 = .ok (.iaload, 1) := by decide +kernel
theorem dL_law_292 : decode cL_law 292 = .ok (.aload_n 0, 1) := by decide +kernel
theorem dL_law_293 : decode cL_law 293 = .ok (.iload 4, 2) := by decide +kernel
theorem dL_law_295 : decode cL_law 295 = .ok (.iconst 2, 1) := by decide +kernel
theorem dL_law_296 : decode cL_law 296 = .ok (.iadd, 1) := by decide +kernel
theorem dL_law_297 : decode cL_law 297 = .ok (.iaload, 1) := by decide +kernel
theorem dL_law_298 : decode cL_law 298 = .ok (.aload_n 0, 1) := by decide +kernel
theorem dL_law_299 : decode cL_law 299 = .ok (.iload 4, 2) := by decide +kernel
theorem dL_law_301 : decode cL_law 301 = .ok (.iconst 3, 1) := by decide +kernel
theorem dL_law_302 : decode cL_law 302 = .ok (.iadd, 1) := by decide +kernel
theorem dL_law_303 : decode cL_law 303 = .ok (.iaload, 1) := by decide +kernel
theorem dL_law_304 : decode cL_law 304 = .ok (.aload_n 0, 1) := by decide +kernel
theorem dL_law_305 : decode cL_law 305 = .ok (.iload 4, 2) := by decide +kernel
theorem dL_law_307 : decode cL_law 307 = .ok (.iconst 4, 1) := by decide +kernel
theorem dL_law_308 : decode cL_law 308 = .ok (.iadd, 1) := by decide +kernel
theorem dL_law_309 : decode cL_law 309 = .ok (.iaload, 1) := by decide +kernel
theorem dL_law_310 : decode cL_law 310 = .ok (.aload_n 0, 1) := by decide +kernel
theorem dL_law_311 : decode cL_law 311 = .ok (.iload 4, 2) := by decide +kernel
theorem dL_law_313 : decode cL_law 313 = .ok (.iconst 5, 1) := by decide +kernel
theorem dL_law_314 : decode cL_law 314 = .ok (.iadd, 1) := by decide +kernel
theorem dL_law_315 : decode cL_law 315 = .ok (.iaload, 1) := by decide +kernel
theorem dL_law_316 : decode cL_law 316 = .ok (.invokevirtual 113, 3) := by decide +kernel
theorem dL_law_319 : decode cL_law 319 = .ok (.istore 6, 2) := by decide +kernel
theorem dL_law_321 : decode cL_law 321 = .ok (.aload_n 2, 1) := by decide +kernel
theorem dL_law_322 : decode cL_law 322 = .ok (.invokevirtual 114, 3) := by decide +kernel
theorem dL_law_325 : decode cL_law 325 = .ok (.iload 5, 2) := by decide +kernel
theorem dL_law_327 : decode cL_law 327 = .ok (.if_icmp .eq 5, 3) := by decide +kernel
theorem dL_law_330 : decode cL_law 330 = .ok (.iconst 0, 1) := by decide +kernel
theorem dL_law_331 : decode cL_law 331 = .ok (.ireturn, 1) := by decide +kernel
theorem dL_law_332 : decode cL_law 332 = .ok (.iload 5, 2) := by decide +kernel
theorem dL_law_334 : decode cL_law 334 = .ok (.ifCond .ne 15, 3) := by decide +kernel
theorem dL_law_337 : decode cL_law 337 = .ok (.aload_n 3, 1) := by decide +kernel
theorem dL_law_338 : decode cL_law 338 = .ok (.iconst 0, 1) := by decide +kernel
theorem dL_law_339 : decode cL_law 339 = .ok (.laload, 1) := by decide +kernel
theorem dL_law_340 : decode cL_law 340 = .ok (.iload 6, 2) := by decide +kernel
theorem dL_law_342 : decode cL_law 342 = .ok (.i2l, 1) := by decide +kernel
theorem dL_law_343 : decode cL_law 343 = .ok (.lcmp, 1) := by decide +kernel
theorem dL_law_344 : decode cL_law 344 = .ok (.ifCond .eq 5, 3) := by decide +kernel
theorem dL_law_347 : decode cL_law 347 = .ok (.iconst 0, 1) := by decide +kernel
theorem dL_law_348 : decode cL_law 348 = .ok (.ireturn, 1) := by decide +kernel
theorem dL_law_349 : decode cL_law 349 = .ok (.goto 2031, 3) := by decide +kernel
theorem dL_law_352 : decode cL_law 352 = .ok (.aload_n 1, 1) := by decide +kernel
theorem dL_law_353 : decode cL_law 353 = .ok (.invokevirtual 117, 3) := by decide +kernel
theorem dL_law_356 : decode cL_law 356 = .ok (.aload_n 2, 1) := by decide +kernel
theorem dL_law_357 : decode cL_law 357 = .ok (.invokevirtual 120, 3) := by decide +kernel
theorem dL_law_360 : decode cL_law 360 = .ok (.if_icmp .eq 2020, 3) := by decide +kernel
theorem dL_law_363 : decode cL_law 363 = .ok (.iconst 0, 1) := by decide +kernel
theorem dL_law_364 : decode cL_law 364 = .ok (.ireturn, 1) := by decide +kernel
theorem dL_law_365 : decode cL_law 365 = .ok (.aload_n 1, 1) := by decide +kernel
theorem dL_law_366 : decode cL_law 366 = .ok (.aload_n 3, 1) := by decide +kernel
theorem dL_law_367 : decode cL_law 367 = .ok (.invokestatic 121, 3) := by decide +kernel
theorem dL_law_370 : decode cL_law 370 = .ok (.istore 5, 2) := by decide +kernel
theorem dL_law_372 : decode cL_law 372 = .ok (.aload_n 2, 1) := by decide +kernel
theorem dL_law_373 : decode cL_law 373 = .ok (.invokevirtual 124, 3) := by decide +kernel
theorem dL_law_376 : decode cL_law 376 = .ok (.istore 6, 2) := by decide +kernel
theorem dL_law_378 : decode cL_law 378 = .ok (.aload_n 2, 1) := by decide +kernel
theorem dL_law_379 : decode cL_law 379 = .ok (.invokevirtual 114, 3) := by decide +kernel
theorem dL_law_382 : decode cL_law 382 = .ok (.iload 5, 2) := by decide +kernel
theorem dL_law_384 : decode cL_law 384 = .ok (.if_icmp .eq 5, 3) := by decide +kernel
theorem dL_law_387 : decode cL_law 387 = .ok (.iconst 0, 1) := by decide +kernel
theorem dL_law_388 : decode cL_law 388 = .ok (.ireturn, 1) := by decide +kernel
theorem dL_law_389 : decode cL_law 389 = .ok (.iload 5, 2) := by decide +kernel
theorem dL_law_391 : decode cL_law 391 = .ok (.ifCond .ne 15, 3) := by decide +kernel
theorem dL_law_394 : decode cL_law 394 = .ok (.aload_n 3, 1) := by decide +kernel
theorem dL_law_395 : decode cL_law 395 = .ok (.iconst 0, 1) := by decide +kernel
theorem dL_law_396 : decode cL_law 396 = .ok (.laload, 1) := by decide +kernel
theorem dL_law_397 : decode cL_law 397 = .ok (.iload 6, 2) := by decide +kernel
theorem dL_law_399 : decode cL_law 399 = .ok (.i2l, 1) := by decide +kernel
theorem dL_law_400 : decode cL_law 400 = .ok (.lcmp, 1) := by decide +kernel
theorem dL_law_401 : decode cL_law 401 = .ok (.ifCond .eq 5, 3) := by decide +kernel
theorem dL_law_404 : decode cL_law 404 = .ok (.iconst 0, 1) := by decide +kernel
theorem dL_law_405 : decode cL_law 405 = .ok (.ireturn, 1) := by decide +kernel
theorem dL_law_406 : decode cL_law 406 = .ok (.goto 1974, 3) := by decide +kernel
theorem dL_law_409 : decode cL_law 409 = .ok (.aload_n 1, 1) := by decide +kernel
theorem dL_law_410 : decode cL_law 410 = .ok (.invokevirtual 125, 3) := by decide +kernel
theorem dL_law_413 : decode cL_law 413 = .ok (.aload_n 2, 1) := by decide +kernel
theorem dL_law_414 : decode cL_law 414 = .ok (.invokevirtual 128, 3) := by decide +kernel
theorem dL_law_417 : decode cL_law 417 = .ok (.if_icmp .eq 1963, 3) := by decide +kernel
theorem dL_law_420 : decode cL_law 420 = .ok (.iconst 0, 1) := by decide +kernel
theorem dL_law_421 : decode cL_law 421 = .ok (.ireturn, 1) := by decide +kernel
theorem dL_law_422 : decode cL_law 422 = .ok (.aload_n 1, 1) := by decide +kernel
theorem dL_law_423 : decode cL_law 423 = .ok (.aload_n 0, 1) := by decide +kernel
theorem dL_law_424 : decode cL_law 424 = .ok (.iload 4, 2) := by decide +kernel
theorem dL_law_426 : decode cL_law 426 = .ok (.iconst 1, 1) := by decide +kernel
theorem dL_law_427 : decode cL_law 427 = .ok (.iadd, 1) := by decide +kernel
theorem dL_law_428 : decode cL_law 428 = .ok (.iaload, 1) := by decide +kernel
theorem dL_law_429 : decode cL_law 429 = .ok (.aload_n 3, 1) := by decide +kernel
theorem dL_law_430 : decode cL_law 430 = .ok (.invokestatic 129, 3) := by decide +kernel
theorem dL_law_433 : decode cL_law 433 = .ok (.istore 5, 2) := by decide +kernel
theorem dL_law_435 : decode cL_law 435 = .ok (.aload_n 2, 1) := by decide +kernel
theorem dL_law_436 : decode cL_law 436 = .ok (.aload_n 0, 1) := by decide +kernel
theorem dL_law_437 : decode cL_law 437 = .ok (.iload 4, 2) := by decide +kernel
theorem dL_law_439 : decode cL_law 439 = .ok (.iconst 1, 1) := by decide +kernel
theorem dL_law_440 : decode cL_law 440 = .ok (.iadd, 1) := by decide +kernel
theorem dL_law_441 : decode cL_law 441 = .ok (.iaload, 1) := by decide +kernel
theorem dL_law_442 : decode cL_law 442 = .ok (.invokevirtual 132, 3) := by decide +kernel
theorem dL_law_445 : decode cL_law 445 = .ok (.istore 6, 2) := by decide +kernel
theorem dL_law_447 : decode cL_law 447 = .ok (.aload_n 2, 1) := by decide +kernel
theorem dL_law_448 : decode cL_law 448 = .ok (.invokevirtual 114, 3) := by decide +kernel
theorem dL_law_451 : decode cL_law 451 = .ok (.iload 5, 2) := by decide +kernel
theorem dL_law_453 : decode cL_law 453 = .ok (.if_icmp .eq 5, 3) := by decide +kernel
theorem dL_law_456 : decode cL_law 456 = .ok (.iconst 0, 1) := by decide +kernel
theorem dL_law_457 : decode cL_law 457 = .ok (.ireturn, 1) := by decide +kernel
theorem dL_law_458 : decode cL_law 458 = .ok (.iload 5, 2) := by decide +kernel
theorem dL_law_460 : decode cL_law 460 = .ok (.ifCond .ne 15, 3) := by decide +kernel
theorem dL_law_463 : decode cL_law 463 = .ok (.aload_n 3, 1) := by decide +kernel
theorem dL_law_464 : decode cL_law 464 = .ok (.iconst 0, 1) := by decide +kernel
theorem dL_law_465 : decode cL_law 465 = .ok (.laload, 1) := by decide +kernel
theorem dL_law_466 : decode cL_law 466 = .ok (.iload 6, 2) := by decide +kernel
theorem dL_law_468 : decode cL_law 468 = .ok (.i2l, 1) := by decide +kernel
theorem dL_law_469 : decode cL_law 469 = .ok (.lcmp, 1) := by decide +kernel
theorem dL_law_470 : decode cL_law 470 = .ok (.ifCond .eq 5, 3) := by decide +kernel
theorem dL_law_473 : decode cL_law 473 = .ok (.iconst 0, 1) := by decide +kernel
theorem dL_law_474 : decode cL_law 474 = .ok (.ireturn, 1) := by decide +kernel
theorem dL_law_475 : decode cL_law 475 = .ok (.goto 1905, 3) := by decide +kernel
theorem dL_law_478 : decode cL_law 478 = .ok (.aload_n 1, 1) := by decide +kernel
theorem dL_law_479 : decode cL_law 479 = .ok (.invokevirtual 133, 3) := by decide +kernel
theorem dL_law_482 : decode cL_law 482 = .ok (.aload_n 2, 1) := by decide +kernel
theorem dL_law_483 : decode cL_law 483 = .ok (.invokevirtual 136, 3) := by decide +kernel
theorem dL_law_486 : decode cL_law 486 = .ok (.if_icmp .eq 1894, 3) := by decide +kernel
theorem dL_law_489 : decode cL_law 489 = .ok (.iconst 0, 1) := by decide +kernel
theorem dL_law_490 : decode cL_law 490 = .ok (.ireturn, 1) := by decide +kernel
theorem dL_law_491 : decode cL_law 491 = .ok (.aload_n 1, 1) := by decide +kernel
theorem dL_law_492 : decode cL_law 492 = .ok (.invokevirtual 137, 3) := by decide +kernel
theorem dL_law_495 : decode cL_law 495 = .ok (.aload_n 2, 1) := by decide +kernel
theorem dL_law_496 : decode cL_law 496 = .ok (.invokevirtual 140, 3) := by decide +kernel
theorem dL_law_499 : decode cL_law 499 = .ok (.if_icmp .eq 1881, 3) := by decide +kernel
theorem dL_law_502 : decode cL_law 502 = .ok (.iconst 0, 1) := by decide +kernel
theorem dL_law_503 : decode cL_law 503 = .ok (.ireturn, 1) := by decide +kernel
theorem dL_law_504 : decode cL_law 504 = .ok (.aload_n 1, 1) := by decide +kernel
theorem dL_law_505 : decode cL_law 505 = .ok (.aload_n 0, 1) := by decide +kernel
theorem dL_law_506 : decode cL_law 506 = .ok (.iload 4, 2) := by decide +kernel
theorem dL_law_508 : decode cL_law 508 = .ok (.iconst 1, 1) := by decide +kernel
theorem dL_law_509 : decode cL_law 509 = .ok (.iadd, 1) := by decide +kernel
theorem dL_law_510 : decode cL_law 510 = .ok (.iaload, 1) := by decide +kernel
theorem dL_law_511 : decode cL_law 511 = .ok (.aload_n 3, 1) := by decide +kernel
theorem dL_law_512 : decode cL_law 512 = .ok (.invokestatic 141, 3) := by decide +kernel
theorem dL_law_515 : decode cL_law 515 = .ok (.istore 5, 2) := by decide +kernel
theorem dL_law_517 : decode cL_law 517 = .ok (.aload_n 2, 1) := by decide +kernel
theorem dL_law_518 : decode cL_law 518 = .ok (.aload_n 0, 1) := by decide +kernel
theorem dL_law_519 : decode cL_law 519 = .ok (.iload 4, 2) := by decide +kernel
theorem dL_law_521 : decode cL_law 521 = .ok (.iconst 1, 1) := by decide +kernel
theorem dL_law_522 : decode cL_law 522 = .ok (.iadd, 1) := by decide +kernel
theorem dL_law_523 : decode cL_law 523 = .ok (.iaload, 1) := by decide +kernel
theorem dL_law_524 : decode cL_law 524 = .ok (.invokevirtual 143, 3) := by decide +kernel
theorem dL_law_527 : decode cL_law 527 = .ok (.istore 6, 2) := by decide +kernel
theorem dL_law_529 : decode cL_law 529 = .ok (.aload_n 2, 1) := by decide +kernel
theorem dL_law_530 : decode cL_law 530 = .ok (.invokevirtual 114, 3) := by decide +kernel
theorem dL_law_533 : decode cL_law 533 = .ok (.iload 5, 2) := by decide +kernel
theorem dL_law_535 : decode cL_law 535 = .ok (.if_icmp .eq 5, 3) := by decide +kernel
theorem dL_law_538 : decode cL_law 538 = .ok (.iconst 0, 1) := by decide +kernel
theorem dL_law_539 : decode cL_law 539 = .ok (.ireturn, 1) := by decide +kernel
theorem dL_law_540 : decode cL_law 540 = .ok (.iload 5, 2) := by decide +kernel
theorem dL_law_542 : decode cL_law 542 = .ok (.ifCond .ne 15, 3) := by decide +kernel
theorem dL_law_545 : decode cL_law 545 = .ok (.aload_n 3, 1) := by decide +kernel
theorem dL_law_546 : decode cL_law 546 = .ok (.iconst 0, 1) := by decide +kernel
theorem dL_law_547 : decode cL_law 547 = .ok (.laload, 1) := by decide +kernel
theorem dL_law_548 : decode cL_law 548 = .ok (.iload 6, 2) := by decide +kernel
theorem dL_law_550 : decode cL_law 550 = .ok (.i2l, 1) := by decide +kernel
theorem dL_law_551 : decode cL_law 551 = .ok (.lcmp, 1) := by decide +kernel
theorem dL_law_552 : decode cL_law 552 = .ok (.ifCond .eq 5, 3) := by decide +kernel
theorem dL_law_555 : decode cL_law 555 = .ok (.iconst 0, 1) := by decide +kernel
theorem dL_law_556 : decode cL_law 556 = .ok (.ireturn, 1) := by decide +kernel
theorem dL_law_557 : decode cL_law 557 = .ok (.goto 1823, 3) := by decide +kernel
theorem dL_law_560 : decode cL_law 560 = .ok (.aload_n 1, 1) := by decide +kernel
theorem dL_law_561 : decode cL_law 561 = .ok (.invokevirtual 144, 3) := by decide +kernel
theorem dL_law_564 : decode cL_law 564 = .ok (.aload_n 2, 1) := by decide +kernel
theorem dL_law_565 : decode cL_law 565 = .ok (.invokevirtual 147, 3) := by decide +kernel
theorem dL_law_568 : decode cL_law 568 = .ok (.if_icmp .eq 1812, 3) := by decide +kernel
theorem dL_law_571 : decode cL_law 571 = .ok (.iconst 0, 1) := by decide +kernel
theorem dL_law_572 : decode cL_law 572 = .ok (.ireturn, 1) := by decide +kernel
theorem dL_law_573 : decode cL_law 573 = .ok (.aload_n 1, 1) := by decide +kernel
theorem dL_law_574 : decode cL_law 574 = .ok (.aload_n 0, 1) := by decide +kernel
theorem dL_law_575 : decode cL_law 575 = .ok (.iload 4, 2) := by decide +kernel
theorem dL_law_577 : decode cL_law 577 = .ok (.iconst 1, 1) := by decide +kernel
theorem dL_law_578 : decode cL_law 578 = .ok (.iadd, 1) := by decide +kernel
theorem dL_law_579 : decode cL_law 579 = .ok (.iaload, 1) := by decide +kernel
theorem dL_law_580 : decode cL_law 580 = .ok (.ifCond .eq 7, 3) := by decide +kernel
theorem dL_law_583 : decode cL_law 583 = .ok (.iconst 1, 1) := by decide +kernel
theorem dL_law_584 : decode cL_law 584 = .ok (.goto 4, 3) := by decide +kernel
theorem dL_law_587 : decode cL_law 587 = .ok (.iconst 0, 1) := by decide +kernel
theorem dL_law_588 : decode cL_law 588 = .ok (.invokevirtual 148, 3) := by decide +kernel
theorem dL_law_591 : decode cL_law 591 = .ok (.aload_n 2, 1) := by decide +kernel
theorem dL_law_592 : decode cL_law 592 = .ok (.aload_n 0, 1) := by decide +kernel
theorem dL_law_593 : decode cL_law 593 = .ok (.iload 4, 2) := by decide +kernel
theorem dL_law_595 : decode cL_law 595 = .ok (.iconst 1, 1) := by decide +kernel
theorem dL_law_596 : decode cL_law 596 = .ok (.iadd, 1) := by decide +kernel
theorem dL_law_597 : decode cL_law 597 = .ok (.iaload, 1) := by decide +kernel
theorem dL_law_598 : decode cL_law 598 = .ok (.ifCond .eq 7, 3) := by decide +kernel
theorem dL_law_601 : decode cL_law 601 = .ok (.iconst 1, 1) := by decide +kernel
theorem dL_law_602 : decode cL_law 602 = .ok (.goto 4, 3) := by decide +kernel
theorem dL_law_605 : decode cL_law 605 = .ok (.iconst 0, 1) := by decide +kernel
theorem dL_law_606 : decode cL_law 606 = .ok (.invokevirtual 152, 3) := by decide +kernel
theorem dL_law_609 : decode cL_law 609 = .ok (.if_icmp .eq 1771, 3) := by decide +kernel
theorem dL_law_612 : decode cL_law 612 = .ok (.iconst 0, 1) := by decide +kernel
theorem dL_law_613 : decode cL_law 613 = .ok (.ireturn, 1) := by decide +kernel
theorem dL_law_614 : decode cL_law 614 = .ok (.aload_n 1, 1) := by decide +kernel
theorem dL_law_615 : decode cL_law 615 = .ok (.aload_n 0, 1) := by decide +kernel
theorem dL_law_616 : decode cL_law 616 = .ok (.iload 4, 2) := by decide +kernel
theorem dL_law_618 : decode cL_law 618 = .ok (.iconst 1, 1) := by decide +kernel
theorem dL_law_619 : decode cL_law 619 = .ok (.iadd, 1) := by decide +kernel
theorem dL_law_620 : decode cL_law 620 = .ok (.iaload, 1) := by decide +kernel
theorem dL_law_621 : decode cL_law 621 = .ok (.ifCond .eq 7, 3) := by decide +kernel
theorem dL_law_624 : decode cL_law 624 = .ok (.iconst 1, 1) := by decide +kernel
theorem dL_law_625 : decode cL_law 625 = .ok (.goto 4, 3) := by decide +kernel
theorem dL_law_628 : decode cL_law 628 = .ok (.iconst 0, 1) := by decide +kernel
theorem dL_law_629 : decode cL_law 629 = .ok (.aload_n 0, 1) := by decide +kernel
theorem dL_law_630 : decode cL_law 630 = .ok (.iload 4, 2) := by decide +kernel
theorem dL_law_632 : decode cL_law 632 = .ok (.iconst 2, 1) := by decide +kernel
theorem dL_law_633 : decode cL_law 633 = .ok (.iadd, 1) := by decide +kernel
theorem dL_law_634 : decode cL_law 634 = .ok (.iaload, 1) := by decide +kernel
theorem dL_law_635 : decode cL_law 635 = .ok (.aload_n 3, 1) := by decide +kernel
theorem dL_law_636 : decode cL_law 636 = .ok (.invokestatic 153, 3) := by decide +kernel
theorem dL_law_639 : decode cL_law 639 = .ok (.istore 5, 2) := by decide +kernel
theorem dL_law_641 : decode cL_law 641 = .ok (.aload_n 2, 1) := by decide +kernel
theorem dL_law_642 : decode cL_law 642 = .ok (.aload_n 0, 1) := by decide +kernel
theorem dL_law_643 : decode cL_law 643 = .ok (.iload 4, 2) := by decide +kernel
theorem dL_law_645 : decode cL_law 645 = .ok (.iconst 1, 1) := by decide +kernel
theorem dL_law_646 : decode cL_law 646 = .ok (.iadd, 1) := by decide +kernel
theorem dL_law_647 : decode cL_law 647 = .ok (.iaload, 1) := by decide +kernel
theorem dL_law_648 : decode cL_law 648 = .ok (.ifCond .eq 7, 3) := by decide +kernel
theorem dL_law_651 : decode cL_law 651 = .ok (.iconst 1, 1) := by decide +kernel
theorem dL_law_652 : decode cL_law 652 = .ok (.goto 4, 3) := by decide +kernel
theorem dL_law_655 : decode cL_law 655 = .ok (.iconst 0, 1) := by decide +kernel
theorem dL_law_656 : decode cL_law 656 = .ok (.aload_n 0, 1) := by decide +kernel
theorem dL_law_657 : decode cL_law 657 = .ok (.iload 4, 2) := by decide +kernel
theorem dL_law_659 : decode cL_law 659 = .ok (.iconst 2, 1) := by decide +kernel
theorem dL_law_660 : decode cL_law 660 = .ok (.iadd, 1) := by decide +kernel
theorem dL_law_661 : decode cL_law 661 = .ok (.iaload, 1) := by decide +kernel
theorem dL_law_662 : decode cL_law 662 = .ok (.invokevirtual 156, 3) := by decide +kernel
theorem dL_law_665 : decode cL_law 665 = .ok (.istore 6, 2) := by decide +kernel
theorem dL_law_667 : decode cL_law 667 = .ok (.aload_n 2, 1) := by decide +kernel
theorem dL_law_668 : decode cL_law 668 = .ok (.invokevirtual 114, 3) := by decide +kernel
theorem dL_law_671 : decode cL_law 671 = .ok (.iload 5, 2) := by decide +kernel
theorem dL_law_673 : decode cL_law 673 = .ok (.if_icmp .eq 5, 3) := by decide +kernel
theorem dL_law_676 : decode cL_law 676 = .ok (.iconst 0, 1) := by decide +kernel
theorem dL_law_677 : decode cL_law 677 = .ok (.ireturn, 1) := by decide +kernel
theorem dL_law_678 : decode cL_law 678 = .ok (.iload 5, 2) := by decide +kernel
theorem dL_law_680 : decode cL_law 680 = .ok (.ifCond .ne 15, 3) := by decide +kernel
theorem dL_law_683 : decode cL_law 683 = .ok (.aload_n 3, 1) := by decide +kernel
theorem dL_law_684 : decode cL_law 684 = .ok (.iconst 0, 1) := by decide +kernel
theorem dL_law_685 : decode cL_law 685 = .ok (.laload, 1) := by decide +kernel
theorem dL_law_686 : decode cL_law 686 = .ok (.iload 6, 2) := by decide +kernel
theorem dL_law_688 : decode cL_law 688 = .ok (.i2l, 1) := by decide +kernel
theorem dL_law_689 : decode cL_law 689 = .ok (.lcmp, 1) := by decide +kernel
theorem dL_law_690 : decode cL_law 690 = .ok (.ifCond .eq 5, 3) := by decide +kernel
theorem dL_law_693 : decode cL_law 693 = .ok (.iconst 0, 1) := by decide +kernel
theorem dL_law_694 : decode cL_law 694 = .ok (.ireturn, 1) := by decide +kernel
theorem dL_law_695 : decode cL_law 695 = .ok (.goto 1685, 3) := by decide +kernel
theorem dL_law_698 : decode cL_law 698 = .ok (.aload_n 1, 1) := by decide +kernel
theorem dL_law_699 : decode cL_law 699 = .ok (.aload_n 0, 1) := by decide +kernel
theorem dL_law_700 : decode cL_law 700 = .ok (.iload 4, 2) := by decide +kernel
theorem dL_law_702 : decode cL_law 702 = .ok (.iconst 1, 1) := by decide +kernel
theorem dL_law_703 : decode cL_law 703 = .ok (.iadd, 1) := by decide +kernel
theorem dL_law_704 : decode cL_law 704 = .ok (.iaload, 1) := by decide +kernel
theorem dL_law_705 : decode cL_law 705 = .ok (.ifCond .eq 7, 3) := by decide +kernel
theorem dL_law_708 : decode cL_law 708 = .ok (.iconst 1, 1) := by decide +kernel
theorem dL_law_709 : decode cL_law 709 = .ok (.goto 4, 3) := by decide +kernel
theorem dL_law_712 : decode cL_law 712 = .ok (.iconst 0, 1) := by decide +kernel
theorem dL_law_713 : decode cL_law 713 = .ok (.invokevirtual 157, 3) := by decide +kernel
theorem dL_law_716 : decode cL_law 716 = .ok (.aload_n 2, 1) := by decide +kernel
theorem dL_law_717 : decode cL_law 717 = .ok (.aload_n 0, 1) := by decide +kernel
theorem dL_law_718 : decode cL_law 718 = .ok (.iload 4, 2) := by decide +kernel
theorem dL_law_720 : decode cL_law 720 = .ok (.iconst 1, 1) := by decide +kernel
theorem dL_law_721 : decode cL_law 721 = .ok (.iadd, 1) := by decide +kernel
theorem dL_law_722 : decode cL_law 722 = .ok (.iaload, 1) := by decide +kernel
theorem dL_law_723 : decode cL_law 723 = .ok (.ifCond .eq 7, 3) := by decide +kernel
theorem dL_law_726 : decode cL_law 726 = .ok (.iconst 1, 1) := by decide +kernel
theorem dL_law_727 : decode cL_law 727 = .ok (.goto 4, 3) := by decide +kernel
theorem dL_law_730 : decode cL_law 730 = .ok (.iconst 0, 1) := by decide +kernel
theorem dL_law_731 : decode cL_law 731 = .ok (.invokevirtual 160, 3) := by decide +kernel
theorem dL_law_734 : decode cL_law 734 = .ok (.if_icmp .eq 1646, 3) := by decide +kernel
theorem dL_law_737 : decode cL_law 737 = .ok (.iconst 0, 1) := by decide +kernel
theorem dL_law_738 : decode cL_law 738 = .ok (.ireturn, 1) := by decide +kernel
theorem dL_law_739 : decode cL_law 739 = .ok (.aload_n 1, 1) := by decide +kernel
theorem dL_law_740 : decode cL_law 740 = .ok (.aload_n 0, 1) := by decide +kernel
theorem dL_law_741 : decode cL_law 741 = .ok (.iload 4, 2) := by decide +kernel
theorem dL_law_743 : decode cL_law 743 = .ok (.iconst 1, 1) := by decide +kernel
theorem dL_law_744 : decode cL_law 744 = .ok (.iadd, 1) := by decide +kernel
theorem dL_law_745 : decode cL_law 745 = .ok (.iaload, 1) := by decide +kernel
theorem dL_law_746 : decode cL_law 746 = .ok (.aload_n 3, 1) := by decide +kernel
theorem dL_law_747 : decode cL_law 747 = .ok (.invokestatic 161, 3) := by decide +kernel
theorem dL_law_750 : decode cL_law 750 = .ok (.istore 5, 2) := by decide +kernel
theorem dL_law_752 : decode cL_law 752 = .ok (.aload_n 2, 1) := by decide +kernel
theorem dL_law_753 : decode cL_law 753 = .ok (.aload_n 0, 1) := by decide +kernel
theorem dL_law_754 : decode cL_law 754 = .ok (.iload 4, 2) := by decide +kernel
theorem dL_law_756 : decode cL_law 756 = .ok (.iconst 1, 1) := by decide +kernel
theorem dL_law_757 : decode cL_law 757 = .ok (.iadd, 1) := by decide +kernel
theorem dL_law_758 : decode cL_law 758 = .ok (.iaload, 1) := by decide +kernel
theorem dL_law_759 : decode cL_law 759 = .ok (.invokevirtual 163, 3) := by decide +kernel
theorem dL_law_762 : decode cL_law 762 = .ok (.istore 6, 2) := by decide +kernel
theorem dL_law_764 : decode cL_law 764 = .ok (.aload_n 2, 1) := by decide +kernel
theorem dL_law_765 : decode cL_law 765 = .ok (.invokevirtual 114, 3) := by decide +kernel
theorem dL_law_768 : decode cL_law 768 = .ok (.iload 5, 2) := by decide +kernel
theorem dL_law_770 : decode cL_law 770 = .ok (.if_icmp .eq 5, 3) := by decide +kernel
theorem dL_law_773 : decode cL_law 773 = .ok (.iconst 0, 1) := by decide +kernel
theorem dL_law_774 : decode cL_law 774 = .ok (.ireturn, 1) := by decide +kernel
theorem dL_law_775 : decode cL_law 775 = .ok (.iload 5, 2) := by decide +kernel
theorem dL_law_777 : decode cL_law 777 = .ok (.ifCond .ne 15, 3) := by decide +kernel
theorem dL_law_780 : decode cL_law 780 = .ok (.aload_n 3, 1) := by decide +kernel
theorem dL_law_781 : decode cL_law 781 = .ok (.iconst 0, 1) := by decide +kernel
theorem dL_law_782 : decode cL_law 782 = .ok (.laload, 1) := by decide +kernel
theorem dL_law_783 : decode cL_law 783 = .ok (.iload 6, 2) := by decide +kernel
theorem dL_law_785 : decode cL_law 785 = .ok (.i2l, 1) := by decide +kernel
theorem dL_law_786 : decode cL_law 786 = .ok (.lcmp, 1) := by decide +kernel
theorem dL_law_787 : decode cL_law 787 = .ok (.ifCond .eq 5, 3) := by decide +kernel
theorem dL_law_790 : decode cL_law 790 = .ok (.iconst 0, 1) := by decide +kernel
theorem dL_law_791 : decode cL_law 791 = .ok (.ireturn, 1) := by decide +kernel
theorem dL_law_792 : decode cL_law 792 = .ok (.goto 1588, 3) := by decide +kernel
theorem dL_law_795 : decode cL_law 795 = .ok (.aload_n 1, 1) := by decide +kernel
theorem dL_law_796 : decode cL_law 796 = .ok (.aload_n 0, 1) := by decide +kernel
theorem dL_law_797 : decode cL_law 797 = .ok (.iload 4, 2) := by decide +kernel
theorem dL_law_799 : decode cL_law 799 = .ok (.iconst 1, 1) := by decide +kernel
theorem dL_law_800 : decode cL_law 800 = .ok (.iadd, 1) := by decide +kernel
theorem dL_law_801 : decode cL_law 801 = .ok (.iaload, 1) := by decide +kernel
theorem dL_law_802 : decode cL_law 802 = .ok (.aload_n 3, 1) := by decide +kernel
theorem dL_law_803 : decode cL_law 803 = .ok (.invokestatic 164, 3) := by decide +kernel
theorem dL_law_806 : decode cL_law 806 = .ok (.istore 5, 2) := by decide +kernel
theorem dL_law_808 : decode cL_law 808 = .ok (.aload_n 2, 1) := by decide +kernel
theorem dL_law_809 : decode cL_law 809 = .ok (.aload_n 0, 1) := by decide +kernel
theorem dL_law_810 : decode cL_law 810 = .ok (.iload 4, 2) := by decide +kernel
theorem dL_law_812 : decode cL_law 812 = .ok (.iconst 1, 1) := by decide +kernel
theorem dL_law_813 : decode cL_law 813 = .ok (.iadd, 1) := by decide +kernel
theorem dL_law_814 : decode cL_law 814 = .ok (.iaload, 1) := by decide +kernel
theorem dL_law_815 : decode cL_law 815 = .ok (.invokevirtual 166, 3) := by decide +kernel
theorem dL_law_818 : decode cL_law 818 = .ok (.istore 6, 2) := by decide +kernel
theorem dL_law_820 : decode cL_law 820 = .ok (.aload_n 2, 1) := by decide +kernel
theorem dL_law_821 : decode cL_law 821 = .ok (.invokevirtual 114, 3) := by decide +kernel
theorem dL_law_824 : decode cL_law 824 = .ok (.iload 5, 2) := by decide +kernel
theorem dL_law_826 : decode cL_law 826 = .ok (.if_icmp .eq 5, 3) := by decide +kernel
theorem dL_law_829 : decode cL_law 829 = .ok (.iconst 0, 1) := by decide +kernel
theorem dL_law_830 : decode cL_law 830 = .ok (.ireturn, 1) := by decide +kernel
theorem dL_law_831 : decode cL_law 831 = .ok (.iload 5, 2) := by decide +kernel
theorem dL_law_833 : decode cL_law 833 = .ok (.ifCond .ne 15, 3) := by decide +kernel
theorem dL_law_836 : decode cL_law 836 = .ok (.aload_n 3, 1) := by decide +kernel
theorem dL_law_837 : decode cL_law 837 = .ok (.iconst 0, 1) := by decide +kernel
theorem dL_law_838 : decode cL_law 838 = .ok (.laload, 1) := by decide +kernel
theorem dL_law_839 : decode cL_law 839 = .ok (.iload 6, 2) := by decide +kernel
theorem dL_law_841 : decode cL_law 841 = .ok (.i2l, 1) := by decide +kernel
theorem dL_law_842 : decode cL_law 842 = .ok (.lcmp, 1) := by decide +kernel
theorem dL_law_843 : decode cL_law 843 = .ok (.ifCond .eq 5, 3) := by decide +kernel
theorem dL_law_846 : decode cL_law 846 = .ok (.iconst 0, 1) := by decide +kernel
theorem dL_law_847 : decode cL_law 847 = .ok (.ireturn, 1) := by decide +kernel
theorem dL_law_848 : decode cL_law 848 = .ok (.goto 1532, 3) := by decide +kernel
theorem dL_law_851 : decode cL_law 851 = .ok (.aload_n 1, 1) := by decide +kernel
theorem dL_law_852 : decode cL_law 852 = .ok (.aload_n 0, 1) := by decide +kernel
theorem dL_law_853 : decode cL_law 853 = .ok (.iload 4, 2) := by decide +kernel
theorem dL_law_855 : decode cL_law 855 = .ok (.iconst 1, 1) := by decide +kernel
theorem dL_law_856 : decode cL_law 856 = .ok (.iadd, 1) := by decide +kernel
theorem dL_law_857 : decode cL_law 857 = .ok (.iaload, 1) := by decide +kernel
theorem dL_law_858 : decode cL_law 858 = .ok (.aload_n 3, 1) := by decide +kernel
theorem dL_law_859 : decode cL_law 859 = .ok (.invokestatic 167, 3) := by decide +kernel
theorem dL_law_862 : decode cL_law 862 = .ok (.istore 5, 2) := by decide +kernel
theorem dL_law_864 : decode cL_law 864 = .ok (.aload_n 2, 1) := by decide +kernel
theorem dL_law_865 : decode cL_law 865 = .ok (.aload_n 0, 1) := by decide +kernel
theorem dL_law_866 : decode cL_law 866 = .ok (.iload 4, 2) := by decide +kernel
theorem dL_law_868 : decode cL_law 868 = .ok (.iconst 1, 1) := by decide +kernel
theorem dL_law_869 : decode cL_law 869 = .ok (.iadd, 1) := by decide +kernel
theorem dL_law_870 : decode cL_law 870 = .ok (.iaload, 1) := by decide +kernel
theorem dL_law_871 : decode cL_law 871 = .ok (.invokevirtual 169, 3) := by decide +kernel
theorem dL_law_874 : decode cL_law 874 = .ok (.istore 6, 2) := by decide +kernel
theorem dL_law_876 : decode cL_law 876 = .ok (.aload_n 2, 1) := by decide +kernel
theorem dL_law_877 : decode cL_law 877 = .ok (.invokevirtual 114, 3) := by decide +kernel
theorem dL_law_880 : decode cL_law 880 = .ok (.iload 5, 2) := by decide +kernel
theorem dL_law_882 : decode cL_law 882 = .ok (.if_icmp .eq 5, 3) := by decide +kernel
theorem dL_law_885 : decode cL_law 885 = .ok (.iconst 0, 1) := by decide +kernel
theorem dL_law_886 : decode cL_law 886 = .ok (.ireturn, 1) := by decide +kernel
theorem dL_law_887 : decode cL_law 887 = .ok (.iload 5, 2) := by decide +kernel
theorem dL_law_889 : decode cL_law 889 = .ok (.ifCond .ne 15, 3) := by decide +kernel
theorem dL_law_892 : decode cL_law 892 = .ok (.aload_n 3, 1) := by decide +kernel
theorem dL_law_893 : decode cL_law 893 = .ok (.iconst 0, 1) := by decide +kernel
theorem dL_law_894 : decode cL_law 894 = .ok (.laload, 1) := by decide +kernel
theorem dL_law_895 : decode cL_law 895 = .ok (.iload 6, 2) := by decide +kernel
theorem dL_law_897 : decode cL_law 897 = .ok (.i2l, 1) := by decide +kernel
theorem dL_law_898 : decode cL_law 898 = .ok (.lcmp, 1) := by decide +kernel
theorem dL_law_899 : decode cL_law 899 = .ok (.ifCond .eq 5, 3) := by decide +kernel
theorem dL_law_902 : decode cL_law 902 = .ok (.iconst 0, 1) := by decide +kernel
theorem dL_law_903 : decode cL_law 903 = .ok (.ireturn, 1) := by decide +kernel
theorem dL_law_904 : decode cL_law 904 = .ok (.goto 1476, 3) := by decide +kernel
theorem dL_law_907 : decode cL_law 907 = .ok (.aload_n 1, 1) := by decide +kernel
theorem dL_law_908 : decode cL_law 908 = .ok (.aload_n 0, 1) := by decide +kernel
theorem dL_law_909 : decode cL_law 909 = .ok (.iload 4, 2) := by decide +kernel
theorem dL_law_911 : decode cL_law 911 = .ok (.iconst 1, 1) := by decide +kernel
theorem dL_law_912 : decode cL_law 912 = .ok (.iadd, 1) := by decide +kernel
theorem dL_law_913 : decode cL_law 913 = .ok (.iaload, 1) := by decide +kernel
theorem dL_law_914 : decode cL_law 914 = .ok (.aload_n 0, 1) := by decide +kernel
theorem dL_law_915 : decode cL_law 915 = .ok (.iload 4, 2) := by decide +kernel
theorem dL_law_917 : decode cL_law 917 = .ok (.iconst 2, 1) := by decide +kernel
theorem dL_law_918 : decode cL_law 918 = .ok (.iadd, 1) := by decide +kernel
theorem dL_law_919 : decode cL_law 919 = .ok (.iaload, 1) := by decide +kernel
theorem dL_law_920 : decode cL_law 920 = .ok (.aload_n 3, 1) := by decide +kernel
theorem dL_law_921 : decode cL_law 921 = .ok (.invokestatic 170, 3) := by decide +kernel
theorem dL_law_924 : decode cL_law 924 = .ok (.istore 5, 2) := by decide +kernel
theorem dL_law_926 : decode cL_law 926 = .ok (.aload_n 2, 1) := by decide +kernel
theorem dL_law_927 : decode cL_law 927 = .ok (.aload_n 0, 1) := by decide +kernel
theorem dL_law_928 : decode cL_law 928 = .ok (.iload 4, 2) := by decide +kernel
theorem dL_law_930 : decode cL_law 930 = .ok (.iconst 1, 1) := by decide +kernel
theorem dL_law_931 : decode cL_law 931 = .ok (.iadd, 1) := by decide +kernel
theorem dL_law_932 : decode cL_law 932 = .ok (.iaload, 1) := by decide +kernel
theorem dL_law_933 : decode cL_law 933 = .ok (.aload_n 0, 1) := by decide +kernel
theorem dL_law_934 : decode cL_law 934 = .ok (.iload 4, 2) := by decide +kernel
theorem dL_law_936 : decode cL_law 936 = .ok (.iconst 2, 1) := by decide +kernel
theorem dL_law_937 : decode cL_law 937 = .ok (.iadd, 1) := by decide +kernel
theorem dL_law_938 : decode cL_law 938 = .ok (.iaload, 1) := by decide +kernel
theorem dL_law_939 : decode cL_law 939 = .ok (.invokevirtual 173, 3) := by decide +kernel
theorem dL_law_942 : decode cL_law 942 = .ok (.istore 6, 2) := by decide +kernel
theorem dL_law_944 : decode cL_law 944 = .ok (.aload_n 2, 1) := by decide +kernel
theorem dL_law_945 : decode cL_law 945 = .ok (.invokevirtual 114, 3) := by decide +kernel
theorem dL_law_948 : decode cL_law 948 = .ok (.iload 5, 2) := by decide +kernel
theorem dL_law_950 : decode cL_law 950 = .ok (.if_icmp .eq 5, 3) := by decide +kernel
theorem dL_law_953 : decode cL_law 953 = .ok (.iconst 0, 1) := by decide +kernel
theorem dL_law_954 : decode cL_law 954 = .ok (.ireturn, 1) := by decide +kernel
theorem dL_law_955 : decode cL_law 955 = .ok (.iload 5, 2) := by decide +kernel
theorem dL_law_957 : decode cL_law 957 = .ok (.ifCond .ne 15, 3) := by decide +kernel
theorem dL_law_960 : decode cL_law 960 = .ok (.aload_n 3, 1) := by decide +kernel
theorem dL_law_961 : decode cL_law 961 = .ok (.iconst 0, 1) := by decide +kernel
theorem dL_law_962 : decode cL_law 962 = .ok (.laload, 1) := by decide +kernel
theorem dL_law_963 : decode cL_law 963 = .ok (.iload 6, 2) := by decide +kernel
theorem dL_law_965 : decode cL_law 965 = .ok (.i2l, 1) := by decide +kernel
theorem dL_law_966 : decode cL_law 966 = .ok (.lcmp, 1) := by decide +kernel
theorem dL_law_967 : decode cL_law 967 = .ok (.ifCond .eq 5, 3) := by decide +kernel
theorem dL_law_970 : decode cL_law 970 = .ok (.iconst 0, 1) := by decide +kernel
theorem dL_law_971 : decode cL_law 971 = .ok (.ireturn, 1) := by decide +kernel
theorem dL_law_972 : decode cL_law 972 = .ok (.goto 1408, 3) := by decide +kernel
theorem dL_law_975 : decode cL_law 975 = .ok (.aload_n 1, 1) := by decide +kernel
theorem dL_law_976 : decode cL_law 976 = .ok (.invokevirtual 174, 3) := by decide +kernel
theorem dL_law_979 : decode cL_law 979 = .ok (.aload_n 2, 1) := by decide +kernel
theorem dL_law_980 : decode cL_law 980 = .ok (.invokevirtual 177, 3) := by decide +kernel
theorem dL_law_983 : decode cL_law 983 = .ok (.if_icmp .eq 1397, 3) := by decide +kernel
theorem dL_law_986 : decode cL_law 986 = .ok (.iconst 0, 1) := by decide +kernel
theorem dL_law_987 : decode cL_law 987 = .ok (.ireturn, 1) := by decide +kernel
theorem dL_law_988 : decode cL_law 988 = .ok (.aload_n 1, 1) := by decide +kernel
theorem dL_law_989 : decode cL_law 989 = .ok (.aload_n 0, 1) := by decide +kernel
theorem dL_law_990 : decode cL_law 990 = .ok (.iload 4, 2) := by decide +kernel
theorem dL_law_992 : decode cL_law 992 = .ok (.iconst 1, 1) := by decide +kernel
theorem dL_law_993 : decode cL_law 993 = .ok (.iadd, 1) := by decide +kernel
theorem dL_law_994 : decode cL_law 994 = .ok (.iaload, 1) := by decide +kernel
theorem dL_law_995 : decode cL_law 995 = .ok (.aload_n 3, 1) := by decide +kernel
theorem dL_law_996 : decode cL_law 996 = .ok (.invokestatic 178, 3) := by decide +kernel
theorem dL_law_999 : decode cL_law 999 = .ok (.istore 5, 2) := by decide +kernel
theorem dL_law_1001 : decode cL_law 1001 = .ok (.aload_n 2, 1) := by decide +kernel
theorem dL_law_1002 : decode cL_law 1002 = .ok (.aload_n 0, 1) := by decide +kernel
theorem dL_law_1003 : decode cL_law 1003 = .ok (.iload 4, 2) := by decide +kernel
theorem dL_law_1005 : decode cL_law 1005 = .ok (.iconst 1, 1) := by decide +kernel
theorem dL_law_1006 : decode cL_law 1006 = .ok (.iadd, 1) := by decide +kernel
theorem dL_law_1007 : decode cL_law 1007 = .ok (.iaload, 1) := by decide +kernel
theorem dL_law_1008 : decode cL_law 1008 = .ok (.invokevirtual 180, 3) := by decide +kernel
theorem dL_law_1011 : decode cL_law 1011 = .ok (.istore 6, 2) := by decide +kernel
theorem dL_law_1013 : decode cL_law 1013 = .ok (.aload_n 2, 1) := by decide +kernel
theorem dL_law_1014 : decode cL_law 1014 = .ok (.invokevirtual 114, 3) := by decide +kernel
theorem dL_law_1017 : decode cL_law 1017 = .ok (.iload 5, 2) := by decide +kernel
theorem dL_law_1019 : decode cL_law 1019 = .ok (.if_icmp .eq 5, 3) := by decide +kernel
theorem dL_law_1022 : decode cL_law 1022 = .ok (.iconst 0, 1) := by decide +kernel
theorem dL_law_1023 : decode cL_law 1023 = .ok (.ireturn, 1) := by decide +kernel
theorem dL_law_1024 : decode cL_law 1024 = .ok (.iload 5, 2) := by decide +kernel
theorem dL_law_1026 : decode cL_law 1026 = .ok (.ifCond .ne 15, 3) := by decide +kernel
theorem dL_law_1029 : decode cL_law 1029 = .ok (.aload_n 3, 1) := by decide +kernel
theorem dL_law_1030 : decode cL_law 1030 = .ok (.iconst 0, 1) := by decide +kernel
theorem dL_law_1031 : decode cL_law 1031 = .ok (.laload, 1) := by decide +kernel
theorem dL_law_1032 : decode cL_law 1032 = .ok (.iload 6, 2) := by decide +kernel
theorem dL_law_1034 : decode cL_law 1034 = .ok (.i2l, 1) := by decide +kernel
theorem dL_law_1035 : decode cL_law 1035 = .ok (.lcmp, 1) := by decide +kernel
theorem dL_law_1036 : decode cL_law 1036 = .ok (.ifCond .eq 5, 3) := by decide +kernel
theorem dL_law_1039 : decode cL_law 1039 = .ok (.iconst 0, 1) := by decide +kernel
theorem dL_law_1040 : decode cL_law 1040 = .ok (.ireturn, 1) := by decide +kernel
theorem dL_law_1041 : decode cL_law 1041 = .ok (.goto 1339, 3) := by decide +kernel
theorem dL_law_1044 : decode cL_law 1044 = .ok (.aload_n 1, 1) := by decide +kernel
theorem dL_law_1045 : decode cL_law 1045 = .ok (.aload_n 0, 1) := by decide +kernel
theorem dL_law_1046 : decode cL_law 1046 = .ok (.iload 4, 2) := by decide +kernel
theorem dL_law_1048 : decode cL_law 1048 = .ok (.iconst 1, 1) := by decide +kernel
theorem dL_law_1049 : decode cL_law 1049 = .ok (.iadd, 1) := by decide +kernel
theorem dL_law_1050 : decode cL_law 1050 = .ok (.iaload, 1) := by decide +kernel
theorem dL_law_1051 : decode cL_law 1051 = .ok (.aload_n 3, 1) := by decide +kernel
theorem dL_law_1052 : decode cL_law 1052 = .ok (.invokestatic 181, 3) := by decide +kernel
theorem dL_law_1055 : decode cL_law 1055 = .ok (.istore 5, 2) := by decide +kernel
theorem dL_law_1057 : decode cL_law 1057 = .ok (.aload_n 2, 1) := by decide +kernel
theorem dL_law_1058 : decode cL_law 1058 = .ok (.aload_n 0, 1) := by decide +kernel
theorem dL_law_1059 : decode cL_law 1059 = .ok (.iload 4, 2) := by decide +kernel
theorem dL_law_1061 : decode cL_law 1061 = .ok (.iconst 1, 1) := by decide +kernel
theorem dL_law_1062 : decode cL_law 1062 = .ok (.iadd, 1) := by decide +kernel
theorem dL_law_1063 : decode cL_law 1063 = .ok (.iaload, 1) := by decide +kernel
theorem dL_law_1064 : decode cL_law 1064 = .ok (.invokevirtual 183, 3) := by decide +kernel
theorem dL_law_1067 : decode cL_law 1067 = .ok (.istore 6, 2) := by decide +kernel
theorem dL_law_1069 : decode cL_law 1069 = .ok (.aload_n 2, 1) := by decide +kernel
theorem dL_law_1070 : decode cL_law 1070 = .ok (.invokevirtual 114, 3) := by decide +kernel
theorem dL_law_1073 : decode cL_law 1073 = .ok (.iload 5, 2) := by decide +kernel
theorem dL_law_1075 : decode cL_law 1075 = .ok (.if_icmp .eq 5, 3) := by decide +kernel
theorem dL_law_1078 : decode cL_law 1078 = .ok (.iconst 0, 1) := by decide +kernel
theorem dL_law_1079 : decode cL_law 1079 = .ok (.ireturn, 1) := by decide +kernel
theorem dL_law_1080 : decode cL_law 1080 = .ok (.iload 5, 2) := by decide +kernel
theorem dL_law_1082 : decode cL_law 1082 = .ok (.ifCond .ne 15, 3) := by decide +kernel
theorem dL_law_1085 : decode cL_law 1085 = .ok (.aload_n 3, 1) := by decide +kernel
theorem dL_law_1086 : decode cL_law 1086 = .ok (.iconst 0, 1) := by decide +kernel
theorem dL_law_1087 : decode cL_law 1087 = .ok (.laload, 1) := by decide +kernel
theorem dL_law_1088 : decode cL_law 1088 = .ok (.iload 6, 2) := by decide +kernel
theorem dL_law_1090 : decode cL_law 1090 = .ok (.i2l, 1) := by decide +kernel
theorem dL_law_1091 : decode cL_law 1091 = .ok (.lcmp, 1) := by decide +kernel
theorem dL_law_1092 : decode cL_law 1092 = .ok (.ifCond .eq 5, 3) := by decide +kernel
theorem dL_law_1095 : decode cL_law 1095 = .ok (.iconst 0, 1) := by decide +kernel
theorem dL_law_1096 : decode cL_law 1096 = .ok (.ireturn, 1) := by decide +kernel
theorem dL_law_1097 : decode cL_law 1097 = .ok (.goto 1283, 3) := by decide +kernel
theorem dL_law_1100 : decode cL_law 1100 = .ok (.aload_n 1, 1) := by decide +kernel
theorem dL_law_1101 : decode cL_law 1101 = .ok (.invokevirtual 184, 3) := by decide +kernel
theorem dL_law_1104 : decode cL_law 1104 = .ok (.aload_n 2, 1) := by decide +kernel
theorem dL_law_1105 : decode cL_law 1105 = .ok (.invokevirtual 187, 3) := by decide +kernel
theorem dL_law_1108 : decode cL_law 1108 = .ok (.if_icmp .eq 1272, 3) := by decide +kernel
theorem dL_law_1111 : decode cL_law 1111 = .ok (.iconst 0, 1) := by decide +kernel
theorem dL_law_1112 : decode cL_law 1112 = .ok (.ireturn, 1) := by decide +kernel
theorem dL_law_1113 : decode cL_law 1113 = .ok (.aload_n 1, 1) := by decide +kernel
theorem dL_law_1114 : decode cL_law 1114 = .ok (.aload_n 0, 1) := by decide +kernel
theorem dL_law_1115 : decode cL_law 1115 = .ok (.iload 4, 2) := by decide +kernel
theorem dL_law_1117 : decode cL_law 1117 = .ok (.iconst 1, 1) := by decide +kernel
theorem dL_law_1118 : decode cL_law 1118 = .ok (.iadd, 1) := by decide +kernel
theorem dL_law_1119 : decode cL_law 1119 = .ok (.iaload, 1) := by decide +kernel
theorem dL_law_1120 : decode cL_law 1120 = .ok (.aload_n 3, 1) := by decide +kernel
theorem dL_law_1121 : decode cL_law 1121 = .ok (.invokestatic 188, 3) := by decide +kernel
theorem dL_law_1124 : decode cL_law 1124 = .ok (.istore 5, 2) := by decide +kernel
theorem dL_law_1126 : decode cL_law 1126 = .ok (.aload_n 2, 1) := by decide +kernel
theorem dL_law_1127 : decode cL_law 1127 = .ok (.aload_n 0, 1) := by decide +kernel
theorem dL_law_1128 : decode cL_law 1128 = .ok (.iload 4, 2) := by decide +kernel
theorem dL_law_1130 : decode cL_law 1130 = .ok (.iconst 1, 1) := by decide +kernel
theorem dL_law_1131 : decode cL_law 1131 = .ok (.iadd, 1) := by decide +kernel
theorem dL_law_1132 : decode cL_law 1132 = .ok (.iaload, 1) := by decide +kernel
theorem dL_law_1133 : decode cL_law 1133 = .ok (.invokevirtual 190, 3) := by decide +kernel
theorem dL_law_1136 : decode cL_law 1136 = .ok (.istore 6, 2) := by decide +kernel
theorem dL_law_1138 : decode cL_law 1138 = .ok (.aload_n 2, 1) := by decide +kernel
theorem dL_law_1139 : decode cL_law 1139 = .ok (.invokevirtual 114, 3) := by decide +kernel
theorem dL_law_1142 : decode cL_law 1142 = .ok (.iload 5, 2) := by decide +kernel
theorem dL_law_1144 : decode cL_law 1144 = .ok (.if_icmp .eq 5, 3) := by decide +kernel
theorem dL_law_1147 : decode cL_law 1147 = .ok (.iconst 0, 1) := by decide +kernel
theorem dL_law_1148 : decode cL_law 1148 = .ok (.ireturn, 1) := by decide +kernel
theorem dL_law_1149 : decode cL_law 1149 = .ok (.iload 5, 2) := by decide +kernel
theorem dL_law_1151 : decode cL_law 1151 = .ok (.ifCond .ne 15, 3) := by decide +kernel
theorem dL_law_1154 : decode cL_law 1154 = .ok (.aload_n 3, 1) := by decide +kernel
theorem dL_law_1155 : decode cL_law 1155 = .ok (.iconst 0, 1) := by decide +kernel
theorem dL_law_1156 : decode cL_law 1156 = .ok (.laload, 1) := by decide +kernel
theorem dL_law_1157 : decode cL_law 1157 = .ok (.iload 6, 2) := by decide +kernel
theorem dL_law_1159 : decode cL_law 1159 = .ok (.i2l, 1) := by decide +kernel
theorem dL_law_1160 : decode cL_law 1160 = .ok (.lcmp, 1) := by decide +kernel
theorem dL_law_1161 : decode cL_law 1161 = .ok (.ifCond .eq 5, 3) := by decide +kernel
theorem dL_law_1164 : decode cL_law 1164 = .ok (.iconst 0, 1) := by decide +kernel
theorem dL_law_1165 : decode cL_law 1165 = .ok (.ireturn, 1) := by decide +kernel
theorem dL_law_1166 : decode cL_law 1166 = .ok (.goto 1214, 3) := by decide +kernel
theorem dL_law_1169 : decode cL_law 1169 = .ok (.aload_n 1, 1) := by decide +kernel
theorem dL_law_1170 : decode cL_law 1170 = .ok (.aload_n 0, 1) := by decide +kernel
theorem dL_law_1171 : decode cL_law 1171 = .ok (.iload 4, 2) := by decide +kernel
theorem dL_law_1173 : decode cL_law 1173 = .ok (.iconst 1, 1) := by decide +kernel
theorem dL_law_1174 : decode cL_law 1174 = .ok (.iadd, 1) := by decide +kernel
theorem dL_law_1175 : decode cL_law 1175 = .ok (.iaload, 1) := by decide +kernel
theorem dL_law_1176 : decode cL_law 1176 = .ok (.aload_n 0, 1) := by decide +kernel
theorem dL_law_1177 : decode cL_law 1177 = .ok (.iload 4, 2) := by decide +kernel
theorem dL_law_1179 : decode cL_law 1179 = .ok (.iconst 2, 1) := by decide +kernel
theorem dL_law_1180 : decode cL_law 1180 = .ok (.iadd, 1) := by decide +kernel
theorem dL_law_1181 : decode cL_law 1181 = .ok (.iaload, 1) := by decide +kernel
theorem dL_law_1182 : decode cL_law 1182 = .ok (.ifCond .eq 7, 3) := by decide +kernel
theorem dL_law_1185 : decode cL_law 1185 = .ok (.iconst 1, 1) := by decide +kernel
theorem dL_law_1186 : decode cL_law 1186 = .ok (.goto 4, 3) := by decide +kernel
theorem dL_law_1189 : decode cL_law 1189 = .ok (.iconst 0, 1) := by decide +kernel
theorem dL_law_1190 : decode cL_law 1190 = .ok (.aload_n 0, 1) := by decide +kernel
theorem dL_law_1191 : decode cL_law 1191 = .ok (.iload 4, 2) := by decide +kernel
theorem dL_law_1193 : decode cL_law 1193 = .ok (.iconst 3, 1) := by decide +kernel
theorem dL_law_1194 : decode cL_law 1194 = .ok (.iadd, 1) := by decide +kernel
theorem dL_law_1195 : decode cL_law 1195 = .ok (.iaload, 1) := by decide +kernel
theorem dL_law_1196 : decode cL_law 1196 = .ok (.aload_n 0, 1) := by decide +kernel
theorem dL_law_1197 : decode cL_law 1197 = .ok (.iload 4, 2) := by decide +kernel
theorem dL_law_1199 : decode cL_law 1199 = .ok (.iconst 4, 1) := by decide +kernel
theorem dL_law_1200 : decode cL_law 1200 = .ok (.iadd, 1) := by decide +kernel
theorem dL_law_1201 : decode cL_law 1201 = .ok (.iaload, 1) := by decide +kernel
theorem dL_law_1202 : decode cL_law 1202 = .ok (.ifCond .eq 7, 3) := by decide +kernel
theorem dL_law_1205 : decode cL_law 1205 = .ok (.iconst 1, 1) := by decide +kernel
theorem dL_law_1206 : decode cL_law 1206 = .ok (.goto 4, 3) := by decide +kernel
theorem dL_law_1209 : decode cL_law 1209 = .ok (.iconst 0, 1) := by decide +kernel
theorem dL_law_1210 : decode cL_law 1210 = .ok (.invokevirtual 191, 3) := by decide +kernel
theorem dL_law_1213 : decode cL_law 1213 = .ok (.aload_n 2, 1) := by decide +kernel
theorem dL_law_1214 : decode cL_law 1214 = .ok (.aload_n 0, 1) := by decide +kernel
theorem dL_law_1215 : decode cL_law 1215 = .ok (.iload 4, 2) := by decide +kernel
theorem dL_law_1217 : decode cL_law 1217 = .ok (.iconst 1, 1) := by decide +kernel
theorem dL_law_1218 : decode cL_law 1218 = .ok (.iadd, 1) := by decide +kernel
theorem dL_law_1219 : decode cL_law 1219 = .ok (.iaload, 1) := by decide +kernel
theorem dL_law_1220 : decode cL_law 1220 = .ok (.aload_n 0, 1) := by decide +kernel
theorem dL_law_1221 : decode cL_law 1221 = .ok (.iload 4, 2) := by decide +kernel
theorem dL_law_1223 : decode cL_law 1223 = .ok (.iconst 2, 1) := by decide +kernel
theorem dL_law_1224 : decode cL_law 1224 = .ok (.iadd, 1) := by decide +kernel
theorem dL_law_1225 : decode cL_law 1225 = .ok (.iaload, 1) := by decide +kernel
theorem dL_law_1226 : decode cL_law 1226 = .ok (.ifCond .eq 7, 3) := by decide +kernel
theorem dL_law_1229 : decode cL_law 1229 = .ok (.iconst 1, 1) := by decide +kernel
theorem dL_law_1230 : decode cL_law 1230 = .ok (.goto 4, 3) := by decide +kernel
theorem dL_law_1233 : decode cL_law 1233 = .ok (.iconst 0, 1) := by decide +kernel
theorem dL_law_1234 : decode cL_law 1234 = .ok (.aload_n 0, 1) := by decide +kernel
theorem dL_law_1235 : decode cL_law 1235 = .ok (.iload 4, 2) := by decide +kernel
theorem dL_law_1237 : decode cL_law 1237 = .ok (.iconst 3, 1) := by decide +kernel
theorem dL_law_1238 : decode cL_law 1238 = .ok (.iadd, 1) := by decide +kernel
theorem dL_law_1239 : decode cL_law 1239 = .ok (.iaload, 1) := by decide +kernel
theorem dL_law_1240 : decode cL_law 1240 = .ok (.aload_n 0, 1) := by decide +kernel
theorem dL_law_1241 : decode cL_law 1241 = .ok (.iload 4, 2) := by decide +kernel
theorem dL_law_1243 : decode cL_law 1243 = .ok (.iconst 4, 1) := by decide +kernel
theorem dL_law_1244 : decode cL_law 1244 = .ok (.iadd, 1) := by decide +kernel
theorem dL_law_1245 : decode cL_law 1245 = .ok (.iaload, 1) := by decide +kernel
theorem dL_law_1246 : decode cL_law 1246 = .ok (.ifCond .eq 7, 3) := by decide +kernel
theorem dL_law_1249 : decode cL_law 1249 = .ok (.iconst 1, 1) := by decide +kernel
theorem dL_law_1250 : decode cL_law 1250 = .ok (.goto 4, 3) := by decide +kernel
theorem dL_law_1253 : decode cL_law 1253 = .ok (.iconst 0, 1) := by decide +kernel
theorem dL_law_1254 : decode cL_law 1254 = .ok (.invokevirtual 195, 3) := by decide +kernel
theorem dL_law_1257 : decode cL_law 1257 = .ok (.if_icmp .eq 1123, 3) := by decide +kernel
theorem dL_law_1260 : decode cL_law 1260 = .ok (.iconst 0, 1) := by decide +kernel
theorem dL_law_1261 : decode cL_law 1261 = .ok (.ireturn, 1) := by decide +kernel
theorem dL_law_1262 : decode cL_law 1262 = .ok (.aload_n 1, 1) := by decide +kernel
theorem dL_law_1263 : decode cL_law 1263 = .ok (.aload_n 0, 1) := by decide +kernel
theorem dL_law_1264 : decode cL_law 1264 = .ok (.iload 4, 2) := by decide +kernel
theorem dL_law_1266 : decode cL_law 1266 = .ok (.iconst 1, 1) := by decide +kernel
theorem dL_law_1267 : decode cL_law 1267 = .ok (.iadd, 1) := by decide +kernel
theorem dL_law_1268 : decode cL_law 1268 = .ok (.iaload, 1) := by decide +kernel
theorem dL_law_1269 : decode cL_law 1269 = .ok (.aload_n 0, 1) := by decide +kernel
theorem dL_law_1270 : decode cL_law 1270 = .ok (.iload 4, 2) := by decide +kernel
theorem dL_law_1272 : decode cL_law 1272 = .ok (.iconst 2, 1) := by decide +kernel
theorem dL_law_1273 : decode cL_law 1273 = .ok (.iadd, 1) := by decide +kernel
theorem dL_law_1274 : decode cL_law 1274 = .ok (.iaload, 1) := by decide +kernel
theorem dL_law_1275 : decode cL_law 1275 = .ok (.ifCond .eq 7, 3) := by decide +kernel
theorem dL_law_1278 : decode cL_law 1278 = .ok (.iconst 1, 1) := by decide +kernel
theorem dL_law_1279 : decode cL_law 1279 = .ok (.goto 4, 3) := by decide +kernel
theorem dL_law_1282 : decode cL_law 1282 = .ok (.iconst 0, 1) := by decide +kernel
theorem dL_law_1283 : decode cL_law 1283 = .ok (.invokevirtual 196, 3) := by decide +kernel
theorem dL_law_1286 : decode cL_law 1286 = .ok (.aload_n 2, 1) := by decide +kernel
theorem dL_law_1287 : decode cL_law 1287 = .ok (.aload_n 0, 1) := by decide +kernel
theorem dL_law_1288 : decode cL_law 1288 = .ok (.iload 4, 2) := by decide +kernel
theorem dL_law_1290 : decode cL_law 1290 = .ok (.iconst 1, 1) := by decide +kernel
theorem dL_law_1291 : decode cL_law 1291 = .ok (.iadd, 1) := by decide +kernel
theorem dL_law_1292 : decode cL_law 1292 = .ok (.iaload, 1) := by decide +kernel
theorem dL_law_1293 : decode cL_law 1293 = .ok (.aload_n 0, 1) := by decide +kernel
theorem dL_law_1294 : decode cL_law 1294 = .ok (.iload 4, 2) := by decide +kernel
theorem dL_law_1296 : decode cL_law 1296 = .ok (.iconst 2, 1) := by decide +kernel
theorem dL_law_1297 : decode cL_law 1297 = .ok (.iadd, 1) := by decide +kernel
theorem dL_law_1298 : decode cL_law 1298 = .ok (.iaload, 1) := by decide +kernel
theorem dL_law_1299 : decode cL_law 1299 = .ok (.ifCond .eq 7, 3) := by decide +kernel
theorem dL_law_1302 : decode cL_law 1302 = .ok (.iconst 1, 1) := by decide +kernel
theorem dL_law_1303 : decode cL_law 1303 = .ok (.goto 4, 3) := by decide +kernel
theorem dL_law_1306 : decode cL_law 1306 = .ok (.iconst 0, 1) := by decide +kernel
theorem dL_law_1307 : decode cL_law 1307 = .ok (.invokevirtual 199, 3) := by decide +kernel
theorem dL_law_1310 : decode cL_law 1310 = .ok (.if_icmp .eq 1070, 3) := by decide +kernel
theorem dL_law_1313 : decode cL_law 1313 = .ok (.iconst 0, 1) := by decide +kernel
theorem dL_law_1314 : decode cL_law 1314 = .ok (.ireturn, 1) := by decide +kernel
theorem dL_law_1315 : decode cL_law 1315 = .ok (.aload_n 1, 1) := by decide +kernel
theorem dL_law_1316 : decode cL_law 1316 = .ok (.aload_n 0, 1) := by decide +kernel
theorem dL_law_1317 : decode cL_law 1317 = .ok (.iload 4, 2) := by decide +kernel
theorem dL_law_1319 : decode cL_law 1319 = .ok (.iconst 1, 1) := by decide +kernel
theorem dL_law_1320 : decode cL_law 1320 = .ok (.iadd, 1) := by decide +kernel
theorem dL_law_1321 : decode cL_law 1321 = .ok (.iaload, 1) := by decide +kernel
theorem dL_law_1322 : decode cL_law 1322 = .ok (.aload_n 0, 1) := by decide +kernel
theorem dL_law_1323 : decode cL_law 1323 = .ok (.iload 4, 2) := by decide +kernel
theorem dL_law_1325 : decode cL_law 1325 = .ok (.iconst 2, 1) := by decide +kernel
theorem dL_law_1326 : decode cL_law 1326 = .ok (.iadd, 1) := by decide +kernel
theorem dL_law_1327 : decode cL_law 1327 = .ok (.iaload, 1) := by decide +kernel
theorem dL_law_1328 : decode cL_law 1328 = .ok (.ifCond .eq 7, 3) := by decide +kernel
theorem dL_law_1331 : decode cL_law 1331 = .ok (.iconst 1, 1) := by decide +kernel
theorem dL_law_1332 : decode cL_law 1332 = .ok (.goto 4, 3) := by decide +kernel
theorem dL_law_1335 : decode cL_law 1335 = .ok (.iconst 0, 1) := by decide +kernel
theorem dL_law_1336 : decode cL_law 1336 = .ok (.aload_n 3, 1) := by decide +kernel
theorem dL_law_1337 : decode cL_law 1337 = .ok (.invokestatic 200, 3) := by decide +kernel
theorem dL_law_1340 : decode cL_law 1340 = .ok (.istore 5, 2) := by decide +kernel
theorem dL_law_1342 : decode cL_law 1342 = .ok (.aload_n 2, 1) := by decide +kernel
theorem dL_law_1343 : decode cL_law 1343 = .ok (.aload_n 0, 1) := by decide +kernel
theorem dL_law_1344 : decode cL_law 1344 = .ok (.iload 4, 2) := by decide +kernel
theorem dL_law_1346 : decode cL_law 1346 = .ok (.iconst 1, 1) := by decide +kernel
theorem dL_law_1347 : decode cL_law 1347 = .ok (.iadd, 1) := by decide +kernel
theorem dL_law_1348 : decode cL_law 1348 = .ok (.iaload, 1) := by decide +kernel
theorem dL_law_1349 : decode cL_law 1349 = .ok (.aload_n 0, 1) := by decide +kernel
theorem dL_law_1350 : decode cL_law 1350 = .ok (.iload 4, 2) := by decide +kernel
theorem dL_law_1352 : decode cL_law 1352 = .ok (.iconst 2, 1) := by decide +kernel
theorem dL_law_1353 : decode cL_law 1353 = .ok (.iadd, 1) := by decide +kernel
theorem dL_law_1354 : decode cL_law 1354 = .ok (.iaload, 1) := by decide +kernel
theorem dL_law_1355 : decode cL_law 1355 = .ok (.ifCond .eq 7, 3) := by decide +kernel
theorem dL_law_1358 : decode cL_law 1358 = .ok (.iconst 1, 1) := by decide +kernel
theorem dL_law_1359 : decode cL_law 1359 = .ok (.goto 4, 3) := by decide +kernel
theorem dL_law_1362 : decode cL_law 1362 = .ok (.iconst 0, 1) := by decide +kernel
theorem dL_law_1363 : decode cL_law 1363 = .ok (.invokevirtual 203, 3) := by decide +kernel
theorem dL_law_1366 : decode cL_law 1366 = .ok (.istore 6, 2) := by decide +kernel
theorem dL_law_1368 : decode cL_law 1368 = .ok (.aload_n 2, 1) := by decide +kernel
theorem dL_law_1369 : decode cL_law 1369 = .ok (.invokevirtual 114, 3) := by decide +kernel
theorem dL_law_1372 : decode cL_law 1372 = .ok (.iload 5, 2) := by decide +kernel
theorem dL_law_1374 : decode cL_law 1374 = .ok (.if_icmp .eq 5, 3) := by decide +kernel
theorem dL_law_1377 : decode cL_law 1377 = .ok (.iconst 0, 1) := by decide +kernel
theorem dL_law_1378 : decode cL_law 1378 = .ok (.ireturn, 1) := by decide +kernel
theorem dL_law_1379 : decode cL_law 1379 = .ok (.iload 5, 2) := by decide +kernel
theorem dL_law_1381 : decode cL_law 1381 = .ok (.ifCond .ne 15, 3) := by decide +kernel
theorem dL_law_1384 : decode cL_law 1384 = .ok (.aload_n 3, 1) := by decide +kernel
theorem dL_law_1385 : decode cL_law 1385 = .ok (.iconst 0, 1) := by decide +kernel
theorem dL_law_1386 : decode cL_law 1386 = .ok (.laload, 1) := by decide +kernel
theorem dL_law_1387 : decode cL_law 1387 = .ok (.iload 6, 2) := by decide +kernel
theorem dL_law_1389 : decode cL_law 1389 = .ok (.i2l, 1) := by decide +kernel
theorem dL_law_1390 : decode cL_law 1390 = .ok (.lcmp, 1) := by decide +kernel
theorem dL_law_1391 : decode cL_law 1391 = .ok (.ifCond .eq 5, 3) := by decide +kernel
theorem dL_law_1394 : decode cL_law 1394 = .ok (.iconst 0, 1) := by decide +kernel
theorem dL_law_1395 : decode cL_law 1395 = .ok (.ireturn, 1) := by decide +kernel
theorem dL_law_1396 : decode cL_law 1396 = .ok (.goto 984, 3) := by decide +kernel
theorem dL_law_1399 : decode cL_law 1399 = .ok (.aload_n 1, 1) := by decide +kernel
theorem dL_law_1400 : decode cL_law 1400 = .ok (.invokevirtual 204, 3) := by decide +kernel
theorem dL_law_1403 : decode cL_law 1403 = .ok (.aload_n 2, 1) := by decide +kernel
theorem dL_law_1404 : decode cL_law 1404 = .ok (.invokevirtual 207, 3) := by decide +kernel
theorem dL_law_1407 : decode cL_law 1407 = .ok (.if_icmp .eq 973, 3) := by decide +kernel
theorem dL_law_1410 : decode cL_law 1410 = .ok (.iconst 0, 1) := by decide +kernel
theorem dL_law_1411 : decode cL_law 1411 = .ok (.ireturn, 1) := by decide +kernel
theorem dL_law_1412 : decode cL_law 1412 = .ok (.aload_n 1, 1) := by decide +kernel
theorem dL_law_1413 : decode cL_law 1413 = .ok (.aload_n 0, 1) := by decide +kernel
theorem dL_law_1414 : decode cL_law 1414 = .ok (.iload 4, 2) := by decide +kernel
theorem dL_law_1416 : decode cL_law 1416 = .ok (.iconst 1, 1) := by decide +kernel
theorem dL_law_1417 : decode cL_law 1417 = .ok (.iadd, 1) := by decide +kernel
theorem dL_law_1418 : decode cL_law 1418 = .ok (.iaload, 1) := by decide +kernel
theorem dL_law_1419 : decode cL_law 1419 = .ok (.aload_n 3, 1) := by decide +kernel
theorem dL_law_1420 : decode cL_law 1420 = .ok (.invokestatic 208, 3) := by decide +kernel
theorem dL_law_1423 : decode cL_law 1423 = .ok (.istore 5, 2) := by decide +kernel
theorem dL_law_1425 : decode cL_law 1425 = .ok (.aload_n 2, 1) := by decide +kernel
theorem dL_law_1426 : decode cL_law 1426 = .ok (.aload_n 0, 1) := by decide +kernel
theorem dL_law_1427 : decode cL_law 1427 = .ok (.iload 4, 2) := by decide +kernel
theorem dL_law_1429 : decode cL_law 1429 = .ok (.iconst 1, 1) := by decide +kernel
theorem dL_law_1430 : decode cL_law 1430 = .ok (.iadd, 1) := by decide +kernel
theorem dL_law_1431 : decode cL_law 1431 = .ok (.iaload, 1) := by decide +kernel
theorem dL_law_1432 : decode cL_law 1432 = .ok (.invokevirtual 210, 3) := by decide +kernel
theorem dL_law_1435 : decode cL_law 1435 = .ok (.istore 6, 2) := by decide +kernel
theorem dL_law_1437 : decode cL_law 1437 = .ok (.aload_n 2, 1) := by decide +kernel
theorem dL_law_1438 : decode cL_law 1438 = .ok (.invokevirtual 114, 3) := by decide +kernel
theorem dL_law_1441 : decode cL_law 1441 = .ok (.iload 5, 2) := by decide +kernel
theorem dL_law_1443 : decode cL_law 1443 = .ok (.if_icmp .eq 5, 3) := by decide +kernel
theorem dL_law_1446 : decode cL_law 1446 = .ok (.iconst 0, 1) := by decide +kernel
theorem dL_law_1447 : decode cL_law 1447 = .ok (.ireturn, 1) := by decide +kernel
theorem dL_law_1448 : decode cL_law 1448 = .ok (.iload 5, 2) := by decide +kernel
theorem dL_law_1450 : decode cL_law 1450 = .ok (.ifCond .ne 15, 3) := by decide +kernel
theorem dL_law_1453 : decode cL_law 1453 = .ok (.aload_n 3, 1) := by decide +kernel
theorem dL_law_1454 : decode cL_law 1454 = .ok (.iconst 0, 1) := by decide +kernel
theorem dL_law_1455 : decode cL_law 1455 = .ok (.laload, 1) := by decide +kernel
theorem dL_law_1456 : decode cL_law 1456 = .ok (.iload 6, 2) := by decide +kernel
theorem dL_law_1458 : decode cL_law 1458 = .ok (.i2l, 1) := by decide +kernel
theorem dL_law_1459 : decode cL_law 1459 = .ok (.lcmp, 1) := by decide +kernel
theorem dL_law_1460 : decode cL_law 1460 = .ok (.ifCond .eq 5, 3) := by decide +kernel
theorem dL_law_1463 : decode cL_law 1463 = .ok (.iconst 0, 1) := by decide +kernel
theorem dL_law_1464 : decode cL_law 1464 = .ok (.ireturn, 1) := by decide +kernel
theorem dL_law_1465 : decode cL_law 1465 = .ok (.goto 915, 3) := by decide +kernel
theorem dL_law_1468 : decode cL_law 1468 = .ok (.aload_n 1, 1) := by decide +kernel
theorem dL_law_1469 : decode cL_law 1469 = .ok (.aload_n 0, 1) := by decide +kernel
theorem dL_law_1470 : decode cL_law 1470 = .ok (.iload 4, 2) := by decide +kernel
theorem dL_law_1472 : decode cL_law 1472 = .ok (.iconst 1, 1) := by decide +kernel
theorem dL_law_1473 : decode cL_law 1473 = .ok (.iadd, 1) := by decide +kernel
theorem dL_law_1474 : decode cL_law 1474 = .ok (.iaload, 1) := by decide +kernel
theorem dL_law_1475 : decode cL_law 1475 = .ok (.aload_n 3, 1) := by decide +kernel
theorem dL_law_1476 : decode cL_law 1476 = .ok (.invokestatic 211, 3) := by decide +kernel
theorem dL_law_1479 : decode cL_law 1479 = .ok (.istore 5, 2) := by decide +kernel
theorem dL_law_1481 : decode cL_law 1481 = .ok (.aload_n 2, 1) := by decide +kernel
theorem dL_law_1482 : decode cL_law 1482 = .ok (.aload_n 0, 1) := by decide +kernel
theorem dL_law_1483 : decode cL_law 1483 = .ok (.iload 4, 2) := by decide +kernel
theorem dL_law_1485 : decode cL_law 1485 = .ok (.iconst 1, 1) := by decide +kernel
theorem dL_law_1486 : decode cL_law 1486 = .ok (.iadd, 1) := by decide +kernel
theorem dL_law_1487 : decode cL_law 1487 = .ok (.iaload, 1) := by decide +kernel
theorem dL_law_1488 : decode cL_law 1488 = .ok (.invokevirtual 213, 3) := by decide +kernel
theorem dL_law_1491 : decode cL_law 1491 = .ok (.istore 6, 2) := by decide +kernel
theorem dL_law_1493 : decode cL_law 1493 = .ok (.aload_n 2, 1) := by decide +kernel
theorem dL_law_1494 : decode cL_law 1494 = .ok (.invokevirtual 114, 3) := by decide +kernel
theorem dL_law_1497 : decode cL_law 1497 = .ok (.iload 5, 2) := by decide +kernel
theorem dL_law_1499 : decode cL_law 1499 = .ok (.if_icmp .eq 5, 3) := by decide +kernel
theorem dL_law_1502 : decode cL_law 1502 = .ok (.iconst 0, 1) := by decide +kernel
theorem dL_law_1503 : decode cL_law 1503 = .ok (.ireturn, 1) := by decide +kernel
theorem dL_law_1504 : decode cL_law 1504 = .ok (.iload 5, 2) := by decide +kernel
theorem dL_law_1506 : decode cL_law 1506 = .ok (.ifCond .ne 15, 3) := by decide +kernel
theorem dL_law_1509 : decode cL_law 1509 = .ok (.aload_n 3, 1) := by decide +kernel
theorem dL_law_1510 : decode cL_law 1510 = .ok (.iconst 0, 1) := by decide +kernel
theorem dL_law_1511 : decode cL_law 1511 = .ok (.laload, 1) := by decide +kernel
theorem dL_law_1512 : decode cL_law 1512 = .ok (.iload 6, 2) := by decide +kernel
theorem dL_law_1514 : decode cL_law 1514 = .ok (.i2l, 1) := by decide +kernel
theorem dL_law_1515 : decode cL_law 1515 = .ok (.lcmp, 1) := by decide +kernel
theorem dL_law_1516 : decode cL_law 1516 = .ok (.ifCond .eq 5, 3) := by decide +kernel
theorem dL_law_1519 : decode cL_law 1519 = .ok (.iconst 0, 1) := by decide +kernel
theorem dL_law_1520 : decode cL_law 1520 = .ok (.ireturn, 1) := by decide +kernel
theorem dL_law_1521 : decode cL_law 1521 = .ok (.goto 859, 3) := by decide +kernel
theorem dL_law_1524 : decode cL_law 1524 = .ok (.aload_n 1, 1) := by decide +kernel
theorem dL_law_1525 : decode cL_law 1525 = .ok (.invokevirtual 214, 3) := by decide +kernel
theorem dL_law_1528 : decode cL_law 1528 = .ok (.aload_n 2, 1) := by decide +kernel
theorem dL_law_1529 : decode cL_law 1529 = .ok (.invokevirtual 218, 3) := by decide +kernel
theorem dL_law_1532 : decode cL_law 1532 = .ok (.if_icmp .eq 848, 3) := by decide +kernel
theorem dL_law_1535 : decode cL_law 1535 = .ok (.iconst 0, 1) := by decide +kernel
theorem dL_law_1536 : decode cL_law 1536 = .ok (.ireturn, 1) := by decide +kernel
theorem dL_law_1537 : decode cL_law 1537 = .ok (.aload_n 1, 1) := by decide +kernel
theorem dL_law_1538 : decode cL_law 1538 = .ok (.invokevirtual 219, 3) := by decide +kernel
theorem dL_law_1541 : decode cL_law 1541 = .ok (.aload_n 2, 1) := by decide +kernel
theorem dL_law_1542 : decode cL_law 1542 = .ok (.invokevirtual 222, 3) := by decide +kernel
theorem dL_law_1545 : decode cL_law 1545 = .ok (.if_icmp .eq 835, 3) := by decide +kernel
theorem dL_law_1548 : decode cL_law 1548 = .ok (.iconst 0, 1) := by decide +kernel
theorem dL_law_1549 : decode cL_law 1549 = .ok (.ireturn, 1) := by decide +kernel
theorem dL_law_1550 : decode cL_law 1550 = .ok (.aload_n 1, 1) := by decide +kernel
theorem dL_law_1551 : decode cL_law 1551 = .ok (.invokevirtual 223, 3) := by decide +kernel
theorem dL_law_1554 : decode cL_law 1554 = .ok (.aload_n 2, 1) := by decide +kernel
theorem dL_law_1555 : decode cL_law 1555 = .ok (.invokevirtual 226, 3) := by decide +kernel
theorem dL_law_1558 : decode cL_law 1558 = .ok (.if_icmp .eq 822, 3) := by decide +kernel
theorem dL_law_1561 : decode cL_law 1561 = .ok (.iconst 0, 1) := by decide +kernel
theorem dL_law_1562 : decode cL_law 1562 = .ok (.ireturn, 1) := by decide +kernel
theorem dL_law_1563 : decode cL_law 1563 = .ok (.aload_n 1, 1) := by decide +kernel
theorem dL_law_1564 : decode cL_law 1564 = .ok (.aload_n 0, 1) := by decide +kernel
theorem dL_law_1565 : decode cL_law 1565 = .ok (.iload 4, 2) := by decide +kernel
theorem dL_law_1567 : decode cL_law 1567 = .ok (.iconst 1, 1) := by decide +kernel
theorem dL_law_1568 : decode cL_law 1568 = .ok (.iadd, 1) := by decide +kernel
theorem dL_law_1569 : decode cL_law 1569 = .ok (.iaload, 1) := by decide +kernel
theorem dL_law_1570 : decode cL_law 1570 = .ok (.aload_n 3, 1) := by decide +kernel
theorem dL_law_1571 : decode cL_law 1571 = .ok (.invokestatic 227, 3) := by decide +kernel
theorem dL_law_1574 : decode cL_law 1574 = .ok (.istore 5, 2) := by decide +kernel
theorem dL_law_1576 : decode cL_law 1576 = .ok (.aload_n 2, 1) := by decide +kernel
theorem dL_law_1577 : decode cL_law 1577 = .ok (.aload_n 0, 1) := by decide +kernel
theorem dL_law_1578 : decode cL_law 1578 = .ok (.iload 4, 2) := by decide +kernel
theorem dL_law_1580 : decode cL_law 1580 = .ok (.iconst 1, 1) := by decide +kernel
theorem dL_law_1581 : decode cL_law 1581 = .ok (.iadd, 1) := by decide +kernel
theorem dL_law_1582 : decode cL_law 1582 = .ok (.iaload, 1) := by decide +kernel
theorem dL_law_1583 : decode cL_law 1583 = .ok (.invokevirtual 229, 3) := by decide +kernel
theorem dL_law_1586 : decode cL_law 1586 = .ok (.istore 6, 2) := by decide +kernel
theorem dL_law_1588 : decode cL_law 1588 = .ok (.aload_n 2, 1) := by decide +kernel
theorem dL_law_1589 : decode cL_law 1589 = .ok (.invokevirtual 114, 3) := by decide +kernel
theorem dL_law_1592 : decode cL_law 1592 = .ok (.iload 5, 2) := by decide +kernel
theorem dL_law_1594 : decode cL_law 1594 = .ok (.if_icmp .eq 5, 3) := by decide +kernel
theorem dL_law_1597 : decode cL_law 1597 = .ok (.iconst 0, 1) := by decide +kernel
theorem dL_law_1598 : decode cL_law 1598 = .ok (.ireturn, 1) := by decide +kernel
theorem dL_law_1599 : decode cL_law 1599 = .ok (.iload 5, 2) := by decide +kernel
theorem dL_law_1601 : decode cL_law 1601 = .ok (.ifCond .ne 15, 3) := by decide +kernel
theorem dL_law_1604 : decode cL_law 1604 = .ok (.aload_n 3, 1) := by decide +kernel
theorem dL_law_1605 : decode cL_law 1605 = .ok (.iconst 0, 1) := by decide +kernel
theorem dL_law_1606 : decode cL_law 1606 = .ok (.laload, 1) := by decide +kernel
theorem dL_law_1607 : decode cL_law 1607 = .ok (.iload 6, 2) := by decide +kernel
theorem dL_law_1609 : decode cL_law 1609 = .ok (.i2l, 1) := by decide +kernel
theorem dL_law_1610 : decode cL_law 1610 = .ok (.lcmp, 1) := by decide +kernel
theorem dL_law_1611 : decode cL_law 1611 = .ok (.ifCond .eq 5, 3) := by decide +kernel
theorem dL_law_1614 : decode cL_law 1614 = .ok (.iconst 0, 1) := by decide +kernel
theorem dL_law_1615 : decode cL_law 1615 = .ok (.ireturn, 1) := by decide +kernel
theorem dL_law_1616 : decode cL_law 1616 = .ok (.goto 764, 3) := by decide +kernel
theorem dL_law_1619 : decode cL_law 1619 = .ok (.aload_n 1, 1) := by decide +kernel
theorem dL_law_1620 : decode cL_law 1620 = .ok (.invokevirtual 230, 3) := by decide +kernel
theorem dL_law_1623 : decode cL_law 1623 = .ok (.aload_n 2, 1) := by decide +kernel
theorem dL_law_1624 : decode cL_law 1624 = .ok (.invokevirtual 233, 3) := by decide +kernel
theorem dL_law_1627 : decode cL_law 1627 = .ok (.if_icmp .eq 753, 3) := by decide +kernel
theorem dL_law_1630 : decode cL_law 1630 = .ok (.iconst 0, 1) := by decide +kernel
theorem dL_law_1631 : decode cL_law 1631 = .ok (.ireturn, 1) := by decide +kernel
theorem dL_law_1632 : decode cL_law 1632 = .ok (.aload_n 1, 1) := by decide +kernel
theorem dL_law_1633 : decode cL_law 1633 = .ok (.aload_n 0, 1) := by decide +kernel
theorem dL_law_1634 : decode cL_law 1634 = .ok (.iload 4, 2) := by decide +kernel
theorem dL_law_1636 : decode cL_law 1636 = .ok (.iconst 1, 1) := by decide +kernel
theorem dL_law_1637 : decode cL_law 1637 = .ok (.iadd, 1) := by decide +kernel
theorem dL_law_1638 : decode cL_law 1638 = .ok (.iaload, 1) := by decide +kernel
theorem dL_law_1639 : decode cL_law 1639 = .ok (.aload_n 3, 1) := by decide +kernel
theorem dL_law_1640 : decode cL_law 1640 = .ok (.invokestatic 234, 3) := by decide +kernel
theorem dL_law_1643 : decode cL_law 1643 = .ok (.istore 5, 2) := by decide +kernel
theorem dL_law_1645 : decode cL_law 1645 = .ok (.aload_n 2, 1) := by decide +kernel
theorem dL_law_1646 : decode cL_law 1646 = .ok (.aload_n 0, 1) := by decide +kernel
theorem dL_law_1647 : decode cL_law 1647 = .ok (.iload 4, 2) := by decide +kernel
theorem dL_law_1649 : decode cL_law 1649 = .ok (.iconst 1, 1) := by decide +kernel
theorem dL_law_1650 : decode cL_law 1650 = .ok (.iadd, 1) := by decide +kernel
theorem dL_law_1651 : decode cL_law 1651 = .ok (.iaload, 1) := by decide +kernel
theorem dL_law_1652 : decode cL_law 1652 = .ok (.invokevirtual 236, 3) := by decide +kernel
theorem dL_law_1655 : decode cL_law 1655 = .ok (.istore 6, 2) := by decide +kernel
theorem dL_law_1657 : decode cL_law 1657 = .ok (.aload_n 2, 1) := by decide +kernel
theorem dL_law_1658 : decode cL_law 1658 = .ok (.invokevirtual 114, 3) := by decide +kernel
theorem dL_law_1661 : decode cL_law 1661 = .ok (.iload 5, 2) := by decide +kernel
theorem dL_law_1663 : decode cL_law 1663 = .ok (.if_icmp .eq 5, 3) := by decide +kernel
theorem dL_law_1666 : decode cL_law 1666 = .ok (.iconst 0, 1) := by decide +kernel
theorem dL_law_1667 : decode cL_law 1667 = .ok (.ireturn, 1) := by decide +kernel
theorem dL_law_1668 : decode cL_law 1668 = .ok (.iload 5, 2) := by decide +kernel
theorem dL_law_1670 : decode cL_law 1670 = .ok (.ifCond .ne 15, 3) := by decide +kernel
theorem dL_law_1673 : decode cL_law 1673 = .ok (.aload_n 3, 1) := by decide +kernel
theorem dL_law_1674 : decode cL_law 1674 = .ok (.iconst 0, 1) := by decide +kernel
theorem dL_law_1675 : decode cL_law 1675 = .ok (.laload, 1) := by decide +kernel
theorem dL_law_1676 : decode cL_law 1676 = .ok (.iload 6, 2) := by decide +kernel
theorem dL_law_1678 : decode cL_law 1678 = .ok (.i2l, 1) := by decide +kernel
theorem dL_law_1679 : decode cL_law 1679 = .ok (.lcmp, 1) := by decide +kernel
theorem dL_law_1680 : decode cL_law 1680 = .ok (.ifCond .eq 5, 3) := by decide +kernel
theorem dL_law_1683 : decode cL_law 1683 = .ok (.iconst 0, 1) := by decide +kernel
theorem dL_law_1684 : decode cL_law 1684 = .ok (.ireturn, 1) := by decide +kernel
theorem dL_law_1685 : decode cL_law 1685 = .ok (.goto 695, 3) := by decide +kernel
theorem dL_law_1688 : decode cL_law 1688 = .ok (.aload_n 1, 1) := by decide +kernel
theorem dL_law_1689 : decode cL_law 1689 = .ok (.aload_n 0, 1) := by decide +kernel
theorem dL_law_1690 : decode cL_law 1690 = .ok (.iload 4, 2) := by decide +kernel
theorem dL_law_1692 : decode cL_law 1692 = .ok (.iconst 1, 1) := by decide +kernel
theorem dL_law_1693 : decode cL_law 1693 = .ok (.iadd, 1) := by decide +kernel
theorem dL_law_1694 : decode cL_law 1694 = .ok (.iaload, 1) := by decide +kernel
theorem dL_law_1695 : decode cL_law 1695 = .ok (.aload_n 3, 1) := by decide +kernel
theorem dL_law_1696 : decode cL_law 1696 = .ok (.invokestatic 237, 3) := by decide +kernel
theorem dL_law_1699 : decode cL_law 1699 = .ok (.istore 5, 2) := by decide +kernel
theorem dL_law_1701 : decode cL_law 1701 = .ok (.aload_n 2, 1) := by decide +kernel
theorem dL_law_1702 : decode cL_law 1702 = .ok (.aload_n 0, 1) := by decide +kernel
theorem dL_law_1703 : decode cL_law 1703 = .ok (.iload 4, 2) := by decide +kernel
theorem dL_law_1705 : decode cL_law 1705 = .ok (.iconst 1, 1) := by decide +kernel
theorem dL_law_1706 : decode cL_law 1706 = .ok (.iadd, 1) := by decide +kernel
theorem dL_law_1707 : decode cL_law 1707 = .ok (.iaload, 1) := by decide +kernel
theorem dL_law_1708 : decode cL_law 1708 = .ok (.invokevirtual 239, 3) := by decide +kernel
theorem dL_law_1711 : decode cL_law 1711 = .ok (.istore 6, 2) := by decide +kernel
theorem dL_law_1713 : decode cL_law 1713 = .ok (.aload_n 2, 1) := by decide +kernel
theorem dL_law_1714 : decode cL_law 1714 = .ok (.invokevirtual 114, 3) := by decide +kernel
theorem dL_law_1717 : decode cL_law 1717 = .ok (.iload 5, 2) := by decide +kernel
theorem dL_law_1719 : decode cL_law 1719 = .ok (.if_icmp .eq 5, 3) := by decide +kernel
theorem dL_law_1722 : decode cL_law 1722 = .ok (.iconst 0, 1) := by decide +kernel
theorem dL_law_1723 : decode cL_law 1723 = .ok (.ireturn, 1) := by decide +kernel
theorem dL_law_1724 : decode cL_law 1724 = .ok (.iload 5, 2) := by decide +kernel
theorem dL_law_1726 : decode cL_law 1726 = .ok (.ifCond .ne 15, 3) := by decide +kernel
theorem dL_law_1729 : decode cL_law 1729 = .ok (.aload_n 3, 1) := by decide +kernel
theorem dL_law_1730 : decode cL_law 1730 = .ok (.iconst 0, 1) := by decide +kernel
theorem dL_law_1731 : decode cL_law 1731 = .ok (.laload, 1) := by decide +kernel
theorem dL_law_1732 : decode cL_law 1732 = .ok (.iload 6, 2) := by decide +kernel
theorem dL_law_1734 : decode cL_law 1734 = .ok (.i2l, 1) := by decide +kernel
theorem dL_law_1735 : decode cL_law 1735 = .ok (.lcmp, 1) := by decide +kernel
theorem dL_law_1736 : decode cL_law 1736 = .ok (.ifCond .eq 5, 3) := by decide +kernel
theorem dL_law_1739 : decode cL_law 1739 = .ok (.iconst 0, 1) := by decide +kernel
theorem dL_law_1740 : decode cL_law 1740 = .ok (.ireturn, 1) := by decide +kernel
theorem dL_law_1741 : decode cL_law 1741 = .ok (.goto 639, 3) := by decide +kernel
theorem dL_law_1744 : decode cL_law 1744 = .ok (.aload_n 1, 1) := by decide +kernel
theorem dL_law_1745 : decode cL_law 1745 = .ok (.invokevirtual 240, 3) := by decide +kernel
theorem dL_law_1748 : decode cL_law 1748 = .ok (.aload_n 2, 1) := by decide +kernel
theorem dL_law_1749 : decode cL_law 1749 = .ok (.invokevirtual 243, 3) := by decide +kernel
theorem dL_law_1752 : decode cL_law 1752 = .ok (.if_icmp .eq 628, 3) := by decide +kernel
theorem dL_law_1755 : decode cL_law 1755 = .ok (.iconst 0, 1) := by decide +kernel
theorem dL_law_1756 : decode cL_law 1756 = .ok (.ireturn, 1) := by decide +kernel
theorem dL_law_1757 : decode cL_law 1757 = .ok (.aload_n 1, 1) := by decide +kernel
theorem dL_law_1758 : decode cL_law 1758 = .ok (.aload_n 0, 1) := by decide +kernel
theorem dL_law_1759 : decode cL_law 1759 = .ok (.iload 4, 2) := by decide +kernel
theorem dL_law_1761 : decode cL_law 1761 = .ok (.iconst 1, 1) := by decide +kernel
theorem dL_law_1762 : decode cL_law 1762 = .ok (.iadd, 1) := by decide +kernel
theorem dL_law_1763 : decode cL_law 1763 = .ok (.iaload, 1) := by decide +kernel
theorem dL_law_1764 : decode cL_law 1764 = .ok (.aload_n 3, 1) := by decide +kernel
theorem dL_law_1765 : decode cL_law 1765 = .ok (.invokestatic 244, 3) := by decide +kernel
theorem dL_law_1768 : decode cL_law 1768 = .ok (.istore 5, 2) := by decide +kernel
theorem dL_law_1770 : decode cL_law 1770 = .ok (.aload_n 2, 1) := by decide +kernel
theorem dL_law_1771 : decode cL_law 1771 = .ok (.aload_n 0, 1) := by decide +kernel
theorem dL_law_1772 : decode cL_law 1772 = .ok (.iload 4, 2) := by decide +kernel
theorem dL_law_1774 : decode cL_law 1774 = .ok (.iconst 1, 1) := by decide +kernel
theorem dL_law_1775 : decode cL_law 1775 = .ok (.iadd, 1) := by decide +kernel
theorem dL_law_1776 : decode cL_law 1776 = .ok (.iaload, 1) := by decide +kernel
theorem dL_law_1777 : decode cL_law 1777 = .ok (.invokevirtual 246, 3) := by decide +kernel
theorem dL_law_1780 : decode cL_law 1780 = .ok (.istore 6, 2) := by decide +kernel
theorem dL_law_1782 : decode cL_law 1782 = .ok (.aload_n 2, 1) := by decide +kernel
theorem dL_law_1783 : decode cL_law 1783 = .ok (.invokevirtual 114, 3) := by decide +kernel
theorem dL_law_1786 : decode cL_law 1786 = .ok (.iload 5, 2) := by decide +kernel
theorem dL_law_1788 : decode cL_law 1788 = .ok (.if_icmp .eq 5, 3) := by decide +kernel
theorem dL_law_1791 : decode cL_law 1791 = .ok (.iconst 0, 1) := by decide +kernel
theorem dL_law_1792 : decode cL_law 1792 = .ok (.ireturn, 1) := by decide +kernel
theorem dL_law_1793 : decode cL_law 1793 = .ok (.iload 5, 2) := by decide +kernel
theorem dL_law_1795 : decode cL_law 1795 = .ok (.ifCond .ne 15, 3) := by decide +kernel
theorem dL_law_1798 : decode cL_law 1798 = .ok (.aload_n 3, 1) := by decide +kernel
theorem dL_law_1799 : decode cL_law 1799 = .ok (.iconst 0, 1) := by decide +kernel
theorem dL_law_1800 : decode cL_law 1800 = .ok (.laload, 1) := by decide +kernel
theorem dL_law_1801 : decode cL_law 1801 = .ok (.iload 6, 2) := by decide +kernel
theorem dL_law_1803 : decode cL_law 1803 = .ok (.i2l, 1) := by decide +kernel
theorem dL_law_1804 : decode cL_law 1804 = .ok (.lcmp, 1) := by decide +kernel
theorem dL_law_1805 : decode cL_law 1805 = .ok (.ifCond .eq 5, 3) := by decide +kernel
theorem dL_law_1808 : decode cL_law 1808 = .ok (.iconst 0, 1) := by decide +kernel
theorem dL_law_1809 : decode cL_law 1809 = .ok (.ireturn, 1) := by decide +kernel
theorem dL_law_1810 : decode cL_law 1810 = .ok (.goto 570, 3) := by decide +kernel
theorem dL_law_1813 : decode cL_law 1813 = .ok (.aload_n 1, 1) := by decide +kernel
theorem dL_law_1814 : decode cL_law 1814 = .ok (.aload_n 0, 1) := by decide +kernel
theorem dL_law_1815 : decode cL_law 1815 = .ok (.iload 4, 2) := by decide +kernel
theorem dL_law_1817 : decode cL_law 1817 = .ok (.iconst 1, 1) := by decide +kernel
theorem dL_law_1818 : decode cL_law 1818 = .ok (.iadd, 1) := by decide +kernel
theorem dL_law_1819 : decode cL_law 1819 = .ok (.iaload, 1) := by decide +kernel
theorem dL_law_1820 : decode cL_law 1820 = .ok (.aload_n 3, 1) := by decide +kernel
theorem dL_law_1821 : decode cL_law 1821 = .ok (.invokestatic 247, 3) := by decide +kernel
theorem dL_law_1824 : decode cL_law 1824 = .ok (.istore 5, 2) := by decide +kernel
theorem dL_law_1826 : decode cL_law 1826 = .ok (.aload_n 2, 1) := by decide +kernel
theorem dL_law_1827 : decode cL_law 1827 = .ok (.aload_n 0, 1) := by decide +kernel
theorem dL_law_1828 : decode cL_law 1828 = .ok (.iload 4, 2) := by decide +kernel
theorem dL_law_1830 : decode cL_law 1830 = .ok (.iconst 1, 1) := by decide +kernel
theorem dL_law_1831 : decode cL_law 1831 = .ok (.iadd, 1) := by decide +kernel
theorem dL_law_1832 : decode cL_law 1832 = .ok (.iaload, 1) := by decide +kernel
theorem dL_law_1833 : decode cL_law 1833 = .ok (.invokevirtual 249, 3) := by decide +kernel
theorem dL_law_1836 : decode cL_law 1836 = .ok (.istore 6, 2) := by decide +kernel
theorem dL_law_1838 : decode cL_law 1838 = .ok (.aload_n 2, 1) := by decide +kernel
theorem dL_law_1839 : decode cL_law 1839 = .ok (.invokevirtual 114, 3) := by decide +kernel
theorem dL_law_1842 : decode cL_law 1842 = .ok (.iload 5, 2) := by decide +kernel
theorem dL_law_1844 : decode cL_law 1844 = .ok (.if_icmp .eq 5, 3) := by decide +kernel
theorem dL_law_1847 : decode cL_law 1847 = .ok (.iconst 0, 1) := by decide +kernel
theorem dL_law_1848 : decode cL_law 1848 = .ok (.ireturn, 1) := by decide +kernel
theorem dL_law_1849 : decode cL_law 1849 = .ok (.iload 5, 2) := by decide +kernel
theorem dL_law_1851 : decode cL_law 1851 = .ok (.ifCond .ne 15, 3) := by decide +kernel
theorem dL_law_1854 : decode cL_law 1854 = .ok (.aload_n 3, 1) := by decide +kernel
theorem dL_law_1855 : decode cL_law 1855 = .ok (.iconst 0, 1) := by decide +kernel
theorem dL_law_1856 : decode cL_law 1856 = .ok (.laload, 1) := by decide +kernel
theorem dL_law_1857 : decode cL_law 1857 = .ok (.iload 6, 2) := by decide +kernel
theorem dL_law_1859 : decode cL_law 1859 = .ok (.i2l, 1) := by decide +kernel
theorem dL_law_1860 : decode cL_law 1860 = .ok (.lcmp, 1) := by decide +kernel
theorem dL_law_1861 : decode cL_law 1861 = .ok (.ifCond .eq 5, 3) := by decide +kernel
theorem dL_law_1864 : decode cL_law 1864 = .ok (.iconst 0, 1) := by decide +kernel
theorem dL_law_1865 : decode cL_law 1865 = .ok (.ireturn, 1) := by decide +kernel
theorem dL_law_1866 : decode cL_law 1866 = .ok (.goto 514, 3) := by decide +kernel
theorem dL_law_1869 : decode cL_law 1869 = .ok (.aload_n 1, 1) := by decide +kernel
theorem dL_law_1870 : decode cL_law 1870 = .ok (.aload_n 0, 1) := by decide +kernel
theorem dL_law_1871 : decode cL_law 1871 = .ok (.iload 4, 2) := by decide +kernel
theorem dL_law_1873 : decode cL_law 1873 = .ok (.iconst 1, 1) := by decide +kernel
theorem dL_law_1874 : decode cL_law 1874 = .ok (.iadd, 1) := by decide +kernel
theorem dL_law_1875 : decode cL_law 1875 = .ok (.iaload, 1) := by decide +kernel
theorem dL_law_1876 : decode cL_law 1876 = .ok (.aload_n 3, 1) := by decide +kernel
theorem dL_law_1877 : decode cL_law 1877 = .ok (.invokestatic 250, 3) := by decide +kernel
theorem dL_law_1880 : decode cL_law 1880 = .ok (.istore 5, 2) := by decide +kernel
theorem dL_law_1882 : decode cL_law 1882 = .ok (.aload_n 2, 1) := by decide +kernel
theorem dL_law_1883 : decode cL_law 1883 = .ok (.aload_n 0, 1) := by decide +kernel
theorem dL_law_1884 : decode cL_law 1884 = .ok (.iload 4, 2) := by decide +kernel
theorem dL_law_1886 : decode cL_law 1886 = .ok (.iconst 1, 1) := by decide +kernel
theorem dL_law_1887 : decode cL_law 1887 = .ok (.iadd, 1) := by decide +kernel
theorem dL_law_1888 : decode cL_law 1888 = .ok (.iaload, 1) := by decide +kernel
theorem dL_law_1889 : decode cL_law 1889 = .ok (.invokevirtual 252, 3) := by decide +kernel
theorem dL_law_1892 : decode cL_law 1892 = .ok (.istore 6, 2) := by decide +kernel
theorem dL_law_1894 : decode cL_law 1894 = .ok (.aload_n 2, 1) := by decide +kernel
theorem dL_law_1895 : decode cL_law 1895 = .ok (.invokevirtual 114, 3) := by decide +kernel
theorem dL_law_1898 : decode cL_law 1898 = .ok (.iload 5, 2) := by decide +kernel
theorem dL_law_1900 : decode cL_law 1900 = .ok (.if_icmp .eq 5, 3) := by decide +kernel
theorem dL_law_1903 : decode cL_law 1903 = .ok (.iconst 0, 1) := by decide +kernel
theorem dL_law_1904 : decode cL_law 1904 = .ok (.ireturn, 1) := by decide +kernel
theorem dL_law_1905 : decode cL_law 1905 = .ok (.iload 5, 2) := by decide +kernel
theorem dL_law_1907 : decode cL_law 1907 = .ok (.ifCond .ne 15, 3) := by decide +kernel
theorem dL_law_1910 : decode cL_law 1910 = .ok (.aload_n 3, 1) := by decide +kernel
theorem dL_law_1911 : decode cL_law 1911 = .ok (.iconst 0, 1) := by decide +kernel
theorem dL_law_1912 : decode cL_law 1912 = .ok (.laload, 1) := by decide +kernel
theorem dL_law_1913 : decode cL_law 1913 = .ok (.iload 6, 2) := by decide +kernel
theorem dL_law_1915 : decode cL_law 1915 = .ok (.i2l, 1) := by decide +kernel
theorem dL_law_1916 : decode cL_law 1916 = .ok (.lcmp, 1) := by decide +kernel
theorem dL_law_1917 : decode cL_law 1917 = .ok (.ifCond .eq 5, 3) := by decide +kernel
theorem dL_law_1920 : decode cL_law 1920 = .ok (.iconst 0, 1) := by decide +kernel
theorem dL_law_1921 : decode cL_law 1921 = .ok (.ireturn, 1) := by decide +kernel
theorem dL_law_1922 : decode cL_law 1922 = .ok (.goto 458, 3) := by decide +kernel
theorem dL_law_1925 : decode cL_law 1925 = .ok (.aload_n 1, 1) := by decide +kernel
theorem dL_law_1926 : decode cL_law 1926 = .ok (.aload_n 0, 1) := by decide +kernel
theorem dL_law_1927 : decode cL_law 1927 = .ok (.iload 4, 2) := by decide +kernel
theorem dL_law_1929 : decode cL_law 1929 = .ok (.iconst 1, 1) := by decide +kernel
theorem dL_law_1930 : decode cL_law 1930 = .ok (.iadd, 1) := by decide +kernel
theorem dL_law_1931 : decode cL_law 1931 = .ok (.iaload, 1) := by decide +kernel
theorem dL_law_1932 : decode cL_law 1932 = .ok (.aload_n 3, 1) := by decide +kernel
theorem dL_law_1933 : decode cL_law 1933 = .ok (.invokestatic 253, 3) := by decide +kernel
theorem dL_law_1936 : decode cL_law 1936 = .ok (.istore 5, 2) := by decide +kernel
theorem dL_law_1938 : decode cL_law 1938 = .ok (.aload_n 2, 1) := by decide +kernel
theorem dL_law_1939 : decode cL_law 1939 = .ok (.aload_n 0, 1) := by decide +kernel
theorem dL_law_1940 : decode cL_law 1940 = .ok (.iload 4, 2) := by decide +kernel
theorem dL_law_1942 : decode cL_law 1942 = .ok (.iconst 1, 1) := by decide +kernel
theorem dL_law_1943 : decode cL_law 1943 = .ok (.iadd, 1) := by decide +kernel
theorem dL_law_1944 : decode cL_law 1944 = .ok (.iaload, 1) := by decide +kernel
theorem dL_law_1945 : decode cL_law 1945 = .ok (.invokevirtual 255, 3) := by decide +kernel
theorem dL_law_1948 : decode cL_law 1948 = .ok (.istore 6, 2) := by decide +kernel
theorem dL_law_1950 : decode cL_law 1950 = .ok (.aload_n 2, 1) := by decide +kernel
theorem dL_law_1951 : decode cL_law 1951 = .ok (.invokevirtual 114, 3) := by decide +kernel
theorem dL_law_1954 : decode cL_law 1954 = .ok (.iload 5, 2) := by decide +kernel
theorem dL_law_1956 : decode cL_law 1956 = .ok (.if_icmp .eq 5, 3) := by decide +kernel
theorem dL_law_1959 : decode cL_law 1959 = .ok (.iconst 0, 1) := by decide +kernel
theorem dL_law_1960 : decode cL_law 1960 = .ok (.ireturn, 1) := by decide +kernel
theorem dL_law_1961 : decode cL_law 1961 = .ok (.iload 5, 2) := by decide +kernel
theorem dL_law_1963 : decode cL_law 1963 = .ok (.ifCond .ne 15, 3) := by decide +kernel
theorem dL_law_1966 : decode cL_law 1966 = .ok (.aload_n 3, 1) := by decide +kernel
theorem dL_law_1967 : decode cL_law 1967 = .ok (.iconst 0, 1) := by decide +kernel
theorem dL_law_1968 : decode cL_law 1968 = .ok (.laload, 1) := by decide +kernel
theorem dL_law_1969 : decode cL_law 1969 = .ok (.iload 6, 2) := by decide +kernel
theorem dL_law_1971 : decode cL_law 1971 = .ok (.i2l, 1) := by decide +kernel
theorem dL_law_1972 : decode cL_law 1972 = .ok (.lcmp, 1) := by decide +kernel
theorem dL_law_1973 : decode cL_law 1973 = .ok (.ifCond .eq 5, 3) := by decide +kernel
theorem dL_law_1976 : decode cL_law 1976 = .ok (.iconst 0, 1) := by decide +kernel
theorem dL_law_1977 : decode cL_law 1977 = .ok (.ireturn, 1) := by decide +kernel
theorem dL_law_1978 : decode cL_law 1978 = .ok (.goto 402, 3) := by decide +kernel
theorem dL_law_1981 : decode cL_law 1981 = .ok (.aload_n 1, 1) := by decide +kernel
theorem dL_law_1982 : decode cL_law 1982 = .ok (.aload_n 0, 1) := by decide +kernel
theorem dL_law_1983 : decode cL_law 1983 = .ok (.iload 4, 2) := by decide +kernel
theorem dL_law_1985 : decode cL_law 1985 = .ok (.iconst 1, 1) := by decide +kernel
theorem dL_law_1986 : decode cL_law 1986 = .ok (.iadd, 1) := by decide +kernel
theorem dL_law_1987 : decode cL_law 1987 = .ok (.iaload, 1) := by decide +kernel
theorem dL_law_1988 : decode cL_law 1988 = .ok (.aload_n 0, 1) := by decide +kernel
theorem dL_law_1989 : decode cL_law 1989 = .ok (.iload 4, 2) := by decide +kernel
theorem dL_law_1991 : decode cL_law 1991 = .ok (.iconst 2, 1) := by decide +kernel
theorem dL_law_1992 : decode cL_law 1992 = .ok (.iadd, 1) := by decide +kernel
theorem dL_law_1993 : decode cL_law 1993 = .ok (.iaload, 1) := by decide +kernel
theorem dL_law_1994 : decode cL_law 1994 = .ok (.ifCond .eq 7, 3) := by decide +kernel
theorem dL_law_1997 : decode cL_law 1997 = .ok (.iconst 1, 1) := by decide +kernel
theorem dL_law_1998 : decode cL_law 1998 = .ok (.goto 4, 3) := by decide +kernel
theorem dL_law_2001 : decode cL_law 2001 = .ok (.iconst 0, 1) := by decide +kernel
theorem dL_law_2002 : decode cL_law 2002 = .ok (.aload_n 3, 1) := by decide +kernel
theorem dL_law_2003 : decode cL_law 2003 = .ok (.invokestatic 256, 3) := by decide +kernel
theorem dL_law_2006 : decode cL_law 2006 = .ok (.istore 5, 2) := by decide +kernel
theorem dL_law_2008 : decode cL_law 2008 = .ok (.aload_n 2, 1) := by decide +kernel
theorem dL_law_2009 : decode cL_law 2009 = .ok (.aload_n 0, 1) := by decide +kernel
theorem dL_law_2010 : decode cL_law 2010 = .ok (.iload 4, 2) := by decide +kernel
theorem dL_law_2012 : decode cL_law 2012 = .ok (.iconst 1, 1) := by decide +kernel
theorem dL_law_2013 : decode cL_law 2013 = .ok (.iadd, 1) := by decide +kernel
theorem dL_law_2014 : decode cL_law 2014 = .ok (.iaload, 1) := by decide +kernel
theorem dL_law_2015 : decode cL_law 2015 = .ok (.aload_n 0, 1) := by decide +kernel
theorem dL_law_2016 : decode cL_law 2016 = .ok (.iload 4, 2) := by decide +kernel
theorem dL_law_2018 : decode cL_law 2018 = .ok (.iconst 2, 1) := by decide +kernel
theorem dL_law_2019 : decode cL_law 2019 = .ok (.iadd, 1) := by decide +kernel
theorem dL_law_2020 : decode cL_law 2020 = .ok (.iaload, 1) := by decide +kernel
theorem dL_law_2021 : decode cL_law 2021 = .ok (.ifCond .eq 7, 3) := by decide +kernel
theorem dL_law_2024 : decode cL_law 2024 = .ok (.iconst 1, 1) := by decide +kernel
theorem dL_law_2025 : decode cL_law 2025 = .ok (.goto 4, 3) := by decide +kernel
theorem dL_law_2028 : decode cL_law 2028 = .ok (.iconst 0, 1) := by decide +kernel
theorem dL_law_2029 : decode cL_law 2029 = .ok (.invokevirtual 258, 3) := by decide +kernel
theorem dL_law_2032 : decode cL_law 2032 = .ok (.istore 6, 2) := by decide +kernel
theorem dL_law_2034 : decode cL_law 2034 = .ok (.aload_n 2, 1) := by decide +kernel
theorem dL_law_2035 : decode cL_law 2035 = .ok (.invokevirtual 114, 3) := by decide +kernel
theorem dL_law_2038 : decode cL_law 2038 = .ok (.iload 5, 2) := by decide +kernel
theorem dL_law_2040 : decode cL_law 2040 = .ok (.if_icmp .eq 5, 3) := by decide +kernel
theorem dL_law_2043 : decode cL_law 2043 = .ok (.iconst 0, 1) := by decide +kernel
theorem dL_law_2044 : decode cL_law 2044 = .ok (.ireturn, 1) := by decide +kernel
theorem dL_law_2045 : decode cL_law 2045 = .ok (.iload 5, 2) := by decide +kernel
theorem dL_law_2047 : decode cL_law 2047 = .ok (.ifCond .ne 15, 3) := by decide +kernel
theorem dL_law_2050 : decode cL_law 2050 = .ok (.aload_n 3, 1) := by decide +kernel
theorem dL_law_2051 : decode cL_law 2051 = .ok (.iconst 0, 1) := by decide +kernel
theorem dL_law_2052 : decode cL_law 2052 = .ok (.laload, 1) := by decide +kernel
theorem dL_law_2053 : decode cL_law 2053 = .ok (.iload 6, 2) := by decide +kernel
theorem dL_law_2055 : decode cL_law 2055 = .ok (.i2l, 1) := by decide +kernel
theorem dL_law_2056 : decode cL_law 2056 = .ok (.lcmp, 1) := by decide +kernel
theorem dL_law_2057 : decode cL_law 2057 = .ok (.ifCond .eq 5, 3) := by decide +kernel
theorem dL_law_2060 : decode cL_law 2060 = .ok (.iconst 0, 1) := by decide +kernel
theorem dL_law_2061 : decode cL_law 2061 = .ok (.ireturn, 1) := by decide +kernel
theorem dL_law_2062 : decode cL_law 2062 = .ok (.goto 318, 3) := by decide +kernel
theorem dL_law_2065 : decode cL_law 2065 = .ok (.aload_n 1, 1) := by decide +kernel
theorem dL_law_2066 : decode cL_law 2066 = .ok (.aload_n 0, 1) := by decide +kernel
theorem dL_law_2067 : decode cL_law 2067 = .ok (.iload 4, 2) := by decide +kernel
theorem dL_law_2069 : decode cL_law 2069 = .ok (.iconst 1, 1) := by decide +kernel
theorem dL_law_2070 : decode cL_law 2070 = .ok (.iadd, 1) := by decide +kernel
theorem dL_law_2071 : decode cL_law 2071 = .ok (.iaload, 1) := by decide +kernel
theorem dL_law_2072 : decode cL_law 2072 = .ok (.aload_n 0, 1) := by decide +kernel
theorem dL_law_2073 : decode cL_law 2073 = .ok (.iload 4, 2) := by decide +kernel
theorem dL_law_2075 : decode cL_law 2075 = .ok (.iconst 2, 1) := by decide +kernel
theorem dL_law_2076 : decode cL_law 2076 = .ok (.iadd, 1) := by decide +kernel
theorem dL_law_2077 : decode cL_law 2077 = .ok (.iaload, 1) := by decide +kernel
theorem dL_law_2078 : decode cL_law 2078 = .ok (.aload_n 3, 1) := by decide +kernel
theorem dL_law_2079 : decode cL_law 2079 = .ok (.invokestatic 259, 3) := by decide +kernel
theorem dL_law_2082 : decode cL_law 2082 = .ok (.istore 5, 2) := by decide +kernel
theorem dL_law_2084 : decode cL_law 2084 = .ok (.aload_n 2, 1) := by decide +kernel
theorem dL_law_2085 : decode cL_law 2085 = .ok (.aload_n 0, 1) := by decide +kernel
theorem dL_law_2086 : decode cL_law 2086 = .ok (.iload 4, 2) := by decide +kernel
theorem dL_law_2088 : decode cL_law 2088 = .ok (.iconst 1, 1) := by decide +kernel
theorem dL_law_2089 : decode cL_law 2089 = .ok (.iadd, 1) := by decide +kernel
theorem dL_law_2090 : decode cL_law 2090 = .ok (.iaload, 1) := by decide +kernel
theorem dL_law_2091 : decode cL_law 2091 = .ok (.aload_n 0, 1) := by decide +kernel
theorem dL_law_2092 : decode cL_law 2092 = .ok (.iload 4, 2) := by decide +kernel
theorem dL_law_2094 : decode cL_law 2094 = .ok (.iconst 2, 1) := by decide +kernel
theorem dL_law_2095 : decode cL_law 2095 = .ok (.iadd, 1) := by decide +kernel
theorem dL_law_2096 : decode cL_law 2096 = .ok (.iaload, 1) := by decide +kernel
theorem dL_law_2097 : decode cL_law 2097 = .ok (.invokevirtual 261, 3) := by decide +kernel
theorem dL_law_2100 : decode cL_law 2100 = .ok (.istore 6, 2) := by decide +kernel
theorem dL_law_2102 : decode cL_law 2102 = .ok (.aload_n 2, 1) := by decide +kernel
theorem dL_law_2103 : decode cL_law 2103 = .ok (.invokevirtual 114, 3) := by decide +kernel
theorem dL_law_2106 : decode cL_law 2106 = .ok (.iload 5, 2) := by decide +kernel
theorem dL_law_2108 : decode cL_law 2108 = .ok (.if_icmp .eq 5, 3) := by decide +kernel
theorem dL_law_2111 : decode cL_law 2111 = .ok (.iconst 0, 1) := by decide +kernel
theorem dL_law_2112 : decode cL_law 2112 = .ok (.ireturn, 1) := by decide +kernel
theorem dL_law_2113 : decode cL_law 2113 = .ok (.iload 5, 2) := by decide +kernel
theorem dL_law_2115 : decode cL_law 2115 = .ok (.ifCond .ne 15, 3) := by decide +kernel
theorem dL_law_2118 : decode cL_law 2118 = .ok (.aload_n 3, 1) := by decide +kernel
theorem dL_law_2119 : decode cL_law 2119 = .ok (.iconst 0, 1) := by decide +kernel
theorem dL_law_2120 : decode cL_law 2120 = .ok (.laload, 1) := by decide +kernel
theorem dL_law_2121 : decode cL_law 2121 = .ok (.iload 6, 2) := by decide +kernel
theorem dL_law_2123 : decode cL_law 2123 = .ok (.i2l, 1) := by decide +kernel
theorem dL_law_2124 : decode cL_law 2124 = .ok (.lcmp, 1) := by decide +kernel
theorem dL_law_2125 : decode cL_law 2125 = .ok (.ifCond .eq 5, 3) := by decide +kernel
theorem dL_law_2128 : decode cL_law 2128 = .ok (.iconst 0, 1) := by decide +kernel
theorem dL_law_2129 : decode cL_law 2129 = .ok (.ireturn, 1) := by decide +kernel
theorem dL_law_2130 : decode cL_law 2130 = .ok (.goto 250, 3) := by decide +kernel
theorem dL_law_2133 : decode cL_law 2133 = .ok (.aload_n 1, 1) := by decide +kernel
theorem dL_law_2134 : decode cL_law 2134 = .ok (.aload_n 0, 1) := by decide +kernel
theorem dL_law_2135 : decode cL_law 2135 = .ok (.iload 4, 2) := by decide +kernel
theorem dL_law_2137 : decode cL_law 2137 = .ok (.iconst 1, 1) := by decide +kernel
theorem dL_law_2138 : decode cL_law 2138 = .ok (.iadd, 1) := by decide +kernel
theorem dL_law_2139 : decode cL_law 2139 = .ok (.iaload, 1) := by decide +kernel
theorem dL_law_2140 : decode cL_law 2140 = .ok (.aload_n 3, 1) := by decide +kernel
theorem dL_law_2141 : decode cL_law 2141 = .ok (.invokestatic 262, 3) := by decide +kernel
theorem dL_law_2144 : decode cL_law 2144 = .ok (.istore 5, 2) := by decide +kernel
theorem dL_law_2146 : decode cL_law 2146 = .ok (.aload_n 2, 1) := by decide +kernel
theorem dL_law_2147 : decode cL_law 2147 = .ok (.aload_n 0, 1) := by decide +kernel
theorem dL_law_2148 : decode cL_law 2148 = .ok (.iload 4, 2) := by decide +kernel
theorem dL_law_2150 : decode cL_law 2150 = .ok (.iconst 1, 1) := by decide +kernel
theorem dL_law_2151 : decode cL_law 2151 = .ok (.iadd, 1) := by decide +kernel
theorem dL_law_2152 : decode cL_law 2152 = .ok (.iaload, 1) := by decide +kernel
theorem dL_law_2153 : decode cL_law 2153 = .ok (.invokevirtual 264, 3) := by decide +kernel
theorem dL_law_2156 : decode cL_law 2156 = .ok (.istore 6, 2) := by decide +kernel
theorem dL_law_2158 : decode cL_law 2158 = .ok (.aload_n 2, 1) := by decide +kernel
theorem dL_law_2159 : decode cL_law 2159 = .ok (.invokevirtual 114, 3) := by decide +kernel
theorem dL_law_2162 : decode cL_law 2162 = .ok (.iload 5, 2) := by decide +kernel
theorem dL_law_2164 : decode cL_law 2164 = .ok (.if_icmp .eq 5, 3) := by decide +kernel
theorem dL_law_2167 : decode cL_law 2167 = .ok (.iconst 0, 1) := by decide +kernel
theorem dL_law_2168 : decode cL_law 2168 = .ok (.ireturn, 1) := by decide +kernel
theorem dL_law_2169 : decode cL_law 2169 = .ok (.iload 5, 2) := by decide +kernel
theorem dL_law_2171 : decode cL_law 2171 = .ok (.ifCond .ne 15, 3) := by decide +kernel
theorem dL_law_2174 : decode cL_law 2174 = .ok (.aload_n 3, 1) := by decide +kernel
theorem dL_law_2175 : decode cL_law 2175 = .ok (.iconst 0, 1) := by decide +kernel
theorem dL_law_2176 : decode cL_law 2176 = .ok (.laload, 1) := by decide +kernel
theorem dL_law_2177 : decode cL_law 2177 = .ok (.iload 6, 2) := by decide +kernel
theorem dL_law_2179 : decode cL_law 2179 = .ok (.i2l, 1) := by decide +kernel
theorem dL_law_2180 : decode cL_law 2180 = .ok (.lcmp, 1) := by decide +kernel
theorem dL_law_2181 : decode cL_law 2181 = .ok (.ifCond .eq 5, 3) := by decide +kernel
theorem dL_law_2184 : decode cL_law 2184 = .ok (.iconst 0, 1) := by decide +kernel
theorem dL_law_2185 : decode cL_law 2185 = .ok (.ireturn, 1) := by decide +kernel
theorem dL_law_2186 : decode cL_law 2186 = .ok (.goto 194, 3) := by decide +kernel
theorem dL_law_2189 : decode cL_law 2189 = .ok (.aload_n 1, 1) := by decide +kernel
theorem dL_law_2190 : decode cL_law 2190 = .ok (.aload_n 0, 1) := by decide +kernel
theorem dL_law_2191 : decode cL_law 2191 = .ok (.iload 4, 2) := by decide +kernel
theorem dL_law_2193 : decode cL_law 2193 = .ok (.iconst 1, 1) := by decide +kernel
theorem dL_law_2194 : decode cL_law 2194 = .ok (.iadd, 1) := by decide +kernel
theorem dL_law_2195 : decode cL_law 2195 = .ok (.iaload, 1) := by decide +kernel
theorem dL_law_2196 : decode cL_law 2196 = .ok (.aload_n 0, 1) := by decide +kernel
theorem dL_law_2197 : decode cL_law 2197 = .ok (.iload 4, 2) := by decide +kernel
theorem dL_law_2199 : decode cL_law 2199 = .ok (.iconst 2, 1) := by decide +kernel
theorem dL_law_2200 : decode cL_law 2200 = .ok (.iadd, 1) := by decide +kernel
theorem dL_law_2201 : decode cL_law 2201 = .ok (.iaload, 1) := by decide +kernel
theorem dL_law_2202 : decode cL_law 2202 = .ok (.aload_n 3, 1) := by decide +kernel
theorem dL_law_2203 : decode cL_law 2203 = .ok (.invokestatic 265, 3) := by decide +kernel
theorem dL_law_2206 : decode cL_law 2206 = .ok (.istore 5, 2) := by decide +kernel
theorem dL_law_2208 : decode cL_law 2208 = .ok (.aload_n 2, 1) := by decide +kernel
theorem dL_law_2209 : decode cL_law 2209 = .ok (.aload_n 0, 1) := by decide +kernel
theorem dL_law_2210 : decode cL_law 2210 = .ok (.iload 4, 2) := by decide +kernel
theorem dL_law_2212 : decode cL_law 2212 = .ok (.iconst 1, 1) := by decide +kernel
theorem dL_law_2213 : decode cL_law 2213 = .ok (.iadd, 1) := by decide +kernel
theorem dL_law_2214 : decode cL_law 2214 = .ok (.iaload, 1) := by decide +kernel
theorem dL_law_2215 : decode cL_law 2215 = .ok (.aload_n 0, 1) := by decide +kernel
theorem dL_law_2216 : decode cL_law 2216 = .ok (.iload 4, 2) := by decide +kernel
theorem dL_law_2218 : decode cL_law 2218 = .ok (.iconst 2, 1) := by decide +kernel
theorem dL_law_2219 : decode cL_law 2219 = .ok (.iadd, 1) := by decide +kernel
theorem dL_law_2220 : decode cL_law 2220 = .ok (.iaload, 1) := by decide +kernel
theorem dL_law_2221 : decode cL_law 2221 = .ok (.invokevirtual 267, 3) := by decide +kernel
theorem dL_law_2224 : decode cL_law 2224 = .ok (.istore 6, 2) := by decide +kernel
theorem dL_law_2226 : decode cL_law 2226 = .ok (.aload_n 2, 1) := by decide +kernel
theorem dL_law_2227 : decode cL_law 2227 = .ok (.invokevirtual 114, 3) := by decide +kernel
theorem dL_law_2230 : decode cL_law 2230 = .ok (.iload 5, 2) := by decide +kernel
theorem dL_law_2232 : decode cL_law 2232 = .ok (.if_icmp .eq 5, 3) := by decide +kernel
theorem dL_law_2235 : decode cL_law 2235 = .ok (.iconst 0, 1) := by decide +kernel
theorem dL_law_2236 : decode cL_law 2236 = .ok (.ireturn, 1) := by decide +kernel
theorem dL_law_2237 : decode cL_law 2237 = .ok (.iload 5, 2) := by decide +kernel
theorem dL_law_2239 : decode cL_law 2239 = .ok (.ifCond .ne 15, 3) := by decide +kernel
theorem dL_law_2242 : decode cL_law 2242 = .ok (.aload_n 3, 1) := by decide +kernel
theorem dL_law_2243 : decode cL_law 2243 = .ok (.iconst 0, 1) := by decide +kernel
theorem dL_law_2244 : decode cL_law 2244 = .ok (.laload, 1) := by decide +kernel
theorem dL_law_2245 : decode cL_law 2245 = .ok (.iload 6, 2) := by decide +kernel
theorem dL_law_2247 : decode cL_law 2247 = .ok (.i2l, 1) := by decide +kernel
theorem dL_law_2248 : decode cL_law 2248 = .ok (.lcmp, 1) := by decide +kernel
theorem dL_law_2249 : decode cL_law 2249 = .ok (.ifCond .eq 5, 3) := by decide +kernel
theorem dL_law_2252 : decode cL_law 2252 = .ok (.iconst 0, 1) := by decide +kernel
theorem dL_law_2253 : decode cL_law 2253 = .ok (.ireturn, 1) := by decide +kernel
theorem dL_law_2254 : decode cL_law 2254 = .ok (.goto 126, 3) := by decide +kernel
theorem dL_law_2257 : decode cL_law 2257 = .ok (.aload_n 1, 1) := by decide +kernel
theorem dL_law_2258 : decode cL_law 2258 = .ok (.invokevirtual 268, 3) := by decide +kernel
theorem dL_law_2261 : decode cL_law 2261 = .ok (.aload_n 2, 1) := by decide +kernel
theorem dL_law_2262 : decode cL_law 2262 = .ok (.invokevirtual 271, 3) := by decide +kernel
theorem dL_law_2265 : decode cL_law 2265 = .ok (.if_icmp .eq 115, 3) := by decide +kernel
theorem dL_law_2268 : decode cL_law 2268 = .ok (.iconst 0, 1) := by decide +kernel
theorem dL_law_2269 : decode cL_law 2269 = .ok (.ireturn, 1) := by decide +kernel
theorem dL_law_2270 : decode cL_law 2270 = .ok (.aload_n 1, 1) := by decide +kernel
theorem dL_law_2271 : decode cL_law 2271 = .ok (.invokevirtual 272, 3) := by decide +kernel
theorem dL_law_2274 : decode cL_law 2274 = .ok (.aload_n 2, 1) := by decide +kernel
theorem dL_law_2275 : decode cL_law 2275 = .ok (.invokevirtual 275, 3) := by decide +kernel
theorem dL_law_2278 : decode cL_law 2278 = .ok (.if_icmp .eq 102, 3) := by decide +kernel
theorem dL_law_2281 : decode cL_law 2281 = .ok (.iconst 0, 1) := by decide +kernel
theorem dL_law_2282 : decode cL_law 2282 = .ok (.ireturn, 1) := by decide +kernel
theorem dL_law_2283 : decode cL_law 2283 = .ok (.aload_n 1, 1) := by decide +kernel
theorem dL_law_2284 : decode cL_law 2284 = .ok (.invokevirtual 276, 3) := by decide +kernel
theorem dL_law_2287 : decode cL_law 2287 = .ok (.dstore 5, 2) := by decide +kernel
theorem dL_law_2289 : decode cL_law 2289 = .ok (.aload_n 2, 1) := by decide +kernel
theorem dL_law_2290 : decode cL_law 2290 = .ok (.invokevirtual 280, 3) := by decide +kernel
theorem dL_law_2293 : decode cL_law 2293 = .ok (.dstore 7, 2) := by decide +kernel
theorem dL_law_2295 : decode cL_law 2295 = .ok (.dload 5, 2) := by decide +kernel
theorem dL_law_2297 : decode cL_law 2297 = .ok (.dload 7, 2) := by decide +kernel
theorem dL_law_2299 : decode cL_law 2299 = .ok (.dcmp .l, 1) := by decide +kernel
theorem dL_law_2300 : decode cL_law 2300 = .ok (.ifCond .eq 21, 3) := by decide +kernel
theorem dL_law_2303 : decode cL_law 2303 = .ok (.dload 5, 2) := by decide +kernel
theorem dL_law_2305 : decode cL_law 2305 = .ok (.dload 5, 2) := by decide +kernel
theorem dL_law_2307 : decode cL_law 2307 = .ok (.dcmp .l, 1) := by decide +kernel
theorem dL_law_2308 : decode cL_law 2308 = .ok (.ifCond .eq 11, 3) := by decide +kernel
theorem dL_law_2311 : decode cL_law 2311 = .ok (.dload 7, 2) := by decide +kernel
theorem dL_law_2313 : decode cL_law 2313 = .ok (.dload 7, 2) := by decide +kernel
theorem dL_law_2315 : decode cL_law 2315 = .ok (.dcmp .l, 1) := by decide +kernel
theorem dL_law_2316 : decode cL_law 2316 = .ok (.ifCond .ne 5, 3) := by decide +kernel
theorem dL_law_2319 : decode cL_law 2319 = .ok (.iconst 0, 1) := by decide +kernel
theorem dL_law_2320 : decode cL_law 2320 = .ok (.ireturn, 1) := by decide +kernel
theorem dL_law_2321 : decode cL_law 2321 = .ok (.goto 59, 3) := by decide +kernel
theorem dL_law_2324 : decode cL_law 2324 = .ok (.aload_n 1, 1) := by decide +kernel
theorem dL_law_2325 : decode cL_law 2325 = .ok (.invokevirtual 281, 3) := by decide +kernel
theorem dL_law_2328 : decode cL_law 2328 = .ok (.f2d, 1) := by decide +kernel
theorem dL_law_2329 : decode cL_law 2329 = .ok (.dstore 5, 2) := by decide +kernel
theorem dL_law_2331 : decode cL_law 2331 = .ok (.aload_n 2, 1) := by decide +kernel
theorem dL_law_2332 : decode cL_law 2332 = .ok (.invokevirtual 285, 3) := by decide +kernel
theorem dL_law_2335 : decode cL_law 2335 = .ok (.f2d, 1) := by decide +kernel
theorem dL_law_2336 : decode cL_law 2336 = .ok (.dstore 7, 2) := by decide +kernel
theorem dL_law_2338 : decode cL_law 2338 = .ok (.dload 5, 2) := by decide +kernel
theorem dL_law_2340 : decode cL_law 2340 = .ok (.dload 7, 2) := by decide +kernel
theorem dL_law_2342 : decode cL_law 2342 = .ok (.dcmp .l, 1) := by decide +kernel
theorem dL_law_2343 : decode cL_law 2343 = .ok (.ifCond .eq 21, 3) := by decide +kernel
theorem dL_law_2346 : decode cL_law 2346 = .ok (.dload 5, 2) := by decide +kernel
theorem dL_law_2348 : decode cL_law 2348 = .ok (.dload 5, 2) := by decide +kernel
theorem dL_law_2350 : decode cL_law 2350 = .ok (.dcmp .l, 1) := by decide +kernel
theorem dL_law_2351 : decode cL_law 2351 = .ok (.ifCond .eq 11, 3) := by decide +kernel
theorem dL_law_2354 : decode cL_law 2354 = .ok (.dload 7, 2) := by decide +kernel
theorem dL_law_2356 : decode cL_law 2356 = .ok (.dload 7, 2) := by decide +kernel
theorem dL_law_2358 : decode cL_law 2358 = .ok (.dcmp .l, 1) := by decide +kernel
theorem dL_law_2359 : decode cL_law 2359 = .ok (.ifCond .ne 5, 3) := by decide +kernel
theorem dL_law_2362 : decode cL_law 2362 = .ok (.iconst 0, 1) := by decide +kernel
theorem dL_law_2363 : decode cL_law 2363 = .ok (.ireturn, 1) := by decide +kernel
theorem dL_law_2364 : decode cL_law 2364 = .ok (.goto 16, 3) := by decide +kernel
theorem dL_law_2367 : decode cL_law 2367 = .ok (.aload_n 1, 1) := by decide +kernel
theorem dL_law_2368 : decode cL_law 2368 = .ok (.invokevirtual 286, 3) := by decide +kernel
theorem dL_law_2371 : decode cL_law 2371 = .ok (.aload_n 2, 1) := by decide +kernel
theorem dL_law_2372 : decode cL_law 2372 = .ok (.invokevirtual 289, 3) := by decide +kernel
theorem dL_law_2375 : decode cL_law 2375 = .ok (.if_icmp .eq 5, 3) := by decide +kernel
theorem dL_law_2378 : decode cL_law 2378 = .ok (.iconst 0, 1) := by decide +kernel
theorem dL_law_2379 : decode cL_law 2379 = .ok (.ireturn, 1) := by decide +kernel
theorem dL_law_2380 : decode cL_law 2380 = .ok (.iinc 4 6, 3) := by decide +kernel
theorem dL_law_2383 : decode cL_law 2383 = .ok (.goto (-2360), 3) := by decide +kernel
theorem dL_law_2386 : decode cL_law 2386 = .ok (.iconst 1, 1) := by decide +kernel
theorem dL_law_2387 : decode cL_law 2387 = .ok (.ireturn, 1) := by decide +kernel
