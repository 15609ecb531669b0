theorem dX12_rounds_28 : decode cX12_rounds 28 = .ok (.aload_n 0, 1) := by decide +kernel
theorem dX12_rounds_29 : decode cX12_rounds 29 = .ok (.getfield 17, 3) := by decide +kernel
theorem dX12_rounds_32 : decode cX12_rounds 32 = .ok (.bipush 10, 2) := by decide +kernel
theorem dX12_rounds_34 : decode cX12_rounds 34 = .ok (.iaload, 1) := by decide +kernel
theorem dX12_rounds_35 : decode cX12_rounds 35 = .ok (.ifCond .le 34, 3) := by decide +kernel
theorem dX12_rounds_38 : decode cX12_rounds 38 = .ok (.iload_n 1, 1) := by decide +kernel
theorem dX12_rounds_39 : decode cX12_rounds 39 = .ok (.bipush 12, 2) := by decide +kernel
theorem dX12_rounds_41 : decode cX12_rounds 41 = .ok (.if_icmp .ne 15, 3) := by decide +kernel
theorem dX12_rounds_44 : decode cX12_rounds 44 = .ok (.aload_n 0, 1) := by decide +kernel
theorem dX12_rounds_45 : decode cX12_rounds 45 = .ok (.getfield 20, 3) := by decide +kernel
theorem dX12_rounds_48 : decode cX12_rounds 48 = .ok (.iload_n 2, 1) := by decide +kernel
theorem dX12_rounds_49 : decode cX12_rounds 49 = .ok (.iaload, 1) := by decide +kernel
theorem dX12_rounds_50 : decode cX12_rounds 50 = .ok (.ifCond .ge 19, 3) := by decide +kernel
theorem dX12_rounds_53 : decode cX12_rounds 53 = .ok (.goto 12, 3) := by decide +kernel
theorem dX12_rounds_56 : decode cX12_rounds 56 = .ok (.aload_n 0, 1) := by decide +kernel
theorem dX12_rounds_57 : decode cX12_rounds 57 = .ok (.getfield 20, 3) := by decide +kernel
theorem dX12_rounds_60 : decode cX12_rounds 60 = .ok (.iload_n 2, 1) := by decide +kernel
theorem dX12_rounds_61 : decode cX12_rounds 61 = .ok (.iaload, 1) := by decide +kernel
theorem dX12_rounds_62 : decode cX12_rounds 62 = .ok (.ifCond .le 7, 3) := by decide +kernel
theorem dX12_rounds_65 : decode cX12_rounds 65 = .ok (.iconst 1, 1) := by decide +kernel
theorem dX12_rounds_66 : decode cX12_rounds 66 = .ok (.goto 4, 3) := by decide +kernel
theorem dX12_rounds_69 : decode cX12_rounds 69 = .ok (.iconst 0, 1) := by decide +kernel
theorem dX12_rounds_70 : decode cX12_rounds 70 = .ok (.istore_n 3, 1) := by decide +kernel
theorem dX12_rounds_71 : decode cX12_rounds 71 = .ok (.iload_n 1, 1) := by decide +kernel
theorem dX12_rounds_72 : decode cX12_rounds 72 = .ok (.bipush 14, 2) := by decide +kernel
theorem dX12_rounds_74 : decode cX12_rounds 74 = .ok (.if_icmp .ne 48, 3) := by decide +kernel
theorem dX12_rounds_77 : decode cX12_rounds 77 = .ok (.aload_n 0, 1) := by decide +kernel
theorem dX12_rounds_78 : decode cX12_rounds 78 = .ok (.bipush 10, 2) := by decide +kernel
theorem dX12_rounds_80 : decode cX12_rounds 80 = .ok (.iconst 2, 1) := by decide +kernel
theorem dX12_rounds_81 : decode cX12_rounds 81 = .ok (.invokevirtual 194, 3) := by decide +kernel
theorem dX12_rounds_84 : decode cX12_rounds 84 = .ok (.aload_n 0, 1) := by decide +kernel
theorem dX12_rounds_85 : decode cX12_rounds 85 = .ok (.bipush 10, 2) := by decide +kernel
theorem dX12_rounds_87 : decode cX12_rounds 87 = .ok (.iconst 1, 1) := by decide +kernel
theorem dX12_rounds_88 : decode cX12_rounds 88 = .ok (.invokevirtual 185, 3) := by decide +kernel
theorem dX12_rounds_91 : decode cX12_rounds 91 = .ok (.istore 4, 2) := by decide +kernel
theorem dX12_rounds_93 : decode cX12_rounds 93 = .ok (.iload 4, 2) := by decide +kernel
theorem dX12_rounds_95 : decode cX12_rounds 95 = .ok (.ifCond .gt 21, 3) := by decide +kernel
theorem dX12_rounds_98 : decode cX12_rounds 98 = .ok (.iload 4, 2) := by decide +kernel
theorem dX12_rounds_100 : decode cX12_rounds 100 = .ok (.ifCond .ne 20, 3) := by decide +kernel
theorem dX12_rounds_103 : decode cX12_rounds 103 = .ok (.aload_n 0, 1) := by decide +kernel
theorem dX12_rounds_104 : decode cX12_rounds 104 = .ok (.bipush 6, 2) := by decide +kernel
theorem dX12_rounds_106 : decode cX12_rounds 106 = .ok (.iconst 0, 1) := by decide +kernel
theorem dX12_rounds_107 : decode cX12_rounds 107 = .ok (.invokevirtual 173, 3) := by decide +kernel
theorem dX12_rounds_110 : decode cX12_rounds 110 = .ok (.iconst 2, 1) := by decide +kernel
theorem dX12_rounds_111 : decode cX12_rounds 111 = .ok (.irem, 1) := by decide +kernel
theorem dX12_rounds_112 : decode cX12_rounds 112 = .ok (.iconst 1, 1) := by decide +kernel
theorem dX12_rounds_113 : decode cX12_rounds 113 = .ok (.if_icmp .ne 7, 3) := by decide +kernel
theorem dX12_rounds_116 : decode cX12_rounds 116 = .ok (.iconst 1, 1) := by decide +kernel
theorem dX12_rounds_117 : decode cX12_rounds 117 = .ok (.goto 4, 3) := by decide +kernel
theorem dX12_rounds_120 : decode cX12_rounds 120 = .ok (.iconst 0, 1) := by decide +kernel
theorem dX12_rounds_121 : decode cX12_rounds 121 = .ok (.istore_n 3, 1) := by decide +kernel
theorem dX12_rounds_122 : decode cX12_rounds 122 = .ok (.aload_n 0, 1) := by decide +kernel
theorem dX12_rounds_123 : decode cX12_rounds 123 = .ok (.iconst 4, 1) := by decide +kernel
theorem dX12_rounds_124 : decode cX12_rounds 124 = .ok (.iconst 1, 1) := by decide +kernel
theorem dX12_rounds_125 : decode cX12_rounds 125 = .ok (.invokevirtual 191, 3) := by decide +kernel
theorem dX12_rounds_128 : decode cX12_rounds 128 = .ok (.iload_n 3, 1) := by decide +kernel
theorem dX12_rounds_129 : decode cX12_rounds 129 = .ok (.ifCond .eq 10, 3) := by decide +kernel
theorem dX12_rounds_132 : decode cX12_rounds 132 = .ok (.aload_n 0, 1) := by decide +kernel
theorem dX12_rounds_133 : decode cX12_rounds 133 = .ok (.bipush 6, 2) := by decide +kernel
theorem dX12_rounds_135 : decode cX12_rounds 135 = .ok (.iconst 4, 1) := by decide +kernel
theorem dX12_rounds_136 : decode cX12_rounds 136 = .ok (.invokevirtual 239, 3) := by decide +kernel
theorem dX12_rounds_139 : decode cX12_rounds 139 = .ok (.aload_n 0, 1) := by decide +kernel
theorem dX12_rounds_140 : decode cX12_rounds 140 = .ok (.bipush 7, 2) := by decide +kernel
theorem dX12_rounds_142 : decode cX12_rounds 142 = .ok (.iconst 1, 1) := by decide +kernel
theorem dX12_rounds_143 : decode cX12_rounds 143 = .ok (.invokevirtual 191, 3) := by decide +kernel
theorem dX12_rounds_146 : decode cX12_rounds 146 = .ok (.return_, 1) := by decide +kernel
theorem dX12_remains_0 : decode cX12_remains 0 = .ok (.aload_n 0, 1) := by decide +kernel
theorem dX12_remains_1 : decode cX12_remains 1 = .ok (.iload_n 1, 1) := by decide +kernel
theorem dX12_remains_2 : decode cX12_remains 2 = .ok (.iload_n 2, 1) := by decide +kernel
theorem dX12_remains_3 : decode cX12_remains 3 = .ok (.invokevirtual 232, 3) := by decide +kernel
theorem dX12_remains_6 : decode cX12_remains 6 = .ok (.aload_n 0, 1) := by decide +kernel
theorem dX12_remains_7 : decode cX12_remains 7 = .ok (.iconst 4, 1) := by decide +kernel
theorem dX12_remains_8 : decode cX12_remains 8 = .ok (.iconst 0, 1) := by decide +kernel
theorem dX12_remains_9 : decode cX12_remains 9 = .ok (.iconst 3, 1) := by decide +kernel
theorem dX12_remains_10 : decode cX12_remains 10 = .ok (.invokevirtual 235, 3) := by decide +kernel
theorem dX12_remains_13 : decode cX12_remains 13 = .ok (.aload_n 0, 1) := by decide +kernel
theorem dX12_remains_14 : decode cX12_remains 14 = .ok (.iconst 5, 1) := by decide +kernel
theorem dX12_remains_15 : decode cX12_remains 15 = .ok (.iconst 2, 1) := by decide +kernel
theorem dX12_remains_16 : decode cX12_remains 16 = .ok (.iconst 1, 1) := by decide +kernel
theorem dX12_remains_17 : decode cX12_remains 17 = .ok (.invokevirtual 235, 3) := by decide +kernel
theorem dX12_remains_20 : decode cX12_remains 20 = .ok (.aload_n 0, 1) := by decide +kernel
theorem dX12_remains_21 : decode cX12_remains 21 = .ok (.bipush 7, 2) := by decide +kernel
theorem dX12_remains_23 : decode cX12_remains 23 = .ok (.iconst 1, 1) := by decide +kernel
theorem dX12_remains_24 : decode cX12_remains 24 = .ok (.iconst 3, 1) := by decide +kernel
theorem dX12_remains_25 : decode cX12_remains 25 = .ok (.invokevirtual 235, 3) := by decide +kernel
theorem dX12_remains_28 : decode cX12_remains 28 = .ok (.aload_n 0, 1) := by decide +kernel
theorem dX12_remains_29 : decode cX12_remains 29 = .ok (.iconst 4, 1) := by decide +kernel
theorem dX12_remains_30 : decode cX12_remains 30 = .ok (.iconst 5, 1) := by decide +kernel
theorem dX12_remains_31 : decode cX12_remains 31 = .ok (.invokevirtual 204, 3) := by decide +kernel
theorem dX12_remains_34 : decode cX12_remains 34 = .ok (.aload_n 0, 1) := by decide +kernel
theorem dX12_remains_35 : decode cX12_remains 35 = .ok (.bipush 6, 2) := by decide +kernel
theorem dX12_remains_37 : decode cX12_remains 37 = .ok (.bipush 10, 2) := by decide +kernel
theorem dX12_remains_39 : decode cX12_remains 39 = .ok (.invokevirtual 181, 3) := by decide +kernel
theorem dX12_remains_42 : decode cX12_remains 42 = .ok (.aload_n 0, 1) := by decide +kernel
theorem dX12_remains_43 : decode cX12_remains 43 = .ok (.getfield 17, 3) := by decide +kernel
theorem dX12_remains_46 : decode cX12_remains 46 = .ok (.bipush 6, 2) := by decide +kernel
theorem dX12_remains_48 : decode cX12_remains 48 = .ok (.iaload, 1) := by decide +kernel
theorem dX12_remains_49 : decode cX12_remains 49 = .ok (.ifCond .le 33, 3) := by decide +kernel
theorem dX12_remains_52 : decode cX12_remains 52 = .ok (.aload_n 0, 1) := by decide +kernel
theorem dX12_remains_53 : decode cX12_remains 53 = .ok (.getfield 20, 3) := by decide +kernel
theorem dX12_remains_56 : decode cX12_remains 56 = .ok (.iload_n 1, 1) := by decide +kernel
theorem dX12_remains_57 : decode cX12_remains 57 = .ok (.iaload, 1) := by decide +kernel
theorem dX12_remains_58 : decode cX12_remains 58 = .ok (.aload_n 0, 1) := by decide +kernel
theorem dX12_remains_59 : decode cX12_remains 59 = .ok (.getfield 20, 3) := by decide +kernel
theorem dX12_remains_62 : decode cX12_remains 62 = .ok (.iload_n 2, 1) := by decide +kernel
theorem dX12_remains_63 : decode cX12_remains 63 = .ok (.iaload, 1) := by decide +kernel
theorem dX12_remains_64 : decode cX12_remains 64 = .ok (.if_icmp .eq 18, 3) := by decide +kernel
theorem dX12_remains_67 : decode cX12_remains 67 = .ok (.aload_n 0, 1) := by decide +kernel
theorem dX12_remains_68 : decode cX12_remains 68 = .ok (.bipush 6, 2) := by decide +kernel
theorem dX12_remains_70 : decode cX12_remains 70 = .ok (.iconst 5, 1) := by decide +kernel
theorem dX12_remains_71 : decode cX12_remains 71 = .ok (.invokevirtual 181, 3) := by decide +kernel
theorem dX12_remains_74 : decode cX12_remains 74 = .ok (.aload_n 0, 1) := by decide +kernel
theorem dX12_remains_75 : decode cX12_remains 75 = .ok (.bipush 6, 2) := by decide +kernel
theorem dX12_remains_77 : decode cX12_remains 77 = .ok (.bipush 10, 2) := by decide +kernel
theorem dX12_remains_79 : decode cX12_remains 79 = .ok (.invokevirtual 242, 3) := by decide +kernel
theorem dX12_remains_82 : decode cX12_remains 82 = .ok (.aload_n 0, 1) := by decide +kernel
theorem dX12_remains_83 : decode cX12_remains 83 = .ok (.getfield 20, 3) := by decide +kernel
theorem dX12_remains_86 : decode cX12_remains 86 = .ok (.iload_n 2, 1) := by decide +kernel
theorem dX12_remains_87 : decode cX12_remains 87 = .ok (.iaload, 1) := by decide +kernel
theorem dX12_remains_88 : decode cX12_remains 88 = .ok (.ireturn, 1) := by decide +kernel
theorem dX12_powers_0 : decode cX12_powers 0 = .ok (.iload_n 2, 1) := by decide +kernel
theorem dX12_powers_1 : decode cX12_powers 1 = .ok (.ifCond .ge 9, 3) := by decide +kernel
theorem dX12_powers_4 : decode cX12_powers 4 = .ok (.iconst 0, 1) := by decide +kernel
theorem dX12_powers_5 : decode cX12_powers 5 = .ok (.iload_n 2, 1) := by decide +kernel
theorem dX12_powers_6 : decode cX12_powers 6 = .ok (.isub, 1) := by decide +kernel
theorem dX12_powers_7 : decode cX12_powers 7 = .ok (.goto 4, 3) := by decide +kernel
theorem dX12_powers_10 : decode cX12_powers 10 = .ok (.iload_n 2, 1) := by decide +kernel
theorem dX12_powers_11 : decode cX12_powers 11 = .ok (.istore_n 3, 1) := by decide +kernel
theorem dX12_powers_12 : decode cX12_powers 12 = .ok (.aload_n 0, 1) := by decide +kernel
theorem dX12_powers_13 : decode cX12_powers 13 = .ok (.iconst 0, 1) := by decide +kernel
theorem dX12_powers_14 : decode cX12_powers 14 = .ok (.iload_n 1, 1) := by decide +kernel
theorem dX12_powers_15 : decode cX12_powers 15 = .ok (.iload_n 2, 1) := by decide +kernel
theorem dX12_powers_16 : decode cX12_powers 16 = .ok (.ifCond .ge 7, 3) := by decide +kernel
theorem dX12_powers_19 : decode cX12_powers 19 = .ok (.iconst 1, 1) := by decide +kernel
theorem dX12_powers_20 : decode cX12_powers 20 = .ok (.goto 4, 3) := by decide +kernel
theorem dX12_powers_23 : decode cX12_powers 23 = .ok (.iconst 0, 1) := by decide +kernel
theorem dX12_powers_24 : decode cX12_powers 24 = .ok (.invokevirtual 228, 3) := by decide +kernel
theorem dX12_powers_27 : decode cX12_powers 27 = .ok (.aload_n 0, 1) := by decide +kernel
theorem dX12_powers_28 : decode cX12_powers 28 = .ok (.iconst 1, 1) := by decide +kernel
theorem dX12_powers_29 : decode cX12_powers 29 = .ok (.iload_n 1, 1) := by decide +kernel
theorem dX12_powers_30 : decode cX12_powers 30 = .ok (.iload_n 2, 1) := by decide +kernel
theorem dX12_powers_31 : decode cX12_powers 31 = .ok (.ifCond .lt 7, 3) := by decide +kernel
theorem dX12_powers_34 : decode cX12_powers 34 = .ok (.iconst 1, 1) := by decide +kernel
theorem dX12_powers_35 : decode cX12_powers 35 = .ok (.goto 4, 3) := by decide +kernel
theorem dX12_powers_38 : decode cX12_powers 38 = .ok (.iconst 0, 1) := by decide +kernel
theorem dX12_powers_39 : decode cX12_powers 39 = .ok (.invokevirtual 228, 3) := by decide +kernel
theorem dX12_powers_42 : decode cX12_powers 42 = .ok (.aload_n 0, 1) := by decide +kernel
theorem dX12_powers_43 : decode cX12_powers 43 = .ok (.bipush 6, 2) := by decide +kernel
theorem dX12_powers_45 : decode cX12_powers 45 = .ok (.iconst 1, 1) := by decide +kernel
theorem dX12_powers_46 : decode cX12_powers 46 = .ok (.invokevirtual 191, 3) := by decide +kernel
theorem dX12_powers_49 : decode cX12_powers 49 = .ok (.aload_n 0, 1) := by decide +kernel
theorem dX12_powers_50 : decode cX12_powers 50 = .ok (.bipush 7, 2) := by decide +kernel
theorem dX12_powers_52 : decode cX12_powers 52 = .ok (.iconst 1, 1) := by decide +kernel
theorem dX12_powers_53 : decode cX12_powers 53 = .ok (.invokevirtual 191, 3) := by decide +kernel
theorem dX12_powers_56 : decode cX12_powers 56 = .ok (.iconst 0, 1) := by decide +kernel
theorem dX12_powers_57 : decode cX12_powers 57 = .ok (.istore 4, 2) := by decide +kernel
theorem dX12_powers_59 : decode cX12_powers 59 = .ok (.iload 4, 2) := by decide +kernel
theorem dX12_powers_61 : decode cX12_powers 61 = .ok (.iload_n 3, 1) := by decide +kernel
theorem dX12_powers_62 : decode cX12_powers 62 = .ok (.if_icmp .ge 57, 3) := by decide +kernel
theorem dX12_powers_65 : decode cX12_powers 65 = .ok (.aload_n 0, 1) := by decide +kernel
theorem dX12_powers_66 : decode cX12_powers 66 = .ok (.bipush 6, 2) := by decide +kernel
theorem dX12_powers_68 : decode cX12_powers 68 = .ok (.invokevirtual 213, 3) := by decide +kernel
theorem dX12_powers_71 : decode cX12_powers 71 = .ok (.ifCond .eq 48, 3) := by decide +kernel
theorem dX12_powers_74 : decode cX12_powers 74 = .ok (.aload_n 0, 1) := by decide +kernel
theorem dX12_powers_75 : decode cX12_powers 75 = .ok (.bipush 7, 2) := by decide +kernel
theorem dX12_powers_77 : decode cX12_powers 77 = .ok (.invokevirtual 213, 3) := by decide +kernel
theorem dX12_powers_80 : decode cX12_powers 80 = .ok (.ifCond .eq 39, 3) := by decide +kernel
theorem dX12_powers_83 : decode cX12_powers 83 = .ok (.aload_n 0, 1) := by decide +kernel
theorem dX12_powers_84 : decode cX12_powers 84 = .ok (.iconst 4, 1) := by decide +kernel
theorem dX12_powers_85 : decode cX12_powers 85 = .ok (.bipush 6, 2) := by decide +kernel
theorem dX12_powers_87 : decode cX12_powers 87 = .ok (.iconst 0, 1) := by decide +kernel
theorem dX12_powers_88 : decode cX12_powers 88 = .ok (.invokevirtual 235, 3) := by decide +kernel
theorem dX12_powers_91 : decode cX12_powers 91 = .ok (.aload_n 0, 1) := by decide +kernel
theorem dX12_powers_92 : decode cX12_powers 92 = .ok (.bipush 6, 2) := by decide +kernel
theorem dX12_powers_94 : decode cX12_powers 94 = .ok (.iconst 4, 1) := by decide +kernel
theorem dX12_powers_95 : decode cX12_powers 95 = .ok (.invokevirtual 181, 3) := by decide +kernel
theorem dX12_powers_98 : decode cX12_powers 98 = .ok (.aload_n 0, 1) := by decide +kernel
theorem dX12_powers_99 : decode cX12_powers 99 = .ok (.iconst 4, 1) := by decide +kernel
theorem dX12_powers_100 : decode cX12_powers 100 = .ok (.bipush 7, 2) := by decide +kernel
theorem dX12_powers_102 : decode cX12_powers 102 = .ok (.iconst 1, 1) := by decide +kernel
theorem dX12_powers_103 : decode cX12_powers 103 = .ok (.invokevirtual 235, 3) := by decide +kernel
theorem dX12_powers_106 : decode cX12_powers 106 = .ok (.aload_n 0, 1) := by decide +kernel
theorem dX12_powers_107 : decode cX12_powers 107 = .ok (.bipush 7, 2) := by decide +kernel
theorem dX12_powers_109 : decode cX12_powers 109 = .ok (.iconst 4, 1) := by decide +kernel
theorem dX12_powers_110 : decode cX12_powers 110 = .ok (.invokevirtual 181, 3) := by decide +kernel
theorem dX12_powers_113 : decode cX12_powers 113 = .ok (.iinc 4 1, 3) := by decide +kernel
theorem dX12_powers_116 : decode cX12_powers 116 = .ok (.goto (-57), 3) := by decide +kernel
theorem dX12_powers_119 : decode cX12_powers 119 = .ok (.aload_n 0, 1) := by decide +kernel
theorem dX12_powers_120 : decode cX12_powers 120 = .ok (.getfield 20, 3) := by decide +kernel
theorem dX12_powers_123 : decode cX12_powers 123 = .ok (.iload_n 1, 1) := by decide +kernel
theorem dX12_powers_124 : decode cX12_powers 124 = .ok (.iaload, 1) := by decide +kernel
theorem dX12_powers_125 : decode cX12_powers 125 = .ok (.ifCond .ge 14, 3) := by decide +kernel
theorem dX12_powers_128 : decode cX12_powers 128 = .ok (.iload_n 3, 1) := by decide +kernel
theorem dX12_powers_129 : decode cX12_powers 129 = .ok (.iconst 2, 1) := by decide +kernel
theorem dX12_powers_130 : decode cX12_powers 130 = .ok (.irem, 1) := by decide +kernel
theorem dX12_powers_131 : decode cX12_powers 131 = .ok (.iconst 1, 1) := by decide +kernel
theorem dX12_powers_132 : decode cX12_powers 132 = .ok (.if_icmp .ne 7, 3) := by decide +kernel
theorem dX12_powers_135 : decode cX12_powers 135 = .ok (.iconst (-1), 1) := by decide +kernel
theorem dX12_powers_136 : decode cX12_powers 136 = .ok (.goto 4, 3) := by decide +kernel
theorem dX12_powers_139 : decode cX12_powers 139 = .ok (.iconst 1, 1) := by decide +kernel
theorem dX12_powers_140 : decode cX12_powers 140 = .ok (.ireturn, 1) := by decide +kernel
theorem dX12_cause_0 : decode cX12_cause 0 = .ok (.iload_n 1, 1) := by decide +kernel
theorem dX12_cause_1 : decode cX12_cause 1 = .ok (.bipush 6, 2) := by decide +kernel
theorem dX12_cause_3 : decode cX12_cause 3 = .ok (.if_icmp .ne 29, 3) := by decide +kernel
theorem dX12_cause_6 : decode cX12_cause 6 = .ok (.aload_n 0, 1) := by decide +kernel
theorem dX12_cause_7 : decode cX12_cause 7 = .ok (.iload_n 3, 1) := by decide +kernel
theorem dX12_cause_8 : decode cX12_cause 8 = .ok (.invokevirtual 245, 3) := by decide +kernel
theorem dX12_cause_11 : decode cX12_cause 11 = .ok (.ifCond .eq 18, 3) := by decide +kernel
theorem dX12_cause_14 : decode cX12_cause 14 = .ok (.aload_n 0, 1) := by decide +kernel
theorem dX12_cause_15 : decode cX12_cause 15 = .ok (.iload_n 3, 1) := by decide +kernel
theorem dX12_cause_16 : decode cX12_cause 16 = .ok (.invokevirtual 248, 3) := by decide +kernel
theorem dX12_cause_19 : decode cX12_cause 19 = .ok (.bipush (-100), 2) := by decide +kernel
theorem dX12_cause_21 : decode cX12_cause 21 = .ok (.bipush 100, 2) := by decide +kernel
theorem dX12_cause_23 : decode cX12_cause 23 = .ok (.invokestatic 251, 3) := by decide +kernel
theorem dX12_cause_26 : decode cX12_cause 26 = .ok (.ifCond .ne 6, 3) := by decide +kernel
theorem dX12_cause_29 : decode cX12_cause 29 = .ok (.bipush 6, 2) := by decide +kernel
theorem dX12_cause_31 : decode cX12_cause 31 = .ok (.ireturn, 1) := by decide +kernel
theorem dX12_cause_32 : decode cX12_cause 32 = .ok (.iload_n 1, 1) := by decide +kernel
theorem dX12_cause_33 : decode cX12_cause 33 = .ok (.bipush 7, 2) := by decide +kernel
theorem dX12_cause_35 : decode cX12_cause 35 = .ok (.if_icmp .ne 23, 3) := by decide +kernel
theorem dX12_cause_38 : decode cX12_cause 38 = .ok (.aload_n 0, 1) := by decide +kernel
theorem dX12_cause_39 : decode cX12_cause 39 = .ok (.iload_n 2, 1) := by decide +kernel
theorem dX12_cause_40 : decode cX12_cause 40 = .ok (.invokevirtual 245, 3) := by decide +kernel
theorem dX12_cause_43 : decode cX12_cause 43 = .ok (.ifCond .eq 12, 3) := by decide +kernel
theorem dX12_cause_46 : decode cX12_cause 46 = .ok (.aload_n 0, 1) := by decide +kernel
theorem dX12_cause_47 : decode cX12_cause 47 = .ok (.getfield 20, 3) := by decide +kernel
theorem dX12_cause_50 : decode cX12_cause 50 = .ok (.iload_n 2, 1) := by decide +kernel
theorem dX12_cause_51 : decode cX12_cause 51 = .ok (.iaload, 1) := by decide +kernel
theorem dX12_cause_52 : decode cX12_cause 52 = .ok (.ifCond .ge 6, 3) := by decide +kernel
theorem dX12_cause_55 : decode cX12_cause 55 = .ok (.bipush 6, 2) := by decide +kernel
theorem dX12_cause_57 : decode cX12_cause 57 = .ok (.ireturn, 1) := by decide +kernel
theorem dX12_cause_58 : decode cX12_cause 58 = .ok (.iload_n 1, 1) := by decide +kernel
theorem dX12_cause_59 : decode cX12_cause 59 = .ok (.bipush 10, 2) := by decide +kernel
theorem dX12_cause_61 : decode cX12_cause 61 = .ok (.if_icmp .eq 9, 3) := by decide +kernel
theorem dX12_cause_64 : decode cX12_cause 64 = .ok (.iload_n 1, 1) := by decide +kernel
theorem dX12_cause_65 : decode cX12_cause 65 = .ok (.bipush 11, 2) := by decide +kernel
theorem dX12_cause_67 : decode cX12_cause 67 = .ok (.if_icmp .ne 22, 3) := by decide +kernel
theorem dX12_cause_70 : decode cX12_cause 70 = .ok (.aload_n 0, 1) := by decide +kernel
theorem dX12_cause_71 : decode cX12_cause 71 = .ok (.iload_n 2, 1) := by decide +kernel
theorem dX12_cause_72 : decode cX12_cause 72 = .ok (.invokevirtual 245, 3) := by decide +kernel
theorem dX12_cause_75 : decode cX12_cause 75 = .ok (.ifCond .eq 11, 3) := by decide +kernel
theorem dX12_cause_78 : decode cX12_cause 78 = .ok (.aload_n 0, 1) := by decide +kernel
theorem dX12_cause_79 : decode cX12_cause 79 = .ok (.iload_n 3, 1) := by decide +kernel
theorem dX12_cause_80 : decode cX12_cause 80 = .ok (.invokevirtual 245, 3) := by decide +kernel
theorem dX12_cause_83 : decode cX12_cause 83 = .ok (.ifCond .ne 6, 3) := by decide +kernel
theorem dX12_cause_86 : decode cX12_cause 86 = .ok (.bipush 6, 2) := by decide +kernel
theorem dX12_cause_88 : decode cX12_cause 88 = .ok (.ireturn, 1) := by decide +kernel
theorem dX12_cause_89 : decode cX12_cause 89 = .ok (.iload_n 1, 1) := by decide +kernel
theorem dX12_cause_90 : decode cX12_cause 90 = .ok (.iconst 4, 1) := by decide +kernel
theorem dX12_cause_91 : decode cX12_cause 91 = .ok (.if_icmp .eq 8, 3) := by decide +kernel
theorem dX12_cause_94 : decode cX12_cause 94 = .ok (.iload_n 1, 1) := by decide +kernel
theorem dX12_cause_95 : decode cX12_cause 95 = .ok (.iconst 5, 1) := by decide +kernel
theorem dX12_cause_96 : decode cX12_cause 96 = .ok (.if_icmp .ne 14, 3) := by decide +kernel
theorem dX12_cause_99 : decode cX12_cause 99 = .ok (.aload_n 0, 1) := by decide +kernel
theorem dX12_cause_100 : decode cX12_cause 100 = .ok (.getfield 20, 3) := by decide +kernel
theorem dX12_cause_103 : decode cX12_cause 103 = .ok (.iload_n 3, 1) := by decide +kernel
theorem dX12_cause_104 : decode cX12_cause 104 = .ok (.iaload, 1) := by decide +kernel
theorem dX12_cause_105 : decode cX12_cause 105 = .ok (.ifCond .ne 5, 3) := by decide +kernel
theorem dX12_cause_108 : decode cX12_cause 108 = .ok (.iconst 5, 1) := by decide +kernel
theorem dX12_cause_109 : decode cX12_cause 109 = .ok (.ireturn, 1) := by decide +kernel
theorem dX12_cause_110 : decode cX12_cause 110 = .ok (.iload_n 1, 1) := by decide +kernel
theorem dX12_cause_111 : decode cX12_cause 111 = .ok (.bipush 6, 2) := by decide +kernel
theorem dX12_cause_113 : decode cX12_cause 113 = .ok (.if_icmp .ne 23, 3) := by decide +kernel
theorem dX12_cause_116 : decode cX12_cause 116 = .ok (.aload_n 0, 1) := by decide +kernel
theorem dX12_cause_117 : decode cX12_cause 117 = .ok (.getfield 20, 3) := by decide +kernel
theorem dX12_cause_120 : decode cX12_cause 120 = .ok (.iload_n 2, 1) := by decide +kernel
theorem dX12_cause_121 : decode cX12_cause 121 = .ok (.iaload, 1) := by decide +kernel
theorem dX12_cause_122 : decode cX12_cause 122 = .ok (.ifCond .ne 14, 3) := by decide +kernel
theorem dX12_cause_125 : decode cX12_cause 125 = .ok (.aload_n 0, 1) := by decide +kernel
theorem dX12_cause_126 : decode cX12_cause 126 = .ok (.getfield 20, 3) := by decide +kernel
theorem dX12_cause_129 : decode cX12_cause 129 = .ok (.iload_n 3, 1) := by decide +kernel
theorem dX12_cause_130 : decode cX12_cause 130 = .ok (.iaload, 1) := by decide +kernel
theorem dX12_cause_131 : decode cX12_cause 131 = .ok (.ifCond .ge 5, 3) := by decide +kernel
theorem dX12_cause_134 : decode cX12_cause 134 = .ok (.iconst 5, 1) := by decide +kernel
theorem dX12_cause_135 : decode cX12_cause 135 = .ok (.ireturn, 1) := by decide +kernel
theorem dX12_cause_136 : decode cX12_cause 136 = .ok (.iload_n 1, 1) := by decide +kernel
theorem dX12_cause_137 : decode cX12_cause 137 = .ok (.bipush 7, 2) := by decide +kernel
theorem dX12_cause_139 : decode cX12_cause 139 = .ok (.if_icmp .ne 18, 3) := by decide +kernel
theorem dX12_cause_142 : decode cX12_cause 142 = .ok (.aload_n 0, 1) := by decide +kernel
theorem dX12_cause_143 : decode cX12_cause 143 = .ok (.iload_n 2, 1) := by decide +kernel
theorem dX12_cause_144 : decode cX12_cause 144 = .ok (.invokevirtual 248, 3) := by decide +kernel
theorem dX12_cause_147 : decode cX12_cause 147 = .ok (.bipush 28, 2) := by decide +kernel
theorem dX12_cause_149 : decode cX12_cause 149 = .ok (.if_icmp .le 8, 3) := by decide +kernel
theorem dX12_cause_152 : decode cX12_cause 152 = .ok (.bipush 7, 2) := by decide +kernel
theorem dX12_cause_154 : decode cX12_cause 154 = .ok (.goto 4, 3) := by decide +kernel
theorem dX12_cause_157 : decode cX12_cause 157 = .ok (.iconst 0, 1) := by decide +kernel
theorem dX12_cause_158 : decode cX12_cause 158 = .ok (.ireturn, 1) := by decide +kernel
theorem dX12_sums_0 : decode cX12_sums 0 = .ok (.iload_n 1, 1) := by decide +kernel
theorem dX12_sums_1 : decode cX12_sums 1 = .ok (.iconst 2, 1) := by decide +kernel
theorem dX12_sums_2 : decode cX12_sums 2 = .ok (.if_icmp .ne 14, 3) := by decide +kernel
theorem dX12_sums_5 : decode cX12_sums 5 = .ok (.iconst 0, 1) := by decide +kernel
theorem dX12_sums_6 : decode cX12_sums 6 = .ok (.aload_n 0, 1) := by decide +kernel
theorem dX12_sums_7 : decode cX12_sums 7 = .ok (.getfield 20, 3) := by decide +kernel
theorem dX12_sums_10 : decode cX12_sums 10 = .ok (.iload_n 3, 1) := by decide +kernel
theorem dX12_sums_11 : decode cX12_sums 11 = .ok (.iaload, 1) := by decide +kernel
theorem dX12_sums_12 : decode cX12_sums 12 = .ok (.isub, 1) := by decide +kernel
theorem dX12_sums_13 : decode cX12_sums 13 = .ok (.goto 9, 3) := by decide +kernel
theorem dX12_sums_16 : decode cX12_sums 16 = .ok (.aload_n 0, 1) := by decide +kernel
theorem dX12_sums_17 : decode cX12_sums 17 = .ok (.getfield 20, 3) := by decide +kernel
theorem dX12_sums_20 : decode cX12_sums 20 = .ok (.iload_n 3, 1) := by decide +kernel
theorem dX12_sums_21 : decode cX12_sums 21 = .ok (.iaload, 1) := by decide +kernel
theorem dX12_sums_22 : decode cX12_sums 22 = .ok (.istore 4, 2) := by decide +kernel
theorem dX12_sums_24 : decode cX12_sums 24 = .ok (.aload_n 0, 1) := by decide +kernel
theorem dX12_sums_25 : decode cX12_sums 25 = .ok (.iload_n 2, 1) := by decide +kernel
theorem dX12_sums_26 : decode cX12_sums 26 = .ok (.iload_n 3, 1) := by decide +kernel
theorem dX12_sums_27 : decode cX12_sums 27 = .ok (.invokevirtual 232, 3) := by decide +kernel
theorem dX12_sums_30 : decode cX12_sums 30 = .ok (.iload_n 1, 1) := by decide +kernel
theorem dX12_sums_31 : decode cX12_sums 31 = .ok (.bipush 16, 2) := by decide +kernel
theorem dX12_sums_33 : decode cX12_sums 33 = .ok (.if_icmp .ne 32, 3) := by decide +kernel
theorem dX12_sums_36 : decode cX12_sums 36 = .ok (.aload_n 0, 1) := by decide +kernel
theorem dX12_sums_37 : decode cX12_sums 37 = .ok (.iconst 4, 1) := by decide +kernel
theorem dX12_sums_38 : decode cX12_sums 38 = .ok (.iconst 0, 1) := by decide +kernel
theorem dX12_sums_39 : decode cX12_sums 39 = .ok (.invokevirtual 181, 3) := by decide +kernel
theorem dX12_sums_42 : decode cX12_sums 42 = .ok (.aload_n 0, 1) := by decide +kernel
theorem dX12_sums_43 : decode cX12_sums 43 = .ok (.iconst 5, 1) := by decide +kernel
theorem dX12_sums_44 : decode cX12_sums 44 = .ok (.iconst 2, 1) := by decide +kernel
theorem dX12_sums_45 : decode cX12_sums 45 = .ok (.invokevirtual 181, 3) := by decide +kernel
theorem dX12_sums_48 : decode cX12_sums 48 = .ok (.aload_n 0, 1) := by decide +kernel
theorem dX12_sums_49 : decode cX12_sums 49 = .ok (.bipush 7, 2) := by decide +kernel
theorem dX12_sums_51 : decode cX12_sums 51 = .ok (.iconst 1, 1) := by decide +kernel
theorem dX12_sums_52 : decode cX12_sums 52 = .ok (.invokevirtual 181, 3) := by decide +kernel
theorem dX12_sums_55 : decode cX12_sums 55 = .ok (.aload_n 0, 1) := by decide +kernel
theorem dX12_sums_56 : decode cX12_sums 56 = .ok (.bipush 7, 2) := by decide +kernel
theorem dX12_sums_58 : decode cX12_sums 58 = .ok (.iconst 3, 1) := by decide +kernel
theorem dX12_sums_59 : decode cX12_sums 59 = .ok (.invokevirtual 239, 3) := by decide +kernel
theorem dX12_sums_62 : decode cX12_sums 62 = .ok (.goto 25, 3) := by decide +kernel
theorem dX12_sums_65 : decode cX12_sums 65 = .ok (.aload_n 0, 1) := by decide +kernel
theorem dX12_sums_66 : decode cX12_sums 66 = .ok (.iconst 4, 1) := by decide +kernel
theorem dX12_sums_67 : decode cX12_sums 67 = .ok (.iconst 0, 1) := by decide +kernel
theorem dX12_sums_68 : decode cX12_sums 68 = .ok (.iconst 3, 1) := by decide +kernel
theorem dX12_sums_69 : decode cX12_sums 69 = .ok (.invokevirtual 235, 3) := by decide +kernel
theorem dX12_sums_72 : decode cX12_sums 72 = .ok (.aload_n 0, 1) := by decide +kernel
theorem dX12_sums_73 : decode cX12_sums 73 = .ok (.iconst 5, 1) := by decide +kernel
theorem dX12_sums_74 : decode cX12_sums 74 = .ok (.iconst 2, 1) := by decide +kernel
theorem dX12_sums_75 : decode cX12_sums 75 = .ok (.iconst 1, 1) := by decide +kernel
theorem dX12_sums_76 : decode cX12_sums 76 = .ok (.invokevirtual 235, 3) := by decide +kernel
theorem dX12_sums_79 : decode cX12_sums 79 = .ok (.aload_n 0, 1) := by decide +kernel
theorem dX12_sums_80 : decode cX12_sums 80 = .ok (.bipush 7, 2) := by decide +kernel
theorem dX12_sums_82 : decode cX12_sums 82 = .ok (.iconst 1, 1) := by decide +kernel
theorem dX12_sums_83 : decode cX12_sums 83 = .ok (.iconst 3, 1) := by decide +kernel
theorem dX12_sums_84 : decode cX12_sums 84 = .ok (.invokevirtual 235, 3) := by decide +kernel
theorem dX12_sums_87 : decode cX12_sums 87 = .ok (.aload_n 0, 1) := by decide +kernel
theorem dX12_sums_88 : decode cX12_sums 88 = .ok (.aload_n 0, 1) := by decide +kernel
theorem dX12_sums_89 : decode cX12_sums 89 = .ok (.getfield 20, 3) := by decide +kernel
theorem dX12_sums_92 : decode cX12_sums 92 = .ok (.iload_n 2, 1) := by decide +kernel
theorem dX12_sums_93 : decode cX12_sums 93 = .ok (.iaload, 1) := by decide +kernel
theorem dX12_sums_94 : decode cX12_sums 94 = .ok (.iload 4, 2) := by decide +kernel
theorem dX12_sums_96 : decode cX12_sums 96 = .ok (.invokevirtual 255, 3) := by decide +kernel
theorem dX12_sums_99 : decode cX12_sums 99 = .ok (.ireturn, 1) := by decide +kernel
theorem dX12_products_0 : decode cX12_products 0 = .ok (.aload_n 0, 1) := by decide +kernel
theorem dX12_products_1 : decode cX12_products 1 = .ok (.iload_n 2, 1) := by decide +kernel
theorem dX12_products_2 : decode cX12_products 2 = .ok (.iload_n 3, 1) := by decide +kernel
theorem dX12_products_3 : decode cX12_products 3 = .ok (.invokevirtual 232, 3) := by decide +kernel
theorem dX12_products_6 : decode cX12_products 6 = .ok (.aload_n 0, 1) := by decide +kernel
theorem dX12_products_7 : decode cX12_products 7 = .ok (.bipush 6, 2) := by decide +kernel
theorem dX12_products_9 : decode cX12_products 9 = .ok (.iconst 0, 1) := by decide +kernel
theorem dX12_products_10 : decode cX12_products 10 = .ok (.iload_n 1, 1) := by decide +kernel
theorem dX12_products_11 : decode cX12_products 11 = .ok (.iconst 3, 1) := by decide +kernel
theorem dX12_products_12 : decode cX12_products 12 = .ok (.if_icmp .ne 7, 3) := by decide +kernel
theorem dX12_products_15 : decode cX12_products 15 = .ok (.iconst 2, 1) := by decide +kernel
theorem dX12_products_16 : decode cX12_products 16 = .ok (.goto 4, 3) := by decide +kernel
theorem dX12_products_19 : decode cX12_products 19 = .ok (.iconst 3, 1) := by decide +kernel
theorem dX12_products_20 : decode cX12_products 20 = .ok (.invokevirtual 235, 3) := by decide +kernel
theorem dX12_products_23 : decode cX12_products 23 = .ok (.aload_n 0, 1) := by decide +kernel
theorem dX12_products_24 : decode cX12_products 24 = .ok (.bipush 7, 2) := by decide +kernel
theorem dX12_products_26 : decode cX12_products 26 = .ok (.iconst 1, 1) := by decide +kernel
theorem dX12_products_27 : decode cX12_products 27 = .ok (.iload_n 1, 1) := by decide +kernel
theorem dX12_products_28 : decode cX12_products 28 = .ok (.iconst 3, 1) := by decide +kernel
theorem dX12_products_29 : decode cX12_products 29 = .ok (.if_icmp .ne 7, 3) := by decide +kernel
theorem dX12_products_32 : decode cX12_products 32 = .ok (.iconst 3, 1) := by decide +kernel
theorem dX12_products_33 : decode cX12_products 33 = .ok (.goto 4, 3) := by decide +kernel
theorem dX12_products_36 : decode cX12_products 36 = .ok (.iconst 2, 1) := by decide +kernel
theorem dX12_products_37 : decode cX12_products 37 = .ok (.invokevirtual 235, 3) := by decide +kernel
theorem dX12_products_40 : decode cX12_products 40 = .ok (.aload_n 0, 1) := by decide +kernel
theorem dX12_products_41 : decode cX12_products 41 = .ok (.getfield 20, 3) := by decide +kernel
theorem dX12_products_44 : decode cX12_products 44 = .ok (.iload_n 2, 1) := by decide +kernel
theorem dX12_products_45 : decode cX12_products 45 = .ok (.iaload, 1) := by decide +kernel
theorem dX12_products_46 : decode cX12_products 46 = .ok (.aload_n 0, 1) := by decide +kernel
theorem dX12_products_47 : decode cX12_products 47 = .ok (.getfield 20, 3) := by decide +kernel
theorem dX12_products_50 : decode cX12_products 50 = .ok (.iload_n 3, 1) := by decide +kernel
theorem dX12_products_51 : decode cX12_products 51 = .ok (.iaload, 1) := by decide +kernel
theorem dX12_products_52 : decode cX12_products 52 = .ok (.imul, 1) := by decide +kernel
theorem dX12_products_53 : decode cX12_products 53 = .ok (.ireturn, 1) := by decide +kernel
theorem dX12_factors_0 : decode cX12_factors 0 = .ok (.aload_n 0, 1) := by decide +kernel
theorem dX12_factors_1 : decode cX12_factors 1 = .ok (.iload_n 2, 1) := by decide +kernel
theorem dX12_factors_2 : decode cX12_factors 2 = .ok (.iload_n 3, 1) := by decide +kernel
theorem dX12_factors_3 : decode cX12_factors 3 = .ok (.invokevirtual 232, 3) := by decide +kernel
theorem dX12_factors_6 : decode cX12_factors 6 = .ok (.aload_n 0, 1) := by decide +kernel
theorem dX12_factors_7 : decode cX12_factors 7 = .ok (.iconst 0, 1) := by decide +kernel
theorem dX12_factors_8 : decode cX12_factors 8 = .ok (.iconst 2, 1) := by decide +kernel
theorem dX12_factors_9 : decode cX12_factors 9 = .ok (.invokevirtual 207, 3) := by decide +kernel
theorem dX12_factors_12 : decode cX12_factors 12 = .ok (.aload_n 0, 1) := by decide +kernel
theorem dX12_factors_13 : decode cX12_factors 13 = .ok (.bipush 6, 2) := by decide +kernel
theorem dX12_factors_15 : decode cX12_factors 15 = .ok (.bipush 8, 2) := by decide +kernel
theorem dX12_factors_17 : decode cX12_factors 17 = .ok (.invokevirtual 181, 3) := by decide +kernel
theorem dX12_factors_20 : decode cX12_factors 20 = .ok (.iload_n 1, 1) := by decide +kernel
theorem dX12_factors_21 : decode cX12_factors 21 = .ok (.bipush 11, 2) := by decide +kernel
theorem dX12_factors_23 : decode cX12_factors 23 = .ok (.if_icmp .ne 53, 3) := by decide +kernel
theorem dX12_factors_26 : decode cX12_factors 26 = .ok (.aload_n 0, 1) := by decide +kernel
theorem dX12_factors_27 : decode cX12_factors 27 = .ok (.getfield 20, 3) := by decide +kernel
theorem dX12_factors_30 : decode cX12_factors 30 = .ok (.iload_n 2, 1) := by decide +kernel
theorem dX12_factors_31 : decode cX12_factors 31 = .ok (.iaload, 1) := by decide +kernel
theorem dX12_factors_32 : decode cX12_factors 32 = .ok (.ifCond .eq 12, 3) := by decide +kernel
theorem dX12_factors_35 : decode cX12_factors 35 = .ok (.aload_n 0, 1) := by decide +kernel
theorem dX12_factors_36 : decode cX12_factors 36 = .ok (.getfield 20, 3) := by decide +kernel
theorem dX12_factors_39 : decode cX12_factors 39 = .ok (.iload_n 3, 1) := by decide +kernel
theorem dX12_factors_40 : decode cX12_factors 40 = .ok (.iaload, 1) := by decide +kernel
theorem dX12_factors_41 : decode cX12_factors 41 = .ok (.ifCond .ne 13, 3) := by decide +kernel
theorem dX12_factors_44 : decode cX12_factors 44 = .ok (.aload_n 0, 1) := by decide +kernel
theorem dX12_factors_45 : decode cX12_factors 45 = .ok (.bipush 6, 2) := by decide +kernel
theorem dX12_factors_47 : decode cX12_factors 47 = .ok (.iconst 0, 1) := by decide +kernel
theorem dX12_factors_48 : decode cX12_factors 48 = .ok (.invokevirtual 191, 3) := by decide +kernel
theorem dX12_factors_51 : decode cX12_factors 51 = .ok (.goto 25, 3) := by decide +kernel
theorem dX12_factors_54 : decode cX12_factors 54 = .ok (.aload_n 0, 1) := by decide +kernel
theorem dX12_factors_55 : decode cX12_factors 55 = .ok (.iconst 0, 1) := by decide +kernel
theorem dX12_factors_56 : decode cX12_factors 56 = .ok (.bipush 8, 2) := by decide +kernel
theorem dX12_factors_58 : decode cX12_factors 58 = .ok (.invokevirtual 204, 3) := by decide +kernel
theorem dX12_factors_61 : decode cX12_factors 61 = .ok (.aload_n 0, 1) := by decide +kernel
theorem dX12_factors_62 : decode cX12_factors 62 = .ok (.iconst 4, 1) := by decide +kernel
theorem dX12_factors_63 : decode cX12_factors 63 = .ok (.bipush 9, 2) := by decide +kernel
theorem dX12_factors_65 : decode cX12_factors 65 = .ok (.invokevirtual 181, 3) := by decide +kernel
theorem dX12_factors_68 : decode cX12_factors 68 = .ok (.aload_n 0, 1) := by decide +kernel
theorem dX12_factors_69 : decode cX12_factors 69 = .ok (.bipush 6, 2) := by decide +kernel
theorem dX12_factors_71 : decode cX12_factors 71 = .ok (.iconst 4, 1) := by decide +kernel
theorem dX12_factors_72 : decode cX12_factors 72 = .ok (.iconst 2, 1) := by decide +kernel
theorem dX12_factors_73 : decode cX12_factors 73 = .ok (.invokevirtual 235, 3) := by decide +kernel
theorem dX12_factors_76 : decode cX12_factors 76 = .ok (.aload_n 0, 1) := by decide +kernel
theorem dX12_factors_77 : decode cX12_factors 77 = .ok (.bipush 7, 2) := by decide +kernel
theorem dX12_factors_79 : decode cX12_factors 79 = .ok (.iconst 1, 1) := by decide +kernel
theorem dX12_factors_80 : decode cX12_factors 80 = .ok (.invokevirtual 191, 3) := by decide +kernel
theorem dX12_factors_83 : decode cX12_factors 83 = .ok (.iconst 1, 1) := by decide +kernel
theorem dX12_factors_84 : decode cX12_factors 84 = .ok (.ireturn, 1) := by decide +kernel
theorem dX12_copiesPart_0 : decode cX12_copiesPart 0 = .ok (.aload_n 0, 1) := by decide +kernel
theorem dX12_copiesPart_1 : decode cX12_copiesPart 1 = .ok (.bipush 6, 2) := by decide +kernel
theorem dX12_copiesPart_3 : decode cX12_copiesPart 3 = .ok (.iload_n 2, 1) := by decide +kernel
theorem dX12_copiesPart_4 : decode cX12_copiesPart 4 = .ok (.iload_n 1, 1) := by decide +kernel
theorem dX12_copiesPart_5 : decode cX12_copiesPart 5 = .ok (.bipush 18, 2) := by decide +kernel
theorem dX12_copiesPart_7 : decode cX12_copiesPart 7 = .ok (.if_icmp .ne 7, 3) := by decide +kernel
theorem dX12_copiesPart_10 : decode cX12_copiesPart 10 = .ok (.iconst 1, 1) := by decide +kernel
theorem dX12_copiesPart_11 : decode cX12_copiesPart 11 = .ok (.goto 4, 3) := by decide +kernel
theorem dX12_copiesPart_14 : decode cX12_copiesPart 14 = .ok (.iconst 0, 1) := by decide +kernel
theorem dX12_copiesPart_15 : decode cX12_copiesPart 15 = .ok (.invokevirtual 228, 3) := by decide +kernel
theorem dX12_copiesPart_18 : decode cX12_copiesPart 18 = .ok (.aload_n 0, 1) := by decide +kernel
theorem dX12_copiesPart_19 : decode cX12_copiesPart 19 = .ok (.bipush 7, 2) := by decide +kernel
theorem dX12_copiesPart_21 : decode cX12_copiesPart 21 = .ok (.iload_n 2, 1) := by decide +kernel
theorem dX12_copiesPart_22 : decode cX12_copiesPart 22 = .ok (.iconst 1, 1) := by decide +kernel
theorem dX12_copiesPart_23 : decode cX12_copiesPart 23 = .ok (.invokevirtual 228, 3) := by decide +kernel
theorem dX12_copiesPart_26 : decode cX12_copiesPart 26 = .ok (.iload_n 1, 1) := by decide +kernel
theorem dX12_copiesPart_27 : decode cX12_copiesPart 27 = .ok (.bipush 17, 2) := by decide +kernel
theorem dX12_copiesPart_29 : decode cX12_copiesPart 29 = .ok (.if_icmp .eq 9, 3) := by decide +kernel
theorem dX12_copiesPart_32 : decode cX12_copiesPart 32 = .ok (.iload_n 1, 1) := by decide +kernel
theorem dX12_copiesPart_33 : decode cX12_copiesPart 33 = .ok (.bipush 18, 2) := by decide +kernel
theorem dX12_copiesPart_35 : decode cX12_copiesPart 35 = .ok (.if_icmp .ne 10, 3) := by decide +kernel
theorem dX12_copiesPart_38 : decode cX12_copiesPart 38 = .ok (.aload_n 0, 1) := by decide +kernel
theorem dX12_copiesPart_39 : decode cX12_copiesPart 39 = .ok (.bipush 7, 2) := by decide +kernel
theorem dX12_copiesPart_41 : decode cX12_copiesPart 41 = .ok (.iconst 1, 1) := by decide +kernel
theorem dX12_copiesPart_42 : decode cX12_copiesPart 42 = .ok (.invokevirtual 191, 3) := by decide +kernel
theorem dX12_copiesPart_45 : decode cX12_copiesPart 45 = .ok (.iload_n 1, 1) := by decide +kernel
theorem dX12_copiesPart_46 : decode cX12_copiesPart 46 = .ok (.bipush 15, 2) := by decide +kernel
theorem dX12_copiesPart_48 : decode cX12_copiesPart 48 = .ok (.if_icmp .eq 9, 3) := by decide +kernel
theorem dX12_copiesPart_51 : decode cX12_copiesPart 51 = .ok (.iload_n 1, 1) := by decide +kernel
theorem dX12_copiesPart_52 : decode cX12_copiesPart 52 = .ok (.bipush 18, 2) := by decide +kernel
theorem dX12_copiesPart_54 : decode cX12_copiesPart 54 = .ok (.if_icmp .ne 7, 3) := by decide +kernel
theorem dX12_copiesPart_57 : decode cX12_copiesPart 57 = .ok (.iconst 1, 1) := by decide +kernel
theorem dX12_copiesPart_58 : decode cX12_copiesPart 58 = .ok (.goto 26, 3) := by decide +kernel
theorem dX12_copiesPart_61 : decode cX12_copiesPart 61 = .ok (.iload_n 1, 1) := by decide +kernel
theorem dX12_copiesPart_62 : decode cX12_copiesPart 62 = .ok (.bipush 8, 2) := by decide +kernel
theorem dX12_copiesPart_64 : decode cX12_copiesPart 64 = .ok (.if_icmp .ne 14, 3) := by decide +kernel
theorem dX12_copiesPart_67 : decode cX12_copiesPart 67 = .ok (.iconst 0, 1) := by decide +kernel
theorem dX12_copiesPart_68 : decode cX12_copiesPart 68 = .ok (.aload_n 0, 1) := by decide +kernel
theorem dX12_copiesPart_69 : decode cX12_copiesPart 69 = .ok (.getfield 20, 3) := by decide +kernel
theorem dX12_copiesPart_72 : decode cX12_copiesPart 72 = .ok (.iload_n 2, 1) := by decide +kernel
theorem dX12_copiesPart_73 : decode cX12_copiesPart 73 = .ok (.iaload, 1) := by decide +kernel
theorem dX12_copiesPart_74 : decode cX12_copiesPart 74 = .ok (.isub, 1) := by decide +kernel
theorem dX12_copiesPart_75 : decode cX12_copiesPart 75 = .ok (.goto 9, 3) := by decide +kernel
theorem dX12_copiesPart_78 : decode cX12_copiesPart 78 = .ok (.aload_n 0, 1) := by decide +kernel
theorem dX12_copiesPart_79 : decode cX12_copiesPart 79 = .ok (.getfield 20, 3) := by decide +kernel
theorem dX12_copiesPart_82 : decode cX12_copiesPart 82 = .ok (.iload_n 2, 1) := by decide +kernel
theorem dX12_copiesPart_83 : decode cX12_copiesPart 83 = .ok (.iaload, 1) := by decide +kernel
theorem dX12_copiesPart_84 : decode cX12_copiesPart 84 = .ok (.ireturn, 1) := by decide +kernel
theorem dX12_multipliesAll_0 : decode cX12_multipliesAll 0 = .ok (.aload_n 0, 1) := by decide +kernel
theorem dX12_multipliesAll_1 : decode cX12_multipliesAll 1 = .ok (.bipush 6, 2) := by decide +kernel
theorem dX12_multipliesAll_3 : decode cX12_multipliesAll 3 = .ok (.iconst 1, 1) := by decide +kernel
theorem dX12_multipliesAll_4 : decode cX12_multipliesAll 4 = .ok (.invokevirtual 191, 3) := by decide +kernel
theorem dX12_multipliesAll_7 : decode cX12_multipliesAll 7 = .ok (.aload_n 0, 1) := by decide +kernel
theorem dX12_multipliesAll_8 : decode cX12_multipliesAll 8 = .ok (.bipush 7, 2) := by decide +kernel
theorem dX12_multipliesAll_10 : decode cX12_multipliesAll 10 = .ok (.iconst 1, 1) := by decide +kernel
theorem dX12_multipliesAll_11 : decode cX12_multipliesAll 11 = .ok (.invokevirtual 191, 3) := by decide +kernel
theorem dX12_multipliesAll_14 : decode cX12_multipliesAll 14 = .ok (.iconst 2, 1) := by decide +kernel
theorem dX12_multipliesAll_15 : decode cX12_multipliesAll 15 = .ok (.istore_n 2, 1) := by decide +kernel
theorem dX12_multipliesAll_16 : decode cX12_multipliesAll 16 = .ok (.iload_n 2, 1) := by decide +kernel
theorem dX12_multipliesAll_17 : decode cX12_multipliesAll 17 = .ok (.aload_n 0, 1) := by decide +kernel
theorem dX12_multipliesAll_18 : decode cX12_multipliesAll 18 = .ok (.iload_n 1, 1) := by decide +kernel
theorem dX12_multipliesAll_19 : decode cX12_multipliesAll 19 = .ok (.invokevirtual 248, 3) := by decide +kernel
theorem dX12_multipliesAll_22 : decode cX12_multipliesAll 22 = .ok (.if_icmp .gt 16, 3) := by decide +kernel
theorem dX12_multipliesAll_25 : decode cX12_multipliesAll 25 = .ok (.aload_n 0, 1) := by decide +kernel
theorem dX12_multipliesAll_26 : decode cX12_multipliesAll 26 = .ok (.bipush 6, 2) := by decide +kernel
theorem dX12_multipliesAll_28 : decode cX12_multipliesAll 28 = .ok (.iload_n 2, 1) := by decide +kernel
theorem dX12_multipliesAll_29 : decode cX12_multipliesAll 29 = .ok (.invokevirtual 194, 3) := by decide +kernel
theorem dX12_multipliesAll_32 : decode cX12_multipliesAll 32 = .ok (.iinc 2 1, 3) := by decide +kernel
theorem dX12_multipliesAll_35 : decode cX12_multipliesAll 35 = .ok (.goto (-19), 3) := by decide +kernel
theorem dX12_multipliesAll_38 : decode cX12_multipliesAll 38 = .ok (.iconst 1, 1) := by decide +kernel
theorem dX12_multipliesAll_39 : decode cX12_multipliesAll 39 = .ok (.ireturn, 1) := by decide +kernel
theorem dX12_works_0 : decode cX12_works 0 = .ok (.iload_n 1, 1) := by decide +kernel
theorem dX12_works_1 : decode cX12_works 1 = .ok (.iconst 1, 1) := by decide +kernel
theorem dX12_works_2 : decode cX12_works 2 = .ok (.if_icmp .eq 14, 3) := by decide +kernel
theorem dX12_works_5 : decode cX12_works 5 = .ok (.iload_n 1, 1) := by decide +kernel
theorem dX12_works_6 : decode cX12_works 6 = .ok (.iconst 2, 1) := by decide +kernel
theorem dX12_works_7 : decode cX12_works 7 = .ok (.if_icmp .eq 9, 3) := by decide +kernel
theorem dX12_works_10 : decode cX12_works 10 = .ok (.iload_n 1, 1) := by decide +kernel
theorem dX12_works_11 : decode cX12_works 11 = .ok (.bipush 16, 2) := by decide +kernel
theorem dX12_works_13 : decode cX12_works 13 = .ok (.if_icmp .ne 11, 3) := by decide +kernel
theorem dX12_works_16 : decode cX12_works 16 = .ok (.aload_n 0, 1) := by decide +kernel
theorem dX12_works_17 : decode cX12_works 17 = .ok (.iload_n 1, 1) := by decide +kernel
theorem dX12_works_18 : decode cX12_works 18 = .ok (.iload_n 2, 1) := by decide +kernel
theorem dX12_works_19 : decode cX12_works 19 = .ok (.iload_n 3, 1) := by decide +kernel
theorem dX12_works_20 : decode cX12_works 20 = .ok (.invokevirtual 258, 3) := by decide +kernel
theorem dX12_works_23 : decode cX12_works 23 = .ok (.ireturn, 1) := by decide +kernel
theorem dX12_works_24 : decode cX12_works 24 = .ok (.iload_n 1, 1) := by decide +kernel
theorem dX12_works_25 : decode cX12_works 25 = .ok (.iconst 3, 1) := by decide +kernel
theorem dX12_works_26 : decode cX12_works 26 = .ok (.if_icmp .eq 8, 3) := by decide +kernel
theorem dX12_works_29 : decode cX12_works 29 = .ok (.iload_n 1, 1) := by decide +kernel
theorem dX12_works_30 : decode cX12_works 30 = .ok (.iconst 4, 1) := by decide +kernel
theorem dX12_works_31 : decode cX12_works 31 = .ok (.if_icmp .ne 11, 3) := by decide +kernel
theorem dX12_works_34 : decode cX12_works 34 = .ok (.aload_n 0, 1) := by decide +kernel
theorem dX12_works_35 : decode cX12_works 35 = .ok (.iload_n 1, 1) := by decide +kernel
theorem dX12_works_36 : decode cX12_works 36 = .ok (.iload_n 2, 1) := by decide +kernel
theorem dX12_works_37 : decode cX12_works 37 = .ok (.iload_n 3, 1) := by decide +kernel
theorem dX12_works_38 : decode cX12_works 38 = .ok (.invokevirtual 261, 3) := by decide +kernel
theorem dX12_works_41 : decode cX12_works 41 = .ok (.ireturn, 1) := by decide +kernel
theorem dX12_works_42 : decode cX12_works 42 = .ok (.iload_n 1, 1) := by decide +kernel
theorem dX12_works_43 : decode cX12_works 43 = .ok (.iconst 5, 1) := by decide +kernel
theorem dX12_works_44 : decode cX12_works 44 = .ok (.if_icmp .ne 10, 3) := by decide +kernel
theorem dX12_works_47 : decode cX12_works 47 = .ok (.aload_n 0, 1) := by decide +kernel
theorem dX12_works_48 : decode cX12_works 48 = .ok (.iload_n 2, 1) := by decide +kernel
theorem dX12_works_49 : decode cX12_works 49 = .ok (.iload_n 3, 1) := by decide +kernel
theorem dX12_works_50 : decode cX12_works 50 = .ok (.invokevirtual 264, 3) := by decide +kernel
theorem dX12_works_53 : decode cX12_works 53 = .ok (.ireturn, 1) := by decide +kernel
theorem dX12_works_54 : decode cX12_works 54 = .ok (.iload_n 1, 1) := by decide +kernel
theorem dX12_works_55 : decode cX12_works 55 = .ok (.bipush 6, 2) := by decide +kernel
theorem dX12_works_57 : decode cX12_works 57 = .ok (.if_icmp .ne 14, 3) := by decide +kernel
theorem dX12_works_60 : decode cX12_works 60 = .ok (.aload_n 0, 1) := by decide +kernel
theorem dX12_works_61 : decode cX12_works 61 = .ok (.iload_n 2, 1) := by decide +kernel
theorem dX12_works_62 : decode cX12_works 62 = .ok (.aload_n 0, 1) := by decide +kernel
theorem dX12_works_63 : decode cX12_works 63 = .ok (.iload_n 3, 1) := by decide +kernel
theorem dX12_works_64 : decode cX12_works 64 = .ok (.invokevirtual 248, 3) := by decide +kernel
theorem dX12_works_67 : decode cX12_works 67 = .ok (.invokevirtual 267, 3) := by decide +kernel
theorem dX12_works_70 : decode cX12_works 70 = .ok (.ireturn, 1) := by decide +kernel
theorem dX12_works_71 : decode cX12_works 71 = .ok (.iload_n 1, 1) := by decide +kernel
theorem dX12_works_72 : decode cX12_works 72 = .ok (.bipush 7, 2) := by decide +kernel
theorem dX12_works_74 : decode cX12_works 74 = .ok (.if_icmp .ne 9, 3) := by decide +kernel
theorem dX12_works_77 : decode cX12_works 77 = .ok (.aload_n 0, 1) := by decide +kernel
theorem dX12_works_78 : decode cX12_works 78 = .ok (.iload_n 2, 1) := by decide +kernel
theorem dX12_works_79 : decode cX12_works 79 = .ok (.invokevirtual 270, 3) := by decide +kernel
theorem dX12_works_82 : decode cX12_works 82 = .ok (.ireturn, 1) := by decide +kernel
theorem dX12_works_83 : decode cX12_works 83 = .ok (.iload_n 1, 1) := by decide +kernel
theorem dX12_works_84 : decode cX12_works 84 = .ok (.bipush 10, 2) := by decide +kernel
theorem dX12_works_86 : decode cX12_works 86 = .ok (.if_icmp .eq 9, 3) := by decide +kernel
theorem dX12_works_89 : decode cX12_works 89 = .ok (.iload_n 1, 1) := by decide +kernel
theorem dX12_works_90 : decode cX12_works 90 = .ok (.bipush 11, 2) := by decide +kernel
theorem dX12_works_92 : decode cX12_works 92 = .ok (.if_icmp .ne 11, 3) := by decide +kernel
theorem dX12_works_95 : decode cX12_works 95 = .ok (.aload_n 0, 1) := by decide +kernel
theorem dX12_works_96 : decode cX12_works 96 = .ok (.iload_n 1, 1) := by decide +kernel
theorem dX12_works_97 : decode cX12_works 97 = .ok (.iload_n 2, 1) := by decide +kernel
theorem dX12_works_98 : decode cX12_works 98 = .ok (.iload_n 3, 1) := by decide +kernel
theorem dX12_works_99 : decode cX12_works 99 = .ok (.invokevirtual 273, 3) := by decide +kernel
theorem dX12_works_102 : decode cX12_works 102 = .ok (.ireturn, 1) := by decide +kernel
theorem dX12_works_103 : decode cX12_works 103 = .ok (.iload_n 1, 1) := by decide +kernel
theorem dX12_works_104 : decode cX12_works 104 = .ok (.bipush 12, 2) := by decide +kernel
theorem dX12_works_106 : decode cX12_works 106 = .ok (.if_icmp .eq 15, 3) := by decide +kernel
theorem dX12_works_109 : decode cX12_works 109 = .ok (.iload_n 1, 1) := by decide +kernel
theorem dX12_works_110 : decode cX12_works 110 = .ok (.bipush 13, 2) := by decide +kernel
theorem dX12_works_112 : decode cX12_works 112 = .ok (.if_icmp .eq 9, 3) := by decide +kernel
theorem dX12_works_115 : decode cX12_works 115 = .ok (.iload_n 1, 1) := by decide +kernel
theorem dX12_works_116 : decode cX12_works 116 = .ok (.bipush 14, 2) := by decide +kernel
theorem dX12_works_118 : decode cX12_works 118 = .ok (.if_icmp .ne 16, 3) := by decide +kernel
theorem dX12_works_121 : decode cX12_works 121 = .ok (.aload_n 0, 1) := by decide +kernel
theorem dX12_works_122 : decode cX12_works 122 = .ok (.iload_n 1, 1) := by decide +kernel
theorem dX12_works_123 : decode cX12_works 123 = .ok (.iload_n 2, 1) := by decide +kernel
theorem dX12_works_124 : decode cX12_works 124 = .ok (.invokevirtual 276, 3) := by decide +kernel
theorem dX12_works_127 : decode cX12_works 127 = .ok (.aload_n 0, 1) := by decide +kernel
theorem dX12_works_128 : decode cX12_works 128 = .ok (.getfield 20, 3) := by decide +kernel
theorem dX12_works_131 : decode cX12_works 131 = .ok (.iload_n 2, 1) := by decide +kernel
theorem dX12_works_132 : decode cX12_works 132 = .ok (.iaload, 1) := by decide +kernel
theorem dX12_works_133 : decode cX12_works 133 = .ok (.ireturn, 1) := by decide +kernel
theorem dX12_works_134 : decode cX12_works 134 = .ok (.iload_n 1, 1) := by decide +kernel
theorem dX12_works_135 : decode cX12_works 135 = .ok (.bipush 19, 2) := by decide +kernel
theorem dX12_works_137 : decode cX12_works 137 = .ok (.if_icmp .eq 9, 3) := by decide +kernel
theorem dX12_works_140 : decode cX12_works 140 = .ok (.iload_n 1, 1) := by decide +kernel
theorem dX12_works_141 : decode cX12_works 141 = .ok (.bipush 20, 2) := by decide +kernel
theorem dX12_works_143 : decode cX12_works 143 = .ok (.if_icmp .ne 42, 3) := by decide +kernel
theorem dX12_works_146 : decode cX12_works 146 = .ok (.aload_n 0, 1) := by decide +kernel
theorem dX12_works_147 : decode cX12_works 147 = .ok (.iconst 0, 1) := by decide +kernel
theorem dX12_works_148 : decode cX12_works 148 = .ok (.aload_n 0, 1) := by decide +kernel
theorem dX12_works_149 : decode cX12_works 149 = .ok (.iload_n 2, 1) := by decide +kernel
theorem dX12_works_150 : decode cX12_works 150 = .ok (.iload_n 3, 1) := by decide +kernel
theorem dX12_works_151 : decode cX12_works 151 = .ok (.invokevirtual 279, 3) := by decide +kernel
theorem dX12_works_154 : decode cX12_works 154 = .ok (.ifCond .ge 7, 3) := by decide +kernel
theorem dX12_works_157 : decode cX12_works 157 = .ok (.iconst 1, 1) := by decide +kernel
theorem dX12_works_158 : decode cX12_works 158 = .ok (.goto 4, 3) := by decide +kernel
theorem dX12_works_161 : decode cX12_works 161 = .ok (.iconst 0, 1) := by decide +kernel
theorem dX12_works_162 : decode cX12_works 162 = .ok (.iload_n 1, 1) := by decide +kernel
theorem dX12_works_163 : decode cX12_works 163 = .ok (.bipush 19, 2) := by decide +kernel
theorem dX12_works_165 : decode cX12_works 165 = .ok (.if_icmp .ne 7, 3) := by decide +kernel
theorem dX12_works_168 : decode cX12_works 168 = .ok (.iconst 1, 1) := by decide +kernel
theorem dX12_works_169 : decode cX12_works 169 = .ok (.goto 4, 3) := by decide +kernel
theorem dX12_works_172 : decode cX12_works 172 = .ok (.iconst 0, 1) := by decide +kernel
theorem dX12_works_173 : decode cX12_works 173 = .ok (.if_icmp .ne 7, 3) := by decide +kernel
theorem dX12_works_176 : decode cX12_works 176 = .ok (.iload_n 2, 1) := by decide +kernel
theorem dX12_works_177 : decode cX12_works 177 = .ok (.goto 4, 3) := by decide +kernel
theorem dX12_works_180 : decode cX12_works 180 = .ok (.iload_n 3, 1) := by decide +kernel
theorem dX12_works_181 : decode cX12_works 181 = .ok (.invokevirtual 282, 3) := by decide +kernel
theorem dX12_works_184 : decode cX12_works 184 = .ok (.ireturn, 1) := by decide +kernel
theorem dX12_works_185 : decode cX12_works 185 = .ok (.aload_n 0, 1) := by decide +kernel
theorem dX12_works_186 : decode cX12_works 186 = .ok (.iload_n 1, 1) := by decide +kernel
theorem dX12_works_187 : decode cX12_works 187 = .ok (.iload_n 2, 1) := by decide +kernel
theorem dX12_works_188 : decode cX12_works 188 = .ok (.invokevirtual 282, 3) := by decide +kernel
theorem dX12_works_191 : decode cX12_works 191 = .ok (.ireturn, 1) := by decide +kernel
theorem dX12_bytesIn_0 : decode cX12_bytesIn 0 = .ok (.iconst 0, 1) := by decide +kernel
theorem dX12_bytesIn_1 : decode cX12_bytesIn 1 = .ok (.istore_n 1, 1) := by decide +kernel
theorem dX12_bytesIn_2 : decode cX12_bytesIn 2 = .ok (.iconst 0, 1) := by decide +kernel
theorem dX12_bytesIn_3 : decode cX12_bytesIn 3 = .ok (.istore_n 2, 1) := by decide +kernel
theorem dX12_bytesIn_4 : decode cX12_bytesIn 4 = .ok (.iload_n 2, 1) := by decide +kernel
theorem dX12_bytesIn_5 : decode cX12_bytesIn 5 = .ok (.bipush 32, 2) := by decide +kernel
theorem dX12_bytesIn_7 : decode cX12_bytesIn 7 = .ok (.if_icmp .ge 27, 3) := by decide +kernel
theorem dX12_bytesIn_10 : decode cX12_bytesIn 10 = .ok (.iload_n 1, 1) := by decide +kernel
theorem dX12_bytesIn_11 : decode cX12_bytesIn 11 = .ok (.iload_n 0, 1) := by decide +kernel
theorem dX12_bytesIn_12 : decode cX12_bytesIn 12 = .ok (.iload_n 2, 1) := by decide +kernel
theorem dX12_bytesIn_13 : decode cX12_bytesIn 13 = .ok (.ishr, 1) := by decide +kernel
theorem dX12_bytesIn_14 : decode cX12_bytesIn 14 = .ok (.sipush 255, 3) := by decide +kernel
theorem dX12_bytesIn_17 : decode cX12_bytesIn 17 = .ok (.iand, 1) := by decide +kernel
theorem dX12_bytesIn_18 : decode cX12_bytesIn 18 = .ok (.ifCond .ne 7, 3) := by decide +kernel
theorem dX12_bytesIn_21 : decode cX12_bytesIn 21 = .ok (.iconst 0, 1) := by decide +kernel
theorem dX12_bytesIn_22 : decode cX12_bytesIn 22 = .ok (.goto 4, 3) := by decide +kernel
theorem dX12_bytesIn_25 : decode cX12_bytesIn 25 = .ok (.iconst 1, 1) := by decide +kernel
theorem dX12_bytesIn_26 : decode cX12_bytesIn 26 = .ok (.iadd, 1) := by decide +kernel
theorem dX12_bytesIn_27 : decode cX12_bytesIn 27 = .ok (.istore_n 1, 1) := by decide +kernel
theorem dX12_bytesIn_28 : decode cX12_bytesIn 28 = .ok (.iinc 2 8, 3) := by decide +kernel
theorem dX12_bytesIn_31 : decode cX12_bytesIn 31 = .ok (.goto (-27), 3) := by decide +kernel
theorem dX12_bytesIn_34 : decode cX12_bytesIn 34 = .ok (.iload_n 1, 1) := by decide +kernel
theorem dX12_bytesIn_35 : decode cX12_bytesIn 35 = .ok (.ireturn, 1) := by decide +kernel
theorem dX12_takesBytes_0 : decode cX12_takesBytes 0 = .ok (.bipush 24, 2) := by decide +kernel
theorem dX12_takesBytes_2 : decode cX12_takesBytes 2 = .ok (.istore_n 2, 1) := by decide +kernel
theorem dX12_takesBytes_3 : decode cX12_takesBytes 3 = .ok (.iload_n 2, 1) := by decide +kernel
theorem dX12_takesBytes_4 : decode cX12_takesBytes 4 = .ok (.ifCond .lt 44, 3) := by decide +kernel
theorem dX12_takesBytes_7 : decode cX12_takesBytes 7 = .ok (.iload_n 1, 1) := by decide +kernel
theorem dX12_takesBytes_8 : decode cX12_takesBytes 8 = .ok (.iload_n 2, 1) := by decide +kernel
theorem dX12_takesBytes_9 : decode cX12_takesBytes 9 = .ok (.ishr, 1) := by decide +kernel
theorem dX12_takesBytes_10 : decode cX12_takesBytes 10 = .ok (.sipush 255, 3) := by decide +kernel
theorem dX12_takesBytes_13 : decode cX12_takesBytes 13 = .ok (.iand, 1) := by decide +kernel
theorem dX12_takesBytes_14 : decode cX12_takesBytes 14 = .ok (.istore_n 3, 1) := by decide +kernel
theorem dX12_takesBytes_15 : decode cX12_takesBytes 15 = .ok (.iload_n 3, 1) := by decide +kernel
theorem dX12_takesBytes_16 : decode cX12_takesBytes 16 = .ok (.ifCond .ne 6, 3) := by decide +kernel
theorem dX12_takesBytes_19 : decode cX12_takesBytes 19 = .ok (.goto 23, 3) := by decide +kernel
theorem dX12_takesBytes_22 : decode cX12_takesBytes 22 = .ok (.aload_n 0, 1) := by decide +kernel
theorem dX12_takesBytes_23 : decode cX12_takesBytes 23 = .ok (.getfield 27, 3) := by decide +kernel
theorem dX12_takesBytes_26 : decode cX12_takesBytes 26 = .ok (.aload_n 0, 1) := by decide +kernel
theorem dX12_takesBytes_27 : decode cX12_takesBytes 27 = .ok (.getfield 285, 3) := by decide +kernel
theorem dX12_takesBytes_30 : decode cX12_takesBytes 30 = .ok (.iload_n 3, 1) := by decide +kernel
theorem dX12_takesBytes_31 : decode cX12_takesBytes 31 = .ok (.iastore, 1) := by decide +kernel
theorem dX12_takesBytes_32 : decode cX12_takesBytes 32 = .ok (.aload_n 0, 1) := by decide +kernel
theorem dX12_takesBytes_33 : decode cX12_takesBytes 33 = .ok (.dup, 1) := by decide +kernel
theorem dX12_takesBytes_34 : decode cX12_takesBytes 34 = .ok (.getfield 285, 3) := by decide +kernel
theorem dX12_takesBytes_37 : decode cX12_takesBytes 37 = .ok (.iconst 1, 1) := by decide +kernel
theorem dX12_takesBytes_38 : decode cX12_takesBytes 38 = .ok (.iadd, 1) := by decide +kernel
theorem dX12_takesBytes_39 : decode cX12_takesBytes 39 = .ok (.putfield 285, 3) := by decide +kernel
theorem dX12_takesBytes_42 : decode cX12_takesBytes 42 = .ok (.iinc 2 (-8), 3) := by decide +kernel
theorem dX12_takesBytes_45 : decode cX12_takesBytes 45 = .ok (.goto (-42), 3) := by decide +kernel
theorem dX12_takesBytes_48 : decode cX12_takesBytes 48 = .ok (.return_, 1) := by decide +kernel
theorem dX12_append_0 : decode cX12_append 0 = .ok (.aload_n 0, 1) := by decide +kernel
theorem dX12_append_1 : decode cX12_append 1 = .ok (.iconst 0, 1) := by decide +kernel
theorem dX12_append_2 : decode cX12_append 2 = .ok (.putfield 1, 3) := by decide +kernel
theorem dX12_append_5 : decode cX12_append 5 = .ok (.iload_n 1, 1) := by decide +kernel
theorem dX12_append_6 : decode cX12_append 6 = .ok (.invokestatic 288, 3) := by decide +kernel
theorem dX12_append_9 : decode cX12_append 9 = .ok (.iload_n 2, 1) := by decide +kernel
theorem dX12_append_10 : decode cX12_append 10 = .ok (.invokestatic 288, 3) := by decide +kernel
theorem dX12_append_13 : decode cX12_append 13 = .ok (.iadd, 1) := by decide +kernel
theorem dX12_append_14 : decode cX12_append 14 = .ok (.iload_n 3, 1) := by decide +kernel
theorem dX12_append_15 : decode cX12_append 15 = .ok (.invokestatic 288, 3) := by decide +kernel
theorem dX12_append_18 : decode cX12_append 18 = .ok (.iadd, 1) := by decide +kernel
theorem dX12_append_19 : decode cX12_append 19 = .ok (.iload 4, 2) := by decide +kernel
theorem dX12_append_21 : decode cX12_append 21 = .ok (.invokestatic 288, 3) := by decide +kernel
theorem dX12_append_24 : decode cX12_append 24 = .ok (.iadd, 1) := by decide +kernel
theorem dX12_append_25 : decode cX12_append 25 = .ok (.iload 5, 2) := by decide +kernel
theorem dX12_append_27 : decode cX12_append 27 = .ok (.invokestatic 288, 3) := by decide +kernel
theorem dX12_append_30 : decode cX12_append 30 = .ok (.iadd, 1) := by decide +kernel
theorem dX12_append_31 : decode cX12_append 31 = .ok (.istore 6, 2) := by decide +kernel
theorem dX12_append_33 : decode cX12_append 33 = .ok (.aload_n 0, 1) := by decide +kernel
theorem dX12_append_34 : decode cX12_append 34 = .ok (.aload_n 0, 1) := by decide +kernel
theorem dX12_append_35 : decode cX12_append 35 = .ok (.getfield 285, 3) := by decide +kernel
theorem dX12_append_38 : decode cX12_append 38 = .ok (.iload 6, 2) := by decide +kernel
theorem dX12_append_40 : decode cX12_append 40 = .ok (.iadd, 1) := by decide +kernel
theorem dX12_append_41 : decode cX12_append 41 = .ok (.sipush 200, 3) := by decide +kernel
theorem dX12_append_44 : decode cX12_append 44 = .ok (.if_icmp .gt 7, 3) := by decide +kernel
theorem dX12_append_47 : decode cX12_append 47 = .ok (.iconst 1, 1) := by decide +kernel
theorem dX12_append_48 : decode cX12_append 48 = .ok (.goto 4, 3) := by decide +kernel
theorem dX12_append_51 : decode cX12_append 51 = .ok (.iconst 0, 1) := by decide +kernel
theorem dX12_append_52 : decode cX12_append 52 = .ok (.iconst 1, 1) := by decide +kernel
theorem dX12_append_53 : decode cX12_append 53 = .ok (.invokevirtual 291, 3) := by decide +kernel
theorem dX12_append_56 : decode cX12_append 56 = .ok (.ifCond .eq 5, 3) := by decide +kernel
theorem dX12_append_59 : decode cX12_append 59 = .ok (.iconst 0, 1) := by decide +kernel
theorem dX12_append_60 : decode cX12_append 60 = .ok (.ireturn, 1) := by decide +kernel
theorem dX12_append_61 : decode cX12_append 61 = .ok (.aload_n 0, 1) := by decide +kernel
theorem dX12_append_62 : decode cX12_append 62 = .ok (.iload_n 1, 1) := by decide +kernel
theorem dX12_append_63 : decode cX12_append 63 = .ok (.invokevirtual 295, 3) := by decide +kernel
theorem dX12_append_66 : decode cX12_append 66 = .ok (.aload_n 0, 1) := by decide +kernel
theorem dX12_append_67 : decode cX12_append 67 = .ok (.iload_n 2, 1) := by decide +kernel
theorem dX12_append_68 : decode cX12_append 68 = .ok (.invokevirtual 295, 3) := by decide +kernel
theorem dX12_append_71 : decode cX12_append 71 = .ok (.aload_n 0, 1) := by decide +kernel
theorem dX12_append_72 : decode cX12_append 72 = .ok (.iload_n 3, 1) := by decide +kernel
theorem dX12_append_73 : decode cX12_append 73 = .ok (.invokevirtual 295, 3) := by decide +kernel
theorem dX12_append_76 : decode cX12_append 76 = .ok (.aload_n 0, 1) := by decide +kernel
theorem dX12_append_77 : decode cX12_append 77 = .ok (.iload 4, 2) := by decide +kernel
theorem dX12_append_79 : decode cX12_append 79 = .ok (.invokevirtual 295, 3) := by decide +kernel
theorem dX12_append_82 : decode cX12_append 82 = .ok (.aload_n 0, 1) := by decide +kernel
theorem dX12_append_83 : decode cX12_append 83 = .ok (.iload 5, 2) := by decide +kernel
theorem dX12_append_85 : decode cX12_append 85 = .ok (.invokevirtual 295, 3) := by decide +kernel
theorem dX12_append_88 : decode cX12_append 88 = .ok (.aload_n 0, 1) := by decide +kernel
theorem dX12_append_89 : decode cX12_append 89 = .ok (.getfield 285, 3) := by decide +kernel
theorem dX12_append_92 : decode cX12_append 92 = .ok (.ireturn, 1) := by decide +kernel
theorem dX12_clearTape_0 : decode cX12_clearTape 0 = .ok (.aload_n 0, 1) := by decide +kernel
theorem dX12_clearTape_1 : decode cX12_clearTape 1 = .ok (.iconst 0, 1) := by decide +kernel
theorem dX12_clearTape_2 : decode cX12_clearTape 2 = .ok (.putfield 1, 3) := by decide +kernel
theorem dX12_clearTape_5 : decode cX12_clearTape 5 = .ok (.aload_n 0, 1) := by decide +kernel
theorem dX12_clearTape_6 : decode cX12_clearTape 6 = .ok (.getfield 285, 3) := by decide +kernel
theorem dX12_clearTape_9 : decode cX12_clearTape 9 = .ok (.istore_n 1, 1) := by decide +kernel
theorem dX12_clearTape_10 : decode cX12_clearTape 10 = .ok (.aload_n 0, 1) := by decide +kernel
theorem dX12_clearTape_11 : decode cX12_clearTape 11 = .ok (.iconst 0, 1) := by decide +kernel
theorem dX12_clearTape_12 : decode cX12_clearTape 12 = .ok (.putfield 285, 3) := by decide +kernel
theorem dX12_clearTape_15 : decode cX12_clearTape 15 = .ok (.iload_n 1, 1) := by decide +kernel
theorem dX12_clearTape_16 : decode cX12_clearTape 16 = .ok (.ireturn, 1) := by decide +kernel
theorem dX12_isDigit_0 : decode cX12_isDigit 0 = .ok (.iload_n 0, 1) := by decide +kernel
theorem dX12_isDigit_1 : decode cX12_isDigit 1 = .ok (.bipush 48, 2) := by decide +kernel
theorem dX12_isDigit_3 : decode cX12_isDigit 3 = .ok (.bipush 57, 2) := by decide +kernel
theorem dX12_isDigit_5 : decode cX12_isDigit 5 = .ok (.invokestatic 251, 3) := by decide +kernel
theorem dX12_isDigit_8 : decode cX12_isDigit 8 = .ok (.ireturn, 1) := by decide +kernel
theorem dX12_hasDigit_0 : decode cX12_hasDigit 0 = .ok (.iload_n 1, 1) := by decide +kernel
theorem dX12_hasDigit_1 : decode cX12_hasDigit 1 = .ok (.aload_n 0, 1) := by decide +kernel
theorem dX12_hasDigit_2 : decode cX12_hasDigit 2 = .ok (.getfield 285, 3) := by decide +kernel
theorem dX12_hasDigit_5 : decode cX12_hasDigit 5 = .ok (.if_icmp .ge 19, 3) := by decide +kernel
theorem dX12_hasDigit_8 : decode cX12_hasDigit 8 = .ok (.aload_n 0, 1) := by decide +kernel
theorem dX12_hasDigit_9 : decode cX12_hasDigit 9 = .ok (.getfield 27, 3) := by decide +kernel
theorem dX12_hasDigit_12 : decode cX12_hasDigit 12 = .ok (.iload_n 1, 1) := by decide +kernel
theorem dX12_hasDigit_13 : decode cX12_hasDigit 13 = .ok (.iaload, 1) := by decide +kernel
theorem dX12_hasDigit_14 : decode cX12_hasDigit 14 = .ok (.invokestatic 298, 3) := by decide +kernel
theorem dX12_hasDigit_17 : decode cX12_hasDigit 17 = .ok (.ifCond .eq 7, 3) := by decide +kernel
theorem dX12_hasDigit_20 : decode cX12_hasDigit 20 = .ok (.iconst 1, 1) := by decide +kernel
theorem dX12_hasDigit_21 : decode cX12_hasDigit 21 = .ok (.goto 4, 3) := by decide +kernel
theorem dX12_hasDigit_24 : decode cX12_hasDigit 24 = .ok (.iconst 0, 1) := by decide +kernel
theorem dX12_hasDigit_25 : decode cX12_hasDigit 25 = .ok (.ireturn, 1) := by decide +kernel
theorem dX12_hasByte_0 : decode cX12_hasByte 0 = .ok (.iload_n 1, 1) := by decide +kernel
theorem dX12_hasByte_1 : decode cX12_hasByte 1 = .ok (.aload_n 0, 1) := by decide +kernel
theorem dX12_hasByte_2 : decode cX12_hasByte 2 = .ok (.getfield 285, 3) := by decide +kernel
theorem dX12_hasByte_5 : decode cX12_hasByte 5 = .ok (.if_icmp .ge 17, 3) := by decide +kernel
theorem dX12_hasByte_8 : decode cX12_hasByte 8 = .ok (.aload_n 0, 1) := by decide +kernel
theorem dX12_hasByte_9 : decode cX12_hasByte 9 = .ok (.getfield 27, 3) := by decide +kernel
theorem dX12_hasByte_12 : decode cX12_hasByte 12 = .ok (.iload_n 1, 1) := by decide +kernel
theorem dX12_hasByte_13 : decode cX12_hasByte 13 = .ok (.iaload, 1) := by decide +kernel
theorem dX12_hasByte_14 : decode cX12_hasByte 14 = .ok (.iload_n 2, 1) := by decide +kernel
theorem dX12_hasByte_15 : decode cX12_hasByte 15 = .ok (.if_icmp .ne 7, 3) := by decide +kernel
theorem dX12_hasByte_18 : decode cX12_hasByte 18 = .ok (.iconst 1, 1) := by decide +kernel
theorem dX12_hasByte_19 : decode cX12_hasByte 19 = .ok (.goto 4, 3) := by decide +kernel
theorem dX12_hasByte_22 : decode cX12_hasByte 22 = .ok (.iconst 0, 1) := by decide +kernel
theorem dX12_hasByte_23 : decode cX12_hasByte 23 = .ok (.ireturn, 1) := by decide +kernel
theorem dX12_endOfDigits_0 : decode cX12_endOfDigits 0 = .ok (.iload_n 1, 1) := by decide +kernel
theorem dX12_endOfDigits_1 : decode cX12_endOfDigits 1 = .ok (.istore_n 2, 1) := by decide +kernel
theorem dX12_endOfDigits_2 : decode cX12_endOfDigits 2 = .ok (.aload_n 0, 1) := by decide +kernel
theorem dX12_endOfDigits_3 : decode cX12_endOfDigits 3 = .ok (.iload_n 2, 1) := by decide +kernel
theorem dX12_endOfDigits_4 : decode cX12_endOfDigits 4 = .ok (.invokevirtual 301, 3) := by decide +kernel
theorem dX12_endOfDigits_7 : decode cX12_endOfDigits 7 = .ok (.ifCond .eq 9, 3) := by decide +kernel
theorem dX12_endOfDigits_10 : decode cX12_endOfDigits 10 = .ok (.iinc 2 1, 3) := by decide +kernel
theorem dX12_endOfDigits_13 : decode cX12_endOfDigits 13 = .ok (.goto (-11), 3) := by decide +kernel
theorem dX12_endOfDigits_16 : decode cX12_endOfDigits 16 = .ok (.iload_n 2, 1) := by decide +kernel
theorem dX12_endOfDigits_17 : decode cX12_endOfDigits 17 = .ok (.ireturn, 1) := by decide +kernel
theorem dX12_isSign_0 : decode cX12_isSign 0 = .ok (.iload_n 0, 1) := by decide +kernel
theorem dX12_isSign_1 : decode cX12_isSign 1 = .ok (.bipush 61, 2) := by decide +kernel
theorem dX12_isSign_3 : decode cX12_isSign 3 = .ok (.if_icmp .eq 63, 3) := by decide +kernel
theorem dX12_isSign_6 : decode cX12_isSign 6 = .ok (.iload_n 0, 1) := by decide +kernel
theorem dX12_isSign_7 : decode cX12_isSign 7 = .ok (.bipush 40, 2) := by decide +kernel
theorem dX12_isSign_9 : decode cX12_isSign 9 = .ok (.if_icmp .eq 57, 3) := by decide +kernel
theorem dX12_isSign_12 : decode cX12_isSign 12 = .ok (.iload_n 0, 1) := by decide +kernel
theorem dX12_isSign_13 : decode cX12_isSign 13 = .ok (.bipush 41, 2) := by decide +kernel
theorem dX12_isSign_15 : decode cX12_isSign 15 = .ok (.if_icmp .eq 51, 3) := by decide +kernel
theorem dX12_isSign_18 : decode cX12_isSign 18 = .ok (.iload_n 0, 1) := by decide +kernel
theorem dX12_isSign_19 : decode cX12_isSign 19 = .ok (.bipush 44, 2) := by decide +kernel
theorem dX12_isSign_21 : decode cX12_isSign 21 = .ok (.if_icmp .eq 45, 3) := by decide +kernel
theorem dX12_isSign_24 : decode cX12_isSign 24 = .ok (.iload_n 0, 1) := by decide +kernel
theorem dX12_isSign_25 : decode cX12_isSign 25 = .ok (.bipush 43, 2) := by decide +kernel
theorem dX12_isSign_27 : decode cX12_isSign 27 = .ok (.if_icmp .eq 39, 3) := by decide +kernel
theorem dX12_isSign_30 : decode cX12_isSign 30 = .ok (.iload_n 0, 1) := by decide +kernel
theorem dX12_isSign_31 : decode cX12_isSign 31 = .ok (.bipush 45, 2) := by decide +kernel
theorem dX12_isSign_33 : decode cX12_isSign 33 = .ok (.if_icmp .eq 33, 3) := by decide +kernel
theorem dX12_isSign_36 : decode cX12_isSign 36 = .ok (.iload_n 0, 1) := by decide +kernel
theorem dX12_isSign_37 : decode cX12_isSign 37 = .ok (.bipush 42, 2) := by decide +kernel
theorem dX12_isSign_39 : decode cX12_isSign 39 = .ok (.if_icmp .eq 27, 3) := by decide +kernel
theorem dX12_isSign_42 : decode cX12_isSign 42 = .ok (.iload_n 0, 1) := by decide +kernel
theorem dX12_isSign_43 : decode cX12_isSign 43 = .ok (.bipush 47, 2) := by decide +kernel
theorem dX12_isSign_45 : decode cX12_isSign 45 = .ok (.if_icmp .eq 21, 3) := by decide +kernel
theorem dX12_isSign_48 : decode cX12_isSign 48 = .ok (.iload_n 0, 1) := by decide +kernel
theorem dX12_isSign_49 : decode cX12_isSign 49 = .ok (.bipush 37, 2) := by decide +kernel
theorem dX12_isSign_51 : decode cX12_isSign 51 = .ok (.if_icmp .eq 15, 3) := by decide +kernel
theorem dX12_isSign_54 : decode cX12_isSign 54 = .ok (.iload_n 0, 1) := by decide +kernel
theorem dX12_isSign_55 : decode cX12_isSign 55 = .ok (.bipush 94, 2) := by decide +kernel
theorem dX12_isSign_57 : decode cX12_isSign 57 = .ok (.if_icmp .eq 9, 3) := by decide +kernel
theorem dX12_isSign_60 : decode cX12_isSign 60 = .ok (.iload_n 0, 1) := by decide +kernel
theorem dX12_isSign_61 : decode cX12_isSign 61 = .ok (.bipush 33, 2) := by decide +kernel
theorem dX12_isSign_63 : decode cX12_isSign 63 = .ok (.if_icmp .ne 7, 3) := by decide +kernel
theorem dX12_isSign_66 : decode cX12_isSign 66 = .ok (.iconst 1, 1) := by decide +kernel
theorem dX12_isSign_67 : decode cX12_isSign 67 = .ok (.goto 4, 3) := by decide +kernel
theorem dX12_isSign_70 : decode cX12_isSign 70 = .ok (.iconst 0, 1) := by decide +kernel
theorem dX12_isSign_71 : decode cX12_isSign 71 = .ok (.ireturn, 1) := by decide +kernel
theorem dX12_readsNumber_0 : decode cX12_readsNumber 0 = .ok (.aload_n 0, 1) := by decide +kernel
theorem dX12_readsNumber_1 : decode cX12_readsNumber 1 = .ok (.aload_n 0, 1) := by decide +kernel
theorem dX12_readsNumber_2 : decode cX12_readsNumber 2 = .ok (.getfield 304, 3) := by decide +kernel
theorem dX12_readsNumber_5 : decode cX12_readsNumber 5 = .ok (.invokevirtual 307, 3) := by decide +kernel
theorem dX12_readsNumber_8 : decode cX12_readsNumber 8 = .ok (.istore_n 1, 1) := by decide +kernel
theorem dX12_readsNumber_9 : decode cX12_readsNumber 9 = .ok (.iload_n 1, 1) := by decide +kernel
theorem dX12_readsNumber_10 : decode cX12_readsNumber 10 = .ok (.aload_n 0, 1) := by decide +kernel
theorem dX12_readsNumber_11 : decode cX12_readsNumber 11 = .ok (.getfield 304, 3) := by decide +kernel
theorem dX12_readsNumber_14 : decode cX12_readsNumber 14 = .ok (.isub, 1) := by decide +kernel
theorem dX12_readsNumber_15 : decode cX12_readsNumber 15 = .ok (.bipush 12, 2) := by decide +kernel
theorem dX12_readsNumber_17 : decode cX12_readsNumber 17 = .ok (.if_icmp .gt 7, 3) := by decide +kernel
theorem dX12_readsNumber_20 : decode cX12_readsNumber 20 = .ok (.iconst 1, 1) := by decide +kernel
theorem dX12_readsNumber_21 : decode cX12_readsNumber 21 = .ok (.goto 4, 3) := by decide +kernel
theorem dX12_readsNumber_24 : decode cX12_readsNumber 24 = .ok (.iconst 0, 1) := by decide +kernel
theorem dX12_readsNumber_25 : decode cX12_readsNumber 25 = .ok (.istore_n 2, 1) := by decide +kernel
theorem dX12_readsNumber_26 : decode cX12_readsNumber 26 = .ok (.aload_n 0, 1) := by decide +kernel
theorem dX12_readsNumber_27 : decode cX12_readsNumber 27 = .ok (.iload_n 1, 1) := by decide +kernel
theorem dX12_readsNumber_28 : decode cX12_readsNumber 28 = .ok (.putfield 310, 3) := by decide +kernel
theorem dX12_readsNumber_31 : decode cX12_readsNumber 31 = .ok (.aload_n 0, 1) := by decide +kernel
theorem dX12_readsNumber_32 : decode cX12_readsNumber 32 = .ok (.iload_n 1, 1) := by decide +kernel
theorem dX12_readsNumber_33 : decode cX12_readsNumber 33 = .ok (.putfield 313, 3) := by decide +kernel
theorem dX12_readsNumber_36 : decode cX12_readsNumber 36 = .ok (.aload_n 0, 1) := by decide +kernel
theorem dX12_readsNumber_37 : decode cX12_readsNumber 37 = .ok (.iload_n 1, 1) := by decide +kernel
theorem dX12_readsNumber_38 : decode cX12_readsNumber 38 = .ok (.bipush 46, 2) := by decide +kernel
theorem dX12_readsNumber_40 : decode cX12_readsNumber 40 = .ok (.invokevirtual 316, 3) := by decide +kernel
theorem dX12_readsNumber_43 : decode cX12_readsNumber 43 = .ok (.ifCond .eq 108, 3) := by decide +kernel
theorem dX12_readsNumber_46 : decode cX12_readsNumber 46 = .ok (.iload_n 1, 1) := by decide +kernel
theorem dX12_readsNumber_47 : decode cX12_readsNumber 47 = .ok (.iconst 1, 1) := by decide +kernel
theorem dX12_readsNumber_48 : decode cX12_readsNumber 48 = .ok (.iadd, 1) := by decide +kernel
theorem dX12_readsNumber_49 : decode cX12_readsNumber 49 = .ok (.istore_n 3, 1) := by decide +kernel
theorem dX12_readsNumber_50 : decode cX12_readsNumber 50 = .ok (.aload_n 0, 1) := by decide +kernel
theorem dX12_readsNumber_51 : decode cX12_readsNumber 51 = .ok (.iload_n 3, 1) := by decide +kernel
theorem dX12_readsNumber_52 : decode cX12_readsNumber 52 = .ok (.invokevirtual 307, 3) := by decide +kernel
theorem dX12_readsNumber_55 : decode cX12_readsNumber 55 = .ok (.istore_n 1, 1) := by decide +kernel
theorem dX12_readsNumber_56 : decode cX12_readsNumber 56 = .ok (.iload_n 2, 1) := by decide +kernel
theorem dX12_readsNumber_57 : decode cX12_readsNumber 57 = .ok (.iload_n 1, 1) := by decide +kernel
theorem dX12_readsNumber_58 : decode cX12_readsNumber 58 = .ok (.iload_n 3, 1) := by decide +kernel
theorem dX12_readsNumber_59 : decode cX12_readsNumber 59 = .ok (.isub, 1) := by decide +kernel
theorem dX12_readsNumber_60 : decode cX12_readsNumber 60 = .ok (.bipush 6, 2) := by decide +kernel
theorem dX12_readsNumber_62 : decode cX12_readsNumber 62 = .ok (.if_icmp .gt 7, 3) := by decide +kernel
theorem dX12_readsNumber_65 : decode cX12_readsNumber 65 = .ok (.iconst 1, 1) := by decide +kernel
theorem dX12_readsNumber_66 : decode cX12_readsNumber 66 = .ok (.goto 4, 3) := by decide +kernel
theorem dX12_readsNumber_69 : decode cX12_readsNumber 69 = .ok (.iconst 0, 1) := by decide +kernel
theorem dX12_readsNumber_70 : decode cX12_readsNumber 70 = .ok (.iand, 1) := by decide +kernel
theorem dX12_readsNumber_71 : decode cX12_readsNumber 71 = .ok (.istore_n 2, 1) := by decide +kernel
theorem dX12_readsNumber_72 : decode cX12_readsNumber 72 = .ok (.aload_n 0, 1) := by decide +kernel
theorem dX12_readsNumber_73 : decode cX12_readsNumber 73 = .ok (.iload_n 1, 1) := by decide +kernel
theorem dX12_readsNumber_74 : decode cX12_readsNumber 74 = .ok (.putfield 313, 3) := by decide +kernel
theorem dX12_readsNumber_77 : decode cX12_readsNumber 77 = .ok (.aload_n 0, 1) := by decide +kernel
theorem dX12_readsNumber_78 : decode cX12_readsNumber 78 = .ok (.iload_n 1, 1) := by decide +kernel
theorem dX12_readsNumber_79 : decode cX12_readsNumber 79 = .ok (.bipush 91, 2) := by decide +kernel
theorem dX12_readsNumber_81 : decode cX12_readsNumber 81 = .ok (.invokevirtual 316, 3) := by decide +kernel
theorem dX12_readsNumber_84 : decode cX12_readsNumber 84 = .ok (.ifCond .eq 54, 3) := by decide +kernel
theorem dX12_readsNumber_87 : decode cX12_readsNumber 87 = .ok (.aload_n 0, 1) := by decide +kernel
theorem dX12_readsNumber_88 : decode cX12_readsNumber 88 = .ok (.iload_n 1, 1) := by decide +kernel
theorem dX12_readsNumber_89 : decode cX12_readsNumber 89 = .ok (.iconst 1, 1) := by decide +kernel
theorem dX12_readsNumber_90 : decode cX12_readsNumber 90 = .ok (.iadd, 1) := by decide +kernel
theorem dX12_readsNumber_91 : decode cX12_readsNumber 91 = .ok (.invokevirtual 307, 3) := by decide +kernel
theorem dX12_readsNumber_94 : decode cX12_readsNumber 94 = .ok (.istore 4, 2) := by decide +kernel
theorem dX12_readsNumber_96 : decode cX12_readsNumber 96 = .ok (.iload_n 2, 1) := by decide +kernel
theorem dX12_readsNumber_97 : decode cX12_readsNumber 97 = .ok (.iload 4, 2) := by decide +kernel
theorem dX12_readsNumber_99 : decode cX12_readsNumber 99 = .ok (.iload_n 1, 1) := by decide +kernel
theorem dX12_readsNumber_100 : decode cX12_readsNumber 100 = .ok (.isub, 1) := by decide +kernel
theorem dX12_readsNumber_101 : decode cX12_readsNumber 101 = .ok (.iconst 1, 1) := by decide +kernel
theorem dX12_readsNumber_102 : decode cX12_readsNumber 102 = .ok (.isub, 1) := by decide +kernel
theorem dX12_readsNumber_103 : decode cX12_readsNumber 103 = .ok (.iconst 1, 1) := by decide +kernel
theorem dX12_readsNumber_104 : decode cX12_readsNumber 104 = .ok (.bipush 6, 2) := by decide +kernel
theorem dX12_readsNumber_106 : decode cX12_readsNumber 106 = .ok (.invokestatic 251, 3) := by decide +kernel
theorem dX12_readsNumber_109 : decode cX12_readsNumber 109 = .ok (.ifCond .eq 18, 3) := by decide +kernel
theorem dX12_readsNumber_112 : decode cX12_readsNumber 112 = .ok (.aload_n 0, 1) := by decide +kernel
theorem dX12_readsNumber_113 : decode cX12_readsNumber 113 = .ok (.iload 4, 2) := by decide +kernel
theorem dX12_readsNumber_115 : decode cX12_readsNumber 115 = .ok (.bipush 93, 2) := by decide +kernel
theorem dX12_readsNumber_117 : decode cX12_readsNumber 117 = .ok (.invokevirtual 316, 3) := by decide +kernel
theorem dX12_readsNumber_120 : decode cX12_readsNumber 120 = .ok (.ifCond .eq 7, 3) := by decide +kernel
theorem dX12_readsNumber_123 : decode cX12_readsNumber 123 = .ok (.iconst 1, 1) := by decide +kernel
theorem dX12_readsNumber_124 : decode cX12_readsNumber 124 = .ok (.goto 4, 3) := by decide +kernel
theorem dX12_readsNumber_127 : decode cX12_readsNumber 127 = .ok (.iconst 0, 1) := by decide +kernel
theorem dX12_readsNumber_128 : decode cX12_readsNumber 128 = .ok (.iand, 1) := by decide +kernel
theorem dX12_readsNumber_129 : decode cX12_readsNumber 129 = .ok (.istore_n 2, 1) := by decide +kernel
theorem dX12_readsNumber_130 : decode cX12_readsNumber 130 = .ok (.iload 4, 2) := by decide +kernel
theorem dX12_readsNumber_132 : decode cX12_readsNumber 132 = .ok (.iconst 1, 1) := by decide +kernel
theorem dX12_readsNumber_133 : decode cX12_readsNumber 133 = .ok (.iadd, 1) := by decide +kernel
theorem dX12_readsNumber_134 : decode cX12_readsNumber 134 = .ok (.istore_n 1, 1) := by decide +kernel
theorem dX12_readsNumber_135 : decode cX12_readsNumber 135 = .ok (.goto 16, 3) := by decide +kernel
theorem dX12_readsNumber_138 : decode cX12_readsNumber 138 = .ok (.iload_n 2, 1) := by decide +kernel
theorem dX12_readsNumber_139 : decode cX12_readsNumber 139 = .ok (.iload_n 1, 1) := by decide +kernel
theorem dX12_readsNumber_140 : decode cX12_readsNumber 140 = .ok (.iload_n 3, 1) := by decide +kernel
theorem dX12_readsNumber_141 : decode cX12_readsNumber 141 = .ok (.if_icmp .le 7, 3) := by decide +kernel
theorem dX12_readsNumber_144 : decode cX12_readsNumber 144 = .ok (.iconst 1, 1) := by decide +kernel
theorem dX12_readsNumber_145 : decode cX12_readsNumber 145 = .ok (.goto 4, 3) := by decide +kernel
theorem dX12_readsNumber_148 : decode cX12_readsNumber 148 = .ok (.iconst 0, 1) := by decide +kernel
theorem dX12_readsNumber_149 : decode cX12_readsNumber 149 = .ok (.iand, 1) := by decide +kernel
theorem dX12_readsNumber_150 : decode cX12_readsNumber 150 = .ok (.istore_n 2, 1) := by decide +kernel
theorem dX12_readsNumber_151 : decode cX12_readsNumber 151 = .ok (.aload_n 0, 1) := by decide +kernel
theorem dX12_readsNumber_152 : decode cX12_readsNumber 152 = .ok (.iload_n 1, 1) := by decide +kernel
theorem dX12_readsNumber_153 : decode cX12_readsNumber 153 = .ok (.putfield 319, 3) := by decide +kernel
theorem dX12_readsNumber_156 : decode cX12_readsNumber 156 = .ok (.aload_n 0, 1) := by decide +kernel
theorem dX12_readsNumber_157 : decode cX12_readsNumber 157 = .ok (.iload_n 2, 1) := by decide +kernel
theorem dX12_readsNumber_158 : decode cX12_readsNumber 158 = .ok (.ifCond .eq 7, 3) := by decide +kernel
theorem dX12_readsNumber_161 : decode cX12_readsNumber 161 = .ok (.iconst 2, 1) := by decide +kernel
theorem dX12_readsNumber_162 : decode cX12_readsNumber 162 = .ok (.goto 4, 3) := by decide +kernel
theorem dX12_readsNumber_165 : decode cX12_readsNumber 165 = .ok (.iconst 4, 1) := by decide +kernel
theorem dX12_readsNumber_166 : decode cX12_readsNumber 166 = .ok (.putfield 322, 3) := by decide +kernel
theorem dX12_readsNumber_169 : decode cX12_readsNumber 169 = .ok (.aload_n 0, 1) := by decide +kernel
theorem dX12_readsNumber_170 : decode cX12_readsNumber 170 = .ok (.iload_n 1, 1) := by decide +kernel
theorem dX12_readsNumber_171 : decode cX12_readsNumber 171 = .ok (.putfield 304, 3) := by decide +kernel
theorem dX12_readsNumber_174 : decode cX12_readsNumber 174 = .ok (.return_, 1) := by decide +kernel
theorem dX12_readsWord_0 : decode cX12_readsWord 0 = .ok (.iconst 0, 1) := by decide +kernel
theorem dX12_readsWord_1 : decode cX12_readsWord 1 = .ok (.istore_n 1, 1) := by decide +kernel
theorem dX12_readsWord_2 : decode cX12_readsWord 2 = .ok (.aload_n 0, 1) := by decide +kernel
theorem dX12_readsWord_3 : decode cX12_readsWord 3 = .ok (.iconst 0, 1) := by decide +kernel
theorem dX12_readsWord_4 : decode cX12_readsWord 4 = .ok (.putfield 325, 3) := by decide +kernel
theorem dX12_readsWord_7 : decode cX12_readsWord 7 = .ok (.aload_n 0, 1) := by decide +kernel
theorem dX12_readsWord_8 : decode cX12_readsWord 8 = .ok (.getfield 304, 3) := by decide +kernel
theorem dX12_readsWord_11 : decode cX12_readsWord 11 = .ok (.aload_n 0, 1) := by decide +kernel
theorem dX12_readsWord_12 : decode cX12_readsWord 12 = .ok (.getfield 285, 3) := by decide +kernel
theorem dX12_readsWord_15 : decode cX12_readsWord 15 = .ok (.if_icmp .ge 70, 3) := by decide +kernel
theorem dX12_readsWord_18 : decode cX12_readsWord 18 = .ok (.aload_n 0, 1) := by decide +kernel
theorem dX12_readsWord_19 : decode cX12_readsWord 19 = .ok (.getfield 27, 3) := by decide +kernel
theorem dX12_readsWord_22 : decode cX12_readsWord 22 = .ok (.aload_n 0, 1) := by decide +kernel
theorem dX12_readsWord_23 : decode cX12_readsWord 23 = .ok (.getfield 304, 3) := by decide +kernel
theorem dX12_readsWord_26 : decode cX12_readsWord 26 = .ok (.iaload, 1) := by decide +kernel
theorem dX12_readsWord_27 : decode cX12_readsWord 27 = .ok (.bipush 97, 2) := by decide +kernel
theorem dX12_readsWord_29 : decode cX12_readsWord 29 = .ok (.bipush 122, 2) := by decide +kernel
theorem dX12_readsWord_31 : decode cX12_readsWord 31 = .ok (.invokestatic 251, 3) := by decide +kernel
theorem dX12_readsWord_34 : decode cX12_readsWord 34 = .ok (.ifCond .eq 51, 3) := by decide +kernel
theorem dX12_readsWord_37 : decode cX12_readsWord 37 = .ok (.iload_n 1, 1) := by decide +kernel
theorem dX12_readsWord_38 : decode cX12_readsWord 38 = .ok (.bipush 6, 2) := by decide +kernel
theorem dX12_readsWord_40 : decode cX12_readsWord 40 = .ok (.if_icmp .ge 29, 3) := by decide +kernel
theorem dX12_readsWord_43 : decode cX12_readsWord 43 = .ok (.aload_n 0, 1) := by decide +kernel
theorem dX12_readsWord_44 : decode cX12_readsWord 44 = .ok (.bipush 27, 2) := by decide +kernel
theorem dX12_readsWord_46 : decode cX12_readsWord 46 = .ok (.aload_n 0, 1) := by decide +kernel
theorem dX12_readsWord_47 : decode cX12_readsWord 47 = .ok (.getfield 325, 3) := by decide +kernel
theorem dX12_readsWord_50 : decode cX12_readsWord 50 = .ok (.imul, 1) := by decide +kernel
theorem dX12_readsWord_51 : decode cX12_readsWord 51 = .ok (.aload_n 0, 1) := by decide +kernel
theorem dX12_readsWord_52 : decode cX12_readsWord 52 = .ok (.getfield 27, 3) := by decide +kernel
theorem dX12_readsWord_55 : decode cX12_readsWord 55 = .ok (.aload_n 0, 1) := by decide +kernel
theorem dX12_readsWord_56 : decode cX12_readsWord 56 = .ok (.getfield 304, 3) := by decide +kernel
theorem dX12_readsWord_59 : decode cX12_readsWord 59 = .ok (.iaload, 1) := by decide +kernel
theorem dX12_readsWord_60 : decode cX12_readsWord 60 = .ok (.iadd, 1) := by decide +kernel
theorem dX12_readsWord_61 : decode cX12_readsWord 61 = .ok (.bipush 97, 2) := by decide +kernel
theorem dX12_readsWord_63 : decode cX12_readsWord 63 = .ok (.isub, 1) := by decide +kernel
theorem dX12_readsWord_64 : decode cX12_readsWord 64 = .ok (.iconst 1, 1) := by decide +kernel
theorem dX12_readsWord_65 : decode cX12_readsWord 65 = .ok (.iadd, 1) := by decide +kernel
theorem dX12_readsWord_66 : decode cX12_readsWord 66 = .ok (.putfield 325, 3) := by decide +kernel
theorem dX12_readsWord_69 : decode cX12_readsWord 69 = .ok (.iinc 1 1, 3) := by decide +kernel
theorem dX12_readsWord_72 : decode cX12_readsWord 72 = .ok (.aload_n 0, 1) := by decide +kernel
theorem dX12_readsWord_73 : decode cX12_readsWord 73 = .ok (.dup, 1) := by decide +kernel
theorem dX12_readsWord_74 : decode cX12_readsWord 74 = .ok (.getfield 304, 3) := by decide +kernel
theorem dX12_readsWord_77 : decode cX12_readsWord 77 = .ok (.iconst 1, 1) := by decide +kernel
theorem dX12_readsWord_78 : decode cX12_readsWord 78 = .ok (.iadd, 1) := by decide +kernel
theorem dX12_readsWord_79 : decode cX12_readsWord 79 = .ok (.putfield 304, 3) := by decide +kernel
theorem dX12_readsWord_82 : decode cX12_readsWord 82 = .ok (.goto (-75), 3) := by decide +kernel
theorem dX12_readsWord_85 : decode cX12_readsWord 85 = .ok (.aload_n 0, 1) := by decide +kernel
theorem dX12_readsWord_86 : decode cX12_readsWord 86 = .ok (.iload_n 1, 1) := by decide +kernel
theorem dX12_readsWord_87 : decode cX12_readsWord 87 = .ok (.bipush 6, 2) := by decide +kernel
theorem dX12_readsWord_89 : decode cX12_readsWord 89 = .ok (.if_icmp .gt 7, 3) := by decide +kernel
theorem dX12_readsWord_92 : decode cX12_readsWord 92 = .ok (.iconst 3, 1) := by decide +kernel
theorem dX12_readsWord_93 : decode cX12_readsWord 93 = .ok (.goto 4, 3) := by decide +kernel
theorem dX12_readsWord_96 : decode cX12_readsWord 96 = .ok (.iconst 4, 1) := by decide +kernel
theorem dX12_readsWord_97 : decode cX12_readsWord 97 = .ok (.putfield 322, 3) := by decide +kernel
theorem dX12_readsWord_100 : decode cX12_readsWord 100 = .ok (.return_, 1) := by decide +kernel
theorem dX12_reads_0 : decode cX12_reads 0 = .ok (.aload_n 0, 1) := by decide +kernel
theorem dX12_reads_1 : decode cX12_reads 1 = .ok (.aload_n 0, 1) := by decide +kernel
theorem dX12_reads_2 : decode cX12_reads 2 = .ok (.getfield 304, 3) := by decide +kernel
theorem dX12_reads_5 : decode cX12_reads 5 = .ok (.bipush 32, 2) := by decide +kernel
theorem dX12_reads_7 : decode cX12_reads 7 = .ok (.invokevirtual 316, 3) := by decide +kernel
theorem dX12_reads_10 : decode cX12_reads 10 = .ok (.ifCond .ne 16, 3) := by decide +kernel
theorem dX12_reads_13 : decode cX12_reads 13 = .ok (.aload_n 0, 1) := by decide +kernel
theorem dX12_reads_14 : decode cX12_reads 14 = .ok (.aload_n 0, 1) := by decide +kernel
theorem dX12_reads_15 : decode cX12_reads 15 = .ok (.getfield 304, 3) := by decide +kernel
theorem dX12_reads_18 : decode cX12_reads 18 = .ok (.bipush 10, 2) := by decide +kernel
theorem dX12_reads_20 : decode cX12_reads 20 = .ok (.invokevirtual 316, 3) := by decide +kernel
theorem dX12_reads_23 : decode cX12_reads 23 = .ok (.ifCond .eq 16, 3) := by decide +kernel
theorem dX12_reads_26 : decode cX12_reads 26 = .ok (.aload_n 0, 1) := by decide +kernel
theorem dX12_reads_27 : decode cX12_reads 27 = .ok (.dup, 1) := by decide +kernel
theorem dX12_reads_28 : decode cX12_reads 28 = .ok (.getfield 304, 3) := by decide +kernel
theorem dX12_reads_31 : decode cX12_reads 31 = .ok (.iconst 1, 1) := by decide +kernel
theorem dX12_reads_32 : decode cX12_reads 32 = .ok (.iadd, 1) := by decide +kernel
theorem dX12_reads_33 : decode cX12_reads 33 = .ok (.putfield 304, 3) := by decide +kernel
theorem dX12_reads_36 : decode cX12_reads 36 = .ok (.goto (-36), 3) := by decide +kernel
theorem dX12_reads_39 : decode cX12_reads 39 = .ok (.aload_n 0, 1) := by decide +kernel
theorem dX12_reads_40 : decode cX12_reads 40 = .ok (.aload_n 0, 1) := by decide +kernel
theorem dX12_reads_41 : decode cX12_reads 41 = .ok (.getfield 304, 3) := by decide +kernel
theorem dX12_reads_44 : decode cX12_reads 44 = .ok (.putfield 328, 3) := by decide +kernel
theorem dX12_reads_47 : decode cX12_reads 47 = .ok (.aload_n 0, 1) := by decide +kernel
theorem dX12_reads_48 : decode cX12_reads 48 = .ok (.iconst 0, 1) := by decide +kernel
theorem dX12_reads_49 : decode cX12_reads 49 = .ok (.putfield 322, 3) := by decide +kernel
theorem dX12_reads_52 : decode cX12_reads 52 = .ok (.aload_n 0, 1) := by decide +kernel
theorem dX12_reads_53 : decode cX12_reads 53 = .ok (.getfield 304, 3) := by decide +kernel
theorem dX12_reads_56 : decode cX12_reads 56 = .ok (.aload_n 0, 1) := by decide +kernel
theorem dX12_reads_57 : decode cX12_reads 57 = .ok (.getfield 285, 3) := by decide +kernel
theorem dX12_reads_60 : decode cX12_reads 60 = .ok (.if_icmp .ne 4, 3) := by decide +kernel
theorem dX12_reads_63 : decode cX12_reads 63 = .ok (.return_, 1) := by decide +kernel
theorem dX12_reads_64 : decode cX12_reads 64 = .ok (.aload_n 0, 1) := by decide +kernel
theorem dX12_reads_65 : decode cX12_reads 65 = .ok (.getfield 27, 3) := by decide +kernel
theorem dX12_reads_68 : decode cX12_reads 68 = .ok (.aload_n 0, 1) := by decide +kernel
theorem dX12_reads_69 : decode cX12_reads 69 = .ok (.getfield 304, 3) := by decide +kernel
theorem dX12_reads_72 : decode cX12_reads 72 = .ok (.iaload, 1) := by decide +kernel
theorem dX12_reads_73 : decode cX12_reads 73 = .ok (.bipush 97, 2) := by decide +kernel
theorem dX12_reads_75 : decode cX12_reads 75 = .ok (.bipush 122, 2) := by decide +kernel
theorem dX12_reads_77 : decode cX12_reads 77 = .ok (.invokestatic 251, 3) := by decide +kernel
theorem dX12_reads_80 : decode cX12_reads 80 = .ok (.ifCond .eq 10, 3) := by decide +kernel
theorem dX12_reads_83 : decode cX12_reads 83 = .ok (.aload_n 0, 1) := by decide +kernel
theorem dX12_reads_84 : decode cX12_reads 84 = .ok (.invokevirtual 331, 3) := by decide +kernel
theorem dX12_reads_87 : decode cX12_reads 87 = .ok (.goto 67, 3) := by decide +kernel
theorem dX12_reads_90 : decode cX12_reads 90 = .ok (.aload_n 0, 1) := by decide +kernel
theorem dX12_reads_91 : decode cX12_reads 91 = .ok (.getfield 27, 3) := by decide +kernel
theorem dX12_reads_94 : decode cX12_reads 94 = .ok (.aload_n 0, 1) := by decide +kernel
theorem dX12_reads_95 : decode cX12_reads 95 = .ok (.getfield 304, 3) := by decide +kernel
theorem dX12_reads_98 : decode cX12_reads 98 = .ok (.iaload, 1) := by decide +kernel
theorem dX12_reads_99 : decode cX12_reads 99 = .ok (.invokestatic 298, 3) := by decide +kernel
theorem dX12_reads_102 : decode cX12_reads 102 = .ok (.ifCond .eq 10, 3) := by decide +kernel
theorem dX12_reads_105 : decode cX12_reads 105 = .ok (.aload_n 0, 1) := by decide +kernel
theorem dX12_reads_106 : decode cX12_reads 106 = .ok (.invokevirtual 334, 3) := by decide +kernel
theorem dX12_reads_109 : decode cX12_reads 109 = .ok (.goto 45, 3) := by decide +kernel
theorem dX12_reads_112 : decode cX12_reads 112 = .ok (.aload_n 0, 1) := by decide +kernel
theorem dX12_reads_113 : decode cX12_reads 113 = .ok (.aload_n 0, 1) := by decide +kernel
theorem dX12_reads_114 : decode cX12_reads 114 = .ok (.getfield 27, 3) := by decide +kernel
theorem dX12_reads_117 : decode cX12_reads 117 = .ok (.aload_n 0, 1) := by decide +kernel
theorem dX12_reads_118 : decode cX12_reads 118 = .ok (.getfield 304, 3) := by decide +kernel
theorem dX12_reads_121 : decode cX12_reads 121 = .ok (.iaload, 1) := by decide +kernel
theorem dX12_reads_122 : decode cX12_reads 122 = .ok (.putfield 325, 3) := by decide +kernel
theorem dX12_reads_125 : decode cX12_reads 125 = .ok (.aload_n 0, 1) := by decide +kernel
theorem dX12_reads_126 : decode cX12_reads 126 = .ok (.aload_n 0, 1) := by decide +kernel
theorem dX12_reads_127 : decode cX12_reads 127 = .ok (.getfield 325, 3) := by decide +kernel
theorem dX12_reads_130 : decode cX12_reads 130 = .ok (.invokestatic 337, 3) := by decide +kernel
theorem dX12_reads_133 : decode cX12_reads 133 = .ok (.ifCond .eq 7, 3) := by decide +kernel
theorem dX12_reads_136 : decode cX12_reads 136 = .ok (.iconst 1, 1) := by decide +kernel
theorem dX12_reads_137 : decode cX12_reads 137 = .ok (.goto 4, 3) := by decide +kernel
theorem dX12_reads_140 : decode cX12_reads 140 = .ok (.iconst 4, 1) := by decide +kernel
theorem dX12_reads_141 : decode cX12_reads 141 = .ok (.putfield 322, 3) := by decide +kernel
theorem dX12_reads_144 : decode cX12_reads 144 = .ok (.aload_n 0, 1) := by decide +kernel
theorem dX12_reads_145 : decode cX12_reads 145 = .ok (.dup, 1) := by decide +kernel
theorem dX12_reads_146 : decode cX12_reads 146 = .ok (.getfield 304, 3) := by decide +kernel
theorem dX12_reads_149 : decode cX12_reads 149 = .ok (.iconst 1, 1) := by decide +kernel
theorem dX12_reads_150 : decode cX12_reads 150 = .ok (.iadd, 1) := by decide +kernel
theorem dX12_reads_151 : decode cX12_reads 151 = .ok (.putfield 304, 3) := by decide +kernel
theorem dX12_reads_154 : decode cX12_reads 154 = .ok (.return_, 1) := by decide +kernel
theorem dX12_isNow_0 : decode cX12_isNow 0 = .ok (.aload_n 0, 1) := by decide +kernel
theorem dX12_isNow_1 : decode cX12_isNow 1 = .ok (.getfield 322, 3) := by decide +kernel
theorem dX12_isNow_4 : decode cX12_isNow 4 = .ok (.iconst 1, 1) := by decide +kernel
theorem dX12_isNow_5 : decode cX12_isNow 5 = .ok (.if_icmp .ne 15, 3) := by decide +kernel
theorem dX12_isNow_8 : decode cX12_isNow 8 = .ok (.aload_n 0, 1) := by decide +kernel
theorem dX12_isNow_9 : decode cX12_isNow 9 = .ok (.getfield 325, 3) := by decide +kernel
theorem dX12_isNow_12 : decode cX12_isNow 12 = .ok (.iload_n 1, 1) := by decide +kernel
theorem dX12_isNow_13 : decode cX12_isNow 13 = .ok (.if_icmp .ne 7, 3) := by decide +kernel
theorem dX12_isNow_16 : decode cX12_isNow 16 = .ok (.iconst 1, 1) := by decide +kernel
theorem dX12_isNow_17 : decode cX12_isNow 17 = .ok (.goto 4, 3) := by decide +kernel
theorem dX12_isNow_20 : decode cX12_isNow 20 = .ok (.iconst 0, 1) := by decide +kernel
theorem dX12_isNow_21 : decode cX12_isNow 21 = .ok (.ireturn, 1) := by decide +kernel
theorem dX12_makesNumber_0 : decode cX12_makesNumber 0 = .ok (.aload_n 0, 1) := by decide +kernel
theorem dX12_makesNumber_1 : decode cX12_makesNumber 1 = .ok (.bipush 6, 2) := by decide +kernel
theorem dX12_makesNumber_3 : decode cX12_makesNumber 3 = .ok (.iconst 0, 1) := by decide +kernel
theorem dX12_makesNumber_4 : decode cX12_makesNumber 4 = .ok (.invokevirtual 191, 3) := by decide +kernel
theorem dX12_makesNumber_7 : decode cX12_makesNumber 7 = .ok (.aload_n 0, 1) := by decide +kernel
theorem dX12_makesNumber_8 : decode cX12_makesNumber 8 = .ok (.bipush 7, 2) := by decide +kernel
theorem dX12_makesNumber_10 : decode cX12_makesNumber 10 = .ok (.iconst 1, 1) := by decide +kernel
theorem dX12_makesNumber_11 : decode cX12_makesNumber 11 = .ok (.invokevirtual 191, 3) := by decide +kernel
theorem dX12_makesNumber_14 : decode cX12_makesNumber 14 = .ok (.aload_n 0, 1) := by decide +kernel
theorem dX12_makesNumber_15 : decode cX12_makesNumber 15 = .ok (.iconst 5, 1) := by decide +kernel
theorem dX12_makesNumber_16 : decode cX12_makesNumber 16 = .ok (.iconst 0, 1) := by decide +kernel
theorem dX12_makesNumber_17 : decode cX12_makesNumber 17 = .ok (.invokevirtual 191, 3) := by decide +kernel
theorem dX12_makesNumber_20 : decode cX12_makesNumber 20 = .ok (.aload_n 0, 1) := by decide +kernel
theorem dX12_makesNumber_21 : decode cX12_makesNumber 21 = .ok (.getfield 313, 3) := by decide +kernel
theorem dX12_makesNumber_24 : decode cX12_makesNumber 24 = .ok (.aload_n 0, 1) := by decide +kernel
theorem dX12_makesNumber_25 : decode cX12_makesNumber 25 = .ok (.getfield 319, 3) := by decide +kernel
theorem dX12_makesNumber_28 : decode cX12_makesNumber 28 = .ok (.if_icmp .ge 21, 3) := by decide +kernel
theorem dX12_makesNumber_31 : decode cX12_makesNumber 31 = .ok (.aload_n 0, 1) := by decide +kernel
theorem dX12_makesNumber_32 : decode cX12_makesNumber 32 = .ok (.getfield 27, 3) := by decide +kernel
theorem dX12_makesNumber_35 : decode cX12_makesNumber 35 = .ok (.aload_n 0, 1) := by decide +kernel
theorem dX12_makesNumber_36 : decode cX12_makesNumber 36 = .ok (.getfield 313, 3) := by decide +kernel
theorem dX12_makesNumber_39 : decode cX12_makesNumber 39 = .ok (.iaload, 1) := by decide +kernel
theorem dX12_makesNumber_40 : decode cX12_makesNumber 40 = .ok (.bipush 91, 2) := by decide +kernel
theorem dX12_makesNumber_42 : decode cX12_makesNumber 42 = .ok (.if_icmp .ne 7, 3) := by decide +kernel
theorem dX12_makesNumber_45 : decode cX12_makesNumber 45 = .ok (.iconst 1, 1) := by decide +kernel
theorem dX12_makesNumber_46 : decode cX12_makesNumber 46 = .ok (.goto 4, 3) := by decide +kernel
theorem dX12_makesNumber_49 : decode cX12_makesNumber 49 = .ok (.iconst 0, 1) := by decide +kernel
theorem dX12_makesNumber_50 : decode cX12_makesNumber 50 = .ok (.istore_n 1, 1) := by decide +kernel
theorem dX12_makesNumber_51 : decode cX12_makesNumber 51 = .ok (.aload_n 0, 1) := by decide +kernel
theorem dX12_makesNumber_52 : decode cX12_makesNumber 52 = .ok (.getfield 328, 3) := by decide +kernel
theorem dX12_makesNumber_55 : decode cX12_makesNumber 55 = .ok (.istore_n 2, 1) := by decide +kernel
theorem dX12_makesNumber_56 : decode cX12_makesNumber 56 = .ok (.iload_n 2, 1) := by decide +kernel
theorem dX12_makesNumber_57 : decode cX12_makesNumber 57 = .ok (.aload_n 0, 1) := by decide +kernel
theorem dX12_makesNumber_58 : decode cX12_makesNumber 58 = .ok (.getfield 319, 3) := by decide +kernel
theorem dX12_makesNumber_61 : decode cX12_makesNumber 61 = .ok (.if_icmp .ge 100, 3) := by decide +kernel
theorem dX12_makesNumber_64 : decode cX12_makesNumber 64 = .ok (.iload_n 2, 1) := by decide +kernel
theorem dX12_makesNumber_65 : decode cX12_makesNumber 65 = .ok (.aload_n 0, 1) := by decide +kernel
theorem dX12_makesNumber_66 : decode cX12_makesNumber 66 = .ok (.getfield 313, 3) := by decide +kernel
theorem dX12_makesNumber_69 : decode cX12_makesNumber 69 = .ok (.if_icmp .ne 14, 3) := by decide +kernel
theorem dX12_makesNumber_72 : decode cX12_makesNumber 72 = .ok (.iload_n 1, 1) := by decide +kernel
theorem dX12_makesNumber_73 : decode cX12_makesNumber 73 = .ok (.ifCond .eq 10, 3) := by decide +kernel
theorem dX12_makesNumber_76 : decode cX12_makesNumber 76 = .ok (.aload_n 0, 1) := by decide +kernel
theorem dX12_makesNumber_77 : decode cX12_makesNumber 77 = .ok (.iconst 5, 1) := by decide +kernel
theorem dX12_makesNumber_78 : decode cX12_makesNumber 78 = .ok (.bipush 6, 2) := by decide +kernel
theorem dX12_makesNumber_80 : decode cX12_makesNumber 80 = .ok (.invokevirtual 181, 3) := by decide +kernel
theorem dX12_makesNumber_83 : decode cX12_makesNumber 83 = .ok (.aload_n 0, 1) := by decide +kernel
theorem dX12_makesNumber_84 : decode cX12_makesNumber 84 = .ok (.getfield 27, 3) := by decide +kernel
theorem dX12_makesNumber_87 : decode cX12_makesNumber 87 = .ok (.iload_n 2, 1) := by decide +kernel
theorem dX12_makesNumber_88 : decode cX12_makesNumber 88 = .ok (.iaload, 1) := by decide +kernel
theorem dX12_makesNumber_89 : decode cX12_makesNumber 89 = .ok (.invokestatic 298, 3) := by decide +kernel
theorem dX12_makesNumber_92 : decode cX12_makesNumber 92 = .ok (.ifCond .ne 6, 3) := by decide +kernel
theorem dX12_makesNumber_95 : decode cX12_makesNumber 95 = .ok (.goto 60, 3) := by decide +kernel
theorem dX12_makesNumber_98 : decode cX12_makesNumber 98 = .ok (.aload_n 0, 1) := by decide +kernel
theorem dX12_makesNumber_99 : decode cX12_makesNumber 99 = .ok (.bipush 6, 2) := by decide +kernel
theorem dX12_makesNumber_101 : decode cX12_makesNumber 101 = .ok (.bipush 10, 2) := by decide +kernel
theorem dX12_makesNumber_103 : decode cX12_makesNumber 103 = .ok (.invokevirtual 194, 3) := by decide +kernel
theorem dX12_makesNumber_106 : decode cX12_makesNumber 106 = .ok (.aload_n 0, 1) := by decide +kernel
theorem dX12_makesNumber_107 : decode cX12_makesNumber 107 = .ok (.iconst 4, 1) := by decide +kernel
theorem dX12_makesNumber_108 : decode cX12_makesNumber 108 = .ok (.aload_n 0, 1) := by decide +kernel
theorem dX12_makesNumber_109 : decode cX12_makesNumber 109 = .ok (.getfield 27, 3) := by decide +kernel
theorem dX12_makesNumber_112 : decode cX12_makesNumber 112 = .ok (.iload_n 2, 1) := by decide +kernel
theorem dX12_makesNumber_113 : decode cX12_makesNumber 113 = .ok (.iaload, 1) := by decide +kernel
theorem dX12_makesNumber_114 : decode cX12_makesNumber 114 = .ok (.bipush 48, 2) := by decide +kernel
theorem dX12_makesNumber_116 : decode cX12_makesNumber 116 = .ok (.isub, 1) := by decide +kernel
theorem dX12_makesNumber_117 : decode cX12_makesNumber 117 = .ok (.invokevirtual 191, 3) := by decide +kernel
theorem dX12_makesNumber_120 : decode cX12_makesNumber 120 = .ok (.aload_n 0, 1) := by decide +kernel
theorem dX12_makesNumber_121 : decode cX12_makesNumber 121 = .ok (.bipush 6, 2) := by decide +kernel
theorem dX12_makesNumber_123 : decode cX12_makesNumber 123 = .ok (.iconst 4, 1) := by decide +kernel
theorem dX12_makesNumber_124 : decode cX12_makesNumber 124 = .ok (.invokevirtual 239, 3) := by decide +kernel
theorem dX12_makesNumber_127 : decode cX12_makesNumber 127 = .ok (.iload_n 2, 1) := by decide +kernel
theorem dX12_makesNumber_128 : decode cX12_makesNumber 128 = .ok (.aload_n 0, 1) := by decide +kernel
theorem dX12_makesNumber_129 : decode cX12_makesNumber 129 = .ok (.getfield 310, 3) := by decide +kernel
theorem dX12_makesNumber_132 : decode cX12_makesNumber 132 = .ok (.if_icmp .le 23, 3) := by decide +kernel
theorem dX12_makesNumber_135 : decode cX12_makesNumber 135 = .ok (.iload_n 1, 1) := by decide +kernel
theorem dX12_makesNumber_136 : decode cX12_makesNumber 136 = .ok (.ifCond .eq 11, 3) := by decide +kernel
theorem dX12_makesNumber_139 : decode cX12_makesNumber 139 = .ok (.iload_n 2, 1) := by decide +kernel
theorem dX12_makesNumber_140 : decode cX12_makesNumber 140 = .ok (.aload_n 0, 1) := by decide +kernel
theorem dX12_makesNumber_141 : decode cX12_makesNumber 141 = .ok (.getfield 313, 3) := by decide +kernel
theorem dX12_makesNumber_144 : decode cX12_makesNumber 144 = .ok (.if_icmp .ge 11, 3) := by decide +kernel
theorem dX12_makesNumber_147 : decode cX12_makesNumber 147 = .ok (.aload_n 0, 1) := by decide +kernel
theorem dX12_makesNumber_148 : decode cX12_makesNumber 148 = .ok (.bipush 7, 2) := by decide +kernel
theorem dX12_makesNumber_150 : decode cX12_makesNumber 150 = .ok (.bipush 10, 2) := by decide +kernel
theorem dX12_makesNumber_152 : decode cX12_makesNumber 152 = .ok (.invokevirtual 194, 3) := by decide +kernel
theorem dX12_makesNumber_155 : decode cX12_makesNumber 155 = .ok (.iinc 2 1, 3) := by decide +kernel
theorem dX12_makesNumber_158 : decode cX12_makesNumber 158 = .ok (.goto (-102), 3) := by decide +kernel
theorem dX12_makesNumber_161 : decode cX12_makesNumber 161 = .ok (.iload_n 1, 1) := by decide +kernel
theorem dX12_makesNumber_162 : decode cX12_makesNumber 162 = .ok (.ifCond .eq 64, 3) := by decide +kernel
theorem dX12_makesNumber_165 : decode cX12_makesNumber 165 = .ok (.aload_n 0, 1) := by decide +kernel
theorem dX12_makesNumber_166 : decode cX12_makesNumber 166 = .ok (.bipush 6, 2) := by decide +kernel
theorem dX12_makesNumber_168 : decode cX12_makesNumber 168 = .ok (.iconst 5, 1) := by decide +kernel
theorem dX12_makesNumber_169 : decode cX12_makesNumber 169 = .ok (.invokevirtual 242, 3) := by decide +kernel
theorem dX12_makesNumber_172 : decode cX12_makesNumber 172 = .ok (.iconst 0, 1) := by decide +kernel
theorem dX12_makesNumber_173 : decode cX12_makesNumber 173 = .ok (.istore_n 2, 1) := by decide +kernel
theorem dX12_makesNumber_174 : decode cX12_makesNumber 174 = .ok (.aload_n 0, 1) := by decide +kernel
theorem dX12_makesNumber_175 : decode cX12_makesNumber 175 = .ok (.getfield 313, 3) := by decide +kernel
theorem dX12_makesNumber_178 : decode cX12_makesNumber 178 = .ok (.iconst 1, 1) := by decide +kernel
theorem dX12_makesNumber_179 : decode cX12_makesNumber 179 = .ok (.iadd, 1) := by decide +kernel
theorem dX12_makesNumber_180 : decode cX12_makesNumber 180 = .ok (.istore_n 3, 1) := by decide +kernel
theorem dX12_makesNumber_181 : decode cX12_makesNumber 181 = .ok (.iload_n 3, 1) := by decide +kernel
theorem dX12_makesNumber_182 : decode cX12_makesNumber 182 = .ok (.aload_n 0, 1) := by decide +kernel
theorem dX12_makesNumber_183 : decode cX12_makesNumber 183 = .ok (.getfield 319, 3) := by decide +kernel
theorem dX12_makesNumber_186 : decode cX12_makesNumber 186 = .ok (.iconst 1, 1) := by decide +kernel
theorem dX12_makesNumber_187 : decode cX12_makesNumber 187 = .ok (.isub, 1) := by decide +kernel
theorem dX12_makesNumber_188 : decode cX12_makesNumber 188 = .ok (.if_icmp .ge 17, 3) := by decide +kernel
theorem dX12_makesNumber_191 : decode cX12_makesNumber 191 = .ok (.bipush 10, 2) := by decide +kernel
theorem dX12_makesNumber_193 : decode cX12_makesNumber 193 = .ok (.iload_n 2, 1) := by decide +kernel
theorem dX12_makesNumber_194 : decode cX12_makesNumber 194 = .ok (.imul, 1) := by decide +kernel
theorem dX12_makesNumber_195 : decode cX12_makesNumber 195 = .ok (.bipush 9, 2) := by decide +kernel
theorem dX12_makesNumber_197 : decode cX12_makesNumber 197 = .ok (.iadd, 1) := by decide +kernel
theorem dX12_makesNumber_198 : decode cX12_makesNumber 198 = .ok (.istore_n 2, 1) := by decide +kernel
theorem dX12_makesNumber_199 : decode cX12_makesNumber 199 = .ok (.iinc 3 1, 3) := by decide +kernel
theorem dX12_makesNumber_202 : decode cX12_makesNumber 202 = .ok (.goto (-21), 3) := by decide +kernel
theorem dX12_makesNumber_205 : decode cX12_makesNumber 205 = .ok (.aload_n 0, 1) := by decide +kernel
theorem dX12_makesNumber_206 : decode cX12_makesNumber 206 = .ok (.iconst 4, 1) := by decide +kernel
theorem dX12_makesNumber_207 : decode cX12_makesNumber 207 = .ok (.iload_n 2, 1) := by decide +kernel
theorem dX12_makesNumber_208 : decode cX12_makesNumber 208 = .ok (.invokevirtual 191, 3) := by decide +kernel
theorem dX12_makesNumber_211 : decode cX12_makesNumber 211 = .ok (.aload_n 0, 1) := by decide +kernel
theorem dX12_makesNumber_212 : decode cX12_makesNumber 212 = .ok (.iconst 5, 1) := by decide +kernel
theorem dX12_makesNumber_213 : decode cX12_makesNumber 213 = .ok (.bipush 7, 2) := by decide +kernel
theorem dX12_makesNumber_215 : decode cX12_makesNumber 215 = .ok (.iconst 4, 1) := by decide +kernel
theorem dX12_makesNumber_216 : decode cX12_makesNumber 216 = .ok (.invokevirtual 235, 3) := by decide +kernel
theorem dX12_makesNumber_219 : decode cX12_makesNumber 219 = .ok (.aload_n 0, 1) := by decide +kernel
theorem dX12_makesNumber_220 : decode cX12_makesNumber 220 = .ok (.bipush 7, 2) := by decide +kernel
theorem dX12_makesNumber_222 : decode cX12_makesNumber 222 = .ok (.iconst 5, 1) := by decide +kernel
theorem dX12_makesNumber_223 : decode cX12_makesNumber 223 = .ok (.invokevirtual 181, 3) := by decide +kernel
theorem dX12_makesNumber_226 : decode cX12_makesNumber 226 = .ok (.aload_n 0, 1) := by decide +kernel
theorem dX12_makesNumber_227 : decode cX12_makesNumber 227 = .ok (.iconst 1, 1) := by decide +kernel
theorem dX12_makesNumber_228 : decode cX12_makesNumber 228 = .ok (.invokevirtual 340, 3) := by decide +kernel
theorem dX12_makesNumber_231 : decode cX12_makesNumber 231 = .ok (.ireturn, 1) := by decide +kernel
theorem dX12_makes_0 : decode cX12_makes 0 = .ok (.aload_n 0, 1) := by decide +kernel
theorem dX12_makes_1 : decode cX12_makes 1 = .ok (.getfield 33, 3) := by decide +kernel
theorem dX12_makes_4 : decode cX12_makes 4 = .ok (.aload_n 0, 1) := by decide +kernel
theorem dX12_makes_5 : decode cX12_makes 5 = .ok (.getfield 343, 3) := by decide +kernel
theorem dX12_makes_8 : decode cX12_makes 8 = .ok (.iload_n 1, 1) := by decide +kernel
theorem dX12_makes_9 : decode cX12_makes 9 = .ok (.iastore, 1) := by decide +kernel
theorem dX12_makes_10 : decode cX12_makes 10 = .ok (.aload_n 0, 1) := by decide +kernel
theorem dX12_makes_11 : decode cX12_makes 11 = .ok (.getfield 36, 3) := by decide +kernel
theorem dX12_makes_14 : decode cX12_makes 14 = .ok (.aload_n 0, 1) := by decide +kernel
theorem dX12_makes_15 : decode cX12_makes 15 = .ok (.getfield 343, 3) := by decide +kernel
theorem dX12_makes_18 : decode cX12_makes 18 = .ok (.iload_n 2, 1) := by decide +kernel
theorem dX12_makes_19 : decode cX12_makes 19 = .ok (.iastore, 1) := by decide +kernel
theorem dX12_makes_20 : decode cX12_makes 20 = .ok (.aload_n 0, 1) := by decide +kernel
theorem dX12_makes_21 : decode cX12_makes 21 = .ok (.getfield 39, 3) := by decide +kernel
theorem dX12_makes_24 : decode cX12_makes 24 = .ok (.aload_n 0, 1) := by decide +kernel
theorem dX12_makes_25 : decode cX12_makes 25 = .ok (.getfield 343, 3) := by decide +kernel
theorem dX12_makes_28 : decode cX12_makes 28 = .ok (.iload_n 3, 1) := by decide +kernel
theorem dX12_makes_29 : decode cX12_makes 29 = .ok (.iastore, 1) := by decide +kernel
theorem dX12_makes_30 : decode cX12_makes 30 = .ok (.aload_n 0, 1) := by decide +kernel
theorem dX12_makes_31 : decode cX12_makes 31 = .ok (.getfield 42, 3) := by decide +kernel
theorem dX12_makes_34 : decode cX12_makes 34 = .ok (.aload_n 0, 1) := by decide +kernel
theorem dX12_makes_35 : decode cX12_makes 35 = .ok (.getfield 343, 3) := by decide +kernel
theorem dX12_makes_38 : decode cX12_makes 38 = .ok (.iload 4, 2) := by decide +kernel
theorem dX12_makes_40 : decode cX12_makes 40 = .ok (.iastore, 1) := by decide +kernel
theorem dX12_makes_41 : decode cX12_makes 41 = .ok (.aload_n 0, 1) := by decide +kernel
theorem dX12_makes_42 : decode cX12_makes 42 = .ok (.dup, 1) := by decide +kernel
theorem dX12_makes_43 : decode cX12_makes 43 = .ok (.getfield 343, 3) := by decide +kernel
theorem dX12_makes_46 : decode cX12_makes 46 = .ok (.iconst 1, 1) := by decide +kernel
theorem dX12_makes_47 : decode cX12_makes 47 = .ok (.iadd, 1) := by decide +kernel
theorem dX12_makes_48 : decode cX12_makes 48 = .ok (.putfield 343, 3) := by decide +kernel
theorem dX12_makes_51 : decode cX12_makes 51 = .ok (.return_, 1) := by decide +kernel
theorem dX12_known_0 : decode cX12_known 0 = .ok (.iload_n 0, 1) := by decide +kernel
theorem dX12_known_1 : decode cX12_known 1 = .ok (.lookupswitch 132 #[(802, 114), (3065, 123), (5188, 99), (8842, 102), (9528, 129), (9616, 117), (9734, 126), (10786, 120), (62949, 108), (279252, 111), (3436200, 105)], 99) := by decide +kernel
theorem dX12_known_100 : decode cX12_known 100 = .ok (.bipush 10, 2) := by decide +kernel
theorem dX12_known_102 : decode cX12_known 102 = .ok (.ireturn, 1) := by decide +kernel
theorem dX12_known_103 : decode cX12_known 103 = .ok (.bipush 11, 2) := by decide +kernel
theorem dX12_known_105 : decode cX12_known 105 = .ok (.ireturn, 1) := by decide +kernel
theorem dX12_known_106 : decode cX12_known 106 = .ok (.bipush 12, 2) := by decide +kernel
theorem dX12_known_108 : decode cX12_known 108 = .ok (.ireturn, 1) := by decide +kernel
theorem dX12_known_109 : decode cX12_known 109 = .ok (.bipush 13, 2) := by decide +kernel
theorem dX12_known_111 : decode cX12_known 111 = .ok (.ireturn, 1) := by decide +kernel
theorem dX12_known_112 : decode cX12_known 112 = .ok (.bipush 14, 2) := by decide +kernel
theorem dX12_known_114 : decode cX12_known 114 = .ok (.ireturn, 1) := by decide +kernel
theorem dX12_known_115 : decode cX12_known 115 = .ok (.bipush 15, 2) := by decide +kernel
theorem dX12_known_117 : decode cX12_known 117 = .ok (.ireturn, 1) := by decide +kernel
theorem dX12_known_118 : decode cX12_known 118 = .ok (.bipush 16, 2) := by decide +kernel
theorem dX12_known_120 : decode cX12_known 120 = .ok (.ireturn, 1) := by decide +kernel
theorem dX12_known_121 : decode cX12_known 121 = .ok (.bipush 17, 2) := by decide +kernel
theorem dX12_known_123 : decode cX12_known 123 = .ok (.ireturn, 1) := by decide +kernel
theorem dX12_known_124 : decode cX12_known 124 = .ok (.bipush 18, 2) := by decide +kernel
theorem dX12_known_126 : decode cX12_known 126 = .ok (.ireturn, 1) := by decide +kernel
theorem dX12_known_127 : decode cX12_known 127 = .ok (.bipush 19, 2) := by decide +kernel
theorem dX12_known_129 : decode cX12_known 129 = .ok (.ireturn, 1) := by decide +kernel
theorem dX12_known_130 : decode cX12_known 130 = .ok (.bipush 20, 2) := by decide +kernel
theorem dX12_known_132 : decode cX12_known 132 = .ok (.ireturn, 1) := by decide +kernel
theorem dX12_known_133 : decode cX12_known 133 = .ok (.iconst 0, 1) := by decide +kernel
theorem dX12_known_134 : decode cX12_known 134 = .ok (.ireturn, 1) := by decide +kernel
theorem dX12_waitsFor_0 : decode cX12_waitsFor 0 = .ok (.aload_n 0, 1) := by decide +kernel
theorem dX12_waitsFor_1 : decode cX12_waitsFor 1 = .ok (.getfield 54, 3) := by decide +kernel
theorem dX12_waitsFor_4 : decode cX12_waitsFor 4 = .ok (.aload_n 0, 1) := by decide +kernel
theorem dX12_waitsFor_5 : decode cX12_waitsFor 5 = .ok (.getfield 346, 3) := by decide +kernel
theorem dX12_waitsFor_8 : decode cX12_waitsFor 8 = .ok (.iload_n 1, 1) := by decide +kernel
theorem dX12_waitsFor_9 : decode cX12_waitsFor 9 = .ok (.iastore, 1) := by decide +kernel
theorem dX12_waitsFor_10 : decode cX12_waitsFor 10 = .ok (.aload_n 0, 1) := by decide +kernel
theorem dX12_waitsFor_11 : decode cX12_waitsFor 11 = .ok (.getfield 57, 3) := by decide +kernel
theorem dX12_waitsFor_14 : decode cX12_waitsFor 14 = .ok (.aload_n 0, 1) := by decide +kernel
theorem dX12_waitsFor_15 : decode cX12_waitsFor 15 = .ok (.getfield 346, 3) := by decide +kernel
theorem dX12_waitsFor_18 : decode cX12_waitsFor 18 = .ok (.aload_n 0, 1) := by decide +kernel
theorem dX12_waitsFor_19 : decode cX12_waitsFor 19 = .ok (.getfield 328, 3) := by decide +kernel
theorem dX12_waitsFor_22 : decode cX12_waitsFor 22 = .ok (.iastore, 1) := by decide +kernel
theorem dX12_waitsFor_23 : decode cX12_waitsFor 23 = .ok (.aload_n 0, 1) := by decide +kernel
theorem dX12_waitsFor_24 : decode cX12_waitsFor 24 = .ok (.getfield 60, 3) := by decide +kernel
theorem dX12_waitsFor_27 : decode cX12_waitsFor 27 = .ok (.aload_n 0, 1) := by decide +kernel
theorem dX12_waitsFor_28 : decode cX12_waitsFor 28 = .ok (.getfield 346, 3) := by decide +kernel
theorem dX12_waitsFor_31 : decode cX12_waitsFor 31 = .ok (.iload_n 2, 1) := by decide +kernel
theorem dX12_waitsFor_32 : decode cX12_waitsFor 32 = .ok (.iastore, 1) := by decide +kernel
theorem dX12_waitsFor_33 : decode cX12_waitsFor 33 = .ok (.aload_n 0, 1) := by decide +kernel
theorem dX12_waitsFor_34 : decode cX12_waitsFor 34 = .ok (.getfield 63, 3) := by decide +kernel
theorem dX12_waitsFor_37 : decode cX12_waitsFor 37 = .ok (.aload_n 0, 1) := by decide +kernel
theorem dX12_waitsFor_38 : decode cX12_waitsFor 38 = .ok (.getfield 346, 3) := by decide +kernel
theorem dX12_waitsFor_41 : decode cX12_waitsFor 41 = .ok (.iconst 1, 1) := by decide +kernel
theorem dX12_waitsFor_42 : decode cX12_waitsFor 42 = .ok (.iastore, 1) := by decide +kernel
theorem dX12_waitsFor_43 : decode cX12_waitsFor 43 = .ok (.aload_n 0, 1) := by decide +kernel
theorem dX12_waitsFor_44 : decode cX12_waitsFor 44 = .ok (.dup, 1) := by decide +kernel
theorem dX12_waitsFor_45 : decode cX12_waitsFor 45 = .ok (.getfield 346, 3) := by decide +kernel
theorem dX12_waitsFor_48 : decode cX12_waitsFor 48 = .ok (.iconst 1, 1) := by decide +kernel
theorem dX12_waitsFor_49 : decode cX12_waitsFor 49 = .ok (.iadd, 1) := by decide +kernel
theorem dX12_waitsFor_50 : decode cX12_waitsFor 50 = .ok (.putfield 346, 3) := by decide +kernel
theorem dX12_waitsFor_53 : decode cX12_waitsFor 53 = .ok (.iload_n 1, 1) := by decide +kernel
theorem dX12_waitsFor_54 : decode cX12_waitsFor 54 = .ok (.bipush 40, 2) := by decide +kernel
theorem dX12_waitsFor_56 : decode cX12_waitsFor 56 = .ok (.if_icmp .eq 15, 3) := by decide +kernel
theorem dX12_waitsFor_59 : decode cX12_waitsFor 59 = .ok (.iload_n 1, 1) := by decide +kernel
theorem dX12_waitsFor_60 : decode cX12_waitsFor 60 = .ok (.bipush 8, 2) := by decide +kernel
theorem dX12_waitsFor_62 : decode cX12_waitsFor 62 = .ok (.if_icmp .eq 9, 3) := by decide +kernel
theorem dX12_waitsFor_65 : decode cX12_waitsFor 65 = .ok (.iload_n 1, 1) := by decide +kernel
theorem dX12_waitsFor_66 : decode cX12_waitsFor 66 = .ok (.bipush 6, 2) := by decide +kernel
theorem dX12_waitsFor_68 : decode cX12_waitsFor 68 = .ok (.if_icmp .ne 13, 3) := by decide +kernel
theorem dX12_waitsFor_71 : decode cX12_waitsFor 71 = .ok (.aload_n 0, 1) := by decide +kernel
theorem dX12_waitsFor_72 : decode cX12_waitsFor 72 = .ok (.dup, 1) := by decide +kernel
theorem dX12_waitsFor_73 : decode cX12_waitsFor 73 = .ok (.getfield 349, 3) := by decide +kernel
theorem dX12_waitsFor_76 : decode cX12_waitsFor 76 = .ok (.iconst 1, 1) := by decide +kernel
theorem dX12_waitsFor_77 : decode cX12_waitsFor 77 = .ok (.iadd, 1) := by decide +kernel
theorem dX12_waitsFor_78 : decode cX12_waitsFor 78 = .ok (.putfield 349, 3) := by decide +kernel
theorem dX12_waitsFor_81 : decode cX12_waitsFor 81 = .ok (.return_, 1) := by decide +kernel
theorem dX12_rank_0 : decode cX12_rank 0 = .ok (.iload_n 0, 1) := by decide +kernel
theorem dX12_rank_1 : decode cX12_rank 1 = .ok (.iconst 1, 1) := by decide +kernel
theorem dX12_rank_2 : decode cX12_rank 2 = .ok (.if_icmp .eq 8, 3) := by decide +kernel
theorem dX12_rank_5 : decode cX12_rank 5 = .ok (.iload_n 0, 1) := by decide +kernel
theorem dX12_rank_6 : decode cX12_rank 6 = .ok (.iconst 2, 1) := by decide +kernel
theorem dX12_rank_7 : decode cX12_rank 7 = .ok (.if_icmp .ne 7, 3) := by decide +kernel
theorem dX12_rank_10 : decode cX12_rank 10 = .ok (.iconst 1, 1) := by decide +kernel
theorem dX12_rank_11 : decode cX12_rank 11 = .ok (.goto 23, 3) := by decide +kernel
theorem dX12_rank_14 : decode cX12_rank 14 = .ok (.iload_n 0, 1) := by decide +kernel
theorem dX12_rank_15 : decode cX12_rank 15 = .ok (.iconst 3, 1) := by decide +kernel
theorem dX12_rank_16 : decode cX12_rank 16 = .ok (.if_icmp .eq 13, 3) := by decide +kernel
theorem dX12_rank_19 : decode cX12_rank 19 = .ok (.iload_n 0, 1) := by decide +kernel
theorem dX12_rank_20 : decode cX12_rank 20 = .ok (.iconst 4, 1) := by decide +kernel
theorem dX12_rank_21 : decode cX12_rank 21 = .ok (.if_icmp .eq 8, 3) := by decide +kernel
theorem dX12_rank_24 : decode cX12_rank 24 = .ok (.iload_n 0, 1) := by decide +kernel
theorem dX12_rank_25 : decode cX12_rank 25 = .ok (.iconst 5, 1) := by decide +kernel
theorem dX12_rank_26 : decode cX12_rank 26 = .ok (.if_icmp .ne 7, 3) := by decide +kernel
theorem dX12_rank_29 : decode cX12_rank 29 = .ok (.iconst 2, 1) := by decide +kernel
theorem dX12_rank_30 : decode cX12_rank 30 = .ok (.goto 4, 3) := by decide +kernel
theorem dX12_rank_33 : decode cX12_rank 33 = .ok (.iconst 3, 1) := by decide +kernel
theorem dX12_rank_34 : decode cX12_rank 34 = .ok (.ireturn, 1) := by decide +kernel
theorem dX12_settles_0 : decode cX12_settles 0 = .ok (.aload_n 0, 1) := by decide +kernel
theorem dX12_settles_1 : decode cX12_settles 1 = .ok (.getfield 346, 3) := by decide +kernel
theorem dX12_settles_4 : decode cX12_settles 4 = .ok (.ifCond .le 112, 3) := by decide +kernel
theorem dX12_settles_7 : decode cX12_settles 7 = .ok (.aload_n 0, 1) := by decide +kernel
theorem dX12_settles_8 : decode cX12_settles 8 = .ok (.getfield 54, 3) := by decide +kernel
theorem dX12_settles_11 : decode cX12_settles 11 = .ok (.aload_n 0, 1) := by decide +kernel
theorem dX12_settles_12 : decode cX12_settles 12 = .ok (.getfield 346, 3) := by decide +kernel
theorem dX12_settles_15 : decode cX12_settles 15 = .ok (.iconst 1, 1) := by decide +kernel
theorem dX12_settles_16 : decode cX12_settles 16 = .ok (.isub, 1) := by decide +kernel
theorem dX12_settles_17 : decode cX12_settles 17 = .ok (.iaload, 1) := by decide +kernel
theorem dX12_settles_18 : decode cX12_settles 18 = .ok (.bipush 40, 2) := by decide +kernel
theorem dX12_settles_20 : decode cX12_settles 20 = .ok (.if_icmp .eq 96, 3) := by decide +kernel
theorem dX12_settles_23 : decode cX12_settles 23 = .ok (.aload_n 0, 1) := by decide +kernel
theorem dX12_settles_24 : decode cX12_settles 24 = .ok (.getfield 54, 3) := by decide +kernel
theorem dX12_settles_27 : decode cX12_settles 27 = .ok (.aload_n 0, 1) := by decide +kernel
theorem dX12_settles_28 : decode cX12_settles 28 = .ok (.getfield 346, 3) := by decide +kernel
theorem dX12_settles_31 : decode cX12_settles 31 = .ok (.iconst 1, 1) := by decide +kernel
theorem dX12_settles_32 : decode cX12_settles 32 = .ok (.isub, 1) := by decide +kernel
theorem dX12_settles_33 : decode cX12_settles 33 = .ok (.iaload, 1) := by decide +kernel
theorem dX12_settles_34 : decode cX12_settles 34 = .ok (.invokestatic 352, 3) := by decide +kernel
theorem dX12_settles_37 : decode cX12_settles 37 = .ok (.iload_n 1, 1) := by decide +kernel
theorem dX12_settles_38 : decode cX12_settles 38 = .ok (.if_icmp .lt 78, 3) := by decide +kernel
theorem dX12_settles_41 : decode cX12_settles 41 = .ok (.aload_n 0, 1) := by decide +kernel
theorem dX12_settles_42 : decode cX12_settles 42 = .ok (.dup, 1) := by decide +kernel
theorem dX12_settles_43 : decode cX12_settles 43 = .ok (.getfield 346, 3) := by decide +kernel
theorem dX12_settles_46 : decode cX12_settles 46 = .ok (.iconst 1, 1) := by decide +kernel
theorem dX12_settles_47 : decode cX12_settles 47 = .ok (.isub, 1) := by decide +kernel
theorem dX12_settles_48 : decode cX12_settles 48 = .ok (.putfield 346, 3) := by decide +kernel
theorem dX12_settles_51 : decode cX12_settles 51 = .ok (.aload_n 0, 1) := by decide +kernel
theorem dX12_settles_52 : decode cX12_settles 52 = .ok (.getfield 54, 3) := by decide +kernel
theorem dX12_settles_55 : decode cX12_settles 55 = .ok (.aload_n 0, 1) := by decide +kernel
theorem dX12_settles_56 : decode cX12_settles 56 = .ok (.getfield 346, 3) := by decide +kernel
theorem dX12_settles_59 : decode cX12_settles 59 = .ok (.iaload, 1) := by decide +kernel
theorem dX12_settles_60 : decode cX12_settles 60 = .ok (.bipush 8, 2) := by decide +kernel
theorem dX12_settles_62 : decode cX12_settles 62 = .ok (.if_icmp .eq 17, 3) := by decide +kernel
theorem dX12_settles_65 : decode cX12_settles 65 = .ok (.aload_n 0, 1) := by decide +kernel
theorem dX12_settles_66 : decode cX12_settles 66 = .ok (.getfield 54, 3) := by decide +kernel
theorem dX12_settles_69 : decode cX12_settles 69 = .ok (.aload_n 0, 1) := by decide +kernel
theorem dX12_settles_70 : decode cX12_settles 70 = .ok (.getfield 346, 3) := by decide +kernel
theorem dX12_settles_73 : decode cX12_settles 73 = .ok (.iaload, 1) := by decide +kernel
theorem dX12_settles_74 : decode cX12_settles 74 = .ok (.bipush 6, 2) := by decide +kernel
theorem dX12_settles_76 : decode cX12_settles 76 = .ok (.if_icmp .ne 13, 3) := by decide +kernel
theorem dX12_settles_79 : decode cX12_settles 79 = .ok (.aload_n 0, 1) := by decide +kernel
theorem dX12_settles_80 : decode cX12_settles 80 = .ok (.dup, 1) := by decide +kernel
theorem dX12_settles_81 : decode cX12_settles 81 = .ok (.getfield 349, 3) := by decide +kernel
theorem dX12_settles_84 : decode cX12_settles 84 = .ok (.iconst 1, 1) := by decide +kernel
theorem dX12_settles_85 : decode cX12_settles 85 = .ok (.isub, 1) := by decide +kernel
theorem dX12_settles_86 : decode cX12_settles 86 = .ok (.putfield 349, 3) := by decide +kernel
theorem dX12_settles_89 : decode cX12_settles 89 = .ok (.aload_n 0, 1) := by decide +kernel
theorem dX12_settles_90 : decode cX12_settles 90 = .ok (.aload_n 0, 1) := by decide +kernel
theorem dX12_settles_91 : decode cX12_settles 91 = .ok (.getfield 54, 3) := by decide +kernel
theorem dX12_settles_94 : decode cX12_settles 94 = .ok (.aload_n 0, 1) := by decide +kernel
theorem dX12_settles_95 : decode cX12_settles 95 = .ok (.getfield 346, 3) := by decide +kernel
theorem dX12_settles_98 : decode cX12_settles 98 = .ok (.iaload, 1) := by decide +kernel
theorem dX12_settles_99 : decode cX12_settles 99 = .ok (.iconst 0, 1) := by decide +kernel
theorem dX12_settles_100 : decode cX12_settles 100 = .ok (.iconst 0, 1) := by decide +kernel
theorem dX12_settles_101 : decode cX12_settles 101 = .ok (.aload_n 0, 1) := by decide +kernel
theorem dX12_settles_102 : decode cX12_settles 102 = .ok (.getfield 57, 3) := by decide +kernel
theorem dX12_settles_105 : decode cX12_settles 105 = .ok (.aload_n 0, 1) := by decide +kernel
theorem dX12_settles_106 : decode cX12_settles 106 = .ok (.getfield 346, 3) := by decide +kernel
theorem dX12_settles_109 : decode cX12_settles 109 = .ok (.iaload, 1) := by decide +kernel
theorem dX12_settles_110 : decode cX12_settles 110 = .ok (.invokevirtual 355, 3) := by decide +kernel
theorem dX12_settles_113 : decode cX12_settles 113 = .ok (.goto (-113), 3) := by decide +kernel
theorem dX12_settles_116 : decode cX12_settles 116 = .ok (.return_, 1) := by decide +kernel
theorem dX12_isTelling_0 : decode cX12_isTelling 0 = .ok (.aload_n 0, 1) := by decide +kernel
theorem dX12_isTelling_1 : decode cX12_isTelling 1 = .ok (.iconst 0, 1) := by decide +kernel
theorem dX12_isTelling_2 : decode cX12_isTelling 2 = .ok (.putfield 304, 3) := by decide +kernel
theorem dX12_isTelling_5 : decode cX12_isTelling 5 = .ok (.aload_n 0, 1) := by decide +kernel
theorem dX12_isTelling_6 : decode cX12_isTelling 6 = .ok (.invokevirtual 359, 3) := by decide +kernel
theorem dX12_isTelling_9 : decode cX12_isTelling 9 = .ok (.aload_n 0, 1) := by decide +kernel
theorem dX12_isTelling_10 : decode cX12_isTelling 10 = .ok (.getfield 322, 3) := by decide +kernel
theorem dX12_isTelling_13 : decode cX12_isTelling 13 = .ok (.iconst 3, 1) := by decide +kernel
theorem dX12_isTelling_14 : decode cX12_isTelling 14 = .ok (.if_icmp .eq 5, 3) := by decide +kernel
theorem dX12_isTelling_17 : decode cX12_isTelling 17 = .ok (.iconst 0, 1) := by decide +kernel
theorem dX12_isTelling_18 : decode cX12_isTelling 18 = .ok (.ireturn, 1) := by decide +kernel
theorem dX12_isTelling_19 : decode cX12_isTelling 19 = .ok (.aload_n 0, 1) := by decide +kernel
theorem dX12_isTelling_20 : decode cX12_isTelling 20 = .ok (.aload_n 0, 1) := by decide +kernel
theorem dX12_isTelling_21 : decode cX12_isTelling 21 = .ok (.getfield 325, 3) := by decide +kernel
theorem dX12_isTelling_24 : decode cX12_isTelling 24 = .ok (.putfield 362, 3) := by decide +kernel
theorem dX12_isTelling_27 : decode cX12_isTelling 27 = .ok (.aload_n 0, 1) := by decide +kernel
theorem dX12_isTelling_28 : decode cX12_isTelling 28 = .ok (.aload_n 0, 1) := by decide +kernel
theorem dX12_isTelling_29 : decode cX12_isTelling 29 = .ok (.getfield 328, 3) := by decide +kernel
theorem dX12_isTelling_32 : decode cX12_isTelling 32 = .ok (.putfield 365, 3) := by decide +kernel
theorem dX12_isTelling_35 : decode cX12_isTelling 35 = .ok (.aload_n 0, 1) := by decide +kernel
theorem dX12_isTelling_36 : decode cX12_isTelling 36 = .ok (.iconst 0, 1) := by decide +kernel
theorem dX12_isTelling_37 : decode cX12_isTelling 37 = .ok (.putfield 368, 3) := by decide +kernel
theorem dX12_isTelling_40 : decode cX12_isTelling 40 = .ok (.aload_n 0, 1) := by decide +kernel
theorem dX12_isTelling_41 : decode cX12_isTelling 41 = .ok (.iconst 1, 1) := by decide +kernel
theorem dX12_isTelling_42 : decode cX12_isTelling 42 = .ok (.putfield 371, 3) := by decide +kernel
theorem dX12_isTelling_45 : decode cX12_isTelling 45 = .ok (.aload_n 0, 1) := by decide +kernel
theorem dX12_isTelling_46 : decode cX12_isTelling 46 = .ok (.invokevirtual 359, 3) := by decide +kernel
theorem dX12_isTelling_49 : decode cX12_isTelling 49 = .ok (.aload_n 0, 1) := by decide +kernel
theorem dX12_isTelling_50 : decode cX12_isTelling 50 = .ok (.bipush 61, 2) := by decide +kernel
theorem dX12_isTelling_52 : decode cX12_isTelling 52 = .ok (.invokevirtual 374, 3) := by decide +kernel
theorem dX12_isTelling_55 : decode cX12_isTelling 55 = .ok (.ifCond .eq 5, 3) := by decide +kernel
theorem dX12_isTelling_58 : decode cX12_isTelling 58 = .ok (.iconst 1, 1) := by decide +kernel
theorem dX12_isTelling_59 : decode cX12_isTelling 59 = .ok (.ireturn, 1) := by decide +kernel
theorem dX12_isTelling_60 : decode cX12_isTelling 60 = .ok (.aload_n 0, 1) := by decide +kernel
theorem dX12_isTelling_61 : decode cX12_isTelling 61 = .ok (.bipush 40, 2) := by decide +kernel
theorem dX12_isTelling_63 : decode cX12_isTelling 63 = .ok (.invokevirtual 374, 3) := by decide +kernel
theorem dX12_isTelling_66 : decode cX12_isTelling 66 = .ok (.ifCond .ne 5, 3) := by decide +kernel
theorem dX12_isTelling_69 : decode cX12_isTelling 69 = .ok (.iconst 0, 1) := by decide +kernel
theorem dX12_isTelling_70 : decode cX12_isTelling 70 = .ok (.ireturn, 1) := by decide +kernel
theorem dX12_isTelling_71 : decode cX12_isTelling 71 = .ok (.aload_n 0, 1) := by decide +kernel
theorem dX12_isTelling_72 : decode cX12_isTelling 72 = .ok (.iconst 2, 1) := by decide +kernel
theorem dX12_isTelling_73 : decode cX12_isTelling 73 = .ok (.putfield 371, 3) := by decide +kernel
theorem dX12_isTelling_76 : decode cX12_isTelling 76 = .ok (.aload_n 0, 1) := by decide +kernel
theorem dX12_isTelling_77 : decode cX12_isTelling 77 = .ok (.invokevirtual 359, 3) := by decide +kernel
theorem dX12_isTelling_80 : decode cX12_isTelling 80 = .ok (.aload_n 0, 1) := by decide +kernel
theorem dX12_isTelling_81 : decode cX12_isTelling 81 = .ok (.getfield 322, 3) := by decide +kernel
theorem dX12_isTelling_84 : decode cX12_isTelling 84 = .ok (.iconst 3, 1) := by decide +kernel
theorem dX12_isTelling_85 : decode cX12_isTelling 85 = .ok (.if_icmp .eq 5, 3) := by decide +kernel
theorem dX12_isTelling_88 : decode cX12_isTelling 88 = .ok (.iconst 0, 1) := by decide +kernel
theorem dX12_isTelling_89 : decode cX12_isTelling 89 = .ok (.ireturn, 1) := by decide +kernel
theorem dX12_isTelling_90 : decode cX12_isTelling 90 = .ok (.aload_n 0, 1) := by decide +kernel
theorem dX12_isTelling_91 : decode cX12_isTelling 91 = .ok (.dup, 1) := by decide +kernel
theorem dX12_isTelling_92 : decode cX12_isTelling 92 = .ok (.getfield 368, 3) := by decide +kernel
theorem dX12_isTelling_95 : decode cX12_isTelling 95 = .ok (.iconst 1, 1) := by decide +kernel
theorem dX12_isTelling_96 : decode cX12_isTelling 96 = .ok (.iadd, 1) := by decide +kernel
theorem dX12_isTelling_97 : decode cX12_isTelling 97 = .ok (.putfield 368, 3) := by decide +kernel
theorem dX12_isTelling_100 : decode cX12_isTelling 100 = .ok (.aload_n 0, 1) := by decide +kernel
theorem dX12_isTelling_101 : decode cX12_isTelling 101 = .ok (.invokevirtual 359, 3) := by decide +kernel
theorem dX12_isTelling_104 : decode cX12_isTelling 104 = .ok (.aload_n 0, 1) := by decide +kernel
theorem dX12_isTelling_105 : decode cX12_isTelling 105 = .ok (.bipush 44, 2) := by decide +kernel
theorem dX12_isTelling_107 : decode cX12_isTelling 107 = .ok (.invokevirtual 374, 3) := by decide +kernel
theorem dX12_isTelling_110 : decode cX12_isTelling 110 = .ok (.ifCond .ne (-34), 3) := by decide +kernel
theorem dX12_isTelling_113 : decode cX12_isTelling 113 = .ok (.aload_n 0, 1) := by decide +kernel
theorem dX12_isTelling_114 : decode cX12_isTelling 114 = .ok (.bipush 41, 2) := by decide +kernel
theorem dX12_isTelling_116 : decode cX12_isTelling 116 = .ok (.invokevirtual 374, 3) := by decide +kernel
theorem dX12_isTelling_119 : decode cX12_isTelling 119 = .ok (.ifCond .ne 5, 3) := by decide +kernel
theorem dX12_isTelling_122 : decode cX12_isTelling 122 = .ok (.iconst 0, 1) := by decide +kernel
theorem dX12_isTelling_123 : decode cX12_isTelling 123 = .ok (.ireturn, 1) := by decide +kernel
theorem dX12_isTelling_124 : decode cX12_isTelling 124 = .ok (.aload_n 0, 1) := by decide +kernel
theorem dX12_isTelling_125 : decode cX12_isTelling 125 = .ok (.invokevirtual 359, 3) := by decide +kernel
theorem dX12_isTelling_128 : decode cX12_isTelling 128 = .ok (.aload_n 0, 1) := by decide +kernel
theorem dX12_isTelling_129 : decode cX12_isTelling 129 = .ok (.bipush 61, 2) := by decide +kernel
theorem dX12_isTelling_131 : decode cX12_isTelling 131 = .ok (.invokevirtual 374, 3) := by decide +kernel
theorem dX12_isTelling_134 : decode cX12_isTelling 134 = .ok (.ireturn, 1) := by decide +kernel
theorem dX12_readsHead_0 : decode cX12_readsHead 0 = .ok (.aload_n 0, 1) := by decide +kernel
theorem dX12_readsHead_1 : decode cX12_readsHead 1 = .ok (.iconst 0, 1) := by decide +kernel
theorem dX12_readsHead_2 : decode cX12_readsHead 2 = .ok (.putfield 304, 3) := by decide +kernel
theorem dX12_readsHead_5 : decode cX12_readsHead 5 = .ok (.aload_n 0, 1) := by decide +kernel
theorem dX12_readsHead_6 : decode cX12_readsHead 6 = .ok (.invokevirtual 359, 3) := by decide +kernel
theorem dX12_readsHead_9 : decode cX12_readsHead 9 = .ok (.aload_n 0, 1) := by decide +kernel
theorem dX12_readsHead_10 : decode cX12_readsHead 10 = .ok (.invokevirtual 359, 3) := by decide +kernel
theorem dX12_readsHead_13 : decode cX12_readsHead 13 = .ok (.iconst 0, 1) := by decide +kernel
theorem dX12_readsHead_14 : decode cX12_readsHead 14 = .ok (.istore_n 1, 1) := by decide +kernel
theorem dX12_readsHead_15 : decode cX12_readsHead 15 = .ok (.aload_n 0, 1) := by decide +kernel
theorem dX12_readsHead_16 : decode cX12_readsHead 16 = .ok (.getfield 371, 3) := by decide +kernel
theorem dX12_readsHead_19 : decode cX12_readsHead 19 = .ok (.iconst 2, 1) := by decide +kernel
theorem dX12_readsHead_20 : decode cX12_readsHead 20 = .ok (.if_icmp .ne 70, 3) := by decide +kernel
theorem dX12_readsHead_23 : decode cX12_readsHead 23 = .ok (.iload_n 1, 1) := by decide +kernel
theorem dX12_readsHead_24 : decode cX12_readsHead 24 = .ok (.aload_n 0, 1) := by decide +kernel
theorem dX12_readsHead_25 : decode cX12_readsHead 25 = .ok (.getfield 368, 3) := by decide +kernel
theorem dX12_readsHead_28 : decode cX12_readsHead 28 = .ok (.if_icmp .ge 62, 3) := by decide +kernel
theorem dX12_readsHead_31 : decode cX12_readsHead 31 = .ok (.aload_n 0, 1) := by decide +kernel
theorem dX12_readsHead_32 : decode cX12_readsHead 32 = .ok (.invokevirtual 359, 3) := by decide +kernel
theorem dX12_readsHead_35 : decode cX12_readsHead 35 = .ok (.iload_n 1, 1) := by decide +kernel
theorem dX12_readsHead_36 : decode cX12_readsHead 36 = .ok (.iconst 4, 1) := by decide +kernel
theorem dX12_readsHead_37 : decode cX12_readsHead 37 = .ok (.if_icmp .ne 5, 3) := by decide +kernel
theorem dX12_readsHead_40 : decode cX12_readsHead 40 = .ok (.iconst 0, 1) := by decide +kernel
theorem dX12_readsHead_41 : decode cX12_readsHead 41 = .ok (.ireturn, 1) := by decide +kernel
theorem dX12_readsHead_42 : decode cX12_readsHead 42 = .ok (.iconst 0, 1) := by decide +kernel
theorem dX12_readsHead_43 : decode cX12_readsHead 43 = .ok (.istore_n 2, 1) := by decide +kernel
theorem dX12_readsHead_44 : decode cX12_readsHead 44 = .ok (.iload_n 2, 1) := by decide +kernel
theorem dX12_readsHead_45 : decode cX12_readsHead 45 = .ok (.iload_n 1, 1) := by decide +kernel
theorem dX12_readsHead_46 : decode cX12_readsHead 46 = .ok (.if_icmp .ge 24, 3) := by decide +kernel
theorem dX12_readsHead_49 : decode cX12_readsHead 49 = .ok (.aload_n 0, 1) := by decide +kernel
theorem dX12_readsHead_50 : decode cX12_readsHead 50 = .ok (.getfield 66, 3) := by decide +kernel
theorem dX12_readsHead_53 : decode cX12_readsHead 53 = .ok (.iload_n 2, 1) := by decide +kernel
theorem dX12_readsHead_54 : decode cX12_readsHead 54 = .ok (.iaload, 1) := by decide +kernel
theorem dX12_readsHead_55 : decode cX12_readsHead 55 = .ok (.aload_n 0, 1) := by decide +kernel
theorem dX12_readsHead_56 : decode cX12_readsHead 56 = .ok (.getfield 325, 3) := by decide +kernel
theorem dX12_readsHead_59 : decode cX12_readsHead 59 = .ok (.if_icmp .ne 5, 3) := by decide +kernel
theorem dX12_readsHead_62 : decode cX12_readsHead 62 = .ok (.iconst 0, 1) := by decide +kernel
theorem dX12_readsHead_63 : decode cX12_readsHead 63 = .ok (.ireturn, 1) := by decide +kernel
theorem dX12_readsHead_64 : decode cX12_readsHead 64 = .ok (.iinc 2 1, 3) := by decide +kernel
theorem dX12_readsHead_67 : decode cX12_readsHead 67 = .ok (.goto (-23), 3) := by decide +kernel
theorem dX12_readsHead_70 : decode cX12_readsHead 70 = .ok (.aload_n 0, 1) := by decide +kernel
theorem dX12_readsHead_71 : decode cX12_readsHead 71 = .ok (.getfield 66, 3) := by decide +kernel
theorem dX12_readsHead_74 : decode cX12_readsHead 74 = .ok (.iload_n 1, 1) := by decide +kernel
theorem dX12_readsHead_75 : decode cX12_readsHead 75 = .ok (.aload_n 0, 1) := by decide +kernel
theorem dX12_readsHead_76 : decode cX12_readsHead 76 = .ok (.getfield 325, 3) := by decide +kernel
theorem dX12_readsHead_79 : decode cX12_readsHead 79 = .ok (.iastore, 1) := by decide +kernel
theorem dX12_readsHead_80 : decode cX12_readsHead 80 = .ok (.aload_n 0, 1) := by decide +kernel
theorem dX12_readsHead_81 : decode cX12_readsHead 81 = .ok (.invokevirtual 359, 3) := by decide +kernel
theorem dX12_readsHead_84 : decode cX12_readsHead 84 = .ok (.iinc 1 1, 3) := by decide +kernel
theorem dX12_readsHead_87 : decode cX12_readsHead 87 = .ok (.goto (-72), 3) := by decide +kernel
theorem dX12_readsHead_90 : decode cX12_readsHead 90 = .ok (.aload_n 0, 1) := by decide +kernel
theorem dX12_readsHead_91 : decode cX12_readsHead 91 = .ok (.getfield 371, 3) := by decide +kernel
theorem dX12_readsHead_94 : decode cX12_readsHead 94 = .ok (.iconst 2, 1) := by decide +kernel
theorem dX12_readsHead_95 : decode cX12_readsHead 95 = .ok (.if_icmp .ne 7, 3) := by decide +kernel
theorem dX12_readsHead_98 : decode cX12_readsHead 98 = .ok (.aload_n 0, 1) := by decide +kernel
theorem dX12_readsHead_99 : decode cX12_readsHead 99 = .ok (.invokevirtual 359, 3) := by decide +kernel
theorem dX12_readsHead_102 : decode cX12_readsHead 102 = .ok (.aload_n 0, 1) := by decide +kernel
theorem dX12_readsHead_103 : decode cX12_readsHead 103 = .ok (.invokevirtual 359, 3) := by decide +kernel
theorem dX12_readsHead_106 : decode cX12_readsHead 106 = .ok (.iconst 1, 1) := by decide +kernel
theorem dX12_readsHead_107 : decode cX12_readsHead 107 = .ok (.ireturn, 1) := by decide +kernel
theorem dX12_readsOperand_0 : decode cX12_readsOperand 0 = .ok (.aload_n 0, 1) := by decide +kernel
theorem dX12_readsOperand_1 : decode cX12_readsOperand 1 = .ok (.getfield 322, 3) := by decide +kernel
theorem dX12_readsOperand_4 : decode cX12_readsOperand 4 = .ok (.iconst 2, 1) := by decide +kernel
theorem dX12_readsOperand_5 : decode cX12_readsOperand 5 = .ok (.if_icmp .ne 24, 3) := by decide +kernel
theorem dX12_readsOperand_8 : decode cX12_readsOperand 8 = .ok (.aload_n 0, 1) := by decide +kernel
theorem dX12_readsOperand_9 : decode cX12_readsOperand 9 = .ok (.bipush 30, 2) := by decide +kernel
theorem dX12_readsOperand_11 : decode cX12_readsOperand 11 = .ok (.aload_n 0, 1) := by decide +kernel
theorem dX12_readsOperand_12 : decode cX12_readsOperand 12 = .ok (.invokevirtual 377, 3) := by decide +kernel
theorem dX12_readsOperand_15 : decode cX12_readsOperand 15 = .ok (.iconst 0, 1) := by decide +kernel
theorem dX12_readsOperand_16 : decode cX12_readsOperand 16 = .ok (.aload_n 0, 1) := by decide +kernel
theorem dX12_readsOperand_17 : decode cX12_readsOperand 17 = .ok (.getfield 328, 3) := by decide +kernel
theorem dX12_readsOperand_20 : decode cX12_readsOperand 20 = .ok (.invokevirtual 355, 3) := by decide +kernel
theorem dX12_readsOperand_23 : decode cX12_readsOperand 23 = .ok (.aload_n 0, 1) := by decide +kernel
theorem dX12_readsOperand_24 : decode cX12_readsOperand 24 = .ok (.invokevirtual 359, 3) := by decide +kernel
theorem dX12_readsOperand_27 : decode cX12_readsOperand 27 = .ok (.iconst 1, 1) := by decide +kernel
theorem dX12_readsOperand_28 : decode cX12_readsOperand 28 = .ok (.ireturn, 1) := by decide +kernel
theorem dX12_readsOperand_29 : decode cX12_readsOperand 29 = .ok (.aload_n 0, 1) := by decide +kernel
theorem dX12_readsOperand_30 : decode cX12_readsOperand 30 = .ok (.bipush 45, 2) := by decide +kernel
theorem dX12_readsOperand_32 : decode cX12_readsOperand 32 = .ok (.invokevirtual 374, 3) := by decide +kernel
theorem dX12_readsOperand_35 : decode cX12_readsOperand 35 = .ok (.ifCond .ne 12, 3) := by decide +kernel
theorem dX12_readsOperand_38 : decode cX12_readsOperand 38 = .ok (.aload_n 0, 1) := by decide +kernel
theorem dX12_readsOperand_39 : decode cX12_readsOperand 39 = .ok (.bipush 40, 2) := by decide +kernel
theorem dX12_readsOperand_41 : decode cX12_readsOperand 41 = .ok (.invokevirtual 374, 3) := by decide +kernel
theorem dX12_readsOperand_44 : decode cX12_readsOperand 44 = .ok (.ifCond .eq 41, 3) := by decide +kernel
theorem dX12_readsOperand_47 : decode cX12_readsOperand 47 = .ok (.aload_n 0, 1) := by decide +kernel
theorem dX12_readsOperand_48 : decode cX12_readsOperand 48 = .ok (.getfield 349, 3) := by decide +kernel
theorem dX12_readsOperand_51 : decode cX12_readsOperand 51 = .ok (.bipush 12, 2) := by decide +kernel
theorem dX12_readsOperand_53 : decode cX12_readsOperand 53 = .ok (.if_icmp .ne 5, 3) := by decide +kernel
theorem dX12_readsOperand_56 : decode cX12_readsOperand 56 = .ok (.iconst (-1), 1) := by decide +kernel
theorem dX12_readsOperand_57 : decode cX12_readsOperand 57 = .ok (.ireturn, 1) := by decide +kernel
theorem dX12_readsOperand_58 : decode cX12_readsOperand 58 = .ok (.aload_n 0, 1) := by decide +kernel
theorem dX12_readsOperand_59 : decode cX12_readsOperand 59 = .ok (.aload_n 0, 1) := by decide +kernel
theorem dX12_readsOperand_60 : decode cX12_readsOperand 60 = .ok (.getfield 325, 3) := by decide +kernel
theorem dX12_readsOperand_63 : decode cX12_readsOperand 63 = .ok (.bipush 45, 2) := by decide +kernel
theorem dX12_readsOperand_65 : decode cX12_readsOperand 65 = .ok (.if_icmp .ne 8, 3) := by decide +kernel
theorem dX12_readsOperand_68 : decode cX12_readsOperand 68 = .ok (.bipush 8, 2) := by decide +kernel
theorem dX12_readsOperand_70 : decode cX12_readsOperand 70 = .ok (.goto 5, 3) := by decide +kernel
theorem dX12_readsOperand_73 : decode cX12_readsOperand 73 = .ok (.bipush 40, 2) := by decide +kernel
theorem dX12_readsOperand_75 : decode cX12_readsOperand 75 = .ok (.iconst (-1), 1) := by decide +kernel
theorem dX12_readsOperand_76 : decode cX12_readsOperand 76 = .ok (.invokevirtual 380, 3) := by decide +kernel
theorem dX12_readsOperand_79 : decode cX12_readsOperand 79 = .ok (.aload_n 0, 1) := by decide +kernel
theorem dX12_readsOperand_80 : decode cX12_readsOperand 80 = .ok (.invokevirtual 359, 3) := by decide +kernel
theorem dX12_readsOperand_83 : decode cX12_readsOperand 83 = .ok (.iconst 0, 1) := by decide +kernel
theorem dX12_readsOperand_84 : decode cX12_readsOperand 84 = .ok (.ireturn, 1) := by decide +kernel
theorem dX12_readsOperand_85 : decode cX12_readsOperand 85 = .ok (.aload_n 0, 1) := by decide +kernel
theorem dX12_readsOperand_86 : decode cX12_readsOperand 86 = .ok (.getfield 322, 3) := by decide +kernel
theorem dX12_readsOperand_89 : decode cX12_readsOperand 89 = .ok (.iconst 3, 1) := by decide +kernel
theorem dX12_readsOperand_90 : decode cX12_readsOperand 90 = .ok (.if_icmp .eq 5, 3) := by decide +kernel
theorem dX12_readsOperand_93 : decode cX12_readsOperand 93 = .ok (.iconst (-1), 1) := by decide +kernel
theorem dX12_readsOperand_94 : decode cX12_readsOperand 94 = .ok (.ireturn, 1) := by decide +kernel
theorem dX12_readsOperand_95 : decode cX12_readsOperand 95 = .ok (.aload_n 0, 1) := by decide +kernel
theorem dX12_readsOperand_96 : decode cX12_readsOperand 96 = .ok (.getfield 325, 3) := by decide +kernel
theorem dX12_readsOperand_99 : decode cX12_readsOperand 99 = .ok (.istore_n 1, 1) := by decide +kernel
theorem dX12_readsOperand_100 : decode cX12_readsOperand 100 = .ok (.aload_n 0, 1) := by decide +kernel
theorem dX12_readsOperand_101 : decode cX12_readsOperand 101 = .ok (.getfield 328, 3) := by decide +kernel
theorem dX12_readsOperand_104 : decode cX12_readsOperand 104 = .ok (.istore_n 2, 1) := by decide +kernel
theorem dX12_readsOperand_105 : decode cX12_readsOperand 105 = .ok (.aload_n 0, 1) := by decide +kernel
theorem dX12_readsOperand_106 : decode cX12_readsOperand 106 = .ok (.invokevirtual 359, 3) := by decide +kernel
theorem dX12_readsOperand_109 : decode cX12_readsOperand 109 = .ok (.aload_n 0, 1) := by decide +kernel
theorem dX12_readsOperand_110 : decode cX12_readsOperand 110 = .ok (.bipush 40, 2) := by decide +kernel
theorem dX12_readsOperand_112 : decode cX12_readsOperand 112 = .ok (.invokevirtual 374, 3) := by decide +kernel
theorem dX12_readsOperand_115 : decode cX12_readsOperand 115 = .ok (.ifCond .ne 79, 3) := by decide +kernel
theorem dX12_readsOperand_118 : decode cX12_readsOperand 118 = .ok (.iconst (-1), 1) := by decide +kernel
theorem dX12_readsOperand_119 : decode cX12_readsOperand 119 = .ok (.istore_n 3, 1) := by decide +kernel
theorem dX12_readsOperand_120 : decode cX12_readsOperand 120 = .ok (.iconst 0, 1) := by decide +kernel
theorem dX12_readsOperand_121 : decode cX12_readsOperand 121 = .ok (.istore 4, 2) := by decide +kernel
theorem dX12_readsOperand_123 : decode cX12_readsOperand 123 = .ok (.iload 4, 2) := by decide +kernel
theorem dX12_readsOperand_125 : decode cX12_readsOperand 125 = .ok (.aload_n 0, 1) := by decide +kernel
theorem dX12_readsOperand_126 : decode cX12_readsOperand 126 = .ok (.getfield 368, 3) := by decide +kernel
theorem dX12_readsOperand_129 : decode cX12_readsOperand 129 = .ok (.if_icmp .ge 35, 3) := by decide +kernel
theorem dX12_readsOperand_132 : decode cX12_readsOperand 132 = .ok (.aload_n 0, 1) := by decide +kernel
theorem dX12_readsOperand_133 : decode cX12_readsOperand 133 = .ok (.getfield 371, 3) := by decide +kernel
theorem dX12_readsOperand_136 : decode cX12_readsOperand 136 = .ok (.iconst 2, 1) := by decide +kernel
theorem dX12_readsOperand_137 : decode cX12_readsOperand 137 = .ok (.if_icmp .ne 27, 3) := by decide +kernel
theorem dX12_readsOperand_140 : decode cX12_readsOperand 140 = .ok (.aload_n 0, 1) := by decide +kernel
theorem dX12_readsOperand_141 : decode cX12_readsOperand 141 = .ok (.getfield 66, 3) := by decide +kernel
theorem dX12_readsOperand_144 : decode cX12_readsOperand 144 = .ok (.iload 4, 2) := by decide +kernel
theorem dX12_readsOperand_146 : decode cX12_readsOperand 146 = .ok (.iaload, 1) := by decide +kernel
theorem dX12_readsOperand_147 : decode cX12_readsOperand 147 = .ok (.iload_n 1, 1) := by decide +kernel
theorem dX12_readsOperand_148 : decode cX12_readsOperand 148 = .ok (.if_icmp .ne 8, 3) := by decide +kernel
theorem dX12_readsOperand_151 : decode cX12_readsOperand 151 = .ok (.iload 4, 2) := by decide +kernel
theorem dX12_readsOperand_153 : decode cX12_readsOperand 153 = .ok (.goto 4, 3) := by decide +kernel
theorem dX12_readsOperand_156 : decode cX12_readsOperand 156 = .ok (.iload_n 3, 1) := by decide +kernel
theorem dX12_readsOperand_157 : decode cX12_readsOperand 157 = .ok (.istore_n 3, 1) := by decide +kernel
theorem dX12_readsOperand_158 : decode cX12_readsOperand 158 = .ok (.iinc 4 1, 3) := by decide +kernel
theorem dX12_readsOperand_161 : decode cX12_readsOperand 161 = .ok (.goto (-38), 3) := by decide +kernel
theorem dX12_readsOperand_164 : decode cX12_readsOperand 164 = .ok (.aload_n 0, 1) := by decide +kernel
theorem dX12_readsOperand_165 : decode cX12_readsOperand 165 = .ok (.iload_n 3, 1) := by decide +kernel
theorem dX12_readsOperand_166 : decode cX12_readsOperand 166 = .ok (.iconst (-1), 1) := by decide +kernel
theorem dX12_readsOperand_167 : decode cX12_readsOperand 167 = .ok (.if_icmp .ne 8, 3) := by decide +kernel
theorem dX12_readsOperand_170 : decode cX12_readsOperand 170 = .ok (.bipush 31, 2) := by decide +kernel
theorem dX12_readsOperand_172 : decode cX12_readsOperand 172 = .ok (.goto 5, 3) := by decide +kernel
theorem dX12_readsOperand_175 : decode cX12_readsOperand 175 = .ok (.bipush 32, 2) := by decide +kernel
theorem dX12_readsOperand_177 : decode cX12_readsOperand 177 = .ok (.iload_n 3, 1) := by decide +kernel
theorem dX12_readsOperand_178 : decode cX12_readsOperand 178 = .ok (.iconst (-1), 1) := by decide +kernel
theorem dX12_readsOperand_179 : decode cX12_readsOperand 179 = .ok (.if_icmp .ne 7, 3) := by decide +kernel
theorem dX12_readsOperand_182 : decode cX12_readsOperand 182 = .ok (.iload_n 1, 1) := by decide +kernel
theorem dX12_readsOperand_183 : decode cX12_readsOperand 183 = .ok (.goto 4, 3) := by decide +kernel
theorem dX12_readsOperand_186 : decode cX12_readsOperand 186 = .ok (.iload_n 3, 1) := by decide +kernel
theorem dX12_readsOperand_187 : decode cX12_readsOperand 187 = .ok (.iconst 0, 1) := by decide +kernel
theorem dX12_readsOperand_188 : decode cX12_readsOperand 188 = .ok (.iload_n 2, 1) := by decide +kernel
theorem dX12_readsOperand_189 : decode cX12_readsOperand 189 = .ok (.invokevirtual 355, 3) := by decide +kernel
theorem dX12_readsOperand_192 : decode cX12_readsOperand 192 = .ok (.iconst 1, 1) := by decide +kernel
theorem dX12_readsOperand_193 : decode cX12_readsOperand 193 = .ok (.ireturn, 1) := by decide +kernel
theorem dX12_readsOperand_194 : decode cX12_readsOperand 194 = .ok (.aload_n 0, 1) := by decide +kernel
theorem dX12_readsOperand_195 : decode cX12_readsOperand 195 = .ok (.getfield 349, 3) := by decide +kernel
theorem dX12_readsOperand_198 : decode cX12_readsOperand 198 = .ok (.bipush 12, 2) := by decide +kernel
theorem dX12_readsOperand_200 : decode cX12_readsOperand 200 = .ok (.if_icmp .ne 5, 3) := by decide +kernel
theorem dX12_readsOperand_203 : decode cX12_readsOperand 203 = .ok (.iconst (-1), 1) := by decide +kernel
theorem dX12_readsOperand_204 : decode cX12_readsOperand 204 = .ok (.ireturn, 1) := by decide +kernel
theorem dX12_readsOperand_205 : decode cX12_readsOperand 205 = .ok (.aload_n 0, 1) := by decide +kernel
theorem dX12_readsOperand_206 : decode cX12_readsOperand 206 = .ok (.bipush 40, 2) := by decide +kernel
theorem dX12_readsOperand_208 : decode cX12_readsOperand 208 = .ok (.iload_n 1, 1) := by decide +kernel
theorem dX12_readsOperand_209 : decode cX12_readsOperand 209 = .ok (.invokevirtual 380, 3) := by decide +kernel
theorem dX12_readsOperand_212 : decode cX12_readsOperand 212 = .ok (.aload_n 0, 1) := by decide +kernel
theorem dX12_readsOperand_213 : decode cX12_readsOperand 213 = .ok (.getfield 57, 3) := by decide +kernel
theorem dX12_readsOperand_216 : decode cX12_readsOperand 216 = .ok (.aload_n 0, 1) := by decide +kernel
theorem dX12_readsOperand_217 : decode cX12_readsOperand 217 = .ok (.getfield 346, 3) := by decide +kernel
theorem dX12_readsOperand_220 : decode cX12_readsOperand 220 = .ok (.iconst 1, 1) := by decide +kernel
theorem dX12_readsOperand_221 : decode cX12_readsOperand 221 = .ok (.isub, 1) := by decide +kernel
theorem dX12_readsOperand_222 : decode cX12_readsOperand 222 = .ok (.iload_n 2, 1) := by decide +kernel
theorem dX12_readsOperand_223 : decode cX12_readsOperand 223 = .ok (.iastore, 1) := by decide +kernel
theorem dX12_readsOperand_224 : decode cX12_readsOperand 224 = .ok (.aload_n 0, 1) := by decide +kernel
theorem dX12_readsOperand_225 : decode cX12_readsOperand 225 = .ok (.invokevirtual 359, 3) := by decide +kernel
theorem dX12_readsOperand_228 : decode cX12_readsOperand 228 = .ok (.iconst 0, 1) := by decide +kernel
theorem dX12_readsOperand_229 : decode cX12_readsOperand 229 = .ok (.ireturn, 1) := by decide +kernel
theorem dX12_signOf_0 : decode cX12_signOf 0 = .ok (.iload_n 1, 1) := by decide +kernel
theorem dX12_signOf_1 : decode cX12_signOf 1 = .ok (.bipush 43, 2) := by decide +kernel
theorem dX12_signOf_3 : decode cX12_signOf 3 = .ok (.if_icmp .ne 7, 3) := by decide +kernel
theorem dX12_signOf_6 : decode cX12_signOf 6 = .ok (.iconst 1, 1) := by decide +kernel
theorem dX12_signOf_7 : decode cX12_signOf 7 = .ok (.goto 44, 3) := by decide +kernel
theorem dX12_signOf_10 : decode cX12_signOf 10 = .ok (.iload_n 1, 1) := by decide +kernel
theorem dX12_signOf_11 : decode cX12_signOf 11 = .ok (.bipush 45, 2) := by decide +kernel
theorem dX12_signOf_13 : decode cX12_signOf 13 = .ok (.if_icmp .ne 7, 3) := by decide +kernel
theorem dX12_signOf_16 : decode cX12_signOf 16 = .ok (.iconst 2, 1) := by decide +kernel
theorem dX12_signOf_17 : decode cX12_signOf 17 = .ok (.goto 34, 3) := by decide +kernel
theorem dX12_signOf_20 : decode cX12_signOf 20 = .ok (.iload_n 1, 1) := by decide +kernel
theorem dX12_signOf_21 : decode cX12_signOf 21 = .ok (.bipush 42, 2) := by decide +kernel
theorem dX12_signOf_23 : decode cX12_signOf 23 = .ok (.if_icmp .ne 7, 3) := by decide +kernel
theorem dX12_signOf_26 : decode cX12_signOf 26 = .ok (.iconst 3, 1) := by decide +kernel
theorem dX12_signOf_27 : decode cX12_signOf 27 = .ok (.goto 24, 3) := by decide +kernel
theorem dX12_signOf_30 : decode cX12_signOf 30 = .ok (.iload_n 1, 1) := by decide +kernel
theorem dX12_signOf_31 : decode cX12_signOf 31 = .ok (.bipush 47, 2) := by decide +kernel
theorem dX12_signOf_33 : decode cX12_signOf 33 = .ok (.if_icmp .ne 7, 3) := by decide +kernel
theorem dX12_signOf_36 : decode cX12_signOf 36 = .ok (.iconst 4, 1) := by decide +kernel
theorem dX12_signOf_37 : decode cX12_signOf 37 = .ok (.goto 14, 3) := by decide +kernel
theorem dX12_signOf_40 : decode cX12_signOf 40 = .ok (.iload_n 1, 1) := by decide +kernel
theorem dX12_signOf_41 : decode cX12_signOf 41 = .ok (.bipush 37, 2) := by decide +kernel
theorem dX12_signOf_43 : decode cX12_signOf 43 = .ok (.if_icmp .ne 7, 3) := by decide +kernel
theorem dX12_signOf_46 : decode cX12_signOf 46 = .ok (.iconst 5, 1) := by decide +kernel
theorem dX12_signOf_47 : decode cX12_signOf 47 = .ok (.goto 4, 3) := by decide +kernel
theorem dX12_signOf_50 : decode cX12_signOf 50 = .ok (.iconst 0, 1) := by decide +kernel
theorem dX12_signOf_51 : decode cX12_signOf 51 = .ok (.ireturn, 1) := by decide +kernel
theorem dX12_closes_0 : decode cX12_closes 0 = .ok (.aload_n 0, 1) := by decide +kernel
theorem dX12_closes_1 : decode cX12_closes 1 = .ok (.iconst 1, 1) := by decide +kernel
theorem dX12_closes_2 : decode cX12_closes 2 = .ok (.invokevirtual 383, 3) := by decide +kernel
theorem dX12_closes_5 : decode cX12_closes 5 = .ok (.aload_n 0, 1) := by decide +kernel
theorem dX12_closes_6 : decode cX12_closes 6 = .ok (.getfield 346, 3) := by decide +kernel
theorem dX12_closes_9 : decode cX12_closes 9 = .ok (.ifCond .ne 5, 3) := by decide +kernel
theorem dX12_closes_12 : decode cX12_closes 12 = .ok (.iconst 0, 1) := by decide +kernel
theorem dX12_closes_13 : decode cX12_closes 13 = .ok (.ireturn, 1) := by decide +kernel
theorem dX12_closes_14 : decode cX12_closes 14 = .ok (.aload_n 0, 1) := by decide +kernel
theorem dX12_closes_15 : decode cX12_closes 15 = .ok (.dup, 1) := by decide +kernel
theorem dX12_closes_16 : decode cX12_closes 16 = .ok (.getfield 346, 3) := by decide +kernel
theorem dX12_closes_19 : decode cX12_closes 19 = .ok (.iconst 1, 1) := by decide +kernel
theorem dX12_closes_20 : decode cX12_closes 20 = .ok (.isub, 1) := by decide +kernel
theorem dX12_closes_21 : decode cX12_closes 21 = .ok (.putfield 346, 3) := by decide +kernel
theorem dX12_closes_24 : decode cX12_closes 24 = .ok (.aload_n 0, 1) := by decide +kernel
theorem dX12_closes_25 : decode cX12_closes 25 = .ok (.dup, 1) := by decide +kernel
theorem dX12_closes_26 : decode cX12_closes 26 = .ok (.getfield 349, 3) := by decide +kernel
theorem dX12_closes_29 : decode cX12_closes 29 = .ok (.iconst 1, 1) := by decide +kernel
theorem dX12_closes_30 : decode cX12_closes 30 = .ok (.isub, 1) := by decide +kernel
theorem dX12_closes_31 : decode cX12_closes 31 = .ok (.putfield 349, 3) := by decide +kernel
theorem dX12_closes_34 : decode cX12_closes 34 = .ok (.aload_n 0, 1) := by decide +kernel
theorem dX12_closes_35 : decode cX12_closes 35 = .ok (.getfield 60, 3) := by decide +kernel
theorem dX12_closes_38 : decode cX12_closes 38 = .ok (.aload_n 0, 1) := by decide +kernel
theorem dX12_closes_39 : decode cX12_closes 39 = .ok (.getfield 346, 3) := by decide +kernel
theorem dX12_closes_42 : decode cX12_closes 42 = .ok (.iaload, 1) := by decide +kernel
theorem dX12_closes_43 : decode cX12_closes 43 = .ok (.istore_n 1, 1) := by decide +kernel
theorem dX12_closes_44 : decode cX12_closes 44 = .ok (.iload_n 1, 1) := by decide +kernel
theorem dX12_closes_45 : decode cX12_closes 45 = .ok (.iconst (-1), 1) := by decide +kernel
theorem dX12_closes_46 : decode cX12_closes 46 = .ok (.if_icmp .ne 5, 3) := by decide +kernel
theorem dX12_closes_49 : decode cX12_closes 49 = .ok (.iconst 1, 1) := by decide +kernel
theorem dX12_closes_50 : decode cX12_closes 50 = .ok (.ireturn, 1) := by decide +kernel
theorem dX12_closes_51 : decode cX12_closes 51 = .ok (.aload_n 0, 1) := by decide +kernel
theorem dX12_closes_52 : decode cX12_closes 52 = .ok (.bipush 33, 2) := by decide +kernel
theorem dX12_closes_54 : decode cX12_closes 54 = .ok (.iload_n 1, 1) := by decide +kernel
theorem dX12_closes_55 : decode cX12_closes 55 = .ok (.aload_n 0, 1) := by decide +kernel
theorem dX12_closes_56 : decode cX12_closes 56 = .ok (.getfield 63, 3) := by decide +kernel
theorem dX12_closes_59 : decode cX12_closes 59 = .ok (.aload_n 0, 1) := by decide +kernel
theorem dX12_closes_60 : decode cX12_closes 60 = .ok (.getfield 346, 3) := by decide +kernel
theorem dX12_closes_63 : decode cX12_closes 63 = .ok (.iaload, 1) := by decide +kernel
theorem dX12_closes_64 : decode cX12_closes 64 = .ok (.aload_n 0, 1) := by decide +kernel
theorem dX12_closes_65 : decode cX12_closes 65 = .ok (.getfield 57, 3) := by decide +kernel
theorem dX12_closes_68 : decode cX12_closes 68 = .ok (.aload_n 0, 1) := by decide +kernel
theorem dX12_closes_69 : decode cX12_closes 69 = .ok (.getfield 346, 3) := by decide +kernel
theorem dX12_closes_72 : decode cX12_closes 72 = .ok (.iaload, 1) := by decide +kernel
theorem dX12_closes_73 : decode cX12_closes 73 = .ok (.invokevirtual 355, 3) := by decide +kernel
theorem dX12_closes_76 : decode cX12_closes 76 = .ok (.iconst 1, 1) := by decide +kernel
theorem dX12_closes_77 : decode cX12_closes 77 = .ok (.ireturn, 1) := by decide +kernel
theorem dX12_readsBehind_0 : decode cX12_readsBehind 0 = .ok (.aload_n 0, 1) := by decide +kernel
theorem dX12_readsBehind_1 : decode cX12_readsBehind 1 = .ok (.getfield 322, 3) := by decide +kernel
theorem dX12_readsBehind_4 : decode cX12_readsBehind 4 = .ok (.iconst 1, 1) := by decide +kernel
theorem dX12_readsBehind_5 : decode cX12_readsBehind 5 = .ok (.if_icmp .eq 5, 3) := by decide +kernel
theorem dX12_readsBehind_8 : decode cX12_readsBehind 8 = .ok (.iconst (-1), 1) := by decide +kernel
theorem dX12_readsBehind_9 : decode cX12_readsBehind 9 = .ok (.ireturn, 1) := by decide +kernel
theorem dX12_readsBehind_10 : decode cX12_readsBehind 10 = .ok (.aload_n 0, 1) := by decide +kernel
theorem dX12_readsBehind_11 : decode cX12_readsBehind 11 = .ok (.getfield 325, 3) := by decide +kernel
theorem dX12_readsBehind_14 : decode cX12_readsBehind 14 = .ok (.bipush 33, 2) := by decide +kernel
theorem dX12_readsBehind_16 : decode cX12_readsBehind 16 = .ok (.if_icmp .ne 18, 3) := by decide +kernel
theorem dX12_readsBehind_19 : decode cX12_readsBehind 19 = .ok (.aload_n 0, 1) := by decide +kernel
theorem dX12_readsBehind_20 : decode cX12_readsBehind 20 = .ok (.bipush 7, 2) := by decide +kernel
theorem dX12_readsBehind_22 : decode cX12_readsBehind 22 = .ok (.iconst 0, 1) := by decide +kernel
theorem dX12_readsBehind_23 : decode cX12_readsBehind 23 = .ok (.iconst 0, 1) := by decide +kernel
theorem dX12_readsBehind_24 : decode cX12_readsBehind 24 = .ok (.aload_n 0, 1) := by decide +kernel
theorem dX12_readsBehind_25 : decode cX12_readsBehind 25 = .ok (.getfield 328, 3) := by decide +kernel
theorem dX12_readsBehind_28 : decode cX12_readsBehind 28 = .ok (.invokevirtual 355, 3) := by decide +kernel
theorem dX12_readsBehind_31 : decode cX12_readsBehind 31 = .ok (.goto 151, 3) := by decide +kernel
theorem dX12_readsBehind_34 : decode cX12_readsBehind 34 = .ok (.aload_n 0, 1) := by decide +kernel
theorem dX12_readsBehind_35 : decode cX12_readsBehind 35 = .ok (.getfield 325, 3) := by decide +kernel
theorem dX12_readsBehind_38 : decode cX12_readsBehind 38 = .ok (.bipush 41, 2) := by decide +kernel
theorem dX12_readsBehind_40 : decode cX12_readsBehind 40 = .ok (.if_icmp .ne 12, 3) := by decide +kernel
theorem dX12_readsBehind_43 : decode cX12_readsBehind 43 = .ok (.aload_n 0, 1) := by decide +kernel
theorem dX12_readsBehind_44 : decode cX12_readsBehind 44 = .ok (.invokevirtual 386, 3) := by decide +kernel
theorem dX12_readsBehind_47 : decode cX12_readsBehind 47 = .ok (.ifCond .ne 135, 3) := by decide +kernel
theorem dX12_readsBehind_50 : decode cX12_readsBehind 50 = .ok (.iconst (-1), 1) := by decide +kernel
theorem dX12_readsBehind_51 : decode cX12_readsBehind 51 = .ok (.ireturn, 1) := by decide +kernel
theorem dX12_readsBehind_52 : decode cX12_readsBehind 52 = .ok (.aload_n 0, 1) := by decide +kernel
theorem dX12_readsBehind_53 : decode cX12_readsBehind 53 = .ok (.getfield 325, 3) := by decide +kernel
theorem dX12_readsBehind_56 : decode cX12_readsBehind 56 = .ok (.bipush 94, 2) := by decide +kernel
theorem dX12_readsBehind_58 : decode cX12_readsBehind 58 = .ok (.if_icmp .ne 24, 3) := by decide +kernel
theorem dX12_readsBehind_61 : decode cX12_readsBehind 61 = .ok (.aload_n 0, 1) := by decide +kernel
theorem dX12_readsBehind_62 : decode cX12_readsBehind 62 = .ok (.getfield 349, 3) := by decide +kernel
theorem dX12_readsBehind_65 : decode cX12_readsBehind 65 = .ok (.bipush 12, 2) := by decide +kernel
theorem dX12_readsBehind_67 : decode cX12_readsBehind 67 = .ok (.if_icmp .ne 5, 3) := by decide +kernel
theorem dX12_readsBehind_70 : decode cX12_readsBehind 70 = .ok (.iconst (-1), 1) := by decide +kernel
theorem dX12_readsBehind_71 : decode cX12_readsBehind 71 = .ok (.ireturn, 1) := by decide +kernel
theorem dX12_readsBehind_72 : decode cX12_readsBehind 72 = .ok (.aload_n 0, 1) := by decide +kernel
theorem dX12_readsBehind_73 : decode cX12_readsBehind 73 = .ok (.bipush 6, 2) := by decide +kernel
theorem dX12_readsBehind_75 : decode cX12_readsBehind 75 = .ok (.iconst (-1), 1) := by decide +kernel
theorem dX12_readsBehind_76 : decode cX12_readsBehind 76 = .ok (.invokevirtual 380, 3) := by decide +kernel
theorem dX12_readsBehind_79 : decode cX12_readsBehind 79 = .ok (.goto 103, 3) := by decide +kernel
theorem dX12_readsBehind_82 : decode cX12_readsBehind 82 = .ok (.aload_n 0, 1) := by decide +kernel
theorem dX12_readsBehind_83 : decode cX12_readsBehind 83 = .ok (.getfield 325, 3) := by decide +kernel
theorem dX12_readsBehind_86 : decode cX12_readsBehind 86 = .ok (.bipush 44, 2) := by decide +kernel
theorem dX12_readsBehind_88 : decode cX12_readsBehind 88 = .ok (.if_icmp .ne 50, 3) := by decide +kernel
theorem dX12_readsBehind_91 : decode cX12_readsBehind 91 = .ok (.aload_n 0, 1) := by decide +kernel
theorem dX12_readsBehind_92 : decode cX12_readsBehind 92 = .ok (.iconst 1, 1) := by decide +kernel
theorem dX12_readsBehind_93 : decode cX12_readsBehind 93 = .ok (.invokevirtual 383, 3) := by decide +kernel
theorem dX12_readsBehind_96 : decode cX12_readsBehind 96 = .ok (.aload_n 0, 1) := by decide +kernel
theorem dX12_readsBehind_97 : decode cX12_readsBehind 97 = .ok (.getfield 346, 3) := by decide +kernel
theorem dX12_readsBehind_100 : decode cX12_readsBehind 100 = .ok (.ifCond .eq 18, 3) := by decide +kernel
theorem dX12_readsBehind_103 : decode cX12_readsBehind 103 = .ok (.aload_n 0, 1) := by decide +kernel
theorem dX12_readsBehind_104 : decode cX12_readsBehind 104 = .ok (.getfield 60, 3) := by decide +kernel
theorem dX12_readsBehind_107 : decode cX12_readsBehind 107 = .ok (.aload_n 0, 1) := by decide +kernel
theorem dX12_readsBehind_108 : decode cX12_readsBehind 108 = .ok (.getfield 346, 3) := by decide +kernel
theorem dX12_readsBehind_111 : decode cX12_readsBehind 111 = .ok (.iconst 1, 1) := by decide +kernel
theorem dX12_readsBehind_112 : decode cX12_readsBehind 112 = .ok (.isub, 1) := by decide +kernel
theorem dX12_readsBehind_113 : decode cX12_readsBehind 113 = .ok (.iaload, 1) := by decide +kernel
theorem dX12_readsBehind_114 : decode cX12_readsBehind 114 = .ok (.iconst (-1), 1) := by decide +kernel
theorem dX12_readsBehind_115 : decode cX12_readsBehind 115 = .ok (.if_icmp .ne 5, 3) := by decide +kernel
theorem dX12_readsBehind_118 : decode cX12_readsBehind 118 = .ok (.iconst (-1), 1) := by decide +kernel
theorem dX12_readsBehind_119 : decode cX12_readsBehind 119 = .ok (.ireturn, 1) := by decide +kernel
theorem dX12_readsBehind_120 : decode cX12_readsBehind 120 = .ok (.aload_n 0, 1) := by decide +kernel
theorem dX12_readsBehind_121 : decode cX12_readsBehind 121 = .ok (.getfield 63, 3) := by decide +kernel
theorem dX12_readsBehind_124 : decode cX12_readsBehind 124 = .ok (.aload_n 0, 1) := by decide +kernel
theorem dX12_readsBehind_125 : decode cX12_readsBehind 125 = .ok (.getfield 346, 3) := by decide +kernel
theorem dX12_readsBehind_128 : decode cX12_readsBehind 128 = .ok (.iconst 1, 1) := by decide +kernel
theorem dX12_readsBehind_129 : decode cX12_readsBehind 129 = .ok (.isub, 1) := by decide +kernel
theorem dX12_readsBehind_130 : decode cX12_readsBehind 130 = .ok (.dup2, 1) := by decide +kernel
theorem dX12_readsBehind_131 : decode cX12_readsBehind 131 = .ok (.iaload, 1) := by decide +kernel
theorem dX12_readsBehind_132 : decode cX12_readsBehind 132 = .ok (.iconst 1, 1) := by decide +kernel
theorem dX12_readsBehind_133 : decode cX12_readsBehind 133 = .ok (.iadd, 1) := by decide +kernel
theorem dX12_readsBehind_134 : decode cX12_readsBehind 134 = .ok (.iastore, 1) := by decide +kernel
theorem dX12_readsBehind_135 : decode cX12_readsBehind 135 = .ok (.goto 47, 3) := by decide +kernel
theorem dX12_readsBehind_138 : decode cX12_readsBehind 138 = .ok (.aload_n 0, 1) := by decide +kernel
theorem dX12_readsBehind_139 : decode cX12_readsBehind 139 = .ok (.aload_n 0, 1) := by decide +kernel
theorem dX12_readsBehind_140 : decode cX12_readsBehind 140 = .ok (.getfield 325, 3) := by decide +kernel
theorem dX12_readsBehind_143 : decode cX12_readsBehind 143 = .ok (.invokevirtual 390, 3) := by decide +kernel
theorem dX12_readsBehind_146 : decode cX12_readsBehind 146 = .ok (.ifCond .le 34, 3) := by decide +kernel
theorem dX12_readsBehind_149 : decode cX12_readsBehind 149 = .ok (.aload_n 0, 1) := by decide +kernel
theorem dX12_readsBehind_150 : decode cX12_readsBehind 150 = .ok (.aload_n 0, 1) := by decide +kernel
theorem dX12_readsBehind_151 : decode cX12_readsBehind 151 = .ok (.aload_n 0, 1) := by decide +kernel
theorem dX12_readsBehind_152 : decode cX12_readsBehind 152 = .ok (.getfield 325, 3) := by decide +kernel
theorem dX12_readsBehind_155 : decode cX12_readsBehind 155 = .ok (.invokevirtual 390, 3) := by decide +kernel
theorem dX12_readsBehind_158 : decode cX12_readsBehind 158 = .ok (.invokestatic 352, 3) := by decide +kernel
theorem dX12_readsBehind_161 : decode cX12_readsBehind 161 = .ok (.invokevirtual 383, 3) := by decide +kernel
theorem dX12_readsBehind_164 : decode cX12_readsBehind 164 = .ok (.aload_n 0, 1) := by decide +kernel
theorem dX12_readsBehind_165 : decode cX12_readsBehind 165 = .ok (.aload_n 0, 1) := by decide +kernel
theorem dX12_readsBehind_166 : decode cX12_readsBehind 166 = .ok (.aload_n 0, 1) := by decide +kernel
theorem dX12_readsBehind_167 : decode cX12_readsBehind 167 = .ok (.getfield 325, 3) := by decide +kernel
theorem dX12_readsBehind_170 : decode cX12_readsBehind 170 = .ok (.invokevirtual 390, 3) := by decide +kernel
theorem dX12_readsBehind_173 : decode cX12_readsBehind 173 = .ok (.iconst (-1), 1) := by decide +kernel
theorem dX12_readsBehind_174 : decode cX12_readsBehind 174 = .ok (.invokevirtual 380, 3) := by decide +kernel
theorem dX12_readsBehind_177 : decode cX12_readsBehind 177 = .ok (.goto 5, 3) := by decide +kernel
theorem dX12_readsBehind_180 : decode cX12_readsBehind 180 = .ok (.iconst (-1), 1) := by decide +kernel
theorem dX12_readsBehind_181 : decode cX12_readsBehind 181 = .ok (.ireturn, 1) := by decide +kernel
theorem dX12_readsBehind_182 : decode cX12_readsBehind 182 = .ok (.aload_n 0, 1) := by decide +kernel
theorem dX12_readsBehind_183 : decode cX12_readsBehind 183 = .ok (.getfield 325, 3) := by decide +kernel
theorem dX12_readsBehind_186 : decode cX12_readsBehind 186 = .ok (.bipush 33, 2) := by decide +kernel
theorem dX12_readsBehind_188 : decode cX12_readsBehind 188 = .ok (.if_icmp .eq 12, 3) := by decide +kernel
theorem dX12_readsBehind_191 : decode cX12_readsBehind 191 = .ok (.aload_n 0, 1) := by decide +kernel
theorem dX12_readsBehind_192 : decode cX12_readsBehind 192 = .ok (.getfield 325, 3) := by decide +kernel
theorem dX12_readsBehind_195 : decode cX12_readsBehind 195 = .ok (.bipush 41, 2) := by decide +kernel
theorem dX12_readsBehind_197 : decode cX12_readsBehind 197 = .ok (.if_icmp .ne 7, 3) := by decide +kernel
theorem dX12_readsBehind_200 : decode cX12_readsBehind 200 = .ok (.iconst 1, 1) := by decide +kernel
theorem dX12_readsBehind_201 : decode cX12_readsBehind 201 = .ok (.goto 4, 3) := by decide +kernel
theorem dX12_readsBehind_204 : decode cX12_readsBehind 204 = .ok (.iconst 0, 1) := by decide +kernel
theorem dX12_readsBehind_205 : decode cX12_readsBehind 205 = .ok (.istore_n 1, 1) := by decide +kernel
theorem dX12_readsBehind_206 : decode cX12_readsBehind 206 = .ok (.aload_n 0, 1) := by decide +kernel
theorem dX12_readsBehind_207 : decode cX12_readsBehind 207 = .ok (.invokevirtual 359, 3) := by decide +kernel
theorem dX12_readsBehind_210 : decode cX12_readsBehind 210 = .ok (.iload_n 1, 1) := by decide +kernel
theorem dX12_readsBehind_211 : decode cX12_readsBehind 211 = .ok (.ireturn, 1) := by decide +kernel
theorem dX12_readsSum_0 : decode cX12_readsSum 0 = .ok (.aload_n 0, 1) := by decide +kernel
theorem dX12_readsSum_1 : decode cX12_readsSum 1 = .ok (.iconst 0, 1) := by decide +kernel
theorem dX12_readsSum_2 : decode cX12_readsSum 2 = .ok (.putfield 346, 3) := by decide +kernel
theorem dX12_readsSum_5 : decode cX12_readsSum 5 = .ok (.aload_n 0, 1) := by decide +kernel
theorem dX12_readsSum_6 : decode cX12_readsSum 6 = .ok (.iconst 0, 1) := by decide +kernel
theorem dX12_readsSum_7 : decode cX12_readsSum 7 = .ok (.putfield 349, 3) := by decide +kernel
theorem dX12_readsSum_10 : decode cX12_readsSum 10 = .ok (.iconst 0, 1) := by decide +kernel
theorem dX12_readsSum_11 : decode cX12_readsSum 11 = .ok (.istore_n 1, 1) := by decide +kernel
theorem dX12_readsSum_12 : decode cX12_readsSum 12 = .ok (.iload_n 1, 1) := by decide +kernel
theorem dX12_readsSum_13 : decode cX12_readsSum 13 = .ok (.iconst (-1), 1) := by decide +kernel
theorem dX12_readsSum_14 : decode cX12_readsSum 14 = .ok (.if_icmp .eq 33, 3) := by decide +kernel
theorem dX12_readsSum_17 : decode cX12_readsSum 17 = .ok (.iload_n 1, 1) := by decide +kernel
theorem dX12_readsSum_18 : decode cX12_readsSum 18 = .ok (.ifCond .eq 10, 3) := by decide +kernel
theorem dX12_readsSum_21 : decode cX12_readsSum 21 = .ok (.aload_n 0, 1) := by decide +kernel
theorem dX12_readsSum_22 : decode cX12_readsSum 22 = .ok (.getfield 322, 3) := by decide +kernel
theorem dX12_readsSum_25 : decode cX12_readsSum 25 = .ok (.ifCond .eq 22, 3) := by decide +kernel
theorem dX12_readsSum_28 : decode cX12_readsSum 28 = .ok (.iload_n 1, 1) := by decide +kernel
theorem dX12_readsSum_29 : decode cX12_readsSum 29 = .ok (.ifCond .ne 10, 3) := by decide +kernel
theorem dX12_readsSum_32 : decode cX12_readsSum 32 = .ok (.aload_n 0, 1) := by decide +kernel
theorem dX12_readsSum_33 : decode cX12_readsSum 33 = .ok (.invokevirtual 393, 3) := by decide +kernel
theorem dX12_readsSum_36 : decode cX12_readsSum 36 = .ok (.goto 7, 3) := by decide +kernel
theorem dX12_readsSum_39 : decode cX12_readsSum 39 = .ok (.aload_n 0, 1) := by decide +kernel
theorem dX12_readsSum_40 : decode cX12_readsSum 40 = .ok (.invokevirtual 396, 3) := by decide +kernel
theorem dX12_readsSum_43 : decode cX12_readsSum 43 = .ok (.istore_n 1, 1) := by decide +kernel
theorem dX12_readsSum_44 : decode cX12_readsSum 44 = .ok (.goto (-32), 3) := by decide +kernel
theorem dX12_readsSum_47 : decode cX12_readsSum 47 = .ok (.iload_n 1, 1) := by decide +kernel
theorem dX12_readsSum_48 : decode cX12_readsSum 48 = .ok (.iconst (-1), 1) := by decide +kernel
theorem dX12_readsSum_49 : decode cX12_readsSum 49 = .ok (.if_icmp .ne 5, 3) := by decide +kernel
theorem dX12_readsSum_52 : decode cX12_readsSum 52 = .ok (.iconst 0, 1) := by decide +kernel
theorem dX12_readsSum_53 : decode cX12_readsSum 53 = .ok (.ireturn, 1) := by decide +kernel
theorem dX12_readsSum_54 : decode cX12_readsSum 54 = .ok (.aload_n 0, 1) := by decide +kernel
theorem dX12_readsSum_55 : decode cX12_readsSum 55 = .ok (.iconst 1, 1) := by decide +kernel
theorem dX12_readsSum_56 : decode cX12_readsSum 56 = .ok (.invokevirtual 383, 3) := by decide +kernel
theorem dX12_readsSum_59 : decode cX12_readsSum 59 = .ok (.aload_n 0, 1) := by decide +kernel
theorem dX12_readsSum_60 : decode cX12_readsSum 60 = .ok (.getfield 346, 3) := by decide +kernel
theorem dX12_readsSum_63 : decode cX12_readsSum 63 = .ok (.ifCond .ne 7, 3) := by decide +kernel
theorem dX12_readsSum_66 : decode cX12_readsSum 66 = .ok (.iconst 1, 1) := by decide +kernel
theorem dX12_readsSum_67 : decode cX12_readsSum 67 = .ok (.goto 4, 3) := by decide +kernel
theorem dX12_readsSum_70 : decode cX12_readsSum 70 = .ok (.iconst 0, 1) := by decide +kernel
theorem dX12_readsSum_71 : decode cX12_readsSum 71 = .ok (.ireturn, 1) := by decide +kernel
theorem dX12_readsLine_0 : decode cX12_readsLine 0 = .ok (.aload_n 0, 1) := by decide +kernel
theorem dX12_readsLine_1 : decode cX12_readsLine 1 = .ok (.invokevirtual 399, 3) := by decide +kernel
theorem dX12_readsLine_4 : decode cX12_readsLine 4 = .ok (.ifCond .ne 20, 3) := by decide +kernel
theorem dX12_readsLine_7 : decode cX12_readsLine 7 = .ok (.aload_n 0, 1) := by decide +kernel
theorem dX12_readsLine_8 : decode cX12_readsLine 8 = .ok (.iconst 0, 1) := by decide +kernel
theorem dX12_readsLine_9 : decode cX12_readsLine 9 = .ok (.putfield 371, 3) := by decide +kernel
theorem dX12_readsLine_12 : decode cX12_readsLine 12 = .ok (.aload_n 0, 1) := by decide +kernel
theorem dX12_readsLine_13 : decode cX12_readsLine 13 = .ok (.iconst 0, 1) := by decide +kernel
theorem dX12_readsLine_14 : decode cX12_readsLine 14 = .ok (.putfield 304, 3) := by decide +kernel
theorem dX12_readsLine_17 : decode cX12_readsLine 17 = .ok (.aload_n 0, 1) := by decide +kernel
theorem dX12_readsLine_18 : decode cX12_readsLine 18 = .ok (.invokevirtual 359, 3) := by decide +kernel
theorem dX12_readsLine_21 : decode cX12_readsLine 21 = .ok (.goto 12, 3) := by decide +kernel
theorem dX12_readsLine_24 : decode cX12_readsLine 24 = .ok (.aload_n 0, 1) := by decide +kernel
theorem dX12_readsLine_25 : decode cX12_readsLine 25 = .ok (.invokevirtual 402, 3) := by decide +kernel
theorem dX12_readsLine_28 : decode cX12_readsLine 28 = .ok (.ifCond .ne 5, 3) := by decide +kernel
theorem dX12_readsLine_31 : decode cX12_readsLine 31 = .ok (.iconst 0, 1) := by decide +kernel
theorem dX12_readsLine_32 : decode cX12_readsLine 32 = .ok (.ireturn, 1) := by decide +kernel
theorem dX12_readsLine_33 : decode cX12_readsLine 33 = .ok (.aload_n 0, 1) := by decide +kernel
theorem dX12_readsLine_34 : decode cX12_readsLine 34 = .ok (.invokevirtual 405, 3) := by decide +kernel
theorem dX12_readsLine_37 : decode cX12_readsLine 37 = .ok (.ireturn, 1) := by decide +kernel
theorem dX12_thing_0 : decode cX12_thing 0 = .ok (.iload_n 2, 1) := by decide +kernel
theorem dX12_thing_1 : decode cX12_thing 1 = .ok (.ifCond .eq 8, 3) := by decide +kernel
theorem dX12_thing_4 : decode cX12_thing 4 = .ok (.bipush 20, 2) := by decide +kernel
theorem dX12_thing_6 : decode cX12_thing 6 = .ok (.goto 4, 3) := by decide +kernel
theorem dX12_thing_9 : decode cX12_thing 9 = .ok (.iconst 0, 1) := by decide +kernel
theorem dX12_thing_10 : decode cX12_thing 10 = .ok (.istore_n 3, 1) := by decide +kernel
theorem dX12_thing_11 : decode cX12_thing 11 = .ok (.iload_n 3, 1) := by decide +kernel
theorem dX12_thing_12 : decode cX12_thing 12 = .ok (.istore 4, 2) := by decide +kernel
theorem dX12_thing_14 : decode cX12_thing 14 = .ok (.iload 4, 2) := by decide +kernel
theorem dX12_thing_16 : decode cX12_thing 16 = .ok (.iload_n 3, 1) := by decide +kernel
theorem dX12_thing_17 : decode cX12_thing 17 = .ok (.iload_n 2, 1) := by decide +kernel
theorem dX12_thing_18 : decode cX12_thing 18 = .ok (.ifCond .eq 10, 3) := by decide +kernel
theorem dX12_thing_21 : decode cX12_thing 21 = .ok (.aload_n 0, 1) := by decide +kernel
theorem dX12_thing_22 : decode cX12_thing 22 = .ok (.getfield 408, 3) := by decide +kernel
theorem dX12_thing_25 : decode cX12_thing 25 = .ok (.goto 7, 3) := by decide +kernel
theorem dX12_thing_28 : decode cX12_thing 28 = .ok (.aload_n 0, 1) := by decide +kernel
theorem dX12_thing_29 : decode cX12_thing 29 = .ok (.getfield 411, 3) := by decide +kernel
theorem dX12_thing_32 : decode cX12_thing 32 = .ok (.iadd, 1) := by decide +kernel
theorem dX12_thing_33 : decode cX12_thing 33 = .ok (.if_icmp .ge 23, 3) := by decide +kernel
theorem dX12_thing_36 : decode cX12_thing 36 = .ok (.aload_n 0, 1) := by decide +kernel
theorem dX12_thing_37 : decode cX12_thing 37 = .ok (.getfield 69, 3) := by decide +kernel
theorem dX12_thing_40 : decode cX12_thing 40 = .ok (.iload 4, 2) := by decide +kernel
theorem dX12_thing_42 : decode cX12_thing 42 = .ok (.iaload, 1) := by decide +kernel
theorem dX12_thing_43 : decode cX12_thing 43 = .ok (.iload_n 1, 1) := by decide +kernel
theorem dX12_thing_44 : decode cX12_thing 44 = .ok (.if_icmp .ne 6, 3) := by decide +kernel
theorem dX12_thing_47 : decode cX12_thing 47 = .ok (.iload 4, 2) := by decide +kernel
theorem dX12_thing_49 : decode cX12_thing 49 = .ok (.ireturn, 1) := by decide +kernel
theorem dX12_thing_50 : decode cX12_thing 50 = .ok (.iinc 4 1, 3) := by decide +kernel
theorem dX12_thing_53 : decode cX12_thing 53 = .ok (.goto (-39), 3) := by decide +kernel
theorem dX12_thing_56 : decode cX12_thing 56 = .ok (.iconst (-1), 1) := by decide +kernel
theorem dX12_thing_57 : decode cX12_thing 57 = .ok (.ireturn, 1) := by decide +kernel
theorem dX12_isThere_0 : decode cX12_isThere 0 = .ok (.iload_n 1, 1) := by decide +kernel
theorem dX12_isThere_1 : decode cX12_isThere 1 = .ok (.bipush 20, 2) := by decide +kernel
theorem dX12_isThere_3 : decode cX12_isThere 3 = .ok (.if_icmp .ge 19, 3) := by decide +kernel
theorem dX12_isThere_6 : decode cX12_isThere 6 = .ok (.iload_n 1, 1) := by decide +kernel
theorem dX12_isThere_7 : decode cX12_isThere 7 = .ok (.aload_n 0, 1) := by decide +kernel
theorem dX12_isThere_8 : decode cX12_isThere 8 = .ok (.getfield 411, 3) := by decide +kernel
theorem dX12_isThere_11 : decode cX12_isThere 11 = .ok (.if_icmp .ge 7, 3) := by decide +kernel
theorem dX12_isThere_14 : decode cX12_isThere 14 = .ok (.iconst 1, 1) := by decide +kernel
theorem dX12_isThere_15 : decode cX12_isThere 15 = .ok (.goto 23, 3) := by decide +kernel
theorem dX12_isThere_18 : decode cX12_isThere 18 = .ok (.iconst 0, 1) := by decide +kernel
theorem dX12_isThere_19 : decode cX12_isThere 19 = .ok (.goto 19, 3) := by decide +kernel
theorem dX12_isThere_22 : decode cX12_isThere 22 = .ok (.iload_n 1, 1) := by decide +kernel
theorem dX12_isThere_23 : decode cX12_isThere 23 = .ok (.bipush 20, 2) := by decide +kernel
theorem dX12_isThere_25 : decode cX12_isThere 25 = .ok (.isub, 1) := by decide +kernel
theorem dX12_isThere_26 : decode cX12_isThere 26 = .ok (.aload_n 0, 1) := by decide +kernel
theorem dX12_isThere_27 : decode cX12_isThere 27 = .ok (.getfield 408, 3) := by decide +kernel
theorem dX12_isThere_30 : decode cX12_isThere 30 = .ok (.if_icmp .ge 7, 3) := by decide +kernel
theorem dX12_isThere_33 : decode cX12_isThere 33 = .ok (.iconst 1, 1) := by decide +kernel
theorem dX12_isThere_34 : decode cX12_isThere 34 = .ok (.goto 4, 3) := by decide +kernel
theorem dX12_isThere_37 : decode cX12_isThere 37 = .ok (.iconst 0, 1) := by decide +kernel
theorem dX12_isThere_38 : decode cX12_isThere 38 = .ok (.ireturn, 1) := by decide +kernel
theorem dX12_orderOf_0 : decode cX12_orderOf 0 = .ok (.iload_n 0, 1) := by decide +kernel
theorem dX12_orderOf_1 : decode cX12_orderOf 1 = .ok (.istore_n 1, 1) := by decide +kernel
theorem dX12_orderOf_2 : decode cX12_orderOf 2 = .ok (.iload_n 1, 1) := by decide +kernel
theorem dX12_orderOf_3 : decode cX12_orderOf 3 = .ok (.ldc_w 414, 3) := by decide +kernel
theorem dX12_orderOf_6 : decode cX12_orderOf 6 = .ok (.if_icmp .ge 11, 3) := by decide +kernel
theorem dX12_orderOf_9 : decode cX12_orderOf 9 = .ok (.iload_n 1, 1) := by decide +kernel
theorem dX12_orderOf_10 : decode cX12_orderOf 10 = .ok (.bipush 27, 2) := by decide +kernel
theorem dX12_orderOf_12 : decode cX12_orderOf 12 = .ok (.imul, 1) := by decide +kernel
theorem dX12_orderOf_13 : decode cX12_orderOf 13 = .ok (.istore_n 1, 1) := by decide +kernel
theorem dX12_orderOf_14 : decode cX12_orderOf 14 = .ok (.goto (-12), 3) := by decide +kernel
theorem dX12_orderOf_17 : decode cX12_orderOf 17 = .ok (.iload_n 1, 1) := by decide +kernel
theorem dX12_orderOf_18 : decode cX12_orderOf 18 = .ok (.ireturn, 1) := by decide +kernel
theorem dX12_hasDirectly_0 : decode cX12_hasDirectly 0 = .ok (.aload_n 0, 1) := by decide +kernel
theorem dX12_hasDirectly_1 : decode cX12_hasDirectly 1 = .ok (.getfield 45, 3) := by decide +kernel
theorem dX12_hasDirectly_4 : decode cX12_hasDirectly 4 = .ok (.iload_n 1, 1) := by decide +kernel
theorem dX12_hasDirectly_5 : decode cX12_hasDirectly 5 = .ok (.iaload, 1) := by decide +kernel
theorem dX12_hasDirectly_6 : decode cX12_hasDirectly 6 = .ok (.istore_n 3, 1) := by decide +kernel
theorem dX12_hasDirectly_7 : decode cX12_hasDirectly 7 = .ok (.iload_n 3, 1) := by decide +kernel
theorem dX12_hasDirectly_8 : decode cX12_hasDirectly 8 = .ok (.aload_n 0, 1) := by decide +kernel
theorem dX12_hasDirectly_9 : decode cX12_hasDirectly 9 = .ok (.getfield 48, 3) := by decide +kernel
theorem dX12_hasDirectly_12 : decode cX12_hasDirectly 12 = .ok (.iload_n 1, 1) := by decide +kernel
theorem dX12_hasDirectly_13 : decode cX12_hasDirectly 13 = .ok (.iaload, 1) := by decide +kernel
theorem dX12_hasDirectly_14 : decode cX12_hasDirectly 14 = .ok (.if_icmp .ge 77, 3) := by decide +kernel
theorem dX12_hasDirectly_17 : decode cX12_hasDirectly 17 = .ok (.iload_n 2, 1) := by decide +kernel
theorem dX12_hasDirectly_18 : decode cX12_hasDirectly 18 = .ok (.bipush 20, 2) := by decide +kernel
theorem dX12_hasDirectly_20 : decode cX12_hasDirectly 20 = .ok (.if_icmp .ge 31, 3) := by decide +kernel
theorem dX12_hasDirectly_23 : decode cX12_hasDirectly 23 = .ok (.aload_n 0, 1) := by decide +kernel
theorem dX12_hasDirectly_24 : decode cX12_hasDirectly 24 = .ok (.getfield 33, 3) := by decide +kernel
theorem dX12_hasDirectly_27 : decode cX12_hasDirectly 27 = .ok (.iload_n 3, 1) := by decide +kernel
theorem dX12_hasDirectly_28 : decode cX12_hasDirectly 28 = .ok (.iaload, 1) := by decide +kernel
theorem dX12_hasDirectly_29 : decode cX12_hasDirectly 29 = .ok (.bipush 31, 2) := by decide +kernel
theorem dX12_hasDirectly_31 : decode cX12_hasDirectly 31 = .ok (.if_icmp .ne 20, 3) := by decide +kernel
theorem dX12_hasDirectly_34 : decode cX12_hasDirectly 34 = .ok (.aload_n 0, 1) := by decide +kernel
theorem dX12_hasDirectly_35 : decode cX12_hasDirectly 35 = .ok (.getfield 36, 3) := by decide +kernel
theorem dX12_hasDirectly_38 : decode cX12_hasDirectly 38 = .ok (.iload_n 3, 1) := by decide +kernel
theorem dX12_hasDirectly_39 : decode cX12_hasDirectly 39 = .ok (.iaload, 1) := by decide +kernel
theorem dX12_hasDirectly_40 : decode cX12_hasDirectly 40 = .ok (.aload_n 0, 1) := by decide +kernel
theorem dX12_hasDirectly_41 : decode cX12_hasDirectly 41 = .ok (.getfield 69, 3) := by decide +kernel
theorem dX12_hasDirectly_44 : decode cX12_hasDirectly 44 = .ok (.iload_n 2, 1) := by decide +kernel
theorem dX12_hasDirectly_45 : decode cX12_hasDirectly 45 = .ok (.iaload, 1) := by decide +kernel
theorem dX12_hasDirectly_46 : decode cX12_hasDirectly 46 = .ok (.if_icmp .ne 5, 3) := by decide +kernel
theorem dX12_hasDirectly_49 : decode cX12_hasDirectly 49 = .ok (.iconst 1, 1) := by decide +kernel
theorem dX12_hasDirectly_50 : decode cX12_hasDirectly 50 = .ok (.ireturn, 1) := by decide +kernel
theorem dX12_hasDirectly_51 : decode cX12_hasDirectly 51 = .ok (.iload_n 2, 1) := by decide +kernel
theorem dX12_hasDirectly_52 : decode cX12_hasDirectly 52 = .ok (.bipush 20, 2) := by decide +kernel
theorem dX12_hasDirectly_54 : decode cX12_hasDirectly 54 = .ok (.if_icmp .lt 31, 3) := by decide +kernel
theorem dX12_hasDirectly_57 : decode cX12_hasDirectly 57 = .ok (.aload_n 0, 1) := by decide +kernel
theorem dX12_hasDirectly_58 : decode cX12_hasDirectly 58 = .ok (.getfield 33, 3) := by decide +kernel
theorem dX12_hasDirectly_61 : decode cX12_hasDirectly 61 = .ok (.iload_n 3, 1) := by decide +kernel
theorem dX12_hasDirectly_62 : decode cX12_hasDirectly 62 = .ok (.iaload, 1) := by decide +kernel
theorem dX12_hasDirectly_63 : decode cX12_hasDirectly 63 = .ok (.bipush 33, 2) := by decide +kernel
theorem dX12_hasDirectly_65 : decode cX12_hasDirectly 65 = .ok (.if_icmp .ne 20, 3) := by decide +kernel
theorem dX12_hasDirectly_68 : decode cX12_hasDirectly 68 = .ok (.aload_n 0, 1) := by decide +kernel
theorem dX12_hasDirectly_69 : decode cX12_hasDirectly 69 = .ok (.getfield 36, 3) := by decide +kernel
theorem dX12_hasDirectly_72 : decode cX12_hasDirectly 72 = .ok (.iload_n 3, 1) := by decide +kernel
theorem dX12_hasDirectly_73 : decode cX12_hasDirectly 73 = .ok (.iaload, 1) := by decide +kernel
theorem dX12_hasDirectly_74 : decode cX12_hasDirectly 74 = .ok (.aload_n 0, 1) := by decide +kernel
theorem dX12_hasDirectly_75 : decode cX12_hasDirectly 75 = .ok (.getfield 69, 3) := by decide +kernel
theorem dX12_hasDirectly_78 : decode cX12_hasDirectly 78 = .ok (.iload_n 2, 1) := by decide +kernel
theorem dX12_hasDirectly_79 : decode cX12_hasDirectly 79 = .ok (.iaload, 1) := by decide +kernel
theorem dX12_hasDirectly_80 : decode cX12_hasDirectly 80 = .ok (.if_icmp .ne 5, 3) := by decide +kernel
theorem dX12_hasDirectly_83 : decode cX12_hasDirectly 83 = .ok (.iconst 1, 1) := by decide +kernel
theorem dX12_hasDirectly_84 : decode cX12_hasDirectly 84 = .ok (.ireturn, 1) := by decide +kernel
theorem dX12_hasDirectly_85 : decode cX12_hasDirectly 85 = .ok (.iinc 3 1, 3) := by decide +kernel
theorem dX12_hasDirectly_88 : decode cX12_hasDirectly 88 = .ok (.goto (-81), 3) := by decide +kernel
theorem dX12_hasDirectly_91 : decode cX12_hasDirectly 91 = .ok (.iconst 0, 1) := by decide +kernel
theorem dX12_hasDirectly_92 : decode cX12_hasDirectly 92 = .ok (.ireturn, 1) := by decide +kernel
theorem dX12_findsUsed_0 : decode cX12_findsUsed 0 = .ok (.iconst 0, 1) := by decide +kernel
theorem dX12_findsUsed_1 : decode cX12_findsUsed 1 = .ok (.istore_n 2, 1) := by decide +kernel
theorem dX12_findsUsed_2 : decode cX12_findsUsed 2 = .ok (.iload_n 2, 1) := by decide +kernel
theorem dX12_findsUsed_3 : decode cX12_findsUsed 3 = .ok (.bipush 30, 2) := by decide +kernel
theorem dX12_findsUsed_5 : decode cX12_findsUsed 5 = .ok (.if_icmp .ge 37, 3) := by decide +kernel
theorem dX12_findsUsed_8 : decode cX12_findsUsed 8 = .ok (.aload_n 0, 1) := by decide +kernel
theorem dX12_findsUsed_9 : decode cX12_findsUsed 9 = .ok (.getfield 78, 3) := by decide +kernel
theorem dX12_findsUsed_12 : decode cX12_findsUsed 12 = .ok (.iload_n 2, 1) := by decide +kernel
theorem dX12_findsUsed_13 : decode cX12_findsUsed 13 = .ok (.aload_n 0, 1) := by decide +kernel
theorem dX12_findsUsed_14 : decode cX12_findsUsed 14 = .ok (.iload_n 2, 1) := by decide +kernel
theorem dX12_findsUsed_15 : decode cX12_findsUsed 15 = .ok (.invokevirtual 415, 3) := by decide +kernel
theorem dX12_findsUsed_18 : decode cX12_findsUsed 18 = .ok (.ifCond .eq 16, 3) := by decide +kernel
theorem dX12_findsUsed_21 : decode cX12_findsUsed 21 = .ok (.aload_n 0, 1) := by decide +kernel
theorem dX12_findsUsed_22 : decode cX12_findsUsed 22 = .ok (.iload_n 1, 1) := by decide +kernel
theorem dX12_findsUsed_23 : decode cX12_findsUsed 23 = .ok (.iload_n 2, 1) := by decide +kernel
theorem dX12_findsUsed_24 : decode cX12_findsUsed 24 = .ok (.invokevirtual 418, 3) := by decide +kernel
theorem dX12_findsUsed_27 : decode cX12_findsUsed 27 = .ok (.ifCond .eq 7, 3) := by decide +kernel
theorem dX12_findsUsed_30 : decode cX12_findsUsed 30 = .ok (.iconst 1, 1) := by decide +kernel
theorem dX12_findsUsed_31 : decode cX12_findsUsed 31 = .ok (.goto 4, 3) := by decide +kernel
theorem dX12_findsUsed_34 : decode cX12_findsUsed 34 = .ok (.iconst 0, 1) := by decide +kernel
theorem dX12_findsUsed_35 : decode cX12_findsUsed 35 = .ok (.bastore, 1) := by decide +kernel
theorem dX12_findsUsed_36 : decode cX12_findsUsed 36 = .ok (.iinc 2 1, 3) := by decide +kernel
theorem dX12_findsUsed_39 : decode cX12_findsUsed 39 = .ok (.goto (-37), 3) := by decide +kernel
theorem dX12_findsUsed_42 : decode cX12_findsUsed 42 = .ok (.iconst 1, 1) := by decide +kernel
theorem dX12_findsUsed_43 : decode cX12_findsUsed 43 = .ok (.istore_n 2, 1) := by decide +kernel
theorem dX12_findsUsed_44 : decode cX12_findsUsed 44 = .ok (.iload_n 2, 1) := by decide +kernel
theorem dX12_findsUsed_45 : decode cX12_findsUsed 45 = .ok (.ifCond .eq 97, 3) := by decide +kernel
theorem dX12_findsUsed_48 : decode cX12_findsUsed 48 = .ok (.iconst 0, 1) := by decide +kernel
theorem dX12_findsUsed_49 : decode cX12_findsUsed 49 = .ok (.istore_n 2, 1) := by decide +kernel
theorem dX12_findsUsed_50 : decode cX12_findsUsed 50 = .ok (.iconst 0, 1) := by decide +kernel
theorem dX12_findsUsed_51 : decode cX12_findsUsed 51 = .ok (.istore_n 3, 1) := by decide +kernel
theorem dX12_findsUsed_52 : decode cX12_findsUsed 52 = .ok (.iload_n 3, 1) := by decide +kernel
theorem dX12_findsUsed_53 : decode cX12_findsUsed 53 = .ok (.bipush 30, 2) := by decide +kernel
theorem dX12_findsUsed_55 : decode cX12_findsUsed 55 = .ok (.if_icmp .ge 84, 3) := by decide +kernel
theorem dX12_findsUsed_58 : decode cX12_findsUsed 58 = .ok (.aload_n 0, 1) := by decide +kernel
theorem dX12_findsUsed_59 : decode cX12_findsUsed 59 = .ok (.getfield 78, 3) := by decide +kernel
theorem dX12_findsUsed_62 : decode cX12_findsUsed 62 = .ok (.iload_n 3, 1) := by decide +kernel
theorem dX12_findsUsed_63 : decode cX12_findsUsed 63 = .ok (.baload, 1) := by decide +kernel
theorem dX12_findsUsed_64 : decode cX12_findsUsed 64 = .ok (.ifCond .ne 6, 3) := by decide +kernel
theorem dX12_findsUsed_67 : decode cX12_findsUsed 67 = .ok (.goto 66, 3) := by decide +kernel
theorem dX12_findsUsed_70 : decode cX12_findsUsed 70 = .ok (.iconst 0, 1) := by decide +kernel
theorem dX12_findsUsed_71 : decode cX12_findsUsed 71 = .ok (.istore 4, 2) := by decide +kernel
theorem dX12_findsUsed_73 : decode cX12_findsUsed 73 = .ok (.iload 4, 2) := by decide +kernel
theorem dX12_findsUsed_75 : decode cX12_findsUsed 75 = .ok (.bipush 30, 2) := by decide +kernel
theorem dX12_findsUsed_77 : decode cX12_findsUsed 77 = .ok (.if_icmp .ge 56, 3) := by decide +kernel
theorem dX12_findsUsed_80 : decode cX12_findsUsed 80 = .ok (.aload_n 0, 1) := by decide +kernel
theorem dX12_findsUsed_81 : decode cX12_findsUsed 81 = .ok (.iload 4, 2) := by decide +kernel
theorem dX12_findsUsed_83 : decode cX12_findsUsed 83 = .ok (.invokevirtual 415, 3) := by decide +kernel
theorem dX12_findsUsed_86 : decode cX12_findsUsed 86 = .ok (.ifCond .eq 41, 3) := by decide +kernel
theorem dX12_findsUsed_89 : decode cX12_findsUsed 89 = .ok (.aload_n 0, 1) := by decide +kernel
theorem dX12_findsUsed_90 : decode cX12_findsUsed 90 = .ok (.getfield 78, 3) := by decide +kernel
theorem dX12_findsUsed_93 : decode cX12_findsUsed 93 = .ok (.iload 4, 2) := by decide +kernel
theorem dX12_findsUsed_95 : decode cX12_findsUsed 95 = .ok (.baload, 1) := by decide +kernel
theorem dX12_findsUsed_96 : decode cX12_findsUsed 96 = .ok (.ifCond .ne 31, 3) := by decide +kernel
theorem dX12_findsUsed_99 : decode cX12_findsUsed 99 = .ok (.aload_n 0, 1) := by decide +kernel
theorem dX12_findsUsed_100 : decode cX12_findsUsed 100 = .ok (.aload_n 0, 1) := by decide +kernel
theorem dX12_findsUsed_101 : decode cX12_findsUsed 101 = .ok (.getfield 72, 3) := by decide +kernel
theorem dX12_findsUsed_104 : decode cX12_findsUsed 104 = .ok (.iload_n 3, 1) := by decide +kernel
theorem dX12_findsUsed_105 : decode cX12_findsUsed 105 = .ok (.iaload, 1) := by decide +kernel
theorem dX12_findsUsed_106 : decode cX12_findsUsed 106 = .ok (.iload 4, 2) := by decide +kernel
theorem dX12_findsUsed_108 : decode cX12_findsUsed 108 = .ok (.invokevirtual 418, 3) := by decide +kernel
theorem dX12_findsUsed_111 : decode cX12_findsUsed 111 = .ok (.ifCond .ne 6, 3) := by decide +kernel
theorem dX12_findsUsed_114 : decode cX12_findsUsed 114 = .ok (.goto 13, 3) := by decide +kernel
theorem dX12_findsUsed_117 : decode cX12_findsUsed 117 = .ok (.aload_n 0, 1) := by decide +kernel
theorem dX12_findsUsed_118 : decode cX12_findsUsed 118 = .ok (.getfield 78, 3) := by decide +kernel
theorem dX12_findsUsed_121 : decode cX12_findsUsed 121 = .ok (.iload 4, 2) := by decide +kernel
theorem dX12_findsUsed_123 : decode cX12_findsUsed 123 = .ok (.iconst 1, 1) := by decide +kernel
theorem dX12_findsUsed_124 : decode cX12_findsUsed 124 = .ok (.bastore, 1) := by decide +kernel
theorem dX12_findsUsed_125 : decode cX12_findsUsed 125 = .ok (.iconst 1, 1) := by decide +kernel
theorem dX12_findsUsed_126 : decode cX12_findsUsed 126 = .ok (.istore_n 2, 1) := by decide +kernel
theorem dX12_findsUsed_127 : decode cX12_findsUsed 127 = .ok (.iinc 4 1, 3) := by decide +kernel
theorem dX12_findsUsed_130 : decode cX12_findsUsed 130 = .ok (.goto (-57), 3) := by decide +kernel
theorem dX12_findsUsed_133 : decode cX12_findsUsed 133 = .ok (.iinc 3 1, 3) := by decide +kernel
theorem dX12_findsUsed_136 : decode cX12_findsUsed 136 = .ok (.goto (-84), 3) := by decide +kernel
theorem dX12_findsUsed_139 : decode cX12_findsUsed 139 = .ok (.goto (-95), 3) := by decide +kernel
theorem dX12_findsUsed_142 : decode cX12_findsUsed 142 = .ok (.return_, 1) := by decide +kernel
theorem dX12_doesUse_0 : decode cX12_doesUse 0 = .ok (.aload_n 0, 1) := by decide +kernel
theorem dX12_doesUse_1 : decode cX12_doesUse 1 = .ok (.aload_n 0, 1) := by decide +kernel
theorem dX12_doesUse_2 : decode cX12_doesUse 2 = .ok (.getfield 72, 3) := by decide +kernel
theorem dX12_doesUse_5 : decode cX12_doesUse 5 = .ok (.iload_n 1, 1) := by decide +kernel
theorem dX12_doesUse_6 : decode cX12_doesUse 6 = .ok (.iaload, 1) := by decide +kernel
theorem dX12_doesUse_7 : decode cX12_doesUse 7 = .ok (.invokevirtual 421, 3) := by decide +kernel
theorem dX12_doesUse_10 : decode cX12_doesUse 10 = .ok (.aload_n 0, 1) := by decide +kernel
theorem dX12_doesUse_11 : decode cX12_doesUse 11 = .ok (.getfield 78, 3) := by decide +kernel
theorem dX12_doesUse_14 : decode cX12_doesUse 14 = .ok (.iload_n 2, 1) := by decide +kernel
theorem dX12_doesUse_15 : decode cX12_doesUse 15 = .ok (.baload, 1) := by decide +kernel
theorem dX12_doesUse_16 : decode cX12_doesUse 16 = .ok (.ireturn, 1) := by decide +kernel
theorem dX12_unknownAt_0 : decode cX12_unknownAt 0 = .ok (.iconst (-1), 1) := by decide +kernel
theorem dX12_unknownAt_1 : decode cX12_unknownAt 1 = .ok (.istore_n 2, 1) := by decide +kernel
theorem dX12_unknownAt_2 : decode cX12_unknownAt 2 = .ok (.aload_n 0, 1) := by decide +kernel
theorem dX12_unknownAt_3 : decode cX12_unknownAt 3 = .ok (.getfield 45, 3) := by decide +kernel
theorem dX12_unknownAt_6 : decode cX12_unknownAt 6 = .ok (.iload_n 1, 1) := by decide +kernel
theorem dX12_unknownAt_7 : decode cX12_unknownAt 7 = .ok (.iaload, 1) := by decide +kernel
theorem dX12_unknownAt_8 : decode cX12_unknownAt 8 = .ok (.istore_n 3, 1) := by decide +kernel
theorem dX12_unknownAt_9 : decode cX12_unknownAt 9 = .ok (.iload_n 3, 1) := by decide +kernel
theorem dX12_unknownAt_10 : decode cX12_unknownAt 10 = .ok (.aload_n 0, 1) := by decide +kernel
theorem dX12_unknownAt_11 : decode cX12_unknownAt 11 = .ok (.getfield 48, 3) := by decide +kernel
theorem dX12_unknownAt_14 : decode cX12_unknownAt 14 = .ok (.iload_n 1, 1) := by decide +kernel
theorem dX12_unknownAt_15 : decode cX12_unknownAt 15 = .ok (.iaload, 1) := by decide +kernel
theorem dX12_unknownAt_16 : decode cX12_unknownAt 16 = .ok (.if_icmp .ge 109, 3) := by decide +kernel
theorem dX12_unknownAt_19 : decode cX12_unknownAt 19 = .ok (.iconst 1, 1) := by decide +kernel
theorem dX12_unknownAt_20 : decode cX12_unknownAt 20 = .ok (.istore 4, 2) := by decide +kernel
theorem dX12_unknownAt_22 : decode cX12_unknownAt 22 = .ok (.aload_n 0, 1) := by decide +kernel
theorem dX12_unknownAt_23 : decode cX12_unknownAt 23 = .ok (.getfield 33, 3) := by decide +kernel
theorem dX12_unknownAt_26 : decode cX12_unknownAt 26 = .ok (.iload_n 3, 1) := by decide +kernel
theorem dX12_unknownAt_27 : decode cX12_unknownAt 27 = .ok (.iaload, 1) := by decide +kernel
theorem dX12_unknownAt_28 : decode cX12_unknownAt 28 = .ok (.bipush 31, 2) := by decide +kernel
theorem dX12_unknownAt_30 : decode cX12_unknownAt 30 = .ok (.if_icmp .ne 25, 3) := by decide +kernel
theorem dX12_unknownAt_33 : decode cX12_unknownAt 33 = .ok (.aload_n 0, 1) := by decide +kernel
theorem dX12_unknownAt_34 : decode cX12_unknownAt 34 = .ok (.aload_n 0, 1) := by decide +kernel
theorem dX12_unknownAt_35 : decode cX12_unknownAt 35 = .ok (.getfield 36, 3) := by decide +kernel
theorem dX12_unknownAt_38 : decode cX12_unknownAt 38 = .ok (.iload_n 3, 1) := by decide +kernel
theorem dX12_unknownAt_39 : decode cX12_unknownAt 39 = .ok (.iaload, 1) := by decide +kernel
theorem dX12_unknownAt_40 : decode cX12_unknownAt 40 = .ok (.iconst 0, 1) := by decide +kernel
theorem dX12_unknownAt_41 : decode cX12_unknownAt 41 = .ok (.invokevirtual 424, 3) := by decide +kernel
theorem dX12_unknownAt_44 : decode cX12_unknownAt 44 = .ok (.iconst (-1), 1) := by decide +kernel
theorem dX12_unknownAt_45 : decode cX12_unknownAt 45 = .ok (.if_icmp .eq 7, 3) := by decide +kernel
theorem dX12_unknownAt_48 : decode cX12_unknownAt 48 = .ok (.iconst 1, 1) := by decide +kernel
theorem dX12_unknownAt_49 : decode cX12_unknownAt 49 = .ok (.goto 4, 3) := by decide +kernel
theorem dX12_unknownAt_52 : decode cX12_unknownAt 52 = .ok (.iconst 0, 1) := by decide +kernel
theorem dX12_unknownAt_53 : decode cX12_unknownAt 53 = .ok (.istore 4, 2) := by decide +kernel
theorem dX12_unknownAt_55 : decode cX12_unknownAt 55 = .ok (.aload_n 0, 1) := by decide +kernel
theorem dX12_unknownAt_56 : decode cX12_unknownAt 56 = .ok (.getfield 33, 3) := by decide +kernel
theorem dX12_unknownAt_59 : decode cX12_unknownAt 59 = .ok (.iload_n 3, 1) := by decide +kernel
theorem dX12_unknownAt_60 : decode cX12_unknownAt 60 = .ok (.iaload, 1) := by decide +kernel
theorem dX12_unknownAt_61 : decode cX12_unknownAt 61 = .ok (.bipush 33, 2) := by decide +kernel
theorem dX12_unknownAt_63 : decode cX12_unknownAt 63 = .ok (.if_icmp .ne 29, 3) := by decide +kernel
theorem dX12_unknownAt_66 : decode cX12_unknownAt 66 = .ok (.aload_n 0, 1) := by decide +kernel
theorem dX12_unknownAt_67 : decode cX12_unknownAt 67 = .ok (.getfield 39, 3) := by decide +kernel
theorem dX12_unknownAt_70 : decode cX12_unknownAt 70 = .ok (.iload_n 3, 1) := by decide +kernel
theorem dX12_unknownAt_71 : decode cX12_unknownAt 71 = .ok (.iaload, 1) := by decide +kernel
theorem dX12_unknownAt_72 : decode cX12_unknownAt 72 = .ok (.aload_n 0, 1) := by decide +kernel
theorem dX12_unknownAt_73 : decode cX12_unknownAt 73 = .ok (.aload_n 0, 1) := by decide +kernel
theorem dX12_unknownAt_74 : decode cX12_unknownAt 74 = .ok (.getfield 36, 3) := by decide +kernel
theorem dX12_unknownAt_77 : decode cX12_unknownAt 77 = .ok (.iload_n 3, 1) := by decide +kernel
theorem dX12_unknownAt_78 : decode cX12_unknownAt 78 = .ok (.iaload, 1) := by decide +kernel
theorem dX12_unknownAt_79 : decode cX12_unknownAt 79 = .ok (.invokevirtual 428, 3) := by decide +kernel
theorem dX12_unknownAt_82 : decode cX12_unknownAt 82 = .ok (.if_icmp .ne 7, 3) := by decide +kernel
theorem dX12_unknownAt_85 : decode cX12_unknownAt 85 = .ok (.iconst 1, 1) := by decide +kernel
theorem dX12_unknownAt_86 : decode cX12_unknownAt 86 = .ok (.goto 4, 3) := by decide +kernel
theorem dX12_unknownAt_89 : decode cX12_unknownAt 89 = .ok (.iconst 0, 1) := by decide +kernel
theorem dX12_unknownAt_90 : decode cX12_unknownAt 90 = .ok (.istore 4, 2) := by decide +kernel
theorem dX12_unknownAt_92 : decode cX12_unknownAt 92 = .ok (.iload 4, 2) := by decide +kernel
theorem dX12_unknownAt_94 : decode cX12_unknownAt 94 = .ok (.ifCond .ne 25, 3) := by decide +kernel
theorem dX12_unknownAt_97 : decode cX12_unknownAt 97 = .ok (.iload_n 2, 1) := by decide +kernel
theorem dX12_unknownAt_98 : decode cX12_unknownAt 98 = .ok (.iconst (-1), 1) := by decide +kernel
theorem dX12_unknownAt_99 : decode cX12_unknownAt 99 = .ok (.if_icmp .eq 13, 3) := by decide +kernel
theorem dX12_unknownAt_102 : decode cX12_unknownAt 102 = .ok (.aload_n 0, 1) := by decide +kernel
theorem dX12_unknownAt_103 : decode cX12_unknownAt 103 = .ok (.getfield 42, 3) := by decide +kernel
theorem dX12_unknownAt_106 : decode cX12_unknownAt 106 = .ok (.iload_n 3, 1) := by decide +kernel
theorem dX12_unknownAt_107 : decode cX12_unknownAt 107 = .ok (.iaload, 1) := by decide +kernel
theorem dX12_unknownAt_108 : decode cX12_unknownAt 108 = .ok (.iload_n 2, 1) := by decide +kernel
theorem dX12_unknownAt_109 : decode cX12_unknownAt 109 = .ok (.if_icmp .ge 10, 3) := by decide +kernel
theorem dX12_unknownAt_112 : decode cX12_unknownAt 112 = .ok (.aload_n 0, 1) := by decide +kernel
theorem dX12_unknownAt_113 : decode cX12_unknownAt 113 = .ok (.getfield 42, 3) := by decide +kernel
theorem dX12_unknownAt_116 : decode cX12_unknownAt 116 = .ok (.iload_n 3, 1) := by decide +kernel
theorem dX12_unknownAt_117 : decode cX12_unknownAt 117 = .ok (.iaload, 1) := by decide +kernel
theorem dX12_unknownAt_118 : decode cX12_unknownAt 118 = .ok (.istore_n 2, 1) := by decide +kernel
theorem dX12_unknownAt_119 : decode cX12_unknownAt 119 = .ok (.iinc 3 1, 3) := by decide +kernel
theorem dX12_unknownAt_122 : decode cX12_unknownAt 122 = .ok (.goto (-113), 3) := by decide +kernel
theorem dX12_unknownAt_125 : decode cX12_unknownAt 125 = .ok (.iload_n 2, 1) := by decide +kernel
theorem dX12_unknownAt_126 : decode cX12_unknownAt 126 = .ok (.ireturn, 1) := by decide +kernel
theorem dX12_valuesOf_0 : decode cX12_valuesOf 0 = .ok (.iload_n 1, 1) := by decide +kernel
theorem dX12_valuesOf_1 : decode cX12_valuesOf 1 = .ok (.invokestatic 431, 3) := by decide +kernel
theorem dX12_valuesOf_4 : decode cX12_valuesOf 4 = .ok (.ifCond .le 19, 3) := by decide +kernel
theorem dX12_valuesOf_7 : decode cX12_valuesOf 7 = .ok (.iload_n 1, 1) := by decide +kernel
theorem dX12_valuesOf_8 : decode cX12_valuesOf 8 = .ok (.invokestatic 431, 3) := by decide +kernel
theorem dX12_valuesOf_11 : decode cX12_valuesOf 11 = .ok (.invokestatic 434, 3) := by decide +kernel
theorem dX12_valuesOf_14 : decode cX12_valuesOf 14 = .ok (.ifCond .eq 7, 3) := by decide +kernel
theorem dX12_valuesOf_17 : decode cX12_valuesOf 17 = .ok (.iconst 2, 1) := by decide +kernel
theorem dX12_valuesOf_18 : decode cX12_valuesOf 18 = .ok (.goto 4, 3) := by decide +kernel
theorem dX12_valuesOf_21 : decode cX12_valuesOf 21 = .ok (.iconst 1, 1) := by decide +kernel
theorem dX12_valuesOf_22 : decode cX12_valuesOf 22 = .ok (.ireturn, 1) := by decide +kernel
theorem dX12_valuesOf_23 : decode cX12_valuesOf 23 = .ok (.aload_n 0, 1) := by decide +kernel
theorem dX12_valuesOf_24 : decode cX12_valuesOf 24 = .ok (.iload_n 1, 1) := by decide +kernel
theorem dX12_valuesOf_25 : decode cX12_valuesOf 25 = .ok (.iconst 1, 1) := by decide +kernel
theorem dX12_valuesOf_26 : decode cX12_valuesOf 26 = .ok (.invokevirtual 424, 3) := by decide +kernel
theorem dX12_valuesOf_29 : decode cX12_valuesOf 29 = .ok (.istore_n 2, 1) := by decide +kernel
theorem dX12_valuesOf_30 : decode cX12_valuesOf 30 = .ok (.iload_n 2, 1) := by decide +kernel
theorem dX12_valuesOf_31 : decode cX12_valuesOf 31 = .ok (.iconst (-1), 1) := by decide +kernel
theorem dX12_valuesOf_32 : decode cX12_valuesOf 32 = .ok (.if_icmp .ne 7, 3) := by decide +kernel
theorem dX12_valuesOf_35 : decode cX12_valuesOf 35 = .ok (.iconst (-1), 1) := by decide +kernel
theorem dX12_valuesOf_36 : decode cX12_valuesOf 36 = .ok (.goto 14, 3) := by decide +kernel
theorem dX12_valuesOf_39 : decode cX12_valuesOf 39 = .ok (.aload_n 0, 1) := by decide +kernel
theorem dX12_valuesOf_40 : decode cX12_valuesOf 40 = .ok (.getfield 51, 3) := by decide +kernel
theorem dX12_valuesOf_43 : decode cX12_valuesOf 43 = .ok (.aload_n 0, 1) := by decide +kernel
theorem dX12_valuesOf_44 : decode cX12_valuesOf 44 = .ok (.getfield 72, 3) := by decide +kernel
theorem dX12_valuesOf_47 : decode cX12_valuesOf 47 = .ok (.iload_n 2, 1) := by decide +kernel
theorem dX12_valuesOf_48 : decode cX12_valuesOf 48 = .ok (.iaload, 1) := by decide +kernel
theorem dX12_valuesOf_49 : decode cX12_valuesOf 49 = .ok (.iaload, 1) := by decide +kernel
theorem dX12_valuesOf_50 : decode cX12_valuesOf 50 = .ok (.ireturn, 1) := by decide +kernel
theorem dX12_refuses_0 : decode cX12_refuses 0 = .ok (.aload_n 0, 1) := by decide +kernel
theorem dX12_refuses_1 : decode cX12_refuses 1 = .ok (.iload_n 1, 1) := by decide +kernel
theorem dX12_refuses_2 : decode cX12_refuses 2 = .ok (.putfield 82, 3) := by decide +kernel
theorem dX12_refuses_5 : decode cX12_refuses 5 = .ok (.aload_n 0, 1) := by decide +kernel
theorem dX12_refuses_6 : decode cX12_refuses 6 = .ok (.iload_n 2, 1) := by decide +kernel
theorem dX12_refuses_7 : decode cX12_refuses 7 = .ok (.putfield 85, 3) := by decide +kernel
theorem dX12_refuses_10 : decode cX12_refuses 10 = .ok (.aload_n 0, 1) := by decide +kernel
theorem dX12_refuses_11 : decode cX12_refuses 11 = .ok (.iconst (-1), 1) := by decide +kernel
theorem dX12_refuses_12 : decode cX12_refuses 12 = .ok (.putfield 88, 3) := by decide +kernel
theorem dX12_refuses_15 : decode cX12_refuses 15 = .ok (.aload_n 0, 1) := by decide +kernel
theorem dX12_refuses_16 : decode cX12_refuses 16 = .ok (.iconst 0, 1) := by decide +kernel
theorem dX12_refuses_17 : decode cX12_refuses 17 = .ok (.putfield 437, 3) := by decide +kernel
theorem dX12_refuses_20 : decode cX12_refuses 20 = .ok (.iconst 1, 1) := by decide +kernel
theorem dX12_refuses_21 : decode cX12_refuses 21 = .ok (.ireturn, 1) := by decide +kernel
theorem dX12_users_0 : decode cX12_users 0 = .ok (.iconst 0, 1) := by decide +kernel
theorem dX12_users_1 : decode cX12_users 1 = .ok (.istore_n 2, 1) := by decide +kernel
theorem dX12_users_2 : decode cX12_users 2 = .ok (.iconst 0, 1) := by decide +kernel
theorem dX12_users_3 : decode cX12_users 3 = .ok (.istore_n 3, 1) := by decide +kernel
theorem dX12_users_4 : decode cX12_users 4 = .ok (.iload_n 3, 1) := by decide +kernel
theorem dX12_users_5 : decode cX12_users 5 = .ok (.bipush 30, 2) := by decide +kernel
theorem dX12_users_7 : decode cX12_users 7 = .ok (.if_icmp .ge 39, 3) := by decide +kernel
theorem dX12_users_10 : decode cX12_users 10 = .ok (.iload_n 2, 1) := by decide +kernel
theorem dX12_users_11 : decode cX12_users 11 = .ok (.iload_n 3, 1) := by decide +kernel
theorem dX12_users_12 : decode cX12_users 12 = .ok (.iload_n 1, 1) := by decide +kernel
theorem dX12_users_13 : decode cX12_users 13 = .ok (.if_icmp .eq 24, 3) := by decide +kernel
theorem dX12_users_16 : decode cX12_users 16 = .ok (.aload_n 0, 1) := by decide +kernel
theorem dX12_users_17 : decode cX12_users 17 = .ok (.iload_n 3, 1) := by decide +kernel
theorem dX12_users_18 : decode cX12_users 18 = .ok (.invokevirtual 415, 3) := by decide +kernel
theorem dX12_users_21 : decode cX12_users 21 = .ok (.ifCond .eq 16, 3) := by decide +kernel
theorem dX12_users_24 : decode cX12_users 24 = .ok (.aload_n 0, 1) := by decide +kernel
theorem dX12_users_25 : decode cX12_users 25 = .ok (.iload_n 3, 1) := by decide +kernel
theorem dX12_users_26 : decode cX12_users 26 = .ok (.iload_n 1, 1) := by decide +kernel
theorem dX12_users_27 : decode cX12_users 27 = .ok (.invokevirtual 440, 3) := by decide +kernel
theorem dX12_users_30 : decode cX12_users 30 = .ok (.ifCond .eq 7, 3) := by decide +kernel
theorem dX12_users_33 : decode cX12_users 33 = .ok (.iconst 1, 1) := by decide +kernel
theorem dX12_users_34 : decode cX12_users 34 = .ok (.goto 4, 3) := by decide +kernel
theorem dX12_users_37 : decode cX12_users 37 = .ok (.iconst 0, 1) := by decide +kernel
theorem dX12_users_38 : decode cX12_users 38 = .ok (.iadd, 1) := by decide +kernel
theorem dX12_users_39 : decode cX12_users 39 = .ok (.istore_n 2, 1) := by decide +kernel
theorem dX12_users_40 : decode cX12_users 40 = .ok (.iinc 3 1, 3) := by decide +kernel
theorem dX12_users_43 : decode cX12_users 43 = .ok (.goto (-39), 3) := by decide +kernel
theorem dX12_users_46 : decode cX12_users 46 = .ok (.iload_n 2, 1) := by decide +kernel
theorem dX12_users_47 : decode cX12_users 47 = .ok (.ireturn, 1) := by decide +kernel
theorem dX12_leads_0 : decode cX12_leads 0 = .ok (.iconst (-1), 1) := by decide +kernel
theorem dX12_leads_1 : decode cX12_leads 1 = .ok (.istore_n 3, 1) := by decide +kernel
theorem dX12_leads_2 : decode cX12_leads 2 = .ok (.iconst 0, 1) := by decide +kernel
theorem dX12_leads_3 : decode cX12_leads 3 = .ok (.istore 4, 2) := by decide +kernel
theorem dX12_leads_5 : decode cX12_leads 5 = .ok (.iload 4, 2) := by decide +kernel
theorem dX12_leads_7 : decode cX12_leads 7 = .ok (.bipush 30, 2) := by decide +kernel
theorem dX12_leads_9 : decode cX12_leads 9 = .ok (.if_icmp .ge 115, 3) := by decide +kernel
theorem dX12_leads_12 : decode cX12_leads 12 = .ok (.aload_n 0, 1) := by decide +kernel
theorem dX12_leads_13 : decode cX12_leads 13 = .ok (.iload 4, 2) := by decide +kernel
theorem dX12_leads_15 : decode cX12_leads 15 = .ok (.invokevirtual 415, 3) := by decide +kernel
theorem dX12_leads_18 : decode cX12_leads 18 = .ok (.ifCond .eq 100, 3) := by decide +kernel
theorem dX12_leads_21 : decode cX12_leads 21 = .ok (.aload_n 0, 1) := by decide +kernel
theorem dX12_leads_22 : decode cX12_leads 22 = .ok (.iload_n 1, 1) := by decide +kernel
theorem dX12_leads_23 : decode cX12_leads 23 = .ok (.iload 4, 2) := by decide +kernel
theorem dX12_leads_25 : decode cX12_leads 25 = .ok (.invokevirtual 418, 3) := by decide +kernel
theorem dX12_leads_28 : decode cX12_leads 28 = .ok (.ifCond .eq 90, 3) := by decide +kernel
theorem dX12_leads_31 : decode cX12_leads 31 = .ok (.iload 4, 2) := by decide +kernel
theorem dX12_leads_33 : decode cX12_leads 33 = .ok (.iload_n 2, 1) := by decide +kernel
theorem dX12_leads_34 : decode cX12_leads 34 = .ok (.if_icmp .eq 16, 3) := by decide +kernel
theorem dX12_leads_37 : decode cX12_leads 37 = .ok (.aload_n 0, 1) := by decide +kernel
theorem dX12_leads_38 : decode cX12_leads 38 = .ok (.iload 4, 2) := by decide +kernel
theorem dX12_leads_40 : decode cX12_leads 40 = .ok (.iload_n 2, 1) := by decide +kernel
theorem dX12_leads_41 : decode cX12_leads 41 = .ok (.invokevirtual 440, 3) := by decide +kernel
theorem dX12_leads_44 : decode cX12_leads 44 = .ok (.ifCond .ne 6, 3) := by decide +kernel
theorem dX12_leads_47 : decode cX12_leads 47 = .ok (.goto 71, 3) := by decide +kernel
theorem dX12_leads_50 : decode cX12_leads 50 = .ok (.iload_n 3, 1) := by decide +kernel
theorem dX12_leads_51 : decode cX12_leads 51 = .ok (.iconst (-1), 1) := by decide +kernel
theorem dX12_leads_52 : decode cX12_leads 52 = .ok (.if_icmp .eq 51, 3) := by decide +kernel
theorem dX12_leads_55 : decode cX12_leads 55 = .ok (.iload 4, 2) := by decide +kernel
theorem dX12_leads_57 : decode cX12_leads 57 = .ok (.bipush 20, 2) := by decide +kernel
theorem dX12_leads_59 : decode cX12_leads 59 = .ok (.if_icmp .ge 7, 3) := by decide +kernel
theorem dX12_leads_62 : decode cX12_leads 62 = .ok (.iconst 1, 1) := by decide +kernel
theorem dX12_leads_63 : decode cX12_leads 63 = .ok (.goto 4, 3) := by decide +kernel
theorem dX12_leads_66 : decode cX12_leads 66 = .ok (.iconst 0, 1) := by decide +kernel
theorem dX12_leads_67 : decode cX12_leads 67 = .ok (.iload_n 3, 1) := by decide +kernel
theorem dX12_leads_68 : decode cX12_leads 68 = .ok (.bipush 20, 2) := by decide +kernel
theorem dX12_leads_70 : decode cX12_leads 70 = .ok (.if_icmp .ge 7, 3) := by decide +kernel
theorem dX12_leads_73 : decode cX12_leads 73 = .ok (.iconst 1, 1) := by decide +kernel
theorem dX12_leads_74 : decode cX12_leads 74 = .ok (.goto 4, 3) := by decide +kernel
theorem dX12_leads_77 : decode cX12_leads 77 = .ok (.iconst 0, 1) := by decide +kernel
theorem dX12_leads_78 : decode cX12_leads 78 = .ok (.if_icmp .ne 29, 3) := by decide +kernel
theorem dX12_leads_81 : decode cX12_leads 81 = .ok (.aload_n 0, 1) := by decide +kernel
theorem dX12_leads_82 : decode cX12_leads 82 = .ok (.getfield 69, 3) := by decide +kernel
theorem dX12_leads_85 : decode cX12_leads 85 = .ok (.iload 4, 2) := by decide +kernel
theorem dX12_leads_87 : decode cX12_leads 87 = .ok (.iaload, 1) := by decide +kernel
theorem dX12_leads_88 : decode cX12_leads 88 = .ok (.invokestatic 443, 3) := by decide +kernel
theorem dX12_leads_91 : decode cX12_leads 91 = .ok (.aload_n 0, 1) := by decide +kernel
theorem dX12_leads_92 : decode cX12_leads 92 = .ok (.getfield 69, 3) := by decide +kernel
theorem dX12_leads_95 : decode cX12_leads 95 = .ok (.iload_n 3, 1) := by decide +kernel
theorem dX12_leads_96 : decode cX12_leads 96 = .ok (.iaload, 1) := by decide +kernel
theorem dX12_leads_97 : decode cX12_leads 97 = .ok (.invokestatic 443, 3) := by decide +kernel
theorem dX12_leads_100 : decode cX12_leads 100 = .ok (.if_icmp .ge 7, 3) := by decide +kernel
theorem dX12_leads_103 : decode cX12_leads 103 = .ok (.iconst 1, 1) := by decide +kernel
theorem dX12_leads_104 : decode cX12_leads 104 = .ok (.goto 4, 3) := by decide +kernel
theorem dX12_leads_107 : decode cX12_leads 107 = .ok (.iconst 0, 1) := by decide +kernel
theorem dX12_leads_108 : decode cX12_leads 108 = .ok (.istore 5, 2) := by decide +kernel
theorem dX12_leads_110 : decode cX12_leads 110 = .ok (.iload 5, 2) := by decide +kernel
theorem dX12_leads_112 : decode cX12_leads 112 = .ok (.ifCond .eq 6, 3) := by decide +kernel
theorem dX12_leads_115 : decode cX12_leads 115 = .ok (.iload 4, 2) := by decide +kernel
theorem dX12_leads_117 : decode cX12_leads 117 = .ok (.istore_n 3, 1) := by decide +kernel
theorem dX12_leads_118 : decode cX12_leads 118 = .ok (.iinc 4 1, 3) := by decide +kernel
theorem dX12_leads_121 : decode cX12_leads 121 = .ok (.goto (-116), 3) := by decide +kernel
theorem dX12_leads_124 : decode cX12_leads 124 = .ok (.iload_n 3, 1) := by decide +kernel
theorem dX12_leads_125 : decode cX12_leads 125 = .ok (.ireturn, 1) := by decide +kernel
theorem dX12_isRefused_0 : decode cX12_isRefused 0 = .ok (.aload_n 0, 1) := by decide +kernel
theorem dX12_isRefused_1 : decode cX12_isRefused 1 = .ok (.iload_n 1, 1) := by decide +kernel
theorem dX12_isRefused_2 : decode cX12_isRefused 2 = .ok (.invokevirtual 446, 3) := by decide +kernel
theorem dX12_isRefused_5 : decode cX12_isRefused 5 = .ok (.iconst (-1), 1) := by decide +kernel
theorem dX12_isRefused_6 : decode cX12_isRefused 6 = .ok (.if_icmp .eq 14, 3) := by decide +kernel
theorem dX12_isRefused_9 : decode cX12_isRefused 9 = .ok (.aload_n 0, 1) := by decide +kernel
theorem dX12_isRefused_10 : decode cX12_isRefused 10 = .ok (.iconst 1, 1) := by decide +kernel
theorem dX12_isRefused_11 : decode cX12_isRefused 11 = .ok (.aload_n 0, 1) := by decide +kernel
theorem dX12_isRefused_12 : decode cX12_isRefused 12 = .ok (.iload_n 1, 1) := by decide +kernel
theorem dX12_isRefused_13 : decode cX12_isRefused 13 = .ok (.invokevirtual 446, 3) := by decide +kernel
theorem dX12_isRefused_16 : decode cX12_isRefused 16 = .ok (.invokevirtual 449, 3) := by decide +kernel
theorem dX12_isRefused_19 : decode cX12_isRefused 19 = .ok (.ireturn, 1) := by decide +kernel
theorem dX12_isRefused_20 : decode cX12_isRefused 20 = .ok (.aload_n 0, 1) := by decide +kernel
theorem dX12_isRefused_21 : decode cX12_isRefused 21 = .ok (.getfield 371, 3) := by decide +kernel
theorem dX12_isRefused_24 : decode cX12_isRefused 24 = .ok (.ifCond .ne 5, 3) := by decide +kernel
theorem dX12_isRefused_27 : decode cX12_isRefused 27 = .ok (.iconst 0, 1) := by decide +kernel
theorem dX12_isRefused_28 : decode cX12_isRefused 28 = .ok (.ireturn, 1) := by decide +kernel
theorem dX12_isRefused_29 : decode cX12_isRefused 29 = .ok (.aload_n 0, 1) := by decide +kernel
theorem dX12_isRefused_30 : decode cX12_isRefused 30 = .ok (.aload_n 0, 1) := by decide +kernel
theorem dX12_isRefused_31 : decode cX12_isRefused 31 = .ok (.getfield 362, 3) := by decide +kernel
theorem dX12_isRefused_34 : decode cX12_isRefused 34 = .ok (.aload_n 0, 1) := by decide +kernel
theorem dX12_isRefused_35 : decode cX12_isRefused 35 = .ok (.getfield 371, 3) := by decide +kernel
theorem dX12_isRefused_38 : decode cX12_isRefused 38 = .ok (.iconst 2, 1) := by decide +kernel
theorem dX12_isRefused_39 : decode cX12_isRefused 39 = .ok (.if_icmp .ne 7, 3) := by decide +kernel
theorem dX12_isRefused_42 : decode cX12_isRefused 42 = .ok (.iconst 1, 1) := by decide +kernel
theorem dX12_isRefused_43 : decode cX12_isRefused 43 = .ok (.goto 4, 3) := by decide +kernel
theorem dX12_isRefused_46 : decode cX12_isRefused 46 = .ok (.iconst 0, 1) := by decide +kernel
theorem dX12_isRefused_47 : decode cX12_isRefused 47 = .ok (.invokevirtual 424, 3) := by decide +kernel
theorem dX12_isRefused_50 : decode cX12_isRefused 50 = .ok (.istore_n 2, 1) := by decide +kernel
theorem dX12_isRefused_51 : decode cX12_isRefused 51 = .ok (.iload_n 2, 1) := by decide +kernel
theorem dX12_isRefused_52 : decode cX12_isRefused 52 = .ok (.iconst (-1), 1) := by decide +kernel
theorem dX12_isRefused_53 : decode cX12_isRefused 53 = .ok (.if_icmp .eq 41, 3) := by decide +kernel
theorem dX12_isRefused_56 : decode cX12_isRefused 56 = .ok (.aload_n 0, 1) := by decide +kernel
theorem dX12_isRefused_57 : decode cX12_isRefused 57 = .ok (.getfield 371, 3) := by decide +kernel
theorem dX12_isRefused_60 : decode cX12_isRefused 60 = .ok (.iconst 2, 1) := by decide +kernel
theorem dX12_isRefused_61 : decode cX12_isRefused 61 = .ok (.if_icmp .ne 33, 3) := by decide +kernel
theorem dX12_isRefused_64 : decode cX12_isRefused 64 = .ok (.aload_n 0, 1) := by decide +kernel
theorem dX12_isRefused_65 : decode cX12_isRefused 65 = .ok (.getfield 51, 3) := by decide +kernel
theorem dX12_isRefused_68 : decode cX12_isRefused 68 = .ok (.aload_n 0, 1) := by decide +kernel
theorem dX12_isRefused_69 : decode cX12_isRefused 69 = .ok (.getfield 72, 3) := by decide +kernel
theorem dX12_isRefused_72 : decode cX12_isRefused 72 = .ok (.iload_n 2, 1) := by decide +kernel
theorem dX12_isRefused_73 : decode cX12_isRefused 73 = .ok (.iaload, 1) := by decide +kernel
theorem dX12_isRefused_74 : decode cX12_isRefused 74 = .ok (.iaload, 1) := by decide +kernel
theorem dX12_isRefused_75 : decode cX12_isRefused 75 = .ok (.aload_n 0, 1) := by decide +kernel
theorem dX12_isRefused_76 : decode cX12_isRefused 76 = .ok (.getfield 368, 3) := by decide +kernel
theorem dX12_isRefused_79 : decode cX12_isRefused 79 = .ok (.if_icmp .eq 15, 3) := by decide +kernel
theorem dX12_isRefused_82 : decode cX12_isRefused 82 = .ok (.aload_n 0, 1) := by decide +kernel
theorem dX12_isRefused_83 : decode cX12_isRefused 83 = .ok (.iload_n 2, 1) := by decide +kernel
theorem dX12_isRefused_84 : decode cX12_isRefused 84 = .ok (.invokevirtual 452, 3) := by decide +kernel
theorem dX12_isRefused_87 : decode cX12_isRefused 87 = .ok (.ifCond .le 7, 3) := by decide +kernel
theorem dX12_isRefused_90 : decode cX12_isRefused 90 = .ok (.iconst 1, 1) := by decide +kernel
theorem dX12_isRefused_91 : decode cX12_isRefused 91 = .ok (.goto 4, 3) := by decide +kernel
theorem dX12_isRefused_94 : decode cX12_isRefused 94 = .ok (.iconst 0, 1) := by decide +kernel
theorem dX12_isRefused_95 : decode cX12_isRefused 95 = .ok (.istore_n 3, 1) := by decide +kernel
theorem dX12_isRefused_96 : decode cX12_isRefused 96 = .ok (.aload_n 0, 1) := by decide +kernel
theorem dX12_isRefused_97 : decode cX12_isRefused 97 = .ok (.getfield 362, 3) := by decide +kernel
theorem dX12_isRefused_100 : decode cX12_isRefused 100 = .ok (.invokestatic 431, 3) := by decide +kernel
theorem dX12_isRefused_103 : decode cX12_isRefused 103 = .ok (.ifCond .gt 7, 3) := by decide +kernel
theorem dX12_isRefused_106 : decode cX12_isRefused 106 = .ok (.iload_n 3, 1) := by decide +kernel
theorem dX12_isRefused_107 : decode cX12_isRefused 107 = .ok (.ifCond .eq 13, 3) := by decide +kernel
theorem dX12_isRefused_110 : decode cX12_isRefused 110 = .ok (.aload_n 0, 1) := by decide +kernel
theorem dX12_isRefused_111 : decode cX12_isRefused 111 = .ok (.iconst 2, 1) := by decide +kernel
theorem dX12_isRefused_112 : decode cX12_isRefused 112 = .ok (.aload_n 0, 1) := by decide +kernel
theorem dX12_isRefused_113 : decode cX12_isRefused 113 = .ok (.getfield 365, 3) := by decide +kernel
theorem dX12_isRefused_116 : decode cX12_isRefused 116 = .ok (.invokevirtual 449, 3) := by decide +kernel
theorem dX12_isRefused_119 : decode cX12_isRefused 119 = .ok (.ireturn, 1) := by decide +kernel
theorem dX12_isRefused_120 : decode cX12_isRefused 120 = .ok (.iload_n 2, 1) := by decide +kernel
theorem dX12_isRefused_121 : decode cX12_isRefused 121 = .ok (.iconst (-1), 1) := by decide +kernel
theorem dX12_isRefused_122 : decode cX12_isRefused 122 = .ok (.if_icmp .ne 50, 3) := by decide +kernel
theorem dX12_isRefused_125 : decode cX12_isRefused 125 = .ok (.aload_n 0, 1) := by decide +kernel
theorem dX12_isRefused_126 : decode cX12_isRefused 126 = .ok (.getfield 371, 3) := by decide +kernel
theorem dX12_isRefused_129 : decode cX12_isRefused 129 = .ok (.iconst 1, 1) := by decide +kernel
theorem dX12_isRefused_130 : decode cX12_isRefused 130 = .ok (.if_icmp .ne 15, 3) := by decide +kernel
theorem dX12_isRefused_133 : decode cX12_isRefused 133 = .ok (.aload_n 0, 1) := by decide +kernel
theorem dX12_isRefused_134 : decode cX12_isRefused 134 = .ok (.getfield 411, 3) := by decide +kernel
theorem dX12_isRefused_137 : decode cX12_isRefused 137 = .ok (.bipush 20, 2) := by decide +kernel
theorem dX12_isRefused_139 : decode cX12_isRefused 139 = .ok (.if_icmp .ne 31, 3) := by decide +kernel
theorem dX12_isRefused_142 : decode cX12_isRefused 142 = .ok (.goto 12, 3) := by decide +kernel
theorem dX12_isRefused_145 : decode cX12_isRefused 145 = .ok (.aload_n 0, 1) := by decide +kernel
theorem dX12_isRefused_146 : decode cX12_isRefused 146 = .ok (.getfield 408, 3) := by decide +kernel
theorem dX12_isRefused_149 : decode cX12_isRefused 149 = .ok (.bipush 10, 2) := by decide +kernel
theorem dX12_isRefused_151 : decode cX12_isRefused 151 = .ok (.if_icmp .ne 19, 3) := by decide +kernel
theorem dX12_isRefused_154 : decode cX12_isRefused 154 = .ok (.aload_n 0, 1) := by decide +kernel
theorem dX12_isRefused_155 : decode cX12_isRefused 155 = .ok (.iconst 3, 1) := by decide +kernel
theorem dX12_isRefused_156 : decode cX12_isRefused 156 = .ok (.aload_n 0, 1) := by decide +kernel
theorem dX12_isRefused_157 : decode cX12_isRefused 157 = .ok (.getfield 365, 3) := by decide +kernel
theorem dX12_isRefused_160 : decode cX12_isRefused 160 = .ok (.invokevirtual 449, 3) := by decide +kernel
theorem dX12_isRefused_163 : decode cX12_isRefused 163 = .ok (.ifCond .eq 7, 3) := by decide +kernel
theorem dX12_isRefused_166 : decode cX12_isRefused 166 = .ok (.iconst 1, 1) := by decide +kernel
theorem dX12_isRefused_167 : decode cX12_isRefused 167 = .ok (.goto 4, 3) := by decide +kernel
theorem dX12_isRefused_170 : decode cX12_isRefused 170 = .ok (.iconst 0, 1) := by decide +kernel
theorem dX12_isRefused_171 : decode cX12_isRefused 171 = .ok (.ireturn, 1) := by decide +kernel
theorem dX12_isRefused_172 : decode cX12_isRefused 172 = .ok (.aload_n 0, 1) := by decide +kernel
theorem dX12_isRefused_173 : decode cX12_isRefused 173 = .ok (.iload_n 1, 1) := by decide +kernel
theorem dX12_isRefused_174 : decode cX12_isRefused 174 = .ok (.invokevirtual 421, 3) := by decide +kernel
theorem dX12_isRefused_177 : decode cX12_isRefused 177 = .ok (.aload_n 0, 1) := by decide +kernel
theorem dX12_isRefused_178 : decode cX12_isRefused 178 = .ok (.getfield 78, 3) := by decide +kernel
theorem dX12_isRefused_181 : decode cX12_isRefused 181 = .ok (.iload_n 2, 1) := by decide +kernel
theorem dX12_isRefused_182 : decode cX12_isRefused 182 = .ok (.baload, 1) := by decide +kernel
theorem dX12_isRefused_183 : decode cX12_isRefused 183 = .ok (.ifCond .ne 5, 3) := by decide +kernel
theorem dX12_isRefused_186 : decode cX12_isRefused 186 = .ok (.iconst 0, 1) := by decide +kernel
theorem dX12_isRefused_187 : decode cX12_isRefused 187 = .ok (.ireturn, 1) := by decide +kernel
theorem dX12_isRefused_188 : decode cX12_isRefused 188 = .ok (.aload_n 0, 1) := by decide +kernel
theorem dX12_isRefused_189 : decode cX12_isRefused 189 = .ok (.iconst 4, 1) := by decide +kernel
theorem dX12_isRefused_190 : decode cX12_isRefused 190 = .ok (.aload_n 0, 1) := by decide +kernel
theorem dX12_isRefused_191 : decode cX12_isRefused 191 = .ok (.getfield 365, 3) := by decide +kernel
theorem dX12_isRefused_194 : decode cX12_isRefused 194 = .ok (.invokevirtual 449, 3) := by decide +kernel
theorem dX12_isRefused_197 : decode cX12_isRefused 197 = .ok (.istore 4, 2) := by decide +kernel
theorem dX12_isRefused_199 : decode cX12_isRefused 199 = .ok (.iconst (-1), 1) := by decide +kernel
theorem dX12_isRefused_200 : decode cX12_isRefused 200 = .ok (.istore 5, 2) := by decide +kernel
theorem dX12_isRefused_202 : decode cX12_isRefused 202 = .ok (.iload_n 1, 1) := by decide +kernel
theorem dX12_isRefused_203 : decode cX12_isRefused 203 = .ok (.istore 6, 2) := by decide +kernel
theorem dX12_isRefused_205 : decode cX12_isRefused 205 = .ok (.iload 5, 2) := by decide +kernel
theorem dX12_isRefused_207 : decode cX12_isRefused 207 = .ok (.iload_n 2, 1) := by decide +kernel
theorem dX12_isRefused_208 : decode cX12_isRefused 208 = .ok (.if_icmp .eq 83, 3) := by decide +kernel
theorem dX12_isRefused_211 : decode cX12_isRefused 211 = .ok (.iload 5, 2) := by decide +kernel
theorem dX12_isRefused_213 : decode cX12_isRefused 213 = .ok (.iconst (-1), 1) := by decide +kernel
theorem dX12_isRefused_214 : decode cX12_isRefused 214 = .ok (.if_icmp .ne 7, 3) := by decide +kernel
theorem dX12_isRefused_217 : decode cX12_isRefused 217 = .ok (.iload_n 2, 1) := by decide +kernel
theorem dX12_isRefused_218 : decode cX12_isRefused 218 = .ok (.goto 5, 3) := by decide +kernel
theorem dX12_isRefused_221 : decode cX12_isRefused 221 = .ok (.iload 5, 2) := by decide +kernel
theorem dX12_isRefused_223 : decode cX12_isRefused 223 = .ok (.istore 7, 2) := by decide +kernel
theorem dX12_isRefused_225 : decode cX12_isRefused 225 = .ok (.aload_n 0, 1) := by decide +kernel
theorem dX12_isRefused_226 : decode cX12_isRefused 226 = .ok (.getfield 130, 3) := by decide +kernel
theorem dX12_isRefused_229 : decode cX12_isRefused 229 = .ok (.aload_n 0, 1) := by decide +kernel
theorem dX12_isRefused_230 : decode cX12_isRefused 230 = .ok (.getfield 437, 3) := by decide +kernel
theorem dX12_isRefused_233 : decode cX12_isRefused 233 = .ok (.iload 7, 2) := by decide +kernel
theorem dX12_isRefused_235 : decode cX12_isRefused 235 = .ok (.bipush 20, 2) := by decide +kernel
theorem dX12_isRefused_237 : decode cX12_isRefused 237 = .ok (.if_icmp .ge 13, 3) := by decide +kernel
theorem dX12_isRefused_240 : decode cX12_isRefused 240 = .ok (.aload_n 0, 1) := by decide +kernel
theorem dX12_isRefused_241 : decode cX12_isRefused 241 = .ok (.getfield 69, 3) := by decide +kernel
theorem dX12_isRefused_244 : decode cX12_isRefused 244 = .ok (.iload 7, 2) := by decide +kernel
theorem dX12_isRefused_246 : decode cX12_isRefused 246 = .ok (.iaload, 1) := by decide +kernel
theorem dX12_isRefused_247 : decode cX12_isRefused 247 = .ok (.goto 12, 3) := by decide +kernel
theorem dX12_isRefused_250 : decode cX12_isRefused 250 = .ok (.iconst 0, 1) := by decide +kernel
theorem dX12_isRefused_251 : decode cX12_isRefused 251 = .ok (.aload_n 0, 1) := by decide +kernel
theorem dX12_isRefused_252 : decode cX12_isRefused 252 = .ok (.getfield 69, 3) := by decide +kernel
theorem dX12_isRefused_255 : decode cX12_isRefused 255 = .ok (.iload 7, 2) := by decide +kernel
theorem dX12_isRefused_257 : decode cX12_isRefused 257 = .ok (.iaload, 1) := by decide +kernel
theorem dX12_isRefused_258 : decode cX12_isRefused 258 = .ok (.isub, 1) := by decide +kernel
theorem dX12_isRefused_259 : decode cX12_isRefused 259 = .ok (.iastore, 1) := by decide +kernel
theorem dX12_isRefused_260 : decode cX12_isRefused 260 = .ok (.aload_n 0, 1) := by decide +kernel
theorem dX12_isRefused_261 : decode cX12_isRefused 261 = .ok (.dup, 1) := by decide +kernel
theorem dX12_isRefused_262 : decode cX12_isRefused 262 = .ok (.getfield 437, 3) := by decide +kernel
theorem dX12_isRefused_265 : decode cX12_isRefused 265 = .ok (.iconst 1, 1) := by decide +kernel
theorem dX12_isRefused_266 : decode cX12_isRefused 266 = .ok (.iadd, 1) := by decide +kernel
theorem dX12_isRefused_267 : decode cX12_isRefused 267 = .ok (.putfield 437, 3) := by decide +kernel
theorem dX12_isRefused_270 : decode cX12_isRefused 270 = .ok (.aload_n 0, 1) := by decide +kernel
theorem dX12_isRefused_271 : decode cX12_isRefused 271 = .ok (.iload 6, 2) := by decide +kernel
theorem dX12_isRefused_273 : decode cX12_isRefused 273 = .ok (.iload_n 2, 1) := by decide +kernel
theorem dX12_isRefused_274 : decode cX12_isRefused 274 = .ok (.invokevirtual 455, 3) := by decide +kernel
theorem dX12_isRefused_277 : decode cX12_isRefused 277 = .ok (.istore 5, 2) := by decide +kernel
theorem dX12_isRefused_279 : decode cX12_isRefused 279 = .ok (.aload_n 0, 1) := by decide +kernel
theorem dX12_isRefused_280 : decode cX12_isRefused 280 = .ok (.getfield 72, 3) := by decide +kernel
theorem dX12_isRefused_283 : decode cX12_isRefused 283 = .ok (.iload 5, 2) := by decide +kernel
theorem dX12_isRefused_285 : decode cX12_isRefused 285 = .ok (.iaload, 1) := by decide +kernel
theorem dX12_isRefused_286 : decode cX12_isRefused 286 = .ok (.istore 6, 2) := by decide +kernel
theorem dX12_isRefused_288 : decode cX12_isRefused 288 = .ok (.goto (-83), 3) := by decide +kernel
theorem dX12_isRefused_291 : decode cX12_isRefused 291 = .ok (.iload 4, 2) := by decide +kernel
theorem dX12_isRefused_293 : decode cX12_isRefused 293 = .ok (.ireturn, 1) := by decide +kernel
theorem dX12_worked_0 : decode cX12_worked 0 = .ok (.iconst 0, 1) := by decide +kernel
theorem dX12_worked_1 : decode cX12_worked 1 = .ok (.istore_n 2, 1) := by decide +kernel
theorem dX12_worked_2 : decode cX12_worked 2 = .ok (.iconst 0, 1) := by decide +kernel
theorem dX12_worked_3 : decode cX12_worked 3 = .ok (.istore_n 3, 1) := by decide +kernel
theorem dX12_worked_4 : decode cX12_worked 4 = .ok (.aload_n 0, 1) := by decide +kernel
theorem dX12_worked_5 : decode cX12_worked 5 = .ok (.getfield 45, 3) := by decide +kernel
theorem dX12_worked_8 : decode cX12_worked 8 = .ok (.iload_n 1, 1) := by decide +kernel
theorem dX12_worked_9 : decode cX12_worked 9 = .ok (.iaload, 1) := by decide +kernel
theorem dX12_worked_10 : decode cX12_worked 10 = .ok (.istore 4, 2) := by decide +kernel
theorem dX12_worked_12 : decode cX12_worked 12 = .ok (.aload_n 0, 1) := by decide +kernel
theorem dX12_worked_13 : decode cX12_worked 13 = .ok (.getfield 48, 3) := by decide +kernel
theorem dX12_worked_16 : decode cX12_worked 16 = .ok (.iload_n 1, 1) := by decide +kernel
theorem dX12_worked_17 : decode cX12_worked 17 = .ok (.iaload, 1) := by decide +kernel
theorem dX12_worked_18 : decode cX12_worked 18 = .ok (.istore 5, 2) := by decide +kernel
theorem dX12_worked_20 : decode cX12_worked 20 = .ok (.aload_n 0, 1) := by decide +kernel
theorem dX12_worked_21 : decode cX12_worked 21 = .ok (.iconst 0, 1) := by decide +kernel
theorem dX12_worked_22 : decode cX12_worked 22 = .ok (.putfield 458, 3) := by decide +kernel
theorem dX12_worked_25 : decode cX12_worked 25 = .ok (.iload 4, 2) := by decide +kernel
theorem dX12_worked_27 : decode cX12_worked 27 = .ok (.iload 5, 2) := by decide +kernel
theorem dX12_worked_29 : decode cX12_worked 29 = .ok (.if_icmp .lt 7, 3) := by decide +kernel
theorem dX12_worked_32 : decode cX12_worked 32 = .ok (.iload_n 3, 1) := by decide +kernel
theorem dX12_worked_33 : decode cX12_worked 33 = .ok (.ifCond .le 444, 3) := by decide +kernel
theorem dX12_worked_36 : decode cX12_worked 36 = .ok (.iload 4, 2) := by decide +kernel
theorem dX12_worked_38 : decode cX12_worked 38 = .ok (.iload 5, 2) := by decide +kernel
theorem dX12_worked_40 : decode cX12_worked 40 = .ok (.if_icmp .ne 108, 3) := by decide +kernel
theorem dX12_worked_43 : decode cX12_worked 43 = .ok (.iinc 3 (-1), 3) := by decide +kernel
theorem dX12_worked_46 : decode cX12_worked 46 = .ok (.aload_n 0, 1) := by decide +kernel
theorem dX12_worked_47 : decode cX12_worked 47 = .ok (.getfield 91, 3) := by decide +kernel
theorem dX12_worked_50 : decode cX12_worked 50 = .ok (.iload_n 2, 1) := by decide +kernel
theorem dX12_worked_51 : decode cX12_worked 51 = .ok (.iconst 1, 1) := by decide +kernel
theorem dX12_worked_52 : decode cX12_worked 52 = .ok (.isub, 1) := by decide +kernel
theorem dX12_worked_53 : decode cX12_worked 53 = .ok (.iaload, 1) := by decide +kernel
theorem dX12_worked_54 : decode cX12_worked 54 = .ok (.istore 6, 2) := by decide +kernel
theorem dX12_worked_56 : decode cX12_worked 56 = .ok (.aload_n 0, 1) := by decide +kernel
theorem dX12_worked_57 : decode cX12_worked 57 = .ok (.getfield 458, 3) := by decide +kernel
theorem dX12_worked_60 : decode cX12_worked 60 = .ok (.sipush 200, 3) := by decide +kernel
theorem dX12_worked_63 : decode cX12_worked 63 = .ok (.if_icmp .ne 16, 3) := by decide +kernel
theorem dX12_worked_66 : decode cX12_worked 66 = .ok (.aload_n 0, 1) := by decide +kernel
theorem dX12_worked_67 : decode cX12_worked 67 = .ok (.bipush 8, 2) := by decide +kernel
theorem dX12_worked_69 : decode cX12_worked 69 = .ok (.aload_n 0, 1) := by decide +kernel
theorem dX12_worked_70 : decode cX12_worked 70 = .ok (.getfield 112, 3) := by decide +kernel
theorem dX12_worked_73 : decode cX12_worked 73 = .ok (.iload_n 3, 1) := by decide +kernel
theorem dX12_worked_74 : decode cX12_worked 74 = .ok (.iaload, 1) := by decide +kernel
theorem dX12_worked_75 : decode cX12_worked 75 = .ok (.invokevirtual 461, 3) := by decide +kernel
theorem dX12_worked_78 : decode cX12_worked 78 = .ok (.ireturn, 1) := by decide +kernel
theorem dX12_worked_79 : decode cX12_worked 79 = .ok (.aload_n 0, 1) := by decide +kernel
theorem dX12_worked_80 : decode cX12_worked 80 = .ok (.getfield 94, 3) := by decide +kernel
theorem dX12_worked_83 : decode cX12_worked 83 = .ok (.aload_n 0, 1) := by decide +kernel
theorem dX12_worked_84 : decode cX12_worked 84 = .ok (.getfield 458, 3) := by decide +kernel
theorem dX12_worked_87 : decode cX12_worked 87 = .ok (.bipush 9, 2) := by decide +kernel
theorem dX12_worked_89 : decode cX12_worked 89 = .ok (.iastore, 1) := by decide +kernel
theorem dX12_worked_90 : decode cX12_worked 90 = .ok (.aload_n 0, 1) := by decide +kernel
theorem dX12_worked_91 : decode cX12_worked 91 = .ok (.getfield 97, 3) := by decide +kernel
theorem dX12_worked_94 : decode cX12_worked 94 = .ok (.aload_n 0, 1) := by decide +kernel
theorem dX12_worked_95 : decode cX12_worked 95 = .ok (.getfield 458, 3) := by decide +kernel
theorem dX12_worked_98 : decode cX12_worked 98 = .ok (.iload 6, 2) := by decide +kernel
theorem dX12_worked_100 : decode cX12_worked 100 = .ok (.iastore, 1) := by decide +kernel
theorem dX12_worked_101 : decode cX12_worked 101 = .ok (.aload_n 0, 1) := by decide +kernel
theorem dX12_worked_102 : decode cX12_worked 102 = .ok (.dup, 1) := by decide +kernel
theorem dX12_worked_103 : decode cX12_worked 103 = .ok (.getfield 458, 3) := by decide +kernel
theorem dX12_worked_106 : decode cX12_worked 106 = .ok (.iconst 1, 1) := by decide +kernel
theorem dX12_worked_107 : decode cX12_worked 107 = .ok (.iadd, 1) := by decide +kernel
theorem dX12_worked_108 : decode cX12_worked 108 = .ok (.putfield 458, 3) := by decide +kernel
theorem dX12_worked_111 : decode cX12_worked 111 = .ok (.aload_n 0, 1) := by decide +kernel
theorem dX12_worked_112 : decode cX12_worked 112 = .ok (.getfield 109, 3) := by decide +kernel
theorem dX12_worked_115 : decode cX12_worked 115 = .ok (.iload_n 3, 1) := by decide +kernel
theorem dX12_worked_116 : decode cX12_worked 116 = .ok (.iaload, 1) := by decide +kernel
theorem dX12_worked_117 : decode cX12_worked 117 = .ok (.istore_n 2, 1) := by decide +kernel
theorem dX12_worked_118 : decode cX12_worked 118 = .ok (.aload_n 0, 1) := by decide +kernel
theorem dX12_worked_119 : decode cX12_worked 119 = .ok (.getfield 91, 3) := by decide +kernel
theorem dX12_worked_122 : decode cX12_worked 122 = .ok (.iload_n 2, 1) := by decide +kernel
theorem dX12_worked_123 : decode cX12_worked 123 = .ok (.iload 6, 2) := by decide +kernel
theorem dX12_worked_125 : decode cX12_worked 125 = .ok (.iastore, 1) := by decide +kernel
theorem dX12_worked_126 : decode cX12_worked 126 = .ok (.iinc 2 1, 3) := by decide +kernel
theorem dX12_worked_129 : decode cX12_worked 129 = .ok (.aload_n 0, 1) := by decide +kernel
theorem dX12_worked_130 : decode cX12_worked 130 = .ok (.getfield 103, 3) := by decide +kernel
theorem dX12_worked_133 : decode cX12_worked 133 = .ok (.iload_n 3, 1) := by decide +kernel
theorem dX12_worked_134 : decode cX12_worked 134 = .ok (.iaload, 1) := by decide +kernel
theorem dX12_worked_135 : decode cX12_worked 135 = .ok (.istore 4, 2) := by decide +kernel
theorem dX12_worked_137 : decode cX12_worked 137 = .ok (.aload_n 0, 1) := by decide +kernel
theorem dX12_worked_138 : decode cX12_worked 138 = .ok (.getfield 106, 3) := by decide +kernel
theorem dX12_worked_141 : decode cX12_worked 141 = .ok (.iload_n 3, 1) := by decide +kernel
theorem dX12_worked_142 : decode cX12_worked 142 = .ok (.iaload, 1) := by decide +kernel
theorem dX12_worked_143 : decode cX12_worked 143 = .ok (.istore 5, 2) := by decide +kernel
theorem dX12_worked_145 : decode cX12_worked 145 = .ok (.goto (-120), 3) := by decide +kernel
theorem dX12_worked_148 : decode cX12_worked 148 = .ok (.aload_n 0, 1) := by decide +kernel
theorem dX12_worked_149 : decode cX12_worked 149 = .ok (.getfield 33, 3) := by decide +kernel
theorem dX12_worked_152 : decode cX12_worked 152 = .ok (.iload 4, 2) := by decide +kernel
theorem dX12_worked_154 : decode cX12_worked 154 = .ok (.iaload, 1) := by decide +kernel
theorem dX12_worked_155 : decode cX12_worked 155 = .ok (.istore 6, 2) := by decide +kernel
theorem dX12_worked_157 : decode cX12_worked 157 = .ok (.iload_n 3, 1) := by decide +kernel
theorem dX12_worked_158 : decode cX12_worked 158 = .ok (.ifCond .le 12, 3) := by decide +kernel
theorem dX12_worked_161 : decode cX12_worked 161 = .ok (.aload_n 0, 1) := by decide +kernel
theorem dX12_worked_162 : decode cX12_worked 162 = .ok (.getfield 112, 3) := by decide +kernel
theorem dX12_worked_165 : decode cX12_worked 165 = .ok (.iconst 0, 1) := by decide +kernel
theorem dX12_worked_166 : decode cX12_worked 166 = .ok (.iaload, 1) := by decide +kernel
theorem dX12_worked_167 : decode cX12_worked 167 = .ok (.goto 10, 3) := by decide +kernel
theorem dX12_worked_170 : decode cX12_worked 170 = .ok (.aload_n 0, 1) := by decide +kernel
theorem dX12_worked_171 : decode cX12_worked 171 = .ok (.getfield 42, 3) := by decide +kernel
theorem dX12_worked_174 : decode cX12_worked 174 = .ok (.iload 4, 2) := by decide +kernel
theorem dX12_worked_176 : decode cX12_worked 176 = .ok (.iaload, 1) := by decide +kernel
theorem dX12_worked_177 : decode cX12_worked 177 = .ok (.istore 7, 2) := by decide +kernel
theorem dX12_worked_179 : decode cX12_worked 179 = .ok (.iload 6, 2) := by decide +kernel
theorem dX12_worked_181 : decode cX12_worked 181 = .ok (.bipush 33, 2) := by decide +kernel
theorem dX12_worked_183 : decode cX12_worked 183 = .ok (.if_icmp .ne 100, 3) := by decide +kernel
theorem dX12_worked_186 : decode cX12_worked 186 = .ok (.aload_n 0, 1) := by decide +kernel
theorem dX12_worked_187 : decode cX12_worked 187 = .ok (.getfield 36, 3) := by decide +kernel
theorem dX12_worked_190 : decode cX12_worked 190 = .ok (.iload 4, 2) := by decide +kernel
theorem dX12_worked_192 : decode cX12_worked 192 = .ok (.iaload, 1) := by decide +kernel
theorem dX12_worked_193 : decode cX12_worked 193 = .ok (.invokestatic 431, 3) := by decide +kernel
theorem dX12_worked_196 : decode cX12_worked 196 = .ok (.ifCond .ne 87, 3) := by decide +kernel
theorem dX12_worked_199 : decode cX12_worked 199 = .ok (.aload_n 0, 1) := by decide +kernel
theorem dX12_worked_200 : decode cX12_worked 200 = .ok (.getfield 112, 3) := by decide +kernel
theorem dX12_worked_203 : decode cX12_worked 203 = .ok (.iload_n 3, 1) := by decide +kernel
theorem dX12_worked_204 : decode cX12_worked 204 = .ok (.iload 7, 2) := by decide +kernel
theorem dX12_worked_206 : decode cX12_worked 206 = .ok (.iastore, 1) := by decide +kernel
theorem dX12_worked_207 : decode cX12_worked 207 = .ok (.aload_n 0, 1) := by decide +kernel
theorem dX12_worked_208 : decode cX12_worked 208 = .ok (.getfield 103, 3) := by decide +kernel
theorem dX12_worked_211 : decode cX12_worked 211 = .ok (.iload_n 3, 1) := by decide +kernel
theorem dX12_worked_212 : decode cX12_worked 212 = .ok (.iload 4, 2) := by decide +kernel
theorem dX12_worked_214 : decode cX12_worked 214 = .ok (.iconst 1, 1) := by decide +kernel
theorem dX12_worked_215 : decode cX12_worked 215 = .ok (.iadd, 1) := by decide +kernel
theorem dX12_worked_216 : decode cX12_worked 216 = .ok (.iastore, 1) := by decide +kernel
theorem dX12_worked_217 : decode cX12_worked 217 = .ok (.aload_n 0, 1) := by decide +kernel
theorem dX12_worked_218 : decode cX12_worked 218 = .ok (.getfield 106, 3) := by decide +kernel
theorem dX12_worked_221 : decode cX12_worked 221 = .ok (.iload_n 3, 1) := by decide +kernel
theorem dX12_worked_222 : decode cX12_worked 222 = .ok (.iload 5, 2) := by decide +kernel
theorem dX12_worked_224 : decode cX12_worked 224 = .ok (.iastore, 1) := by decide +kernel
theorem dX12_worked_225 : decode cX12_worked 225 = .ok (.aload_n 0, 1) := by decide +kernel
theorem dX12_worked_226 : decode cX12_worked 226 = .ok (.getfield 109, 3) := by decide +kernel
theorem dX12_worked_229 : decode cX12_worked 229 = .ok (.iload_n 3, 1) := by decide +kernel
theorem dX12_worked_230 : decode cX12_worked 230 = .ok (.iload_n 2, 1) := by decide +kernel
theorem dX12_worked_231 : decode cX12_worked 231 = .ok (.aload_n 0, 1) := by decide +kernel
theorem dX12_worked_232 : decode cX12_worked 232 = .ok (.getfield 39, 3) := by decide +kernel
theorem dX12_worked_235 : decode cX12_worked 235 = .ok (.iload 4, 2) := by decide +kernel
theorem dX12_worked_237 : decode cX12_worked 237 = .ok (.iaload, 1) := by decide +kernel
theorem dX12_worked_238 : decode cX12_worked 238 = .ok (.isub, 1) := by decide +kernel
theorem dX12_worked_239 : decode cX12_worked 239 = .ok (.iastore, 1) := by decide +kernel
theorem dX12_worked_240 : decode cX12_worked 240 = .ok (.aload_n 0, 1) := by decide +kernel
theorem dX12_worked_241 : decode cX12_worked 241 = .ok (.getfield 72, 3) := by decide +kernel
theorem dX12_worked_244 : decode cX12_worked 244 = .ok (.aload_n 0, 1) := by decide +kernel
theorem dX12_worked_245 : decode cX12_worked 245 = .ok (.aload_n 0, 1) := by decide +kernel
theorem dX12_worked_246 : decode cX12_worked 246 = .ok (.getfield 36, 3) := by decide +kernel
theorem dX12_worked_249 : decode cX12_worked 249 = .ok (.iload 4, 2) := by decide +kernel
theorem dX12_worked_251 : decode cX12_worked 251 = .ok (.iaload, 1) := by decide +kernel
theorem dX12_worked_252 : decode cX12_worked 252 = .ok (.iconst 1, 1) := by decide +kernel
theorem dX12_worked_253 : decode cX12_worked 253 = .ok (.invokevirtual 424, 3) := by decide +kernel
theorem dX12_worked_256 : decode cX12_worked 256 = .ok (.iaload, 1) := by decide +kernel
theorem dX12_worked_257 : decode cX12_worked 257 = .ok (.istore 8, 2) := by decide +kernel
theorem dX12_worked_259 : decode cX12_worked 259 = .ok (.iinc 3 1, 3) := by decide +kernel
theorem dX12_worked_262 : decode cX12_worked 262 = .ok (.aload_n 0, 1) := by decide +kernel
theorem dX12_worked_263 : decode cX12_worked 263 = .ok (.getfield 45, 3) := by decide +kernel
theorem dX12_worked_266 : decode cX12_worked 266 = .ok (.iload 8, 2) := by decide +kernel
theorem dX12_worked_268 : decode cX12_worked 268 = .ok (.iaload, 1) := by decide +kernel
theorem dX12_worked_269 : decode cX12_worked 269 = .ok (.istore 4, 2) := by decide +kernel
theorem dX12_worked_271 : decode cX12_worked 271 = .ok (.aload_n 0, 1) := by decide +kernel
theorem dX12_worked_272 : decode cX12_worked 272 = .ok (.getfield 48, 3) := by decide +kernel
theorem dX12_worked_275 : decode cX12_worked 275 = .ok (.iload 8, 2) := by decide +kernel
theorem dX12_worked_277 : decode cX12_worked 277 = .ok (.iaload, 1) := by decide +kernel
theorem dX12_worked_278 : decode cX12_worked 278 = .ok (.istore 5, 2) := by decide +kernel
theorem dX12_worked_280 : decode cX12_worked 280 = .ok (.goto (-255), 3) := by decide +kernel
theorem dX12_worked_283 : decode cX12_worked 283 = .ok (.iload 6, 2) := by decide +kernel
theorem dX12_worked_285 : decode cX12_worked 285 = .ok (.bipush 30, 2) := by decide +kernel
theorem dX12_worked_287 : decode cX12_worked 287 = .ok (.if_icmp .eq 17, 3) := by decide +kernel
theorem dX12_worked_290 : decode cX12_worked 290 = .ok (.iload 6, 2) := by decide +kernel
theorem dX12_worked_292 : decode cX12_worked 292 = .ok (.bipush 31, 2) := by decide +kernel
theorem dX12_worked_294 : decode cX12_worked 294 = .ok (.if_icmp .eq 10, 3) := by decide +kernel
theorem dX12_worked_297 : decode cX12_worked 297 = .ok (.iload 6, 2) := by decide +kernel
theorem dX12_worked_299 : decode cX12_worked 299 = .ok (.bipush 32, 2) := by decide +kernel
theorem dX12_worked_301 : decode cX12_worked 301 = .ok (.if_icmp .ne 80, 3) := by decide +kernel
theorem dX12_worked_304 : decode cX12_worked 304 = .ok (.aload_n 0, 1) := by decide +kernel
theorem dX12_worked_305 : decode cX12_worked 305 = .ok (.getfield 91, 3) := by decide +kernel
theorem dX12_worked_308 : decode cX12_worked 308 = .ok (.iload_n 2, 1) := by decide +kernel
theorem dX12_worked_309 : decode cX12_worked 309 = .ok (.iload 6, 2) := by decide +kernel
theorem dX12_worked_311 : decode cX12_worked 311 = .ok (.bipush 30, 2) := by decide +kernel
theorem dX12_worked_313 : decode cX12_worked 313 = .ok (.if_icmp .ne 13, 3) := by decide +kernel
theorem dX12_worked_316 : decode cX12_worked 316 = .ok (.aload_n 0, 1) := by decide +kernel
theorem dX12_worked_317 : decode cX12_worked 317 = .ok (.getfield 36, 3) := by decide +kernel
theorem dX12_worked_320 : decode cX12_worked 320 = .ok (.iload 4, 2) := by decide +kernel
theorem dX12_worked_322 : decode cX12_worked 322 = .ok (.iaload, 1) := by decide +kernel
theorem dX12_worked_323 : decode cX12_worked 323 = .ok (.goto 51, 3) := by decide +kernel
theorem dX12_worked_326 : decode cX12_worked 326 = .ok (.iload 6, 2) := by decide +kernel
theorem dX12_worked_328 : decode cX12_worked 328 = .ok (.bipush 31, 2) := by decide +kernel
theorem dX12_worked_330 : decode cX12_worked 330 = .ok (.if_icmp .ne 23, 3) := by decide +kernel
theorem dX12_worked_333 : decode cX12_worked 333 = .ok (.aload_n 0, 1) := by decide +kernel
theorem dX12_worked_334 : decode cX12_worked 334 = .ok (.getfield 75, 3) := by decide +kernel
theorem dX12_worked_337 : decode cX12_worked 337 = .ok (.aload_n 0, 1) := by decide +kernel
theorem dX12_worked_338 : decode cX12_worked 338 = .ok (.aload_n 0, 1) := by decide +kernel
theorem dX12_worked_339 : decode cX12_worked 339 = .ok (.getfield 36, 3) := by decide +kernel
theorem dX12_worked_342 : decode cX12_worked 342 = .ok (.iload 4, 2) := by decide +kernel
theorem dX12_worked_344 : decode cX12_worked 344 = .ok (.iaload, 1) := by decide +kernel
theorem dX12_worked_345 : decode cX12_worked 345 = .ok (.iconst 0, 1) := by decide +kernel
theorem dX12_worked_346 : decode cX12_worked 346 = .ok (.invokevirtual 424, 3) := by decide +kernel
theorem dX12_worked_349 : decode cX12_worked 349 = .ok (.iaload, 1) := by decide +kernel
theorem dX12_worked_350 : decode cX12_worked 350 = .ok (.goto 24, 3) := by decide +kernel
theorem dX12_worked_353 : decode cX12_worked 353 = .ok (.aload_n 0, 1) := by decide +kernel
theorem dX12_worked_354 : decode cX12_worked 354 = .ok (.getfield 91, 3) := by decide +kernel
theorem dX12_worked_357 : decode cX12_worked 357 = .ok (.aload_n 0, 1) := by decide +kernel
theorem dX12_worked_358 : decode cX12_worked 358 = .ok (.getfield 109, 3) := by decide +kernel
theorem dX12_worked_361 : decode cX12_worked 361 = .ok (.iload_n 3, 1) := by decide +kernel
theorem dX12_worked_362 : decode cX12_worked 362 = .ok (.iconst 1, 1) := by decide +kernel
theorem dX12_worked_363 : decode cX12_worked 363 = .ok (.isub, 1) := by decide +kernel
theorem dX12_worked_364 : decode cX12_worked 364 = .ok (.iaload, 1) := by decide +kernel
theorem dX12_worked_365 : decode cX12_worked 365 = .ok (.aload_n 0, 1) := by decide +kernel
theorem dX12_worked_366 : decode cX12_worked 366 = .ok (.getfield 36, 3) := by decide +kernel
theorem dX12_worked_369 : decode cX12_worked 369 = .ok (.iload 4, 2) := by decide +kernel
theorem dX12_worked_371 : decode cX12_worked 371 = .ok (.iaload, 1) := by decide +kernel
theorem dX12_worked_372 : decode cX12_worked 372 = .ok (.iadd, 1) := by decide +kernel
theorem dX12_worked_373 : decode cX12_worked 373 = .ok (.iaload, 1) := by decide +kernel
theorem dX12_worked_374 : decode cX12_worked 374 = .ok (.iastore, 1) := by decide +kernel
theorem dX12_worked_375 : decode cX12_worked 375 = .ok (.iinc 2 1, 3) := by decide +kernel
theorem dX12_worked_378 : decode cX12_worked 378 = .ok (.goto 93, 3) := by decide +kernel
theorem dX12_worked_381 : decode cX12_worked 381 = .ok (.iload 6, 2) := by decide +kernel
theorem dX12_worked_383 : decode cX12_worked 383 = .ok (.bipush 33, 2) := by decide +kernel
theorem dX12_worked_385 : decode cX12_worked 385 = .ok (.if_icmp .ne 16, 3) := by decide +kernel
theorem dX12_worked_388 : decode cX12_worked 388 = .ok (.aload_n 0, 1) := by decide +kernel
theorem dX12_worked_389 : decode cX12_worked 389 = .ok (.getfield 36, 3) := by decide +kernel
theorem dX12_worked_392 : decode cX12_worked 392 = .ok (.iload 4, 2) := by decide +kernel
theorem dX12_worked_394 : decode cX12_worked 394 = .ok (.iaload, 1) := by decide +kernel
theorem dX12_worked_395 : decode cX12_worked 395 = .ok (.invokestatic 431, 3) := by decide +kernel
theorem dX12_worked_398 : decode cX12_worked 398 = .ok (.goto 5, 3) := by decide +kernel
theorem dX12_worked_401 : decode cX12_worked 401 = .ok (.iload 6, 2) := by decide +kernel
theorem dX12_worked_403 : decode cX12_worked 403 = .ok (.istore 8, 2) := by decide +kernel
theorem dX12_worked_405 : decode cX12_worked 405 = .ok (.iload 8, 2) := by decide +kernel
theorem dX12_worked_407 : decode cX12_worked 407 = .ok (.invokestatic 434, 3) := by decide +kernel
theorem dX12_worked_410 : decode cX12_worked 410 = .ok (.ifCond .eq 7, 3) := by decide +kernel
theorem dX12_worked_413 : decode cX12_worked 413 = .ok (.iconst 2, 1) := by decide +kernel
theorem dX12_worked_414 : decode cX12_worked 414 = .ok (.goto 4, 3) := by decide +kernel
theorem dX12_worked_417 : decode cX12_worked 417 = .ok (.iconst 1, 1) := by decide +kernel
theorem dX12_worked_418 : decode cX12_worked 418 = .ok (.istore 9, 2) := by decide +kernel
theorem dX12_worked_420 : decode cX12_worked 420 = .ok (.aload_n 0, 1) := by decide +kernel
theorem dX12_worked_421 : decode cX12_worked 421 = .ok (.iload 8, 2) := by decide +kernel
theorem dX12_worked_423 : decode cX12_worked 423 = .ok (.aload_n 0, 1) := by decide +kernel
theorem dX12_worked_424 : decode cX12_worked 424 = .ok (.getfield 91, 3) := by decide +kernel
theorem dX12_worked_427 : decode cX12_worked 427 = .ok (.iload_n 2, 1) := by decide +kernel
theorem dX12_worked_428 : decode cX12_worked 428 = .ok (.iload 9, 2) := by decide +kernel
theorem dX12_worked_430 : decode cX12_worked 430 = .ok (.isub, 1) := by decide +kernel
theorem dX12_worked_431 : decode cX12_worked 431 = .ok (.iaload, 1) := by decide +kernel
theorem dX12_worked_432 : decode cX12_worked 432 = .ok (.aload_n 0, 1) := by decide +kernel
theorem dX12_worked_433 : decode cX12_worked 433 = .ok (.getfield 91, 3) := by decide +kernel
theorem dX12_worked_436 : decode cX12_worked 436 = .ok (.iload_n 2, 1) := by decide +kernel
theorem dX12_worked_437 : decode cX12_worked 437 = .ok (.iconst 1, 1) := by decide +kernel
theorem dX12_worked_438 : decode cX12_worked 438 = .ok (.isub, 1) := by decide +kernel
theorem dX12_worked_439 : decode cX12_worked 439 = .ok (.iaload, 1) := by decide +kernel
theorem dX12_worked_440 : decode cX12_worked 440 = .ok (.iload 7, 2) := by decide +kernel
theorem dX12_worked_442 : decode cX12_worked 442 = .ok (.invokevirtual 464, 3) := by decide +kernel
theorem dX12_worked_445 : decode cX12_worked 445 = .ok (.istore 10, 2) := by decide +kernel
theorem dX12_worked_447 : decode cX12_worked 447 = .ok (.iload 10, 2) := by decide +kernel
theorem dX12_worked_449 : decode cX12_worked 449 = .ok (.iconst (-1), 1) := by decide +kernel
theorem dX12_worked_450 : decode cX12_worked 450 = .ok (.if_icmp .ne 5, 3) := by decide +kernel
theorem dX12_worked_453 : decode cX12_worked 453 = .ok (.iconst (-1), 1) := by decide +kernel
theorem dX12_worked_454 : decode cX12_worked 454 = .ok (.ireturn, 1) := by decide +kernel
theorem dX12_worked_455 : decode cX12_worked 455 = .ok (.iload_n 2, 1) := by decide +kernel
theorem dX12_worked_456 : decode cX12_worked 456 = .ok (.iload 9, 2) := by decide +kernel
theorem dX12_worked_458 : decode cX12_worked 458 = .ok (.isub, 1) := by decide +kernel
theorem dX12_worked_459 : decode cX12_worked 459 = .ok (.istore_n 2, 1) := by decide +kernel
theorem dX12_worked_460 : decode cX12_worked 460 = .ok (.aload_n 0, 1) := by decide +kernel
theorem dX12_worked_461 : decode cX12_worked 461 = .ok (.getfield 91, 3) := by decide +kernel
theorem dX12_worked_464 : decode cX12_worked 464 = .ok (.iload_n 2, 1) := by decide +kernel
theorem dX12_worked_465 : decode cX12_worked 465 = .ok (.iload 10, 2) := by decide +kernel
theorem dX12_worked_467 : decode cX12_worked 467 = .ok (.iastore, 1) := by decide +kernel
theorem dX12_worked_468 : decode cX12_worked 468 = .ok (.iinc 2 1, 3) := by decide +kernel
theorem dX12_worked_471 : decode cX12_worked 471 = .ok (.iinc 4 1, 3) := by decide +kernel
theorem dX12_worked_474 : decode cX12_worked 474 = .ok (.goto (-449), 3) := by decide +kernel
theorem dX12_worked_477 : decode cX12_worked 477 = .ok (.aload_n 0, 1) := by decide +kernel
theorem dX12_worked_478 : decode cX12_worked 478 = .ok (.getfield 91, 3) := by decide +kernel
theorem dX12_worked_481 : decode cX12_worked 481 = .ok (.iconst 0, 1) := by decide +kernel
theorem dX12_worked_482 : decode cX12_worked 482 = .ok (.iaload, 1) := by decide +kernel
theorem dX12_worked_483 : decode cX12_worked 483 = .ok (.ireturn, 1) := by decide +kernel
theorem dX12_refusedStep_0 : decode cX12_refusedStep 0 = .ok (.aload_n 0, 1) := by decide +kernel
theorem dX12_refusedStep_1 : decode cX12_refusedStep 1 = .ok (.iload_n 1, 1) := by decide +kernel
theorem dX12_refusedStep_2 : decode cX12_refusedStep 2 = .ok (.iload_n 2, 1) := by decide +kernel
theorem dX12_refusedStep_3 : decode cX12_refusedStep 3 = .ok (.invokevirtual 449, 3) := by decide +kernel
theorem dX12_refusedStep_6 : decode cX12_refusedStep 6 = .ok (.istore_n 3, 1) := by decide +kernel
theorem dX12_refusedStep_7 : decode cX12_refusedStep 7 = .ok (.iconst (-1), 1) := by decide +kernel
theorem dX12_refusedStep_8 : decode cX12_refusedStep 8 = .ok (.ireturn, 1) := by decide +kernel
theorem dX12_does_0 : decode cX12_does 0 = .ok (.aload_n 0, 1) := by decide +kernel
theorem dX12_does_1 : decode cX12_does 1 = .ok (.getfield 458, 3) := by decide +kernel
theorem dX12_does_4 : decode cX12_does 4 = .ok (.sipush 200, 3) := by decide +kernel
theorem dX12_does_7 : decode cX12_does 7 = .ok (.if_icmp .ne 12, 3) := by decide +kernel
theorem dX12_does_10 : decode cX12_does 10 = .ok (.aload_n 0, 1) := by decide +kernel
theorem dX12_does_11 : decode cX12_does 11 = .ok (.bipush 8, 2) := by decide +kernel
theorem dX12_does_13 : decode cX12_does 13 = .ok (.iload 4, 2) := by decide +kernel
theorem dX12_does_15 : decode cX12_does 15 = .ok (.invokevirtual 461, 3) := by decide +kernel
theorem dX12_does_18 : decode cX12_does 18 = .ok (.ireturn, 1) := by decide +kernel
theorem dX12_does_19 : decode cX12_does 19 = .ok (.aload_n 0, 1) := by decide +kernel
theorem dX12_does_20 : decode cX12_does 20 = .ok (.iload_n 1, 1) := by decide +kernel
theorem dX12_does_21 : decode cX12_does 21 = .ok (.iload_n 2, 1) := by decide +kernel
theorem dX12_does_22 : decode cX12_does 22 = .ok (.iload_n 3, 1) := by decide +kernel
theorem dX12_does_23 : decode cX12_does 23 = .ok (.invokevirtual 468, 3) := by decide +kernel
theorem dX12_does_26 : decode cX12_does 26 = .ok (.istore 5, 2) := by decide +kernel
theorem dX12_does_28 : decode cX12_does 28 = .ok (.iload 5, 2) := by decide +kernel
theorem dX12_does_30 : decode cX12_does 30 = .ok (.ifCond .eq 12, 3) := by decide +kernel
theorem dX12_does_33 : decode cX12_does 33 = .ok (.aload_n 0, 1) := by decide +kernel
theorem dX12_does_34 : decode cX12_does 34 = .ok (.iload 5, 2) := by decide +kernel
theorem dX12_does_36 : decode cX12_does 36 = .ok (.iload 4, 2) := by decide +kernel
theorem dX12_does_38 : decode cX12_does 38 = .ok (.invokevirtual 461, 3) := by decide +kernel
theorem dX12_does_41 : decode cX12_does 41 = .ok (.ireturn, 1) := by decide +kernel
theorem dX12_does_42 : decode cX12_does 42 = .ok (.aload_n 0, 1) := by decide +kernel
theorem dX12_does_43 : decode cX12_does 43 = .ok (.iload_n 1, 1) := by decide +kernel
theorem dX12_does_44 : decode cX12_does 44 = .ok (.iload_n 2, 1) := by decide +kernel
theorem dX12_does_45 : decode cX12_does 45 = .ok (.iload_n 3, 1) := by decide +kernel
theorem dX12_does_46 : decode cX12_does 46 = .ok (.invokevirtual 470, 3) := by decide +kernel
theorem dX12_does_49 : decode cX12_does 49 = .ok (.istore 6, 2) := by decide +kernel
theorem dX12_does_51 : decode cX12_does 51 = .ok (.aload_n 0, 1) := by decide +kernel
theorem dX12_does_52 : decode cX12_does 52 = .ok (.iconst 0, 1) := by decide +kernel
theorem dX12_does_53 : decode cX12_does 53 = .ok (.aload_n 0, 1) := by decide +kernel
theorem dX12_does_54 : decode cX12_does 54 = .ok (.getfield 458, 3) := by decide +kernel
theorem dX12_does_57 : decode cX12_does 57 = .ok (.iadd, 1) := by decide +kernel
theorem dX12_does_58 : decode cX12_does 58 = .ok (.iload 6, 2) := by decide +kernel
theorem dX12_does_60 : decode cX12_does 60 = .ok (.invokevirtual 224, 3) := by decide +kernel
theorem dX12_does_63 : decode cX12_does 63 = .ok (.ifCond .ne 12, 3) := by decide +kernel
theorem dX12_does_66 : decode cX12_does 66 = .ok (.aload_n 0, 1) := by decide +kernel
theorem dX12_does_67 : decode cX12_does 67 = .ok (.bipush 7, 2) := by decide +kernel
theorem dX12_does_69 : decode cX12_does 69 = .ok (.iload 4, 2) := by decide +kernel
theorem dX12_does_71 : decode cX12_does 71 = .ok (.invokevirtual 461, 3) := by decide +kernel
theorem dX12_does_74 : decode cX12_does 74 = .ok (.ireturn, 1) := by decide +kernel
theorem dX12_does_75 : decode cX12_does 75 = .ok (.aload_n 0, 1) := by decide +kernel
theorem dX12_does_76 : decode cX12_does 76 = .ok (.getfield 94, 3) := by decide +kernel
theorem dX12_does_79 : decode cX12_does 79 = .ok (.aload_n 0, 1) := by decide +kernel
theorem dX12_does_80 : decode cX12_does 80 = .ok (.getfield 458, 3) := by decide +kernel
theorem dX12_does_83 : decode cX12_does 83 = .ok (.iload_n 1, 1) := by decide +kernel
theorem dX12_does_84 : decode cX12_does 84 = .ok (.iastore, 1) := by decide +kernel
theorem dX12_does_85 : decode cX12_does 85 = .ok (.aload_n 0, 1) := by decide +kernel
theorem dX12_does_86 : decode cX12_does 86 = .ok (.getfield 97, 3) := by decide +kernel
theorem dX12_does_89 : decode cX12_does 89 = .ok (.aload_n 0, 1) := by decide +kernel
theorem dX12_does_90 : decode cX12_does 90 = .ok (.getfield 458, 3) := by decide +kernel
theorem dX12_does_93 : decode cX12_does 93 = .ok (.iconst 0, 1) := by decide +kernel
theorem dX12_does_94 : decode cX12_does 94 = .ok (.aload_n 0, 1) := by decide +kernel
theorem dX12_does_95 : decode cX12_does 95 = .ok (.getfield 458, 3) := by decide +kernel
theorem dX12_does_98 : decode cX12_does 98 = .ok (.iadd, 1) := by decide +kernel
theorem dX12_does_99 : decode cX12_does 99 = .ok (.iastore, 1) := by decide +kernel
theorem dX12_does_100 : decode cX12_does 100 = .ok (.aload_n 0, 1) := by decide +kernel
theorem dX12_does_101 : decode cX12_does 101 = .ok (.dup, 1) := by decide +kernel
theorem dX12_does_102 : decode cX12_does 102 = .ok (.getfield 458, 3) := by decide +kernel
theorem dX12_does_105 : decode cX12_does 105 = .ok (.iconst 1, 1) := by decide +kernel
theorem dX12_does_106 : decode cX12_does 106 = .ok (.iadd, 1) := by decide +kernel
theorem dX12_does_107 : decode cX12_does 107 = .ok (.putfield 458, 3) := by decide +kernel
theorem dX12_does_110 : decode cX12_does 110 = .ok (.iconst 0, 1) := by decide +kernel
theorem dX12_does_111 : decode cX12_does 111 = .ok (.aload_n 0, 1) := by decide +kernel
theorem dX12_does_112 : decode cX12_does 112 = .ok (.getfield 458, 3) := by decide +kernel
theorem dX12_does_115 : decode cX12_does 115 = .ok (.iadd, 1) := by decide +kernel
theorem dX12_does_116 : decode cX12_does 116 = .ok (.iconst 1, 1) := by decide +kernel
theorem dX12_does_117 : decode cX12_does 117 = .ok (.isub, 1) := by decide +kernel
theorem dX12_does_118 : decode cX12_does 118 = .ok (.ireturn, 1) := by decide +kernel
theorem dX12_remembers_0 : decode cX12_remembers 0 = .ok (.iconst 0, 1) := by decide +kernel
theorem dX12_remembers_1 : decode cX12_remembers 1 = .ok (.istore_n 1, 1) := by decide +kernel
theorem dX12_remembers_2 : decode cX12_remembers 2 = .ok (.iload_n 1, 1) := by decide +kernel
theorem dX12_remembers_3 : decode cX12_remembers 3 = .ok (.bipush 30, 2) := by decide +kernel
theorem dX12_remembers_5 : decode cX12_remembers 5 = .ok (.if_icmp .ge 45, 3) := by decide +kernel
theorem dX12_remembers_8 : decode cX12_remembers 8 = .ok (.aload_n 0, 1) := by decide +kernel
theorem dX12_remembers_9 : decode cX12_remembers 9 = .ok (.getfield 115, 3) := by decide +kernel
theorem dX12_remembers_12 : decode cX12_remembers 12 = .ok (.iload_n 1, 1) := by decide +kernel
theorem dX12_remembers_13 : decode cX12_remembers 13 = .ok (.aload_n 0, 1) := by decide +kernel
theorem dX12_remembers_14 : decode cX12_remembers 14 = .ok (.getfield 69, 3) := by decide +kernel
theorem dX12_remembers_17 : decode cX12_remembers 17 = .ok (.iload_n 1, 1) := by decide +kernel
theorem dX12_remembers_18 : decode cX12_remembers 18 = .ok (.iaload, 1) := by decide +kernel
theorem dX12_remembers_19 : decode cX12_remembers 19 = .ok (.iastore, 1) := by decide +kernel
theorem dX12_remembers_20 : decode cX12_remembers 20 = .ok (.aload_n 0, 1) := by decide +kernel
theorem dX12_remembers_21 : decode cX12_remembers 21 = .ok (.getfield 118, 3) := by decide +kernel
theorem dX12_remembers_24 : decode cX12_remembers 24 = .ok (.iload_n 1, 1) := by decide +kernel
theorem dX12_remembers_25 : decode cX12_remembers 25 = .ok (.aload_n 0, 1) := by decide +kernel
theorem dX12_remembers_26 : decode cX12_remembers 26 = .ok (.getfield 72, 3) := by decide +kernel
theorem dX12_remembers_29 : decode cX12_remembers 29 = .ok (.iload_n 1, 1) := by decide +kernel
theorem dX12_remembers_30 : decode cX12_remembers 30 = .ok (.iaload, 1) := by decide +kernel
theorem dX12_remembers_31 : decode cX12_remembers 31 = .ok (.iastore, 1) := by decide +kernel
theorem dX12_remembers_32 : decode cX12_remembers 32 = .ok (.aload_n 0, 1) := by decide +kernel
theorem dX12_remembers_33 : decode cX12_remembers 33 = .ok (.getfield 121, 3) := by decide +kernel
theorem dX12_remembers_36 : decode cX12_remembers 36 = .ok (.iload_n 1, 1) := by decide +kernel
theorem dX12_remembers_37 : decode cX12_remembers 37 = .ok (.aload_n 0, 1) := by decide +kernel
theorem dX12_remembers_38 : decode cX12_remembers 38 = .ok (.getfield 75, 3) := by decide +kernel
theorem dX12_remembers_41 : decode cX12_remembers 41 = .ok (.iload_n 1, 1) := by decide +kernel
theorem dX12_remembers_42 : decode cX12_remembers 42 = .ok (.iaload, 1) := by decide +kernel
theorem dX12_remembers_43 : decode cX12_remembers 43 = .ok (.iastore, 1) := by decide +kernel
theorem dX12_remembers_44 : decode cX12_remembers 44 = .ok (.iinc 1 1, 3) := by decide +kernel
theorem dX12_remembers_47 : decode cX12_remembers 47 = .ok (.goto (-45), 3) := by decide +kernel
theorem dX12_remembers_50 : decode cX12_remembers 50 = .ok (.aload_n 0, 1) := by decide +kernel
theorem dX12_remembers_51 : decode cX12_remembers 51 = .ok (.aload_n 0, 1) := by decide +kernel
theorem dX12_remembers_52 : decode cX12_remembers 52 = .ok (.getfield 411, 3) := by decide +kernel
theorem dX12_remembers_55 : decode cX12_remembers 55 = .ok (.putfield 473, 3) := by decide +kernel
theorem dX12_remembers_58 : decode cX12_remembers 58 = .ok (.aload_n 0, 1) := by decide +kernel
theorem dX12_remembers_59 : decode cX12_remembers 59 = .ok (.aload_n 0, 1) := by decide +kernel
theorem dX12_remembers_60 : decode cX12_remembers 60 = .ok (.getfield 408, 3) := by decide +kernel
theorem dX12_remembers_63 : decode cX12_remembers 63 = .ok (.putfield 476, 3) := by decide +kernel
theorem dX12_remembers_66 : decode cX12_remembers 66 = .ok (.return_, 1) := by decide +kernel
theorem dX12_recalls_0 : decode cX12_recalls 0 = .ok (.iconst 0, 1) := by decide +kernel
theorem dX12_recalls_1 : decode cX12_recalls 1 = .ok (.istore_n 1, 1) := by decide +kernel
theorem dX12_recalls_2 : decode cX12_recalls 2 = .ok (.iload_n 1, 1) := by decide +kernel
theorem dX12_recalls_3 : decode cX12_recalls 3 = .ok (.bipush 30, 2) := by decide +kernel
theorem dX12_recalls_5 : decode cX12_recalls 5 = .ok (.if_icmp .ge 45, 3) := by decide +kernel
theorem dX12_recalls_8 : decode cX12_recalls 8 = .ok (.aload_n 0, 1) := by decide +kernel
theorem dX12_recalls_9 : decode cX12_recalls 9 = .ok (.getfield 69, 3) := by decide +kernel
theorem dX12_recalls_12 : decode cX12_recalls 12 = .ok (.iload_n 1, 1) := by decide +kernel
theorem dX12_recalls_13 : decode cX12_recalls 13 = .ok (.aload_n 0, 1) := by decide +kernel
theorem dX12_recalls_14 : decode cX12_recalls 14 = .ok (.getfield 115, 3) := by decide +kernel
theorem dX12_recalls_17 : decode cX12_recalls 17 = .ok (.iload_n 1, 1) := by decide +kernel
theorem dX12_recalls_18 : decode cX12_recalls 18 = .ok (.iaload, 1) := by decide +kernel
theorem dX12_recalls_19 : decode cX12_recalls 19 = .ok (.iastore, 1) := by decide +kernel
theorem dX12_recalls_20 : decode cX12_recalls 20 = .ok (.aload_n 0, 1) := by decide +kernel
theorem dX12_recalls_21 : decode cX12_recalls 21 = .ok (.getfield 72, 3) := by decide +kernel
theorem dX12_recalls_24 : decode cX12_recalls 24 = .ok (.iload_n 1, 1) := by decide +kernel
theorem dX12_recalls_25 : decode cX12_recalls 25 = .ok (.aload_n 0, 1) := by decide +kernel
theorem dX12_recalls_26 : decode cX12_recalls 26 = .ok (.getfield 118, 3) := by decide +kernel
theorem dX12_recalls_29 : decode cX12_recalls 29 = .ok (.iload_n 1, 1) := by decide +kernel
theorem dX12_recalls_30 : decode cX12_recalls 30 = .ok (.iaload, 1) := by decide +kernel
theorem dX12_recalls_31 : decode cX12_recalls 31 = .ok (.iastore, 1) := by decide +kernel
theorem dX12_recalls_32 : decode cX12_recalls 32 = .ok (.aload_n 0, 1) := by decide +kernel
theorem dX12_recalls_33 : decode cX12_recalls 33 = .ok (.getfield 75, 3) := by decide +kernel
theorem dX12_recalls_36 : decode cX12_recalls 36 = .ok (.iload_n 1, 1) := by decide +kernel
theorem dX12_recalls_37 : decode cX12_recalls 37 = .ok (.aload_n 0, 1) := by decide +kernel
theorem dX12_recalls_38 : decode cX12_recalls 38 = .ok (.getfield 121, 3) := by decide +kernel
theorem dX12_recalls_41 : decode cX12_recalls 41 = .ok (.iload_n 1, 1) := by decide +kernel
theorem dX12_recalls_42 : decode cX12_recalls 42 = .ok (.iaload, 1) := by decide +kernel
theorem dX12_recalls_43 : decode cX12_recalls 43 = .ok (.iastore, 1) := by decide +kernel
theorem dX12_recalls_44 : decode cX12_recalls 44 = .ok (.iinc 1 1, 3) := by decide +kernel
theorem dX12_recalls_47 : decode cX12_recalls 47 = .ok (.goto (-45), 3) := by decide +kernel
theorem dX12_recalls_50 : decode cX12_recalls 50 = .ok (.aload_n 0, 1) := by decide +kernel
theorem dX12_recalls_51 : decode cX12_recalls 51 = .ok (.aload_n 0, 1) := by decide +kernel
theorem dX12_recalls_52 : decode cX12_recalls 52 = .ok (.getfield 473, 3) := by decide +kernel
theorem dX12_recalls_55 : decode cX12_recalls 55 = .ok (.putfield 411, 3) := by decide +kernel
theorem dX12_recalls_58 : decode cX12_recalls 58 = .ok (.aload_n 0, 1) := by decide +kernel
theorem dX12_recalls_59 : decode cX12_recalls 59 = .ok (.aload_n 0, 1) := by decide +kernel
theorem dX12_recalls_60 : decode cX12_recalls 60 = .ok (.getfield 476, 3) := by decide +kernel
theorem dX12_recalls_63 : decode cX12_recalls 63 = .ok (.putfield 408, 3) := by decide +kernel
theorem dX12_recalls_66 : decode cX12_recalls 66 = .ok (.return_, 1) := by decide +kernel
theorem dX12_renews_0 : decode cX12_renews 0 = .ok (.iconst 0, 1) := by decide +kernel
theorem dX12_renews_1 : decode cX12_renews 1 = .ok (.istore_n 2, 1) := by decide +kernel
theorem dX12_renews_2 : decode cX12_renews 2 = .ok (.iload_n 2, 1) := by decide +kernel
theorem dX12_renews_3 : decode cX12_renews 3 = .ok (.bipush 20, 2) := by decide +kernel
theorem dX12_renews_5 : decode cX12_renews 5 = .ok (.if_icmp .ge 42, 3) := by decide +kernel
theorem dX12_renews_8 : decode cX12_renews 8 = .ok (.aload_n 0, 1) := by decide +kernel
theorem dX12_renews_9 : decode cX12_renews 9 = .ok (.getfield 124, 3) := by decide +kernel
theorem dX12_renews_12 : decode cX12_renews 12 = .ok (.iload_n 2, 1) := by decide +kernel
theorem dX12_renews_13 : decode cX12_renews 13 = .ok (.iload_n 2, 1) := by decide +kernel
theorem dX12_renews_14 : decode cX12_renews 14 = .ok (.aload_n 0, 1) := by decide +kernel
theorem dX12_renews_15 : decode cX12_renews 15 = .ok (.getfield 411, 3) := by decide +kernel
theorem dX12_renews_18 : decode cX12_renews 18 = .ok (.if_icmp .ge 21, 3) := by decide +kernel
theorem dX12_renews_21 : decode cX12_renews 21 = .ok (.iload_n 2, 1) := by decide +kernel
theorem dX12_renews_22 : decode cX12_renews 22 = .ok (.iload_n 1, 1) := by decide +kernel
theorem dX12_renews_23 : decode cX12_renews 23 = .ok (.if_icmp .eq 16, 3) := by decide +kernel
theorem dX12_renews_26 : decode cX12_renews 26 = .ok (.aload_n 0, 1) := by decide +kernel
theorem dX12_renews_27 : decode cX12_renews 27 = .ok (.iload_n 2, 1) := by decide +kernel
theorem dX12_renews_28 : decode cX12_renews 28 = .ok (.iload_n 1, 1) := by decide +kernel
theorem dX12_renews_29 : decode cX12_renews 29 = .ok (.invokevirtual 440, 3) := by decide +kernel
theorem dX12_renews_32 : decode cX12_renews 32 = .ok (.ifCond .eq 7, 3) := by decide +kernel
theorem dX12_renews_35 : decode cX12_renews 35 = .ok (.iconst 1, 1) := by decide +kernel
theorem dX12_renews_36 : decode cX12_renews 36 = .ok (.goto 4, 3) := by decide +kernel
theorem dX12_renews_39 : decode cX12_renews 39 = .ok (.iconst 0, 1) := by decide +kernel
theorem dX12_renews_40 : decode cX12_renews 40 = .ok (.bastore, 1) := by decide +kernel
theorem dX12_renews_41 : decode cX12_renews 41 = .ok (.iinc 2 1, 3) := by decide +kernel
theorem dX12_renews_44 : decode cX12_renews 44 = .ok (.goto (-42), 3) := by decide +kernel
theorem dX12_renews_47 : decode cX12_renews 47 = .ok (.iconst (-1), 1) := by decide +kernel
theorem dX12_renews_48 : decode cX12_renews 48 = .ok (.istore_n 2, 1) := by decide +kernel
theorem dX12_renews_49 : decode cX12_renews 49 = .ok (.iconst 0, 1) := by decide +kernel
theorem dX12_renews_50 : decode cX12_renews 50 = .ok (.istore_n 3, 1) := by decide +kernel
theorem dX12_renews_51 : decode cX12_renews 51 = .ok (.iload_n 3, 1) := by decide +kernel
theorem dX12_renews_52 : decode cX12_renews 52 = .ok (.aload_n 0, 1) := by decide +kernel
theorem dX12_renews_53 : decode cX12_renews 53 = .ok (.getfield 411, 3) := by decide +kernel
theorem dX12_renews_56 : decode cX12_renews 56 = .ok (.if_icmp .ge 121, 3) := by decide +kernel
theorem dX12_renews_59 : decode cX12_renews 59 = .ok (.aload_n 0, 1) := by decide +kernel
theorem dX12_renews_60 : decode cX12_renews 60 = .ok (.getfield 124, 3) := by decide +kernel
theorem dX12_renews_63 : decode cX12_renews 63 = .ok (.iload_n 3, 1) := by decide +kernel
theorem dX12_renews_64 : decode cX12_renews 64 = .ok (.baload, 1) := by decide +kernel
theorem dX12_renews_65 : decode cX12_renews 65 = .ok (.ifCond .eq 106, 3) := by decide +kernel
theorem dX12_renews_68 : decode cX12_renews 68 = .ok (.iload_n 2, 1) := by decide +kernel
theorem dX12_renews_69 : decode cX12_renews 69 = .ok (.iconst (-1), 1) := by decide +kernel
theorem dX12_renews_70 : decode cX12_renews 70 = .ok (.if_icmp .eq 27, 3) := by decide +kernel
theorem dX12_renews_73 : decode cX12_renews 73 = .ok (.aload_n 0, 1) := by decide +kernel
theorem dX12_renews_74 : decode cX12_renews 74 = .ok (.getfield 69, 3) := by decide +kernel
theorem dX12_renews_77 : decode cX12_renews 77 = .ok (.iload_n 2, 1) := by decide +kernel
theorem dX12_renews_78 : decode cX12_renews 78 = .ok (.iaload, 1) := by decide +kernel
theorem dX12_renews_79 : decode cX12_renews 79 = .ok (.invokestatic 443, 3) := by decide +kernel
theorem dX12_renews_82 : decode cX12_renews 82 = .ok (.aload_n 0, 1) := by decide +kernel
theorem dX12_renews_83 : decode cX12_renews 83 = .ok (.getfield 69, 3) := by decide +kernel
theorem dX12_renews_86 : decode cX12_renews 86 = .ok (.iload_n 3, 1) := by decide +kernel
theorem dX12_renews_87 : decode cX12_renews 87 = .ok (.iaload, 1) := by decide +kernel
theorem dX12_renews_88 : decode cX12_renews 88 = .ok (.invokestatic 443, 3) := by decide +kernel
theorem dX12_renews_91 : decode cX12_renews 91 = .ok (.if_icmp .ge 6, 3) := by decide +kernel
theorem dX12_renews_94 : decode cX12_renews 94 = .ok (.goto 77, 3) := by decide +kernel
theorem dX12_renews_97 : decode cX12_renews 97 = .ok (.aload_n 0, 1) := by decide +kernel
theorem dX12_renews_98 : decode cX12_renews 98 = .ok (.aload_n 0, 1) := by decide +kernel
theorem dX12_renews_99 : decode cX12_renews 99 = .ok (.getfield 72, 3) := by decide +kernel
theorem dX12_renews_102 : decode cX12_renews 102 = .ok (.iload_n 3, 1) := by decide +kernel
theorem dX12_renews_103 : decode cX12_renews 103 = .ok (.iaload, 1) := by decide +kernel
theorem dX12_renews_104 : decode cX12_renews 104 = .ok (.invokevirtual 421, 3) := by decide +kernel
theorem dX12_renews_107 : decode cX12_renews 107 = .ok (.iconst 1, 1) := by decide +kernel
theorem dX12_renews_108 : decode cX12_renews 108 = .ok (.istore 4, 2) := by decide +kernel
theorem dX12_renews_110 : decode cX12_renews 110 = .ok (.iconst 0, 1) := by decide +kernel
theorem dX12_renews_111 : decode cX12_renews 111 = .ok (.istore 5, 2) := by decide +kernel
theorem dX12_renews_113 : decode cX12_renews 113 = .ok (.iload 5, 2) := by decide +kernel
theorem dX12_renews_115 : decode cX12_renews 115 = .ok (.aload_n 0, 1) := by decide +kernel
theorem dX12_renews_116 : decode cX12_renews 116 = .ok (.getfield 411, 3) := by decide +kernel
theorem dX12_renews_119 : decode cX12_renews 119 = .ok (.if_icmp .ge 45, 3) := by decide +kernel
theorem dX12_renews_122 : decode cX12_renews 122 = .ok (.iload 4, 2) := by decide +kernel
theorem dX12_renews_124 : decode cX12_renews 124 = .ok (.iload 5, 2) := by decide +kernel
theorem dX12_renews_126 : decode cX12_renews 126 = .ok (.iload_n 3, 1) := by decide +kernel
theorem dX12_renews_127 : decode cX12_renews 127 = .ok (.if_icmp .eq 23, 3) := by decide +kernel
theorem dX12_renews_130 : decode cX12_renews 130 = .ok (.aload_n 0, 1) := by decide +kernel
theorem dX12_renews_131 : decode cX12_renews 131 = .ok (.getfield 124, 3) := by decide +kernel
theorem dX12_renews_134 : decode cX12_renews 134 = .ok (.iload 5, 2) := by decide +kernel
theorem dX12_renews_136 : decode cX12_renews 136 = .ok (.baload, 1) := by decide +kernel
theorem dX12_renews_137 : decode cX12_renews 137 = .ok (.ifCond .eq 13, 3) := by decide +kernel
theorem dX12_renews_140 : decode cX12_renews 140 = .ok (.aload_n 0, 1) := by decide +kernel
theorem dX12_renews_141 : decode cX12_renews 141 = .ok (.getfield 78, 3) := by decide +kernel
theorem dX12_renews_144 : decode cX12_renews 144 = .ok (.iload 5, 2) := by decide +kernel
theorem dX12_renews_146 : decode cX12_renews 146 = .ok (.baload, 1) := by decide +kernel
theorem dX12_renews_147 : decode cX12_renews 147 = .ok (.ifCond .ne 7, 3) := by decide +kernel
theorem dX12_renews_150 : decode cX12_renews 150 = .ok (.iconst 1, 1) := by decide +kernel
theorem dX12_renews_151 : decode cX12_renews 151 = .ok (.goto 4, 3) := by decide +kernel
theorem dX12_renews_154 : decode cX12_renews 154 = .ok (.iconst 0, 1) := by decide +kernel
theorem dX12_renews_155 : decode cX12_renews 155 = .ok (.iand, 1) := by decide +kernel
theorem dX12_renews_156 : decode cX12_renews 156 = .ok (.istore 4, 2) := by decide +kernel
theorem dX12_renews_158 : decode cX12_renews 158 = .ok (.iinc 5 1, 3) := by decide +kernel
theorem dX12_renews_161 : decode cX12_renews 161 = .ok (.goto (-48), 3) := by decide +kernel
theorem dX12_renews_164 : decode cX12_renews 164 = .ok (.iload 4, 2) := by decide +kernel
theorem dX12_renews_166 : decode cX12_renews 166 = .ok (.ifCond .eq 5, 3) := by decide +kernel
theorem dX12_renews_169 : decode cX12_renews 169 = .ok (.iload_n 3, 1) := by decide +kernel
theorem dX12_renews_170 : decode cX12_renews 170 = .ok (.istore_n 2, 1) := by decide +kernel
theorem dX12_renews_171 : decode cX12_renews 171 = .ok (.iinc 3 1, 3) := by decide +kernel
theorem dX12_renews_174 : decode cX12_renews 174 = .ok (.goto (-123), 3) := by decide +kernel
theorem dX12_renews_177 : decode cX12_renews 177 = .ok (.iload_n 2, 1) := by decide +kernel
theorem dX12_renews_178 : decode cX12_renews 178 = .ok (.iconst (-1), 1) := by decide +kernel
theorem dX12_renews_179 : decode cX12_renews 179 = .ok (.if_icmp .ne 5, 3) := by decide +kernel
theorem dX12_renews_182 : decode cX12_renews 182 = .ok (.iconst 1, 1) := by decide +kernel
theorem dX12_renews_183 : decode cX12_renews 183 = .ok (.ireturn, 1) := by decide +kernel
theorem dX12_renews_184 : decode cX12_renews 184 = .ok (.aload_n 0, 1) := by decide +kernel
theorem dX12_renews_185 : decode cX12_renews 185 = .ok (.aload_n 0, 1) := by decide +kernel
theorem dX12_renews_186 : decode cX12_renews 186 = .ok (.getfield 72, 3) := by decide +kernel
theorem dX12_renews_189 : decode cX12_renews 189 = .ok (.iload_n 2, 1) := by decide +kernel
theorem dX12_renews_190 : decode cX12_renews 190 = .ok (.iaload, 1) := by decide +kernel
theorem dX12_renews_191 : decode cX12_renews 191 = .ok (.invokevirtual 479, 3) := by decide +kernel
theorem dX12_renews_194 : decode cX12_renews 194 = .ok (.istore_n 3, 1) := by decide +kernel
theorem dX12_renews_195 : decode cX12_renews 195 = .ok (.iload_n 3, 1) := by decide +kernel
theorem dX12_renews_196 : decode cX12_renews 196 = .ok (.iconst (-1), 1) := by decide +kernel
theorem dX12_renews_197 : decode cX12_renews 197 = .ok (.if_icmp .ne 24, 3) := by decide +kernel
theorem dX12_renews_200 : decode cX12_renews 200 = .ok (.aload_n 0, 1) := by decide +kernel
theorem dX12_renews_201 : decode cX12_renews 201 = .ok (.bipush 9, 2) := by decide +kernel
theorem dX12_renews_203 : decode cX12_renews 203 = .ok (.iconst 0, 1) := by decide +kernel
theorem dX12_renews_204 : decode cX12_renews 204 = .ok (.invokevirtual 449, 3) := by decide +kernel
theorem dX12_renews_207 : decode cX12_renews 207 = .ok (.istore 4, 2) := by decide +kernel
theorem dX12_renews_209 : decode cX12_renews 209 = .ok (.aload_n 0, 1) := by decide +kernel
theorem dX12_renews_210 : decode cX12_renews 210 = .ok (.aload_n 0, 1) := by decide +kernel
theorem dX12_renews_211 : decode cX12_renews 211 = .ok (.getfield 69, 3) := by decide +kernel
theorem dX12_renews_214 : decode cX12_renews 214 = .ok (.iload_n 2, 1) := by decide +kernel
theorem dX12_renews_215 : decode cX12_renews 215 = .ok (.iaload, 1) := by decide +kernel
theorem dX12_renews_216 : decode cX12_renews 216 = .ok (.putfield 88, 3) := by decide +kernel
theorem dX12_renews_219 : decode cX12_renews 219 = .ok (.iconst 0, 1) := by decide +kernel
theorem dX12_renews_220 : decode cX12_renews 220 = .ok (.ireturn, 1) := by decide +kernel
theorem dX12_renews_221 : decode cX12_renews 221 = .ok (.aload_n 0, 1) := by decide +kernel
theorem dX12_renews_222 : decode cX12_renews 222 = .ok (.getfield 75, 3) := by decide +kernel
theorem dX12_renews_225 : decode cX12_renews 225 = .ok (.iload_n 2, 1) := by decide +kernel
theorem dX12_renews_226 : decode cX12_renews 226 = .ok (.aload_n 0, 1) := by decide +kernel
theorem dX12_renews_227 : decode cX12_renews 227 = .ok (.iload_n 3, 1) := by decide +kernel
theorem dX12_renews_228 : decode cX12_renews 228 = .ok (.invokevirtual 482, 3) := by decide +kernel
theorem dX12_renews_231 : decode cX12_renews 231 = .ok (.iastore, 1) := by decide +kernel
theorem dX12_renews_232 : decode cX12_renews 232 = .ok (.aload_n 0, 1) := by decide +kernel
theorem dX12_renews_233 : decode cX12_renews 233 = .ok (.getfield 124, 3) := by decide +kernel
theorem dX12_renews_236 : decode cX12_renews 236 = .ok (.iload_n 2, 1) := by decide +kernel
theorem dX12_renews_237 : decode cX12_renews 237 = .ok (.iconst 0, 1) := by decide +kernel
theorem dX12_renews_238 : decode cX12_renews 238 = .ok (.bastore, 1) := by decide +kernel
theorem dX12_renews_239 : decode cX12_renews 239 = .ok (.goto (-192), 3) := by decide +kernel
theorem dX12_placed_0 : decode cX12_placed 0 = .ok (.aload_n 0, 1) := by decide +kernel
theorem dX12_placed_1 : decode cX12_placed 1 = .ok (.aload_n 0, 1) := by decide +kernel
theorem dX12_placed_2 : decode cX12_placed 2 = .ok (.getfield 362, 3) := by decide +kernel
theorem dX12_placed_5 : decode cX12_placed 5 = .ok (.aload_n 0, 1) := by decide +kernel
theorem dX12_placed_6 : decode cX12_placed 6 = .ok (.getfield 371, 3) := by decide +kernel
theorem dX12_placed_9 : decode cX12_placed 9 = .ok (.iconst 2, 1) := by decide +kernel
theorem dX12_placed_10 : decode cX12_placed 10 = .ok (.if_icmp .ne 7, 3) := by decide +kernel
theorem dX12_placed_13 : decode cX12_placed 13 = .ok (.iconst 1, 1) := by decide +kernel
theorem dX12_placed_14 : decode cX12_placed 14 = .ok (.goto 4, 3) := by decide +kernel
theorem dX12_placed_17 : decode cX12_placed 17 = .ok (.iconst 0, 1) := by decide +kernel
theorem dX12_placed_18 : decode cX12_placed 18 = .ok (.invokevirtual 424, 3) := by decide +kernel
theorem dX12_placed_21 : decode cX12_placed 21 = .ok (.istore_n 2, 1) := by decide +kernel
theorem dX12_placed_22 : decode cX12_placed 22 = .ok (.iload_n 2, 1) := by decide +kernel
theorem dX12_placed_23 : decode cX12_placed 23 = .ok (.iconst (-1), 1) := by decide +kernel
theorem dX12_placed_24 : decode cX12_placed 24 = .ok (.if_icmp .ne 29, 3) := by decide +kernel
theorem dX12_placed_27 : decode cX12_placed 27 = .ok (.aload_n 0, 1) := by decide +kernel
theorem dX12_placed_28 : decode cX12_placed 28 = .ok (.getfield 371, 3) := by decide +kernel
theorem dX12_placed_31 : decode cX12_placed 31 = .ok (.iconst 1, 1) := by decide +kernel
theorem dX12_placed_32 : decode cX12_placed 32 = .ok (.if_icmp .ne 21, 3) := by decide +kernel
theorem dX12_placed_35 : decode cX12_placed 35 = .ok (.aload_n 0, 1) := by decide +kernel
theorem dX12_placed_36 : decode cX12_placed 36 = .ok (.getfield 411, 3) := by decide +kernel
theorem dX12_placed_39 : decode cX12_placed 39 = .ok (.istore_n 2, 1) := by decide +kernel
theorem dX12_placed_40 : decode cX12_placed 40 = .ok (.aload_n 0, 1) := by decide +kernel
theorem dX12_placed_41 : decode cX12_placed 41 = .ok (.dup, 1) := by decide +kernel
theorem dX12_placed_42 : decode cX12_placed 42 = .ok (.getfield 411, 3) := by decide +kernel
theorem dX12_placed_45 : decode cX12_placed 45 = .ok (.iconst 1, 1) := by decide +kernel
theorem dX12_placed_46 : decode cX12_placed 46 = .ok (.iadd, 1) := by decide +kernel
theorem dX12_placed_47 : decode cX12_placed 47 = .ok (.putfield 411, 3) := by decide +kernel
theorem dX12_placed_50 : decode cX12_placed 50 = .ok (.goto 26, 3) := by decide +kernel
theorem dX12_placed_53 : decode cX12_placed 53 = .ok (.iload_n 2, 1) := by decide +kernel
theorem dX12_placed_54 : decode cX12_placed 54 = .ok (.iconst (-1), 1) := by decide +kernel
theorem dX12_placed_55 : decode cX12_placed 55 = .ok (.if_icmp .ne 21, 3) := by decide +kernel
theorem dX12_placed_58 : decode cX12_placed 58 = .ok (.bipush 20, 2) := by decide +kernel
theorem dX12_placed_60 : decode cX12_placed 60 = .ok (.aload_n 0, 1) := by decide +kernel
theorem dX12_placed_61 : decode cX12_placed 61 = .ok (.getfield 408, 3) := by decide +kernel
theorem dX12_placed_64 : decode cX12_placed 64 = .ok (.iadd, 1) := by decide +kernel
theorem dX12_placed_65 : decode cX12_placed 65 = .ok (.istore_n 2, 1) := by decide +kernel
theorem dX12_placed_66 : decode cX12_placed 66 = .ok (.aload_n 0, 1) := by decide +kernel
theorem dX12_placed_67 : decode cX12_placed 67 = .ok (.dup, 1) := by decide +kernel
theorem dX12_placed_68 : decode cX12_placed 68 = .ok (.getfield 408, 3) := by decide +kernel
theorem dX12_placed_71 : decode cX12_placed 71 = .ok (.iconst 1, 1) := by decide +kernel
theorem dX12_placed_72 : decode cX12_placed 72 = .ok (.iadd, 1) := by decide +kernel
theorem dX12_placed_73 : decode cX12_placed 73 = .ok (.putfield 408, 3) := by decide +kernel
theorem dX12_placed_76 : decode cX12_placed 76 = .ok (.aload_n 0, 1) := by decide +kernel
theorem dX12_placed_77 : decode cX12_placed 77 = .ok (.getfield 69, 3) := by decide +kernel
theorem dX12_placed_80 : decode cX12_placed 80 = .ok (.iload_n 2, 1) := by decide +kernel
theorem dX12_placed_81 : decode cX12_placed 81 = .ok (.aload_n 0, 1) := by decide +kernel
theorem dX12_placed_82 : decode cX12_placed 82 = .ok (.getfield 362, 3) := by decide +kernel
theorem dX12_placed_85 : decode cX12_placed 85 = .ok (.iastore, 1) := by decide +kernel
theorem dX12_placed_86 : decode cX12_placed 86 = .ok (.aload_n 0, 1) := by decide +kernel
theorem dX12_placed_87 : decode cX12_placed 87 = .ok (.getfield 72, 3) := by decide +kernel
theorem dX12_placed_90 : decode cX12_placed 90 = .ok (.iload_n 2, 1) := by decide +kernel
theorem dX12_placed_91 : decode cX12_placed 91 = .ok (.iload_n 1, 1) := by decide +kernel
theorem dX12_placed_92 : decode cX12_placed 92 = .ok (.iastore, 1) := by decide +kernel
theorem dX12_placed_93 : decode cX12_placed 93 = .ok (.iload_n 2, 1) := by decide +kernel
theorem dX12_placed_94 : decode cX12_placed 94 = .ok (.ireturn, 1) := by decide +kernel
theorem dX12_isDone_0 : decode cX12_isDone 0 = .ok (.aload_n 0, 1) := by decide +kernel
theorem dX12_isDone_1 : decode cX12_isDone 1 = .ok (.iload_n 1, 1) := by decide +kernel
theorem dX12_isDone_2 : decode cX12_isDone 2 = .ok (.invokevirtual 485, 3) := by decide +kernel
theorem dX12_isDone_5 : decode cX12_isDone 5 = .ok (.ifCond .eq 5, 3) := by decide +kernel
theorem dX12_isDone_8 : decode cX12_isDone 8 = .ok (.iconst 0, 1) := by decide +kernel
theorem dX12_isDone_9 : decode cX12_isDone 9 = .ok (.ireturn, 1) := by decide +kernel
theorem dX12_isDone_10 : decode cX12_isDone 10 = .ok (.iconst (-1), 1) := by decide +kernel
theorem dX12_isDone_11 : decode cX12_isDone 11 = .ok (.istore_n 2, 1) := by decide +kernel
theorem dX12_isDone_12 : decode cX12_isDone 12 = .ok (.aload_n 0, 1) := by decide +kernel
theorem dX12_isDone_13 : decode cX12_isDone 13 = .ok (.getfield 371, 3) := by decide +kernel
theorem dX12_isDone_16 : decode cX12_isDone 16 = .ok (.iconst 2, 1) := by decide +kernel
theorem dX12_isDone_17 : decode cX12_isDone 17 = .ok (.if_icmp .ge 91, 3) := by decide +kernel
theorem dX12_isDone_20 : decode cX12_isDone 20 = .ok (.aload_n 0, 1) := by decide +kernel
theorem dX12_isDone_21 : decode cX12_isDone 21 = .ok (.iload_n 1, 1) := by decide +kernel
theorem dX12_isDone_22 : decode cX12_isDone 22 = .ok (.invokevirtual 479, 3) := by decide +kernel
theorem dX12_isDone_25 : decode cX12_isDone 25 = .ok (.istore_n 3, 1) := by decide +kernel
theorem dX12_isDone_26 : decode cX12_isDone 26 = .ok (.iload_n 3, 1) := by decide +kernel
theorem dX12_isDone_27 : decode cX12_isDone 27 = .ok (.iconst (-1), 1) := by decide +kernel
theorem dX12_isDone_28 : decode cX12_isDone 28 = .ok (.if_icmp .ne 5, 3) := by decide +kernel
theorem dX12_isDone_31 : decode cX12_isDone 31 = .ok (.iconst 0, 1) := by decide +kernel
theorem dX12_isDone_32 : decode cX12_isDone 32 = .ok (.ireturn, 1) := by decide +kernel
theorem dX12_isDone_33 : decode cX12_isDone 33 = .ok (.aload_n 0, 1) := by decide +kernel
theorem dX12_isDone_34 : decode cX12_isDone 34 = .ok (.getfield 371, 3) := by decide +kernel
theorem dX12_isDone_37 : decode cX12_isDone 37 = .ok (.iconst 1, 1) := by decide +kernel
theorem dX12_isDone_38 : decode cX12_isDone 38 = .ok (.if_icmp .ne 11, 3) := by decide +kernel
theorem dX12_isDone_41 : decode cX12_isDone 41 = .ok (.aload_n 0, 1) := by decide +kernel
theorem dX12_isDone_42 : decode cX12_isDone 42 = .ok (.iload_n 3, 1) := by decide +kernel
theorem dX12_isDone_43 : decode cX12_isDone 43 = .ok (.invokevirtual 482, 3) := by decide +kernel
theorem dX12_isDone_46 : decode cX12_isDone 46 = .ok (.goto 4, 3) := by decide +kernel
theorem dX12_isDone_49 : decode cX12_isDone 49 = .ok (.iload_n 3, 1) := by decide +kernel
theorem dX12_isDone_50 : decode cX12_isDone 50 = .ok (.istore_n 2, 1) := by decide +kernel
theorem dX12_isDone_51 : decode cX12_isDone 51 = .ok (.iconst 0, 1) := by decide +kernel
theorem dX12_isDone_52 : decode cX12_isDone 52 = .ok (.istore 4, 2) := by decide +kernel
theorem dX12_isDone_54 : decode cX12_isDone 54 = .ok (.iload 4, 2) := by decide +kernel
theorem dX12_isDone_56 : decode cX12_isDone 56 = .ok (.aload_n 0, 1) := by decide +kernel
theorem dX12_isDone_57 : decode cX12_isDone 57 = .ok (.getfield 458, 3) := by decide +kernel
theorem dX12_isDone_60 : decode cX12_isDone 60 = .ok (.if_icmp .ge 40, 3) := by decide +kernel
theorem dX12_isDone_63 : decode cX12_isDone 63 = .ok (.aload_n 0, 1) := by decide +kernel
theorem dX12_isDone_64 : decode cX12_isDone 64 = .ok (.getfield 127, 3) := by decide +kernel
theorem dX12_isDone_67 : decode cX12_isDone 67 = .ok (.iload 4, 2) := by decide +kernel
theorem dX12_isDone_69 : decode cX12_isDone 69 = .ok (.aload_n 0, 1) := by decide +kernel
theorem dX12_isDone_70 : decode cX12_isDone 70 = .ok (.getfield 94, 3) := by decide +kernel
theorem dX12_isDone_73 : decode cX12_isDone 73 = .ok (.iload 4, 2) := by decide +kernel
theorem dX12_isDone_75 : decode cX12_isDone 75 = .ok (.iaload, 1) := by decide +kernel
theorem dX12_isDone_76 : decode cX12_isDone 76 = .ok (.iastore, 1) := by decide +kernel
theorem dX12_isDone_77 : decode cX12_isDone 77 = .ok (.aload_n 0, 1) := by decide +kernel
theorem dX12_isDone_78 : decode cX12_isDone 78 = .ok (.sipush 400, 3) := by decide +kernel
theorem dX12_isDone_81 : decode cX12_isDone 81 = .ok (.iload 4, 2) := by decide +kernel
theorem dX12_isDone_83 : decode cX12_isDone 83 = .ok (.iadd, 1) := by decide +kernel
theorem dX12_isDone_84 : decode cX12_isDone 84 = .ok (.aload_n 0, 1) := by decide +kernel
theorem dX12_isDone_85 : decode cX12_isDone 85 = .ok (.getfield 97, 3) := by decide +kernel
theorem dX12_isDone_88 : decode cX12_isDone 88 = .ok (.iload 4, 2) := by decide +kernel
theorem dX12_isDone_90 : decode cX12_isDone 90 = .ok (.iaload, 1) := by decide +kernel
theorem dX12_isDone_91 : decode cX12_isDone 91 = .ok (.invokevirtual 221, 3) := by decide +kernel
theorem dX12_isDone_94 : decode cX12_isDone 94 = .ok (.iinc 4 1, 3) := by decide +kernel
theorem dX12_isDone_97 : decode cX12_isDone 97 = .ok (.goto (-43), 3) := by decide +kernel
theorem dX12_isDone_100 : decode cX12_isDone 100 = .ok (.aload_n 0, 1) := by decide +kernel
theorem dX12_isDone_101 : decode cX12_isDone 101 = .ok (.aload_n 0, 1) := by decide +kernel
theorem dX12_isDone_102 : decode cX12_isDone 102 = .ok (.getfield 458, 3) := by decide +kernel
theorem dX12_isDone_105 : decode cX12_isDone 105 = .ok (.putfield 488, 3) := by decide +kernel
theorem dX12_isDone_108 : decode cX12_isDone 108 = .ok (.aload_n 0, 1) := by decide +kernel
theorem dX12_isDone_109 : decode cX12_isDone 109 = .ok (.getfield 371, 3) := by decide +kernel
theorem dX12_isDone_112 : decode cX12_isDone 112 = .ok (.ifCond .le 46, 3) := by decide +kernel
theorem dX12_isDone_115 : decode cX12_isDone 115 = .ok (.aload_n 0, 1) := by decide +kernel
theorem dX12_isDone_116 : decode cX12_isDone 116 = .ok (.invokevirtual 491, 3) := by decide +kernel
theorem dX12_isDone_119 : decode cX12_isDone 119 = .ok (.aload_n 0, 1) := by decide +kernel
theorem dX12_isDone_120 : decode cX12_isDone 120 = .ok (.invokevirtual 494, 3) := by decide +kernel
theorem dX12_isDone_123 : decode cX12_isDone 123 = .ok (.aload_n 0, 1) := by decide +kernel
theorem dX12_isDone_124 : decode cX12_isDone 124 = .ok (.iload_n 1, 1) := by decide +kernel
theorem dX12_isDone_125 : decode cX12_isDone 125 = .ok (.invokevirtual 497, 3) := by decide +kernel
theorem dX12_isDone_128 : decode cX12_isDone 128 = .ok (.istore_n 3, 1) := by decide +kernel
theorem dX12_isDone_129 : decode cX12_isDone 129 = .ok (.aload_n 0, 1) := by decide +kernel
theorem dX12_isDone_130 : decode cX12_isDone 130 = .ok (.getfield 75, 3) := by decide +kernel
theorem dX12_isDone_133 : decode cX12_isDone 133 = .ok (.iload_n 3, 1) := by decide +kernel
theorem dX12_isDone_134 : decode cX12_isDone 134 = .ok (.iload_n 2, 1) := by decide +kernel
theorem dX12_isDone_135 : decode cX12_isDone 135 = .ok (.iastore, 1) := by decide +kernel
theorem dX12_isDone_136 : decode cX12_isDone 136 = .ok (.aload_n 0, 1) := by decide +kernel
theorem dX12_isDone_137 : decode cX12_isDone 137 = .ok (.iload_n 3, 1) := by decide +kernel
theorem dX12_isDone_138 : decode cX12_isDone 138 = .ok (.invokevirtual 500, 3) := by decide +kernel
theorem dX12_isDone_141 : decode cX12_isDone 141 = .ok (.ifCond .ne 13, 3) := by decide +kernel
theorem dX12_isDone_144 : decode cX12_isDone 144 = .ok (.aload_n 0, 1) := by decide +kernel
theorem dX12_isDone_145 : decode cX12_isDone 145 = .ok (.invokevirtual 503, 3) := by decide +kernel
theorem dX12_isDone_148 : decode cX12_isDone 148 = .ok (.aload_n 0, 1) := by decide +kernel
theorem dX12_isDone_149 : decode cX12_isDone 149 = .ok (.invokevirtual 506, 3) := by decide +kernel
theorem dX12_isDone_152 : decode cX12_isDone 152 = .ok (.iconst 0, 1) := by decide +kernel
theorem dX12_isDone_153 : decode cX12_isDone 153 = .ok (.ireturn, 1) := by decide +kernel
theorem dX12_isDone_154 : decode cX12_isDone 154 = .ok (.aload_n 0, 1) := by decide +kernel
theorem dX12_isDone_155 : decode cX12_isDone 155 = .ok (.invokevirtual 509, 3) := by decide +kernel
theorem dX12_isDone_158 : decode cX12_isDone 158 = .ok (.aload_n 0, 1) := by decide +kernel
theorem dX12_isDone_159 : decode cX12_isDone 159 = .ok (.getfield 371, 3) := by decide +kernel
theorem dX12_isDone_162 : decode cX12_isDone 162 = .ok (.iconst 2, 1) := by decide +kernel
theorem dX12_isDone_163 : decode cX12_isDone 163 = .ok (.if_icmp .ne 5, 3) := by decide +kernel
theorem dX12_isDone_166 : decode cX12_isDone 166 = .ok (.iconst 1, 1) := by decide +kernel
theorem dX12_isDone_167 : decode cX12_isDone 167 = .ok (.ireturn, 1) := by decide +kernel
theorem dX12_isDone_168 : decode cX12_isDone 168 = .ok (.aload_n 0, 1) := by decide +kernel
theorem dX12_isDone_169 : decode cX12_isDone 169 = .ok (.aload_n 0, 1) := by decide +kernel
theorem dX12_isDone_170 : decode cX12_isDone 170 = .ok (.getfield 488, 3) := by decide +kernel
theorem dX12_isDone_173 : decode cX12_isDone 173 = .ok (.putfield 512, 3) := by decide +kernel
theorem dX12_isDone_176 : decode cX12_isDone 176 = .ok (.iconst 0, 1) := by decide +kernel
theorem dX12_isDone_177 : decode cX12_isDone 177 = .ok (.istore_n 3, 1) := by decide +kernel
theorem dX12_isDone_178 : decode cX12_isDone 178 = .ok (.iload_n 3, 1) := by decide +kernel
theorem dX12_isDone_179 : decode cX12_isDone 179 = .ok (.aload_n 0, 1) := by decide +kernel
theorem dX12_isDone_180 : decode cX12_isDone 180 = .ok (.getfield 512, 3) := by decide +kernel
theorem dX12_isDone_183 : decode cX12_isDone 183 = .ok (.if_icmp .ge 35, 3) := by decide +kernel
theorem dX12_isDone_186 : decode cX12_isDone 186 = .ok (.aload_n 0, 1) := by decide +kernel
theorem dX12_isDone_187 : decode cX12_isDone 187 = .ok (.getfield 100, 3) := by decide +kernel
theorem dX12_isDone_190 : decode cX12_isDone 190 = .ok (.iload_n 3, 1) := by decide +kernel
theorem dX12_isDone_191 : decode cX12_isDone 191 = .ok (.aload_n 0, 1) := by decide +kernel
theorem dX12_isDone_192 : decode cX12_isDone 192 = .ok (.getfield 127, 3) := by decide +kernel
theorem dX12_isDone_195 : decode cX12_isDone 195 = .ok (.iload_n 3, 1) := by decide +kernel
theorem dX12_isDone_196 : decode cX12_isDone 196 = .ok (.iaload, 1) := by decide +kernel
theorem dX12_isDone_197 : decode cX12_isDone 197 = .ok (.iastore, 1) := by decide +kernel
theorem dX12_isDone_198 : decode cX12_isDone 198 = .ok (.aload_n 0, 1) := by decide +kernel
theorem dX12_isDone_199 : decode cX12_isDone 199 = .ok (.sipush 200, 3) := by decide +kernel
theorem dX12_isDone_202 : decode cX12_isDone 202 = .ok (.iload_n 3, 1) := by decide +kernel
theorem dX12_isDone_203 : decode cX12_isDone 203 = .ok (.iadd, 1) := by decide +kernel
theorem dX12_isDone_204 : decode cX12_isDone 204 = .ok (.sipush 400, 3) := by decide +kernel
theorem dX12_isDone_207 : decode cX12_isDone 207 = .ok (.iload_n 3, 1) := by decide +kernel
theorem dX12_isDone_208 : decode cX12_isDone 208 = .ok (.iadd, 1) := by decide +kernel
theorem dX12_isDone_209 : decode cX12_isDone 209 = .ok (.invokevirtual 221, 3) := by decide +kernel
theorem dX12_isDone_212 : decode cX12_isDone 212 = .ok (.iinc 3 1, 3) := by decide +kernel
theorem dX12_isDone_215 : decode cX12_isDone 215 = .ok (.goto (-37), 3) := by decide +kernel
theorem dX12_isDone_218 : decode cX12_isDone 218 = .ok (.aload_n 0, 1) := by decide +kernel
theorem dX12_isDone_219 : decode cX12_isDone 219 = .ok (.iload_n 2, 1) := by decide +kernel
theorem dX12_isDone_220 : decode cX12_isDone 220 = .ok (.putfield 170, 3) := by decide +kernel
theorem dX12_isDone_223 : decode cX12_isDone 223 = .ok (.iconst 1, 1) := by decide +kernel
theorem dX12_isDone_224 : decode cX12_isDone 224 = .ok (.ireturn, 1) := by decide +kernel
theorem dX12_run_0 : decode cX12_run 0 = .ok (.aload_n 0, 1) := by decide +kernel
theorem dX12_run_1 : decode cX12_run 1 = .ok (.iconst 0, 1) := by decide +kernel
theorem dX12_run_2 : decode cX12_run 2 = .ok (.putfield 1, 3) := by decide +kernel
theorem dX12_run_5 : decode cX12_run 5 = .ok (.aload_n 0, 1) := by decide +kernel
theorem dX12_run_6 : decode cX12_run 6 = .ok (.getfield 343, 3) := by decide +kernel
theorem dX12_run_9 : decode cX12_run 9 = .ok (.istore_n 1, 1) := by decide +kernel
theorem dX12_run_10 : decode cX12_run 10 = .ok (.aload_n 0, 1) := by decide +kernel
theorem dX12_run_11 : decode cX12_run 11 = .ok (.getfield 160, 3) := by decide +kernel
theorem dX12_run_14 : decode cX12_run 14 = .ok (.istore_n 2, 1) := by decide +kernel
theorem dX12_run_15 : decode cX12_run 15 = .ok (.aload_n 0, 1) := by decide +kernel
theorem dX12_run_16 : decode cX12_run 16 = .ok (.invokevirtual 515, 3) := by decide +kernel
theorem dX12_run_19 : decode cX12_run 19 = .ok (.istore_n 3, 1) := by decide +kernel
theorem dX12_run_20 : decode cX12_run 20 = .ok (.aload_n 0, 1) := by decide +kernel
theorem dX12_run_21 : decode cX12_run 21 = .ok (.iload_n 3, 1) := by decide +kernel
theorem dX12_run_22 : decode cX12_run 22 = .ok (.ifCond .eq 7, 3) := by decide +kernel
theorem dX12_run_25 : decode cX12_run 25 = .ok (.iconst (-1), 1) := by decide +kernel
theorem dX12_run_26 : decode cX12_run 26 = .ok (.goto 7, 3) := by decide +kernel
theorem dX12_run_29 : decode cX12_run 29 = .ok (.aload_n 0, 1) := by decide +kernel
theorem dX12_run_30 : decode cX12_run 30 = .ok (.getfield 328, 3) := by decide +kernel
theorem dX12_run_33 : decode cX12_run 33 = .ok (.putfield 30, 3) := by decide +kernel
theorem dX12_run_36 : decode cX12_run 36 = .ok (.aload_n 0, 1) := by decide +kernel
theorem dX12_run_37 : decode cX12_run 37 = .ok (.iconst 0, 1) := by decide +kernel
theorem dX12_run_38 : decode cX12_run 38 = .ok (.putfield 285, 3) := by decide +kernel
theorem dX12_run_41 : decode cX12_run 41 = .ok (.iload_n 3, 1) := by decide +kernel
theorem dX12_run_42 : decode cX12_run 42 = .ok (.ifCond .ne 13, 3) := by decide +kernel
theorem dX12_run_45 : decode cX12_run 45 = .ok (.aload_n 0, 1) := by decide +kernel
theorem dX12_run_46 : decode cX12_run 46 = .ok (.iload_n 1, 1) := by decide +kernel
theorem dX12_run_47 : decode cX12_run 47 = .ok (.putfield 343, 3) := by decide +kernel
theorem dX12_run_50 : decode cX12_run 50 = .ok (.aload_n 0, 1) := by decide +kernel
theorem dX12_run_51 : decode cX12_run 51 = .ok (.iload_n 2, 1) := by decide +kernel
theorem dX12_run_52 : decode cX12_run 52 = .ok (.putfield 160, 3) := by decide +kernel
theorem dX12_run_55 : decode cX12_run 55 = .ok (.aload_n 0, 1) := by decide +kernel
theorem dX12_run_56 : decode cX12_run 56 = .ok (.iload_n 3, 1) := by decide +kernel
theorem dX12_run_57 : decode cX12_run 57 = .ok (.iconst 1, 1) := by decide +kernel
theorem dX12_run_58 : decode cX12_run 58 = .ok (.invokevirtual 291, 3) := by decide +kernel
theorem dX12_run_61 : decode cX12_run 61 = .ok (.ifCond .eq 5, 3) := by decide +kernel
theorem dX12_run_64 : decode cX12_run 64 = .ok (.iconst 0, 1) := by decide +kernel
theorem dX12_run_65 : decode cX12_run 65 = .ok (.ireturn, 1) := by decide +kernel
theorem dX12_run_66 : decode cX12_run 66 = .ok (.aload_n 0, 1) := by decide +kernel
theorem dX12_run_67 : decode cX12_run 67 = .ok (.getfield 45, 3) := by decide +kernel
theorem dX12_run_70 : decode cX12_run 70 = .ok (.aload_n 0, 1) := by decide +kernel
theorem dX12_run_71 : decode cX12_run 71 = .ok (.getfield 518, 3) := by decide +kernel
theorem dX12_run_74 : decode cX12_run 74 = .ok (.iload_n 1, 1) := by decide +kernel
theorem dX12_run_75 : decode cX12_run 75 = .ok (.iastore, 1) := by decide +kernel
theorem dX12_run_76 : decode cX12_run 76 = .ok (.aload_n 0, 1) := by decide +kernel
theorem dX12_run_77 : decode cX12_run 77 = .ok (.getfield 48, 3) := by decide +kernel
theorem dX12_run_80 : decode cX12_run 80 = .ok (.aload_n 0, 1) := by decide +kernel
theorem dX12_run_81 : decode cX12_run 81 = .ok (.getfield 518, 3) := by decide +kernel
theorem dX12_run_84 : decode cX12_run 84 = .ok (.aload_n 0, 1) := by decide +kernel
theorem dX12_run_85 : decode cX12_run 85 = .ok (.getfield 343, 3) := by decide +kernel
theorem dX12_run_88 : decode cX12_run 88 = .ok (.iastore, 1) := by decide +kernel
theorem dX12_run_89 : decode cX12_run 89 = .ok (.aload_n 0, 1) := by decide +kernel
theorem dX12_run_90 : decode cX12_run 90 = .ok (.getfield 51, 3) := by decide +kernel
theorem dX12_run_93 : decode cX12_run 93 = .ok (.aload_n 0, 1) := by decide +kernel
theorem dX12_run_94 : decode cX12_run 94 = .ok (.getfield 518, 3) := by decide +kernel
theorem dX12_run_97 : decode cX12_run 97 = .ok (.aload_n 0, 1) := by decide +kernel
theorem dX12_run_98 : decode cX12_run 98 = .ok (.getfield 371, 3) := by decide +kernel
theorem dX12_run_101 : decode cX12_run 101 = .ok (.iconst 2, 1) := by decide +kernel
theorem dX12_run_102 : decode cX12_run 102 = .ok (.if_icmp .ne 10, 3) := by decide +kernel
theorem dX12_run_105 : decode cX12_run 105 = .ok (.aload_n 0, 1) := by decide +kernel
theorem dX12_run_106 : decode cX12_run 106 = .ok (.getfield 368, 3) := by decide +kernel
theorem dX12_run_109 : decode cX12_run 109 = .ok (.goto 4, 3) := by decide +kernel
theorem dX12_run_112 : decode cX12_run 112 = .ok (.iconst 0, 1) := by decide +kernel
theorem dX12_run_113 : decode cX12_run 113 = .ok (.iastore, 1) := by decide +kernel
theorem dX12_run_114 : decode cX12_run 114 = .ok (.aload_n 0, 1) := by decide +kernel
theorem dX12_run_115 : decode cX12_run 115 = .ok (.dup, 1) := by decide +kernel
theorem dX12_run_116 : decode cX12_run 116 = .ok (.getfield 518, 3) := by decide +kernel
theorem dX12_run_119 : decode cX12_run 119 = .ok (.iconst 1, 1) := by decide +kernel
theorem dX12_run_120 : decode cX12_run 120 = .ok (.iadd, 1) := by decide +kernel
theorem dX12_run_121 : decode cX12_run 121 = .ok (.putfield 518, 3) := by decide +kernel
theorem dX12_run_124 : decode cX12_run 124 = .ok (.aload_n 0, 1) := by decide +kernel
theorem dX12_run_125 : decode cX12_run 125 = .ok (.aload_n 0, 1) := by decide +kernel
theorem dX12_run_126 : decode cX12_run 126 = .ok (.getfield 518, 3) := by decide +kernel
theorem dX12_run_129 : decode cX12_run 129 = .ok (.iconst 1, 1) := by decide +kernel
theorem dX12_run_130 : decode cX12_run 130 = .ok (.isub, 1) := by decide +kernel
theorem dX12_run_131 : decode cX12_run 131 = .ok (.invokevirtual 521, 3) := by decide +kernel
theorem dX12_run_134 : decode cX12_run 134 = .ok (.istore_n 3, 1) := by decide +kernel
theorem dX12_run_135 : decode cX12_run 135 = .ok (.iload_n 3, 1) := by decide +kernel
theorem dX12_run_136 : decode cX12_run 136 = .ok (.ifCond .eq 10, 3) := by decide +kernel
theorem dX12_run_139 : decode cX12_run 139 = .ok (.aload_n 0, 1) := by decide +kernel
theorem dX12_run_140 : decode cX12_run 140 = .ok (.getfield 371, 3) := by decide +kernel
theorem dX12_run_143 : decode cX12_run 143 = .ok (.ifCond .ne 65, 3) := by decide +kernel
theorem dX12_run_146 : decode cX12_run 146 = .ok (.aload_n 0, 1) := by decide +kernel
theorem dX12_run_147 : decode cX12_run 147 = .ok (.iload_n 1, 1) := by decide +kernel
theorem dX12_run_148 : decode cX12_run 148 = .ok (.putfield 343, 3) := by decide +kernel
theorem dX12_run_151 : decode cX12_run 151 = .ok (.aload_n 0, 1) := by decide +kernel
theorem dX12_run_152 : decode cX12_run 152 = .ok (.iload_n 2, 1) := by decide +kernel
theorem dX12_run_153 : decode cX12_run 153 = .ok (.putfield 160, 3) := by decide +kernel
theorem dX12_run_156 : decode cX12_run 156 = .ok (.aload_n 0, 1) := by decide +kernel
theorem dX12_run_157 : decode cX12_run 157 = .ok (.dup, 1) := by decide +kernel
theorem dX12_run_158 : decode cX12_run 158 = .ok (.getfield 518, 3) := by decide +kernel
theorem dX12_run_161 : decode cX12_run 161 = .ok (.iconst 1, 1) := by decide +kernel
theorem dX12_run_162 : decode cX12_run 162 = .ok (.isub, 1) := by decide +kernel
theorem dX12_run_163 : decode cX12_run 163 = .ok (.putfield 518, 3) := by decide +kernel
theorem dX12_run_166 : decode cX12_run 166 = .ok (.iload_n 3, 1) := by decide +kernel
theorem dX12_run_167 : decode cX12_run 167 = .ok (.ifCond .eq 41, 3) := by decide +kernel
theorem dX12_run_170 : decode cX12_run 170 = .ok (.aload_n 0, 1) := by decide +kernel
theorem dX12_run_171 : decode cX12_run 171 = .ok (.getfield 170, 3) := by decide +kernel
theorem dX12_run_174 : decode cX12_run 174 = .ok (.sipush 600, 3) := by decide +kernel
theorem dX12_run_177 : decode cX12_run 177 = .ok (.iload_n 2, 1) := by decide +kernel
theorem dX12_run_178 : decode cX12_run 178 = .ok (.iconst 1, 1) := by decide +kernel
theorem dX12_run_179 : decode cX12_run 179 = .ok (.isub, 1) := by decide +kernel
theorem dX12_run_180 : decode cX12_run 180 = .ok (.invokestatic 251, 3) := by decide +kernel
theorem dX12_run_183 : decode cX12_run 183 = .ok (.ifCond .ne 25, 3) := by decide +kernel
theorem dX12_run_186 : decode cX12_run 186 = .ok (.aload_n 0, 1) := by decide +kernel
theorem dX12_run_187 : decode cX12_run 187 = .ok (.invokevirtual 217, 3) := by decide +kernel
theorem dX12_run_190 : decode cX12_run 190 = .ok (.istore 4, 2) := by decide +kernel
theorem dX12_run_192 : decode cX12_run 192 = .ok (.aload_n 0, 1) := by decide +kernel
theorem dX12_run_193 : decode cX12_run 193 = .ok (.iload 4, 2) := by decide +kernel
theorem dX12_run_195 : decode cX12_run 195 = .ok (.aload_n 0, 1) := by decide +kernel
theorem dX12_run_196 : decode cX12_run 196 = .ok (.getfield 170, 3) := by decide +kernel
theorem dX12_run_199 : decode cX12_run 199 = .ok (.invokevirtual 221, 3) := by decide +kernel
theorem dX12_run_202 : decode cX12_run 202 = .ok (.aload_n 0, 1) := by decide +kernel
theorem dX12_run_203 : decode cX12_run 203 = .ok (.iload 4, 2) := by decide +kernel
theorem dX12_run_205 : decode cX12_run 205 = .ok (.putfield 170, 3) := by decide +kernel
theorem dX12_run_208 : decode cX12_run 208 = .ok (.aload_n 0, 1) := by decide +kernel
theorem dX12_run_209 : decode cX12_run 209 = .ok (.iload_n 3, 1) := by decide +kernel
theorem dX12_run_210 : decode cX12_run 210 = .ok (.iconst 2, 1) := by decide +kernel
theorem dX12_run_211 : decode cX12_run 211 = .ok (.invokevirtual 291, 3) := by decide +kernel
theorem dX12_run_214 : decode cX12_run 214 = .ok (.ifCond .eq 7, 3) := by decide +kernel
theorem dX12_run_217 : decode cX12_run 217 = .ok (.iconst 0, 1) := by decide +kernel
theorem dX12_run_218 : decode cX12_run 218 = .ok (.goto 7, 3) := by decide +kernel
theorem dX12_run_221 : decode cX12_run 221 = .ok (.aload_n 0, 1) := by decide +kernel
theorem dX12_run_222 : decode cX12_run 222 = .ok (.getfield 371, 3) := by decide +kernel
theorem dX12_run_225 : decode cX12_run 225 = .ok (.ireturn, 1) := by decide +kernel
theorem dX12_errorPosition_0 : decode cX12_errorPosition 0 = .ok (.aload_n 0, 1) := by decide +kernel
theorem dX12_errorPosition_1 : decode cX12_errorPosition 1 = .ok (.iconst 0, 1) := by decide +kernel
theorem dX12_errorPosition_2 : decode cX12_errorPosition 2 = .ok (.putfield 1, 3) := by decide +kernel
theorem dX12_errorPosition_5 : decode cX12_errorPosition 5 = .ok (.aload_n 0, 1) := by decide +kernel
theorem dX12_errorPosition_6 : decode cX12_errorPosition 6 = .ok (.getfield 30, 3) := by decide +kernel
theorem dX12_errorPosition_9 : decode cX12_errorPosition 9 = .ok (.ireturn, 1) := by decide +kernel
theorem dX12_refused_0 : decode cX12_refused 0 = .ok (.aload_n 0, 1) := by decide +kernel
theorem dX12_refused_1 : decode cX12_refused 1 = .ok (.iconst 0, 1) := by decide +kernel
theorem dX12_refused_2 : decode cX12_refused 2 = .ok (.putfield 1, 3) := by decide +kernel
theorem dX12_refused_5 : decode cX12_refused 5 = .ok (.aload_n 0, 1) := by decide +kernel
theorem dX12_refused_6 : decode cX12_refused 6 = .ok (.iload_n 1, 1) := by decide +kernel
theorem dX12_refused_7 : decode cX12_refused 7 = .ok (.iconst 0, 1) := by decide +kernel
theorem dX12_refused_8 : decode cX12_refused 8 = .ok (.iconst 1, 1) := by decide +kernel
theorem dX12_refused_9 : decode cX12_refused 9 = .ok (.invokestatic 251, 3) := by decide +kernel
theorem dX12_refused_12 : decode cX12_refused 12 = .ok (.iconst 1, 1) := by decide +kernel
theorem dX12_refused_13 : decode cX12_refused 13 = .ok (.invokevirtual 291, 3) := by decide +kernel
theorem dX12_refused_16 : decode cX12_refused 16 = .ok (.ifCond .eq 5, 3) := by decide +kernel
theorem dX12_refused_19 : decode cX12_refused 19 = .ok (.iconst 0, 1) := by decide +kernel
theorem dX12_refused_20 : decode cX12_refused 20 = .ok (.ireturn, 1) := by decide +kernel
theorem dX12_refused_21 : decode cX12_refused 21 = .ok (.iload_n 1, 1) := by decide +kernel
theorem dX12_refused_22 : decode cX12_refused 22 = .ok (.ifCond .ne 10, 3) := by decide +kernel
theorem dX12_refused_25 : decode cX12_refused 25 = .ok (.aload_n 0, 1) := by decide +kernel
theorem dX12_refused_26 : decode cX12_refused 26 = .ok (.getfield 82, 3) := by decide +kernel
theorem dX12_refused_29 : decode cX12_refused 29 = .ok (.goto 7, 3) := by decide +kernel
theorem dX12_refused_32 : decode cX12_refused 32 = .ok (.aload_n 0, 1) := by decide +kernel
theorem dX12_refused_33 : decode cX12_refused 33 = .ok (.getfield 85, 3) := by decide +kernel
theorem dX12_refused_36 : decode cX12_refused 36 = .ok (.ireturn, 1) := by decide +kernel
theorem dX12_failed_0 : decode cX12_failed 0 = .ok (.aload_n 0, 1) := by decide +kernel
theorem dX12_failed_1 : decode cX12_failed 1 = .ok (.iconst 0, 1) := by decide +kernel
theorem dX12_failed_2 : decode cX12_failed 2 = .ok (.putfield 1, 3) := by decide +kernel
theorem dX12_failed_5 : decode cX12_failed 5 = .ok (.aload_n 0, 1) := by decide +kernel
theorem dX12_failed_6 : decode cX12_failed 6 = .ok (.getfield 88, 3) := by decide +kernel
theorem dX12_failed_9 : decode cX12_failed 9 = .ok (.ireturn, 1) := by decide +kernel
theorem dX12_ring_0 : decode cX12_ring 0 = .ok (.aload_n 0, 1) := by decide +kernel
theorem dX12_ring_1 : decode cX12_ring 1 = .ok (.iconst 0, 1) := by decide +kernel
theorem dX12_ring_2 : decode cX12_ring 2 = .ok (.putfield 1, 3) := by decide +kernel
theorem dX12_ring_5 : decode cX12_ring 5 = .ok (.aload_n 0, 1) := by decide +kernel
theorem dX12_ring_6 : decode cX12_ring 6 = .ok (.getfield 437, 3) := by decide +kernel
theorem dX12_ring_9 : decode cX12_ring 9 = .ok (.ireturn, 1) := by decide +kernel
theorem dX12_ringAt_0 : decode cX12_ringAt 0 = .ok (.aload_n 0, 1) := by decide +kernel
theorem dX12_ringAt_1 : decode cX12_ringAt 1 = .ok (.iconst 0, 1) := by decide +kernel
theorem dX12_ringAt_2 : decode cX12_ringAt 2 = .ok (.putfield 1, 3) := by decide +kernel
theorem dX12_ringAt_5 : decode cX12_ringAt 5 = .ok (.aload_n 0, 1) := by decide +kernel
theorem dX12_ringAt_6 : decode cX12_ringAt 6 = .ok (.iload_n 1, 1) := by decide +kernel
theorem dX12_ringAt_7 : decode cX12_ringAt 7 = .ok (.iconst 0, 1) := by decide +kernel
theorem dX12_ringAt_8 : decode cX12_ringAt 8 = .ok (.aload_n 0, 1) := by decide +kernel
theorem dX12_ringAt_9 : decode cX12_ringAt 9 = .ok (.getfield 437, 3) := by decide +kernel
theorem dX12_ringAt_12 : decode cX12_ringAt 12 = .ok (.iconst 1, 1) := by decide +kernel
theorem dX12_ringAt_13 : decode cX12_ringAt 13 = .ok (.isub, 1) := by decide +kernel
theorem dX12_ringAt_14 : decode cX12_ringAt 14 = .ok (.invokestatic 251, 3) := by decide +kernel
theorem dX12_ringAt_17 : decode cX12_ringAt 17 = .ok (.iconst 1, 1) := by decide +kernel
theorem dX12_ringAt_18 : decode cX12_ringAt 18 = .ok (.invokevirtual 291, 3) := by decide +kernel
theorem dX12_ringAt_21 : decode cX12_ringAt 21 = .ok (.ifCond .eq 7, 3) := by decide +kernel
theorem dX12_ringAt_24 : decode cX12_ringAt 24 = .ok (.iconst 0, 1) := by decide +kernel
theorem dX12_ringAt_25 : decode cX12_ringAt 25 = .ok (.goto 9, 3) := by decide +kernel
theorem dX12_ringAt_28 : decode cX12_ringAt 28 = .ok (.aload_n 0, 1) := by decide +kernel
theorem dX12_ringAt_29 : decode cX12_ringAt 29 = .ok (.getfield 130, 3) := by decide +kernel
theorem dX12_ringAt_32 : decode cX12_ringAt 32 = .ok (.iload_n 1, 1) := by decide +kernel
theorem dX12_ringAt_33 : decode cX12_ringAt 33 = .ok (.iaload, 1) := by decide +kernel
theorem dX12_ringAt_34 : decode cX12_ringAt 34 = .ok (.ireturn, 1) := by decide +kernel
theorem dX12_writesState_0 : decode cX12_writesState 0 = .ok (.iload_n 2, 1) := by decide +kernel
theorem dX12_writesState_1 : decode cX12_writesState 1 = .ok (.istore_n 3, 1) := by decide +kernel
theorem dX12_writesState_2 : decode cX12_writesState 2 = .ok (.aload_n 1, 1) := by decide +kernel
theorem dX12_writesState_3 : decode cX12_writesState 3 = .ok (.iload_n 3, 1) := by decide +kernel
theorem dX12_writesState_4 : decode cX12_writesState 4 = .ok (.aload_n 0, 1) := by decide +kernel
theorem dX12_writesState_5 : decode cX12_writesState 5 = .ok (.getfield 411, 3) := by decide +kernel
theorem dX12_writesState_8 : decode cX12_writesState 8 = .ok (.iastore, 1) := by decide +kernel
theorem dX12_writesState_9 : decode cX12_writesState 9 = .ok (.aload_n 1, 1) := by decide +kernel
theorem dX12_writesState_10 : decode cX12_writesState 10 = .ok (.iload_n 3, 1) := by decide +kernel
theorem dX12_writesState_11 : decode cX12_writesState 11 = .ok (.iconst 1, 1) := by decide +kernel
theorem dX12_writesState_12 : decode cX12_writesState 12 = .ok (.iadd, 1) := by decide +kernel
theorem dX12_writesState_13 : decode cX12_writesState 13 = .ok (.aload_n 0, 1) := by decide +kernel
theorem dX12_writesState_14 : decode cX12_writesState 14 = .ok (.getfield 408, 3) := by decide +kernel
theorem dX12_writesState_17 : decode cX12_writesState 17 = .ok (.iastore, 1) := by decide +kernel
theorem dX12_writesState_18 : decode cX12_writesState 18 = .ok (.iinc 3 2, 3) := by decide +kernel
theorem dX12_writesState_21 : decode cX12_writesState 21 = .ok (.iconst 0, 1) := by decide +kernel
theorem dX12_writesState_22 : decode cX12_writesState 22 = .ok (.istore 4, 2) := by decide +kernel
theorem dX12_writesState_24 : decode cX12_writesState 24 = .ok (.iload 4, 2) := by decide +kernel
theorem dX12_writesState_26 : decode cX12_writesState 26 = .ok (.bipush 30, 2) := by decide +kernel
theorem dX12_writesState_28 : decode cX12_writesState 28 = .ok (.if_icmp .ge 46, 3) := by decide +kernel
theorem dX12_writesState_31 : decode cX12_writesState 31 = .ok (.aload_n 1, 1) := by decide +kernel
theorem dX12_writesState_32 : decode cX12_writesState 32 = .ok (.iload_n 3, 1) := by decide +kernel
theorem dX12_writesState_33 : decode cX12_writesState 33 = .ok (.aload_n 0, 1) := by decide +kernel
theorem dX12_writesState_34 : decode cX12_writesState 34 = .ok (.getfield 69, 3) := by decide +kernel
theorem dX12_writesState_37 : decode cX12_writesState 37 = .ok (.iload 4, 2) := by decide +kernel
theorem dX12_writesState_39 : decode cX12_writesState 39 = .ok (.iaload, 1) := by decide +kernel
theorem dX12_writesState_40 : decode cX12_writesState 40 = .ok (.iastore, 1) := by decide +kernel
theorem dX12_writesState_41 : decode cX12_writesState 41 = .ok (.aload_n 1, 1) := by decide +kernel
theorem dX12_writesState_42 : decode cX12_writesState 42 = .ok (.iload_n 3, 1) := by decide +kernel
theorem dX12_writesState_43 : decode cX12_writesState 43 = .ok (.iconst 1, 1) := by decide +kernel
theorem dX12_writesState_44 : decode cX12_writesState 44 = .ok (.iadd, 1) := by decide +kernel
theorem dX12_writesState_45 : decode cX12_writesState 45 = .ok (.aload_n 0, 1) := by decide +kernel
theorem dX12_writesState_46 : decode cX12_writesState 46 = .ok (.getfield 72, 3) := by decide +kernel
theorem dX12_writesState_49 : decode cX12_writesState 49 = .ok (.iload 4, 2) := by decide +kernel
theorem dX12_writesState_51 : decode cX12_writesState 51 = .ok (.iaload, 1) := by decide +kernel
theorem dX12_writesState_52 : decode cX12_writesState 52 = .ok (.iastore, 1) := by decide +kernel
theorem dX12_writesState_53 : decode cX12_writesState 53 = .ok (.aload_n 1, 1) := by decide +kernel
theorem dX12_writesState_54 : decode cX12_writesState 54 = .ok (.iload_n 3, 1) := by decide +kernel
theorem dX12_writesState_55 : decode cX12_writesState 55 = .ok (.iconst 2, 1) := by decide +kernel
theorem dX12_writesState_56 : decode cX12_writesState 56 = .ok (.iadd, 1) := by decide +kernel
theorem dX12_writesState_57 : decode cX12_writesState 57 = .ok (.aload_n 0, 1) := by decide +kernel
theorem dX12_writesState_58 : decode cX12_writesState 58 = .ok (.getfield 75, 3) := by decide +kernel
theorem dX12_writesState_61 : decode cX12_writesState 61 = .ok (.iload 4, 2) := by decide +kernel
theorem dX12_writesState_63 : decode cX12_writesState 63 = .ok (.iaload, 1) := by decide +kernel
theorem dX12_writesState_64 : decode cX12_writesState 64 = .ok (.iastore, 1) := by decide +kernel
theorem dX12_writesState_65 : decode cX12_writesState 65 = .ok (.iinc 3 3, 3) := by decide +kernel
theorem dX12_writesState_68 : decode cX12_writesState 68 = .ok (.iinc 4 1, 3) := by decide +kernel
theorem dX12_writesState_71 : decode cX12_writesState 71 = .ok (.goto (-47), 3) := by decide +kernel
theorem dX12_writesState_74 : decode cX12_writesState 74 = .ok (.iconst 0, 1) := by decide +kernel
theorem dX12_writesState_75 : decode cX12_writesState 75 = .ok (.istore 4, 2) := by decide +kernel
theorem dX12_writesState_77 : decode cX12_writesState 77 = .ok (.iload 4, 2) := by decide +kernel
theorem dX12_writesState_79 : decode cX12_writesState 79 = .ok (.iconst 3, 1) := by decide +kernel
theorem dX12_writesState_80 : decode cX12_writesState 80 = .ok (.if_icmp .ge 57, 3) := by decide +kernel
theorem dX12_writesState_83 : decode cX12_writesState 83 = .ok (.aload_n 1, 1) := by decide +kernel
theorem dX12_writesState_84 : decode cX12_writesState 84 = .ok (.iload_n 3, 1) := by decide +kernel
theorem dX12_writesState_85 : decode cX12_writesState 85 = .ok (.aload_n 0, 1) := by decide +kernel
theorem dX12_writesState_86 : decode cX12_writesState 86 = .ok (.getfield 136, 3) := by decide +kernel
theorem dX12_writesState_89 : decode cX12_writesState 89 = .ok (.iload 4, 2) := by decide +kernel
theorem dX12_writesState_91 : decode cX12_writesState 91 = .ok (.iaload, 1) := by decide +kernel
theorem dX12_writesState_92 : decode cX12_writesState 92 = .ok (.iastore, 1) := by decide +kernel
theorem dX12_writesState_93 : decode cX12_writesState 93 = .ok (.iinc 3 1, 3) := by decide +kernel
theorem dX12_writesState_96 : decode cX12_writesState 96 = .ok (.iconst 0, 1) := by decide +kernel
theorem dX12_writesState_97 : decode cX12_writesState 97 = .ok (.istore 5, 2) := by decide +kernel
theorem dX12_writesState_99 : decode cX12_writesState 99 = .ok (.iload 5, 2) := by decide +kernel
theorem dX12_writesState_101 : decode cX12_writesState 101 = .ok (.bipush 50, 2) := by decide +kernel
theorem dX12_writesState_103 : decode cX12_writesState 103 = .ok (.if_icmp .ge 28, 3) := by decide +kernel
theorem dX12_writesState_106 : decode cX12_writesState 106 = .ok (.aload_n 1, 1) := by decide +kernel
theorem dX12_writesState_107 : decode cX12_writesState 107 = .ok (.iload_n 3, 1) := by decide +kernel
theorem dX12_writesState_108 : decode cX12_writesState 108 = .ok (.aload_n 0, 1) := by decide +kernel
theorem dX12_writesState_109 : decode cX12_writesState 109 = .ok (.getfield 133, 3) := by decide +kernel
theorem dX12_writesState_112 : decode cX12_writesState 112 = .ok (.bipush 50, 2) := by decide +kernel
theorem dX12_writesState_114 : decode cX12_writesState 114 = .ok (.iload 4, 2) := by decide +kernel
theorem dX12_writesState_116 : decode cX12_writesState 116 = .ok (.imul, 1) := by decide +kernel
theorem dX12_writesState_117 : decode cX12_writesState 117 = .ok (.iload 5, 2) := by decide +kernel
theorem dX12_writesState_119 : decode cX12_writesState 119 = .ok (.iadd, 1) := by decide +kernel
theorem dX12_writesState_120 : decode cX12_writesState 120 = .ok (.iaload, 1) := by decide +kernel
theorem dX12_writesState_121 : decode cX12_writesState 121 = .ok (.iastore, 1) := by decide +kernel
theorem dX12_writesState_122 : decode cX12_writesState 122 = .ok (.iinc 3 1, 3) := by decide +kernel
theorem dX12_writesState_125 : decode cX12_writesState 125 = .ok (.iinc 5 1, 3) := by decide +kernel
theorem dX12_writesState_128 : decode cX12_writesState 128 = .ok (.goto (-29), 3) := by decide +kernel
theorem dX12_writesState_131 : decode cX12_writesState 131 = .ok (.iinc 4 1, 3) := by decide +kernel
theorem dX12_writesState_134 : decode cX12_writesState 134 = .ok (.goto (-57), 3) := by decide +kernel
theorem dX12_writesState_137 : decode cX12_writesState 137 = .ok (.return_, 1) := by decide +kernel
theorem dX12_readsState_0 : decode cX12_readsState 0 = .ok (.iload_n 2, 1) := by decide +kernel
theorem dX12_readsState_1 : decode cX12_readsState 1 = .ok (.istore_n 3, 1) := by decide +kernel
theorem dX12_readsState_2 : decode cX12_readsState 2 = .ok (.aload_n 0, 1) := by decide +kernel
theorem dX12_readsState_3 : decode cX12_readsState 3 = .ok (.aload_n 1, 1) := by decide +kernel
theorem dX12_readsState_4 : decode cX12_readsState 4 = .ok (.iload_n 3, 1) := by decide +kernel
theorem dX12_readsState_5 : decode cX12_readsState 5 = .ok (.iaload, 1) := by decide +kernel
theorem dX12_readsState_6 : decode cX12_readsState 6 = .ok (.putfield 411, 3) := by decide +kernel
theorem dX12_readsState_9 : decode cX12_readsState 9 = .ok (.aload_n 0, 1) := by decide +kernel
theorem dX12_readsState_10 : decode cX12_readsState 10 = .ok (.aload_n 1, 1) := by decide +kernel
theorem dX12_readsState_11 : decode cX12_readsState 11 = .ok (.iload_n 3, 1) := by decide +kernel
theorem dX12_readsState_12 : decode cX12_readsState 12 = .ok (.iconst 1, 1) := by decide +kernel
theorem dX12_readsState_13 : decode cX12_readsState 13 = .ok (.iadd, 1) := by decide +kernel
theorem dX12_readsState_14 : decode cX12_readsState 14 = .ok (.iaload, 1) := by decide +kernel
theorem dX12_readsState_15 : decode cX12_readsState 15 = .ok (.putfield 408, 3) := by decide +kernel
theorem dX12_readsState_18 : decode cX12_readsState 18 = .ok (.iinc 3 2, 3) := by decide +kernel
theorem dX12_readsState_21 : decode cX12_readsState 21 = .ok (.iconst 0, 1) := by decide +kernel
theorem dX12_readsState_22 : decode cX12_readsState 22 = .ok (.istore 4, 2) := by decide +kernel
theorem dX12_readsState_24 : decode cX12_readsState 24 = .ok (.iload 4, 2) := by decide +kernel
theorem dX12_readsState_26 : decode cX12_readsState 26 = .ok (.bipush 30, 2) := by decide +kernel
theorem dX12_readsState_28 : decode cX12_readsState 28 = .ok (.if_icmp .ge 46, 3) := by decide +kernel
theorem dX12_readsState_31 : decode cX12_readsState 31 = .ok (.aload_n 0, 1) := by decide +kernel
theorem dX12_readsState_32 : decode cX12_readsState 32 = .ok (.getfield 69, 3) := by decide +kernel
theorem dX12_readsState_35 : decode cX12_readsState 35 = .ok (.iload 4, 2) := by decide +kernel
theorem dX12_readsState_37 : decode cX12_readsState 37 = .ok (.aload_n 1, 1) := by decide +kernel
theorem dX12_readsState_38 : decode cX12_readsState 38 = .ok (.iload_n 3, 1) := by decide +kernel
theorem dX12_readsState_39 : decode cX12_readsState 39 = .ok (.iaload, 1) := by decide +kernel
theorem dX12_readsState_40 : decode cX12_readsState 40 = .ok (.iastore, 1) := by decide +kernel
theorem dX12_readsState_41 : decode cX12_readsState 41 = .ok (.aload_n 0, 1) := by decide +kernel
theorem dX12_readsState_42 : decode cX12_readsState 42 = .ok (.getfield 72, 3) := by decide +kernel
theorem dX12_readsState_45 : decode cX12_readsState 45 = .ok (.iload 4, 2) := by decide +kernel
theorem dX12_readsState_47 : decode cX12_readsState 47 = .ok (.aload_n 1, 1) := by decide +kernel
theorem dX12_readsState_48 : decode cX12_readsState 48 = .ok (.iload_n 3, 1) := by decide +kernel
theorem dX12_readsState_49 : decode cX12_readsState 49 = .ok (.iconst 1, 1) := by decide +kernel
theorem dX12_readsState_50 : decode cX12_readsState 50 = .ok (.iadd, 1) := by decide +kernel
theorem dX12_readsState_51 : decode cX12_readsState 51 = .ok (.iaload, 1) := by decide +kernel
theorem dX12_readsState_52 : decode cX12_readsState 52 = .ok (.iastore, 1) := by decide +kernel
theorem dX12_readsState_53 : decode cX12_readsState 53 = .ok (.aload_n 0, 1) := by decide +kernel
theorem dX12_readsState_54 : decode cX12_readsState 54 = .ok (.getfield 75, 3) := by decide +kernel
theorem dX12_readsState_57 : decode cX12_readsState 57 = .ok (.iload 4, 2) := by decide +kernel
theorem dX12_readsState_59 : decode cX12_readsState 59 = .ok (.aload_n 1, 1) := by decide +kernel
theorem dX12_readsState_60 : decode cX12_readsState 60 = .ok (.iload_n 3, 1) := by decide +kernel
theorem dX12_readsState_61 : decode cX12_readsState 61 = .ok (.iconst 2, 1) := by decide +kernel
theorem dX12_readsState_62 : decode cX12_readsState 62 = .ok (.iadd, 1) := by decide +kernel
theorem dX12_readsState_63 : decode cX12_readsState 63 = .ok (.iaload, 1) := by decide +kernel
theorem dX12_readsState_64 : decode cX12_readsState 64 = .ok (.iastore, 1) := by decide +kernel
theorem dX12_readsState_65 : decode cX12_readsState 65 = .ok (.iinc 3 3, 3) := by decide +kernel
theorem dX12_readsState_68 : decode cX12_readsState 68 = .ok (.iinc 4 1, 3) := by decide +kernel
theorem dX12_readsState_71 : decode cX12_readsState 71 = .ok (.goto (-47), 3) := by decide +kernel
theorem dX12_readsState_74 : decode cX12_readsState 74 = .ok (.iconst 0, 1) := by decide +kernel
theorem dX12_readsState_75 : decode cX12_readsState 75 = .ok (.istore 4, 2) := by decide +kernel
theorem dX12_readsState_77 : decode cX12_readsState 77 = .ok (.iload 4, 2) := by decide +kernel
theorem dX12_readsState_79 : decode cX12_readsState 79 = .ok (.iconst 3, 1) := by decide +kernel
theorem dX12_readsState_80 : decode cX12_readsState 80 = .ok (.if_icmp .ge 57, 3) := by decide +kernel
theorem dX12_readsState_83 : decode cX12_readsState 83 = .ok (.aload_n 0, 1) := by decide +kernel
theorem dX12_readsState_84 : decode cX12_readsState 84 = .ok (.getfield 136, 3) := by decide +kernel
theorem dX12_readsState_87 : decode cX12_readsState 87 = .ok (.iload 4, 2) := by decide +kernel
theorem dX12_readsState_89 : decode cX12_readsState 89 = .ok (.aload_n 1, 1) := by decide +kernel
theorem dX12_readsState_90 : decode cX12_readsState 90 = .ok (.iload_n 3, 1) := by decide +kernel
theorem dX12_readsState_91 : decode cX12_readsState 91 = .ok (.iaload, 1) := by decide +kernel
theorem dX12_readsState_92 : decode cX12_readsState 92 = .ok (.iastore, 1) := by decide +kernel
theorem dX12_readsState_93 : decode cX12_readsState 93 = .ok (.iinc 3 1, 3) := by decide +kernel
theorem dX12_readsState_96 : decode cX12_readsState 96 = .ok (.iconst 0, 1) := by decide +kernel
theorem dX12_readsState_97 : decode cX12_readsState 97 = .ok (.istore 5, 2) := by decide +kernel
theorem dX12_readsState_99 : decode cX12_readsState 99 = .ok (.iload 5, 2) := by decide +kernel
theorem dX12_readsState_101 : decode cX12_readsState 101 = .ok (.bipush 50, 2) := by decide +kernel
theorem dX12_readsState_103 : decode cX12_readsState 103 = .ok (.if_icmp .ge 28, 3) := by decide +kernel
theorem dX12_readsState_106 : decode cX12_readsState 106 = .ok (.aload_n 0, 1) := by decide +kernel
theorem dX12_readsState_107 : decode cX12_readsState 107 = .ok (.getfield 133, 3) := by decide +kernel
theorem dX12_readsState_110 : decode cX12_readsState 110 = .ok (.bipush 50, 2) := by decide +kernel
theorem dX12_readsState_112 : decode cX12_readsState 112 = .ok (.iload 4, 2) := by decide +kernel
theorem dX12_readsState_114 : decode cX12_readsState 114 = .ok (.imul, 1) := by decide +kernel
theorem dX12_readsState_115 : decode cX12_readsState 115 = .ok (.iload 5, 2) := by decide +kernel
theorem dX12_readsState_117 : decode cX12_readsState 117 = .ok (.iadd, 1) := by decide +kernel
theorem dX12_readsState_118 : decode cX12_readsState 118 = .ok (.aload_n 1, 1) := by decide +kernel
theorem dX12_readsState_119 : decode cX12_readsState 119 = .ok (.iload_n 3, 1) := by decide +kernel
theorem dX12_readsState_120 : decode cX12_readsState 120 = .ok (.iaload, 1) := by decide +kernel
theorem dX12_readsState_121 : decode cX12_readsState 121 = .ok (.iastore, 1) := by decide +kernel
theorem dX12_readsState_122 : decode cX12_readsState 122 = .ok (.iinc 3 1, 3) := by decide +kernel
theorem dX12_readsState_125 : decode cX12_readsState 125 = .ok (.iinc 5 1, 3) := by decide +kernel
theorem dX12_readsState_128 : decode cX12_readsState 128 = .ok (.goto (-29), 3) := by decide +kernel
theorem dX12_readsState_131 : decode cX12_readsState 131 = .ok (.iinc 4 1, 3) := by decide +kernel
theorem dX12_readsState_134 : decode cX12_readsState 134 = .ok (.goto (-57), 3) := by decide +kernel
theorem dX12_readsState_137 : decode cX12_readsState 137 = .ok (.return_, 1) := by decide +kernel
theorem dX12_saves_0 : decode cX12_saves 0 = .ok (.aload_n 0, 1) := by decide +kernel
theorem dX12_saves_1 : decode cX12_saves 1 = .ok (.aload_n 0, 1) := by decide +kernel
theorem dX12_saves_2 : decode cX12_saves 2 = .ok (.getfield 139, 3) := by decide +kernel
theorem dX12_saves_5 : decode cX12_saves 5 = .ok (.iconst 0, 1) := by decide +kernel
theorem dX12_saves_6 : decode cX12_saves 6 = .ok (.invokevirtual 524, 3) := by decide +kernel
theorem dX12_saves_9 : decode cX12_saves 9 = .ok (.return_, 1) := by decide +kernel
theorem dX12_forgets_0 : decode cX12_forgets 0 = .ok (.aload_n 0, 1) := by decide +kernel
theorem dX12_forgets_1 : decode cX12_forgets 1 = .ok (.aload_n 0, 1) := by decide +kernel
theorem dX12_forgets_2 : decode cX12_forgets 2 = .ok (.getfield 139, 3) := by decide +kernel
theorem dX12_forgets_5 : decode cX12_forgets 5 = .ok (.iconst 0, 1) := by decide +kernel
theorem dX12_forgets_6 : decode cX12_forgets 6 = .ok (.invokevirtual 528, 3) := by decide +kernel
theorem dX12_forgets_9 : decode cX12_forgets 9 = .ok (.return_, 1) := by decide +kernel
theorem dX12_changes_0 : decode cX12_changes 0 = .ok (.aload_n 0, 1) := by decide +kernel
theorem dX12_changes_1 : decode cX12_changes 1 = .ok (.getfield 531, 3) := by decide +kernel
theorem dX12_changes_4 : decode cX12_changes 4 = .ok (.bipush 20, 2) := by decide +kernel
theorem dX12_changes_6 : decode cX12_changes 6 = .ok (.if_icmp .ne 44, 3) := by decide +kernel
theorem dX12_changes_9 : decode cX12_changes 9 = .ok (.iconst 0, 1) := by decide +kernel
theorem dX12_changes_10 : decode cX12_changes 10 = .ok (.istore_n 1, 1) := by decide +kernel
theorem dX12_changes_11 : decode cX12_changes 11 = .ok (.iload_n 1, 1) := by decide +kernel
theorem dX12_changes_12 : decode cX12_changes 12 = .ok (.sipush 4788, 3) := by decide +kernel
theorem dX12_changes_15 : decode cX12_changes 15 = .ok (.if_icmp .ge 25, 3) := by decide +kernel
theorem dX12_changes_18 : decode cX12_changes 18 = .ok (.aload_n 0, 1) := by decide +kernel
theorem dX12_changes_19 : decode cX12_changes 19 = .ok (.getfield 142, 3) := by decide +kernel
theorem dX12_changes_22 : decode cX12_changes 22 = .ok (.iload_n 1, 1) := by decide +kernel
theorem dX12_changes_23 : decode cX12_changes 23 = .ok (.aload_n 0, 1) := by decide +kernel
theorem dX12_changes_24 : decode cX12_changes 24 = .ok (.getfield 142, 3) := by decide +kernel
theorem dX12_changes_27 : decode cX12_changes 27 = .ok (.iload_n 1, 1) := by decide +kernel
theorem dX12_changes_28 : decode cX12_changes 28 = .ok (.sipush 252, 3) := by decide +kernel
theorem dX12_changes_31 : decode cX12_changes 31 = .ok (.iadd, 1) := by decide +kernel
theorem dX12_changes_32 : decode cX12_changes 32 = .ok (.iaload, 1) := by decide +kernel
theorem dX12_changes_33 : decode cX12_changes 33 = .ok (.iastore, 1) := by decide +kernel
theorem dX12_changes_34 : decode cX12_changes 34 = .ok (.iinc 1 1, 3) := by decide +kernel
theorem dX12_changes_37 : decode cX12_changes 37 = .ok (.goto (-26), 3) := by decide +kernel
theorem dX12_changes_40 : decode cX12_changes 40 = .ok (.aload_n 0, 1) := by decide +kernel
theorem dX12_changes_41 : decode cX12_changes 41 = .ok (.dup, 1) := by decide +kernel
theorem dX12_changes_42 : decode cX12_changes 42 = .ok (.getfield 531, 3) := by decide +kernel
theorem dX12_changes_45 : decode cX12_changes 45 = .ok (.iconst 1, 1) := by decide +kernel
theorem dX12_changes_46 : decode cX12_changes 46 = .ok (.isub, 1) := by decide +kernel
theorem dX12_changes_47 : decode cX12_changes 47 = .ok (.putfield 531, 3) := by decide +kernel
theorem dX12_changes_50 : decode cX12_changes 50 = .ok (.iconst 0, 1) := by decide +kernel
theorem dX12_changes_51 : decode cX12_changes 51 = .ok (.istore_n 1, 1) := by decide +kernel
theorem dX12_changes_52 : decode cX12_changes 52 = .ok (.iload_n 1, 1) := by decide +kernel
theorem dX12_changes_53 : decode cX12_changes 53 = .ok (.sipush 252, 3) := by decide +kernel
theorem dX12_changes_56 : decode cX12_changes 56 = .ok (.if_icmp .ge 30, 3) := by decide +kernel
theorem dX12_changes_59 : decode cX12_changes 59 = .ok (.aload_n 0, 1) := by decide +kernel
theorem dX12_changes_60 : decode cX12_changes 60 = .ok (.getfield 142, 3) := by decide +kernel
theorem dX12_changes_63 : decode cX12_changes 63 = .ok (.sipush 252, 3) := by decide +kernel
theorem dX12_changes_66 : decode cX12_changes 66 = .ok (.aload_n 0, 1) := by decide +kernel
theorem dX12_changes_67 : decode cX12_changes 67 = .ok (.getfield 531, 3) := by decide +kernel
theorem dX12_changes_70 : decode cX12_changes 70 = .ok (.imul, 1) := by decide +kernel
theorem dX12_changes_71 : decode cX12_changes 71 = .ok (.iload_n 1, 1) := by decide +kernel
theorem dX12_changes_72 : decode cX12_changes 72 = .ok (.iadd, 1) := by decide +kernel
theorem dX12_changes_73 : decode cX12_changes 73 = .ok (.aload_n 0, 1) := by decide +kernel
theorem dX12_changes_74 : decode cX12_changes 74 = .ok (.getfield 139, 3) := by decide +kernel
theorem dX12_changes_77 : decode cX12_changes 77 = .ok (.iload_n 1, 1) := by decide +kernel
theorem dX12_changes_78 : decode cX12_changes 78 = .ok (.iaload, 1) := by decide +kernel
theorem dX12_changes_79 : decode cX12_changes 79 = .ok (.iastore, 1) := by decide +kernel
theorem dX12_changes_80 : decode cX12_changes 80 = .ok (.iinc 1 1, 3) := by decide +kernel
theorem dX12_changes_83 : decode cX12_changes 83 = .ok (.goto (-31), 3) := by decide +kernel
theorem dX12_changes_86 : decode cX12_changes 86 = .ok (.aload_n 0, 1) := by decide +kernel
theorem dX12_changes_87 : decode cX12_changes 87 = .ok (.dup, 1) := by decide +kernel
theorem dX12_changes_88 : decode cX12_changes 88 = .ok (.getfield 531, 3) := by decide +kernel
theorem dX12_changes_91 : decode cX12_changes 91 = .ok (.iconst 1, 1) := by decide +kernel
theorem dX12_changes_92 : decode cX12_changes 92 = .ok (.iadd, 1) := by decide +kernel
theorem dX12_changes_93 : decode cX12_changes 93 = .ok (.putfield 531, 3) := by decide +kernel
theorem dX12_changes_96 : decode cX12_changes 96 = .ok (.aload_n 0, 1) := by decide +kernel
theorem dX12_changes_97 : decode cX12_changes 97 = .ok (.iconst 0, 1) := by decide +kernel
theorem dX12_changes_98 : decode cX12_changes 98 = .ok (.putfield 534, 3) := by decide +kernel
theorem dX12_changes_101 : decode cX12_changes 101 = .ok (.return_, 1) := by decide +kernel
theorem dX12_undo_0 : decode cX12_undo 0 = .ok (.aload_n 0, 1) := by decide +kernel
theorem dX12_undo_1 : decode cX12_undo 1 = .ok (.iconst 0, 1) := by decide +kernel
theorem dX12_undo_2 : decode cX12_undo 2 = .ok (.putfield 1, 3) := by decide +kernel
theorem dX12_undo_5 : decode cX12_undo 5 = .ok (.aload_n 0, 1) := by decide +kernel
theorem dX12_undo_6 : decode cX12_undo 6 = .ok (.getfield 531, 3) := by decide +kernel
theorem dX12_undo_9 : decode cX12_undo 9 = .ok (.ifCond .ne 5, 3) := by decide +kernel
theorem dX12_undo_12 : decode cX12_undo 12 = .ok (.iconst (-1), 1) := by decide +kernel
theorem dX12_undo_13 : decode cX12_undo 13 = .ok (.ireturn, 1) := by decide +kernel
theorem dX12_undo_14 : decode cX12_undo 14 = .ok (.aload_n 0, 1) := by decide +kernel
theorem dX12_undo_15 : decode cX12_undo 15 = .ok (.aload_n 0, 1) := by decide +kernel
theorem dX12_undo_16 : decode cX12_undo 16 = .ok (.getfield 145, 3) := by decide +kernel
theorem dX12_undo_19 : decode cX12_undo 19 = .ok (.sipush 252, 3) := by decide +kernel
theorem dX12_undo_22 : decode cX12_undo 22 = .ok (.aload_n 0, 1) := by decide +kernel
theorem dX12_undo_23 : decode cX12_undo 23 = .ok (.getfield 534, 3) := by decide +kernel
theorem dX12_undo_26 : decode cX12_undo 26 = .ok (.imul, 1) := by decide +kernel
theorem dX12_undo_27 : decode cX12_undo 27 = .ok (.invokevirtual 524, 3) := by decide +kernel
theorem dX12_undo_30 : decode cX12_undo 30 = .ok (.aload_n 0, 1) := by decide +kernel
theorem dX12_undo_31 : decode cX12_undo 31 = .ok (.dup, 1) := by decide +kernel
theorem dX12_undo_32 : decode cX12_undo 32 = .ok (.getfield 534, 3) := by decide +kernel
theorem dX12_undo_35 : decode cX12_undo 35 = .ok (.iconst 1, 1) := by decide +kernel
theorem dX12_undo_36 : decode cX12_undo 36 = .ok (.iadd, 1) := by decide +kernel
theorem dX12_undo_37 : decode cX12_undo 37 = .ok (.putfield 534, 3) := by decide +kernel
theorem dX12_undo_40 : decode cX12_undo 40 = .ok (.aload_n 0, 1) := by decide +kernel
theorem dX12_undo_41 : decode cX12_undo 41 = .ok (.dup, 1) := by decide +kernel
theorem dX12_undo_42 : decode cX12_undo 42 = .ok (.getfield 531, 3) := by decide +kernel
theorem dX12_undo_45 : decode cX12_undo 45 = .ok (.iconst 1, 1) := by decide +kernel
theorem dX12_undo_46 : decode cX12_undo 46 = .ok (.isub, 1) := by decide +kernel
theorem dX12_undo_47 : decode cX12_undo 47 = .ok (.putfield 531, 3) := by decide +kernel
theorem dX12_undo_50 : decode cX12_undo 50 = .ok (.aload_n 0, 1) := by decide +kernel
theorem dX12_undo_51 : decode cX12_undo 51 = .ok (.aload_n 0, 1) := by decide +kernel
theorem dX12_undo_52 : decode cX12_undo 52 = .ok (.getfield 142, 3) := by decide +kernel
theorem dX12_undo_55 : decode cX12_undo 55 = .ok (.sipush 252, 3) := by decide +kernel
theorem dX12_undo_58 : decode cX12_undo 58 = .ok (.aload_n 0, 1) := by decide +kernel
theorem dX12_undo_59 : decode cX12_undo 59 = .ok (.getfield 531, 3) := by decide +kernel
theorem dX12_undo_62 : decode cX12_undo 62 = .ok (.imul, 1) := by decide +kernel
theorem dX12_undo_63 : decode cX12_undo 63 = .ok (.invokevirtual 528, 3) := by decide +kernel
theorem dX12_undo_66 : decode cX12_undo 66 = .ok (.aload_n 0, 1) := by decide +kernel
theorem dX12_undo_67 : decode cX12_undo 67 = .ok (.getfield 531, 3) := by decide +kernel
theorem dX12_undo_70 : decode cX12_undo 70 = .ok (.ireturn, 1) := by decide +kernel
theorem dX12_redo_0 : decode cX12_redo 0 = .ok (.aload_n 0, 1) := by decide +kernel
theorem dX12_redo_1 : decode cX12_redo 1 = .ok (.iconst 0, 1) := by decide +kernel
theorem dX12_redo_2 : decode cX12_redo 2 = .ok (.putfield 1, 3) := by decide +kernel
theorem dX12_redo_5 : decode cX12_redo 5 = .ok (.aload_n 0, 1) := by decide +kernel
theorem dX12_redo_6 : decode cX12_redo 6 = .ok (.getfield 534, 3) := by decide +kernel
theorem dX12_redo_9 : decode cX12_redo 9 = .ok (.ifCond .ne 5, 3) := by decide +kernel
theorem dX12_redo_12 : decode cX12_redo 12 = .ok (.iconst (-1), 1) := by decide +kernel
theorem dX12_redo_13 : decode cX12_redo 13 = .ok (.ireturn, 1) := by decide +kernel
theorem dX12_redo_14 : decode cX12_redo 14 = .ok (.aload_n 0, 1) := by decide +kernel
theorem dX12_redo_15 : decode cX12_redo 15 = .ok (.aload_n 0, 1) := by decide +kernel
theorem dX12_redo_16 : decode cX12_redo 16 = .ok (.getfield 142, 3) := by decide +kernel
theorem dX12_redo_19 : decode cX12_redo 19 = .ok (.sipush 252, 3) := by decide +kernel
theorem dX12_redo_22 : decode cX12_redo 22 = .ok (.aload_n 0, 1) := by decide +kernel
theorem dX12_redo_23 : decode cX12_redo 23 = .ok (.getfield 531, 3) := by decide +kernel
theorem dX12_redo_26 : decode cX12_redo 26 = .ok (.imul, 1) := by decide +kernel
theorem dX12_redo_27 : decode cX12_redo 27 = .ok (.invokevirtual 524, 3) := by decide +kernel
theorem dX12_redo_30 : decode cX12_redo 30 = .ok (.aload_n 0, 1) := by decide +kernel
theorem dX12_redo_31 : decode cX12_redo 31 = .ok (.dup, 1) := by decide +kernel
theorem dX12_redo_32 : decode cX12_redo 32 = .ok (.getfield 531, 3) := by decide +kernel
theorem dX12_redo_35 : decode cX12_redo 35 = .ok (.iconst 1, 1) := by decide +kernel
theorem dX12_redo_36 : decode cX12_redo 36 = .ok (.iadd, 1) := by decide +kernel
theorem dX12_redo_37 : decode cX12_redo 37 = .ok (.putfield 531, 3) := by decide +kernel
theorem dX12_redo_40 : decode cX12_redo 40 = .ok (.aload_n 0, 1) := by decide +kernel
theorem dX12_redo_41 : decode cX12_redo 41 = .ok (.dup, 1) := by decide +kernel
theorem dX12_redo_42 : decode cX12_redo 42 = .ok (.getfield 534, 3) := by decide +kernel
theorem dX12_redo_45 : decode cX12_redo 45 = .ok (.iconst 1, 1) := by decide +kernel
theorem dX12_redo_46 : decode cX12_redo 46 = .ok (.isub, 1) := by decide +kernel
theorem dX12_redo_47 : decode cX12_redo 47 = .ok (.putfield 534, 3) := by decide +kernel
theorem dX12_redo_50 : decode cX12_redo 50 = .ok (.aload_n 0, 1) := by decide +kernel
theorem dX12_redo_51 : decode cX12_redo 51 = .ok (.aload_n 0, 1) := by decide +kernel
theorem dX12_redo_52 : decode cX12_redo 52 = .ok (.getfield 145, 3) := by decide +kernel
theorem dX12_redo_55 : decode cX12_redo 55 = .ok (.sipush 252, 3) := by decide +kernel
theorem dX12_redo_58 : decode cX12_redo 58 = .ok (.aload_n 0, 1) := by decide +kernel
theorem dX12_redo_59 : decode cX12_redo 59 = .ok (.getfield 534, 3) := by decide +kernel
theorem dX12_redo_62 : decode cX12_redo 62 = .ok (.imul, 1) := by decide +kernel
theorem dX12_redo_63 : decode cX12_redo 63 = .ok (.invokevirtual 528, 3) := by decide +kernel
theorem dX12_redo_66 : decode cX12_redo 66 = .ok (.aload_n 0, 1) := by decide +kernel
theorem dX12_redo_67 : decode cX12_redo 67 = .ok (.getfield 534, 3) := by decide +kernel
theorem dX12_redo_70 : decode cX12_redo 70 = .ok (.ireturn, 1) := by decide +kernel
theorem dX12_becomes_0 : decode cX12_becomes 0 = .ok (.aload_n 0, 1) := by decide +kernel
theorem dX12_becomes_1 : decode cX12_becomes 1 = .ok (.aload_n 0, 1) := by decide +kernel
theorem dX12_becomes_2 : decode cX12_becomes 2 = .ok (.iload_n 1, 1) := by decide +kernel
theorem dX12_becomes_3 : decode cX12_becomes 3 = .ok (.invokevirtual 482, 3) := by decide +kernel
theorem dX12_becomes_6 : decode cX12_becomes 6 = .ok (.putfield 170, 3) := by decide +kernel
theorem dX12_becomes_9 : decode cX12_becomes 9 = .ok (.aload_n 0, 1) := by decide +kernel
theorem dX12_becomes_10 : decode cX12_becomes 10 = .ok (.getfield 20, 3) := by decide +kernel
theorem dX12_becomes_13 : decode cX12_becomes 13 = .ok (.aload_n 0, 1) := by decide +kernel
theorem dX12_becomes_14 : decode cX12_becomes 14 = .ok (.getfield 170, 3) := by decide +kernel
theorem dX12_becomes_17 : decode cX12_becomes 17 = .ok (.iaload, 1) := by decide +kernel
theorem dX12_becomes_18 : decode cX12_becomes 18 = .ok (.ireturn, 1) := by decide +kernel
theorem dX12_sign_0 : decode cX12_sign 0 = .ok (.aload_n 0, 1) := by decide +kernel
theorem dX12_sign_1 : decode cX12_sign 1 = .ok (.iconst 0, 1) := by decide +kernel
theorem dX12_sign_2 : decode cX12_sign 2 = .ok (.putfield 1, 3) := by decide +kernel
theorem dX12_sign_5 : decode cX12_sign 5 = .ok (.aload_n 0, 1) := by decide +kernel
theorem dX12_sign_6 : decode cX12_sign 6 = .ok (.getfield 20, 3) := by decide +kernel
theorem dX12_sign_9 : decode cX12_sign 9 = .ok (.aload_n 0, 1) := by decide +kernel
theorem dX12_sign_10 : decode cX12_sign 10 = .ok (.getfield 170, 3) := by decide +kernel
theorem dX12_sign_13 : decode cX12_sign 13 = .ok (.iaload, 1) := by decide +kernel
theorem dX12_sign_14 : decode cX12_sign 14 = .ok (.ireturn, 1) := by decide +kernel
theorem dX12_writesNumber_0 : decode cX12_writesNumber 0 = .ok (.iconst 0, 1) := by decide +kernel
theorem dX12_writesNumber_1 : decode cX12_writesNumber 1 = .ok (.istore_n 2, 1) := by decide +kernel
theorem dX12_writesNumber_2 : decode cX12_writesNumber 2 = .ok (.aload_n 0, 1) := by decide +kernel
theorem dX12_writesNumber_3 : decode cX12_writesNumber 3 = .ok (.getfield 17, 3) := by decide +kernel
theorem dX12_writesNumber_6 : decode cX12_writesNumber 6 = .ok (.iload_n 1, 1) := by decide +kernel
theorem dX12_writesNumber_7 : decode cX12_writesNumber 7 = .ok (.iaload, 1) := by decide +kernel
theorem dX12_writesNumber_8 : decode cX12_writesNumber 8 = .ok (.iconst 1, 1) := by decide +kernel
theorem dX12_writesNumber_9 : decode cX12_writesNumber 9 = .ok (.isub, 1) := by decide +kernel
theorem dX12_writesNumber_10 : decode cX12_writesNumber 10 = .ok (.istore_n 3, 1) := by decide +kernel
theorem dX12_writesNumber_11 : decode cX12_writesNumber 11 = .ok (.iload_n 3, 1) := by decide +kernel
theorem dX12_writesNumber_12 : decode cX12_writesNumber 12 = .ok (.ifCond .lt 75, 3) := by decide +kernel
theorem dX12_writesNumber_15 : decode cX12_writesNumber 15 = .ok (.sipush 1000, 3) := by decide +kernel
theorem dX12_writesNumber_18 : decode cX12_writesNumber 18 = .ok (.istore 4, 2) := by decide +kernel
theorem dX12_writesNumber_20 : decode cX12_writesNumber 20 = .ok (.iload 4, 2) := by decide +kernel
theorem dX12_writesNumber_22 : decode cX12_writesNumber 22 = .ok (.ifCond .le 59, 3) := by decide +kernel
theorem dX12_writesNumber_25 : decode cX12_writesNumber 25 = .ok (.aload_n 0, 1) := by decide +kernel
theorem dX12_writesNumber_26 : decode cX12_writesNumber 26 = .ok (.getfield 13, 3) := by decide +kernel
theorem dX12_writesNumber_29 : decode cX12_writesNumber 29 = .ok (.sipush 1000, 3) := by decide +kernel
theorem dX12_writesNumber_32 : decode cX12_writesNumber 32 = .ok (.iload_n 1, 1) := by decide +kernel
theorem dX12_writesNumber_33 : decode cX12_writesNumber 33 = .ok (.imul, 1) := by decide +kernel
theorem dX12_writesNumber_34 : decode cX12_writesNumber 34 = .ok (.iload_n 3, 1) := by decide +kernel
theorem dX12_writesNumber_35 : decode cX12_writesNumber 35 = .ok (.iadd, 1) := by decide +kernel
theorem dX12_writesNumber_36 : decode cX12_writesNumber 36 = .ok (.iaload, 1) := by decide +kernel
theorem dX12_writesNumber_37 : decode cX12_writesNumber 37 = .ok (.iload 4, 2) := by decide +kernel
theorem dX12_writesNumber_39 : decode cX12_writesNumber 39 = .ok (.idiv, 1) := by decide +kernel
theorem dX12_writesNumber_40 : decode cX12_writesNumber 40 = .ok (.bipush 10, 2) := by decide +kernel
theorem dX12_writesNumber_42 : decode cX12_writesNumber 42 = .ok (.irem, 1) := by decide +kernel
theorem dX12_writesNumber_43 : decode cX12_writesNumber 43 = .ok (.istore 5, 2) := by decide +kernel
theorem dX12_writesNumber_45 : decode cX12_writesNumber 45 = .ok (.iload_n 2, 1) := by decide +kernel
theorem dX12_writesNumber_46 : decode cX12_writesNumber 46 = .ok (.iload 5, 2) := by decide +kernel
theorem dX12_writesNumber_48 : decode cX12_writesNumber 48 = .ok (.ifCond .le 7, 3) := by decide +kernel
theorem dX12_writesNumber_51 : decode cX12_writesNumber 51 = .ok (.iconst 1, 1) := by decide +kernel
theorem dX12_writesNumber_52 : decode cX12_writesNumber 52 = .ok (.goto 4, 3) := by decide +kernel
theorem dX12_writesNumber_55 : decode cX12_writesNumber 55 = .ok (.iconst 0, 1) := by decide +kernel
theorem dX12_writesNumber_56 : decode cX12_writesNumber 56 = .ok (.ior, 1) := by decide +kernel
theorem dX12_writesNumber_57 : decode cX12_writesNumber 57 = .ok (.istore_n 2, 1) := by decide +kernel
theorem dX12_writesNumber_58 : decode cX12_writesNumber 58 = .ok (.iload_n 2, 1) := by decide +kernel
theorem dX12_writesNumber_59 : decode cX12_writesNumber 59 = .ok (.ifCond .eq 12, 3) := by decide +kernel
theorem dX12_writesNumber_62 : decode cX12_writesNumber 62 = .ok (.aload_n 0, 1) := by decide +kernel
theorem dX12_writesNumber_63 : decode cX12_writesNumber 63 = .ok (.bipush 48, 2) := by decide +kernel
theorem dX12_writesNumber_65 : decode cX12_writesNumber 65 = .ok (.iload 5, 2) := by decide +kernel
theorem dX12_writesNumber_67 : decode cX12_writesNumber 67 = .ok (.iadd, 1) := by decide +kernel
theorem dX12_writesNumber_68 : decode cX12_writesNumber 68 = .ok (.invokevirtual 537, 3) := by decide +kernel
theorem dX12_writesNumber_71 : decode cX12_writesNumber 71 = .ok (.iload 4, 2) := by decide +kernel
theorem dX12_writesNumber_73 : decode cX12_writesNumber 73 = .ok (.bipush 10, 2) := by decide +kernel
theorem dX12_writesNumber_75 : decode cX12_writesNumber 75 = .ok (.idiv, 1) := by decide +kernel
theorem dX12_writesNumber_76 : decode cX12_writesNumber 76 = .ok (.istore 4, 2) := by decide +kernel
theorem dX12_writesNumber_78 : decode cX12_writesNumber 78 = .ok (.goto (-58), 3) := by decide +kernel
theorem dX12_writesNumber_81 : decode cX12_writesNumber 81 = .ok (.iinc 3 (-1), 3) := by decide +kernel
theorem dX12_writesNumber_84 : decode cX12_writesNumber 84 = .ok (.goto (-73), 3) := by decide +kernel
theorem dX12_writesNumber_87 : decode cX12_writesNumber 87 = .ok (.iload_n 2, 1) := by decide +kernel
theorem dX12_writesNumber_88 : decode cX12_writesNumber 88 = .ok (.ifCond .ne 9, 3) := by decide +kernel
theorem dX12_writesNumber_91 : decode cX12_writesNumber 91 = .ok (.aload_n 0, 1) := by decide +kernel
theorem dX12_writesNumber_92 : decode cX12_writesNumber 92 = .ok (.bipush 48, 2) := by decide +kernel
theorem dX12_writesNumber_94 : decode cX12_writesNumber 94 = .ok (.invokevirtual 537, 3) := by decide +kernel
theorem dX12_writesNumber_97 : decode cX12_writesNumber 97 = .ok (.return_, 1) := by decide +kernel
theorem dX12_writes_0 : decode cX12_writes 0 = .ok (.aload_n 0, 1) := by decide +kernel
theorem dX12_writes_1 : decode cX12_writes 1 = .ok (.getfield 151, 3) := by decide +kernel
theorem dX12_writes_4 : decode cX12_writes 4 = .ok (.aload_n 0, 1) := by decide +kernel
theorem dX12_writes_5 : decode cX12_writes 5 = .ok (.getfield 540, 3) := by decide +kernel
theorem dX12_writes_8 : decode cX12_writes 8 = .ok (.iload_n 1, 1) := by decide +kernel
theorem dX12_writes_9 : decode cX12_writes 9 = .ok (.iastore, 1) := by decide +kernel
theorem dX12_writes_10 : decode cX12_writes 10 = .ok (.aload_n 0, 1) := by decide +kernel
theorem dX12_writes_11 : decode cX12_writes 11 = .ok (.dup, 1) := by decide +kernel
theorem dX12_writes_12 : decode cX12_writes 12 = .ok (.getfield 540, 3) := by decide +kernel
theorem dX12_writes_15 : decode cX12_writes 15 = .ok (.iconst 1, 1) := by decide +kernel
theorem dX12_writes_16 : decode cX12_writes 16 = .ok (.iadd, 1) := by decide +kernel
theorem dX12_writes_17 : decode cX12_writes 17 = .ok (.putfield 540, 3) := by decide +kernel
theorem dX12_writes_20 : decode cX12_writes 20 = .ok (.return_, 1) := by decide +kernel
theorem dX12_drafts_0 : decode cX12_drafts 0 = .ok (.aload_n 0, 1) := by decide +kernel
theorem dX12_drafts_1 : decode cX12_drafts 1 = .ok (.iconst 0, 1) := by decide +kernel
theorem dX12_drafts_2 : decode cX12_drafts 2 = .ok (.putfield 540, 3) := by decide +kernel
theorem dX12_drafts_5 : decode cX12_drafts 5 = .ok (.aload_n 0, 1) := by decide +kernel
theorem dX12_drafts_6 : decode cX12_drafts 6 = .ok (.iconst 0, 1) := by decide +kernel
theorem dX12_drafts_7 : decode cX12_drafts 7 = .ok (.aload_n 0, 1) := by decide +kernel
theorem dX12_drafts_8 : decode cX12_drafts 8 = .ok (.getfield 170, 3) := by decide +kernel
theorem dX12_drafts_11 : decode cX12_drafts 11 = .ok (.iload_n 1, 1) := by decide +kernel
theorem dX12_drafts_12 : decode cX12_drafts 12 = .ok (.invokevirtual 228, 3) := by decide +kernel
theorem dX12_drafts_15 : decode cX12_drafts 15 = .ok (.aload_n 0, 1) := by decide +kernel
theorem dX12_drafts_16 : decode cX12_drafts 16 = .ok (.iconst 0, 1) := by decide +kernel
theorem dX12_drafts_17 : decode cX12_drafts 17 = .ok (.invokevirtual 543, 3) := by decide +kernel
theorem dX12_drafts_20 : decode cX12_drafts 20 = .ok (.return_, 1) := by decide +kernel
theorem dX12_digits_0 : decode cX12_digits 0 = .ok (.aload_n 0, 1) := by decide +kernel
theorem dX12_digits_1 : decode cX12_digits 1 = .ok (.iconst 0, 1) := by decide +kernel
theorem dX12_digits_2 : decode cX12_digits 2 = .ok (.putfield 1, 3) := by decide +kernel
theorem dX12_digits_5 : decode cX12_digits 5 = .ok (.aload_n 0, 1) := by decide +kernel
theorem dX12_digits_6 : decode cX12_digits 6 = .ok (.iload_n 1, 1) := by decide +kernel
theorem dX12_digits_7 : decode cX12_digits 7 = .ok (.invokevirtual 546, 3) := by decide +kernel
theorem dX12_digits_10 : decode cX12_digits 10 = .ok (.aload_n 0, 1) := by decide +kernel
theorem dX12_digits_11 : decode cX12_digits 11 = .ok (.getfield 540, 3) := by decide +kernel
theorem dX12_digits_14 : decode cX12_digits 14 = .ok (.ireturn, 1) := by decide +kernel
theorem dX12_digit_0 : decode cX12_digit 0 = .ok (.aload_n 0, 1) := by decide +kernel
theorem dX12_digit_1 : decode cX12_digit 1 = .ok (.iconst 0, 1) := by decide +kernel
theorem dX12_digit_2 : decode cX12_digit 2 = .ok (.putfield 1, 3) := by decide +kernel
theorem dX12_digit_5 : decode cX12_digit 5 = .ok (.aload_n 0, 1) := by decide +kernel
theorem dX12_digit_6 : decode cX12_digit 6 = .ok (.iload_n 1, 1) := by decide +kernel
theorem dX12_digit_7 : decode cX12_digit 7 = .ok (.invokevirtual 546, 3) := by decide +kernel
theorem dX12_digit_10 : decode cX12_digit 10 = .ok (.aload_n 0, 1) := by decide +kernel
theorem dX12_digit_11 : decode cX12_digit 11 = .ok (.iload_n 2, 1) := by decide +kernel
theorem dX12_digit_12 : decode cX12_digit 12 = .ok (.iconst 0, 1) := by decide +kernel
theorem dX12_digit_13 : decode cX12_digit 13 = .ok (.aload_n 0, 1) := by decide +kernel
theorem dX12_digit_14 : decode cX12_digit 14 = .ok (.getfield 540, 3) := by decide +kernel
theorem dX12_digit_17 : decode cX12_digit 17 = .ok (.iconst 1, 1) := by decide +kernel
theorem dX12_digit_18 : decode cX12_digit 18 = .ok (.isub, 1) := by decide +kernel
theorem dX12_digit_19 : decode cX12_digit 19 = .ok (.invokestatic 251, 3) := by decide +kernel
theorem dX12_digit_22 : decode cX12_digit 22 = .ok (.iconst 1, 1) := by decide +kernel
theorem dX12_digit_23 : decode cX12_digit 23 = .ok (.invokevirtual 291, 3) := by decide +kernel
theorem dX12_digit_26 : decode cX12_digit 26 = .ok (.ifCond .eq 7, 3) := by decide +kernel
theorem dX12_digit_29 : decode cX12_digit 29 = .ok (.iconst 0, 1) := by decide +kernel
theorem dX12_digit_30 : decode cX12_digit 30 = .ok (.goto 12, 3) := by decide +kernel
theorem dX12_digit_33 : decode cX12_digit 33 = .ok (.aload_n 0, 1) := by decide +kernel
theorem dX12_digit_34 : decode cX12_digit 34 = .ok (.getfield 151, 3) := by decide +kernel
theorem dX12_digit_37 : decode cX12_digit 37 = .ok (.iload_n 2, 1) := by decide +kernel
theorem dX12_digit_38 : decode cX12_digit 38 = .ok (.iaload, 1) := by decide +kernel
theorem dX12_digit_39 : decode cX12_digit 39 = .ok (.bipush 48, 2) := by decide +kernel
theorem dX12_digit_41 : decode cX12_digit 41 = .ok (.isub, 1) := by decide +kernel
theorem dX12_digit_42 : decode cX12_digit 42 = .ok (.ireturn, 1) := by decide +kernel
theorem dX12_write_0 : decode cX12_write 0 = .ok (.aload_n 0, 1) := by decide +kernel
theorem dX12_write_1 : decode cX12_write 1 = .ok (.iconst 0, 1) := by decide +kernel
theorem dX12_write_2 : decode cX12_write 2 = .ok (.putfield 1, 3) := by decide +kernel
theorem dX12_write_5 : decode cX12_write 5 = .ok (.aload_n 0, 1) := by decide +kernel
theorem dX12_write_6 : decode cX12_write 6 = .ok (.invokevirtual 550, 3) := by decide +kernel
theorem dX12_write_9 : decode cX12_write 9 = .ok (.istore_n 2, 1) := by decide +kernel
theorem dX12_write_10 : decode cX12_write 10 = .ok (.iload_n 1, 1) := by decide +kernel
theorem dX12_write_11 : decode cX12_write 11 = .ok (.ifCond .eq 10, 3) := by decide +kernel
theorem dX12_write_14 : decode cX12_write 14 = .ok (.aload_n 0, 1) := by decide +kernel
theorem dX12_write_15 : decode cX12_write 15 = .ok (.invokevirtual 553, 3) := by decide +kernel
theorem dX12_write_18 : decode cX12_write 18 = .ok (.goto 4, 3) := by decide +kernel
theorem dX12_write_21 : decode cX12_write 21 = .ok (.iconst 0, 1) := by decide +kernel
theorem dX12_write_22 : decode cX12_write 22 = .ok (.istore_n 3, 1) := by decide +kernel
theorem dX12_write_23 : decode cX12_write 23 = .ok (.iload_n 1, 1) := by decide +kernel
theorem dX12_write_24 : decode cX12_write 24 = .ok (.ifCond .eq 18, 3) := by decide +kernel
theorem dX12_write_27 : decode cX12_write 27 = .ok (.iload_n 3, 1) := by decide +kernel
theorem dX12_write_28 : decode cX12_write 28 = .ok (.iconst (-1), 1) := by decide +kernel
theorem dX12_write_29 : decode cX12_write 29 = .ok (.if_icmp .eq 11, 3) := by decide +kernel
theorem dX12_write_32 : decode cX12_write 32 = .ok (.iload_n 2, 1) := by decide +kernel
theorem dX12_write_33 : decode cX12_write 33 = .ok (.iload_n 3, 1) := by decide +kernel
theorem dX12_write_34 : decode cX12_write 34 = .ok (.iadd, 1) := by decide +kernel
theorem dX12_write_35 : decode cX12_write 35 = .ok (.bipush 100, 2) := by decide +kernel
theorem dX12_write_37 : decode cX12_write 37 = .ok (.if_icmp .le 5, 3) := by decide +kernel
theorem dX12_write_40 : decode cX12_write 40 = .ok (.iconst (-1), 1) := by decide +kernel
theorem dX12_write_41 : decode cX12_write 41 = .ok (.ireturn, 1) := by decide +kernel
theorem dX12_write_42 : decode cX12_write 42 = .ok (.aload_n 0, 1) := by decide +kernel
theorem dX12_write_43 : decode cX12_write 43 = .ok (.iconst 0, 1) := by decide +kernel
theorem dX12_write_44 : decode cX12_write 44 = .ok (.putfield 540, 3) := by decide +kernel
theorem dX12_write_47 : decode cX12_write 47 = .ok (.aload_n 0, 1) := by decide +kernel
theorem dX12_write_48 : decode cX12_write 48 = .ok (.getfield 20, 3) := by decide +kernel
theorem dX12_write_51 : decode cX12_write 51 = .ok (.aload_n 0, 1) := by decide +kernel
theorem dX12_write_52 : decode cX12_write 52 = .ok (.getfield 170, 3) := by decide +kernel
theorem dX12_write_55 : decode cX12_write 55 = .ok (.iaload, 1) := by decide +kernel
theorem dX12_write_56 : decode cX12_write 56 = .ok (.ifCond .ge 9, 3) := by decide +kernel
theorem dX12_write_59 : decode cX12_write 59 = .ok (.aload_n 0, 1) := by decide +kernel
theorem dX12_write_60 : decode cX12_write 60 = .ok (.bipush 45, 2) := by decide +kernel
theorem dX12_write_62 : decode cX12_write 62 = .ok (.invokevirtual 537, 3) := by decide +kernel
theorem dX12_write_65 : decode cX12_write 65 = .ok (.aload_n 0, 1) := by decide +kernel
theorem dX12_write_66 : decode cX12_write 66 = .ok (.iconst 0, 1) := by decide +kernel
theorem dX12_write_67 : decode cX12_write 67 = .ok (.aload_n 0, 1) := by decide +kernel
theorem dX12_write_68 : decode cX12_write 68 = .ok (.getfield 170, 3) := by decide +kernel
theorem dX12_write_71 : decode cX12_write 71 = .ok (.iconst 0, 1) := by decide +kernel
theorem dX12_write_72 : decode cX12_write 72 = .ok (.invokevirtual 228, 3) := by decide +kernel
theorem dX12_write_75 : decode cX12_write 75 = .ok (.aload_n 0, 1) := by decide +kernel
theorem dX12_write_76 : decode cX12_write 76 = .ok (.iconst 1, 1) := by decide +kernel
theorem dX12_write_77 : decode cX12_write 77 = .ok (.aload_n 0, 1) := by decide +kernel
theorem dX12_write_78 : decode cX12_write 78 = .ok (.getfield 170, 3) := by decide +kernel
theorem dX12_write_81 : decode cX12_write 81 = .ok (.iconst 1, 1) := by decide +kernel
theorem dX12_write_82 : decode cX12_write 82 = .ok (.invokevirtual 228, 3) := by decide +kernel
theorem dX12_write_85 : decode cX12_write 85 = .ok (.iload_n 1, 1) := by decide +kernel
theorem dX12_write_86 : decode cX12_write 86 = .ok (.ifCond .eq 38, 3) := by decide +kernel
theorem dX12_write_89 : decode cX12_write 89 = .ok (.aload_n 0, 1) := by decide +kernel
theorem dX12_write_90 : decode cX12_write 90 = .ok (.iconst 0, 1) := by decide +kernel
theorem dX12_write_91 : decode cX12_write 91 = .ok (.iconst 1, 1) := by decide +kernel
theorem dX12_write_92 : decode cX12_write 92 = .ok (.invokevirtual 204, 3) := by decide +kernel
theorem dX12_write_95 : decode cX12_write 95 = .ok (.aload_n 0, 1) := by decide +kernel
theorem dX12_write_96 : decode cX12_write 96 = .ok (.bipush 13, 2) := by decide +kernel
theorem dX12_write_98 : decode cX12_write 98 = .ok (.bipush 10, 2) := by decide +kernel
theorem dX12_write_100 : decode cX12_write 100 = .ok (.invokevirtual 181, 3) := by decide +kernel
theorem dX12_write_103 : decode cX12_write 103 = .ok (.aload_n 0, 1) := by decide +kernel
theorem dX12_write_104 : decode cX12_write 104 = .ok (.iconst 4, 1) := by decide +kernel
theorem dX12_write_105 : decode cX12_write 105 = .ok (.bipush 9, 2) := by decide +kernel
theorem dX12_write_107 : decode cX12_write 107 = .ok (.invokevirtual 181, 3) := by decide +kernel
theorem dX12_write_110 : decode cX12_write 110 = .ok (.aload_n 0, 1) := by decide +kernel
theorem dX12_write_111 : decode cX12_write 111 = .ok (.iconst 4, 1) := by decide +kernel
theorem dX12_write_112 : decode cX12_write 112 = .ok (.invokevirtual 543, 3) := by decide +kernel
theorem dX12_write_115 : decode cX12_write 115 = .ok (.aload_n 0, 1) := by decide +kernel
theorem dX12_write_116 : decode cX12_write 116 = .ok (.iload_n 2, 1) := by decide +kernel
theorem dX12_write_117 : decode cX12_write 117 = .ok (.iload_n 3, 1) := by decide +kernel
theorem dX12_write_118 : decode cX12_write 118 = .ok (.invokevirtual 556, 3) := by decide +kernel
theorem dX12_write_121 : decode cX12_write 121 = .ok (.goto 30, 3) := by decide +kernel
theorem dX12_write_124 : decode cX12_write 124 = .ok (.aload_n 0, 1) := by decide +kernel
theorem dX12_write_125 : decode cX12_write 125 = .ok (.iconst 0, 1) := by decide +kernel
theorem dX12_write_126 : decode cX12_write 126 = .ok (.invokevirtual 543, 3) := by decide +kernel
theorem dX12_write_129 : decode cX12_write 129 = .ok (.aload_n 0, 1) := by decide +kernel
theorem dX12_write_130 : decode cX12_write 130 = .ok (.aload_n 0, 1) := by decide +kernel
theorem dX12_write_131 : decode cX12_write 131 = .ok (.getfield 170, 3) := by decide +kernel
theorem dX12_write_134 : decode cX12_write 134 = .ok (.invokevirtual 245, 3) := by decide +kernel
theorem dX12_write_137 : decode cX12_write 137 = .ok (.ifCond .ne 14, 3) := by decide +kernel
theorem dX12_write_140 : decode cX12_write 140 = .ok (.aload_n 0, 1) := by decide +kernel
theorem dX12_write_141 : decode cX12_write 141 = .ok (.bipush 47, 2) := by decide +kernel
theorem dX12_write_143 : decode cX12_write 143 = .ok (.invokevirtual 537, 3) := by decide +kernel
theorem dX12_write_146 : decode cX12_write 146 = .ok (.aload_n 0, 1) := by decide +kernel
theorem dX12_write_147 : decode cX12_write 147 = .ok (.iconst 1, 1) := by decide +kernel
theorem dX12_write_148 : decode cX12_write 148 = .ok (.invokevirtual 543, 3) := by decide +kernel
theorem dX12_write_151 : decode cX12_write 151 = .ok (.aload_n 0, 1) := by decide +kernel
theorem dX12_write_152 : decode cX12_write 152 = .ok (.aload_n 0, 1) := by decide +kernel
theorem dX12_write_153 : decode cX12_write 153 = .ok (.getfield 540, 3) := by decide +kernel
theorem dX12_write_156 : decode cX12_write 156 = .ok (.putfield 559, 3) := by decide +kernel
theorem dX12_write_159 : decode cX12_write 159 = .ok (.iconst 0, 1) := by decide +kernel
theorem dX12_write_160 : decode cX12_write 160 = .ok (.istore 4, 2) := by decide +kernel
theorem dX12_write_162 : decode cX12_write 162 = .ok (.iload 4, 2) := by decide +kernel
theorem dX12_write_164 : decode cX12_write 164 = .ok (.aload_n 0, 1) := by decide +kernel
theorem dX12_write_165 : decode cX12_write 165 = .ok (.getfield 540, 3) := by decide +kernel
theorem dX12_write_168 : decode cX12_write 168 = .ok (.if_icmp .ge 23, 3) := by decide +kernel
theorem dX12_write_171 : decode cX12_write 171 = .ok (.aload_n 0, 1) := by decide +kernel
theorem dX12_write_172 : decode cX12_write 172 = .ok (.getfield 154, 3) := by decide +kernel
theorem dX12_write_175 : decode cX12_write 175 = .ok (.iload 4, 2) := by decide +kernel
theorem dX12_write_177 : decode cX12_write 177 = .ok (.aload_n 0, 1) := by decide +kernel
theorem dX12_write_178 : decode cX12_write 178 = .ok (.getfield 151, 3) := by decide +kernel
theorem dX12_write_181 : decode cX12_write 181 = .ok (.iload 4, 2) := by decide +kernel
theorem dX12_write_183 : decode cX12_write 183 = .ok (.iaload, 1) := by decide +kernel
theorem dX12_write_184 : decode cX12_write 184 = .ok (.iastore, 1) := by decide +kernel
theorem dX12_write_185 : decode cX12_write 185 = .ok (.iinc 4 1, 3) := by decide +kernel
theorem dX12_write_188 : decode cX12_write 188 = .ok (.goto (-26), 3) := by decide +kernel
theorem dX12_write_191 : decode cX12_write 191 = .ok (.aload_n 0, 1) := by decide +kernel
theorem dX12_write_192 : decode cX12_write 192 = .ok (.getfield 559, 3) := by decide +kernel
theorem dX12_write_195 : decode cX12_write 195 = .ok (.ireturn, 1) := by decide +kernel
theorem dX12_writesDecimals_0 : decode cX12_writesDecimals 0 = .ok (.iload_n 1, 1) := by decide +kernel
theorem dX12_writesDecimals_1 : decode cX12_writesDecimals 1 = .ok (.iload_n 2, 1) := by decide +kernel
theorem dX12_writesDecimals_2 : decode cX12_writesDecimals 2 = .ok (.iadd, 1) := by decide +kernel
theorem dX12_writesDecimals_3 : decode cX12_writesDecimals 3 = .ok (.ifCond .ne 4, 3) := by decide +kernel
theorem dX12_writesDecimals_6 : decode cX12_writesDecimals 6 = .ok (.return_, 1) := by decide +kernel
theorem dX12_writesDecimals_7 : decode cX12_writesDecimals 7 = .ok (.aload_n 0, 1) := by decide +kernel
theorem dX12_writesDecimals_8 : decode cX12_writesDecimals 8 = .ok (.bipush 46, 2) := by decide +kernel
theorem dX12_writesDecimals_10 : decode cX12_writesDecimals 10 = .ok (.invokevirtual 537, 3) := by decide +kernel
theorem dX12_writesDecimals_13 : decode cX12_writesDecimals 13 = .ok (.iconst 0, 1) := by decide +kernel
theorem dX12_writesDecimals_14 : decode cX12_writesDecimals 14 = .ok (.istore_n 3, 1) := by decide +kernel
theorem dX12_writesDecimals_15 : decode cX12_writesDecimals 15 = .ok (.iload_n 3, 1) := by decide +kernel
theorem dX12_writesDecimals_16 : decode cX12_writesDecimals 16 = .ok (.iload_n 1, 1) := by decide +kernel
theorem dX12_writesDecimals_17 : decode cX12_writesDecimals 17 = .ok (.iload_n 2, 1) := by decide +kernel
theorem dX12_writesDecimals_18 : decode cX12_writesDecimals 18 = .ok (.iadd, 1) := by decide +kernel
theorem dX12_writesDecimals_19 : decode cX12_writesDecimals 19 = .ok (.if_icmp .ge 31, 3) := by decide +kernel
theorem dX12_writesDecimals_22 : decode cX12_writesDecimals 22 = .ok (.iload_n 3, 1) := by decide +kernel
theorem dX12_writesDecimals_23 : decode cX12_writesDecimals 23 = .ok (.iload_n 1, 1) := by decide +kernel
theorem dX12_writesDecimals_24 : decode cX12_writesDecimals 24 = .ok (.if_icmp .ne 9, 3) := by decide +kernel
theorem dX12_writesDecimals_27 : decode cX12_writesDecimals 27 = .ok (.aload_n 0, 1) := by decide +kernel
theorem dX12_writesDecimals_28 : decode cX12_writesDecimals 28 = .ok (.bipush 91, 2) := by decide +kernel
theorem dX12_writesDecimals_30 : decode cX12_writesDecimals 30 = .ok (.invokevirtual 537, 3) := by decide +kernel
theorem dX12_writesDecimals_33 : decode cX12_writesDecimals 33 = .ok (.aload_n 0, 1) := by decide +kernel
theorem dX12_writesDecimals_34 : decode cX12_writesDecimals 34 = .ok (.bipush 48, 2) := by decide +kernel
theorem dX12_writesDecimals_36 : decode cX12_writesDecimals 36 = .ok (.aload_n 0, 1) := by decide +kernel
theorem dX12_writesDecimals_37 : decode cX12_writesDecimals 37 = .ok (.invokevirtual 562, 3) := by decide +kernel
theorem dX12_writesDecimals_40 : decode cX12_writesDecimals 40 = .ok (.iadd, 1) := by decide +kernel
theorem dX12_writesDecimals_41 : decode cX12_writesDecimals 41 = .ok (.invokevirtual 537, 3) := by decide +kernel
theorem dX12_writesDecimals_44 : decode cX12_writesDecimals 44 = .ok (.iinc 3 1, 3) := by decide +kernel
theorem dX12_writesDecimals_47 : decode cX12_writesDecimals 47 = .ok (.goto (-32), 3) := by decide +kernel
theorem dX12_writesDecimals_50 : decode cX12_writesDecimals 50 = .ok (.iload_n 2, 1) := by decide +kernel
theorem dX12_writesDecimals_51 : decode cX12_writesDecimals 51 = .ok (.ifCond .le 9, 3) := by decide +kernel
theorem dX12_writesDecimals_54 : decode cX12_writesDecimals 54 = .ok (.aload_n 0, 1) := by decide +kernel
theorem dX12_writesDecimals_55 : decode cX12_writesDecimals 55 = .ok (.bipush 93, 2) := by decide +kernel
theorem dX12_writesDecimals_57 : decode cX12_writesDecimals 57 = .ok (.invokevirtual 537, 3) := by decide +kernel
theorem dX12_writesDecimals_60 : decode cX12_writesDecimals 60 = .ok (.return_, 1) := by decide +kernel
theorem dX12_nextDecimal_0 : decode cX12_nextDecimal 0 = .ok (.aload_n 0, 1) := by decide +kernel
theorem dX12_nextDecimal_1 : decode cX12_nextDecimal 1 = .ok (.bipush 13, 2) := by decide +kernel
theorem dX12_nextDecimal_3 : decode cX12_nextDecimal 3 = .ok (.bipush 10, 2) := by decide +kernel
theorem dX12_nextDecimal_5 : decode cX12_nextDecimal 5 = .ok (.invokevirtual 194, 3) := by decide +kernel
theorem dX12_nextDecimal_8 : decode cX12_nextDecimal 8 = .ok (.aload_n 0, 1) := by decide +kernel
theorem dX12_nextDecimal_9 : decode cX12_nextDecimal 9 = .ok (.bipush 13, 2) := by decide +kernel
theorem dX12_nextDecimal_11 : decode cX12_nextDecimal 11 = .ok (.iconst 1, 1) := by decide +kernel
theorem dX12_nextDecimal_12 : decode cX12_nextDecimal 12 = .ok (.invokevirtual 204, 3) := by decide +kernel
theorem dX12_nextDecimal_15 : decode cX12_nextDecimal 15 = .ok (.aload_n 0, 1) := by decide +kernel
theorem dX12_nextDecimal_16 : decode cX12_nextDecimal 16 = .ok (.bipush 13, 2) := by decide +kernel
theorem dX12_nextDecimal_18 : decode cX12_nextDecimal 18 = .ok (.bipush 10, 2) := by decide +kernel
theorem dX12_nextDecimal_20 : decode cX12_nextDecimal 20 = .ok (.invokevirtual 181, 3) := by decide +kernel
theorem dX12_nextDecimal_23 : decode cX12_nextDecimal 23 = .ok (.aload_n 0, 1) := by decide +kernel
theorem dX12_nextDecimal_24 : decode cX12_nextDecimal 24 = .ok (.bipush 9, 2) := by decide +kernel
theorem dX12_nextDecimal_26 : decode cX12_nextDecimal 26 = .ok (.iconst 0, 1) := by decide +kernel
theorem dX12_nextDecimal_27 : decode cX12_nextDecimal 27 = .ok (.invokevirtual 173, 3) := by decide +kernel
theorem dX12_nextDecimal_30 : decode cX12_nextDecimal 30 = .ok (.ireturn, 1) := by decide +kernel
theorem dX12_writtenAt_0 : decode cX12_writtenAt 0 = .ok (.aload_n 0, 1) := by decide +kernel
theorem dX12_writtenAt_1 : decode cX12_writtenAt 1 = .ok (.iconst 0, 1) := by decide +kernel
theorem dX12_writtenAt_2 : decode cX12_writtenAt 2 = .ok (.putfield 1, 3) := by decide +kernel
theorem dX12_writtenAt_5 : decode cX12_writtenAt 5 = .ok (.aload_n 0, 1) := by decide +kernel
theorem dX12_writtenAt_6 : decode cX12_writtenAt 6 = .ok (.iload_n 1, 1) := by decide +kernel
theorem dX12_writtenAt_7 : decode cX12_writtenAt 7 = .ok (.iconst 0, 1) := by decide +kernel
theorem dX12_writtenAt_8 : decode cX12_writtenAt 8 = .ok (.aload_n 0, 1) := by decide +kernel
theorem dX12_writtenAt_9 : decode cX12_writtenAt 9 = .ok (.getfield 559, 3) := by decide +kernel
theorem dX12_writtenAt_12 : decode cX12_writtenAt 12 = .ok (.iconst 1, 1) := by decide +kernel
theorem dX12_writtenAt_13 : decode cX12_writtenAt 13 = .ok (.isub, 1) := by decide +kernel
theorem dX12_writtenAt_14 : decode cX12_writtenAt 14 = .ok (.invokestatic 251, 3) := by decide +kernel
theorem dX12_writtenAt_17 : decode cX12_writtenAt 17 = .ok (.iconst 1, 1) := by decide +kernel
theorem dX12_writtenAt_18 : decode cX12_writtenAt 18 = .ok (.invokevirtual 291, 3) := by decide +kernel
theorem dX12_writtenAt_21 : decode cX12_writtenAt 21 = .ok (.ifCond .eq 8, 3) := by decide +kernel
theorem dX12_writtenAt_24 : decode cX12_writtenAt 24 = .ok (.bipush 32, 2) := by decide +kernel
theorem dX12_writtenAt_26 : decode cX12_writtenAt 26 = .ok (.goto 10, 3) := by decide +kernel
theorem dX12_writtenAt_29 : decode cX12_writtenAt 29 = .ok (.aload_n 0, 1) := by decide +kernel
theorem dX12_writtenAt_30 : decode cX12_writtenAt 30 = .ok (.getfield 154, 3) := by decide +kernel
theorem dX12_writtenAt_33 : decode cX12_writtenAt 33 = .ok (.iload_n 1, 1) := by decide +kernel
theorem dX12_writtenAt_34 : decode cX12_writtenAt 34 = .ok (.iaload, 1) := by decide +kernel
theorem dX12_writtenAt_35 : decode cX12_writtenAt 35 = .ok (.i2c, 1) := by decide +kernel
theorem dX12_writtenAt_36 : decode cX12_writtenAt 36 = .ok (.ireturn, 1) := by decide +kernel
theorem dX12_noSlot_0 : decode cX12_noSlot 0 = .ok (.aload_n 0, 1) := by decide +kernel
theorem dX12_noSlot_1 : decode cX12_noSlot 1 = .ok (.iload_n 1, 1) := by decide +kernel
theorem dX12_noSlot_2 : decode cX12_noSlot 2 = .ok (.iconst 0, 1) := by decide +kernel
theorem dX12_noSlot_3 : decode cX12_noSlot 3 = .ok (.bipush 9, 2) := by decide +kernel
theorem dX12_noSlot_5 : decode cX12_noSlot 5 = .ok (.invokestatic 251, 3) := by decide +kernel
theorem dX12_noSlot_8 : decode cX12_noSlot 8 = .ok (.iconst 1, 1) := by decide +kernel
theorem dX12_noSlot_9 : decode cX12_noSlot 9 = .ok (.invokevirtual 291, 3) := by decide +kernel
theorem dX12_noSlot_12 : decode cX12_noSlot 12 = .ok (.ireturn, 1) := by decide +kernel
theorem dX12_keep_0 : decode cX12_keep 0 = .ok (.aload_n 0, 1) := by decide +kernel
theorem dX12_keep_1 : decode cX12_keep 1 = .ok (.iconst 0, 1) := by decide +kernel
theorem dX12_keep_2 : decode cX12_keep 2 = .ok (.putfield 1, 3) := by decide +kernel
theorem dX12_keep_5 : decode cX12_keep 5 = .ok (.aload_n 0, 1) := by decide +kernel
theorem dX12_keep_6 : decode cX12_keep 6 = .ok (.iload_n 1, 1) := by decide +kernel
theorem dX12_keep_7 : decode cX12_keep 7 = .ok (.invokevirtual 565, 3) := by decide +kernel
theorem dX12_keep_10 : decode cX12_keep 10 = .ok (.ifCond .eq 5, 3) := by decide +kernel
theorem dX12_keep_13 : decode cX12_keep 13 = .ok (.iconst 0, 1) := by decide +kernel
theorem dX12_keep_14 : decode cX12_keep 14 = .ok (.ireturn, 1) := by decide +kernel
theorem dX12_keep_15 : decode cX12_keep 15 = .ok (.aload_n 0, 1) := by decide +kernel
theorem dX12_keep_16 : decode cX12_keep 16 = .ok (.getfield 20, 3) := by decide +kernel
theorem dX12_keep_19 : decode cX12_keep 19 = .ok (.aload_n 0, 1) := by decide +kernel
theorem dX12_keep_20 : decode cX12_keep 20 = .ok (.getfield 148, 3) := by decide +kernel
theorem dX12_keep_23 : decode cX12_keep 23 = .ok (.iload_n 1, 1) := by decide +kernel
theorem dX12_keep_24 : decode cX12_keep 24 = .ok (.iaload, 1) := by decide +kernel
theorem dX12_keep_25 : decode cX12_keep 25 = .ok (.iaload, 1) := by decide +kernel
theorem dX12_keep_26 : decode cX12_keep 26 = .ok (.istore_n 2, 1) := by decide +kernel
theorem dX12_keep_27 : decode cX12_keep 27 = .ok (.aload_n 0, 1) := by decide +kernel
theorem dX12_keep_28 : decode cX12_keep 28 = .ok (.getfield 148, 3) := by decide +kernel
theorem dX12_keep_31 : decode cX12_keep 31 = .ok (.iload_n 1, 1) := by decide +kernel
theorem dX12_keep_32 : decode cX12_keep 32 = .ok (.aload_n 0, 1) := by decide +kernel
theorem dX12_keep_33 : decode cX12_keep 33 = .ok (.getfield 170, 3) := by decide +kernel
theorem dX12_keep_36 : decode cX12_keep 36 = .ok (.iastore, 1) := by decide +kernel
theorem dX12_keep_37 : decode cX12_keep 37 = .ok (.iload_n 2, 1) := by decide +kernel
theorem dX12_keep_38 : decode cX12_keep 38 = .ok (.ireturn, 1) := by decide +kernel
theorem dX12_take_0 : decode cX12_take 0 = .ok (.aload_n 0, 1) := by decide +kernel
theorem dX12_take_1 : decode cX12_take 1 = .ok (.iconst 0, 1) := by decide +kernel
theorem dX12_take_2 : decode cX12_take 2 = .ok (.putfield 1, 3) := by decide +kernel
theorem dX12_take_5 : decode cX12_take 5 = .ok (.aload_n 0, 1) := by decide +kernel
theorem dX12_take_6 : decode cX12_take 6 = .ok (.iload_n 1, 1) := by decide +kernel
theorem dX12_take_7 : decode cX12_take 7 = .ok (.invokevirtual 565, 3) := by decide +kernel
theorem dX12_take_10 : decode cX12_take 10 = .ok (.ifCond .eq 7, 3) := by decide +kernel
theorem dX12_take_13 : decode cX12_take 13 = .ok (.iconst 0, 1) := by decide +kernel
theorem dX12_take_14 : decode cX12_take 14 = .ok (.goto 13, 3) := by decide +kernel
theorem dX12_take_17 : decode cX12_take 17 = .ok (.aload_n 0, 1) := by decide +kernel
theorem dX12_take_18 : decode cX12_take 18 = .ok (.aload_n 0, 1) := by decide +kernel
theorem dX12_take_19 : decode cX12_take 19 = .ok (.getfield 148, 3) := by decide +kernel
theorem dX12_take_22 : decode cX12_take 22 = .ok (.iload_n 1, 1) := by decide +kernel
theorem dX12_take_23 : decode cX12_take 23 = .ok (.iaload, 1) := by decide +kernel
theorem dX12_take_24 : decode cX12_take 24 = .ok (.invokevirtual 568, 3) := by decide +kernel
theorem dX12_take_27 : decode cX12_take 27 = .ok (.ireturn, 1) := by decide +kernel
theorem dX12_compare_0 : decode cX12_compare 0 = .ok (.aload_n 0, 1) := by decide +kernel
theorem dX12_compare_1 : decode cX12_compare 1 = .ok (.iconst 0, 1) := by decide +kernel
theorem dX12_compare_2 : decode cX12_compare 2 = .ok (.putfield 1, 3) := by decide +kernel
theorem dX12_compare_5 : decode cX12_compare 5 = .ok (.aload_n 0, 1) := by decide +kernel
theorem dX12_compare_6 : decode cX12_compare 6 = .ok (.iload_n 1, 1) := by decide +kernel
theorem dX12_compare_7 : decode cX12_compare 7 = .ok (.invokevirtual 565, 3) := by decide +kernel
theorem dX12_compare_10 : decode cX12_compare 10 = .ok (.ifCond .ne 11, 3) := by decide +kernel
theorem dX12_compare_13 : decode cX12_compare 13 = .ok (.aload_n 0, 1) := by decide +kernel
theorem dX12_compare_14 : decode cX12_compare 14 = .ok (.iload_n 2, 1) := by decide +kernel
theorem dX12_compare_15 : decode cX12_compare 15 = .ok (.invokevirtual 565, 3) := by decide +kernel
theorem dX12_compare_18 : decode cX12_compare 18 = .ok (.ifCond .eq 7, 3) := by decide +kernel
theorem dX12_compare_21 : decode cX12_compare 21 = .ok (.iconst 0, 1) := by decide +kernel
theorem dX12_compare_22 : decode cX12_compare 22 = .ok (.goto 19, 3) := by decide +kernel
theorem dX12_compare_25 : decode cX12_compare 25 = .ok (.aload_n 0, 1) := by decide +kernel
theorem dX12_compare_26 : decode cX12_compare 26 = .ok (.aload_n 0, 1) := by decide +kernel
theorem dX12_compare_27 : decode cX12_compare 27 = .ok (.getfield 148, 3) := by decide +kernel
theorem dX12_compare_30 : decode cX12_compare 30 = .ok (.iload_n 1, 1) := by decide +kernel
theorem dX12_compare_31 : decode cX12_compare 31 = .ok (.iaload, 1) := by decide +kernel
theorem dX12_compare_32 : decode cX12_compare 32 = .ok (.aload_n 0, 1) := by decide +kernel
theorem dX12_compare_33 : decode cX12_compare 33 = .ok (.getfield 148, 3) := by decide +kernel
theorem dX12_compare_36 : decode cX12_compare 36 = .ok (.iload_n 2, 1) := by decide +kernel
theorem dX12_compare_37 : decode cX12_compare 37 = .ok (.iaload, 1) := by decide +kernel
theorem dX12_compare_38 : decode cX12_compare 38 = .ok (.invokevirtual 279, 3) := by decide +kernel
theorem dX12_compare_41 : decode cX12_compare 41 = .ok (.ireturn, 1) := by decide +kernel
theorem dX12_names_0 : decode cX12_names 0 = .ok (.aload_n 0, 1) := by decide +kernel
theorem dX12_names_1 : decode cX12_names 1 = .ok (.iconst 0, 1) := by decide +kernel
theorem dX12_names_2 : decode cX12_names 2 = .ok (.putfield 1, 3) := by decide +kernel
theorem dX12_names_5 : decode cX12_names 5 = .ok (.aload_n 0, 1) := by decide +kernel
theorem dX12_names_6 : decode cX12_names 6 = .ok (.getfield 411, 3) := by decide +kernel
theorem dX12_names_9 : decode cX12_names 9 = .ok (.ireturn, 1) := by decide +kernel
theorem dX12_nameAt_0 : decode cX12_nameAt 0 = .ok (.aload_n 0, 1) := by decide +kernel
theorem dX12_nameAt_1 : decode cX12_nameAt 1 = .ok (.iconst 0, 1) := by decide +kernel
theorem dX12_nameAt_2 : decode cX12_nameAt 2 = .ok (.putfield 1, 3) := by decide +kernel
theorem dX12_nameAt_5 : decode cX12_nameAt 5 = .ok (.aload_n 0, 1) := by decide +kernel
theorem dX12_nameAt_6 : decode cX12_nameAt 6 = .ok (.iload_n 1, 1) := by decide +kernel
theorem dX12_nameAt_7 : decode cX12_nameAt 7 = .ok (.iconst 0, 1) := by decide +kernel
theorem dX12_nameAt_8 : decode cX12_nameAt 8 = .ok (.aload_n 0, 1) := by decide +kernel
theorem dX12_nameAt_9 : decode cX12_nameAt 9 = .ok (.getfield 411, 3) := by decide +kernel
theorem dX12_nameAt_12 : decode cX12_nameAt 12 = .ok (.iconst 1, 1) := by decide +kernel
theorem dX12_nameAt_13 : decode cX12_nameAt 13 = .ok (.isub, 1) := by decide +kernel
theorem dX12_nameAt_14 : decode cX12_nameAt 14 = .ok (.invokestatic 251, 3) := by decide +kernel
theorem dX12_nameAt_17 : decode cX12_nameAt 17 = .ok (.iconst 1, 1) := by decide +kernel
theorem dX12_nameAt_18 : decode cX12_nameAt 18 = .ok (.invokevirtual 291, 3) := by decide +kernel
theorem dX12_nameAt_21 : decode cX12_nameAt 21 = .ok (.ifCond .eq 5, 3) := by decide +kernel
theorem dX12_nameAt_24 : decode cX12_nameAt 24 = .ok (.iconst 0, 1) := by decide +kernel
theorem dX12_nameAt_25 : decode cX12_nameAt 25 = .ok (.ireturn, 1) := by decide +kernel
theorem dX12_nameAt_26 : decode cX12_nameAt 26 = .ok (.iconst 0, 1) := by decide +kernel
theorem dX12_nameAt_27 : decode cX12_nameAt 27 = .ok (.istore_n 2, 1) := by decide +kernel
theorem dX12_nameAt_28 : decode cX12_nameAt 28 = .ok (.iload_n 2, 1) := by decide +kernel
theorem dX12_nameAt_29 : decode cX12_nameAt 29 = .ok (.aload_n 0, 1) := by decide +kernel
theorem dX12_nameAt_30 : decode cX12_nameAt 30 = .ok (.getfield 411, 3) := by decide +kernel
theorem dX12_nameAt_33 : decode cX12_nameAt 33 = .ok (.if_icmp .ge 71, 3) := by decide +kernel
theorem dX12_nameAt_36 : decode cX12_nameAt 36 = .ok (.iconst 0, 1) := by decide +kernel
theorem dX12_nameAt_37 : decode cX12_nameAt 37 = .ok (.istore_n 3, 1) := by decide +kernel
theorem dX12_nameAt_38 : decode cX12_nameAt 38 = .ok (.iconst 0, 1) := by decide +kernel
theorem dX12_nameAt_39 : decode cX12_nameAt 39 = .ok (.istore 4, 2) := by decide +kernel
theorem dX12_nameAt_41 : decode cX12_nameAt 41 = .ok (.iload 4, 2) := by decide +kernel
theorem dX12_nameAt_43 : decode cX12_nameAt 43 = .ok (.aload_n 0, 1) := by decide +kernel
theorem dX12_nameAt_44 : decode cX12_nameAt 44 = .ok (.getfield 411, 3) := by decide +kernel
theorem dX12_nameAt_47 : decode cX12_nameAt 47 = .ok (.if_icmp .ge 39, 3) := by decide +kernel
theorem dX12_nameAt_50 : decode cX12_nameAt 50 = .ok (.iload_n 3, 1) := by decide +kernel
theorem dX12_nameAt_51 : decode cX12_nameAt 51 = .ok (.aload_n 0, 1) := by decide +kernel
theorem dX12_nameAt_52 : decode cX12_nameAt 52 = .ok (.getfield 69, 3) := by decide +kernel
theorem dX12_nameAt_55 : decode cX12_nameAt 55 = .ok (.iload 4, 2) := by decide +kernel
theorem dX12_nameAt_57 : decode cX12_nameAt 57 = .ok (.iaload, 1) := by decide +kernel
theorem dX12_nameAt_58 : decode cX12_nameAt 58 = .ok (.invokestatic 443, 3) := by decide +kernel
theorem dX12_nameAt_61 : decode cX12_nameAt 61 = .ok (.aload_n 0, 1) := by decide +kernel
theorem dX12_nameAt_62 : decode cX12_nameAt 62 = .ok (.getfield 69, 3) := by decide +kernel
theorem dX12_nameAt_65 : decode cX12_nameAt 65 = .ok (.iload_n 2, 1) := by decide +kernel
theorem dX12_nameAt_66 : decode cX12_nameAt 66 = .ok (.iaload, 1) := by decide +kernel
theorem dX12_nameAt_67 : decode cX12_nameAt 67 = .ok (.invokestatic 443, 3) := by decide +kernel
theorem dX12_nameAt_70 : decode cX12_nameAt 70 = .ok (.if_icmp .ge 7, 3) := by decide +kernel
theorem dX12_nameAt_73 : decode cX12_nameAt 73 = .ok (.iconst 1, 1) := by decide +kernel
theorem dX12_nameAt_74 : decode cX12_nameAt 74 = .ok (.goto 4, 3) := by decide +kernel
theorem dX12_nameAt_77 : decode cX12_nameAt 77 = .ok (.iconst 0, 1) := by decide +kernel
theorem dX12_nameAt_78 : decode cX12_nameAt 78 = .ok (.iadd, 1) := by decide +kernel
theorem dX12_nameAt_79 : decode cX12_nameAt 79 = .ok (.istore_n 3, 1) := by decide +kernel
theorem dX12_nameAt_80 : decode cX12_nameAt 80 = .ok (.iinc 4 1, 3) := by decide +kernel
theorem dX12_nameAt_83 : decode cX12_nameAt 83 = .ok (.goto (-42), 3) := by decide +kernel
theorem dX12_nameAt_86 : decode cX12_nameAt 86 = .ok (.iload_n 3, 1) := by decide +kernel
theorem dX12_nameAt_87 : decode cX12_nameAt 87 = .ok (.iload_n 1, 1) := by decide +kernel
theorem dX12_nameAt_88 : decode cX12_nameAt 88 = .ok (.if_icmp .ne 10, 3) := by decide +kernel
theorem dX12_nameAt_91 : decode cX12_nameAt 91 = .ok (.aload_n 0, 1) := by decide +kernel
theorem dX12_nameAt_92 : decode cX12_nameAt 92 = .ok (.getfield 69, 3) := by decide +kernel
theorem dX12_nameAt_95 : decode cX12_nameAt 95 = .ok (.iload_n 2, 1) := by decide +kernel
theorem dX12_nameAt_96 : decode cX12_nameAt 96 = .ok (.iaload, 1) := by decide +kernel
theorem dX12_nameAt_97 : decode cX12_nameAt 97 = .ok (.ireturn, 1) := by decide +kernel
theorem dX12_nameAt_98 : decode cX12_nameAt 98 = .ok (.iinc 2 1, 3) := by decide +kernel
theorem dX12_nameAt_101 : decode cX12_nameAt 101 = .ok (.goto (-73), 3) := by decide +kernel
theorem dX12_nameAt_104 : decode cX12_nameAt 104 = .ok (.iconst (-1), 1) := by decide +kernel
theorem dX12_nameAt_105 : decode cX12_nameAt 105 = .ok (.ireturn, 1) := by decide +kernel
theorem dX12_takeName_0 : decode cX12_takeName 0 = .ok (.aload_n 0, 1) := by decide +kernel
theorem dX12_takeName_1 : decode cX12_takeName 1 = .ok (.iconst 0, 1) := by decide +kernel
theorem dX12_takeName_2 : decode cX12_takeName 2 = .ok (.putfield 1, 3) := by decide +kernel
theorem dX12_takeName_5 : decode cX12_takeName 5 = .ok (.aload_n 0, 1) := by decide +kernel
theorem dX12_takeName_6 : decode cX12_takeName 6 = .ok (.iload_n 1, 1) := by decide +kernel
theorem dX12_takeName_7 : decode cX12_takeName 7 = .ok (.iconst 0, 1) := by decide +kernel
theorem dX12_takeName_8 : decode cX12_takeName 8 = .ok (.invokevirtual 424, 3) := by decide +kernel
theorem dX12_takeName_11 : decode cX12_takeName 11 = .ok (.istore_n 2, 1) := by decide +kernel
theorem dX12_takeName_12 : decode cX12_takeName 12 = .ok (.aload_n 0, 1) := by decide +kernel
theorem dX12_takeName_13 : decode cX12_takeName 13 = .ok (.iload_n 2, 1) := by decide +kernel
theorem dX12_takeName_14 : decode cX12_takeName 14 = .ok (.iconst (-1), 1) := by decide +kernel
theorem dX12_takeName_15 : decode cX12_takeName 15 = .ok (.if_icmp .eq 7, 3) := by decide +kernel
theorem dX12_takeName_18 : decode cX12_takeName 18 = .ok (.iconst 1, 1) := by decide +kernel
theorem dX12_takeName_19 : decode cX12_takeName 19 = .ok (.goto 4, 3) := by decide +kernel
theorem dX12_takeName_22 : decode cX12_takeName 22 = .ok (.iconst 0, 1) := by decide +kernel
theorem dX12_takeName_23 : decode cX12_takeName 23 = .ok (.iconst 1, 1) := by decide +kernel
theorem dX12_takeName_24 : decode cX12_takeName 24 = .ok (.invokevirtual 291, 3) := by decide +kernel
theorem dX12_takeName_27 : decode cX12_takeName 27 = .ok (.ifCond .eq 7, 3) := by decide +kernel
theorem dX12_takeName_30 : decode cX12_takeName 30 = .ok (.iconst 0, 1) := by decide +kernel
theorem dX12_takeName_31 : decode cX12_takeName 31 = .ok (.goto 13, 3) := by decide +kernel
theorem dX12_takeName_34 : decode cX12_takeName 34 = .ok (.aload_n 0, 1) := by decide +kernel
theorem dX12_takeName_35 : decode cX12_takeName 35 = .ok (.aload_n 0, 1) := by decide +kernel
theorem dX12_takeName_36 : decode cX12_takeName 36 = .ok (.getfield 75, 3) := by decide +kernel
theorem dX12_takeName_39 : decode cX12_takeName 39 = .ok (.iload_n 2, 1) := by decide +kernel
theorem dX12_takeName_40 : decode cX12_takeName 40 = .ok (.iaload, 1) := by decide +kernel
theorem dX12_takeName_41 : decode cX12_takeName 41 = .ok (.invokevirtual 568, 3) := by decide +kernel
theorem dX12_takeName_44 : decode cX12_takeName 44 = .ok (.ireturn, 1) := by decide +kernel
theorem dX12_functions_0 : decode cX12_functions 0 = .ok (.aload_n 0, 1) := by decide +kernel
theorem dX12_functions_1 : decode cX12_functions 1 = .ok (.iconst 0, 1) := by decide +kernel
theorem dX12_functions_2 : decode cX12_functions 2 = .ok (.putfield 1, 3) := by decide +kernel
theorem dX12_functions_5 : decode cX12_functions 5 = .ok (.aload_n 0, 1) := by decide +kernel
theorem dX12_functions_6 : decode cX12_functions 6 = .ok (.getfield 408, 3) := by decide +kernel
theorem dX12_functions_9 : decode cX12_functions 9 = .ok (.ireturn, 1) := by decide +kernel
theorem dX12_parameters_0 : decode cX12_parameters 0 = .ok (.aload_n 0, 1) := by decide +kernel
theorem dX12_parameters_1 : decode cX12_parameters 1 = .ok (.iconst 0, 1) := by decide +kernel
theorem dX12_parameters_2 : decode cX12_parameters 2 = .ok (.putfield 1, 3) := by decide +kernel
theorem dX12_parameters_5 : decode cX12_parameters 5 = .ok (.aload_n 0, 1) := by decide +kernel
theorem dX12_parameters_6 : decode cX12_parameters 6 = .ok (.iload_n 1, 1) := by decide +kernel
theorem dX12_parameters_7 : decode cX12_parameters 7 = .ok (.iconst 1, 1) := by decide +kernel
theorem dX12_parameters_8 : decode cX12_parameters 8 = .ok (.invokevirtual 424, 3) := by decide +kernel
theorem dX12_parameters_11 : decode cX12_parameters 11 = .ok (.istore_n 2, 1) := by decide +kernel
theorem dX12_parameters_12 : decode cX12_parameters 12 = .ok (.aload_n 0, 1) := by decide +kernel
theorem dX12_parameters_13 : decode cX12_parameters 13 = .ok (.iload_n 2, 1) := by decide +kernel
theorem dX12_parameters_14 : decode cX12_parameters 14 = .ok (.iconst (-1), 1) := by decide +kernel
theorem dX12_parameters_15 : decode cX12_parameters 15 = .ok (.if_icmp .eq 7, 3) := by decide +kernel
theorem dX12_parameters_18 : decode cX12_parameters 18 = .ok (.iconst 1, 1) := by decide +kernel
theorem dX12_parameters_19 : decode cX12_parameters 19 = .ok (.goto 4, 3) := by decide +kernel
theorem dX12_parameters_22 : decode cX12_parameters 22 = .ok (.iconst 0, 1) := by decide +kernel
theorem dX12_parameters_23 : decode cX12_parameters 23 = .ok (.iconst 1, 1) := by decide +kernel
theorem dX12_parameters_24 : decode cX12_parameters 24 = .ok (.invokevirtual 291, 3) := by decide +kernel
theorem dX12_parameters_27 : decode cX12_parameters 27 = .ok (.ifCond .eq 7, 3) := by decide +kernel
theorem dX12_parameters_30 : decode cX12_parameters 30 = .ok (.iconst 0, 1) := by decide +kernel
theorem dX12_parameters_31 : decode cX12_parameters 31 = .ok (.goto 14, 3) := by decide +kernel
theorem dX12_parameters_34 : decode cX12_parameters 34 = .ok (.aload_n 0, 1) := by decide +kernel
theorem dX12_parameters_35 : decode cX12_parameters 35 = .ok (.getfield 51, 3) := by decide +kernel
theorem dX12_parameters_38 : decode cX12_parameters 38 = .ok (.aload_n 0, 1) := by decide +kernel
theorem dX12_parameters_39 : decode cX12_parameters 39 = .ok (.getfield 72, 3) := by decide +kernel
theorem dX12_parameters_42 : decode cX12_parameters 42 = .ok (.iload_n 2, 1) := by decide +kernel
theorem dX12_parameters_43 : decode cX12_parameters 43 = .ok (.iaload, 1) := by decide +kernel
theorem dX12_parameters_44 : decode cX12_parameters 44 = .ok (.iaload, 1) := by decide +kernel
theorem dX12_parameters_45 : decode cX12_parameters 45 = .ok (.ireturn, 1) := by decide +kernel
theorem dX12_uses_0 : decode cX12_uses 0 = .ok (.aload_n 0, 1) := by decide +kernel
theorem dX12_uses_1 : decode cX12_uses 1 = .ok (.iconst 0, 1) := by decide +kernel
theorem dX12_uses_2 : decode cX12_uses 2 = .ok (.putfield 1, 3) := by decide +kernel
theorem dX12_uses_5 : decode cX12_uses 5 = .ok (.aload_n 0, 1) := by decide +kernel
theorem dX12_uses_6 : decode cX12_uses 6 = .ok (.iload_n 1, 1) := by decide +kernel
theorem dX12_uses_7 : decode cX12_uses 7 = .ok (.iload_n 2, 1) := by decide +kernel
theorem dX12_uses_8 : decode cX12_uses 8 = .ok (.invokevirtual 424, 3) := by decide +kernel
theorem dX12_uses_11 : decode cX12_uses 11 = .ok (.istore 5, 2) := by decide +kernel
theorem dX12_uses_13 : decode cX12_uses 13 = .ok (.aload_n 0, 1) := by decide +kernel
theorem dX12_uses_14 : decode cX12_uses 14 = .ok (.iload_n 3, 1) := by decide +kernel
theorem dX12_uses_15 : decode cX12_uses 15 = .ok (.iload 4, 2) := by decide +kernel
theorem dX12_uses_17 : decode cX12_uses 17 = .ok (.invokevirtual 424, 3) := by decide +kernel
theorem dX12_uses_20 : decode cX12_uses 20 = .ok (.istore 6, 2) := by decide +kernel
theorem dX12_uses_22 : decode cX12_uses 22 = .ok (.iload 5, 2) := by decide +kernel
theorem dX12_uses_24 : decode cX12_uses 24 = .ok (.iconst (-1), 1) := by decide +kernel
theorem dX12_uses_25 : decode cX12_uses 25 = .ok (.if_icmp .eq 24, 3) := by decide +kernel
theorem dX12_uses_28 : decode cX12_uses 28 = .ok (.iload 6, 2) := by decide +kernel
theorem dX12_uses_30 : decode cX12_uses 30 = .ok (.iconst (-1), 1) := by decide +kernel
theorem dX12_uses_31 : decode cX12_uses 31 = .ok (.if_icmp .eq 18, 3) := by decide +kernel
theorem dX12_uses_34 : decode cX12_uses 34 = .ok (.aload_n 0, 1) := by decide +kernel
theorem dX12_uses_35 : decode cX12_uses 35 = .ok (.iload 5, 2) := by decide +kernel
theorem dX12_uses_37 : decode cX12_uses 37 = .ok (.iload 6, 2) := by decide +kernel
theorem dX12_uses_39 : decode cX12_uses 39 = .ok (.invokevirtual 440, 3) := by decide +kernel
theorem dX12_uses_42 : decode cX12_uses 42 = .ok (.ifCond .eq 7, 3) := by decide +kernel
theorem dX12_uses_45 : decode cX12_uses 45 = .ok (.iconst 1, 1) := by decide +kernel
theorem dX12_uses_46 : decode cX12_uses 46 = .ok (.goto 4, 3) := by decide +kernel
theorem dX12_uses_49 : decode cX12_uses 49 = .ok (.iconst 0, 1) := by decide +kernel
theorem dX12_uses_50 : decode cX12_uses 50 = .ok (.ireturn, 1) := by decide +kernel
theorem dX12_users__0 : decode cX12_users_ 0 = .ok (.aload_n 0, 1) := by decide +kernel
theorem dX12_users__1 : decode cX12_users_ 1 = .ok (.iconst 0, 1) := by decide +kernel
theorem dX12_users__2 : decode cX12_users_ 2 = .ok (.putfield 1, 3) := by decide +kernel
theorem dX12_users__5 : decode cX12_users_ 5 = .ok (.aload_n 0, 1) := by decide +kernel
theorem dX12_users__6 : decode cX12_users_ 6 = .ok (.iload_n 1, 1) := by decide +kernel
theorem dX12_users__7 : decode cX12_users_ 7 = .ok (.iload_n 2, 1) := by decide +kernel
theorem dX12_users__8 : decode cX12_users_ 8 = .ok (.invokevirtual 424, 3) := by decide +kernel
theorem dX12_users__11 : decode cX12_users_ 11 = .ok (.istore_n 3, 1) := by decide +kernel
theorem dX12_users__12 : decode cX12_users_ 12 = .ok (.iconst 0, 1) := by decide +kernel
theorem dX12_users__13 : decode cX12_users_ 13 = .ok (.istore 4, 2) := by decide +kernel
theorem dX12_users__15 : decode cX12_users_ 15 = .ok (.iconst 0, 1) := by decide +kernel
theorem dX12_users__16 : decode cX12_users_ 16 = .ok (.istore 5, 2) := by decide +kernel
theorem dX12_users__18 : decode cX12_users_ 18 = .ok (.iload 5, 2) := by decide +kernel
theorem dX12_users__20 : decode cX12_users_ 20 = .ok (.aload_n 0, 1) := by decide +kernel
theorem dX12_users__21 : decode cX12_users_ 21 = .ok (.getfield 411, 3) := by decide +kernel
theorem dX12_users__24 : decode cX12_users_ 24 = .ok (.if_icmp .ge 34, 3) := by decide +kernel
theorem dX12_users__27 : decode cX12_users_ 27 = .ok (.iload_n 3, 1) := by decide +kernel
theorem dX12_users__28 : decode cX12_users_ 28 = .ok (.iconst (-1), 1) := by decide +kernel
theorem dX12_users__29 : decode cX12_users_ 29 = .ok (.if_icmp .eq 29, 3) := by decide +kernel
theorem dX12_users__32 : decode cX12_users_ 32 = .ok (.iload 4, 2) := by decide +kernel
theorem dX12_users__34 : decode cX12_users_ 34 = .ok (.aload_n 0, 1) := by decide +kernel
theorem dX12_users__35 : decode cX12_users_ 35 = .ok (.iload 5, 2) := by decide +kernel
theorem dX12_users__37 : decode cX12_users_ 37 = .ok (.iload_n 3, 1) := by decide +kernel
theorem dX12_users__38 : decode cX12_users_ 38 = .ok (.invokevirtual 440, 3) := by decide +kernel
theorem dX12_users__41 : decode cX12_users_ 41 = .ok (.ifCond .eq 7, 3) := by decide +kernel
theorem dX12_users__44 : decode cX12_users_ 44 = .ok (.iconst 1, 1) := by decide +kernel
theorem dX12_users__45 : decode cX12_users_ 45 = .ok (.goto 4, 3) := by decide +kernel
theorem dX12_users__48 : decode cX12_users_ 48 = .ok (.iconst 0, 1) := by decide +kernel
theorem dX12_users__49 : decode cX12_users_ 49 = .ok (.iadd, 1) := by decide +kernel
theorem dX12_users__50 : decode cX12_users_ 50 = .ok (.istore 4, 2) := by decide +kernel
theorem dX12_users__52 : decode cX12_users_ 52 = .ok (.iinc 5 1, 3) := by decide +kernel
theorem dX12_users__55 : decode cX12_users_ 55 = .ok (.goto (-37), 3) := by decide +kernel
theorem dX12_users__58 : decode cX12_users_ 58 = .ok (.iload 4, 2) := by decide +kernel
theorem dX12_users__60 : decode cX12_users_ 60 = .ok (.ireturn, 1) := by decide +kernel
theorem dX12_drop_0 : decode cX12_drop 0 = .ok (.aload_n 0, 1) := by decide +kernel
theorem dX12_drop_1 : decode cX12_drop 1 = .ok (.iconst 0, 1) := by decide +kernel
theorem dX12_drop_2 : decode cX12_drop 2 = .ok (.putfield 1, 3) := by decide +kernel
theorem dX12_drop_5 : decode cX12_drop 5 = .ok (.aload_n 0, 1) := by decide +kernel
theorem dX12_drop_6 : decode cX12_drop 6 = .ok (.iload_n 1, 1) := by decide +kernel
theorem dX12_drop_7 : decode cX12_drop 7 = .ok (.iload_n 2, 1) := by decide +kernel
theorem dX12_drop_8 : decode cX12_drop 8 = .ok (.invokevirtual 424, 3) := by decide +kernel
theorem dX12_drop_11 : decode cX12_drop 11 = .ok (.istore_n 3, 1) := by decide +kernel
theorem dX12_drop_12 : decode cX12_drop 12 = .ok (.aload_n 0, 1) := by decide +kernel
theorem dX12_drop_13 : decode cX12_drop 13 = .ok (.iload_n 3, 1) := by decide +kernel
theorem dX12_drop_14 : decode cX12_drop 14 = .ok (.iconst (-1), 1) := by decide +kernel
theorem dX12_drop_15 : decode cX12_drop 15 = .ok (.if_icmp .eq 7, 3) := by decide +kernel
theorem dX12_drop_18 : decode cX12_drop 18 = .ok (.iconst 1, 1) := by decide +kernel
theorem dX12_drop_19 : decode cX12_drop 19 = .ok (.goto 4, 3) := by decide +kernel
theorem dX12_drop_22 : decode cX12_drop 22 = .ok (.iconst 0, 1) := by decide +kernel
theorem dX12_drop_23 : decode cX12_drop 23 = .ok (.iconst 1, 1) := by decide +kernel
theorem dX12_drop_24 : decode cX12_drop 24 = .ok (.invokevirtual 291, 3) := by decide +kernel
theorem dX12_drop_27 : decode cX12_drop 27 = .ok (.ifCond .ne 24, 3) := by decide +kernel
theorem dX12_drop_30 : decode cX12_drop 30 = .ok (.aload_n 0, 1) := by decide +kernel
theorem dX12_drop_31 : decode cX12_drop 31 = .ok (.aload_n 0, 1) := by decide +kernel
theorem dX12_drop_32 : decode cX12_drop 32 = .ok (.iload_n 3, 1) := by decide +kernel
theorem dX12_drop_33 : decode cX12_drop 33 = .ok (.invokevirtual 452, 3) := by decide +kernel
theorem dX12_drop_36 : decode cX12_drop 36 = .ok (.ifCond .ne 7, 3) := by decide +kernel
theorem dX12_drop_39 : decode cX12_drop 39 = .ok (.iconst 1, 1) := by decide +kernel
theorem dX12_drop_40 : decode cX12_drop 40 = .ok (.goto 4, 3) := by decide +kernel
theorem dX12_drop_43 : decode cX12_drop 43 = .ok (.iconst 0, 1) := by decide +kernel
theorem dX12_drop_44 : decode cX12_drop 44 = .ok (.iconst 2, 1) := by decide +kernel
theorem dX12_drop_45 : decode cX12_drop 45 = .ok (.invokevirtual 291, 3) := by decide +kernel
theorem dX12_drop_48 : decode cX12_drop 48 = .ok (.ifCond .eq 5, 3) := by decide +kernel
theorem dX12_drop_51 : decode cX12_drop 51 = .ok (.iconst 0, 1) := by decide +kernel
theorem dX12_drop_52 : decode cX12_drop 52 = .ok (.ireturn, 1) := by decide +kernel
theorem dX12_drop_53 : decode cX12_drop 53 = .ok (.aload_n 0, 1) := by decide +kernel
theorem dX12_drop_54 : decode cX12_drop 54 = .ok (.invokevirtual 494, 3) := by decide +kernel
theorem dX12_drop_57 : decode cX12_drop 57 = .ok (.iload_n 2, 1) := by decide +kernel
theorem dX12_drop_58 : decode cX12_drop 58 = .ok (.ifCond .eq 16, 3) := by decide +kernel
theorem dX12_drop_61 : decode cX12_drop 61 = .ok (.aload_n 0, 1) := by decide +kernel
theorem dX12_drop_62 : decode cX12_drop 62 = .ok (.dup, 1) := by decide +kernel
theorem dX12_drop_63 : decode cX12_drop 63 = .ok (.getfield 408, 3) := by decide +kernel
theorem dX12_drop_66 : decode cX12_drop 66 = .ok (.iconst 1, 1) := by decide +kernel
theorem dX12_drop_67 : decode cX12_drop 67 = .ok (.isub, 1) := by decide +kernel
theorem dX12_drop_68 : decode cX12_drop 68 = .ok (.putfield 408, 3) := by decide +kernel
theorem dX12_drop_71 : decode cX12_drop 71 = .ok (.goto 13, 3) := by decide +kernel
theorem dX12_drop_74 : decode cX12_drop 74 = .ok (.aload_n 0, 1) := by decide +kernel
theorem dX12_drop_75 : decode cX12_drop 75 = .ok (.dup, 1) := by decide +kernel
theorem dX12_drop_76 : decode cX12_drop 76 = .ok (.getfield 411, 3) := by decide +kernel
theorem dX12_drop_79 : decode cX12_drop 79 = .ok (.iconst 1, 1) := by decide +kernel
theorem dX12_drop_80 : decode cX12_drop 80 = .ok (.isub, 1) := by decide +kernel
theorem dX12_drop_81 : decode cX12_drop 81 = .ok (.putfield 411, 3) := by decide +kernel
theorem dX12_drop_84 : decode cX12_drop 84 = .ok (.iload_n 2, 1) := by decide +kernel
theorem dX12_drop_85 : decode cX12_drop 85 = .ok (.ifCond .eq 13, 3) := by decide +kernel
theorem dX12_drop_88 : decode cX12_drop 88 = .ok (.bipush 20, 2) := by decide +kernel
theorem dX12_drop_90 : decode cX12_drop 90 = .ok (.aload_n 0, 1) := by decide +kernel
theorem dX12_drop_91 : decode cX12_drop 91 = .ok (.getfield 408, 3) := by decide +kernel
theorem dX12_drop_94 : decode cX12_drop 94 = .ok (.iadd, 1) := by decide +kernel
theorem dX12_drop_95 : decode cX12_drop 95 = .ok (.goto 7, 3) := by decide +kernel
theorem dX12_drop_98 : decode cX12_drop 98 = .ok (.aload_n 0, 1) := by decide +kernel
theorem dX12_drop_99 : decode cX12_drop 99 = .ok (.getfield 411, 3) := by decide +kernel
theorem dX12_drop_102 : decode cX12_drop 102 = .ok (.istore 4, 2) := by decide +kernel
theorem dX12_drop_104 : decode cX12_drop 104 = .ok (.iload_n 3, 1) := by decide +kernel
theorem dX12_drop_105 : decode cX12_drop 105 = .ok (.istore 5, 2) := by decide +kernel
theorem dX12_drop_107 : decode cX12_drop 107 = .ok (.iload 5, 2) := by decide +kernel
theorem dX12_drop_109 : decode cX12_drop 109 = .ok (.iload 4, 2) := by decide +kernel
theorem dX12_drop_111 : decode cX12_drop 111 = .ok (.if_icmp .ge 57, 3) := by decide +kernel
theorem dX12_drop_114 : decode cX12_drop 114 = .ok (.aload_n 0, 1) := by decide +kernel
theorem dX12_drop_115 : decode cX12_drop 115 = .ok (.getfield 69, 3) := by decide +kernel
theorem dX12_drop_118 : decode cX12_drop 118 = .ok (.iload 5, 2) := by decide +kernel
theorem dX12_drop_120 : decode cX12_drop 120 = .ok (.aload_n 0, 1) := by decide +kernel
theorem dX12_drop_121 : decode cX12_drop 121 = .ok (.getfield 69, 3) := by decide +kernel
theorem dX12_drop_124 : decode cX12_drop 124 = .ok (.iload 5, 2) := by decide +kernel
theorem dX12_drop_126 : decode cX12_drop 126 = .ok (.iconst 1, 1) := by decide +kernel
theorem dX12_drop_127 : decode cX12_drop 127 = .ok (.iadd, 1) := by decide +kernel
theorem dX12_drop_128 : decode cX12_drop 128 = .ok (.iaload, 1) := by decide +kernel
theorem dX12_drop_129 : decode cX12_drop 129 = .ok (.iastore, 1) := by decide +kernel
theorem dX12_drop_130 : decode cX12_drop 130 = .ok (.aload_n 0, 1) := by decide +kernel
theorem dX12_drop_131 : decode cX12_drop 131 = .ok (.getfield 72, 3) := by decide +kernel
theorem dX12_drop_134 : decode cX12_drop 134 = .ok (.iload 5, 2) := by decide +kernel
theorem dX12_drop_136 : decode cX12_drop 136 = .ok (.aload_n 0, 1) := by decide +kernel
theorem dX12_drop_137 : decode cX12_drop 137 = .ok (.getfield 72, 3) := by decide +kernel
theorem dX12_drop_140 : decode cX12_drop 140 = .ok (.iload 5, 2) := by decide +kernel
theorem dX12_drop_142 : decode cX12_drop 142 = .ok (.iconst 1, 1) := by decide +kernel
theorem dX12_drop_143 : decode cX12_drop 143 = .ok (.iadd, 1) := by decide +kernel
theorem dX12_drop_144 : decode cX12_drop 144 = .ok (.iaload, 1) := by decide +kernel
theorem dX12_drop_145 : decode cX12_drop 145 = .ok (.iastore, 1) := by decide +kernel
theorem dX12_drop_146 : decode cX12_drop 146 = .ok (.aload_n 0, 1) := by decide +kernel
theorem dX12_drop_147 : decode cX12_drop 147 = .ok (.getfield 75, 3) := by decide +kernel
theorem dX12_drop_150 : decode cX12_drop 150 = .ok (.iload 5, 2) := by decide +kernel
theorem dX12_drop_152 : decode cX12_drop 152 = .ok (.aload_n 0, 1) := by decide +kernel
theorem dX12_drop_153 : decode cX12_drop 153 = .ok (.getfield 75, 3) := by decide +kernel
theorem dX12_drop_156 : decode cX12_drop 156 = .ok (.iload 5, 2) := by decide +kernel
theorem dX12_drop_158 : decode cX12_drop 158 = .ok (.iconst 1, 1) := by decide +kernel
theorem dX12_drop_159 : decode cX12_drop 159 = .ok (.iadd, 1) := by decide +kernel
theorem dX12_drop_160 : decode cX12_drop 160 = .ok (.iaload, 1) := by decide +kernel
theorem dX12_drop_161 : decode cX12_drop 161 = .ok (.iastore, 1) := by decide +kernel
theorem dX12_drop_162 : decode cX12_drop 162 = .ok (.iinc 5 1, 3) := by decide +kernel
theorem dX12_drop_165 : decode cX12_drop 165 = .ok (.goto (-58), 3) := by decide +kernel
theorem dX12_drop_168 : decode cX12_drop 168 = .ok (.aload_n 0, 1) := by decide +kernel
theorem dX12_drop_169 : decode cX12_drop 169 = .ok (.invokevirtual 509, 3) := by decide +kernel
theorem dX12_drop_172 : decode cX12_drop 172 = .ok (.aload_n 0, 1) := by decide +kernel
theorem dX12_drop_173 : decode cX12_drop 173 = .ok (.getfield 411, 3) := by decide +kernel
theorem dX12_drop_176 : decode cX12_drop 176 = .ok (.aload_n 0, 1) := by decide +kernel
theorem dX12_drop_177 : decode cX12_drop 177 = .ok (.getfield 408, 3) := by decide +kernel
theorem dX12_drop_180 : decode cX12_drop 180 = .ok (.iadd, 1) := by decide +kernel
theorem dX12_drop_181 : decode cX12_drop 181 = .ok (.ireturn, 1) := by decide +kernel
theorem dX12_steps_0 : decode cX12_steps 0 = .ok (.aload_n 0, 1) := by decide +kernel
theorem dX12_steps_1 : decode cX12_steps 1 = .ok (.iconst 0, 1) := by decide +kernel
theorem dX12_steps_2 : decode cX12_steps 2 = .ok (.putfield 1, 3) := by decide +kernel
theorem dX12_steps_5 : decode cX12_steps 5 = .ok (.aload_n 0, 1) := by decide +kernel
theorem dX12_steps_6 : decode cX12_steps 6 = .ok (.getfield 512, 3) := by decide +kernel
theorem dX12_steps_9 : decode cX12_steps 9 = .ok (.ireturn, 1) := by decide +kernel
theorem dX12_noStep_0 : decode cX12_noStep 0 = .ok (.aload_n 0, 1) := by decide +kernel
theorem dX12_noStep_1 : decode cX12_noStep 1 = .ok (.iload_n 1, 1) := by decide +kernel
theorem dX12_noStep_2 : decode cX12_noStep 2 = .ok (.iconst 0, 1) := by decide +kernel
theorem dX12_noStep_3 : decode cX12_noStep 3 = .ok (.aload_n 0, 1) := by decide +kernel
theorem dX12_noStep_4 : decode cX12_noStep 4 = .ok (.getfield 512, 3) := by decide +kernel
theorem dX12_noStep_7 : decode cX12_noStep 7 = .ok (.iconst 1, 1) := by decide +kernel
theorem dX12_noStep_8 : decode cX12_noStep 8 = .ok (.isub, 1) := by decide +kernel
theorem dX12_noStep_9 : decode cX12_noStep 9 = .ok (.invokestatic 251, 3) := by decide +kernel
theorem dX12_noStep_12 : decode cX12_noStep 12 = .ok (.iconst 1, 1) := by decide +kernel
theorem dX12_noStep_13 : decode cX12_noStep 13 = .ok (.invokevirtual 291, 3) := by decide +kernel
theorem dX12_noStep_16 : decode cX12_noStep 16 = .ok (.ireturn, 1) := by decide +kernel
theorem dX12_stepAt_0 : decode cX12_stepAt 0 = .ok (.aload_n 0, 1) := by decide +kernel
theorem dX12_stepAt_1 : decode cX12_stepAt 1 = .ok (.iconst 0, 1) := by decide +kernel
theorem dX12_stepAt_2 : decode cX12_stepAt 2 = .ok (.putfield 1, 3) := by decide +kernel
theorem dX12_stepAt_5 : decode cX12_stepAt 5 = .ok (.aload_n 0, 1) := by decide +kernel
theorem dX12_stepAt_6 : decode cX12_stepAt 6 = .ok (.iload_n 1, 1) := by decide +kernel
theorem dX12_stepAt_7 : decode cX12_stepAt 7 = .ok (.invokevirtual 571, 3) := by decide +kernel
theorem dX12_stepAt_10 : decode cX12_stepAt 10 = .ok (.ifCond .eq 7, 3) := by decide +kernel
theorem dX12_stepAt_13 : decode cX12_stepAt 13 = .ok (.iconst 0, 1) := by decide +kernel
theorem dX12_stepAt_14 : decode cX12_stepAt 14 = .ok (.goto 9, 3) := by decide +kernel
theorem dX12_stepAt_17 : decode cX12_stepAt 17 = .ok (.aload_n 0, 1) := by decide +kernel
theorem dX12_stepAt_18 : decode cX12_stepAt 18 = .ok (.getfield 100, 3) := by decide +kernel
theorem dX12_stepAt_21 : decode cX12_stepAt 21 = .ok (.iload_n 1, 1) := by decide +kernel
theorem dX12_stepAt_22 : decode cX12_stepAt 22 = .ok (.iaload, 1) := by decide +kernel
theorem dX12_stepAt_23 : decode cX12_stepAt 23 = .ok (.ireturn, 1) := by decide +kernel
theorem dX12_takeStep_0 : decode cX12_takeStep 0 = .ok (.aload_n 0, 1) := by decide +kernel
theorem dX12_takeStep_1 : decode cX12_takeStep 1 = .ok (.iconst 0, 1) := by decide +kernel
theorem dX12_takeStep_2 : decode cX12_takeStep 2 = .ok (.putfield 1, 3) := by decide +kernel
theorem dX12_takeStep_5 : decode cX12_takeStep 5 = .ok (.aload_n 0, 1) := by decide +kernel
theorem dX12_takeStep_6 : decode cX12_takeStep 6 = .ok (.iload_n 1, 1) := by decide +kernel
theorem dX12_takeStep_7 : decode cX12_takeStep 7 = .ok (.invokevirtual 571, 3) := by decide +kernel
theorem dX12_takeStep_10 : decode cX12_takeStep 10 = .ok (.ifCond .eq 7, 3) := by decide +kernel
theorem dX12_takeStep_13 : decode cX12_takeStep 13 = .ok (.iconst 0, 1) := by decide +kernel
theorem dX12_takeStep_14 : decode cX12_takeStep 14 = .ok (.goto 12, 3) := by decide +kernel
theorem dX12_takeStep_17 : decode cX12_takeStep 17 = .ok (.aload_n 0, 1) := by decide +kernel
theorem dX12_takeStep_18 : decode cX12_takeStep 18 = .ok (.sipush 200, 3) := by decide +kernel
theorem dX12_takeStep_21 : decode cX12_takeStep 21 = .ok (.iload_n 1, 1) := by decide +kernel
theorem dX12_takeStep_22 : decode cX12_takeStep 22 = .ok (.iadd, 1) := by decide +kernel
theorem dX12_takeStep_23 : decode cX12_takeStep 23 = .ok (.invokevirtual 568, 3) := by decide +kernel
theorem dX12_takeStep_26 : decode cX12_takeStep 26 = .ok (.ireturn, 1) := by decide +kernel
theorem dX12_aheadLength_0 : decode cX12_aheadLength 0 = .ok (.aload_n 0, 1) := by decide +kernel
theorem dX12_aheadLength_1 : decode cX12_aheadLength 1 = .ok (.bipush 14, 2) := by decide +kernel
theorem dX12_aheadLength_3 : decode cX12_aheadLength 3 = .ok (.aload_n 0, 1) := by decide +kernel
theorem dX12_aheadLength_4 : decode cX12_aheadLength 4 = .ok (.getfield 170, 3) := by decide +kernel
theorem dX12_aheadLength_7 : decode cX12_aheadLength 7 = .ok (.iconst 1, 1) := by decide +kernel
theorem dX12_aheadLength_8 : decode cX12_aheadLength 8 = .ok (.invokevirtual 228, 3) := by decide +kernel
theorem dX12_aheadLength_11 : decode cX12_aheadLength 11 = .ok (.iconst 0, 1) := by decide +kernel
theorem dX12_aheadLength_12 : decode cX12_aheadLength 12 = .ok (.istore_n 1, 1) := by decide +kernel
theorem dX12_aheadLength_13 : decode cX12_aheadLength 13 = .ok (.iconst 0, 1) := by decide +kernel
theorem dX12_aheadLength_14 : decode cX12_aheadLength 14 = .ok (.istore_n 2, 1) := by decide +kernel
theorem dX12_aheadLength_15 : decode cX12_aheadLength 15 = .ok (.aload_n 0, 1) := by decide +kernel
theorem dX12_aheadLength_16 : decode cX12_aheadLength 16 = .ok (.bipush 14, 2) := by decide +kernel
theorem dX12_aheadLength_18 : decode cX12_aheadLength 18 = .ok (.iconst 0, 1) := by decide +kernel
theorem dX12_aheadLength_19 : decode cX12_aheadLength 19 = .ok (.invokevirtual 173, 3) := by decide +kernel
theorem dX12_aheadLength_22 : decode cX12_aheadLength 22 = .ok (.iconst 2, 1) := by decide +kernel
theorem dX12_aheadLength_23 : decode cX12_aheadLength 23 = .ok (.irem, 1) := by decide +kernel
theorem dX12_aheadLength_24 : decode cX12_aheadLength 24 = .ok (.ifCond .ne 17, 3) := by decide +kernel
theorem dX12_aheadLength_27 : decode cX12_aheadLength 27 = .ok (.aload_n 0, 1) := by decide +kernel
theorem dX12_aheadLength_28 : decode cX12_aheadLength 28 = .ok (.bipush 14, 2) := by decide +kernel
theorem dX12_aheadLength_30 : decode cX12_aheadLength 30 = .ok (.iconst 2, 1) := by decide +kernel
theorem dX12_aheadLength_31 : decode cX12_aheadLength 31 = .ok (.invokevirtual 188, 3) := by decide +kernel
theorem dX12_aheadLength_34 : decode cX12_aheadLength 34 = .ok (.istore_n 3, 1) := by decide +kernel
theorem dX12_aheadLength_35 : decode cX12_aheadLength 35 = .ok (.iinc 1 1, 3) := by decide +kernel
theorem dX12_aheadLength_38 : decode cX12_aheadLength 38 = .ok (.goto (-23), 3) := by decide +kernel
theorem dX12_aheadLength_41 : decode cX12_aheadLength 41 = .ok (.aload_n 0, 1) := by decide +kernel
theorem dX12_aheadLength_42 : decode cX12_aheadLength 42 = .ok (.bipush 14, 2) := by decide +kernel
theorem dX12_aheadLength_44 : decode cX12_aheadLength 44 = .ok (.iconst 0, 1) := by decide +kernel
theorem dX12_aheadLength_45 : decode cX12_aheadLength 45 = .ok (.invokevirtual 173, 3) := by decide +kernel
theorem dX12_aheadLength_48 : decode cX12_aheadLength 48 = .ok (.iconst 5, 1) := by decide +kernel
theorem dX12_aheadLength_49 : decode cX12_aheadLength 49 = .ok (.irem, 1) := by decide +kernel
theorem dX12_aheadLength_50 : decode cX12_aheadLength 50 = .ok (.ifCond .ne 17, 3) := by decide +kernel
theorem dX12_aheadLength_53 : decode cX12_aheadLength 53 = .ok (.aload_n 0, 1) := by decide +kernel
theorem dX12_aheadLength_54 : decode cX12_aheadLength 54 = .ok (.bipush 14, 2) := by decide +kernel
theorem dX12_aheadLength_56 : decode cX12_aheadLength 56 = .ok (.iconst 5, 1) := by decide +kernel
theorem dX12_aheadLength_57 : decode cX12_aheadLength 57 = .ok (.invokevirtual 188, 3) := by decide +kernel
theorem dX12_aheadLength_60 : decode cX12_aheadLength 60 = .ok (.istore_n 3, 1) := by decide +kernel
theorem dX12_aheadLength_61 : decode cX12_aheadLength 61 = .ok (.iinc 2 1, 3) := by decide +kernel
theorem dX12_aheadLength_64 : decode cX12_aheadLength 64 = .ok (.goto (-23), 3) := by decide +kernel
theorem dX12_aheadLength_67 : decode cX12_aheadLength 67 = .ok (.iload_n 1, 1) := by decide +kernel
theorem dX12_aheadLength_68 : decode cX12_aheadLength 68 = .ok (.iload_n 2, 1) := by decide +kernel
theorem dX12_aheadLength_69 : decode cX12_aheadLength 69 = .ok (.if_icmp .le 7, 3) := by decide +kernel
theorem dX12_aheadLength_72 : decode cX12_aheadLength 72 = .ok (.iload_n 1, 1) := by decide +kernel
theorem dX12_aheadLength_73 : decode cX12_aheadLength 73 = .ok (.goto 4, 3) := by decide +kernel
theorem dX12_aheadLength_76 : decode cX12_aheadLength 76 = .ok (.iload_n 2, 1) := by decide +kernel
theorem dX12_aheadLength_77 : decode cX12_aheadLength 77 = .ok (.ireturn, 1) := by decide +kernel
theorem dX12_isOne_0 : decode cX12_isOne 0 = .ok (.aload_n 0, 1) := by decide +kernel
theorem dX12_isOne_1 : decode cX12_isOne 1 = .ok (.getfield 17, 3) := by decide +kernel
theorem dX12_isOne_4 : decode cX12_isOne 4 = .ok (.iload_n 1, 1) := by decide +kernel
theorem dX12_isOne_5 : decode cX12_isOne 5 = .ok (.iaload, 1) := by decide +kernel
theorem dX12_isOne_6 : decode cX12_isOne 6 = .ok (.iconst 1, 1) := by decide +kernel
theorem dX12_isOne_7 : decode cX12_isOne 7 = .ok (.if_icmp .ne 21, 3) := by decide +kernel
theorem dX12_isOne_10 : decode cX12_isOne 10 = .ok (.aload_n 0, 1) := by decide +kernel
theorem dX12_isOne_11 : decode cX12_isOne 11 = .ok (.getfield 13, 3) := by decide +kernel
theorem dX12_isOne_14 : decode cX12_isOne 14 = .ok (.sipush 1000, 3) := by decide +kernel
theorem dX12_isOne_17 : decode cX12_isOne 17 = .ok (.iload_n 1, 1) := by decide +kernel
theorem dX12_isOne_18 : decode cX12_isOne 18 = .ok (.imul, 1) := by decide +kernel
theorem dX12_isOne_19 : decode cX12_isOne 19 = .ok (.iaload, 1) := by decide +kernel
theorem dX12_isOne_20 : decode cX12_isOne 20 = .ok (.iconst 1, 1) := by decide +kernel
theorem dX12_isOne_21 : decode cX12_isOne 21 = .ok (.if_icmp .ne 7, 3) := by decide +kernel
theorem dX12_isOne_24 : decode cX12_isOne 24 = .ok (.iconst 1, 1) := by decide +kernel
theorem dX12_isOne_25 : decode cX12_isOne 25 = .ok (.goto 4, 3) := by decide +kernel
theorem dX12_isOne_28 : decode cX12_isOne 28 = .ok (.iconst 0, 1) := by decide +kernel
theorem dX12_isOne_29 : decode cX12_isOne 29 = .ok (.ireturn, 1) := by decide +kernel
