theorem dX5_isLawful_0 : decode cX5_isLawful 0 = .ok (.aload_n 0, 1) := by decide +kernel
theorem dX5_isLawful_1 : decode cX5_isLawful 1 = .ok (.aload_n 1, 1) := by decide +kernel
theorem dX5_isLawful_2 : decode cX5_isLawful 2 = .ok (.aload_n 2, 1) := by decide +kernel
theorem dX5_isLawful_3 : decode cX5_isLawful 3 = .ok (.iconst 0, 1) := by decide +kernel
theorem dX5_isLawful_4 : decode cX5_isLawful 4 = .ok (.aload_n 0, 1) := by decide +kernel
theorem dX5_isLawful_5 : decode cX5_isLawful 5 = .ok (.getfield 61, 3) := by decide +kernel
theorem dX5_isLawful_8 : decode cX5_isLawful 8 = .ok (.invokevirtual 206, 3) := by decide +kernel
theorem dX5_isLawful_11 : decode cX5_isLawful 11 = .ok (.aload_n 0, 1) := by decide +kernel
theorem dX5_isLawful_12 : decode cX5_isLawful 12 = .ok (.aload_n 0, 1) := by decide +kernel
theorem dX5_isLawful_13 : decode cX5_isLawful 13 = .ok (.getfield 61, 3) := by decide +kernel
theorem dX5_isLawful_16 : decode cX5_isLawful 16 = .ok (.aload_n 2, 1) := by decide +kernel
theorem dX5_isLawful_17 : decode cX5_isLawful 17 = .ok (.iconst 1, 1) := by decide +kernel
theorem dX5_isLawful_18 : decode cX5_isLawful 18 = .ok (.aload_n 0, 1) := by decide +kernel
theorem dX5_isLawful_19 : decode cX5_isLawful 19 = .ok (.getfield 64, 3) := by decide +kernel
theorem dX5_isLawful_22 : decode cX5_isLawful 22 = .ok (.invokevirtual 206, 3) := by decide +kernel
theorem dX5_isLawful_25 : decode cX5_isLawful 25 = .ok (.aload_n 0, 1) := by decide +kernel
theorem dX5_isLawful_26 : decode cX5_isLawful 26 = .ok (.getfield 64, 3) := by decide +kernel
theorem dX5_isLawful_29 : decode cX5_isLawful 29 = .ok (.aload_n 1, 1) := by decide +kernel
theorem dX5_isLawful_30 : decode cX5_isLawful 30 = .ok (.invokevirtual 220, 3) := by decide +kernel
theorem dX5_isLawful_33 : decode cX5_isLawful 33 = .ok (.ifCond .ne 5, 3) := by decide +kernel
theorem dX5_isLawful_36 : decode cX5_isLawful 36 = .ok (.iconst 0, 1) := by decide +kernel
theorem dX5_isLawful_37 : decode cX5_isLawful 37 = .ok (.ireturn, 1) := by decide +kernel
theorem dX5_isLawful_38 : decode cX5_isLawful 38 = .ok (.aload_n 2, 1) := by decide +kernel
theorem dX5_isLawful_39 : decode cX5_isLawful 39 = .ok (.getfield 165, 3) := by decide +kernel
theorem dX5_isLawful_42 : decode cX5_isLawful 42 = .ok (.ifCond .ne 5, 3) := by decide +kernel
theorem dX5_isLawful_45 : decode cX5_isLawful 45 = .ok (.iconst 1, 1) := by decide +kernel
theorem dX5_isLawful_46 : decode cX5_isLawful 46 = .ok (.ireturn, 1) := by decide +kernel
theorem dX5_isLawful_47 : decode cX5_isLawful 47 = .ok (.aload_n 0, 1) := by decide +kernel
theorem dX5_isLawful_48 : decode cX5_isLawful 48 = .ok (.aload_n 1, 1) := by decide +kernel
theorem dX5_isLawful_49 : decode cX5_isLawful 49 = .ok (.aload_n 2, 1) := by decide +kernel
theorem dX5_isLawful_50 : decode cX5_isLawful 50 = .ok (.aload_n 0, 1) := by decide +kernel
theorem dX5_isLawful_51 : decode cX5_isLawful 51 = .ok (.getfield 61, 3) := by decide +kernel
theorem dX5_isLawful_54 : decode cX5_isLawful 54 = .ok (.invokevirtual 202, 3) := by decide +kernel
theorem dX5_isLawful_57 : decode cX5_isLawful 57 = .ok (.aload_n 0, 1) := by decide +kernel
theorem dX5_isLawful_58 : decode cX5_isLawful 58 = .ok (.aload_n 0, 1) := by decide +kernel
theorem dX5_isLawful_59 : decode cX5_isLawful 59 = .ok (.getfield 61, 3) := by decide +kernel
theorem dX5_isLawful_62 : decode cX5_isLawful 62 = .ok (.aload_n 0, 1) := by decide +kernel
theorem dX5_isLawful_63 : decode cX5_isLawful 63 = .ok (.aload_n 2, 1) := by decide +kernel
theorem dX5_isLawful_64 : decode cX5_isLawful 64 = .ok (.invokevirtual 224, 3) := by decide +kernel
theorem dX5_isLawful_67 : decode cX5_isLawful 67 = .ok (.aload_n 0, 1) := by decide +kernel
theorem dX5_isLawful_68 : decode cX5_isLawful 68 = .ok (.getfield 64, 3) := by decide +kernel
theorem dX5_isLawful_71 : decode cX5_isLawful 71 = .ok (.invokevirtual 202, 3) := by decide +kernel
theorem dX5_isLawful_74 : decode cX5_isLawful 74 = .ok (.aload_n 0, 1) := by decide +kernel
theorem dX5_isLawful_75 : decode cX5_isLawful 75 = .ok (.getfield 64, 3) := by decide +kernel
theorem dX5_isLawful_78 : decode cX5_isLawful 78 = .ok (.aload_n 1, 1) := by decide +kernel
theorem dX5_isLawful_79 : decode cX5_isLawful 79 = .ok (.invokevirtual 220, 3) := by decide +kernel
theorem dX5_isLawful_82 : decode cX5_isLawful 82 = .ok (.ireturn, 1) := by decide +kernel
theorem dX5_lengthAhead_0 : decode cX5_lengthAhead 0 = .ok (.aload_n 0, 1) := by decide +kernel
theorem dX5_lengthAhead_1 : decode cX5_lengthAhead 1 = .ok (.getfield 48, 3) := by decide +kernel
theorem dX5_lengthAhead_4 : decode cX5_lengthAhead 4 = .ok (.aload_n 1, 1) := by decide +kernel
theorem dX5_lengthAhead_5 : decode cX5_lengthAhead 5 = .ok (.getfield 144, 3) := by decide +kernel
theorem dX5_lengthAhead_8 : decode cX5_lengthAhead 8 = .ok (.invokevirtual 70, 3) := by decide +kernel
theorem dX5_lengthAhead_11 : decode cX5_lengthAhead 11 = .ok (.iconst 0, 1) := by decide +kernel
theorem dX5_lengthAhead_12 : decode cX5_lengthAhead 12 = .ok (.istore_n 2, 1) := by decide +kernel
theorem dX5_lengthAhead_13 : decode cX5_lengthAhead 13 = .ok (.iload_n 2, 1) := by decide +kernel
theorem dX5_lengthAhead_14 : decode cX5_lengthAhead 14 = .ok (.sipush 1000, 3) := by decide +kernel
theorem dX5_lengthAhead_17 : decode cX5_lengthAhead 17 = .ok (.if_icmp .ge 29, 3) := by decide +kernel
theorem dX5_lengthAhead_20 : decode cX5_lengthAhead 20 = .ok (.aload_n 0, 1) := by decide +kernel
theorem dX5_lengthAhead_21 : decode cX5_lengthAhead 21 = .ok (.getfield 48, 3) := by decide +kernel
theorem dX5_lengthAhead_24 : decode cX5_lengthAhead 24 = .ok (.iconst 2, 1) := by decide +kernel
theorem dX5_lengthAhead_25 : decode cX5_lengthAhead 25 = .ok (.invokevirtual 188, 3) := by decide +kernel
theorem dX5_lengthAhead_28 : decode cX5_lengthAhead 28 = .ok (.ifCond .eq 18, 3) := by decide +kernel
theorem dX5_lengthAhead_31 : decode cX5_lengthAhead 31 = .ok (.aload_n 0, 1) := by decide +kernel
theorem dX5_lengthAhead_32 : decode cX5_lengthAhead 32 = .ok (.getfield 48, 3) := by decide +kernel
theorem dX5_lengthAhead_35 : decode cX5_lengthAhead 35 = .ok (.iconst 2, 1) := by decide +kernel
theorem dX5_lengthAhead_36 : decode cX5_lengthAhead 36 = .ok (.invokevirtual 86, 3) := by decide +kernel
theorem dX5_lengthAhead_39 : decode cX5_lengthAhead 39 = .ok (.pop, 1) := by decide +kernel
theorem dX5_lengthAhead_40 : decode cX5_lengthAhead 40 = .ok (.iinc 2 1, 3) := by decide +kernel
theorem dX5_lengthAhead_43 : decode cX5_lengthAhead 43 = .ok (.goto (-30), 3) := by decide +kernel
theorem dX5_lengthAhead_46 : decode cX5_lengthAhead 46 = .ok (.iconst 0, 1) := by decide +kernel
theorem dX5_lengthAhead_47 : decode cX5_lengthAhead 47 = .ok (.istore_n 3, 1) := by decide +kernel
theorem dX5_lengthAhead_48 : decode cX5_lengthAhead 48 = .ok (.iload_n 3, 1) := by decide +kernel
theorem dX5_lengthAhead_49 : decode cX5_lengthAhead 49 = .ok (.sipush 1000, 3) := by decide +kernel
theorem dX5_lengthAhead_52 : decode cX5_lengthAhead 52 = .ok (.if_icmp .ge 29, 3) := by decide +kernel
theorem dX5_lengthAhead_55 : decode cX5_lengthAhead 55 = .ok (.aload_n 0, 1) := by decide +kernel
theorem dX5_lengthAhead_56 : decode cX5_lengthAhead 56 = .ok (.getfield 48, 3) := by decide +kernel
theorem dX5_lengthAhead_59 : decode cX5_lengthAhead 59 = .ok (.iconst 5, 1) := by decide +kernel
theorem dX5_lengthAhead_60 : decode cX5_lengthAhead 60 = .ok (.invokevirtual 188, 3) := by decide +kernel
theorem dX5_lengthAhead_63 : decode cX5_lengthAhead 63 = .ok (.ifCond .eq 18, 3) := by decide +kernel
theorem dX5_lengthAhead_66 : decode cX5_lengthAhead 66 = .ok (.aload_n 0, 1) := by decide +kernel
theorem dX5_lengthAhead_67 : decode cX5_lengthAhead 67 = .ok (.getfield 48, 3) := by decide +kernel
theorem dX5_lengthAhead_70 : decode cX5_lengthAhead 70 = .ok (.iconst 5, 1) := by decide +kernel
theorem dX5_lengthAhead_71 : decode cX5_lengthAhead 71 = .ok (.invokevirtual 86, 3) := by decide +kernel
theorem dX5_lengthAhead_74 : decode cX5_lengthAhead 74 = .ok (.pop, 1) := by decide +kernel
theorem dX5_lengthAhead_75 : decode cX5_lengthAhead 75 = .ok (.iinc 3 1, 3) := by decide +kernel
theorem dX5_lengthAhead_78 : decode cX5_lengthAhead 78 = .ok (.goto (-30), 3) := by decide +kernel
theorem dX5_lengthAhead_81 : decode cX5_lengthAhead 81 = .ok (.iload_n 2, 1) := by decide +kernel
theorem dX5_lengthAhead_82 : decode cX5_lengthAhead 82 = .ok (.iload_n 3, 1) := by decide +kernel
theorem dX5_lengthAhead_83 : decode cX5_lengthAhead 83 = .ok (.invokestatic 217, 3) := by decide +kernel
theorem dX5_lengthAhead_86 : decode cX5_lengthAhead 86 = .ok (.ireturn, 1) := by decide +kernel
theorem dX5_lengthRepeating_0 : decode cX5_lengthRepeating 0 = .ok (.aload_n 0, 1) := by decide +kernel
theorem dX5_lengthRepeating_1 : decode cX5_lengthRepeating 1 = .ok (.getfield 48, 3) := by decide +kernel
theorem dX5_lengthRepeating_4 : decode cX5_lengthRepeating 4 = .ok (.invokevirtual 228, 3) := by decide +kernel
theorem dX5_lengthRepeating_7 : decode cX5_lengthRepeating 7 = .ok (.ifCond .eq 5, 3) := by decide +kernel
theorem dX5_lengthRepeating_10 : decode cX5_lengthRepeating 10 = .ok (.iconst 0, 1) := by decide +kernel
theorem dX5_lengthRepeating_11 : decode cX5_lengthRepeating 11 = .ok (.ireturn, 1) := by decide +kernel
theorem dX5_lengthRepeating_12 : decode cX5_lengthRepeating 12 = .ok (.aload_n 0, 1) := by decide +kernel
theorem dX5_lengthRepeating_13 : decode cX5_lengthRepeating 13 = .ok (.getfield 48, 3) := by decide +kernel
theorem dX5_lengthRepeating_16 : decode cX5_lengthRepeating 16 = .ok (.invokevirtual 126, 3) := by decide +kernel
theorem dX5_lengthRepeating_19 : decode cX5_lengthRepeating 19 = .ok (.ifCond .eq 30, 3) := by decide +kernel
theorem dX5_lengthRepeating_22 : decode cX5_lengthRepeating 22 = .ok (.aload_n 0, 1) := by decide +kernel
theorem dX5_lengthRepeating_23 : decode cX5_lengthRepeating 23 = .ok (.getfield 48, 3) := by decide +kernel
theorem dX5_lengthRepeating_26 : decode cX5_lengthRepeating 26 = .ok (.invokevirtual 137, 3) := by decide +kernel
theorem dX5_lengthRepeating_29 : decode cX5_lengthRepeating 29 = .ok (.ldc2_w 231, 3) := by decide +kernel
theorem dX5_lengthRepeating_32 : decode cX5_lengthRepeating 32 = .ok (.lcmp, 1) := by decide +kernel
theorem dX5_lengthRepeating_33 : decode cX5_lengthRepeating 33 = .ok (.ifCond .ge 16, 3) := by decide +kernel
theorem dX5_lengthRepeating_36 : decode cX5_lengthRepeating 36 = .ok (.aload_n 0, 1) := by decide +kernel
theorem dX5_lengthRepeating_37 : decode cX5_lengthRepeating 37 = .ok (.aload_n 0, 1) := by decide +kernel
theorem dX5_lengthRepeating_38 : decode cX5_lengthRepeating 38 = .ok (.getfield 48, 3) := by decide +kernel
theorem dX5_lengthRepeating_41 : decode cX5_lengthRepeating 41 = .ok (.invokevirtual 137, 3) := by decide +kernel
theorem dX5_lengthRepeating_44 : decode cX5_lengthRepeating 44 = .ok (.iload_n 1, 1) := by decide +kernel
theorem dX5_lengthRepeating_45 : decode cX5_lengthRepeating 45 = .ok (.invokevirtual 233, 3) := by decide +kernel
theorem dX5_lengthRepeating_48 : decode cX5_lengthRepeating 48 = .ok (.ireturn, 1) := by decide +kernel
theorem dX5_lengthRepeating_49 : decode cX5_lengthRepeating 49 = .ok (.aload_n 0, 1) := by decide +kernel
theorem dX5_lengthRepeating_50 : decode cX5_lengthRepeating 50 = .ok (.getfield 42, 3) := by decide +kernel
theorem dX5_lengthRepeating_53 : decode cX5_lengthRepeating 53 = .ok (.lconst 1, 1) := by decide +kernel
theorem dX5_lengthRepeating_54 : decode cX5_lengthRepeating 54 = .ok (.invokevirtual 90, 3) := by decide +kernel
theorem dX5_lengthRepeating_57 : decode cX5_lengthRepeating 57 = .ok (.iconst 1, 1) := by decide +kernel
theorem dX5_lengthRepeating_58 : decode cX5_lengthRepeating 58 = .ok (.istore_n 2, 1) := by decide +kernel
theorem dX5_lengthRepeating_59 : decode cX5_lengthRepeating 59 = .ok (.iload_n 2, 1) := by decide +kernel
theorem dX5_lengthRepeating_60 : decode cX5_lengthRepeating 60 = .ok (.iload_n 1, 1) := by decide +kernel
theorem dX5_lengthRepeating_61 : decode cX5_lengthRepeating 61 = .ok (.if_icmp .gt 70, 3) := by decide +kernel
theorem dX5_lengthRepeating_64 : decode cX5_lengthRepeating 64 = .ok (.aload_n 0, 1) := by decide +kernel
theorem dX5_lengthRepeating_65 : decode cX5_lengthRepeating 65 = .ok (.getfield 42, 3) := by decide +kernel
theorem dX5_lengthRepeating_68 : decode cX5_lengthRepeating 68 = .ok (.bipush 10, 2) := by decide +kernel
theorem dX5_lengthRepeating_70 : decode cX5_lengthRepeating 70 = .ok (.iconst 0, 1) := by decide +kernel
theorem dX5_lengthRepeating_71 : decode cX5_lengthRepeating 71 = .ok (.invokevirtual 95, 3) := by decide +kernel
theorem dX5_lengthRepeating_74 : decode cX5_lengthRepeating 74 = .ok (.iconst 0, 1) := by decide +kernel
theorem dX5_lengthRepeating_75 : decode cX5_lengthRepeating 75 = .ok (.istore_n 3, 1) := by decide +kernel
theorem dX5_lengthRepeating_76 : decode cX5_lengthRepeating 76 = .ok (.iload_n 3, 1) := by decide +kernel
theorem dX5_lengthRepeating_77 : decode cX5_lengthRepeating 77 = .ok (.bipush 9, 2) := by decide +kernel
theorem dX5_lengthRepeating_79 : decode cX5_lengthRepeating 79 = .ok (.if_icmp .ge 34, 3) := by decide +kernel
theorem dX5_lengthRepeating_82 : decode cX5_lengthRepeating 82 = .ok (.aload_n 0, 1) := by decide +kernel
theorem dX5_lengthRepeating_83 : decode cX5_lengthRepeating 83 = .ok (.getfield 42, 3) := by decide +kernel
theorem dX5_lengthRepeating_86 : decode cX5_lengthRepeating 86 = .ok (.aload_n 0, 1) := by decide +kernel
theorem dX5_lengthRepeating_87 : decode cX5_lengthRepeating 87 = .ok (.getfield 48, 3) := by decide +kernel
theorem dX5_lengthRepeating_90 : decode cX5_lengthRepeating 90 = .ok (.invokevirtual 78, 3) := by decide +kernel
theorem dX5_lengthRepeating_93 : decode cX5_lengthRepeating 93 = .ok (.ifCond .lt 20, 3) := by decide +kernel
theorem dX5_lengthRepeating_96 : decode cX5_lengthRepeating 96 = .ok (.aload_n 0, 1) := by decide +kernel
theorem dX5_lengthRepeating_97 : decode cX5_lengthRepeating 97 = .ok (.getfield 42, 3) := by decide +kernel
theorem dX5_lengthRepeating_100 : decode cX5_lengthRepeating 100 = .ok (.aload_n 0, 1) := by decide +kernel
theorem dX5_lengthRepeating_101 : decode cX5_lengthRepeating 101 = .ok (.getfield 48, 3) := by decide +kernel
theorem dX5_lengthRepeating_104 : decode cX5_lengthRepeating 104 = .ok (.invokevirtual 158, 3) := by decide +kernel
theorem dX5_lengthRepeating_107 : decode cX5_lengthRepeating 107 = .ok (.iinc 3 1, 3) := by decide +kernel
theorem dX5_lengthRepeating_110 : decode cX5_lengthRepeating 110 = .ok (.goto (-34), 3) := by decide +kernel
theorem dX5_lengthRepeating_113 : decode cX5_lengthRepeating 113 = .ok (.aload_n 0, 1) := by decide +kernel
theorem dX5_lengthRepeating_114 : decode cX5_lengthRepeating 114 = .ok (.getfield 42, 3) := by decide +kernel
theorem dX5_lengthRepeating_117 : decode cX5_lengthRepeating 117 = .ok (.invokevirtual 228, 3) := by decide +kernel
theorem dX5_lengthRepeating_120 : decode cX5_lengthRepeating 120 = .ok (.ifCond .eq 5, 3) := by decide +kernel
theorem dX5_lengthRepeating_123 : decode cX5_lengthRepeating 123 = .ok (.iload_n 2, 1) := by decide +kernel
theorem dX5_lengthRepeating_124 : decode cX5_lengthRepeating 124 = .ok (.ireturn, 1) := by decide +kernel
theorem dX5_lengthRepeating_125 : decode cX5_lengthRepeating 125 = .ok (.iinc 2 1, 3) := by decide +kernel
theorem dX5_lengthRepeating_128 : decode cX5_lengthRepeating 128 = .ok (.goto (-69), 3) := by decide +kernel
theorem dX5_lengthRepeating_131 : decode cX5_lengthRepeating 131 = .ok (.iconst (-1), 1) := by decide +kernel
theorem dX5_lengthRepeating_132 : decode cX5_lengthRepeating 132 = .ok (.ireturn, 1) := by decide +kernel
theorem dX5_lengthRepeating__0 : decode cX5_lengthRepeating_ 0 = .ok (.lconst 1, 1) := by decide +kernel
theorem dX5_lengthRepeating__1 : decode cX5_lengthRepeating_ 1 = .ok (.lstore 4, 2) := by decide +kernel
theorem dX5_lengthRepeating__3 : decode cX5_lengthRepeating_ 3 = .ok (.iconst 1, 1) := by decide +kernel
theorem dX5_lengthRepeating__4 : decode cX5_lengthRepeating_ 4 = .ok (.istore 6, 2) := by decide +kernel
theorem dX5_lengthRepeating__6 : decode cX5_lengthRepeating_ 6 = .ok (.iload 6, 2) := by decide +kernel
theorem dX5_lengthRepeating__8 : decode cX5_lengthRepeating_ 8 = .ok (.iload_n 3, 1) := by decide +kernel
theorem dX5_lengthRepeating__9 : decode cX5_lengthRepeating_ 9 = .ok (.if_icmp .gt 35, 3) := by decide +kernel
theorem dX5_lengthRepeating__12 : decode cX5_lengthRepeating_ 12 = .ok (.lload_n 1, 1) := by decide +kernel
theorem dX5_lengthRepeating__13 : decode cX5_lengthRepeating_ 13 = .ok (.lconst 0, 1) := by decide +kernel
theorem dX5_lengthRepeating__14 : decode cX5_lengthRepeating_ 14 = .ok (.lcmp, 1) := by decide +kernel
theorem dX5_lengthRepeating__15 : decode cX5_lengthRepeating_ 15 = .ok (.ifCond .le 29, 3) := by decide +kernel
theorem dX5_lengthRepeating__18 : decode cX5_lengthRepeating_ 18 = .ok (.lload 4, 2) := by decide +kernel
theorem dX5_lengthRepeating__20 : decode cX5_lengthRepeating_ 20 = .ok (.ldc2_w 237, 3) := by decide +kernel
theorem dX5_lengthRepeating__23 : decode cX5_lengthRepeating_ 23 = .ok (.lmul, 1) := by decide +kernel
theorem dX5_lengthRepeating__24 : decode cX5_lengthRepeating_ 24 = .ok (.lload_n 1, 1) := by decide +kernel
theorem dX5_lengthRepeating__25 : decode cX5_lengthRepeating_ 25 = .ok (.lrem, 1) := by decide +kernel
theorem dX5_lengthRepeating__26 : decode cX5_lengthRepeating_ 26 = .ok (.lstore 4, 2) := by decide +kernel
theorem dX5_lengthRepeating__28 : decode cX5_lengthRepeating_ 28 = .ok (.lload 4, 2) := by decide +kernel
theorem dX5_lengthRepeating__30 : decode cX5_lengthRepeating_ 30 = .ok (.lconst 1, 1) := by decide +kernel
theorem dX5_lengthRepeating__31 : decode cX5_lengthRepeating_ 31 = .ok (.lcmp, 1) := by decide +kernel
theorem dX5_lengthRepeating__32 : decode cX5_lengthRepeating_ 32 = .ok (.ifCond .ne 6, 3) := by decide +kernel
theorem dX5_lengthRepeating__35 : decode cX5_lengthRepeating_ 35 = .ok (.iload 6, 2) := by decide +kernel
theorem dX5_lengthRepeating__37 : decode cX5_lengthRepeating_ 37 = .ok (.ireturn, 1) := by decide +kernel
theorem dX5_lengthRepeating__38 : decode cX5_lengthRepeating_ 38 = .ok (.iinc 6 1, 3) := by decide +kernel
theorem dX5_lengthRepeating__41 : decode cX5_lengthRepeating_ 41 = .ok (.goto (-35), 3) := by decide +kernel
theorem dX5_lengthRepeating__44 : decode cX5_lengthRepeating_ 44 = .ok (.iconst (-1), 1) := by decide +kernel
theorem dX5_lengthRepeating__45 : decode cX5_lengthRepeating_ 45 = .ok (.ireturn, 1) := by decide +kernel
theorem dX5_startDecimals_0 : decode cX5_startDecimals 0 = .ok (.aload_n 0, 1) := by decide +kernel
theorem dX5_startDecimals_1 : decode cX5_startDecimals 1 = .ok (.aload_n 1, 1) := by decide +kernel
theorem dX5_startDecimals_2 : decode cX5_startDecimals 2 = .ok (.getfield 141, 3) := by decide +kernel
theorem dX5_startDecimals_5 : decode cX5_startDecimals 5 = .ok (.aload_n 1, 1) := by decide +kernel
theorem dX5_startDecimals_6 : decode cX5_startDecimals 6 = .ok (.getfield 144, 3) := by decide +kernel
theorem dX5_startDecimals_9 : decode cX5_startDecimals 9 = .ok (.aload_n 0, 1) := by decide +kernel
theorem dX5_startDecimals_10 : decode cX5_startDecimals 10 = .ok (.getfield 36, 3) := by decide +kernel
theorem dX5_startDecimals_13 : decode cX5_startDecimals 13 = .ok (.aload_n 0, 1) := by decide +kernel
theorem dX5_startDecimals_14 : decode cX5_startDecimals 14 = .ok (.getfield 51, 3) := by decide +kernel
theorem dX5_startDecimals_17 : decode cX5_startDecimals 17 = .ok (.invokevirtual 133, 3) := by decide +kernel
theorem dX5_startDecimals_20 : decode cX5_startDecimals 20 = .ok (.aload_n 0, 1) := by decide +kernel
theorem dX5_startDecimals_21 : decode cX5_startDecimals 21 = .ok (.getfield 36, 3) := by decide +kernel
theorem dX5_startDecimals_24 : decode cX5_startDecimals 24 = .ok (.areturn, 1) := by decide +kernel
theorem dX5_nextDecimals_0 : decode cX5_nextDecimals 0 = .ok (.iload_n 2, 1) := by decide +kernel
theorem dX5_nextDecimals_1 : decode cX5_nextDecimals 1 = .ok (.ifCond .lt 11, 3) := by decide +kernel
theorem dX5_nextDecimals_4 : decode cX5_nextDecimals 4 = .ok (.iload_n 2, 1) := by decide +kernel
theorem dX5_nextDecimals_5 : decode cX5_nextDecimals 5 = .ok (.getstatic 239, 3) := by decide +kernel
theorem dX5_nextDecimals_8 : decode cX5_nextDecimals 8 = .ok (.arraylength, 1) := by decide +kernel
theorem dX5_nextDecimals_9 : decode cX5_nextDecimals 9 = .ok (.if_icmp .lt 5, 3) := by decide +kernel
theorem dX5_nextDecimals_12 : decode cX5_nextDecimals 12 = .ok (.iconst 0, 1) := by decide +kernel
theorem dX5_nextDecimals_13 : decode cX5_nextDecimals 13 = .ok (.ireturn, 1) := by decide +kernel
theorem dX5_nextDecimals_14 : decode cX5_nextDecimals 14 = .ok (.aload_n 0, 1) := by decide +kernel
theorem dX5_nextDecimals_15 : decode cX5_nextDecimals 15 = .ok (.getfield 51, 3) := by decide +kernel
theorem dX5_nextDecimals_18 : decode cX5_nextDecimals 18 = .ok (.getstatic 239, 3) := by decide +kernel
theorem dX5_nextDecimals_21 : decode cX5_nextDecimals 21 = .ok (.iload_n 2, 1) := by decide +kernel
theorem dX5_nextDecimals_22 : decode cX5_nextDecimals 22 = .ok (.iaload, 1) := by decide +kernel
theorem dX5_nextDecimals_23 : decode cX5_nextDecimals 23 = .ok (.iconst 0, 1) := by decide +kernel
theorem dX5_nextDecimals_24 : decode cX5_nextDecimals 24 = .ok (.invokevirtual 95, 3) := by decide +kernel
theorem dX5_nextDecimals_27 : decode cX5_nextDecimals 27 = .ok (.aload_n 0, 1) := by decide +kernel
theorem dX5_nextDecimals_28 : decode cX5_nextDecimals 28 = .ok (.aload_n 0, 1) := by decide +kernel
theorem dX5_nextDecimals_29 : decode cX5_nextDecimals 29 = .ok (.getfield 51, 3) := by decide +kernel
theorem dX5_nextDecimals_32 : decode cX5_nextDecimals 32 = .ok (.aload_n 1, 1) := by decide +kernel
theorem dX5_nextDecimals_33 : decode cX5_nextDecimals 33 = .ok (.getfield 144, 3) := by decide +kernel
theorem dX5_nextDecimals_36 : decode cX5_nextDecimals 36 = .ok (.aload_n 0, 1) := by decide +kernel
theorem dX5_nextDecimals_37 : decode cX5_nextDecimals 37 = .ok (.getfield 12, 3) := by decide +kernel
theorem dX5_nextDecimals_40 : decode cX5_nextDecimals 40 = .ok (.aload_n 0, 1) := by decide +kernel
theorem dX5_nextDecimals_41 : decode cX5_nextDecimals 41 = .ok (.getfield 51, 3) := by decide +kernel
theorem dX5_nextDecimals_44 : decode cX5_nextDecimals 44 = .ok (.invokevirtual 133, 3) := by decide +kernel
theorem dX5_nextDecimals_47 : decode cX5_nextDecimals 47 = .ok (.aload_n 0, 1) := by decide +kernel
theorem dX5_nextDecimals_48 : decode cX5_nextDecimals 48 = .ok (.getfield 12, 3) := by decide +kernel
theorem dX5_nextDecimals_51 : decode cX5_nextDecimals 51 = .ok (.iconst 0, 1) := by decide +kernel
theorem dX5_nextDecimals_52 : decode cX5_nextDecimals 52 = .ok (.invokevirtual 182, 3) := by decide +kernel
theorem dX5_nextDecimals_55 : decode cX5_nextDecimals 55 = .ok (.ireturn, 1) := by decide +kernel
theorem dX5_setAboveFloor_0 : decode cX5_setAboveFloor 0 = .ok (.aload_n 0, 1) := by decide +kernel
theorem dX5_setAboveFloor_1 : decode cX5_setAboveFloor 1 = .ok (.aload_n 1, 1) := by decide +kernel
theorem dX5_setAboveFloor_2 : decode cX5_setAboveFloor 2 = .ok (.getfield 141, 3) := by decide +kernel
theorem dX5_setAboveFloor_5 : decode cX5_setAboveFloor 5 = .ok (.aload_n 1, 1) := by decide +kernel
theorem dX5_setAboveFloor_6 : decode cX5_setAboveFloor 6 = .ok (.getfield 144, 3) := by decide +kernel
theorem dX5_setAboveFloor_9 : decode cX5_setAboveFloor 9 = .ok (.aload_n 0, 1) := by decide +kernel
theorem dX5_setAboveFloor_10 : decode cX5_setAboveFloor 10 = .ok (.getfield 36, 3) := by decide +kernel
theorem dX5_setAboveFloor_13 : decode cX5_setAboveFloor 13 = .ok (.aload_n 0, 1) := by decide +kernel
theorem dX5_setAboveFloor_14 : decode cX5_setAboveFloor 14 = .ok (.getfield 42, 3) := by decide +kernel
theorem dX5_setAboveFloor_17 : decode cX5_setAboveFloor 17 = .ok (.invokevirtual 133, 3) := by decide +kernel
theorem dX5_setAboveFloor_20 : decode cX5_setAboveFloor 20 = .ok (.aload_n 1, 1) := by decide +kernel
theorem dX5_setAboveFloor_21 : decode cX5_setAboveFloor 21 = .ok (.getfield 165, 3) := by decide +kernel
theorem dX5_setAboveFloor_24 : decode cX5_setAboveFloor 24 = .ok (.ifCond .ge 46, 3) := by decide +kernel
theorem dX5_setAboveFloor_27 : decode cX5_setAboveFloor 27 = .ok (.aload_n 0, 1) := by decide +kernel
theorem dX5_setAboveFloor_28 : decode cX5_setAboveFloor 28 = .ok (.getfield 42, 3) := by decide +kernel
theorem dX5_setAboveFloor_31 : decode cX5_setAboveFloor 31 = .ok (.invokevirtual 130, 3) := by decide +kernel
theorem dX5_setAboveFloor_34 : decode cX5_setAboveFloor 34 = .ok (.ifCond .ne 36, 3) := by decide +kernel
theorem dX5_setAboveFloor_37 : decode cX5_setAboveFloor 37 = .ok (.aload_n 0, 1) := by decide +kernel
theorem dX5_setAboveFloor_38 : decode cX5_setAboveFloor 38 = .ok (.getfield 45, 3) := by decide +kernel
theorem dX5_setAboveFloor_41 : decode cX5_setAboveFloor 41 = .ok (.aload_n 1, 1) := by decide +kernel
theorem dX5_setAboveFloor_42 : decode cX5_setAboveFloor 42 = .ok (.getfield 144, 3) := by decide +kernel
theorem dX5_setAboveFloor_45 : decode cX5_setAboveFloor 45 = .ok (.invokevirtual 70, 3) := by decide +kernel
theorem dX5_setAboveFloor_48 : decode cX5_setAboveFloor 48 = .ok (.aload_n 0, 1) := by decide +kernel
theorem dX5_setAboveFloor_49 : decode cX5_setAboveFloor 49 = .ok (.getfield 45, 3) := by decide +kernel
theorem dX5_setAboveFloor_52 : decode cX5_setAboveFloor 52 = .ok (.aload_n 0, 1) := by decide +kernel
theorem dX5_setAboveFloor_53 : decode cX5_setAboveFloor 53 = .ok (.getfield 42, 3) := by decide +kernel
theorem dX5_setAboveFloor_56 : decode cX5_setAboveFloor 56 = .ok (.invokevirtual 158, 3) := by decide +kernel
theorem dX5_setAboveFloor_59 : decode cX5_setAboveFloor 59 = .ok (.aload_n 0, 1) := by decide +kernel
theorem dX5_setAboveFloor_60 : decode cX5_setAboveFloor 60 = .ok (.getfield 42, 3) := by decide +kernel
theorem dX5_setAboveFloor_63 : decode cX5_setAboveFloor 63 = .ok (.aload_n 0, 1) := by decide +kernel
theorem dX5_setAboveFloor_64 : decode cX5_setAboveFloor 64 = .ok (.getfield 45, 3) := by decide +kernel
theorem dX5_setAboveFloor_67 : decode cX5_setAboveFloor 67 = .ok (.invokevirtual 70, 3) := by decide +kernel
theorem dX5_setAboveFloor_70 : decode cX5_setAboveFloor 70 = .ok (.return_, 1) := by decide +kernel
theorem dX5_continuedForm_0 : decode cX5_continuedForm 0 = .ok (.aload_n 0, 1) := by decide +kernel
theorem dX5_continuedForm_1 : decode cX5_continuedForm 1 = .ok (.aload_n 1, 1) := by decide +kernel
theorem dX5_continuedForm_2 : decode cX5_continuedForm 2 = .ok (.bipush 12, 2) := by decide +kernel
theorem dX5_continuedForm_4 : decode cX5_continuedForm 4 = .ok (.aload_n 0, 1) := by decide +kernel
theorem dX5_continuedForm_5 : decode cX5_continuedForm 5 = .ok (.getfield 67, 3) := by decide +kernel
theorem dX5_continuedForm_8 : decode cX5_continuedForm 8 = .ok (.invokevirtual 242, 3) := by decide +kernel
theorem dX5_continuedForm_11 : decode cX5_continuedForm 11 = .ok (.aload_n 0, 1) := by decide +kernel
theorem dX5_continuedForm_12 : decode cX5_continuedForm 12 = .ok (.aload_n 1, 1) := by decide +kernel
theorem dX5_continuedForm_13 : decode cX5_continuedForm 13 = .ok (.invokevirtual 246, 3) := by decide +kernel
theorem dX5_continuedForm_16 : decode cX5_continuedForm 16 = .ok (.aload_n 0, 1) := by decide +kernel
theorem dX5_continuedForm_17 : decode cX5_continuedForm 17 = .ok (.getfield 45, 3) := by decide +kernel
theorem dX5_continuedForm_20 : decode cX5_continuedForm 20 = .ok (.aload_n 1, 1) := by decide +kernel
theorem dX5_continuedForm_21 : decode cX5_continuedForm 21 = .ok (.getfield 144, 3) := by decide +kernel
theorem dX5_continuedForm_24 : decode cX5_continuedForm 24 = .ok (.invokevirtual 70, 3) := by decide +kernel
theorem dX5_continuedForm_27 : decode cX5_continuedForm 27 = .ok (.aload_n 0, 1) := by decide +kernel
theorem dX5_continuedForm_28 : decode cX5_continuedForm 28 = .ok (.getfield 45, 3) := by decide +kernel
theorem dX5_continuedForm_31 : decode cX5_continuedForm 31 = .ok (.astore_n 3, 1) := by decide +kernel
theorem dX5_continuedForm_32 : decode cX5_continuedForm 32 = .ok (.aload_n 0, 1) := by decide +kernel
theorem dX5_continuedForm_33 : decode cX5_continuedForm 33 = .ok (.getfield 42, 3) := by decide +kernel
theorem dX5_continuedForm_36 : decode cX5_continuedForm 36 = .ok (.astore 4, 2) := by decide +kernel
theorem dX5_continuedForm_38 : decode cX5_continuedForm 38 = .ok (.iconst 1, 1) := by decide +kernel
theorem dX5_continuedForm_39 : decode cX5_continuedForm 39 = .ok (.istore 5, 2) := by decide +kernel
theorem dX5_continuedForm_41 : decode cX5_continuedForm 41 = .ok (.iload 5, 2) := by decide +kernel
theorem dX5_continuedForm_43 : decode cX5_continuedForm 43 = .ok (.ldc 125, 2) := by decide +kernel
theorem dX5_continuedForm_45 : decode cX5_continuedForm 45 = .ok (.if_icmp .ge 67, 3) := by decide +kernel
theorem dX5_continuedForm_48 : decode cX5_continuedForm 48 = .ok (.aload 4, 2) := by decide +kernel
theorem dX5_continuedForm_50 : decode cX5_continuedForm 50 = .ok (.invokevirtual 130, 3) := by decide +kernel
theorem dX5_continuedForm_53 : decode cX5_continuedForm 53 = .ok (.ifCond .ne 59, 3) := by decide +kernel
theorem dX5_continuedForm_56 : decode cX5_continuedForm 56 = .ok (.aload_n 0, 1) := by decide +kernel
theorem dX5_continuedForm_57 : decode cX5_continuedForm 57 = .ok (.aload_n 3, 1) := by decide +kernel
theorem dX5_continuedForm_58 : decode cX5_continuedForm 58 = .ok (.aload 4, 2) := by decide +kernel
theorem dX5_continuedForm_60 : decode cX5_continuedForm 60 = .ok (.aload_n 0, 1) := by decide +kernel
theorem dX5_continuedForm_61 : decode cX5_continuedForm 61 = .ok (.getfield 36, 3) := by decide +kernel
theorem dX5_continuedForm_64 : decode cX5_continuedForm 64 = .ok (.aload_n 3, 1) := by decide +kernel
theorem dX5_continuedForm_65 : decode cX5_continuedForm 65 = .ok (.invokevirtual 133, 3) := by decide +kernel
theorem dX5_continuedForm_68 : decode cX5_continuedForm 68 = .ok (.iload 5, 2) := by decide +kernel
theorem dX5_continuedForm_70 : decode cX5_continuedForm 70 = .ok (.iload_n 2, 1) := by decide +kernel
theorem dX5_continuedForm_71 : decode cX5_continuedForm 71 = .ok (.if_icmp .ne 25, 3) := by decide +kernel
theorem dX5_continuedForm_74 : decode cX5_continuedForm 74 = .ok (.aload_n 0, 1) := by decide +kernel
theorem dX5_continuedForm_75 : decode cX5_continuedForm 75 = .ok (.getfield 67, 3) := by decide +kernel
theorem dX5_continuedForm_78 : decode cX5_continuedForm 78 = .ok (.getfield 141, 3) := by decide +kernel
theorem dX5_continuedForm_81 : decode cX5_continuedForm 81 = .ok (.aload_n 0, 1) := by decide +kernel
theorem dX5_continuedForm_82 : decode cX5_continuedForm 82 = .ok (.getfield 36, 3) := by decide +kernel
theorem dX5_continuedForm_85 : decode cX5_continuedForm 85 = .ok (.invokevirtual 70, 3) := by decide +kernel
theorem dX5_continuedForm_88 : decode cX5_continuedForm 88 = .ok (.aload_n 0, 1) := by decide +kernel
theorem dX5_continuedForm_89 : decode cX5_continuedForm 89 = .ok (.getfield 67, 3) := by decide +kernel
theorem dX5_continuedForm_92 : decode cX5_continuedForm 92 = .ok (.iconst 1, 1) := by decide +kernel
theorem dX5_continuedForm_93 : decode cX5_continuedForm 93 = .ok (.putfield 165, 3) := by decide +kernel
theorem dX5_continuedForm_96 : decode cX5_continuedForm 96 = .ok (.iinc 5 1, 3) := by decide +kernel
theorem dX5_continuedForm_99 : decode cX5_continuedForm 99 = .ok (.aload_n 3, 1) := by decide +kernel
theorem dX5_continuedForm_100 : decode cX5_continuedForm 100 = .ok (.astore 6, 2) := by decide +kernel
theorem dX5_continuedForm_102 : decode cX5_continuedForm 102 = .ok (.aload 4, 2) := by decide +kernel
theorem dX5_continuedForm_104 : decode cX5_continuedForm 104 = .ok (.astore_n 3, 1) := by decide +kernel
theorem dX5_continuedForm_105 : decode cX5_continuedForm 105 = .ok (.aload 6, 2) := by decide +kernel
theorem dX5_continuedForm_107 : decode cX5_continuedForm 107 = .ok (.astore 4, 2) := by decide +kernel
theorem dX5_continuedForm_109 : decode cX5_continuedForm 109 = .ok (.goto (-68), 3) := by decide +kernel
theorem dX5_continuedForm_112 : decode cX5_continuedForm 112 = .ok (.iload 5, 2) := by decide +kernel
theorem dX5_continuedForm_114 : decode cX5_continuedForm 114 = .ok (.ireturn, 1) := by decide +kernel
theorem dX5_bestWithin_0 : decode cX5_bestWithin 0 = .ok (.aload_n 0, 1) := by decide +kernel
theorem dX5_bestWithin_1 : decode cX5_bestWithin 1 = .ok (.aload_n 1, 1) := by decide +kernel
theorem dX5_bestWithin_2 : decode cX5_bestWithin 2 = .ok (.bipush 12, 2) := by decide +kernel
theorem dX5_bestWithin_4 : decode cX5_bestWithin 4 = .ok (.aload_n 0, 1) := by decide +kernel
theorem dX5_bestWithin_5 : decode cX5_bestWithin 5 = .ok (.getfield 67, 3) := by decide +kernel
theorem dX5_bestWithin_8 : decode cX5_bestWithin 8 = .ok (.invokevirtual 242, 3) := by decide +kernel
theorem dX5_bestWithin_11 : decode cX5_bestWithin 11 = .ok (.aload_n 0, 1) := by decide +kernel
theorem dX5_bestWithin_12 : decode cX5_bestWithin 12 = .ok (.aload_n 1, 1) := by decide +kernel
theorem dX5_bestWithin_13 : decode cX5_bestWithin 13 = .ok (.invokevirtual 246, 3) := by decide +kernel
theorem dX5_bestWithin_16 : decode cX5_bestWithin 16 = .ok (.aload_n 0, 1) := by decide +kernel
theorem dX5_bestWithin_17 : decode cX5_bestWithin 17 = .ok (.getfield 45, 3) := by decide +kernel
theorem dX5_bestWithin_20 : decode cX5_bestWithin 20 = .ok (.aload_n 1, 1) := by decide +kernel
theorem dX5_bestWithin_21 : decode cX5_bestWithin 21 = .ok (.getfield 144, 3) := by decide +kernel
theorem dX5_bestWithin_24 : decode cX5_bestWithin 24 = .ok (.invokevirtual 70, 3) := by decide +kernel
theorem dX5_bestWithin_27 : decode cX5_bestWithin 27 = .ok (.aload_n 0, 1) := by decide +kernel
theorem dX5_bestWithin_28 : decode cX5_bestWithin 28 = .ok (.getfield 45, 3) := by decide +kernel
theorem dX5_bestWithin_31 : decode cX5_bestWithin 31 = .ok (.aload_n 0, 1) := by decide +kernel
theorem dX5_bestWithin_32 : decode cX5_bestWithin 32 = .ok (.getfield 42, 3) := by decide +kernel
theorem dX5_bestWithin_35 : decode cX5_bestWithin 35 = .ok (.invokevirtual 158, 3) := by decide +kernel
theorem dX5_bestWithin_38 : decode cX5_bestWithin 38 = .ok (.iconst 0, 1) := by decide +kernel
theorem dX5_bestWithin_39 : decode cX5_bestWithin 39 = .ok (.istore_n 3, 1) := by decide +kernel
theorem dX5_bestWithin_40 : decode cX5_bestWithin 40 = .ok (.iconst 1, 1) := by decide +kernel
theorem dX5_bestWithin_41 : decode cX5_bestWithin 41 = .ok (.istore 4, 2) := by decide +kernel
theorem dX5_bestWithin_43 : decode cX5_bestWithin 43 = .ok (.iconst 1, 1) := by decide +kernel
theorem dX5_bestWithin_44 : decode cX5_bestWithin 44 = .ok (.istore 5, 2) := by decide +kernel
theorem dX5_bestWithin_46 : decode cX5_bestWithin 46 = .ok (.iconst 1, 1) := by decide +kernel
theorem dX5_bestWithin_47 : decode cX5_bestWithin 47 = .ok (.istore 6, 2) := by decide +kernel
theorem dX5_bestWithin_49 : decode cX5_bestWithin 49 = .ok (.iload 4, 2) := by decide +kernel
theorem dX5_bestWithin_51 : decode cX5_bestWithin 51 = .ok (.iload 6, 2) := by decide +kernel
theorem dX5_bestWithin_53 : decode cX5_bestWithin 53 = .ok (.iadd, 1) := by decide +kernel
theorem dX5_bestWithin_54 : decode cX5_bestWithin 54 = .ok (.iload_n 2, 1) := by decide +kernel
theorem dX5_bestWithin_55 : decode cX5_bestWithin 55 = .ok (.if_icmp .gt 80, 3) := by decide +kernel
theorem dX5_bestWithin_58 : decode cX5_bestWithin 58 = .ok (.aload_n 0, 1) := by decide +kernel
theorem dX5_bestWithin_59 : decode cX5_bestWithin 59 = .ok (.getfield 42, 3) := by decide +kernel
theorem dX5_bestWithin_62 : decode cX5_bestWithin 62 = .ok (.invokevirtual 130, 3) := by decide +kernel
theorem dX5_bestWithin_65 : decode cX5_bestWithin 65 = .ok (.ifCond .ne 70, 3) := by decide +kernel
theorem dX5_bestWithin_68 : decode cX5_bestWithin 68 = .ok (.aload_n 0, 1) := by decide +kernel
theorem dX5_bestWithin_69 : decode cX5_bestWithin 69 = .ok (.getfield 42, 3) := by decide +kernel
theorem dX5_bestWithin_72 : decode cX5_bestWithin 72 = .ok (.aload_n 0, 1) := by decide +kernel
theorem dX5_bestWithin_73 : decode cX5_bestWithin 73 = .ok (.getfield 45, 3) := by decide +kernel
theorem dX5_bestWithin_76 : decode cX5_bestWithin 76 = .ok (.invokevirtual 78, 3) := by decide +kernel
theorem dX5_bestWithin_79 : decode cX5_bestWithin 79 = .ok (.ifCond .lt 29, 3) := by decide +kernel
theorem dX5_bestWithin_82 : decode cX5_bestWithin 82 = .ok (.aload_n 0, 1) := by decide +kernel
theorem dX5_bestWithin_83 : decode cX5_bestWithin 83 = .ok (.getfield 42, 3) := by decide +kernel
theorem dX5_bestWithin_86 : decode cX5_bestWithin 86 = .ok (.aload_n 0, 1) := by decide +kernel
theorem dX5_bestWithin_87 : decode cX5_bestWithin 87 = .ok (.getfield 45, 3) := by decide +kernel
theorem dX5_bestWithin_90 : decode cX5_bestWithin 90 = .ok (.invokevirtual 158, 3) := by decide +kernel
theorem dX5_bestWithin_93 : decode cX5_bestWithin 93 = .ok (.iload_n 3, 1) := by decide +kernel
theorem dX5_bestWithin_94 : decode cX5_bestWithin 94 = .ok (.iload 5, 2) := by decide +kernel
theorem dX5_bestWithin_96 : decode cX5_bestWithin 96 = .ok (.iadd, 1) := by decide +kernel
theorem dX5_bestWithin_97 : decode cX5_bestWithin 97 = .ok (.istore_n 3, 1) := by decide +kernel
theorem dX5_bestWithin_98 : decode cX5_bestWithin 98 = .ok (.iload 4, 2) := by decide +kernel
theorem dX5_bestWithin_100 : decode cX5_bestWithin 100 = .ok (.iload 6, 2) := by decide +kernel
theorem dX5_bestWithin_102 : decode cX5_bestWithin 102 = .ok (.iadd, 1) := by decide +kernel
theorem dX5_bestWithin_103 : decode cX5_bestWithin 103 = .ok (.istore 4, 2) := by decide +kernel
theorem dX5_bestWithin_105 : decode cX5_bestWithin 105 = .ok (.goto (-56), 3) := by decide +kernel
theorem dX5_bestWithin_108 : decode cX5_bestWithin 108 = .ok (.aload_n 0, 1) := by decide +kernel
theorem dX5_bestWithin_109 : decode cX5_bestWithin 109 = .ok (.getfield 45, 3) := by decide +kernel
theorem dX5_bestWithin_112 : decode cX5_bestWithin 112 = .ok (.aload_n 0, 1) := by decide +kernel
theorem dX5_bestWithin_113 : decode cX5_bestWithin 113 = .ok (.getfield 42, 3) := by decide +kernel
theorem dX5_bestWithin_116 : decode cX5_bestWithin 116 = .ok (.invokevirtual 158, 3) := by decide +kernel
theorem dX5_bestWithin_119 : decode cX5_bestWithin 119 = .ok (.iload 5, 2) := by decide +kernel
theorem dX5_bestWithin_121 : decode cX5_bestWithin 121 = .ok (.iload_n 3, 1) := by decide +kernel
theorem dX5_bestWithin_122 : decode cX5_bestWithin 122 = .ok (.iadd, 1) := by decide +kernel
theorem dX5_bestWithin_123 : decode cX5_bestWithin 123 = .ok (.istore 5, 2) := by decide +kernel
theorem dX5_bestWithin_125 : decode cX5_bestWithin 125 = .ok (.iload 6, 2) := by decide +kernel
theorem dX5_bestWithin_127 : decode cX5_bestWithin 127 = .ok (.iload 4, 2) := by decide +kernel
theorem dX5_bestWithin_129 : decode cX5_bestWithin 129 = .ok (.iadd, 1) := by decide +kernel
theorem dX5_bestWithin_130 : decode cX5_bestWithin 130 = .ok (.istore 6, 2) := by decide +kernel
theorem dX5_bestWithin_132 : decode cX5_bestWithin 132 = .ok (.goto (-83), 3) := by decide +kernel
theorem dX5_bestWithin_135 : decode cX5_bestWithin 135 = .ok (.aload_n 0, 1) := by decide +kernel
theorem dX5_bestWithin_136 : decode cX5_bestWithin 136 = .ok (.getfield 42, 3) := by decide +kernel
theorem dX5_bestWithin_139 : decode cX5_bestWithin 139 = .ok (.invokevirtual 130, 3) := by decide +kernel
theorem dX5_bestWithin_142 : decode cX5_bestWithin 142 = .ok (.istore 7, 2) := by decide +kernel
theorem dX5_bestWithin_144 : decode cX5_bestWithin 144 = .ok (.aload_n 0, 1) := by decide +kernel
theorem dX5_bestWithin_145 : decode cX5_bestWithin 145 = .ok (.getfield 42, 3) := by decide +kernel
theorem dX5_bestWithin_148 : decode cX5_bestWithin 148 = .ok (.iload 6, 2) := by decide +kernel
theorem dX5_bestWithin_150 : decode cX5_bestWithin 150 = .ok (.iconst 0, 1) := by decide +kernel
theorem dX5_bestWithin_151 : decode cX5_bestWithin 151 = .ok (.invokevirtual 95, 3) := by decide +kernel
theorem dX5_bestWithin_154 : decode cX5_bestWithin 154 = .ok (.aload_n 0, 1) := by decide +kernel
theorem dX5_bestWithin_155 : decode cX5_bestWithin 155 = .ok (.getfield 45, 3) := by decide +kernel
theorem dX5_bestWithin_158 : decode cX5_bestWithin 158 = .ok (.iload 4, 2) := by decide +kernel
theorem dX5_bestWithin_160 : decode cX5_bestWithin 160 = .ok (.iconst 0, 1) := by decide +kernel
theorem dX5_bestWithin_161 : decode cX5_bestWithin 161 = .ok (.invokevirtual 95, 3) := by decide +kernel
theorem dX5_bestWithin_164 : decode cX5_bestWithin 164 = .ok (.aload_n 0, 1) := by decide +kernel
theorem dX5_bestWithin_165 : decode cX5_bestWithin 165 = .ok (.getfield 42, 3) := by decide +kernel
theorem dX5_bestWithin_168 : decode cX5_bestWithin 168 = .ok (.aload_n 0, 1) := by decide +kernel
theorem dX5_bestWithin_169 : decode cX5_bestWithin 169 = .ok (.getfield 45, 3) := by decide +kernel
theorem dX5_bestWithin_172 : decode cX5_bestWithin 172 = .ok (.invokevirtual 78, 3) := by decide +kernel
theorem dX5_bestWithin_175 : decode cX5_bestWithin 175 = .ok (.istore 8, 2) := by decide +kernel
theorem dX5_bestWithin_177 : decode cX5_bestWithin 177 = .ok (.iload 8, 2) := by decide +kernel
theorem dX5_bestWithin_179 : decode cX5_bestWithin 179 = .ok (.ifCond .lt 15, 3) := by decide +kernel
theorem dX5_bestWithin_182 : decode cX5_bestWithin 182 = .ok (.iload 8, 2) := by decide +kernel
theorem dX5_bestWithin_184 : decode cX5_bestWithin 184 = .ok (.ifCond .ne 14, 3) := by decide +kernel
theorem dX5_bestWithin_187 : decode cX5_bestWithin 187 = .ok (.iload 4, 2) := by decide +kernel
theorem dX5_bestWithin_189 : decode cX5_bestWithin 189 = .ok (.iload 6, 2) := by decide +kernel
theorem dX5_bestWithin_191 : decode cX5_bestWithin 191 = .ok (.if_icmp .gt 7, 3) := by decide +kernel
theorem dX5_bestWithin_194 : decode cX5_bestWithin 194 = .ok (.iconst 1, 1) := by decide +kernel
theorem dX5_bestWithin_195 : decode cX5_bestWithin 195 = .ok (.goto 4, 3) := by decide +kernel
theorem dX5_bestWithin_198 : decode cX5_bestWithin 198 = .ok (.iconst 0, 1) := by decide +kernel
theorem dX5_bestWithin_199 : decode cX5_bestWithin 199 = .ok (.istore 9, 2) := by decide +kernel
theorem dX5_bestWithin_201 : decode cX5_bestWithin 201 = .ok (.aload_n 0, 1) := by decide +kernel
theorem dX5_bestWithin_202 : decode cX5_bestWithin 202 = .ok (.iload 9, 2) := by decide +kernel
theorem dX5_bestWithin_204 : decode cX5_bestWithin 204 = .ok (.ifCond .eq 7, 3) := by decide +kernel
theorem dX5_bestWithin_207 : decode cX5_bestWithin 207 = .ok (.iload_n 3, 1) := by decide +kernel
theorem dX5_bestWithin_208 : decode cX5_bestWithin 208 = .ok (.goto 5, 3) := by decide +kernel
theorem dX5_bestWithin_211 : decode cX5_bestWithin 211 = .ok (.iload 5, 2) := by decide +kernel
theorem dX5_bestWithin_213 : decode cX5_bestWithin 213 = .ok (.iload 9, 2) := by decide +kernel
theorem dX5_bestWithin_215 : decode cX5_bestWithin 215 = .ok (.ifCond .eq 8, 3) := by decide +kernel
theorem dX5_bestWithin_218 : decode cX5_bestWithin 218 = .ok (.iload 4, 2) := by decide +kernel
theorem dX5_bestWithin_220 : decode cX5_bestWithin 220 = .ok (.goto 5, 3) := by decide +kernel
theorem dX5_bestWithin_223 : decode cX5_bestWithin 223 = .ok (.iload 6, 2) := by decide +kernel
theorem dX5_bestWithin_225 : decode cX5_bestWithin 225 = .ok (.invokevirtual 249, 3) := by decide +kernel
theorem dX5_bestWithin_228 : decode cX5_bestWithin 228 = .ok (.iload 7, 2) := by decide +kernel
theorem dX5_bestWithin_230 : decode cX5_bestWithin 230 = .ok (.ifCond .eq 7, 3) := by decide +kernel
theorem dX5_bestWithin_233 : decode cX5_bestWithin 233 = .ok (.iconst 0, 1) := by decide +kernel
theorem dX5_bestWithin_234 : decode cX5_bestWithin 234 = .ok (.goto 13, 3) := by decide +kernel
theorem dX5_bestWithin_237 : decode cX5_bestWithin 237 = .ok (.iload 9, 2) := by decide +kernel
theorem dX5_bestWithin_239 : decode cX5_bestWithin 239 = .ok (.ifCond .eq 7, 3) := by decide +kernel
theorem dX5_bestWithin_242 : decode cX5_bestWithin 242 = .ok (.iconst (-1), 1) := by decide +kernel
theorem dX5_bestWithin_243 : decode cX5_bestWithin 243 = .ok (.goto 4, 3) := by decide +kernel
theorem dX5_bestWithin_246 : decode cX5_bestWithin 246 = .ok (.iconst 1, 1) := by decide +kernel
theorem dX5_bestWithin_247 : decode cX5_bestWithin 247 = .ok (.ireturn, 1) := by decide +kernel
theorem dX5_addSmall_0 : decode cX5_addSmall 0 = .ok (.aload_n 0, 1) := by decide +kernel
theorem dX5_addSmall_1 : decode cX5_addSmall 1 = .ok (.getfield 61, 3) := by decide +kernel
theorem dX5_addSmall_4 : decode cX5_addSmall 4 = .ok (.aload_n 0, 1) := by decide +kernel
theorem dX5_addSmall_5 : decode cX5_addSmall 5 = .ok (.getfield 67, 3) := by decide +kernel
theorem dX5_addSmall_8 : decode cX5_addSmall 8 = .ok (.invokevirtual 214, 3) := by decide +kernel
theorem dX5_addSmall_11 : decode cX5_addSmall 11 = .ok (.aload_n 0, 1) := by decide +kernel
theorem dX5_addSmall_12 : decode cX5_addSmall 12 = .ok (.getfield 64, 3) := by decide +kernel
theorem dX5_addSmall_15 : decode cX5_addSmall 15 = .ok (.getfield 141, 3) := by decide +kernel
theorem dX5_addSmall_18 : decode cX5_addSmall 18 = .ok (.iload_n 1, 1) := by decide +kernel
theorem dX5_addSmall_19 : decode cX5_addSmall 19 = .ok (.i2l, 1) := by decide +kernel
theorem dX5_addSmall_20 : decode cX5_addSmall 20 = .ok (.invokevirtual 90, 3) := by decide +kernel
theorem dX5_addSmall_23 : decode cX5_addSmall 23 = .ok (.aload_n 0, 1) := by decide +kernel
theorem dX5_addSmall_24 : decode cX5_addSmall 24 = .ok (.getfield 64, 3) := by decide +kernel
theorem dX5_addSmall_27 : decode cX5_addSmall 27 = .ok (.getfield 144, 3) := by decide +kernel
theorem dX5_addSmall_30 : decode cX5_addSmall 30 = .ok (.iload_n 2, 1) := by decide +kernel
theorem dX5_addSmall_31 : decode cX5_addSmall 31 = .ok (.i2l, 1) := by decide +kernel
theorem dX5_addSmall_32 : decode cX5_addSmall 32 = .ok (.invokevirtual 90, 3) := by decide +kernel
theorem dX5_addSmall_35 : decode cX5_addSmall 35 = .ok (.aload_n 0, 1) := by decide +kernel
theorem dX5_addSmall_36 : decode cX5_addSmall 36 = .ok (.getfield 64, 3) := by decide +kernel
theorem dX5_addSmall_39 : decode cX5_addSmall 39 = .ok (.iconst 1, 1) := by decide +kernel
theorem dX5_addSmall_40 : decode cX5_addSmall 40 = .ok (.invokevirtual 154, 3) := by decide +kernel
theorem dX5_addSmall_43 : decode cX5_addSmall 43 = .ok (.aload_n 0, 1) := by decide +kernel
theorem dX5_addSmall_44 : decode cX5_addSmall 44 = .ok (.aload_n 0, 1) := by decide +kernel
theorem dX5_addSmall_45 : decode cX5_addSmall 45 = .ok (.getfield 61, 3) := by decide +kernel
theorem dX5_addSmall_48 : decode cX5_addSmall 48 = .ok (.aload_n 0, 1) := by decide +kernel
theorem dX5_addSmall_49 : decode cX5_addSmall 49 = .ok (.getfield 64, 3) := by decide +kernel
theorem dX5_addSmall_52 : decode cX5_addSmall 52 = .ok (.iconst 0, 1) := by decide +kernel
theorem dX5_addSmall_53 : decode cX5_addSmall 53 = .ok (.aload_n 0, 1) := by decide +kernel
theorem dX5_addSmall_54 : decode cX5_addSmall 54 = .ok (.getfield 67, 3) := by decide +kernel
theorem dX5_addSmall_57 : decode cX5_addSmall 57 = .ok (.invokevirtual 206, 3) := by decide +kernel
theorem dX5_addSmall_60 : decode cX5_addSmall 60 = .ok (.return_, 1) := by decide +kernel
theorem dX5_unitFractions_0 : decode cX5_unitFractions 0 = .ok (.aload_n 1, 1) := by decide +kernel
theorem dX5_unitFractions_1 : decode cX5_unitFractions 1 = .ok (.getfield 165, 3) := by decide +kernel
theorem dX5_unitFractions_4 : decode cX5_unitFractions 4 = .ok (.ifCond .le 17, 3) := by decide +kernel
theorem dX5_unitFractions_7 : decode cX5_unitFractions 7 = .ok (.aload_n 1, 1) := by decide +kernel
theorem dX5_unitFractions_8 : decode cX5_unitFractions 8 = .ok (.getfield 141, 3) := by decide +kernel
theorem dX5_unitFractions_11 : decode cX5_unitFractions 11 = .ok (.aload_n 1, 1) := by decide +kernel
theorem dX5_unitFractions_12 : decode cX5_unitFractions 12 = .ok (.getfield 144, 3) := by decide +kernel
theorem dX5_unitFractions_15 : decode cX5_unitFractions 15 = .ok (.invokevirtual 78, 3) := by decide +kernel
theorem dX5_unitFractions_18 : decode cX5_unitFractions 18 = .ok (.ifCond .lt 5, 3) := by decide +kernel
theorem dX5_unitFractions_21 : decode cX5_unitFractions 21 = .ok (.iconst (-1), 1) := by decide +kernel
theorem dX5_unitFractions_22 : decode cX5_unitFractions 22 = .ok (.ireturn, 1) := by decide +kernel
theorem dX5_unitFractions_23 : decode cX5_unitFractions 23 = .ok (.aload_n 0, 1) := by decide +kernel
theorem dX5_unitFractions_24 : decode cX5_unitFractions 24 = .ok (.getfield 61, 3) := by decide +kernel
theorem dX5_unitFractions_27 : decode cX5_unitFractions 27 = .ok (.astore_n 3, 1) := by decide +kernel
theorem dX5_unitFractions_28 : decode cX5_unitFractions 28 = .ok (.aload_n 0, 1) := by decide +kernel
theorem dX5_unitFractions_29 : decode cX5_unitFractions 29 = .ok (.getfield 64, 3) := by decide +kernel
theorem dX5_unitFractions_32 : decode cX5_unitFractions 32 = .ok (.astore 4, 2) := by decide +kernel
theorem dX5_unitFractions_34 : decode cX5_unitFractions 34 = .ok (.aload_n 3, 1) := by decide +kernel
theorem dX5_unitFractions_35 : decode cX5_unitFractions 35 = .ok (.aload_n 1, 1) := by decide +kernel
theorem dX5_unitFractions_36 : decode cX5_unitFractions 36 = .ok (.invokevirtual 214, 3) := by decide +kernel
theorem dX5_unitFractions_39 : decode cX5_unitFractions 39 = .ok (.aload_n 0, 1) := by decide +kernel
theorem dX5_unitFractions_40 : decode cX5_unitFractions 40 = .ok (.getfield 57, 3) := by decide +kernel
theorem dX5_unitFractions_43 : decode cX5_unitFractions 43 = .ok (.getfield 141, 3) := by decide +kernel
theorem dX5_unitFractions_46 : decode cX5_unitFractions 46 = .ok (.lconst 1, 1) := by decide +kernel
theorem dX5_unitFractions_47 : decode cX5_unitFractions 47 = .ok (.invokevirtual 90, 3) := by decide +kernel
theorem dX5_unitFractions_50 : decode cX5_unitFractions 50 = .ok (.aload_n 0, 1) := by decide +kernel
theorem dX5_unitFractions_51 : decode cX5_unitFractions 51 = .ok (.getfield 57, 3) := by decide +kernel
theorem dX5_unitFractions_54 : decode cX5_unitFractions 54 = .ok (.iconst 1, 1) := by decide +kernel
theorem dX5_unitFractions_55 : decode cX5_unitFractions 55 = .ok (.putfield 165, 3) := by decide +kernel
theorem dX5_unitFractions_58 : decode cX5_unitFractions 58 = .ok (.iconst 0, 1) := by decide +kernel
theorem dX5_unitFractions_59 : decode cX5_unitFractions 59 = .ok (.istore 5, 2) := by decide +kernel
theorem dX5_unitFractions_61 : decode cX5_unitFractions 61 = .ok (.iload 5, 2) := by decide +kernel
theorem dX5_unitFractions_63 : decode cX5_unitFractions 63 = .ok (.bipush 8, 2) := by decide +kernel
theorem dX5_unitFractions_65 : decode cX5_unitFractions 65 = .ok (.if_icmp .ge 126, 3) := by decide +kernel
theorem dX5_unitFractions_68 : decode cX5_unitFractions 68 = .ok (.aload_n 0, 1) := by decide +kernel
theorem dX5_unitFractions_69 : decode cX5_unitFractions 69 = .ok (.aload_n 3, 1) := by decide +kernel
theorem dX5_unitFractions_70 : decode cX5_unitFractions 70 = .ok (.getfield 144, 3) := by decide +kernel
theorem dX5_unitFractions_73 : decode cX5_unitFractions 73 = .ok (.aload_n 3, 1) := by decide +kernel
theorem dX5_unitFractions_74 : decode cX5_unitFractions 74 = .ok (.getfield 141, 3) := by decide +kernel
theorem dX5_unitFractions_77 : decode cX5_unitFractions 77 = .ok (.aload_n 0, 1) := by decide +kernel
theorem dX5_unitFractions_78 : decode cX5_unitFractions 78 = .ok (.getfield 57, 3) := by decide +kernel
theorem dX5_unitFractions_81 : decode cX5_unitFractions 81 = .ok (.getfield 144, 3) := by decide +kernel
theorem dX5_unitFractions_84 : decode cX5_unitFractions 84 = .ok (.aload_n 0, 1) := by decide +kernel
theorem dX5_unitFractions_85 : decode cX5_unitFractions 85 = .ok (.getfield 21, 3) := by decide +kernel
theorem dX5_unitFractions_88 : decode cX5_unitFractions 88 = .ok (.invokevirtual 133, 3) := by decide +kernel
theorem dX5_unitFractions_91 : decode cX5_unitFractions 91 = .ok (.aload_n 0, 1) := by decide +kernel
theorem dX5_unitFractions_92 : decode cX5_unitFractions 92 = .ok (.getfield 21, 3) := by decide +kernel
theorem dX5_unitFractions_95 : decode cX5_unitFractions 95 = .ok (.invokevirtual 130, 3) := by decide +kernel
theorem dX5_unitFractions_98 : decode cX5_unitFractions 98 = .ok (.ifCond .ne 15, 3) := by decide +kernel
theorem dX5_unitFractions_101 : decode cX5_unitFractions 101 = .ok (.aload_n 0, 1) := by decide +kernel
theorem dX5_unitFractions_102 : decode cX5_unitFractions 102 = .ok (.getfield 57, 3) := by decide +kernel
theorem dX5_unitFractions_105 : decode cX5_unitFractions 105 = .ok (.getfield 144, 3) := by decide +kernel
theorem dX5_unitFractions_108 : decode cX5_unitFractions 108 = .ok (.iconst 1, 1) := by decide +kernel
theorem dX5_unitFractions_109 : decode cX5_unitFractions 109 = .ok (.iconst 1, 1) := by decide +kernel
theorem dX5_unitFractions_110 : decode cX5_unitFractions 110 = .ok (.invokevirtual 95, 3) := by decide +kernel
theorem dX5_unitFractions_113 : decode cX5_unitFractions 113 = .ok (.iload 5, 2) := by decide +kernel
theorem dX5_unitFractions_115 : decode cX5_unitFractions 115 = .ok (.iload_n 2, 1) := by decide +kernel
theorem dX5_unitFractions_116 : decode cX5_unitFractions 116 = .ok (.if_icmp .ne 14, 3) := by decide +kernel
theorem dX5_unitFractions_119 : decode cX5_unitFractions 119 = .ok (.aload_n 0, 1) := by decide +kernel
theorem dX5_unitFractions_120 : decode cX5_unitFractions 120 = .ok (.getfield 67, 3) := by decide +kernel
theorem dX5_unitFractions_123 : decode cX5_unitFractions 123 = .ok (.aload_n 0, 1) := by decide +kernel
theorem dX5_unitFractions_124 : decode cX5_unitFractions 124 = .ok (.getfield 57, 3) := by decide +kernel
theorem dX5_unitFractions_127 : decode cX5_unitFractions 127 = .ok (.invokevirtual 214, 3) := by decide +kernel
theorem dX5_unitFractions_130 : decode cX5_unitFractions 130 = .ok (.aload_n 0, 1) := by decide +kernel
theorem dX5_unitFractions_131 : decode cX5_unitFractions 131 = .ok (.aload_n 3, 1) := by decide +kernel
theorem dX5_unitFractions_132 : decode cX5_unitFractions 132 = .ok (.aload_n 0, 1) := by decide +kernel
theorem dX5_unitFractions_133 : decode cX5_unitFractions 133 = .ok (.getfield 57, 3) := by decide +kernel
theorem dX5_unitFractions_136 : decode cX5_unitFractions 136 = .ok (.iconst 1, 1) := by decide +kernel
theorem dX5_unitFractions_137 : decode cX5_unitFractions 137 = .ok (.aload 4, 2) := by decide +kernel
theorem dX5_unitFractions_139 : decode cX5_unitFractions 139 = .ok (.invokevirtual 206, 3) := by decide +kernel
theorem dX5_unitFractions_142 : decode cX5_unitFractions 142 = .ok (.aload_n 0, 1) := by decide +kernel
theorem dX5_unitFractions_143 : decode cX5_unitFractions 143 = .ok (.getfield 57, 3) := by decide +kernel
theorem dX5_unitFractions_146 : decode cX5_unitFractions 146 = .ok (.invokevirtual 252, 3) := by decide +kernel
theorem dX5_unitFractions_149 : decode cX5_unitFractions 149 = .ok (.ifCond .eq 11, 3) := by decide +kernel
theorem dX5_unitFractions_152 : decode cX5_unitFractions 152 = .ok (.aload 4, 2) := by decide +kernel
theorem dX5_unitFractions_154 : decode cX5_unitFractions 154 = .ok (.invokevirtual 252, 3) := by decide +kernel
theorem dX5_unitFractions_157 : decode cX5_unitFractions 157 = .ok (.ifCond .ne 5, 3) := by decide +kernel
theorem dX5_unitFractions_160 : decode cX5_unitFractions 160 = .ok (.iconst (-1), 1) := by decide +kernel
theorem dX5_unitFractions_161 : decode cX5_unitFractions 161 = .ok (.ireturn, 1) := by decide +kernel
theorem dX5_unitFractions_162 : decode cX5_unitFractions 162 = .ok (.aload 4, 2) := by decide +kernel
theorem dX5_unitFractions_164 : decode cX5_unitFractions 164 = .ok (.getfield 165, 3) := by decide +kernel
theorem dX5_unitFractions_167 : decode cX5_unitFractions 167 = .ok (.ifCond .ne 8, 3) := by decide +kernel
theorem dX5_unitFractions_170 : decode cX5_unitFractions 170 = .ok (.iload 5, 2) := by decide +kernel
theorem dX5_unitFractions_172 : decode cX5_unitFractions 172 = .ok (.iconst 1, 1) := by decide +kernel
theorem dX5_unitFractions_173 : decode cX5_unitFractions 173 = .ok (.iadd, 1) := by decide +kernel
theorem dX5_unitFractions_174 : decode cX5_unitFractions 174 = .ok (.ireturn, 1) := by decide +kernel
theorem dX5_unitFractions_175 : decode cX5_unitFractions 175 = .ok (.aload_n 3, 1) := by decide +kernel
theorem dX5_unitFractions_176 : decode cX5_unitFractions 176 = .ok (.astore 6, 2) := by decide +kernel
theorem dX5_unitFractions_178 : decode cX5_unitFractions 178 = .ok (.aload 4, 2) := by decide +kernel
theorem dX5_unitFractions_180 : decode cX5_unitFractions 180 = .ok (.astore_n 3, 1) := by decide +kernel
theorem dX5_unitFractions_181 : decode cX5_unitFractions 181 = .ok (.aload 6, 2) := by decide +kernel
theorem dX5_unitFractions_183 : decode cX5_unitFractions 183 = .ok (.astore 4, 2) := by decide +kernel
theorem dX5_unitFractions_185 : decode cX5_unitFractions 185 = .ok (.iinc 5 1, 3) := by decide +kernel
theorem dX5_unitFractions_188 : decode cX5_unitFractions 188 = .ok (.goto (-127), 3) := by decide +kernel
theorem dX5_unitFractions_191 : decode cX5_unitFractions 191 = .ok (.iconst (-1), 1) := by decide +kernel
theorem dX5_unitFractions_192 : decode cX5_unitFractions 192 = .ok (.ireturn, 1) := by decide +kernel
theorem dX6_init_0 : decode cX6_init 0 = .ok (.aload_n 0, 1) := by decide +kernel
theorem dX6_init_1 : decode cX6_init 1 = .ok (.invokespecial 1, 3) := by decide +kernel
theorem dX6_init_4 : decode cX6_init 4 = .ok (.aload_n 0, 1) := by decide +kernel
theorem dX6_init_5 : decode cX6_init 5 = .ok (.iload_n 1, 1) := by decide +kernel
theorem dX6_init_6 : decode cX6_init 6 = .ok (.iconst 0, 1) := by decide +kernel
theorem dX6_init_7 : decode cX6_init 7 = .ok (.invokestatic 7, 3) := by decide +kernel
theorem dX6_init_10 : decode cX6_init 10 = .ok (.anewarray 13, 3) := by decide +kernel
theorem dX6_init_13 : decode cX6_init 13 = .ok (.putfield 15, 3) := by decide +kernel
theorem dX6_init_16 : decode cX6_init 16 = .ok (.return_, 1) := by decide +kernel
theorem dX6_with_0 : decode cX6_with 0 = .ok (.new 16, 3) := by decide +kernel
theorem dX6_with_3 : decode cX6_with 3 = .ok (.dup, 1) := by decide +kernel
theorem dX6_with_4 : decode cX6_with 4 = .ok (.aload_n 0, 1) := by decide +kernel
theorem dX6_with_5 : decode cX6_with 5 = .ok (.getfield 15, 3) := by decide +kernel
theorem dX6_with_8 : decode cX6_with 8 = .ok (.arraylength, 1) := by decide +kernel
theorem dX6_with_9 : decode cX6_with 9 = .ok (.iconst 1, 1) := by decide +kernel
theorem dX6_with_10 : decode cX6_with 10 = .ok (.iadd, 1) := by decide +kernel
theorem dX6_with_11 : decode cX6_with 11 = .ok (.invokespecial 21, 3) := by decide +kernel
theorem dX6_with_14 : decode cX6_with 14 = .ok (.astore_n 3, 1) := by decide +kernel
theorem dX6_with_15 : decode cX6_with 15 = .ok (.iconst 0, 1) := by decide +kernel
theorem dX6_with_16 : decode cX6_with 16 = .ok (.istore 4, 2) := by decide +kernel
theorem dX6_with_18 : decode cX6_with 18 = .ok (.iload 4, 2) := by decide +kernel
theorem dX6_with_20 : decode cX6_with 20 = .ok (.aload_n 3, 1) := by decide +kernel
theorem dX6_with_21 : decode cX6_with 21 = .ok (.getfield 15, 3) := by decide +kernel
theorem dX6_with_24 : decode cX6_with 24 = .ok (.arraylength, 1) := by decide +kernel
theorem dX6_with_25 : decode cX6_with 25 = .ok (.if_icmp .ge 60, 3) := by decide +kernel
theorem dX6_with_28 : decode cX6_with 28 = .ok (.iload 4, 2) := by decide +kernel
theorem dX6_with_30 : decode cX6_with 30 = .ok (.iload_n 2, 1) := by decide +kernel
theorem dX6_with_31 : decode cX6_with 31 = .ok (.if_icmp .le 10, 3) := by decide +kernel
theorem dX6_with_34 : decode cX6_with 34 = .ok (.iload 4, 2) := by decide +kernel
theorem dX6_with_36 : decode cX6_with 36 = .ok (.iconst 1, 1) := by decide +kernel
theorem dX6_with_37 : decode cX6_with 37 = .ok (.isub, 1) := by decide +kernel
theorem dX6_with_38 : decode cX6_with 38 = .ok (.goto 5, 3) := by decide +kernel
theorem dX6_with_41 : decode cX6_with 41 = .ok (.iload 4, 2) := by decide +kernel
theorem dX6_with_43 : decode cX6_with 43 = .ok (.istore 5, 2) := by decide +kernel
theorem dX6_with_45 : decode cX6_with 45 = .ok (.aload_n 3, 1) := by decide +kernel
theorem dX6_with_46 : decode cX6_with 46 = .ok (.getfield 15, 3) := by decide +kernel
theorem dX6_with_49 : decode cX6_with 49 = .ok (.iload 4, 2) := by decide +kernel
theorem dX6_with_51 : decode cX6_with 51 = .ok (.iload 4, 2) := by decide +kernel
theorem dX6_with_53 : decode cX6_with 53 = .ok (.iload_n 2, 1) := by decide +kernel
theorem dX6_with_54 : decode cX6_with 54 = .ok (.if_icmp .eq 13, 3) := by decide +kernel
theorem dX6_with_57 : decode cX6_with 57 = .ok (.iload 5, 2) := by decide +kernel
theorem dX6_with_59 : decode cX6_with 59 = .ok (.aload_n 0, 1) := by decide +kernel
theorem dX6_with_60 : decode cX6_with 60 = .ok (.getfield 15, 3) := by decide +kernel
theorem dX6_with_63 : decode cX6_with 63 = .ok (.arraylength, 1) := by decide +kernel
theorem dX6_with_64 : decode cX6_with 64 = .ok (.if_icmp .lt 7, 3) := by decide +kernel
theorem dX6_with_67 : decode cX6_with 67 = .ok (.aload_n 1, 1) := by decide +kernel
theorem dX6_with_68 : decode cX6_with 68 = .ok (.goto 10, 3) := by decide +kernel
theorem dX6_with_71 : decode cX6_with 71 = .ok (.aload_n 0, 1) := by decide +kernel
theorem dX6_with_72 : decode cX6_with 72 = .ok (.getfield 15, 3) := by decide +kernel
theorem dX6_with_75 : decode cX6_with 75 = .ok (.iload 5, 2) := by decide +kernel
theorem dX6_with_77 : decode cX6_with 77 = .ok (.aaload, 1) := by decide +kernel
theorem dX6_with_78 : decode cX6_with 78 = .ok (.aastore, 1) := by decide +kernel
theorem dX6_with_79 : decode cX6_with 79 = .ok (.iinc 4 1, 3) := by decide +kernel
theorem dX6_with_82 : decode cX6_with 82 = .ok (.goto (-64), 3) := by decide +kernel
theorem dX6_with_85 : decode cX6_with 85 = .ok (.aload_n 3, 1) := by decide +kernel
theorem dX6_with_86 : decode cX6_with 86 = .ok (.areturn, 1) := by decide +kernel
theorem dX6_without_0 : decode cX6_without 0 = .ok (.new 16, 3) := by decide +kernel
theorem dX6_without_3 : decode cX6_without 3 = .ok (.dup, 1) := by decide +kernel
theorem dX6_without_4 : decode cX6_without 4 = .ok (.aload_n 0, 1) := by decide +kernel
theorem dX6_without_5 : decode cX6_without 5 = .ok (.getfield 15, 3) := by decide +kernel
theorem dX6_without_8 : decode cX6_without 8 = .ok (.arraylength, 1) := by decide +kernel
theorem dX6_without_9 : decode cX6_without 9 = .ok (.iconst 1, 1) := by decide +kernel
theorem dX6_without_10 : decode cX6_without 10 = .ok (.isub, 1) := by decide +kernel
theorem dX6_without_11 : decode cX6_without 11 = .ok (.invokespecial 21, 3) := by decide +kernel
theorem dX6_without_14 : decode cX6_without 14 = .ok (.astore_n 2, 1) := by decide +kernel
theorem dX6_without_15 : decode cX6_without 15 = .ok (.iconst 0, 1) := by decide +kernel
theorem dX6_without_16 : decode cX6_without 16 = .ok (.istore_n 3, 1) := by decide +kernel
theorem dX6_without_17 : decode cX6_without 17 = .ok (.iload_n 3, 1) := by decide +kernel
theorem dX6_without_18 : decode cX6_without 18 = .ok (.aload_n 2, 1) := by decide +kernel
theorem dX6_without_19 : decode cX6_without 19 = .ok (.getfield 15, 3) := by decide +kernel
theorem dX6_without_22 : decode cX6_without 22 = .ok (.arraylength, 1) := by decide +kernel
theorem dX6_without_23 : decode cX6_without 23 = .ok (.if_icmp .ge 32, 3) := by decide +kernel
theorem dX6_without_26 : decode cX6_without 26 = .ok (.aload_n 2, 1) := by decide +kernel
theorem dX6_without_27 : decode cX6_without 27 = .ok (.getfield 15, 3) := by decide +kernel
theorem dX6_without_30 : decode cX6_without 30 = .ok (.iload_n 3, 1) := by decide +kernel
theorem dX6_without_31 : decode cX6_without 31 = .ok (.aload_n 0, 1) := by decide +kernel
theorem dX6_without_32 : decode cX6_without 32 = .ok (.getfield 15, 3) := by decide +kernel
theorem dX6_without_35 : decode cX6_without 35 = .ok (.iload_n 3, 1) := by decide +kernel
theorem dX6_without_36 : decode cX6_without 36 = .ok (.iload_n 1, 1) := by decide +kernel
theorem dX6_without_37 : decode cX6_without 37 = .ok (.if_icmp .ge 7, 3) := by decide +kernel
theorem dX6_without_40 : decode cX6_without 40 = .ok (.iload_n 3, 1) := by decide +kernel
theorem dX6_without_41 : decode cX6_without 41 = .ok (.goto 6, 3) := by decide +kernel
theorem dX6_without_44 : decode cX6_without 44 = .ok (.iload_n 3, 1) := by decide +kernel
theorem dX6_without_45 : decode cX6_without 45 = .ok (.iconst 1, 1) := by decide +kernel
theorem dX6_without_46 : decode cX6_without 46 = .ok (.iadd, 1) := by decide +kernel
theorem dX6_without_47 : decode cX6_without 47 = .ok (.aaload, 1) := by decide +kernel
theorem dX6_without_48 : decode cX6_without 48 = .ok (.aastore, 1) := by decide +kernel
theorem dX6_without_49 : decode cX6_without 49 = .ok (.iinc 3 1, 3) := by decide +kernel
theorem dX6_without_52 : decode cX6_without 52 = .ok (.goto (-35), 3) := by decide +kernel
theorem dX6_without_55 : decode cX6_without 55 = .ok (.aload_n 2, 1) := by decide +kernel
theorem dX6_without_56 : decode cX6_without 56 = .ok (.areturn, 1) := by decide +kernel
theorem dX6_countSame_0 : decode cX6_countSame 0 = .ok (.iconst 0, 1) := by decide +kernel
theorem dX6_countSame_1 : decode cX6_countSame 1 = .ok (.istore_n 3, 1) := by decide +kernel
theorem dX6_countSame_2 : decode cX6_countSame 2 = .ok (.iload_n 1, 1) := by decide +kernel
theorem dX6_countSame_3 : decode cX6_countSame 3 = .ok (.ifCond .lt 35, 3) := by decide +kernel
theorem dX6_countSame_6 : decode cX6_countSame 6 = .ok (.iload_n 1, 1) := by decide +kernel
theorem dX6_countSame_7 : decode cX6_countSame 7 = .ok (.iload_n 3, 1) := by decide +kernel
theorem dX6_countSame_8 : decode cX6_countSame 8 = .ok (.iadd, 1) := by decide +kernel
theorem dX6_countSame_9 : decode cX6_countSame 9 = .ok (.aload_n 0, 1) := by decide +kernel
theorem dX6_countSame_10 : decode cX6_countSame 10 = .ok (.getfield 15, 3) := by decide +kernel
theorem dX6_countSame_13 : decode cX6_countSame 13 = .ok (.arraylength, 1) := by decide +kernel
theorem dX6_countSame_14 : decode cX6_countSame 14 = .ok (.if_icmp .ge 24, 3) := by decide +kernel
theorem dX6_countSame_17 : decode cX6_countSame 17 = .ok (.aload_n 0, 1) := by decide +kernel
theorem dX6_countSame_18 : decode cX6_countSame 18 = .ok (.getfield 15, 3) := by decide +kernel
theorem dX6_countSame_21 : decode cX6_countSame 21 = .ok (.iload_n 1, 1) := by decide +kernel
theorem dX6_countSame_22 : decode cX6_countSame 22 = .ok (.iload_n 3, 1) := by decide +kernel
theorem dX6_countSame_23 : decode cX6_countSame 23 = .ok (.iadd, 1) := by decide +kernel
theorem dX6_countSame_24 : decode cX6_countSame 24 = .ok (.aaload, 1) := by decide +kernel
theorem dX6_countSame_25 : decode cX6_countSame 25 = .ok (.aload_n 2, 1) := by decide +kernel
theorem dX6_countSame_26 : decode cX6_countSame 26 = .ok (.invokevirtual 24, 3) := by decide +kernel
theorem dX6_countSame_29 : decode cX6_countSame 29 = .ok (.ifCond .eq 9, 3) := by decide +kernel
theorem dX6_countSame_32 : decode cX6_countSame 32 = .ok (.iinc 3 1, 3) := by decide +kernel
theorem dX6_countSame_35 : decode cX6_countSame 35 = .ok (.goto (-33), 3) := by decide +kernel
theorem dX6_countSame_38 : decode cX6_countSame 38 = .ok (.iload_n 3, 1) := by decide +kernel
theorem dX6_countSame_39 : decode cX6_countSame 39 = .ok (.ireturn, 1) := by decide +kernel
theorem dX7_init_0 : decode cX7_init 0 = .ok (.aload_n 0, 1) := by decide +kernel
theorem dX7_init_1 : decode cX7_init 1 = .ok (.invokespecial 3, 3) := by decide +kernel
theorem dX7_init_4 : decode cX7_init 4 = .ok (.aload_n 0, 1) := by decide +kernel
theorem dX7_init_5 : decode cX7_init 5 = .ok (.new 9, 3) := by decide +kernel
theorem dX7_init_8 : decode cX7_init 8 = .ok (.dup, 1) := by decide +kernel
theorem dX7_init_9 : decode cX7_init 9 = .ok (.iconst 0, 1) := by decide +kernel
theorem dX7_init_10 : decode cX7_init 10 = .ok (.anewarray 11, 3) := by decide +kernel
theorem dX7_init_13 : decode cX7_init 13 = .ok (.iconst 0, 1) := by decide +kernel
theorem dX7_init_14 : decode cX7_init 14 = .ok (.anewarray 11, 3) := by decide +kernel
theorem dX7_init_17 : decode cX7_init 17 = .ok (.invokespecial 13, 3) := by decide +kernel
theorem dX7_init_20 : decode cX7_init 20 = .ok (.putfield 16, 3) := by decide +kernel
theorem dX7_init_23 : decode cX7_init 23 = .ok (.aload_n 0, 1) := by decide +kernel
theorem dX7_init_24 : decode cX7_init 24 = .ok (.iconst 3, 1) := by decide +kernel
theorem dX7_init_25 : decode cX7_init 25 = .ok (.anewarray 22, 3) := by decide +kernel
theorem dX7_init_28 : decode cX7_init 28 = .ok (.putfield 24, 3) := by decide +kernel
theorem dX7_init_31 : decode cX7_init 31 = .ok (.iconst 0, 1) := by decide +kernel
theorem dX7_init_32 : decode cX7_init 32 = .ok (.istore_n 1, 1) := by decide +kernel
theorem dX7_init_33 : decode cX7_init 33 = .ok (.iload_n 1, 1) := by decide +kernel
theorem dX7_init_34 : decode cX7_init 34 = .ok (.aload_n 0, 1) := by decide +kernel
theorem dX7_init_35 : decode cX7_init 35 = .ok (.getfield 24, 3) := by decide +kernel
theorem dX7_init_38 : decode cX7_init 38 = .ok (.arraylength, 1) := by decide +kernel
theorem dX7_init_39 : decode cX7_init 39 = .ok (.if_icmp .ge 23, 3) := by decide +kernel
theorem dX7_init_42 : decode cX7_init 42 = .ok (.aload_n 0, 1) := by decide +kernel
theorem dX7_init_43 : decode cX7_init 43 = .ok (.getfield 24, 3) := by decide +kernel
theorem dX7_init_46 : decode cX7_init 46 = .ok (.iload_n 1, 1) := by decide +kernel
theorem dX7_init_47 : decode cX7_init 47 = .ok (.new 22, 3) := by decide +kernel
theorem dX7_init_50 : decode cX7_init 50 = .ok (.dup, 1) := by decide +kernel
theorem dX7_init_51 : decode cX7_init 51 = .ok (.iconst 0, 1) := by decide +kernel
theorem dX7_init_52 : decode cX7_init 52 = .ok (.invokespecial 28, 3) := by decide +kernel
theorem dX7_init_55 : decode cX7_init 55 = .ok (.aastore, 1) := by decide +kernel
theorem dX7_init_56 : decode cX7_init 56 = .ok (.iinc 1 1, 3) := by decide +kernel
theorem dX7_init_59 : decode cX7_init 59 = .ok (.goto (-26), 3) := by decide +kernel
theorem dX7_init_62 : decode cX7_init 62 = .ok (.return_, 1) := by decide +kernel
theorem dX7_init__0 : decode cX7_init_ 0 = .ok (.aload_n 0, 1) := by decide +kernel
theorem dX7_init__1 : decode cX7_init_ 1 = .ok (.invokespecial 3, 3) := by decide +kernel
theorem dX7_init__4 : decode cX7_init_ 4 = .ok (.aload_n 0, 1) := by decide +kernel
theorem dX7_init__5 : decode cX7_init_ 5 = .ok (.aload_n 1, 1) := by decide +kernel
theorem dX7_init__6 : decode cX7_init_ 6 = .ok (.putfield 16, 3) := by decide +kernel
theorem dX7_init__9 : decode cX7_init_ 9 = .ok (.aload_n 0, 1) := by decide +kernel
theorem dX7_init__10 : decode cX7_init_ 10 = .ok (.aload_n 2, 1) := by decide +kernel
theorem dX7_init__11 : decode cX7_init_ 11 = .ok (.putfield 24, 3) := by decide +kernel
theorem dX7_init__14 : decode cX7_init_ 14 = .ok (.return_, 1) := by decide +kernel
theorem dX7_withRow_0 : decode cX7_withRow 0 = .ok (.aload_n 0, 1) := by decide +kernel
theorem dX7_withRow_1 : decode cX7_withRow 1 = .ok (.getfield 24, 3) := by decide +kernel
theorem dX7_withRow_4 : decode cX7_withRow 4 = .ok (.invokevirtual 31, 3) := by decide +kernel
theorem dX7_withRow_7 : decode cX7_withRow 7 = .ok (.checkcast 32, 3) := by decide +kernel
theorem dX7_withRow_10 : decode cX7_withRow 10 = .ok (.astore_n 3, 1) := by decide +kernel
theorem dX7_withRow_11 : decode cX7_withRow 11 = .ok (.iload_n 1, 1) := by decide +kernel
theorem dX7_withRow_12 : decode cX7_withRow 12 = .ok (.ifCond .lt 13, 3) := by decide +kernel
theorem dX7_withRow_15 : decode cX7_withRow 15 = .ok (.iload_n 1, 1) := by decide +kernel
theorem dX7_withRow_16 : decode cX7_withRow 16 = .ok (.aload_n 3, 1) := by decide +kernel
theorem dX7_withRow_17 : decode cX7_withRow 17 = .ok (.arraylength, 1) := by decide +kernel
theorem dX7_withRow_18 : decode cX7_withRow 18 = .ok (.if_icmp .ge 7, 3) := by decide +kernel
theorem dX7_withRow_21 : decode cX7_withRow 21 = .ok (.aload_n 3, 1) := by decide +kernel
theorem dX7_withRow_22 : decode cX7_withRow 22 = .ok (.iload_n 1, 1) := by decide +kernel
theorem dX7_withRow_23 : decode cX7_withRow 23 = .ok (.aload_n 2, 1) := by decide +kernel
theorem dX7_withRow_24 : decode cX7_withRow 24 = .ok (.aastore, 1) := by decide +kernel
theorem dX7_withRow_25 : decode cX7_withRow 25 = .ok (.new 17, 3) := by decide +kernel
theorem dX7_withRow_28 : decode cX7_withRow 28 = .ok (.dup, 1) := by decide +kernel
theorem dX7_withRow_29 : decode cX7_withRow 29 = .ok (.aload_n 0, 1) := by decide +kernel
theorem dX7_withRow_30 : decode cX7_withRow 30 = .ok (.getfield 16, 3) := by decide +kernel
theorem dX7_withRow_33 : decode cX7_withRow 33 = .ok (.aload_n 3, 1) := by decide +kernel
theorem dX7_withRow_34 : decode cX7_withRow 34 = .ok (.invokespecial 36, 3) := by decide +kernel
theorem dX7_withRow_37 : decode cX7_withRow 37 = .ok (.areturn, 1) := by decide +kernel
theorem dX8_init_0 : decode cX8_init 0 = .ok (.aload_n 0, 1) := by decide +kernel
theorem dX8_init_1 : decode cX8_init 1 = .ok (.invokespecial 3, 3) := by decide +kernel
theorem dX8_init_4 : decode cX8_init 4 = .ok (.aload_n 0, 1) := by decide +kernel
theorem dX8_init_5 : decode cX8_init 5 = .ok (.sipush 200, 3) := by decide +kernel
theorem dX8_init_8 : decode cX8_init 8 = .ok (.newarray .int, 2) := by decide +kernel
theorem dX8_init_10 : decode cX8_init 10 = .ok (.putfield 9, 3) := by decide +kernel
theorem dX8_init_13 : decode cX8_init 13 = .ok (.aload_n 0, 1) := by decide +kernel
theorem dX8_init_14 : decode cX8_init 14 = .ok (.sipush 200, 3) := by decide +kernel
theorem dX8_init_17 : decode cX8_init 17 = .ok (.anewarray 15, 3) := by decide +kernel
theorem dX8_init_20 : decode cX8_init 20 = .ok (.putfield 17, 3) := by decide +kernel
theorem dX8_init_23 : decode cX8_init 23 = .ok (.return_, 1) := by decide +kernel
theorem dX8_note_0 : decode cX8_note 0 = .ok (.aload_n 0, 1) := by decide +kernel
theorem dX8_note_1 : decode cX8_note 1 = .ok (.getfield 21, 3) := by decide +kernel
theorem dX8_note_4 : decode cX8_note 4 = .ok (.aload_n 0, 1) := by decide +kernel
theorem dX8_note_5 : decode cX8_note 5 = .ok (.getfield 9, 3) := by decide +kernel
theorem dX8_note_8 : decode cX8_note 8 = .ok (.arraylength, 1) := by decide +kernel
theorem dX8_note_9 : decode cX8_note 9 = .ok (.if_icmp .lt 4, 3) := by decide +kernel
theorem dX8_note_12 : decode cX8_note 12 = .ok (.return_, 1) := by decide +kernel
theorem dX8_note_13 : decode cX8_note 13 = .ok (.aload_n 0, 1) := by decide +kernel
theorem dX8_note_14 : decode cX8_note 14 = .ok (.getfield 17, 3) := by decide +kernel
theorem dX8_note_17 : decode cX8_note 17 = .ok (.aload_n 0, 1) := by decide +kernel
theorem dX8_note_18 : decode cX8_note 18 = .ok (.getfield 21, 3) := by decide +kernel
theorem dX8_note_21 : decode cX8_note 21 = .ok (.aaload, 1) := by decide +kernel
theorem dX8_note_22 : decode cX8_note 22 = .ok (.ifnonnull 19, 3) := by decide +kernel
theorem dX8_note_25 : decode cX8_note 25 = .ok (.aload_n 0, 1) := by decide +kernel
theorem dX8_note_26 : decode cX8_note 26 = .ok (.getfield 17, 3) := by decide +kernel
theorem dX8_note_29 : decode cX8_note 29 = .ok (.aload_n 0, 1) := by decide +kernel
theorem dX8_note_30 : decode cX8_note 30 = .ok (.getfield 21, 3) := by decide +kernel
theorem dX8_note_33 : decode cX8_note 33 = .ok (.new 15, 3) := by decide +kernel
theorem dX8_note_36 : decode cX8_note 36 = .ok (.dup, 1) := by decide +kernel
theorem dX8_note_37 : decode cX8_note 37 = .ok (.invokespecial 25, 3) := by decide +kernel
theorem dX8_note_40 : decode cX8_note 40 = .ok (.aastore, 1) := by decide +kernel
theorem dX8_note_41 : decode cX8_note 41 = .ok (.aload_n 0, 1) := by decide +kernel
theorem dX8_note_42 : decode cX8_note 42 = .ok (.getfield 17, 3) := by decide +kernel
theorem dX8_note_45 : decode cX8_note 45 = .ok (.aload_n 0, 1) := by decide +kernel
theorem dX8_note_46 : decode cX8_note 46 = .ok (.getfield 21, 3) := by decide +kernel
theorem dX8_note_49 : decode cX8_note 49 = .ok (.aaload, 1) := by decide +kernel
theorem dX8_note_50 : decode cX8_note 50 = .ok (.aload_n 2, 1) := by decide +kernel
theorem dX8_note_51 : decode cX8_note 51 = .ok (.invokevirtual 26, 3) := by decide +kernel
theorem dX8_note_54 : decode cX8_note 54 = .ok (.aload_n 0, 1) := by decide +kernel
theorem dX8_note_55 : decode cX8_note 55 = .ok (.getfield 9, 3) := by decide +kernel
theorem dX8_note_58 : decode cX8_note 58 = .ok (.aload_n 0, 1) := by decide +kernel
theorem dX8_note_59 : decode cX8_note 59 = .ok (.getfield 21, 3) := by decide +kernel
theorem dX8_note_62 : decode cX8_note 62 = .ok (.iload_n 1, 1) := by decide +kernel
theorem dX8_note_63 : decode cX8_note 63 = .ok (.iastore, 1) := by decide +kernel
theorem dX8_note_64 : decode cX8_note 64 = .ok (.aload_n 0, 1) := by decide +kernel
theorem dX8_note_65 : decode cX8_note 65 = .ok (.dup, 1) := by decide +kernel
theorem dX8_note_66 : decode cX8_note 66 = .ok (.getfield 21, 3) := by decide +kernel
theorem dX8_note_69 : decode cX8_note 69 = .ok (.iconst 1, 1) := by decide +kernel
theorem dX8_note_70 : decode cX8_note 70 = .ok (.iadd, 1) := by decide +kernel
theorem dX8_note_71 : decode cX8_note 71 = .ok (.putfield 21, 3) := by decide +kernel
theorem dX8_note_74 : decode cX8_note 74 = .ok (.return_, 1) := by decide +kernel
theorem dX9_init_0 : decode cX9_init 0 = .ok (.aload_n 0, 1) := by decide +kernel
theorem dX9_init_1 : decode cX9_init 1 = .ok (.invokespecial 1, 3) := by decide +kernel
theorem dX9_init_4 : decode cX9_init 4 = .ok (.aload_n 0, 1) := by decide +kernel
theorem dX9_init_5 : decode cX9_init 5 = .ok (.aload_n 1, 1) := by decide +kernel
theorem dX9_init_6 : decode cX9_init 6 = .ok (.putfield 7, 3) := by decide +kernel
theorem dX9_init_9 : decode cX9_init 9 = .ok (.aload_n 0, 1) := by decide +kernel
theorem dX9_init_10 : decode cX9_init 10 = .ok (.aload_n 2, 1) := by decide +kernel
theorem dX9_init_11 : decode cX9_init 11 = .ok (.putfield 13, 3) := by decide +kernel
theorem dX9_init_14 : decode cX9_init 14 = .ok (.aload_n 0, 1) := by decide +kernel
theorem dX9_init_15 : decode cX9_init 15 = .ok (.aload_n 3, 1) := by decide +kernel
theorem dX9_init_16 : decode cX9_init 16 = .ok (.putfield 16, 3) := by decide +kernel
theorem dX9_init_19 : decode cX9_init 19 = .ok (.aload_n 0, 1) := by decide +kernel
theorem dX9_init_20 : decode cX9_init 20 = .ok (.aload 4, 2) := by decide +kernel
theorem dX9_init_22 : decode cX9_init 22 = .ok (.putfield 19, 3) := by decide +kernel
theorem dX9_init_25 : decode cX9_init 25 = .ok (.aload_n 0, 1) := by decide +kernel
theorem dX9_init_26 : decode cX9_init 26 = .ok (.aload 5, 2) := by decide +kernel
theorem dX9_init_28 : decode cX9_init 28 = .ok (.putfield 22, 3) := by decide +kernel
theorem dX9_init_31 : decode cX9_init 31 = .ok (.return_, 1) := by decide +kernel
theorem dX10_init_0 : decode cX10_init 0 = .ok (.aload_n 0, 1) := by decide +kernel
theorem dX10_init_1 : decode cX10_init 1 = .ok (.invokespecial 1, 3) := by decide +kernel
theorem dX10_init_4 : decode cX10_init 4 = .ok (.aload_n 0, 1) := by decide +kernel
theorem dX10_init_5 : decode cX10_init 5 = .ok (.iload_n 1, 1) := by decide +kernel
theorem dX10_init_6 : decode cX10_init 6 = .ok (.putfield 7, 3) := by decide +kernel
theorem dX10_init_9 : decode cX10_init 9 = .ok (.aload_n 0, 1) := by decide +kernel
theorem dX10_init_10 : decode cX10_init 10 = .ok (.iload_n 2, 1) := by decide +kernel
theorem dX10_init_11 : decode cX10_init 11 = .ok (.putfield 13, 3) := by decide +kernel
theorem dX10_init_14 : decode cX10_init 14 = .ok (.aload_n 0, 1) := by decide +kernel
theorem dX10_init_15 : decode cX10_init 15 = .ok (.aload_n 3, 1) := by decide +kernel
theorem dX10_init_16 : decode cX10_init 16 = .ok (.putfield 16, 3) := by decide +kernel
theorem dX10_init_19 : decode cX10_init 19 = .ok (.aload_n 0, 1) := by decide +kernel
theorem dX10_init_20 : decode cX10_init 20 = .ok (.aload 4, 2) := by decide +kernel
theorem dX10_init_22 : decode cX10_init 22 = .ok (.putfield 20, 3) := by decide +kernel
theorem dX10_init_25 : decode cX10_init 25 = .ok (.return_, 1) := by decide +kernel
theorem dX10_key_0 : decode cX10_key 0 = .ok (.aload_n 0, 1) := by decide +kernel
theorem dX10_key_1 : decode cX10_key 1 = .ok (.getfield 7, 3) := by decide +kernel
theorem dX10_key_4 : decode cX10_key 4 = .ok (.istore_n 1, 1) := by decide +kernel
theorem dX10_key_5 : decode cX10_key 5 = .ok (.iconst 0, 1) := by decide +kernel
theorem dX10_key_6 : decode cX10_key 6 = .ok (.istore_n 2, 1) := by decide +kernel
theorem dX10_key_7 : decode cX10_key 7 = .ok (.iload_n 2, 1) := by decide +kernel
theorem dX10_key_8 : decode cX10_key 8 = .ok (.bipush 6, 2) := by decide +kernel
theorem dX10_key_10 : decode cX10_key 10 = .ok (.if_icmp .ge 24, 3) := by decide +kernel
theorem dX10_key_13 : decode cX10_key 13 = .ok (.iload_n 1, 1) := by decide +kernel
theorem dX10_key_14 : decode cX10_key 14 = .ok (.ifCond .le 20, 3) := by decide +kernel
theorem dX10_key_17 : decode cX10_key 17 = .ok (.iload_n 1, 1) := by decide +kernel
theorem dX10_key_18 : decode cX10_key 18 = .ok (.ldc 24, 2) := by decide +kernel
theorem dX10_key_20 : decode cX10_key 20 = .ok (.if_icmp .ge 14, 3) := by decide +kernel
theorem dX10_key_23 : decode cX10_key 23 = .ok (.iload_n 1, 1) := by decide +kernel
theorem dX10_key_24 : decode cX10_key 24 = .ok (.bipush 27, 2) := by decide +kernel
theorem dX10_key_26 : decode cX10_key 26 = .ok (.imul, 1) := by decide +kernel
theorem dX10_key_27 : decode cX10_key 27 = .ok (.istore_n 1, 1) := by decide +kernel
theorem dX10_key_28 : decode cX10_key 28 = .ok (.iinc 2 1, 3) := by decide +kernel
theorem dX10_key_31 : decode cX10_key 31 = .ok (.goto (-24), 3) := by decide +kernel
theorem dX10_key_34 : decode cX10_key 34 = .ok (.iload_n 1, 1) := by decide +kernel
theorem dX10_key_35 : decode cX10_key 35 = .ok (.ireturn, 1) := by decide +kernel
theorem dX11_init_0 : decode cX11_init 0 = .ok (.aload_n 0, 1) := by decide +kernel
theorem dX11_init_1 : decode cX11_init 1 = .ok (.invokespecial 1, 3) := by decide +kernel
theorem dX11_init_4 : decode cX11_init 4 = .ok (.aload_n 0, 1) := by decide +kernel
theorem dX11_init_5 : decode cX11_init 5 = .ok (.sipush 200, 3) := by decide +kernel
theorem dX11_init_8 : decode cX11_init 8 = .ok (.newarray .int, 2) := by decide +kernel
theorem dX11_init_10 : decode cX11_init 10 = .ok (.putfield 9, 3) := by decide +kernel
theorem dX11_init_13 : decode cX11_init 13 = .ok (.aload_n 0, 1) := by decide +kernel
theorem dX11_init_14 : decode cX11_init 14 = .ok (.iconst (-1), 1) := by decide +kernel
theorem dX11_init_15 : decode cX11_init 15 = .ok (.putfield 13, 3) := by decide +kernel
theorem dX11_init_18 : decode cX11_init 18 = .ok (.aload_n 0, 1) := by decide +kernel
theorem dX11_init_19 : decode cX11_init 19 = .ok (.iconst (-1), 1) := by decide +kernel
theorem dX11_init_20 : decode cX11_init 20 = .ok (.putfield 17, 3) := by decide +kernel
theorem dX11_init_23 : decode cX11_init 23 = .ok (.aload_n 0, 1) := by decide +kernel
theorem dX11_init_24 : decode cX11_init 24 = .ok (.iconst (-1), 1) := by decide +kernel
theorem dX11_init_25 : decode cX11_init 25 = .ok (.putfield 20, 3) := by decide +kernel
theorem dX11_init_28 : decode cX11_init 28 = .ok (.aload_n 0, 1) := by decide +kernel
theorem dX11_init_29 : decode cX11_init 29 = .ok (.iconst (-1), 1) := by decide +kernel
theorem dX11_init_30 : decode cX11_init 30 = .ok (.putfield 23, 3) := by decide +kernel
theorem dX11_init_33 : decode cX11_init 33 = .ok (.aload_n 0, 1) := by decide +kernel
theorem dX11_init_34 : decode cX11_init 34 = .ok (.bipush 30, 2) := by decide +kernel
theorem dX11_init_36 : decode cX11_init 36 = .ok (.newarray .int, 2) := by decide +kernel
theorem dX11_init_38 : decode cX11_init 38 = .ok (.putfield 26, 3) := by decide +kernel
theorem dX11_init_41 : decode cX11_init 41 = .ok (.aload_n 0, 1) := by decide +kernel
theorem dX11_init_42 : decode cX11_init 42 = .ok (.new 29, 3) := by decide +kernel
theorem dX11_init_45 : decode cX11_init 45 = .ok (.dup, 1) := by decide +kernel
theorem dX11_init_46 : decode cX11_init 46 = .ok (.invokespecial 31, 3) := by decide +kernel
theorem dX11_init_49 : decode cX11_init 49 = .ok (.putfield 32, 3) := by decide +kernel
theorem dX11_init_52 : decode cX11_init 52 = .ok (.aload_n 0, 1) := by decide +kernel
theorem dX11_init_53 : decode cX11_init 53 = .ok (.bipush 10, 2) := by decide +kernel
theorem dX11_init_55 : decode cX11_init 55 = .ok (.anewarray 29, 3) := by decide +kernel
theorem dX11_init_58 : decode cX11_init 58 = .ok (.putfield 36, 3) := by decide +kernel
theorem dX11_init_61 : decode cX11_init 61 = .ok (.aload_n 0, 1) := by decide +kernel
theorem dX11_init_62 : decode cX11_init 62 = .ok (.new 40, 3) := by decide +kernel
theorem dX11_init_65 : decode cX11_init 65 = .ok (.dup, 1) := by decide +kernel
theorem dX11_init_66 : decode cX11_init 66 = .ok (.invokespecial 42, 3) := by decide +kernel
theorem dX11_init_69 : decode cX11_init 69 = .ok (.putfield 43, 3) := by decide +kernel
theorem dX11_init_72 : decode cX11_init 72 = .ok (.aload_n 0, 1) := by decide +kernel
theorem dX11_init_73 : decode cX11_init 73 = .ok (.new 47, 3) := by decide +kernel
theorem dX11_init_76 : decode cX11_init 76 = .ok (.dup, 1) := by decide +kernel
theorem dX11_init_77 : decode cX11_init 77 = .ok (.invokespecial 49, 3) := by decide +kernel
theorem dX11_init_80 : decode cX11_init 80 = .ok (.putfield 50, 3) := by decide +kernel
theorem dX11_init_83 : decode cX11_init 83 = .ok (.aload_n 0, 1) := by decide +kernel
theorem dX11_init_84 : decode cX11_init 84 = .ok (.new 47, 3) := by decide +kernel
theorem dX11_init_87 : decode cX11_init 87 = .ok (.dup, 1) := by decide +kernel
theorem dX11_init_88 : decode cX11_init 88 = .ok (.invokespecial 49, 3) := by decide +kernel
theorem dX11_init_91 : decode cX11_init 91 = .ok (.putfield 54, 3) := by decide +kernel
theorem dX11_init_94 : decode cX11_init 94 = .ok (.aload_n 0, 1) := by decide +kernel
theorem dX11_init_95 : decode cX11_init 95 = .ok (.bipush 21, 2) := by decide +kernel
theorem dX11_init_97 : decode cX11_init 97 = .ok (.anewarray 57, 3) := by decide +kernel
theorem dX11_init_100 : decode cX11_init 100 = .ok (.putfield 59, 3) := by decide +kernel
theorem dX11_init_103 : decode cX11_init 103 = .ok (.aload_n 0, 1) := by decide +kernel
theorem dX11_init_104 : decode cX11_init 104 = .ok (.new 63, 3) := by decide +kernel
theorem dX11_init_107 : decode cX11_init 107 = .ok (.dup, 1) := by decide +kernel
theorem dX11_init_108 : decode cX11_init 108 = .ok (.invokespecial 65, 3) := by decide +kernel
theorem dX11_init_111 : decode cX11_init 111 = .ok (.putfield 66, 3) := by decide +kernel
theorem dX11_init_114 : decode cX11_init 114 = .ok (.aload_n 0, 1) := by decide +kernel
theorem dX11_init_115 : decode cX11_init 115 = .ok (.new 70, 3) := by decide +kernel
theorem dX11_init_118 : decode cX11_init 118 = .ok (.dup, 1) := by decide +kernel
theorem dX11_init_119 : decode cX11_init 119 = .ok (.invokespecial 72, 3) := by decide +kernel
theorem dX11_init_122 : decode cX11_init 122 = .ok (.putfield 73, 3) := by decide +kernel
theorem dX11_init_125 : decode cX11_init 125 = .ok (.aload_n 0, 1) := by decide +kernel
theorem dX11_init_126 : decode cX11_init 126 = .ok (.new 77, 3) := by decide +kernel
theorem dX11_init_129 : decode cX11_init 129 = .ok (.dup, 1) := by decide +kernel
theorem dX11_init_130 : decode cX11_init 130 = .ok (.invokespecial 79, 3) := by decide +kernel
theorem dX11_init_133 : decode cX11_init 133 = .ok (.putfield 80, 3) := by decide +kernel
theorem dX11_init_136 : decode cX11_init 136 = .ok (.iconst 0, 1) := by decide +kernel
theorem dX11_init_137 : decode cX11_init 137 = .ok (.istore_n 1, 1) := by decide +kernel
theorem dX11_init_138 : decode cX11_init 138 = .ok (.iload_n 1, 1) := by decide +kernel
theorem dX11_init_139 : decode cX11_init 139 = .ok (.aload_n 0, 1) := by decide +kernel
theorem dX11_init_140 : decode cX11_init 140 = .ok (.getfield 36, 3) := by decide +kernel
theorem dX11_init_143 : decode cX11_init 143 = .ok (.arraylength, 1) := by decide +kernel
theorem dX11_init_144 : decode cX11_init 144 = .ok (.if_icmp .ge 19, 3) := by decide +kernel
theorem dX11_init_147 : decode cX11_init 147 = .ok (.aload_n 0, 1) := by decide +kernel
theorem dX11_init_148 : decode cX11_init 148 = .ok (.getfield 36, 3) := by decide +kernel
theorem dX11_init_151 : decode cX11_init 151 = .ok (.iload_n 1, 1) := by decide +kernel
theorem dX11_init_152 : decode cX11_init 152 = .ok (.aload_n 0, 1) := by decide +kernel
theorem dX11_init_153 : decode cX11_init 153 = .ok (.getfield 32, 3) := by decide +kernel
theorem dX11_init_156 : decode cX11_init 156 = .ok (.aastore, 1) := by decide +kernel
theorem dX11_init_157 : decode cX11_init 157 = .ok (.iinc 1 1, 3) := by decide +kernel
theorem dX11_init_160 : decode cX11_init 160 = .ok (.goto (-22), 3) := by decide +kernel
theorem dX11_init_163 : decode cX11_init 163 = .ok (.aload_n 0, 1) := by decide +kernel
theorem dX11_init_164 : decode cX11_init 164 = .ok (.getfield 59, 3) := by decide +kernel
theorem dX11_init_167 : decode cX11_init 167 = .ok (.iconst 0, 1) := by decide +kernel
theorem dX11_init_168 : decode cX11_init 168 = .ok (.new 57, 3) := by decide +kernel
theorem dX11_init_171 : decode cX11_init 171 = .ok (.dup, 1) := by decide +kernel
theorem dX11_init_172 : decode cX11_init 172 = .ok (.invokespecial 84, 3) := by decide +kernel
theorem dX11_init_175 : decode cX11_init 175 = .ok (.aastore, 1) := by decide +kernel
theorem dX11_init_176 : decode cX11_init 176 = .ok (.return_, 1) := by decide +kernel
theorem dX11_append_0 : decode cX11_append 0 = .ok (.aload_n 0, 1) := by decide +kernel
theorem dX11_append_1 : decode cX11_append 1 = .ok (.getfield 85, 3) := by decide +kernel
theorem dX11_append_4 : decode cX11_append 4 = .ok (.iload_n 1, 1) := by decide +kernel
theorem dX11_append_5 : decode cX11_append 5 = .ok (.invokestatic 88, 3) := by decide +kernel
theorem dX11_append_8 : decode cX11_append 8 = .ok (.iadd, 1) := by decide +kernel
theorem dX11_append_9 : decode cX11_append 9 = .ok (.iload_n 2, 1) := by decide +kernel
theorem dX11_append_10 : decode cX11_append 10 = .ok (.invokestatic 88, 3) := by decide +kernel
theorem dX11_append_13 : decode cX11_append 13 = .ok (.iadd, 1) := by decide +kernel
theorem dX11_append_14 : decode cX11_append 14 = .ok (.iload_n 3, 1) := by decide +kernel
theorem dX11_append_15 : decode cX11_append 15 = .ok (.invokestatic 88, 3) := by decide +kernel
theorem dX11_append_18 : decode cX11_append 18 = .ok (.iadd, 1) := by decide +kernel
theorem dX11_append_19 : decode cX11_append 19 = .ok (.iload 4, 2) := by decide +kernel
theorem dX11_append_21 : decode cX11_append 21 = .ok (.invokestatic 88, 3) := by decide +kernel
theorem dX11_append_24 : decode cX11_append 24 = .ok (.iadd, 1) := by decide +kernel
theorem dX11_append_25 : decode cX11_append 25 = .ok (.iload 5, 2) := by decide +kernel
theorem dX11_append_27 : decode cX11_append 27 = .ok (.invokestatic 88, 3) := by decide +kernel
theorem dX11_append_30 : decode cX11_append 30 = .ok (.iadd, 1) := by decide +kernel
theorem dX11_append_31 : decode cX11_append 31 = .ok (.sipush 200, 3) := by decide +kernel
theorem dX11_append_34 : decode cX11_append 34 = .ok (.if_icmp .le 11, 3) := by decide +kernel
theorem dX11_append_37 : decode cX11_append 37 = .ok (.new 92, 3) := by decide +kernel
theorem dX11_append_40 : decode cX11_append 40 = .ok (.dup, 1) := by decide +kernel
theorem dX11_append_41 : decode cX11_append 41 = .ok (.invokespecial 94, 3) := by decide +kernel
theorem dX11_append_44 : decode cX11_append 44 = .ok (.athrow, 1) := by decide +kernel
theorem dX11_append_45 : decode cX11_append 45 = .ok (.aload_n 0, 1) := by decide +kernel
theorem dX11_append_46 : decode cX11_append 46 = .ok (.iload_n 1, 1) := by decide +kernel
theorem dX11_append_47 : decode cX11_append 47 = .ok (.invokevirtual 95, 3) := by decide +kernel
theorem dX11_append_50 : decode cX11_append 50 = .ok (.aload_n 0, 1) := by decide +kernel
theorem dX11_append_51 : decode cX11_append 51 = .ok (.iload_n 2, 1) := by decide +kernel
theorem dX11_append_52 : decode cX11_append 52 = .ok (.invokevirtual 95, 3) := by decide +kernel
theorem dX11_append_55 : decode cX11_append 55 = .ok (.aload_n 0, 1) := by decide +kernel
theorem dX11_append_56 : decode cX11_append 56 = .ok (.iload_n 3, 1) := by decide +kernel
theorem dX11_append_57 : decode cX11_append 57 = .ok (.invokevirtual 95, 3) := by decide +kernel
theorem dX11_append_60 : decode cX11_append 60 = .ok (.aload_n 0, 1) := by decide +kernel
theorem dX11_append_61 : decode cX11_append 61 = .ok (.iload 4, 2) := by decide +kernel
theorem dX11_append_63 : decode cX11_append 63 = .ok (.invokevirtual 95, 3) := by decide +kernel
theorem dX11_append_66 : decode cX11_append 66 = .ok (.aload_n 0, 1) := by decide +kernel
theorem dX11_append_67 : decode cX11_append 67 = .ok (.iload 5, 2) := by decide +kernel
theorem dX11_append_69 : decode cX11_append 69 = .ok (.invokevirtual 95, 3) := by decide +kernel
theorem dX11_append_72 : decode cX11_append 72 = .ok (.aload_n 0, 1) := by decide +kernel
theorem dX11_append_73 : decode cX11_append 73 = .ok (.getfield 85, 3) := by decide +kernel
theorem dX11_append_76 : decode cX11_append 76 = .ok (.ireturn, 1) := by decide +kernel
theorem dX11_clearTape_0 : decode cX11_clearTape 0 = .ok (.aload_n 0, 1) := by decide +kernel
theorem dX11_clearTape_1 : decode cX11_clearTape 1 = .ok (.getfield 85, 3) := by decide +kernel
theorem dX11_clearTape_4 : decode cX11_clearTape 4 = .ok (.istore_n 1, 1) := by decide +kernel
theorem dX11_clearTape_5 : decode cX11_clearTape 5 = .ok (.aload_n 0, 1) := by decide +kernel
theorem dX11_clearTape_6 : decode cX11_clearTape 6 = .ok (.iconst 0, 1) := by decide +kernel
theorem dX11_clearTape_7 : decode cX11_clearTape 7 = .ok (.putfield 85, 3) := by decide +kernel
theorem dX11_clearTape_10 : decode cX11_clearTape 10 = .ok (.iload_n 1, 1) := by decide +kernel
theorem dX11_clearTape_11 : decode cX11_clearTape 11 = .ok (.ireturn, 1) := by decide +kernel
theorem dX11_run_0 : decode cX11_run 0 = .ok (.aload_n 0, 1) := by decide +kernel
theorem dX11_run_1 : decode cX11_run 1 = .ok (.aload_n 0, 1) := by decide +kernel
theorem dX11_run_2 : decode cX11_run 2 = .ok (.getfield 73, 3) := by decide +kernel
theorem dX11_run_5 : decode cX11_run 5 = .ok (.aload_n 0, 1) := by decide +kernel
theorem dX11_run_6 : decode cX11_run 6 = .ok (.getfield 9, 3) := by decide +kernel
theorem dX11_run_9 : decode cX11_run 9 = .ok (.aload_n 0, 1) := by decide +kernel
theorem dX11_run_10 : decode cX11_run 10 = .ok (.getfield 85, 3) := by decide +kernel
theorem dX11_run_13 : decode cX11_run 13 = .ok (.aload_n 0, 1) := by decide +kernel
theorem dX11_run_14 : decode cX11_run 14 = .ok (.getfield 66, 3) := by decide +kernel
theorem dX11_run_17 : decode cX11_run 17 = .ok (.invokevirtual 99, 3) := by decide +kernel
theorem dX11_run_20 : decode cX11_run 20 = .ok (.putfield 13, 3) := by decide +kernel
theorem dX11_run_23 : decode cX11_run 23 = .ok (.aload_n 0, 1) := by decide +kernel
theorem dX11_run_24 : decode cX11_run 24 = .ok (.iconst 0, 1) := by decide +kernel
theorem dX11_run_25 : decode cX11_run 25 = .ok (.putfield 85, 3) := by decide +kernel
theorem dX11_run_28 : decode cX11_run 28 = .ok (.aload_n 0, 1) := by decide +kernel
theorem dX11_run_29 : decode cX11_run 29 = .ok (.getfield 13, 3) := by decide +kernel
theorem dX11_run_32 : decode cX11_run 32 = .ok (.iconst (-1), 1) := by decide +kernel
theorem dX11_run_33 : decode cX11_run 33 = .ok (.if_icmp .eq 11, 3) := by decide +kernel
theorem dX11_run_36 : decode cX11_run 36 = .ok (.new 103, 3) := by decide +kernel
theorem dX11_run_39 : decode cX11_run 39 = .ok (.dup, 1) := by decide +kernel
theorem dX11_run_40 : decode cX11_run 40 = .ok (.invokespecial 105, 3) := by decide +kernel
theorem dX11_run_43 : decode cX11_run 43 = .ok (.athrow, 1) := by decide +kernel
theorem dX11_run_44 : decode cX11_run 44 = .ok (.aload_n 0, 1) := by decide +kernel
theorem dX11_run_45 : decode cX11_run 45 = .ok (.invokevirtual 106, 3) := by decide +kernel
theorem dX11_run_48 : decode cX11_run 48 = .ok (.ifCond .ne 10, 3) := by decide +kernel
theorem dX11_run_51 : decode cX11_run 51 = .ok (.aload_n 0, 1) := by decide +kernel
theorem dX11_run_52 : decode cX11_run 52 = .ok (.invokevirtual 110, 3) := by decide +kernel
theorem dX11_run_55 : decode cX11_run 55 = .ok (.ifCond .eq 11, 3) := by decide +kernel
theorem dX11_run_58 : decode cX11_run 58 = .ok (.new 113, 3) := by decide +kernel
theorem dX11_run_61 : decode cX11_run 61 = .ok (.dup, 1) := by decide +kernel
theorem dX11_run_62 : decode cX11_run 62 = .ok (.invokespecial 115, 3) := by decide +kernel
theorem dX11_run_65 : decode cX11_run 65 = .ok (.athrow, 1) := by decide +kernel
theorem dX11_run_66 : decode cX11_run 66 = .ok (.aload_n 0, 1) := by decide +kernel
theorem dX11_run_67 : decode cX11_run 67 = .ok (.getfield 73, 3) := by decide +kernel
theorem dX11_run_70 : decode cX11_run 70 = .ok (.getfield 116, 3) := by decide +kernel
theorem dX11_run_73 : decode cX11_run 73 = .ok (.iconst 2, 1) := by decide +kernel
theorem dX11_run_74 : decode cX11_run 74 = .ok (.if_icmp .ne 7, 3) := by decide +kernel
theorem dX11_run_77 : decode cX11_run 77 = .ok (.aconst_null, 1) := by decide +kernel
theorem dX11_run_78 : decode cX11_run 78 = .ok (.goto 17, 3) := by decide +kernel
theorem dX11_run_81 : decode cX11_run 81 = .ok (.new 29, 3) := by decide +kernel
theorem dX11_run_84 : decode cX11_run 84 = .ok (.dup, 1) := by decide +kernel
theorem dX11_run_85 : decode cX11_run 85 = .ok (.aload_n 0, 1) := by decide +kernel
theorem dX11_run_86 : decode cX11_run 86 = .ok (.getfield 80, 3) := by decide +kernel
theorem dX11_run_89 : decode cX11_run 89 = .ok (.getfield 119, 3) := by decide +kernel
theorem dX11_run_92 : decode cX11_run 92 = .ok (.invokespecial 122, 3) := by decide +kernel
theorem dX11_run_95 : decode cX11_run 95 = .ok (.astore_n 1, 1) := by decide +kernel
theorem dX11_run_96 : decode cX11_run 96 = .ok (.aload_n 0, 1) := by decide +kernel
theorem dX11_run_97 : decode cX11_run 97 = .ok (.getfield 73, 3) := by decide +kernel
theorem dX11_run_100 : decode cX11_run 100 = .ok (.getfield 116, 3) := by decide +kernel
theorem dX11_run_103 : decode cX11_run 103 = .ok (.ifCond .eq 40, 3) := by decide +kernel
theorem dX11_run_106 : decode cX11_run 106 = .ok (.aload_n 0, 1) := by decide +kernel
theorem dX11_run_107 : decode cX11_run 107 = .ok (.aload_n 1, 1) := by decide +kernel
theorem dX11_run_108 : decode cX11_run 108 = .ok (.invokevirtual 125, 3) := by decide +kernel
theorem dX11_run_111 : decode cX11_run 111 = .ok (.astore_n 2, 1) := by decide +kernel
theorem dX11_run_112 : decode cX11_run 112 = .ok (.aload_n 2, 1) := by decide +kernel
theorem dX11_run_113 : decode cX11_run 113 = .ok (.ifnonnull 11, 3) := by decide +kernel
theorem dX11_run_116 : decode cX11_run 116 = .ok (.new 113, 3) := by decide +kernel
theorem dX11_run_119 : decode cX11_run 119 = .ok (.dup, 1) := by decide +kernel
theorem dX11_run_120 : decode cX11_run 120 = .ok (.invokespecial 115, 3) := by decide +kernel
theorem dX11_run_123 : decode cX11_run 123 = .ok (.athrow, 1) := by decide +kernel
theorem dX11_run_124 : decode cX11_run 124 = .ok (.aload_n 0, 1) := by decide +kernel
theorem dX11_run_125 : decode cX11_run 125 = .ok (.new 57, 3) := by decide +kernel
theorem dX11_run_128 : decode cX11_run 128 = .ok (.dup, 1) := by decide +kernel
theorem dX11_run_129 : decode cX11_run 129 = .ok (.aload_n 2, 1) := by decide +kernel
theorem dX11_run_130 : decode cX11_run 130 = .ok (.aload_n 0, 1) := by decide +kernel
theorem dX11_run_131 : decode cX11_run 131 = .ok (.invokevirtual 129, 3) := by decide +kernel
theorem dX11_run_134 : decode cX11_run 134 = .ok (.getfield 133, 3) := by decide +kernel
theorem dX11_run_137 : decode cX11_run 137 = .ok (.invokespecial 137, 3) := by decide +kernel
theorem dX11_run_140 : decode cX11_run 140 = .ok (.invokevirtual 140, 3) := by decide +kernel
theorem dX11_run_143 : decode cX11_run 143 = .ok (.aload_n 1, 1) := by decide +kernel
theorem dX11_run_144 : decode cX11_run 144 = .ok (.ifnull 26, 3) := by decide +kernel
theorem dX11_run_147 : decode cX11_run 147 = .ok (.aload_n 0, 1) := by decide +kernel
theorem dX11_run_148 : decode cX11_run 148 = .ok (.aload_n 1, 1) := by decide +kernel
theorem dX11_run_149 : decode cX11_run 149 = .ok (.putfield 32, 3) := by decide +kernel
theorem dX11_run_152 : decode cX11_run 152 = .ok (.aload_n 0, 1) := by decide +kernel
theorem dX11_run_153 : decode cX11_run 153 = .ok (.getfield 50, 3) := by decide +kernel
theorem dX11_run_156 : decode cX11_run 156 = .ok (.astore_n 2, 1) := by decide +kernel
theorem dX11_run_157 : decode cX11_run 157 = .ok (.aload_n 0, 1) := by decide +kernel
theorem dX11_run_158 : decode cX11_run 158 = .ok (.aload_n 0, 1) := by decide +kernel
theorem dX11_run_159 : decode cX11_run 159 = .ok (.getfield 54, 3) := by decide +kernel
theorem dX11_run_162 : decode cX11_run 162 = .ok (.putfield 50, 3) := by decide +kernel
theorem dX11_run_165 : decode cX11_run 165 = .ok (.aload_n 0, 1) := by decide +kernel
theorem dX11_run_166 : decode cX11_run 166 = .ok (.aload_n 2, 1) := by decide +kernel
theorem dX11_run_167 : decode cX11_run 167 = .ok (.putfield 54, 3) := by decide +kernel
theorem dX11_run_170 : decode cX11_run 170 = .ok (.aload_n 0, 1) := by decide +kernel
theorem dX11_run_171 : decode cX11_run 171 = .ok (.getfield 73, 3) := by decide +kernel
theorem dX11_run_174 : decode cX11_run 174 = .ok (.getfield 116, 3) := by decide +kernel
theorem dX11_run_177 : decode cX11_run 177 = .ok (.ireturn, 1) := by decide +kernel
theorem dX11_errorPosition_0 : decode cX11_errorPosition 0 = .ok (.aload_n 0, 1) := by decide +kernel
theorem dX11_errorPosition_1 : decode cX11_errorPosition 1 = .ok (.getfield 13, 3) := by decide +kernel
theorem dX11_errorPosition_4 : decode cX11_errorPosition 4 = .ok (.ireturn, 1) := by decide +kernel
theorem dX11_refused_0 : decode cX11_refused 0 = .ok (.iload_n 1, 1) := by decide +kernel
theorem dX11_refused_1 : decode cX11_refused 1 = .ok (.ifCond .eq 16, 3) := by decide +kernel
theorem dX11_refused_4 : decode cX11_refused 4 = .ok (.iload_n 1, 1) := by decide +kernel
theorem dX11_refused_5 : decode cX11_refused 5 = .ok (.iconst 1, 1) := by decide +kernel
theorem dX11_refused_6 : decode cX11_refused 6 = .ok (.if_icmp .eq 11, 3) := by decide +kernel
theorem dX11_refused_9 : decode cX11_refused 9 = .ok (.new 103, 3) := by decide +kernel
theorem dX11_refused_12 : decode cX11_refused 12 = .ok (.dup, 1) := by decide +kernel
theorem dX11_refused_13 : decode cX11_refused 13 = .ok (.invokespecial 105, 3) := by decide +kernel
theorem dX11_refused_16 : decode cX11_refused 16 = .ok (.athrow, 1) := by decide +kernel
theorem dX11_refused_17 : decode cX11_refused 17 = .ok (.iload_n 1, 1) := by decide +kernel
theorem dX11_refused_18 : decode cX11_refused 18 = .ok (.ifCond .ne 10, 3) := by decide +kernel
theorem dX11_refused_21 : decode cX11_refused 21 = .ok (.aload_n 0, 1) := by decide +kernel
theorem dX11_refused_22 : decode cX11_refused 22 = .ok (.getfield 17, 3) := by decide +kernel
theorem dX11_refused_25 : decode cX11_refused 25 = .ok (.goto 7, 3) := by decide +kernel
theorem dX11_refused_28 : decode cX11_refused 28 = .ok (.aload_n 0, 1) := by decide +kernel
theorem dX11_refused_29 : decode cX11_refused 29 = .ok (.getfield 20, 3) := by decide +kernel
theorem dX11_refused_32 : decode cX11_refused 32 = .ok (.ireturn, 1) := by decide +kernel
theorem dX11_failed_0 : decode cX11_failed 0 = .ok (.aload_n 0, 1) := by decide +kernel
theorem dX11_failed_1 : decode cX11_failed 1 = .ok (.getfield 23, 3) := by decide +kernel
theorem dX11_failed_4 : decode cX11_failed 4 = .ok (.ireturn, 1) := by decide +kernel
theorem dX11_ring_0 : decode cX11_ring 0 = .ok (.aload_n 0, 1) := by decide +kernel
theorem dX11_ring_1 : decode cX11_ring 1 = .ok (.getfield 144, 3) := by decide +kernel
theorem dX11_ring_4 : decode cX11_ring 4 = .ok (.ireturn, 1) := by decide +kernel
theorem dX11_ringAt_0 : decode cX11_ringAt 0 = .ok (.iload_n 1, 1) := by decide +kernel
theorem dX11_ringAt_1 : decode cX11_ringAt 1 = .ok (.ifCond .lt 20, 3) := by decide +kernel
theorem dX11_ringAt_4 : decode cX11_ringAt 4 = .ok (.iload_n 1, 1) := by decide +kernel
theorem dX11_ringAt_5 : decode cX11_ringAt 5 = .ok (.aload_n 0, 1) := by decide +kernel
theorem dX11_ringAt_6 : decode cX11_ringAt 6 = .ok (.getfield 144, 3) := by decide +kernel
theorem dX11_ringAt_9 : decode cX11_ringAt 9 = .ok (.if_icmp .ge 12, 3) := by decide +kernel
theorem dX11_ringAt_12 : decode cX11_ringAt 12 = .ok (.iload_n 1, 1) := by decide +kernel
theorem dX11_ringAt_13 : decode cX11_ringAt 13 = .ok (.aload_n 0, 1) := by decide +kernel
theorem dX11_ringAt_14 : decode cX11_ringAt 14 = .ok (.getfield 26, 3) := by decide +kernel
theorem dX11_ringAt_17 : decode cX11_ringAt 17 = .ok (.arraylength, 1) := by decide +kernel
theorem dX11_ringAt_18 : decode cX11_ringAt 18 = .ok (.if_icmp .lt 11, 3) := by decide +kernel
theorem dX11_ringAt_21 : decode cX11_ringAt 21 = .ok (.new 147, 3) := by decide +kernel
theorem dX11_ringAt_24 : decode cX11_ringAt 24 = .ok (.dup, 1) := by decide +kernel
theorem dX11_ringAt_25 : decode cX11_ringAt 25 = .ok (.invokespecial 149, 3) := by decide +kernel
theorem dX11_ringAt_28 : decode cX11_ringAt 28 = .ok (.athrow, 1) := by decide +kernel
theorem dX11_ringAt_29 : decode cX11_ringAt 29 = .ok (.aload_n 0, 1) := by decide +kernel
theorem dX11_ringAt_30 : decode cX11_ringAt 30 = .ok (.getfield 26, 3) := by decide +kernel
theorem dX11_ringAt_33 : decode cX11_ringAt 33 = .ok (.iload_n 1, 1) := by decide +kernel
theorem dX11_ringAt_34 : decode cX11_ringAt 34 = .ok (.iaload, 1) := by decide +kernel
theorem dX11_ringAt_35 : decode cX11_ringAt 35 = .ok (.ireturn, 1) := by decide +kernel
theorem dX11_bytesIn_0 : decode cX11_bytesIn 0 = .ok (.iconst 0, 1) := by decide +kernel
theorem dX11_bytesIn_1 : decode cX11_bytesIn 1 = .ok (.istore_n 1, 1) := by decide +kernel
theorem dX11_bytesIn_2 : decode cX11_bytesIn 2 = .ok (.bipush 24, 2) := by decide +kernel
theorem dX11_bytesIn_4 : decode cX11_bytesIn 4 = .ok (.istore_n 2, 1) := by decide +kernel
theorem dX11_bytesIn_5 : decode cX11_bytesIn 5 = .ok (.iload_n 2, 1) := by decide +kernel
theorem dX11_bytesIn_6 : decode cX11_bytesIn 6 = .ok (.ifCond .lt 22, 3) := by decide +kernel
theorem dX11_bytesIn_9 : decode cX11_bytesIn 9 = .ok (.iload_n 0, 1) := by decide +kernel
theorem dX11_bytesIn_10 : decode cX11_bytesIn 10 = .ok (.iload_n 2, 1) := by decide +kernel
theorem dX11_bytesIn_11 : decode cX11_bytesIn 11 = .ok (.iushr, 1) := by decide +kernel
theorem dX11_bytesIn_12 : decode cX11_bytesIn 12 = .ok (.sipush 255, 3) := by decide +kernel
theorem dX11_bytesIn_15 : decode cX11_bytesIn 15 = .ok (.iand, 1) := by decide +kernel
theorem dX11_bytesIn_16 : decode cX11_bytesIn 16 = .ok (.ifCond .eq 6, 3) := by decide +kernel
theorem dX11_bytesIn_19 : decode cX11_bytesIn 19 = .ok (.iinc 1 1, 3) := by decide +kernel
theorem dX11_bytesIn_22 : decode cX11_bytesIn 22 = .ok (.iinc 2 (-8), 3) := by decide +kernel
theorem dX11_bytesIn_25 : decode cX11_bytesIn 25 = .ok (.goto (-20), 3) := by decide +kernel
theorem dX11_bytesIn_28 : decode cX11_bytesIn 28 = .ok (.iload_n 1, 1) := by decide +kernel
theorem dX11_bytesIn_29 : decode cX11_bytesIn 29 = .ok (.ireturn, 1) := by decide +kernel
theorem dX11_lay_0 : decode cX11_lay 0 = .ok (.bipush 24, 2) := by decide +kernel
theorem dX11_lay_2 : decode cX11_lay 2 = .ok (.istore_n 2, 1) := by decide +kernel
theorem dX11_lay_3 : decode cX11_lay 3 = .ok (.iload_n 2, 1) := by decide +kernel
theorem dX11_lay_4 : decode cX11_lay 4 = .ok (.ifCond .lt 53, 3) := by decide +kernel
theorem dX11_lay_7 : decode cX11_lay 7 = .ok (.iload_n 1, 1) := by decide +kernel
theorem dX11_lay_8 : decode cX11_lay 8 = .ok (.iload_n 2, 1) := by decide +kernel
theorem dX11_lay_9 : decode cX11_lay 9 = .ok (.iushr, 1) := by decide +kernel
theorem dX11_lay_10 : decode cX11_lay 10 = .ok (.sipush 255, 3) := by decide +kernel
theorem dX11_lay_13 : decode cX11_lay 13 = .ok (.iand, 1) := by decide +kernel
theorem dX11_lay_14 : decode cX11_lay 14 = .ok (.istore_n 3, 1) := by decide +kernel
theorem dX11_lay_15 : decode cX11_lay 15 = .ok (.iload_n 3, 1) := by decide +kernel
theorem dX11_lay_16 : decode cX11_lay 16 = .ok (.ifCond .eq 35, 3) := by decide +kernel
theorem dX11_lay_19 : decode cX11_lay 19 = .ok (.aload_n 0, 1) := by decide +kernel
theorem dX11_lay_20 : decode cX11_lay 20 = .ok (.getfield 85, 3) := by decide +kernel
theorem dX11_lay_23 : decode cX11_lay 23 = .ok (.aload_n 0, 1) := by decide +kernel
theorem dX11_lay_24 : decode cX11_lay 24 = .ok (.getfield 9, 3) := by decide +kernel
theorem dX11_lay_27 : decode cX11_lay 27 = .ok (.arraylength, 1) := by decide +kernel
theorem dX11_lay_28 : decode cX11_lay 28 = .ok (.if_icmp .ge 23, 3) := by decide +kernel
theorem dX11_lay_31 : decode cX11_lay 31 = .ok (.aload_n 0, 1) := by decide +kernel
theorem dX11_lay_32 : decode cX11_lay 32 = .ok (.getfield 9, 3) := by decide +kernel
theorem dX11_lay_35 : decode cX11_lay 35 = .ok (.aload_n 0, 1) := by decide +kernel
theorem dX11_lay_36 : decode cX11_lay 36 = .ok (.getfield 85, 3) := by decide +kernel
theorem dX11_lay_39 : decode cX11_lay 39 = .ok (.iload_n 3, 1) := by decide +kernel
theorem dX11_lay_40 : decode cX11_lay 40 = .ok (.iastore, 1) := by decide +kernel
theorem dX11_lay_41 : decode cX11_lay 41 = .ok (.aload_n 0, 1) := by decide +kernel
theorem dX11_lay_42 : decode cX11_lay 42 = .ok (.dup, 1) := by decide +kernel
theorem dX11_lay_43 : decode cX11_lay 43 = .ok (.getfield 85, 3) := by decide +kernel
theorem dX11_lay_46 : decode cX11_lay 46 = .ok (.iconst 1, 1) := by decide +kernel
theorem dX11_lay_47 : decode cX11_lay 47 = .ok (.iadd, 1) := by decide +kernel
theorem dX11_lay_48 : decode cX11_lay 48 = .ok (.putfield 85, 3) := by decide +kernel
theorem dX11_lay_51 : decode cX11_lay 51 = .ok (.iinc 2 (-8), 3) := by decide +kernel
theorem dX11_lay_54 : decode cX11_lay 54 = .ok (.goto (-51), 3) := by decide +kernel
theorem dX11_lay_57 : decode cX11_lay 57 = .ok (.return_, 1) := by decide +kernel
theorem dX11_refuse_0 : decode cX11_refuse 0 = .ok (.aload_n 0, 1) := by decide +kernel
theorem dX11_refuse_1 : decode cX11_refuse 1 = .ok (.iload_n 1, 1) := by decide +kernel
theorem dX11_refuse_2 : decode cX11_refuse 2 = .ok (.putfield 17, 3) := by decide +kernel
theorem dX11_refuse_5 : decode cX11_refuse 5 = .ok (.aload_n 0, 1) := by decide +kernel
theorem dX11_refuse_6 : decode cX11_refuse 6 = .ok (.iload_n 2, 1) := by decide +kernel
theorem dX11_refuse_7 : decode cX11_refuse 7 = .ok (.putfield 20, 3) := by decide +kernel
theorem dX11_refuse_10 : decode cX11_refuse 10 = .ok (.aload_n 0, 1) := by decide +kernel
theorem dX11_refuse_11 : decode cX11_refuse 11 = .ok (.iconst (-1), 1) := by decide +kernel
theorem dX11_refuse_12 : decode cX11_refuse 12 = .ok (.putfield 23, 3) := by decide +kernel
theorem dX11_refuse_15 : decode cX11_refuse 15 = .ok (.aload_n 0, 1) := by decide +kernel
theorem dX11_refuse_16 : decode cX11_refuse 16 = .ok (.iconst 0, 1) := by decide +kernel
theorem dX11_refuse_17 : decode cX11_refuse 17 = .ok (.putfield 144, 3) := by decide +kernel
theorem dX11_refuse_20 : decode cX11_refuse 20 = .ok (.return_, 1) := by decide +kernel
theorem dX11_isRefusedAhead_0 : decode cX11_isRefusedAhead 0 = .ok (.aload_n 0, 1) := by decide +kernel
theorem dX11_isRefusedAhead_1 : decode cX11_isRefusedAhead 1 = .ok (.invokevirtual 129, 3) := by decide +kernel
theorem dX11_isRefusedAhead_4 : decode cX11_isRefusedAhead 4 = .ok (.getfield 150, 3) := by decide +kernel
theorem dX11_isRefusedAhead_7 : decode cX11_isRefusedAhead 7 = .ok (.astore_n 1, 1) := by decide +kernel
theorem dX11_isRefusedAhead_8 : decode cX11_isRefusedAhead 8 = .ok (.aload_n 1, 1) := by decide +kernel
theorem dX11_isRefusedAhead_9 : decode cX11_isRefusedAhead 9 = .ok (.aload_n 0, 1) := by decide +kernel
theorem dX11_isRefusedAhead_10 : decode cX11_isRefusedAhead 10 = .ok (.getfield 73, 3) := by decide +kernel
theorem dX11_isRefusedAhead_13 : decode cX11_isRefusedAhead 13 = .ok (.getfield 154, 3) := by decide +kernel
theorem dX11_isRefusedAhead_16 : decode cX11_isRefusedAhead 16 = .ok (.invokevirtual 158, 3) := by decide +kernel
theorem dX11_isRefusedAhead_19 : decode cX11_isRefusedAhead 19 = .ok (.istore_n 2, 1) := by decide +kernel
theorem dX11_isRefusedAhead_20 : decode cX11_isRefusedAhead 20 = .ok (.iload_n 2, 1) := by decide +kernel
theorem dX11_isRefusedAhead_21 : decode cX11_isRefusedAhead 21 = .ok (.iconst (-1), 1) := by decide +kernel
theorem dX11_isRefusedAhead_22 : decode cX11_isRefusedAhead 22 = .ok (.if_icmp .eq 11, 3) := by decide +kernel
theorem dX11_isRefusedAhead_25 : decode cX11_isRefusedAhead 25 = .ok (.aload_n 0, 1) := by decide +kernel
theorem dX11_isRefusedAhead_26 : decode cX11_isRefusedAhead 26 = .ok (.iconst 1, 1) := by decide +kernel
theorem dX11_isRefusedAhead_27 : decode cX11_isRefusedAhead 27 = .ok (.iload_n 2, 1) := by decide +kernel
theorem dX11_isRefusedAhead_28 : decode cX11_isRefusedAhead 28 = .ok (.invokevirtual 164, 3) := by decide +kernel
theorem dX11_isRefusedAhead_31 : decode cX11_isRefusedAhead 31 = .ok (.iconst 1, 1) := by decide +kernel
theorem dX11_isRefusedAhead_32 : decode cX11_isRefusedAhead 32 = .ok (.ireturn, 1) := by decide +kernel
theorem dX11_isRefusedAhead_33 : decode cX11_isRefusedAhead 33 = .ok (.aload_n 0, 1) := by decide +kernel
theorem dX11_isRefusedAhead_34 : decode cX11_isRefusedAhead 34 = .ok (.getfield 73, 3) := by decide +kernel
theorem dX11_isRefusedAhead_37 : decode cX11_isRefusedAhead 37 = .ok (.getfield 116, 3) := by decide +kernel
theorem dX11_isRefusedAhead_40 : decode cX11_isRefusedAhead 40 = .ok (.ifCond .ne 5, 3) := by decide +kernel
theorem dX11_isRefusedAhead_43 : decode cX11_isRefusedAhead 43 = .ok (.iconst 0, 1) := by decide +kernel
theorem dX11_isRefusedAhead_44 : decode cX11_isRefusedAhead 44 = .ok (.ireturn, 1) := by decide +kernel
theorem dX11_isRefusedAhead_45 : decode cX11_isRefusedAhead 45 = .ok (.aload_n 1, 1) := by decide +kernel
theorem dX11_isRefusedAhead_46 : decode cX11_isRefusedAhead 46 = .ok (.aload_n 0, 1) := by decide +kernel
theorem dX11_isRefusedAhead_47 : decode cX11_isRefusedAhead 47 = .ok (.getfield 73, 3) := by decide +kernel
theorem dX11_isRefusedAhead_50 : decode cX11_isRefusedAhead 50 = .ok (.getfield 168, 3) := by decide +kernel
theorem dX11_isRefusedAhead_53 : decode cX11_isRefusedAhead 53 = .ok (.aload_n 0, 1) := by decide +kernel
theorem dX11_isRefusedAhead_54 : decode cX11_isRefusedAhead 54 = .ok (.getfield 73, 3) := by decide +kernel
theorem dX11_isRefusedAhead_57 : decode cX11_isRefusedAhead 57 = .ok (.getfield 116, 3) := by decide +kernel
theorem dX11_isRefusedAhead_60 : decode cX11_isRefusedAhead 60 = .ok (.iconst 2, 1) := by decide +kernel
theorem dX11_isRefusedAhead_61 : decode cX11_isRefusedAhead 61 = .ok (.if_icmp .ne 7, 3) := by decide +kernel
theorem dX11_isRefusedAhead_64 : decode cX11_isRefusedAhead 64 = .ok (.iconst 1, 1) := by decide +kernel
theorem dX11_isRefusedAhead_65 : decode cX11_isRefusedAhead 65 = .ok (.goto 4, 3) := by decide +kernel
theorem dX11_isRefusedAhead_68 : decode cX11_isRefusedAhead 68 = .ok (.iconst 0, 1) := by decide +kernel
theorem dX11_isRefusedAhead_69 : decode cX11_isRefusedAhead 69 = .ok (.invokevirtual 171, 3) := by decide +kernel
theorem dX11_isRefusedAhead_72 : decode cX11_isRefusedAhead 72 = .ok (.istore_n 3, 1) := by decide +kernel
theorem dX11_isRefusedAhead_73 : decode cX11_isRefusedAhead 73 = .ok (.aload_n 0, 1) := by decide +kernel
theorem dX11_isRefusedAhead_74 : decode cX11_isRefusedAhead 74 = .ok (.aload_n 1, 1) := by decide +kernel
theorem dX11_isRefusedAhead_75 : decode cX11_isRefusedAhead 75 = .ok (.iload_n 3, 1) := by decide +kernel
theorem dX11_isRefusedAhead_76 : decode cX11_isRefusedAhead 76 = .ok (.invokevirtual 175, 3) := by decide +kernel
theorem dX11_isRefusedAhead_79 : decode cX11_isRefusedAhead 79 = .ok (.ifCond .eq 18, 3) := by decide +kernel
theorem dX11_isRefusedAhead_82 : decode cX11_isRefusedAhead 82 = .ok (.aload_n 0, 1) := by decide +kernel
theorem dX11_isRefusedAhead_83 : decode cX11_isRefusedAhead 83 = .ok (.iconst 2, 1) := by decide +kernel
theorem dX11_isRefusedAhead_84 : decode cX11_isRefusedAhead 84 = .ok (.aload_n 0, 1) := by decide +kernel
theorem dX11_isRefusedAhead_85 : decode cX11_isRefusedAhead 85 = .ok (.getfield 73, 3) := by decide +kernel
theorem dX11_isRefusedAhead_88 : decode cX11_isRefusedAhead 88 = .ok (.getfield 179, 3) := by decide +kernel
theorem dX11_isRefusedAhead_91 : decode cX11_isRefusedAhead 91 = .ok (.invokevirtual 164, 3) := by decide +kernel
theorem dX11_isRefusedAhead_94 : decode cX11_isRefusedAhead 94 = .ok (.goto 78, 3) := by decide +kernel
theorem dX11_isRefusedAhead_97 : decode cX11_isRefusedAhead 97 = .ok (.iload_n 3, 1) := by decide +kernel
theorem dX11_isRefusedAhead_98 : decode cX11_isRefusedAhead 98 = .ok (.iconst (-1), 1) := by decide +kernel
theorem dX11_isRefusedAhead_99 : decode cX11_isRefusedAhead 99 = .ok (.if_icmp .ne 26, 3) := by decide +kernel
theorem dX11_isRefusedAhead_102 : decode cX11_isRefusedAhead 102 = .ok (.aload_n 0, 1) := by decide +kernel
theorem dX11_isRefusedAhead_103 : decode cX11_isRefusedAhead 103 = .ok (.aload_n 1, 1) := by decide +kernel
theorem dX11_isRefusedAhead_104 : decode cX11_isRefusedAhead 104 = .ok (.invokevirtual 182, 3) := by decide +kernel
theorem dX11_isRefusedAhead_107 : decode cX11_isRefusedAhead 107 = .ok (.ifCond .eq 18, 3) := by decide +kernel
theorem dX11_isRefusedAhead_110 : decode cX11_isRefusedAhead 110 = .ok (.aload_n 0, 1) := by decide +kernel
theorem dX11_isRefusedAhead_111 : decode cX11_isRefusedAhead 111 = .ok (.iconst 3, 1) := by decide +kernel
theorem dX11_isRefusedAhead_112 : decode cX11_isRefusedAhead 112 = .ok (.aload_n 0, 1) := by decide +kernel
theorem dX11_isRefusedAhead_113 : decode cX11_isRefusedAhead 113 = .ok (.getfield 73, 3) := by decide +kernel
theorem dX11_isRefusedAhead_116 : decode cX11_isRefusedAhead 116 = .ok (.getfield 179, 3) := by decide +kernel
theorem dX11_isRefusedAhead_119 : decode cX11_isRefusedAhead 119 = .ok (.invokevirtual 164, 3) := by decide +kernel
theorem dX11_isRefusedAhead_122 : decode cX11_isRefusedAhead 122 = .ok (.goto 50, 3) := by decide +kernel
theorem dX11_isRefusedAhead_125 : decode cX11_isRefusedAhead 125 = .ok (.iload_n 3, 1) := by decide +kernel
theorem dX11_isRefusedAhead_126 : decode cX11_isRefusedAhead 126 = .ok (.iconst (-1), 1) := by decide +kernel
theorem dX11_isRefusedAhead_127 : decode cX11_isRefusedAhead 127 = .ok (.if_icmp .eq 43, 3) := by decide +kernel
theorem dX11_isRefusedAhead_130 : decode cX11_isRefusedAhead 130 = .ok (.aload_n 1, 1) := by decide +kernel
theorem dX11_isRefusedAhead_131 : decode cX11_isRefusedAhead 131 = .ok (.aload_n 1, 1) := by decide +kernel
theorem dX11_isRefusedAhead_132 : decode cX11_isRefusedAhead 132 = .ok (.aload_n 0, 1) := by decide +kernel
theorem dX11_isRefusedAhead_133 : decode cX11_isRefusedAhead 133 = .ok (.getfield 73, 3) := by decide +kernel
theorem dX11_isRefusedAhead_136 : decode cX11_isRefusedAhead 136 = .ok (.getfield 154, 3) := by decide +kernel
theorem dX11_isRefusedAhead_139 : decode cX11_isRefusedAhead 139 = .ok (.invokevirtual 186, 3) := by decide +kernel
theorem dX11_isRefusedAhead_142 : decode cX11_isRefusedAhead 142 = .ok (.iload_n 3, 1) := by decide +kernel
theorem dX11_isRefusedAhead_143 : decode cX11_isRefusedAhead 143 = .ok (.invokevirtual 189, 3) := by decide +kernel
theorem dX11_isRefusedAhead_146 : decode cX11_isRefusedAhead 146 = .ok (.ifCond .eq 24, 3) := by decide +kernel
theorem dX11_isRefusedAhead_149 : decode cX11_isRefusedAhead 149 = .ok (.aload_n 0, 1) := by decide +kernel
theorem dX11_isRefusedAhead_150 : decode cX11_isRefusedAhead 150 = .ok (.iconst 4, 1) := by decide +kernel
theorem dX11_isRefusedAhead_151 : decode cX11_isRefusedAhead 151 = .ok (.aload_n 0, 1) := by decide +kernel
theorem dX11_isRefusedAhead_152 : decode cX11_isRefusedAhead 152 = .ok (.getfield 73, 3) := by decide +kernel
theorem dX11_isRefusedAhead_155 : decode cX11_isRefusedAhead 155 = .ok (.getfield 179, 3) := by decide +kernel
theorem dX11_isRefusedAhead_158 : decode cX11_isRefusedAhead 158 = .ok (.invokevirtual 164, 3) := by decide +kernel
theorem dX11_isRefusedAhead_161 : decode cX11_isRefusedAhead 161 = .ok (.aload_n 0, 1) := by decide +kernel
theorem dX11_isRefusedAhead_162 : decode cX11_isRefusedAhead 162 = .ok (.aload_n 1, 1) := by decide +kernel
theorem dX11_isRefusedAhead_163 : decode cX11_isRefusedAhead 163 = .ok (.iload_n 3, 1) := by decide +kernel
theorem dX11_isRefusedAhead_164 : decode cX11_isRefusedAhead 164 = .ok (.invokevirtual 193, 3) := by decide +kernel
theorem dX11_isRefusedAhead_167 : decode cX11_isRefusedAhead 167 = .ok (.goto 5, 3) := by decide +kernel
theorem dX11_isRefusedAhead_170 : decode cX11_isRefusedAhead 170 = .ok (.iconst 0, 1) := by decide +kernel
theorem dX11_isRefusedAhead_171 : decode cX11_isRefusedAhead 171 = .ok (.ireturn, 1) := by decide +kernel
theorem dX11_isRefusedAhead_172 : decode cX11_isRefusedAhead 172 = .ok (.iconst 1, 1) := by decide +kernel
theorem dX11_isRefusedAhead_173 : decode cX11_isRefusedAhead 173 = .ok (.ireturn, 1) := by decide +kernel
theorem dX11_isTaken_0 : decode cX11_isTaken 0 = .ok (.aload_n 0, 1) := by decide +kernel
theorem dX11_isTaken_1 : decode cX11_isTaken 1 = .ok (.getfield 73, 3) := by decide +kernel
theorem dX11_isTaken_4 : decode cX11_isTaken 4 = .ok (.getfield 168, 3) := by decide +kernel
theorem dX11_isTaken_7 : decode cX11_isTaken 7 = .ok (.invokestatic 197, 3) := by decide +kernel
theorem dX11_isTaken_10 : decode cX11_isTaken 10 = .ok (.ifCond .eq 5, 3) := by decide +kernel
theorem dX11_isTaken_13 : decode cX11_isTaken 13 = .ok (.iconst 1, 1) := by decide +kernel
theorem dX11_isTaken_14 : decode cX11_isTaken 14 = .ok (.ireturn, 1) := by decide +kernel
theorem dX11_isTaken_15 : decode cX11_isTaken 15 = .ok (.iload_n 2, 1) := by decide +kernel
theorem dX11_isTaken_16 : decode cX11_isTaken 16 = .ok (.iconst (-1), 1) := by decide +kernel
theorem dX11_isTaken_17 : decode cX11_isTaken 17 = .ok (.if_icmp .eq 41, 3) := by decide +kernel
theorem dX11_isTaken_20 : decode cX11_isTaken 20 = .ok (.aload_n 0, 1) := by decide +kernel
theorem dX11_isTaken_21 : decode cX11_isTaken 21 = .ok (.getfield 73, 3) := by decide +kernel
theorem dX11_isTaken_24 : decode cX11_isTaken 24 = .ok (.getfield 116, 3) := by decide +kernel
theorem dX11_isTaken_27 : decode cX11_isTaken 27 = .ok (.iconst 2, 1) := by decide +kernel
theorem dX11_isTaken_28 : decode cX11_isTaken 28 = .ok (.if_icmp .ne 30, 3) := by decide +kernel
theorem dX11_isTaken_31 : decode cX11_isTaken 31 = .ok (.aload_n 1, 1) := by decide +kernel
theorem dX11_isTaken_32 : decode cX11_isTaken 32 = .ok (.iload_n 2, 1) := by decide +kernel
theorem dX11_isTaken_33 : decode cX11_isTaken 33 = .ok (.invokevirtual 200, 3) := by decide +kernel
theorem dX11_isTaken_36 : decode cX11_isTaken 36 = .ok (.ifCond .eq 22, 3) := by decide +kernel
theorem dX11_isTaken_39 : decode cX11_isTaken 39 = .ok (.aload_n 1, 1) := by decide +kernel
theorem dX11_isTaken_40 : decode cX11_isTaken 40 = .ok (.iload_n 2, 1) := by decide +kernel
theorem dX11_isTaken_41 : decode cX11_isTaken 41 = .ok (.invokevirtual 204, 3) := by decide +kernel
theorem dX11_isTaken_44 : decode cX11_isTaken 44 = .ok (.aload_n 0, 1) := by decide +kernel
theorem dX11_isTaken_45 : decode cX11_isTaken 45 = .ok (.getfield 73, 3) := by decide +kernel
theorem dX11_isTaken_48 : decode cX11_isTaken 48 = .ok (.getfield 207, 3) := by decide +kernel
theorem dX11_isTaken_51 : decode cX11_isTaken 51 = .ok (.if_icmp .eq 7, 3) := by decide +kernel
theorem dX11_isTaken_54 : decode cX11_isTaken 54 = .ok (.iconst 1, 1) := by decide +kernel
theorem dX11_isTaken_55 : decode cX11_isTaken 55 = .ok (.goto 4, 3) := by decide +kernel
theorem dX11_isTaken_58 : decode cX11_isTaken 58 = .ok (.iconst 0, 1) := by decide +kernel
theorem dX11_isTaken_59 : decode cX11_isTaken 59 = .ok (.ireturn, 1) := by decide +kernel
theorem dX11_isFull_0 : decode cX11_isFull 0 = .ok (.aload_n 0, 1) := by decide +kernel
theorem dX11_isFull_1 : decode cX11_isFull 1 = .ok (.getfield 73, 3) := by decide +kernel
theorem dX11_isFull_4 : decode cX11_isFull 4 = .ok (.getfield 116, 3) := by decide +kernel
theorem dX11_isFull_7 : decode cX11_isFull 7 = .ok (.iconst 2, 1) := by decide +kernel
theorem dX11_isFull_8 : decode cX11_isFull 8 = .ok (.if_icmp .ne 19, 3) := by decide +kernel
theorem dX11_isFull_11 : decode cX11_isFull 11 = .ok (.aload_n 1, 1) := by decide +kernel
theorem dX11_isFull_12 : decode cX11_isFull 12 = .ok (.getfield 210, 3) := by decide +kernel
theorem dX11_isFull_15 : decode cX11_isFull 15 = .ok (.arraylength, 1) := by decide +kernel
theorem dX11_isFull_16 : decode cX11_isFull 16 = .ok (.bipush 10, 2) := by decide +kernel
theorem dX11_isFull_18 : decode cX11_isFull 18 = .ok (.if_icmp .lt 7, 3) := by decide +kernel
theorem dX11_isFull_21 : decode cX11_isFull 21 = .ok (.iconst 1, 1) := by decide +kernel
theorem dX11_isFull_22 : decode cX11_isFull 22 = .ok (.goto 4, 3) := by decide +kernel
theorem dX11_isFull_25 : decode cX11_isFull 25 = .ok (.iconst 0, 1) := by decide +kernel
theorem dX11_isFull_26 : decode cX11_isFull 26 = .ok (.ireturn, 1) := by decide +kernel
theorem dX11_isFull_27 : decode cX11_isFull 27 = .ok (.aload_n 1, 1) := by decide +kernel
theorem dX11_isFull_28 : decode cX11_isFull 28 = .ok (.getfield 214, 3) := by decide +kernel
theorem dX11_isFull_31 : decode cX11_isFull 31 = .ok (.arraylength, 1) := by decide +kernel
theorem dX11_isFull_32 : decode cX11_isFull 32 = .ok (.bipush 20, 2) := by decide +kernel
theorem dX11_isFull_34 : decode cX11_isFull 34 = .ok (.if_icmp .lt 7, 3) := by decide +kernel
theorem dX11_isFull_37 : decode cX11_isFull 37 = .ok (.iconst 1, 1) := by decide +kernel
theorem dX11_isFull_38 : decode cX11_isFull 38 = .ok (.goto 4, 3) := by decide +kernel
theorem dX11_isFull_41 : decode cX11_isFull 41 = .ok (.iconst 0, 1) := by decide +kernel
theorem dX11_isFull_42 : decode cX11_isFull 42 = .ok (.ireturn, 1) := by decide +kernel
theorem dX11_traceRing_0 : decode cX11_traceRing 0 = .ok (.aload_n 1, 1) := by decide +kernel
theorem dX11_traceRing_1 : decode cX11_traceRing 1 = .ok (.aload_n 0, 1) := by decide +kernel
theorem dX11_traceRing_2 : decode cX11_traceRing 2 = .ok (.getfield 73, 3) := by decide +kernel
theorem dX11_traceRing_5 : decode cX11_traceRing 5 = .ok (.getfield 154, 3) := by decide +kernel
theorem dX11_traceRing_8 : decode cX11_traceRing 8 = .ok (.invokevirtual 186, 3) := by decide +kernel
theorem dX11_traceRing_11 : decode cX11_traceRing 11 = .ok (.istore_n 3, 1) := by decide +kernel
theorem dX11_traceRing_12 : decode cX11_traceRing 12 = .ok (.iload_n 2, 1) := by decide +kernel
theorem dX11_traceRing_13 : decode cX11_traceRing 13 = .ok (.istore 4, 2) := by decide +kernel
theorem dX11_traceRing_15 : decode cX11_traceRing 15 = .ok (.iconst 0, 1) := by decide +kernel
theorem dX11_traceRing_16 : decode cX11_traceRing 16 = .ok (.istore 5, 2) := by decide +kernel
theorem dX11_traceRing_18 : decode cX11_traceRing 18 = .ok (.iload 5, 2) := by decide +kernel
theorem dX11_traceRing_20 : decode cX11_traceRing 20 = .ok (.aload_n 0, 1) := by decide +kernel
theorem dX11_traceRing_21 : decode cX11_traceRing 21 = .ok (.getfield 26, 3) := by decide +kernel
theorem dX11_traceRing_24 : decode cX11_traceRing 24 = .ok (.arraylength, 1) := by decide +kernel
theorem dX11_traceRing_25 : decode cX11_traceRing 25 = .ok (.if_icmp .ge 62, 3) := by decide +kernel
theorem dX11_traceRing_28 : decode cX11_traceRing 28 = .ok (.aload_n 0, 1) := by decide +kernel
theorem dX11_traceRing_29 : decode cX11_traceRing 29 = .ok (.getfield 26, 3) := by decide +kernel
theorem dX11_traceRing_32 : decode cX11_traceRing 32 = .ok (.aload_n 0, 1) := by decide +kernel
theorem dX11_traceRing_33 : decode cX11_traceRing 33 = .ok (.getfield 144, 3) := by decide +kernel
theorem dX11_traceRing_36 : decode cX11_traceRing 36 = .ok (.aload_n 1, 1) := by decide +kernel
theorem dX11_traceRing_37 : decode cX11_traceRing 37 = .ok (.iload 4, 2) := by decide +kernel
theorem dX11_traceRing_39 : decode cX11_traceRing 39 = .ok (.invokevirtual 217, 3) := by decide +kernel
theorem dX11_traceRing_42 : decode cX11_traceRing 42 = .ok (.iastore, 1) := by decide +kernel
theorem dX11_traceRing_43 : decode cX11_traceRing 43 = .ok (.aload_n 0, 1) := by decide +kernel
theorem dX11_traceRing_44 : decode cX11_traceRing 44 = .ok (.dup, 1) := by decide +kernel
theorem dX11_traceRing_45 : decode cX11_traceRing 45 = .ok (.getfield 144, 3) := by decide +kernel
theorem dX11_traceRing_48 : decode cX11_traceRing 48 = .ok (.iconst 1, 1) := by decide +kernel
theorem dX11_traceRing_49 : decode cX11_traceRing 49 = .ok (.iadd, 1) := by decide +kernel
theorem dX11_traceRing_50 : decode cX11_traceRing 50 = .ok (.putfield 144, 3) := by decide +kernel
theorem dX11_traceRing_53 : decode cX11_traceRing 53 = .ok (.aload_n 1, 1) := by decide +kernel
theorem dX11_traceRing_54 : decode cX11_traceRing 54 = .ok (.iload_n 3, 1) := by decide +kernel
theorem dX11_traceRing_55 : decode cX11_traceRing 55 = .ok (.iload_n 2, 1) := by decide +kernel
theorem dX11_traceRing_56 : decode cX11_traceRing 56 = .ok (.invokevirtual 220, 3) := by decide +kernel
theorem dX11_traceRing_59 : decode cX11_traceRing 59 = .ok (.istore 4, 2) := by decide +kernel
theorem dX11_traceRing_61 : decode cX11_traceRing 61 = .ok (.iload 4, 2) := by decide +kernel
theorem dX11_traceRing_63 : decode cX11_traceRing 63 = .ok (.iload_n 2, 1) := by decide +kernel
theorem dX11_traceRing_64 : decode cX11_traceRing 64 = .ok (.if_icmp .eq 9, 3) := by decide +kernel
theorem dX11_traceRing_67 : decode cX11_traceRing 67 = .ok (.iload 4, 2) := by decide +kernel
theorem dX11_traceRing_69 : decode cX11_traceRing 69 = .ok (.iconst (-1), 1) := by decide +kernel
theorem dX11_traceRing_70 : decode cX11_traceRing 70 = .ok (.if_icmp .ne 4, 3) := by decide +kernel
theorem dX11_traceRing_73 : decode cX11_traceRing 73 = .ok (.return_, 1) := by decide +kernel
theorem dX11_traceRing_74 : decode cX11_traceRing 74 = .ok (.aload_n 1, 1) := by decide +kernel
theorem dX11_traceRing_75 : decode cX11_traceRing 75 = .ok (.iload 4, 2) := by decide +kernel
theorem dX11_traceRing_77 : decode cX11_traceRing 77 = .ok (.invokevirtual 224, 3) := by decide +kernel
theorem dX11_traceRing_80 : decode cX11_traceRing 80 = .ok (.istore_n 3, 1) := by decide +kernel
theorem dX11_traceRing_81 : decode cX11_traceRing 81 = .ok (.iinc 5 1, 3) := by decide +kernel
theorem dX11_traceRing_84 : decode cX11_traceRing 84 = .ok (.goto (-66), 3) := by decide +kernel
theorem dX11_traceRing_87 : decode cX11_traceRing 87 = .ok (.return_, 1) := by decide +kernel
theorem dX11_isRefusedAtWork_0 : decode cX11_isRefusedAtWork 0 = .ok (.aload_n 0, 1) := by decide +kernel
theorem dX11_isRefusedAtWork_1 : decode cX11_isRefusedAtWork 1 = .ok (.getfield 73, 3) := by decide +kernel
theorem dX11_isRefusedAtWork_4 : decode cX11_isRefusedAtWork 4 = .ok (.getfield 116, 3) := by decide +kernel
theorem dX11_isRefusedAtWork_7 : decode cX11_isRefusedAtWork 7 = .ok (.iconst 2, 1) := by decide +kernel
theorem dX11_isRefusedAtWork_8 : decode cX11_isRefusedAtWork 8 = .ok (.if_icmp .ne 5, 3) := by decide +kernel
theorem dX11_isRefusedAtWork_11 : decode cX11_isRefusedAtWork 11 = .ok (.iconst 0, 1) := by decide +kernel
theorem dX11_isRefusedAtWork_12 : decode cX11_isRefusedAtWork 12 = .ok (.ireturn, 1) := by decide +kernel
theorem dX11_isRefusedAtWork_13 : decode cX11_isRefusedAtWork 13 = .ok (.aload_n 0, 1) := by decide +kernel
theorem dX11_isRefusedAtWork_14 : decode cX11_isRefusedAtWork 14 = .ok (.getfield 54, 3) := by decide +kernel
theorem dX11_isRefusedAtWork_17 : decode cX11_isRefusedAtWork 17 = .ok (.iconst 0, 1) := by decide +kernel
theorem dX11_isRefusedAtWork_18 : decode cX11_isRefusedAtWork 18 = .ok (.putfield 227, 3) := by decide +kernel
theorem dX11_isRefusedAtWork_21 : decode cX11_isRefusedAtWork 21 = .ok (.aload_n 0, 1) := by decide +kernel
theorem dX11_isRefusedAtWork_22 : decode cX11_isRefusedAtWork 22 = .ok (.getfield 80, 3) := by decide +kernel
theorem dX11_isRefusedAtWork_25 : decode cX11_isRefusedAtWork 25 = .ok (.aload_n 0, 1) := by decide +kernel
theorem dX11_isRefusedAtWork_26 : decode cX11_isRefusedAtWork 26 = .ok (.getfield 73, 3) := by decide +kernel
theorem dX11_isRefusedAtWork_29 : decode cX11_isRefusedAtWork 29 = .ok (.getfield 154, 3) := by decide +kernel
theorem dX11_isRefusedAtWork_32 : decode cX11_isRefusedAtWork 32 = .ok (.aload_n 0, 1) := by decide +kernel
theorem dX11_isRefusedAtWork_33 : decode cX11_isRefusedAtWork 33 = .ok (.invokevirtual 129, 3) := by decide +kernel
theorem dX11_isRefusedAtWork_36 : decode cX11_isRefusedAtWork 36 = .ok (.getfield 150, 3) := by decide +kernel
theorem dX11_isRefusedAtWork_39 : decode cX11_isRefusedAtWork 39 = .ok (.aload_n 0, 1) := by decide +kernel
theorem dX11_isRefusedAtWork_40 : decode cX11_isRefusedAtWork 40 = .ok (.getfield 54, 3) := by decide +kernel
theorem dX11_isRefusedAtWork_43 : decode cX11_isRefusedAtWork 43 = .ok (.aload_n 0, 1) := by decide +kernel
theorem dX11_isRefusedAtWork_44 : decode cX11_isRefusedAtWork 44 = .ok (.getfield 66, 3) := by decide +kernel
theorem dX11_isRefusedAtWork_47 : decode cX11_isRefusedAtWork 47 = .ok (.invokevirtual 230, 3) := by decide +kernel
theorem dX11_isRefusedAtWork_50 : decode cX11_isRefusedAtWork 50 = .ok (.istore_n 1, 1) := by decide +kernel
theorem dX11_isRefusedAtWork_51 : decode cX11_isRefusedAtWork 51 = .ok (.iload_n 1, 1) := by decide +kernel
theorem dX11_isRefusedAtWork_52 : decode cX11_isRefusedAtWork 52 = .ok (.ifCond .eq 15, 3) := by decide +kernel
theorem dX11_isRefusedAtWork_55 : decode cX11_isRefusedAtWork 55 = .ok (.aload_n 0, 1) := by decide +kernel
theorem dX11_isRefusedAtWork_56 : decode cX11_isRefusedAtWork 56 = .ok (.iload_n 1, 1) := by decide +kernel
theorem dX11_isRefusedAtWork_57 : decode cX11_isRefusedAtWork 57 = .ok (.aload_n 0, 1) := by decide +kernel
theorem dX11_isRefusedAtWork_58 : decode cX11_isRefusedAtWork 58 = .ok (.getfield 80, 3) := by decide +kernel
theorem dX11_isRefusedAtWork_61 : decode cX11_isRefusedAtWork 61 = .ok (.getfield 234, 3) := by decide +kernel
theorem dX11_isRefusedAtWork_64 : decode cX11_isRefusedAtWork 64 = .ok (.invokevirtual 164, 3) := by decide +kernel
theorem dX11_isRefusedAtWork_67 : decode cX11_isRefusedAtWork 67 = .ok (.iload_n 1, 1) := by decide +kernel
theorem dX11_isRefusedAtWork_68 : decode cX11_isRefusedAtWork 68 = .ok (.ifCond .eq 7, 3) := by decide +kernel
theorem dX11_isRefusedAtWork_71 : decode cX11_isRefusedAtWork 71 = .ok (.iconst 1, 1) := by decide +kernel
theorem dX11_isRefusedAtWork_72 : decode cX11_isRefusedAtWork 72 = .ok (.goto 4, 3) := by decide +kernel
theorem dX11_isRefusedAtWork_75 : decode cX11_isRefusedAtWork 75 = .ok (.iconst 0, 1) := by decide +kernel
theorem dX11_isRefusedAtWork_76 : decode cX11_isRefusedAtWork 76 = .ok (.ireturn, 1) := by decide +kernel
theorem dX11_bookWith_0 : decode cX11_bookWith 0 = .ok (.new 237, 3) := by decide +kernel
theorem dX11_bookWith_3 : decode cX11_bookWith 3 = .ok (.dup, 1) := by decide +kernel
theorem dX11_bookWith_4 : decode cX11_bookWith 4 = .ok (.aload_n 0, 1) := by decide +kernel
theorem dX11_bookWith_5 : decode cX11_bookWith 5 = .ok (.getfield 73, 3) := by decide +kernel
theorem dX11_bookWith_8 : decode cX11_bookWith 8 = .ok (.getfield 168, 3) := by decide +kernel
theorem dX11_bookWith_11 : decode cX11_bookWith 11 = .ok (.aload_n 0, 1) := by decide +kernel
theorem dX11_bookWith_12 : decode cX11_bookWith 12 = .ok (.getfield 73, 3) := by decide +kernel
theorem dX11_bookWith_15 : decode cX11_bookWith 15 = .ok (.getfield 207, 3) := by decide +kernel
theorem dX11_bookWith_18 : decode cX11_bookWith 18 = .ok (.aload_n 0, 1) := by decide +kernel
theorem dX11_bookWith_19 : decode cX11_bookWith 19 = .ok (.getfield 73, 3) := by decide +kernel
theorem dX11_bookWith_22 : decode cX11_bookWith 22 = .ok (.getfield 154, 3) := by decide +kernel
theorem dX11_bookWith_25 : decode cX11_bookWith 25 = .ok (.aload_n 1, 1) := by decide +kernel
theorem dX11_bookWith_26 : decode cX11_bookWith 26 = .ok (.invokespecial 239, 3) := by decide +kernel
theorem dX11_bookWith_29 : decode cX11_bookWith 29 = .ok (.astore_n 2, 1) := by decide +kernel
theorem dX11_bookWith_30 : decode cX11_bookWith 30 = .ok (.aload_n 0, 1) := by decide +kernel
theorem dX11_bookWith_31 : decode cX11_bookWith 31 = .ok (.invokevirtual 129, 3) := by decide +kernel
theorem dX11_bookWith_34 : decode cX11_bookWith 34 = .ok (.getfield 150, 3) := by decide +kernel
theorem dX11_bookWith_37 : decode cX11_bookWith 37 = .ok (.aload_n 2, 1) := by decide +kernel
theorem dX11_bookWith_38 : decode cX11_bookWith 38 = .ok (.invokevirtual 242, 3) := by decide +kernel
theorem dX11_bookWith_41 : decode cX11_bookWith 41 = .ok (.astore_n 3, 1) := by decide +kernel
theorem dX11_bookWith_42 : decode cX11_bookWith 42 = .ok (.aload_n 3, 1) := by decide +kernel
theorem dX11_bookWith_43 : decode cX11_bookWith 43 = .ok (.aload_n 3, 1) := by decide +kernel
theorem dX11_bookWith_44 : decode cX11_bookWith 44 = .ok (.aload_n 2, 1) := by decide +kernel
theorem dX11_bookWith_45 : decode cX11_bookWith 45 = .ok (.getfield 246, 3) := by decide +kernel
theorem dX11_bookWith_48 : decode cX11_bookWith 48 = .ok (.aload_n 1, 1) := by decide +kernel
theorem dX11_bookWith_49 : decode cX11_bookWith 49 = .ok (.ifnonnull 7, 3) := by decide +kernel
theorem dX11_bookWith_52 : decode cX11_bookWith 52 = .ok (.iconst 1, 1) := by decide +kernel
theorem dX11_bookWith_53 : decode cX11_bookWith 53 = .ok (.goto 4, 3) := by decide +kernel
theorem dX11_bookWith_56 : decode cX11_bookWith 56 = .ok (.iconst 0, 1) := by decide +kernel
theorem dX11_bookWith_57 : decode cX11_bookWith 57 = .ok (.invokevirtual 171, 3) := by decide +kernel
theorem dX11_bookWith_60 : decode cX11_bookWith 60 = .ok (.invokevirtual 247, 3) := by decide +kernel
theorem dX11_bookWith_63 : decode cX11_bookWith 63 = .ok (.istore 4, 2) := by decide +kernel
theorem dX11_bookWith_65 : decode cX11_bookWith 65 = .ok (.iconst 0, 1) := by decide +kernel
theorem dX11_bookWith_66 : decode cX11_bookWith 66 = .ok (.istore 5, 2) := by decide +kernel
theorem dX11_bookWith_68 : decode cX11_bookWith 68 = .ok (.iload 5, 2) := by decide +kernel
theorem dX11_bookWith_70 : decode cX11_bookWith 70 = .ok (.bipush 20, 2) := by decide +kernel
theorem dX11_bookWith_72 : decode cX11_bookWith 72 = .ok (.if_icmp .ge 126, 3) := by decide +kernel
theorem dX11_bookWith_75 : decode cX11_bookWith 75 = .ok (.iload 4, 2) := by decide +kernel
theorem dX11_bookWith_77 : decode cX11_bookWith 77 = .ok (.ifCond .eq 121, 3) := by decide +kernel
theorem dX11_bookWith_80 : decode cX11_bookWith 80 = .ok (.aload_n 3, 1) := by decide +kernel
theorem dX11_bookWith_81 : decode cX11_bookWith 81 = .ok (.iload 4, 2) := by decide +kernel
theorem dX11_bookWith_83 : decode cX11_bookWith 83 = .ok (.invokevirtual 250, 3) := by decide +kernel
theorem dX11_bookWith_86 : decode cX11_bookWith 86 = .ok (.istore 6, 2) := by decide +kernel
theorem dX11_bookWith_88 : decode cX11_bookWith 88 = .ok (.aload_n 3, 1) := by decide +kernel
theorem dX11_bookWith_89 : decode cX11_bookWith 89 = .ok (.iload 6, 2) := by decide +kernel
theorem dX11_bookWith_91 : decode cX11_bookWith 91 = .ok (.invokevirtual 253, 3) := by decide +kernel
theorem dX11_bookWith_94 : decode cX11_bookWith 94 = .ok (.astore 7, 2) := by decide +kernel
theorem dX11_bookWith_96 : decode cX11_bookWith 96 = .ok (.aload 7, 2) := by decide +kernel
theorem dX11_bookWith_98 : decode cX11_bookWith 98 = .ok (.ifnonnull 5, 3) := by decide +kernel
theorem dX11_bookWith_101 : decode cX11_bookWith 101 = .ok (.aconst_null, 1) := by decide +kernel
theorem dX11_bookWith_102 : decode cX11_bookWith 102 = .ok (.areturn, 1) := by decide +kernel
theorem dX11_bookWith_103 : decode cX11_bookWith 103 = .ok (.aload_n 0, 1) := by decide +kernel
theorem dX11_bookWith_104 : decode cX11_bookWith 104 = .ok (.getfield 80, 3) := by decide +kernel
theorem dX11_bookWith_107 : decode cX11_bookWith 107 = .ok (.aload 7, 2) := by decide +kernel
theorem dX11_bookWith_109 : decode cX11_bookWith 109 = .ok (.getfield 257, 3) := by decide +kernel
theorem dX11_bookWith_112 : decode cX11_bookWith 112 = .ok (.aload_n 3, 1) := by decide +kernel
theorem dX11_bookWith_113 : decode cX11_bookWith 113 = .ok (.aconst_null, 1) := by decide +kernel
theorem dX11_bookWith_114 : decode cX11_bookWith 114 = .ok (.aload_n 0, 1) := by decide +kernel
theorem dX11_bookWith_115 : decode cX11_bookWith 115 = .ok (.getfield 66, 3) := by decide +kernel
theorem dX11_bookWith_118 : decode cX11_bookWith 118 = .ok (.invokevirtual 230, 3) := by decide +kernel
theorem dX11_bookWith_121 : decode cX11_bookWith 121 = .ok (.ifCond .eq 21, 3) := by decide +kernel
theorem dX11_bookWith_124 : decode cX11_bookWith 124 = .ok (.aload_n 0, 1) := by decide +kernel
theorem dX11_bookWith_125 : decode cX11_bookWith 125 = .ok (.bipush 9, 2) := by decide +kernel
theorem dX11_bookWith_127 : decode cX11_bookWith 127 = .ok (.iconst 0, 1) := by decide +kernel
theorem dX11_bookWith_128 : decode cX11_bookWith 128 = .ok (.invokevirtual 164, 3) := by decide +kernel
theorem dX11_bookWith_131 : decode cX11_bookWith 131 = .ok (.aload_n 0, 1) := by decide +kernel
theorem dX11_bookWith_132 : decode cX11_bookWith 132 = .ok (.aload 7, 2) := by decide +kernel
theorem dX11_bookWith_134 : decode cX11_bookWith 134 = .ok (.getfield 246, 3) := by decide +kernel
theorem dX11_bookWith_137 : decode cX11_bookWith 137 = .ok (.putfield 23, 3) := by decide +kernel
theorem dX11_bookWith_140 : decode cX11_bookWith 140 = .ok (.aconst_null, 1) := by decide +kernel
theorem dX11_bookWith_141 : decode cX11_bookWith 141 = .ok (.areturn, 1) := by decide +kernel
theorem dX11_bookWith_142 : decode cX11_bookWith 142 = .ok (.aload_n 3, 1) := by decide +kernel
theorem dX11_bookWith_143 : decode cX11_bookWith 143 = .ok (.getfield 214, 3) := by decide +kernel
theorem dX11_bookWith_146 : decode cX11_bookWith 146 = .ok (.iload 6, 2) := by decide +kernel
theorem dX11_bookWith_148 : decode cX11_bookWith 148 = .ok (.new 237, 3) := by decide +kernel
theorem dX11_bookWith_151 : decode cX11_bookWith 151 = .ok (.dup, 1) := by decide +kernel
theorem dX11_bookWith_152 : decode cX11_bookWith 152 = .ok (.aload 7, 2) := by decide +kernel
theorem dX11_bookWith_154 : decode cX11_bookWith 154 = .ok (.getfield 246, 3) := by decide +kernel
theorem dX11_bookWith_157 : decode cX11_bookWith 157 = .ok (.iconst 0, 1) := by decide +kernel
theorem dX11_bookWith_158 : decode cX11_bookWith 158 = .ok (.aload 7, 2) := by decide +kernel
theorem dX11_bookWith_160 : decode cX11_bookWith 160 = .ok (.getfield 257, 3) := by decide +kernel
theorem dX11_bookWith_163 : decode cX11_bookWith 163 = .ok (.new 29, 3) := by decide +kernel
theorem dX11_bookWith_166 : decode cX11_bookWith 166 = .ok (.dup, 1) := by decide +kernel
theorem dX11_bookWith_167 : decode cX11_bookWith 167 = .ok (.aload_n 0, 1) := by decide +kernel
theorem dX11_bookWith_168 : decode cX11_bookWith 168 = .ok (.getfield 80, 3) := by decide +kernel
theorem dX11_bookWith_171 : decode cX11_bookWith 171 = .ok (.getfield 119, 3) := by decide +kernel
theorem dX11_bookWith_174 : decode cX11_bookWith 174 = .ok (.invokespecial 122, 3) := by decide +kernel
theorem dX11_bookWith_177 : decode cX11_bookWith 177 = .ok (.invokespecial 239, 3) := by decide +kernel
theorem dX11_bookWith_180 : decode cX11_bookWith 180 = .ok (.aastore, 1) := by decide +kernel
theorem dX11_bookWith_181 : decode cX11_bookWith 181 = .ok (.iload 4, 2) := by decide +kernel
theorem dX11_bookWith_183 : decode cX11_bookWith 183 = .ok (.iconst 1, 1) := by decide +kernel
theorem dX11_bookWith_184 : decode cX11_bookWith 184 = .ok (.iload 6, 2) := by decide +kernel
theorem dX11_bookWith_186 : decode cX11_bookWith 186 = .ok (.ishl, 1) := by decide +kernel
theorem dX11_bookWith_187 : decode cX11_bookWith 187 = .ok (.iconst (-1), 1) := by decide +kernel
theorem dX11_bookWith_188 : decode cX11_bookWith 188 = .ok (.ixor, 1) := by decide +kernel
theorem dX11_bookWith_189 : decode cX11_bookWith 189 = .ok (.iand, 1) := by decide +kernel
theorem dX11_bookWith_190 : decode cX11_bookWith 190 = .ok (.istore 4, 2) := by decide +kernel
theorem dX11_bookWith_192 : decode cX11_bookWith 192 = .ok (.iinc 5 1, 3) := by decide +kernel
theorem dX11_bookWith_195 : decode cX11_bookWith 195 = .ok (.goto (-127), 3) := by decide +kernel
theorem dX11_bookWith_198 : decode cX11_bookWith 198 = .ok (.aload_n 3, 1) := by decide +kernel
theorem dX11_bookWith_199 : decode cX11_bookWith 199 = .ok (.areturn, 1) := by decide +kernel
theorem dX11_sign_0 : decode cX11_sign 0 = .ok (.aload_n 0, 1) := by decide +kernel
theorem dX11_sign_1 : decode cX11_sign 1 = .ok (.getfield 32, 3) := by decide +kernel
theorem dX11_sign_4 : decode cX11_sign 4 = .ok (.getfield 258, 3) := by decide +kernel
theorem dX11_sign_7 : decode cX11_sign 7 = .ok (.ireturn, 1) := by decide +kernel
theorem dX11_digits_0 : decode cX11_digits 0 = .ok (.aload_n 0, 1) := by decide +kernel
theorem dX11_digits_1 : decode cX11_digits 1 = .ok (.iload_n 1, 1) := by decide +kernel
theorem dX11_digits_2 : decode cX11_digits 2 = .ok (.invokevirtual 261, 3) := by decide +kernel
theorem dX11_digits_5 : decode cX11_digits 5 = .ok (.invokevirtual 265, 3) := by decide +kernel
theorem dX11_digits_8 : decode cX11_digits 8 = .ok (.ireturn, 1) := by decide +kernel
theorem dX11_digit_0 : decode cX11_digit 0 = .ok (.aload_n 0, 1) := by decide +kernel
theorem dX11_digit_1 : decode cX11_digit 1 = .ok (.iload_n 1, 1) := by decide +kernel
theorem dX11_digit_2 : decode cX11_digit 2 = .ok (.invokevirtual 261, 3) := by decide +kernel
theorem dX11_digit_5 : decode cX11_digit 5 = .ok (.astore_n 3, 1) := by decide +kernel
theorem dX11_digit_6 : decode cX11_digit 6 = .ok (.iload_n 2, 1) := by decide +kernel
theorem dX11_digit_7 : decode cX11_digit 7 = .ok (.ifCond .lt 11, 3) := by decide +kernel
theorem dX11_digit_10 : decode cX11_digit 10 = .ok (.iload_n 2, 1) := by decide +kernel
theorem dX11_digit_11 : decode cX11_digit 11 = .ok (.aload_n 3, 1) := by decide +kernel
theorem dX11_digit_12 : decode cX11_digit 12 = .ok (.invokevirtual 265, 3) := by decide +kernel
theorem dX11_digit_15 : decode cX11_digit 15 = .ok (.if_icmp .lt 11, 3) := by decide +kernel
theorem dX11_digit_18 : decode cX11_digit 18 = .ok (.new 147, 3) := by decide +kernel
theorem dX11_digit_21 : decode cX11_digit 21 = .ok (.dup, 1) := by decide +kernel
theorem dX11_digit_22 : decode cX11_digit 22 = .ok (.invokespecial 149, 3) := by decide +kernel
theorem dX11_digit_25 : decode cX11_digit 25 = .ok (.athrow, 1) := by decide +kernel
theorem dX11_digit_26 : decode cX11_digit 26 = .ok (.aload_n 3, 1) := by decide +kernel
theorem dX11_digit_27 : decode cX11_digit 27 = .ok (.iload_n 2, 1) := by decide +kernel
theorem dX11_digit_28 : decode cX11_digit 28 = .ok (.invokevirtual 271, 3) := by decide +kernel
theorem dX11_digit_31 : decode cX11_digit 31 = .ok (.ireturn, 1) := by decide +kernel
theorem dX11_write_0 : decode cX11_write 0 = .ok (.iload_n 1, 1) := by decide +kernel
theorem dX11_write_1 : decode cX11_write 1 = .ok (.ifCond .ne 30, 3) := by decide +kernel
theorem dX11_write_4 : decode cX11_write 4 = .ok (.aload_n 0, 1) := by decide +kernel
theorem dX11_write_5 : decode cX11_write 5 = .ok (.getfield 43, 3) := by decide +kernel
theorem dX11_write_8 : decode cX11_write 8 = .ok (.iconst 0, 1) := by decide +kernel
theorem dX11_write_9 : decode cX11_write 9 = .ok (.invokevirtual 274, 3) := by decide +kernel
theorem dX11_write_12 : decode cX11_write 12 = .ok (.aload_n 0, 1) := by decide +kernel
theorem dX11_write_13 : decode cX11_write 13 = .ok (.getfield 32, 3) := by decide +kernel
theorem dX11_write_16 : decode cX11_write 16 = .ok (.aload_n 0, 1) := by decide +kernel
theorem dX11_write_17 : decode cX11_write 17 = .ok (.getfield 43, 3) := by decide +kernel
theorem dX11_write_20 : decode cX11_write 20 = .ok (.invokestatic 277, 3) := by decide +kernel
theorem dX11_write_23 : decode cX11_write 23 = .ok (.aload_n 0, 1) := by decide +kernel
theorem dX11_write_24 : decode cX11_write 24 = .ok (.getfield 43, 3) := by decide +kernel
theorem dX11_write_27 : decode cX11_write 27 = .ok (.invokevirtual 281, 3) := by decide +kernel
theorem dX11_write_30 : decode cX11_write 30 = .ok (.ireturn, 1) := by decide +kernel
theorem dX11_write_31 : decode cX11_write 31 = .ok (.aload_n 0, 1) := by decide +kernel
theorem dX11_write_32 : decode cX11_write 32 = .ok (.getfield 66, 3) := by decide +kernel
theorem dX11_write_35 : decode cX11_write 35 = .ok (.aload_n 0, 1) := by decide +kernel
theorem dX11_write_36 : decode cX11_write 36 = .ok (.getfield 32, 3) := by decide +kernel
theorem dX11_write_39 : decode cX11_write 39 = .ok (.invokevirtual 283, 3) := by decide +kernel
theorem dX11_write_42 : decode cX11_write 42 = .ok (.istore_n 2, 1) := by decide +kernel
theorem dX11_write_43 : decode cX11_write 43 = .ok (.aload_n 0, 1) := by decide +kernel
theorem dX11_write_44 : decode cX11_write 44 = .ok (.getfield 66, 3) := by decide +kernel
theorem dX11_write_47 : decode cX11_write 47 = .ok (.bipush 100, 2) := by decide +kernel
theorem dX11_write_49 : decode cX11_write 49 = .ok (.invokevirtual 287, 3) := by decide +kernel
theorem dX11_write_52 : decode cX11_write 52 = .ok (.istore_n 3, 1) := by decide +kernel
theorem dX11_write_53 : decode cX11_write 53 = .ok (.iload_n 3, 1) := by decide +kernel
theorem dX11_write_54 : decode cX11_write 54 = .ok (.iconst (-1), 1) := by decide +kernel
theorem dX11_write_55 : decode cX11_write 55 = .ok (.if_icmp .eq 11, 3) := by decide +kernel
theorem dX11_write_58 : decode cX11_write 58 = .ok (.iload_n 2, 1) := by decide +kernel
theorem dX11_write_59 : decode cX11_write 59 = .ok (.iload_n 3, 1) := by decide +kernel
theorem dX11_write_60 : decode cX11_write 60 = .ok (.iadd, 1) := by decide +kernel
theorem dX11_write_61 : decode cX11_write 61 = .ok (.bipush 100, 2) := by decide +kernel
theorem dX11_write_63 : decode cX11_write 63 = .ok (.if_icmp .le 5, 3) := by decide +kernel
theorem dX11_write_66 : decode cX11_write 66 = .ok (.iconst (-1), 1) := by decide +kernel
theorem dX11_write_67 : decode cX11_write 67 = .ok (.ireturn, 1) := by decide +kernel
theorem dX11_write_68 : decode cX11_write 68 = .ok (.aload_n 0, 1) := by decide +kernel
theorem dX11_write_69 : decode cX11_write 69 = .ok (.getfield 43, 3) := by decide +kernel
theorem dX11_write_72 : decode cX11_write 72 = .ok (.iconst 0, 1) := by decide +kernel
theorem dX11_write_73 : decode cX11_write 73 = .ok (.invokevirtual 274, 3) := by decide +kernel
theorem dX11_write_76 : decode cX11_write 76 = .ok (.aload_n 0, 1) := by decide +kernel
theorem dX11_write_77 : decode cX11_write 77 = .ok (.iload_n 2, 1) := by decide +kernel
theorem dX11_write_78 : decode cX11_write 78 = .ok (.iload_n 3, 1) := by decide +kernel
theorem dX11_write_79 : decode cX11_write 79 = .ok (.invokevirtual 290, 3) := by decide +kernel
theorem dX11_write_82 : decode cX11_write 82 = .ok (.aload_n 0, 1) := by decide +kernel
theorem dX11_write_83 : decode cX11_write 83 = .ok (.getfield 43, 3) := by decide +kernel
theorem dX11_write_86 : decode cX11_write 86 = .ok (.invokevirtual 281, 3) := by decide +kernel
theorem dX11_write_89 : decode cX11_write 89 = .ok (.ireturn, 1) := by decide +kernel
theorem dX11_writtenAt_0 : decode cX11_writtenAt 0 = .ok (.iload_n 1, 1) := by decide +kernel
theorem dX11_writtenAt_1 : decode cX11_writtenAt 1 = .ok (.ifCond .lt 14, 3) := by decide +kernel
theorem dX11_writtenAt_4 : decode cX11_writtenAt 4 = .ok (.iload_n 1, 1) := by decide +kernel
theorem dX11_writtenAt_5 : decode cX11_writtenAt 5 = .ok (.aload_n 0, 1) := by decide +kernel
theorem dX11_writtenAt_6 : decode cX11_writtenAt 6 = .ok (.getfield 43, 3) := by decide +kernel
theorem dX11_writtenAt_9 : decode cX11_writtenAt 9 = .ok (.invokevirtual 281, 3) := by decide +kernel
theorem dX11_writtenAt_12 : decode cX11_writtenAt 12 = .ok (.if_icmp .lt 11, 3) := by decide +kernel
theorem dX11_writtenAt_15 : decode cX11_writtenAt 15 = .ok (.new 147, 3) := by decide +kernel
theorem dX11_writtenAt_18 : decode cX11_writtenAt 18 = .ok (.dup, 1) := by decide +kernel
theorem dX11_writtenAt_19 : decode cX11_writtenAt 19 = .ok (.invokespecial 149, 3) := by decide +kernel
theorem dX11_writtenAt_22 : decode cX11_writtenAt 22 = .ok (.athrow, 1) := by decide +kernel
theorem dX11_writtenAt_23 : decode cX11_writtenAt 23 = .ok (.aload_n 0, 1) := by decide +kernel
theorem dX11_writtenAt_24 : decode cX11_writtenAt 24 = .ok (.getfield 43, 3) := by decide +kernel
theorem dX11_writtenAt_27 : decode cX11_writtenAt 27 = .ok (.iload_n 1, 1) := by decide +kernel
theorem dX11_writtenAt_28 : decode cX11_writtenAt 28 = .ok (.invokevirtual 293, 3) := by decide +kernel
theorem dX11_writtenAt_31 : decode cX11_writtenAt 31 = .ok (.ireturn, 1) := by decide +kernel
theorem dX11_keep_0 : decode cX11_keep 0 = .ok (.aload_n 0, 1) := by decide +kernel
theorem dX11_keep_1 : decode cX11_keep 1 = .ok (.iload_n 1, 1) := by decide +kernel
theorem dX11_keep_2 : decode cX11_keep 2 = .ok (.invokevirtual 297, 3) := by decide +kernel
theorem dX11_keep_5 : decode cX11_keep 5 = .ok (.ifCond .ne 11, 3) := by decide +kernel
theorem dX11_keep_8 : decode cX11_keep 8 = .ok (.new 103, 3) := by decide +kernel
theorem dX11_keep_11 : decode cX11_keep 11 = .ok (.dup, 1) := by decide +kernel
theorem dX11_keep_12 : decode cX11_keep 12 = .ok (.invokespecial 105, 3) := by decide +kernel
theorem dX11_keep_15 : decode cX11_keep 15 = .ok (.athrow, 1) := by decide +kernel
theorem dX11_keep_16 : decode cX11_keep 16 = .ok (.aload_n 0, 1) := by decide +kernel
theorem dX11_keep_17 : decode cX11_keep 17 = .ok (.getfield 36, 3) := by decide +kernel
theorem dX11_keep_20 : decode cX11_keep 20 = .ok (.iload_n 1, 1) := by decide +kernel
theorem dX11_keep_21 : decode cX11_keep 21 = .ok (.aaload, 1) := by decide +kernel
theorem dX11_keep_22 : decode cX11_keep 22 = .ok (.getfield 258, 3) := by decide +kernel
theorem dX11_keep_25 : decode cX11_keep 25 = .ok (.istore_n 2, 1) := by decide +kernel
theorem dX11_keep_26 : decode cX11_keep 26 = .ok (.aload_n 0, 1) := by decide +kernel
theorem dX11_keep_27 : decode cX11_keep 27 = .ok (.getfield 36, 3) := by decide +kernel
theorem dX11_keep_30 : decode cX11_keep 30 = .ok (.iload_n 1, 1) := by decide +kernel
theorem dX11_keep_31 : decode cX11_keep 31 = .ok (.aload_n 0, 1) := by decide +kernel
theorem dX11_keep_32 : decode cX11_keep 32 = .ok (.getfield 32, 3) := by decide +kernel
theorem dX11_keep_35 : decode cX11_keep 35 = .ok (.aastore, 1) := by decide +kernel
theorem dX11_keep_36 : decode cX11_keep 36 = .ok (.iload_n 2, 1) := by decide +kernel
theorem dX11_keep_37 : decode cX11_keep 37 = .ok (.ireturn, 1) := by decide +kernel
theorem dX11_take_0 : decode cX11_take 0 = .ok (.aload_n 0, 1) := by decide +kernel
theorem dX11_take_1 : decode cX11_take 1 = .ok (.iload_n 1, 1) := by decide +kernel
theorem dX11_take_2 : decode cX11_take 2 = .ok (.invokevirtual 297, 3) := by decide +kernel
theorem dX11_take_5 : decode cX11_take 5 = .ok (.ifCond .ne 11, 3) := by decide +kernel
theorem dX11_take_8 : decode cX11_take 8 = .ok (.new 103, 3) := by decide +kernel
theorem dX11_take_11 : decode cX11_take 11 = .ok (.dup, 1) := by decide +kernel
theorem dX11_take_12 : decode cX11_take 12 = .ok (.invokespecial 105, 3) := by decide +kernel
theorem dX11_take_15 : decode cX11_take 15 = .ok (.athrow, 1) := by decide +kernel
theorem dX11_take_16 : decode cX11_take 16 = .ok (.aload_n 0, 1) := by decide +kernel
theorem dX11_take_17 : decode cX11_take 17 = .ok (.aload_n 0, 1) := by decide +kernel
theorem dX11_take_18 : decode cX11_take 18 = .ok (.getfield 36, 3) := by decide +kernel
theorem dX11_take_21 : decode cX11_take 21 = .ok (.iload_n 1, 1) := by decide +kernel
theorem dX11_take_22 : decode cX11_take 22 = .ok (.aaload, 1) := by decide +kernel
theorem dX11_take_23 : decode cX11_take 23 = .ok (.putfield 32, 3) := by decide +kernel
theorem dX11_take_26 : decode cX11_take 26 = .ok (.aload_n 0, 1) := by decide +kernel
theorem dX11_take_27 : decode cX11_take 27 = .ok (.getfield 32, 3) := by decide +kernel
theorem dX11_take_30 : decode cX11_take 30 = .ok (.getfield 258, 3) := by decide +kernel
theorem dX11_take_33 : decode cX11_take 33 = .ok (.ireturn, 1) := by decide +kernel
theorem dX11_compare_0 : decode cX11_compare 0 = .ok (.aload_n 0, 1) := by decide +kernel
theorem dX11_compare_1 : decode cX11_compare 1 = .ok (.iload_n 1, 1) := by decide +kernel
theorem dX11_compare_2 : decode cX11_compare 2 = .ok (.invokevirtual 297, 3) := by decide +kernel
theorem dX11_compare_5 : decode cX11_compare 5 = .ok (.ifCond .eq 11, 3) := by decide +kernel
theorem dX11_compare_8 : decode cX11_compare 8 = .ok (.aload_n 0, 1) := by decide +kernel
theorem dX11_compare_9 : decode cX11_compare 9 = .ok (.iload_n 2, 1) := by decide +kernel
theorem dX11_compare_10 : decode cX11_compare 10 = .ok (.invokevirtual 297, 3) := by decide +kernel
theorem dX11_compare_13 : decode cX11_compare 13 = .ok (.ifCond .ne 11, 3) := by decide +kernel
theorem dX11_compare_16 : decode cX11_compare 16 = .ok (.new 103, 3) := by decide +kernel
theorem dX11_compare_19 : decode cX11_compare 19 = .ok (.dup, 1) := by decide +kernel
theorem dX11_compare_20 : decode cX11_compare 20 = .ok (.invokespecial 105, 3) := by decide +kernel
theorem dX11_compare_23 : decode cX11_compare 23 = .ok (.athrow, 1) := by decide +kernel
theorem dX11_compare_24 : decode cX11_compare 24 = .ok (.aload_n 0, 1) := by decide +kernel
theorem dX11_compare_25 : decode cX11_compare 25 = .ok (.getfield 66, 3) := by decide +kernel
theorem dX11_compare_28 : decode cX11_compare 28 = .ok (.aload_n 0, 1) := by decide +kernel
theorem dX11_compare_29 : decode cX11_compare 29 = .ok (.getfield 36, 3) := by decide +kernel
theorem dX11_compare_32 : decode cX11_compare 32 = .ok (.iload_n 1, 1) := by decide +kernel
theorem dX11_compare_33 : decode cX11_compare 33 = .ok (.aaload, 1) := by decide +kernel
theorem dX11_compare_34 : decode cX11_compare 34 = .ok (.aload_n 0, 1) := by decide +kernel
theorem dX11_compare_35 : decode cX11_compare 35 = .ok (.getfield 36, 3) := by decide +kernel
theorem dX11_compare_38 : decode cX11_compare 38 = .ok (.iload_n 2, 1) := by decide +kernel
theorem dX11_compare_39 : decode cX11_compare 39 = .ok (.aaload, 1) := by decide +kernel
theorem dX11_compare_40 : decode cX11_compare 40 = .ok (.invokevirtual 300, 3) := by decide +kernel
theorem dX11_compare_43 : decode cX11_compare 43 = .ok (.ireturn, 1) := by decide +kernel
theorem dX11_isSlot_0 : decode cX11_isSlot 0 = .ok (.iload_n 1, 1) := by decide +kernel
theorem dX11_isSlot_1 : decode cX11_isSlot 1 = .ok (.ifCond .lt 16, 3) := by decide +kernel
theorem dX11_isSlot_4 : decode cX11_isSlot 4 = .ok (.iload_n 1, 1) := by decide +kernel
theorem dX11_isSlot_5 : decode cX11_isSlot 5 = .ok (.aload_n 0, 1) := by decide +kernel
theorem dX11_isSlot_6 : decode cX11_isSlot 6 = .ok (.getfield 36, 3) := by decide +kernel
theorem dX11_isSlot_9 : decode cX11_isSlot 9 = .ok (.arraylength, 1) := by decide +kernel
theorem dX11_isSlot_10 : decode cX11_isSlot 10 = .ok (.if_icmp .ge 7, 3) := by decide +kernel
theorem dX11_isSlot_13 : decode cX11_isSlot 13 = .ok (.iconst 1, 1) := by decide +kernel
theorem dX11_isSlot_14 : decode cX11_isSlot 14 = .ok (.goto 4, 3) := by decide +kernel
theorem dX11_isSlot_17 : decode cX11_isSlot 17 = .ok (.iconst 0, 1) := by decide +kernel
theorem dX11_isSlot_18 : decode cX11_isSlot 18 = .ok (.ireturn, 1) := by decide +kernel
theorem dX11_partOfAnswer_0 : decode cX11_partOfAnswer 0 = .ok (.iload_n 1, 1) := by decide +kernel
theorem dX11_partOfAnswer_1 : decode cX11_partOfAnswer 1 = .ok (.ifCond .eq 13, 3) := by decide +kernel
theorem dX11_partOfAnswer_4 : decode cX11_partOfAnswer 4 = .ok (.aload_n 0, 1) := by decide +kernel
theorem dX11_partOfAnswer_5 : decode cX11_partOfAnswer 5 = .ok (.getfield 32, 3) := by decide +kernel
theorem dX11_partOfAnswer_8 : decode cX11_partOfAnswer 8 = .ok (.getfield 304, 3) := by decide +kernel
theorem dX11_partOfAnswer_11 : decode cX11_partOfAnswer 11 = .ok (.goto 10, 3) := by decide +kernel
theorem dX11_partOfAnswer_14 : decode cX11_partOfAnswer 14 = .ok (.aload_n 0, 1) := by decide +kernel
theorem dX11_partOfAnswer_15 : decode cX11_partOfAnswer 15 = .ok (.getfield 32, 3) := by decide +kernel
theorem dX11_partOfAnswer_18 : decode cX11_partOfAnswer 18 = .ok (.getfield 308, 3) := by decide +kernel
theorem dX11_partOfAnswer_21 : decode cX11_partOfAnswer 21 = .ok (.areturn, 1) := by decide +kernel
theorem dX11_takeCopy_0 : decode cX11_takeCopy 0 = .ok (.aload_n 0, 1) := by decide +kernel
theorem dX11_takeCopy_1 : decode cX11_takeCopy 1 = .ok (.new 29, 3) := by decide +kernel
theorem dX11_takeCopy_4 : decode cX11_takeCopy 4 = .ok (.dup, 1) := by decide +kernel
theorem dX11_takeCopy_5 : decode cX11_takeCopy 5 = .ok (.aload_n 1, 1) := by decide +kernel
theorem dX11_takeCopy_6 : decode cX11_takeCopy 6 = .ok (.invokespecial 122, 3) := by decide +kernel
theorem dX11_takeCopy_9 : decode cX11_takeCopy 9 = .ok (.putfield 32, 3) := by decide +kernel
theorem dX11_takeCopy_12 : decode cX11_takeCopy 12 = .ok (.aload_n 0, 1) := by decide +kernel
theorem dX11_takeCopy_13 : decode cX11_takeCopy 13 = .ok (.getfield 32, 3) := by decide +kernel
theorem dX11_takeCopy_16 : decode cX11_takeCopy 16 = .ok (.getfield 258, 3) := by decide +kernel
theorem dX11_takeCopy_19 : decode cX11_takeCopy 19 = .ok (.ireturn, 1) := by decide +kernel
theorem dX11_writeDigits_0 : decode cX11_writeDigits 0 = .ok (.aload_n 0, 1) := by decide +kernel
theorem dX11_writeDigits_1 : decode cX11_writeDigits 1 = .ok (.invokevirtual 265, 3) := by decide +kernel
theorem dX11_writeDigits_4 : decode cX11_writeDigits 4 = .ok (.istore_n 2, 1) := by decide +kernel
theorem dX11_writeDigits_5 : decode cX11_writeDigits 5 = .ok (.iconst 0, 1) := by decide +kernel
theorem dX11_writeDigits_6 : decode cX11_writeDigits 6 = .ok (.istore_n 3, 1) := by decide +kernel
theorem dX11_writeDigits_7 : decode cX11_writeDigits 7 = .ok (.iload_n 3, 1) := by decide +kernel
theorem dX11_writeDigits_8 : decode cX11_writeDigits 8 = .ok (.iload_n 2, 1) := by decide +kernel
theorem dX11_writeDigits_9 : decode cX11_writeDigits 9 = .ok (.if_icmp .ge 23, 3) := by decide +kernel
theorem dX11_writeDigits_12 : decode cX11_writeDigits 12 = .ok (.aload_n 1, 1) := by decide +kernel
theorem dX11_writeDigits_13 : decode cX11_writeDigits 13 = .ok (.bipush 48, 2) := by decide +kernel
theorem dX11_writeDigits_15 : decode cX11_writeDigits 15 = .ok (.aload_n 0, 1) := by decide +kernel
theorem dX11_writeDigits_16 : decode cX11_writeDigits 16 = .ok (.iload_n 3, 1) := by decide +kernel
theorem dX11_writeDigits_17 : decode cX11_writeDigits 17 = .ok (.invokevirtual 271, 3) := by decide +kernel
theorem dX11_writeDigits_20 : decode cX11_writeDigits 20 = .ok (.iadd, 1) := by decide +kernel
theorem dX11_writeDigits_21 : decode cX11_writeDigits 21 = .ok (.i2c, 1) := by decide +kernel
theorem dX11_writeDigits_22 : decode cX11_writeDigits 22 = .ok (.invokevirtual 311, 3) := by decide +kernel
theorem dX11_writeDigits_25 : decode cX11_writeDigits 25 = .ok (.pop, 1) := by decide +kernel
theorem dX11_writeDigits_26 : decode cX11_writeDigits 26 = .ok (.iinc 3 1, 3) := by decide +kernel
theorem dX11_writeDigits_29 : decode cX11_writeDigits 29 = .ok (.goto (-22), 3) := by decide +kernel
theorem dX11_writeDigits_32 : decode cX11_writeDigits 32 = .ok (.return_, 1) := by decide +kernel
theorem dX11_writeFraction_0 : decode cX11_writeFraction 0 = .ok (.aload_n 0, 1) := by decide +kernel
theorem dX11_writeFraction_1 : decode cX11_writeFraction 1 = .ok (.getfield 258, 3) := by decide +kernel
theorem dX11_writeFraction_4 : decode cX11_writeFraction 4 = .ok (.ifCond .ge 10, 3) := by decide +kernel
theorem dX11_writeFraction_7 : decode cX11_writeFraction 7 = .ok (.aload_n 1, 1) := by decide +kernel
theorem dX11_writeFraction_8 : decode cX11_writeFraction 8 = .ok (.bipush 45, 2) := by decide +kernel
theorem dX11_writeFraction_10 : decode cX11_writeFraction 10 = .ok (.invokevirtual 311, 3) := by decide +kernel
theorem dX11_writeFraction_13 : decode cX11_writeFraction 13 = .ok (.pop, 1) := by decide +kernel
theorem dX11_writeFraction_14 : decode cX11_writeFraction 14 = .ok (.aload_n 0, 1) := by decide +kernel
theorem dX11_writeFraction_15 : decode cX11_writeFraction 15 = .ok (.getfield 308, 3) := by decide +kernel
theorem dX11_writeFraction_18 : decode cX11_writeFraction 18 = .ok (.aload_n 1, 1) := by decide +kernel
theorem dX11_writeFraction_19 : decode cX11_writeFraction 19 = .ok (.invokestatic 315, 3) := by decide +kernel
theorem dX11_writeFraction_22 : decode cX11_writeFraction 22 = .ok (.aload_n 0, 1) := by decide +kernel
theorem dX11_writeFraction_23 : decode cX11_writeFraction 23 = .ok (.invokevirtual 319, 3) := by decide +kernel
theorem dX11_writeFraction_26 : decode cX11_writeFraction 26 = .ok (.ifCond .ne 18, 3) := by decide +kernel
theorem dX11_writeFraction_29 : decode cX11_writeFraction 29 = .ok (.aload_n 1, 1) := by decide +kernel
theorem dX11_writeFraction_30 : decode cX11_writeFraction 30 = .ok (.bipush 47, 2) := by decide +kernel
theorem dX11_writeFraction_32 : decode cX11_writeFraction 32 = .ok (.invokevirtual 311, 3) := by decide +kernel
theorem dX11_writeFraction_35 : decode cX11_writeFraction 35 = .ok (.pop, 1) := by decide +kernel
theorem dX11_writeFraction_36 : decode cX11_writeFraction 36 = .ok (.aload_n 0, 1) := by decide +kernel
theorem dX11_writeFraction_37 : decode cX11_writeFraction 37 = .ok (.getfield 304, 3) := by decide +kernel
theorem dX11_writeFraction_40 : decode cX11_writeFraction 40 = .ok (.aload_n 1, 1) := by decide +kernel
theorem dX11_writeFraction_41 : decode cX11_writeFraction 41 = .ok (.invokestatic 315, 3) := by decide +kernel
theorem dX11_writeFraction_44 : decode cX11_writeFraction 44 = .ok (.return_, 1) := by decide +kernel
theorem dX11_writeDecimals_0 : decode cX11_writeDecimals 0 = .ok (.aload_n 0, 1) := by decide +kernel
theorem dX11_writeDecimals_1 : decode cX11_writeDecimals 1 = .ok (.getfield 32, 3) := by decide +kernel
theorem dX11_writeDecimals_4 : decode cX11_writeDecimals 4 = .ok (.getfield 258, 3) := by decide +kernel
theorem dX11_writeDecimals_7 : decode cX11_writeDecimals 7 = .ok (.ifCond .ge 13, 3) := by decide +kernel
theorem dX11_writeDecimals_10 : decode cX11_writeDecimals 10 = .ok (.aload_n 0, 1) := by decide +kernel
theorem dX11_writeDecimals_11 : decode cX11_writeDecimals 11 = .ok (.getfield 43, 3) := by decide +kernel
theorem dX11_writeDecimals_14 : decode cX11_writeDecimals 14 = .ok (.bipush 45, 2) := by decide +kernel
theorem dX11_writeDecimals_16 : decode cX11_writeDecimals 16 = .ok (.invokevirtual 311, 3) := by decide +kernel
theorem dX11_writeDecimals_19 : decode cX11_writeDecimals 19 = .ok (.pop, 1) := by decide +kernel
theorem dX11_writeDecimals_20 : decode cX11_writeDecimals 20 = .ok (.aload_n 0, 1) := by decide +kernel
theorem dX11_writeDecimals_21 : decode cX11_writeDecimals 21 = .ok (.getfield 66, 3) := by decide +kernel
theorem dX11_writeDecimals_24 : decode cX11_writeDecimals 24 = .ok (.aload_n 0, 1) := by decide +kernel
theorem dX11_writeDecimals_25 : decode cX11_writeDecimals 25 = .ok (.getfield 32, 3) := by decide +kernel
theorem dX11_writeDecimals_28 : decode cX11_writeDecimals 28 = .ok (.invokevirtual 322, 3) := by decide +kernel
theorem dX11_writeDecimals_31 : decode cX11_writeDecimals 31 = .ok (.aload_n 0, 1) := by decide +kernel
theorem dX11_writeDecimals_32 : decode cX11_writeDecimals 32 = .ok (.getfield 43, 3) := by decide +kernel
theorem dX11_writeDecimals_35 : decode cX11_writeDecimals 35 = .ok (.invokestatic 315, 3) := by decide +kernel
theorem dX11_writeDecimals_38 : decode cX11_writeDecimals 38 = .ok (.iload_n 1, 1) := by decide +kernel
theorem dX11_writeDecimals_39 : decode cX11_writeDecimals 39 = .ok (.iload_n 2, 1) := by decide +kernel
theorem dX11_writeDecimals_40 : decode cX11_writeDecimals 40 = .ok (.iadd, 1) := by decide +kernel
theorem dX11_writeDecimals_41 : decode cX11_writeDecimals 41 = .ok (.ifCond .le 13, 3) := by decide +kernel
theorem dX11_writeDecimals_44 : decode cX11_writeDecimals 44 = .ok (.aload_n 0, 1) := by decide +kernel
theorem dX11_writeDecimals_45 : decode cX11_writeDecimals 45 = .ok (.getfield 43, 3) := by decide +kernel
theorem dX11_writeDecimals_48 : decode cX11_writeDecimals 48 = .ok (.bipush 46, 2) := by decide +kernel
theorem dX11_writeDecimals_50 : decode cX11_writeDecimals 50 = .ok (.invokevirtual 311, 3) := by decide +kernel
theorem dX11_writeDecimals_53 : decode cX11_writeDecimals 53 = .ok (.pop, 1) := by decide +kernel
theorem dX11_writeDecimals_54 : decode cX11_writeDecimals 54 = .ok (.iconst 0, 1) := by decide +kernel
theorem dX11_writeDecimals_55 : decode cX11_writeDecimals 55 = .ok (.istore_n 3, 1) := by decide +kernel
theorem dX11_writeDecimals_56 : decode cX11_writeDecimals 56 = .ok (.iload_n 3, 1) := by decide +kernel
theorem dX11_writeDecimals_57 : decode cX11_writeDecimals 57 = .ok (.iload_n 1, 1) := by decide +kernel
theorem dX11_writeDecimals_58 : decode cX11_writeDecimals 58 = .ok (.iload_n 2, 1) := by decide +kernel
theorem dX11_writeDecimals_59 : decode cX11_writeDecimals 59 = .ok (.iadd, 1) := by decide +kernel
theorem dX11_writeDecimals_60 : decode cX11_writeDecimals 60 = .ok (.if_icmp .ge 48, 3) := by decide +kernel
theorem dX11_writeDecimals_63 : decode cX11_writeDecimals 63 = .ok (.iload_n 3, 1) := by decide +kernel
theorem dX11_writeDecimals_64 : decode cX11_writeDecimals 64 = .ok (.iload_n 1, 1) := by decide +kernel
theorem dX11_writeDecimals_65 : decode cX11_writeDecimals 65 = .ok (.if_icmp .ne 13, 3) := by decide +kernel
theorem dX11_writeDecimals_68 : decode cX11_writeDecimals 68 = .ok (.aload_n 0, 1) := by decide +kernel
theorem dX11_writeDecimals_69 : decode cX11_writeDecimals 69 = .ok (.getfield 43, 3) := by decide +kernel
theorem dX11_writeDecimals_72 : decode cX11_writeDecimals 72 = .ok (.bipush 91, 2) := by decide +kernel
theorem dX11_writeDecimals_74 : decode cX11_writeDecimals 74 = .ok (.invokevirtual 311, 3) := by decide +kernel
theorem dX11_writeDecimals_77 : decode cX11_writeDecimals 77 = .ok (.pop, 1) := by decide +kernel
theorem dX11_writeDecimals_78 : decode cX11_writeDecimals 78 = .ok (.aload_n 0, 1) := by decide +kernel
theorem dX11_writeDecimals_79 : decode cX11_writeDecimals 79 = .ok (.getfield 43, 3) := by decide +kernel
theorem dX11_writeDecimals_82 : decode cX11_writeDecimals 82 = .ok (.bipush 48, 2) := by decide +kernel
theorem dX11_writeDecimals_84 : decode cX11_writeDecimals 84 = .ok (.aload_n 0, 1) := by decide +kernel
theorem dX11_writeDecimals_85 : decode cX11_writeDecimals 85 = .ok (.getfield 66, 3) := by decide +kernel
theorem dX11_writeDecimals_88 : decode cX11_writeDecimals 88 = .ok (.aload_n 0, 1) := by decide +kernel
theorem dX11_writeDecimals_89 : decode cX11_writeDecimals 89 = .ok (.getfield 32, 3) := by decide +kernel
theorem dX11_writeDecimals_92 : decode cX11_writeDecimals 92 = .ok (.iconst 1, 1) := by decide +kernel
theorem dX11_writeDecimals_93 : decode cX11_writeDecimals 93 = .ok (.invokevirtual 326, 3) := by decide +kernel
theorem dX11_writeDecimals_96 : decode cX11_writeDecimals 96 = .ok (.iadd, 1) := by decide +kernel
theorem dX11_writeDecimals_97 : decode cX11_writeDecimals 97 = .ok (.i2c, 1) := by decide +kernel
theorem dX11_writeDecimals_98 : decode cX11_writeDecimals 98 = .ok (.invokevirtual 311, 3) := by decide +kernel
theorem dX11_writeDecimals_101 : decode cX11_writeDecimals 101 = .ok (.pop, 1) := by decide +kernel
theorem dX11_writeDecimals_102 : decode cX11_writeDecimals 102 = .ok (.iinc 3 1, 3) := by decide +kernel
theorem dX11_writeDecimals_105 : decode cX11_writeDecimals 105 = .ok (.goto (-49), 3) := by decide +kernel
theorem dX11_writeDecimals_108 : decode cX11_writeDecimals 108 = .ok (.iload_n 2, 1) := by decide +kernel
theorem dX11_writeDecimals_109 : decode cX11_writeDecimals 109 = .ok (.ifCond .le 13, 3) := by decide +kernel
theorem dX11_writeDecimals_112 : decode cX11_writeDecimals 112 = .ok (.aload_n 0, 1) := by decide +kernel
theorem dX11_writeDecimals_113 : decode cX11_writeDecimals 113 = .ok (.getfield 43, 3) := by decide +kernel
theorem dX11_writeDecimals_116 : decode cX11_writeDecimals 116 = .ok (.bipush 93, 2) := by decide +kernel
theorem dX11_writeDecimals_118 : decode cX11_writeDecimals 118 = .ok (.invokevirtual 311, 3) := by decide +kernel
theorem dX11_writeDecimals_121 : decode cX11_writeDecimals 121 = .ok (.pop, 1) := by decide +kernel
theorem dX11_writeDecimals_122 : decode cX11_writeDecimals 122 = .ok (.return_, 1) := by decide +kernel
theorem dX11_names_0 : decode cX11_names 0 = .ok (.aload_n 0, 1) := by decide +kernel
theorem dX11_names_1 : decode cX11_names 1 = .ok (.invokevirtual 129, 3) := by decide +kernel
theorem dX11_names_4 : decode cX11_names 4 = .ok (.getfield 150, 3) := by decide +kernel
theorem dX11_names_7 : decode cX11_names 7 = .ok (.getfield 214, 3) := by decide +kernel
theorem dX11_names_10 : decode cX11_names 10 = .ok (.arraylength, 1) := by decide +kernel
theorem dX11_names_11 : decode cX11_names 11 = .ok (.ireturn, 1) := by decide +kernel
theorem dX11_nameAt_0 : decode cX11_nameAt 0 = .ok (.aload_n 0, 1) := by decide +kernel
theorem dX11_nameAt_1 : decode cX11_nameAt 1 = .ok (.invokevirtual 129, 3) := by decide +kernel
theorem dX11_nameAt_4 : decode cX11_nameAt 4 = .ok (.getfield 150, 3) := by decide +kernel
theorem dX11_nameAt_7 : decode cX11_nameAt 7 = .ok (.getfield 214, 3) := by decide +kernel
theorem dX11_nameAt_10 : decode cX11_nameAt 10 = .ok (.astore_n 2, 1) := by decide +kernel
theorem dX11_nameAt_11 : decode cX11_nameAt 11 = .ok (.iload_n 1, 1) := by decide +kernel
theorem dX11_nameAt_12 : decode cX11_nameAt 12 = .ok (.ifCond .lt 9, 3) := by decide +kernel
theorem dX11_nameAt_15 : decode cX11_nameAt 15 = .ok (.iload_n 1, 1) := by decide +kernel
theorem dX11_nameAt_16 : decode cX11_nameAt 16 = .ok (.aload_n 2, 1) := by decide +kernel
theorem dX11_nameAt_17 : decode cX11_nameAt 17 = .ok (.arraylength, 1) := by decide +kernel
theorem dX11_nameAt_18 : decode cX11_nameAt 18 = .ok (.if_icmp .lt 11, 3) := by decide +kernel
theorem dX11_nameAt_21 : decode cX11_nameAt 21 = .ok (.new 147, 3) := by decide +kernel
theorem dX11_nameAt_24 : decode cX11_nameAt 24 = .ok (.dup, 1) := by decide +kernel
theorem dX11_nameAt_25 : decode cX11_nameAt 25 = .ok (.invokespecial 149, 3) := by decide +kernel
theorem dX11_nameAt_28 : decode cX11_nameAt 28 = .ok (.athrow, 1) := by decide +kernel
theorem dX11_nameAt_29 : decode cX11_nameAt 29 = .ok (.aload_n 2, 1) := by decide +kernel
theorem dX11_nameAt_30 : decode cX11_nameAt 30 = .ok (.iload_n 1, 1) := by decide +kernel
theorem dX11_nameAt_31 : decode cX11_nameAt 31 = .ok (.aaload, 1) := by decide +kernel
theorem dX11_nameAt_32 : decode cX11_nameAt 32 = .ok (.getfield 246, 3) := by decide +kernel
theorem dX11_nameAt_35 : decode cX11_nameAt 35 = .ok (.ireturn, 1) := by decide +kernel
theorem dX11_takeName_0 : decode cX11_takeName 0 = .ok (.aload_n 0, 1) := by decide +kernel
theorem dX11_takeName_1 : decode cX11_takeName 1 = .ok (.invokevirtual 129, 3) := by decide +kernel
theorem dX11_takeName_4 : decode cX11_takeName 4 = .ok (.getfield 150, 3) := by decide +kernel
theorem dX11_takeName_7 : decode cX11_takeName 7 = .ok (.aload_n 0, 1) := by decide +kernel
theorem dX11_takeName_8 : decode cX11_takeName 8 = .ok (.invokevirtual 129, 3) := by decide +kernel
theorem dX11_takeName_11 : decode cX11_takeName 11 = .ok (.getfield 150, 3) := by decide +kernel
theorem dX11_takeName_14 : decode cX11_takeName 14 = .ok (.iload_n 1, 1) := by decide +kernel
theorem dX11_takeName_15 : decode cX11_takeName 15 = .ok (.iconst 0, 1) := by decide +kernel
theorem dX11_takeName_16 : decode cX11_takeName 16 = .ok (.invokevirtual 171, 3) := by decide +kernel
theorem dX11_takeName_19 : decode cX11_takeName 19 = .ok (.invokevirtual 253, 3) := by decide +kernel
theorem dX11_takeName_22 : decode cX11_takeName 22 = .ok (.astore_n 2, 1) := by decide +kernel
theorem dX11_takeName_23 : decode cX11_takeName 23 = .ok (.aload_n 2, 1) := by decide +kernel
theorem dX11_takeName_24 : decode cX11_takeName 24 = .ok (.ifnull 10, 3) := by decide +kernel
theorem dX11_takeName_27 : decode cX11_takeName 27 = .ok (.aload_n 2, 1) := by decide +kernel
theorem dX11_takeName_28 : decode cX11_takeName 28 = .ok (.getfield 330, 3) := by decide +kernel
theorem dX11_takeName_31 : decode cX11_takeName 31 = .ok (.ifnonnull 11, 3) := by decide +kernel
theorem dX11_takeName_34 : decode cX11_takeName 34 = .ok (.new 333, 3) := by decide +kernel
theorem dX11_takeName_37 : decode cX11_takeName 37 = .ok (.dup, 1) := by decide +kernel
theorem dX11_takeName_38 : decode cX11_takeName 38 = .ok (.invokespecial 335, 3) := by decide +kernel
theorem dX11_takeName_41 : decode cX11_takeName 41 = .ok (.athrow, 1) := by decide +kernel
theorem dX11_takeName_42 : decode cX11_takeName 42 = .ok (.aload_n 0, 1) := by decide +kernel
theorem dX11_takeName_43 : decode cX11_takeName 43 = .ok (.aload_n 2, 1) := by decide +kernel
theorem dX11_takeName_44 : decode cX11_takeName 44 = .ok (.getfield 330, 3) := by decide +kernel
theorem dX11_takeName_47 : decode cX11_takeName 47 = .ok (.putfield 32, 3) := by decide +kernel
theorem dX11_takeName_50 : decode cX11_takeName 50 = .ok (.aload_n 0, 1) := by decide +kernel
theorem dX11_takeName_51 : decode cX11_takeName 51 = .ok (.getfield 32, 3) := by decide +kernel
theorem dX11_takeName_54 : decode cX11_takeName 54 = .ok (.getfield 258, 3) := by decide +kernel
theorem dX11_takeName_57 : decode cX11_takeName 57 = .ok (.ireturn, 1) := by decide +kernel
theorem dX11_functions_0 : decode cX11_functions 0 = .ok (.aload_n 0, 1) := by decide +kernel
theorem dX11_functions_1 : decode cX11_functions 1 = .ok (.invokevirtual 129, 3) := by decide +kernel
theorem dX11_functions_4 : decode cX11_functions 4 = .ok (.getfield 150, 3) := by decide +kernel
theorem dX11_functions_7 : decode cX11_functions 7 = .ok (.getfield 210, 3) := by decide +kernel
theorem dX11_functions_10 : decode cX11_functions 10 = .ok (.arraylength, 1) := by decide +kernel
theorem dX11_functions_11 : decode cX11_functions 11 = .ok (.ireturn, 1) := by decide +kernel
theorem dX11_parameters_0 : decode cX11_parameters 0 = .ok (.aload_n 0, 1) := by decide +kernel
theorem dX11_parameters_1 : decode cX11_parameters 1 = .ok (.invokevirtual 129, 3) := by decide +kernel
theorem dX11_parameters_4 : decode cX11_parameters 4 = .ok (.getfield 150, 3) := by decide +kernel
theorem dX11_parameters_7 : decode cX11_parameters 7 = .ok (.aload_n 0, 1) := by decide +kernel
theorem dX11_parameters_8 : decode cX11_parameters 8 = .ok (.invokevirtual 129, 3) := by decide +kernel
theorem dX11_parameters_11 : decode cX11_parameters 11 = .ok (.getfield 150, 3) := by decide +kernel
theorem dX11_parameters_14 : decode cX11_parameters 14 = .ok (.iload_n 1, 1) := by decide +kernel
theorem dX11_parameters_15 : decode cX11_parameters 15 = .ok (.iconst 1, 1) := by decide +kernel
theorem dX11_parameters_16 : decode cX11_parameters 16 = .ok (.invokevirtual 171, 3) := by decide +kernel
theorem dX11_parameters_19 : decode cX11_parameters 19 = .ok (.invokevirtual 253, 3) := by decide +kernel
theorem dX11_parameters_22 : decode cX11_parameters 22 = .ok (.astore_n 2, 1) := by decide +kernel
theorem dX11_parameters_23 : decode cX11_parameters 23 = .ok (.aload_n 2, 1) := by decide +kernel
theorem dX11_parameters_24 : decode cX11_parameters 24 = .ok (.ifnonnull 11, 3) := by decide +kernel
theorem dX11_parameters_27 : decode cX11_parameters 27 = .ok (.new 333, 3) := by decide +kernel
theorem dX11_parameters_30 : decode cX11_parameters 30 = .ok (.dup, 1) := by decide +kernel
theorem dX11_parameters_31 : decode cX11_parameters 31 = .ok (.invokespecial 335, 3) := by decide +kernel
theorem dX11_parameters_34 : decode cX11_parameters 34 = .ok (.athrow, 1) := by decide +kernel
theorem dX11_parameters_35 : decode cX11_parameters 35 = .ok (.aload_n 2, 1) := by decide +kernel
theorem dX11_parameters_36 : decode cX11_parameters 36 = .ok (.getfield 336, 3) := by decide +kernel
theorem dX11_parameters_39 : decode cX11_parameters 39 = .ok (.ireturn, 1) := by decide +kernel
theorem dX11_uses_0 : decode cX11_uses 0 = .ok (.aload_n 0, 1) := by decide +kernel
theorem dX11_uses_1 : decode cX11_uses 1 = .ok (.invokevirtual 129, 3) := by decide +kernel
theorem dX11_uses_4 : decode cX11_uses 4 = .ok (.getfield 150, 3) := by decide +kernel
theorem dX11_uses_7 : decode cX11_uses 7 = .ok (.astore 5, 2) := by decide +kernel
theorem dX11_uses_9 : decode cX11_uses 9 = .ok (.aload 5, 2) := by decide +kernel
theorem dX11_uses_11 : decode cX11_uses 11 = .ok (.iload_n 1, 1) := by decide +kernel
theorem dX11_uses_12 : decode cX11_uses 12 = .ok (.iload_n 2, 1) := by decide +kernel
theorem dX11_uses_13 : decode cX11_uses 13 = .ok (.invokevirtual 171, 3) := by decide +kernel
theorem dX11_uses_16 : decode cX11_uses 16 = .ok (.istore 6, 2) := by decide +kernel
theorem dX11_uses_18 : decode cX11_uses 18 = .ok (.aload 5, 2) := by decide +kernel
theorem dX11_uses_20 : decode cX11_uses 20 = .ok (.iload_n 3, 1) := by decide +kernel
theorem dX11_uses_21 : decode cX11_uses 21 = .ok (.iload 4, 2) := by decide +kernel
theorem dX11_uses_23 : decode cX11_uses 23 = .ok (.invokevirtual 171, 3) := by decide +kernel
theorem dX11_uses_26 : decode cX11_uses 26 = .ok (.istore 7, 2) := by decide +kernel
theorem dX11_uses_28 : decode cX11_uses 28 = .ok (.iload 6, 2) := by decide +kernel
theorem dX11_uses_30 : decode cX11_uses 30 = .ok (.iconst (-1), 1) := by decide +kernel
theorem dX11_uses_31 : decode cX11_uses 31 = .ok (.if_icmp .eq 25, 3) := by decide +kernel
theorem dX11_uses_34 : decode cX11_uses 34 = .ok (.iload 7, 2) := by decide +kernel
theorem dX11_uses_36 : decode cX11_uses 36 = .ok (.iconst (-1), 1) := by decide +kernel
theorem dX11_uses_37 : decode cX11_uses 37 = .ok (.if_icmp .eq 19, 3) := by decide +kernel
theorem dX11_uses_40 : decode cX11_uses 40 = .ok (.aload 5, 2) := by decide +kernel
theorem dX11_uses_42 : decode cX11_uses 42 = .ok (.iload 6, 2) := by decide +kernel
theorem dX11_uses_44 : decode cX11_uses 44 = .ok (.iload 7, 2) := by decide +kernel
theorem dX11_uses_46 : decode cX11_uses 46 = .ok (.invokevirtual 337, 3) := by decide +kernel
theorem dX11_uses_49 : decode cX11_uses 49 = .ok (.ifCond .eq 7, 3) := by decide +kernel
theorem dX11_uses_52 : decode cX11_uses 52 = .ok (.iconst 1, 1) := by decide +kernel
theorem dX11_uses_53 : decode cX11_uses 53 = .ok (.goto 4, 3) := by decide +kernel
theorem dX11_uses_56 : decode cX11_uses 56 = .ok (.iconst 0, 1) := by decide +kernel
theorem dX11_uses_57 : decode cX11_uses 57 = .ok (.ireturn, 1) := by decide +kernel
theorem dX11_users_0 : decode cX11_users 0 = .ok (.aload_n 0, 1) := by decide +kernel
theorem dX11_users_1 : decode cX11_users 1 = .ok (.invokevirtual 129, 3) := by decide +kernel
theorem dX11_users_4 : decode cX11_users 4 = .ok (.getfield 150, 3) := by decide +kernel
theorem dX11_users_7 : decode cX11_users 7 = .ok (.astore_n 3, 1) := by decide +kernel
theorem dX11_users_8 : decode cX11_users 8 = .ok (.aload_n 3, 1) := by decide +kernel
theorem dX11_users_9 : decode cX11_users 9 = .ok (.aload_n 3, 1) := by decide +kernel
theorem dX11_users_10 : decode cX11_users 10 = .ok (.iload_n 1, 1) := by decide +kernel
theorem dX11_users_11 : decode cX11_users 11 = .ok (.iload_n 2, 1) := by decide +kernel
theorem dX11_users_12 : decode cX11_users 12 = .ok (.invokevirtual 171, 3) := by decide +kernel
theorem dX11_users_15 : decode cX11_users 15 = .ok (.invokevirtual 247, 3) := by decide +kernel
theorem dX11_users_18 : decode cX11_users 18 = .ok (.invokestatic 340, 3) := by decide +kernel
theorem dX11_users_21 : decode cX11_users 21 = .ok (.ireturn, 1) := by decide +kernel
theorem dX11_drop_0 : decode cX11_drop 0 = .ok (.aload_n 0, 1) := by decide +kernel
theorem dX11_drop_1 : decode cX11_drop 1 = .ok (.invokevirtual 129, 3) := by decide +kernel
theorem dX11_drop_4 : decode cX11_drop 4 = .ok (.getfield 150, 3) := by decide +kernel
theorem dX11_drop_7 : decode cX11_drop 7 = .ok (.astore_n 3, 1) := by decide +kernel
theorem dX11_drop_8 : decode cX11_drop 8 = .ok (.aload_n 3, 1) := by decide +kernel
theorem dX11_drop_9 : decode cX11_drop 9 = .ok (.iload_n 1, 1) := by decide +kernel
theorem dX11_drop_10 : decode cX11_drop 10 = .ok (.iload_n 2, 1) := by decide +kernel
theorem dX11_drop_11 : decode cX11_drop 11 = .ok (.invokevirtual 171, 3) := by decide +kernel
theorem dX11_drop_14 : decode cX11_drop 14 = .ok (.istore 4, 2) := by decide +kernel
theorem dX11_drop_16 : decode cX11_drop 16 = .ok (.iload 4, 2) := by decide +kernel
theorem dX11_drop_18 : decode cX11_drop 18 = .ok (.iconst (-1), 1) := by decide +kernel
theorem dX11_drop_19 : decode cX11_drop 19 = .ok (.if_icmp .ne 11, 3) := by decide +kernel
theorem dX11_drop_22 : decode cX11_drop 22 = .ok (.new 333, 3) := by decide +kernel
theorem dX11_drop_25 : decode cX11_drop 25 = .ok (.dup, 1) := by decide +kernel
theorem dX11_drop_26 : decode cX11_drop 26 = .ok (.invokespecial 335, 3) := by decide +kernel
theorem dX11_drop_29 : decode cX11_drop 29 = .ok (.athrow, 1) := by decide +kernel
theorem dX11_drop_30 : decode cX11_drop 30 = .ok (.aload_n 3, 1) := by decide +kernel
theorem dX11_drop_31 : decode cX11_drop 31 = .ok (.iload 4, 2) := by decide +kernel
theorem dX11_drop_33 : decode cX11_drop 33 = .ok (.invokevirtual 200, 3) := by decide +kernel
theorem dX11_drop_36 : decode cX11_drop 36 = .ok (.ifCond .eq 11, 3) := by decide +kernel
theorem dX11_drop_39 : decode cX11_drop 39 = .ok (.new 92, 3) := by decide +kernel
theorem dX11_drop_42 : decode cX11_drop 42 = .ok (.dup, 1) := by decide +kernel
theorem dX11_drop_43 : decode cX11_drop 43 = .ok (.invokespecial 94, 3) := by decide +kernel
theorem dX11_drop_46 : decode cX11_drop 46 = .ok (.athrow, 1) := by decide +kernel
theorem dX11_drop_47 : decode cX11_drop 47 = .ok (.aload_n 3, 1) := by decide +kernel
theorem dX11_drop_48 : decode cX11_drop 48 = .ok (.iload 4, 2) := by decide +kernel
theorem dX11_drop_50 : decode cX11_drop 50 = .ok (.invokevirtual 345, 3) := by decide +kernel
theorem dX11_drop_53 : decode cX11_drop 53 = .ok (.astore 5, 2) := by decide +kernel
theorem dX11_drop_55 : decode cX11_drop 55 = .ok (.aload_n 0, 1) := by decide +kernel
theorem dX11_drop_56 : decode cX11_drop 56 = .ok (.new 57, 3) := by decide +kernel
theorem dX11_drop_59 : decode cX11_drop 59 = .ok (.dup, 1) := by decide +kernel
theorem dX11_drop_60 : decode cX11_drop 60 = .ok (.aload 5, 2) := by decide +kernel
theorem dX11_drop_62 : decode cX11_drop 62 = .ok (.aload_n 0, 1) := by decide +kernel
theorem dX11_drop_63 : decode cX11_drop 63 = .ok (.invokevirtual 129, 3) := by decide +kernel
theorem dX11_drop_66 : decode cX11_drop 66 = .ok (.getfield 133, 3) := by decide +kernel
theorem dX11_drop_69 : decode cX11_drop 69 = .ok (.invokespecial 137, 3) := by decide +kernel
theorem dX11_drop_72 : decode cX11_drop 72 = .ok (.invokevirtual 140, 3) := by decide +kernel
theorem dX11_drop_75 : decode cX11_drop 75 = .ok (.aload 5, 2) := by decide +kernel
theorem dX11_drop_77 : decode cX11_drop 77 = .ok (.getfield 214, 3) := by decide +kernel
theorem dX11_drop_80 : decode cX11_drop 80 = .ok (.arraylength, 1) := by decide +kernel
theorem dX11_drop_81 : decode cX11_drop 81 = .ok (.aload 5, 2) := by decide +kernel
theorem dX11_drop_83 : decode cX11_drop 83 = .ok (.getfield 210, 3) := by decide +kernel
theorem dX11_drop_86 : decode cX11_drop 86 = .ok (.arraylength, 1) := by decide +kernel
theorem dX11_drop_87 : decode cX11_drop 87 = .ok (.iadd, 1) := by decide +kernel
theorem dX11_drop_88 : decode cX11_drop 88 = .ok (.ireturn, 1) := by decide +kernel
theorem dX11_stepOf_0 : decode cX11_stepOf 0 = .ok (.iconst 0, 1) := by decide +kernel
theorem dX11_stepOf_1 : decode cX11_stepOf 1 = .ok (.istore_n 1, 1) := by decide +kernel
theorem dX11_stepOf_2 : decode cX11_stepOf 2 = .ok (.iload_n 1, 1) := by decide +kernel
theorem dX11_stepOf_3 : decode cX11_stepOf 3 = .ok (.getstatic 349, 3) := by decide +kernel
theorem dX11_stepOf_6 : decode cX11_stepOf 6 = .ok (.arraylength, 1) := by decide +kernel
theorem dX11_stepOf_7 : decode cX11_stepOf 7 = .ok (.if_icmp .ge 23, 3) := by decide +kernel
theorem dX11_stepOf_10 : decode cX11_stepOf 10 = .ok (.getstatic 349, 3) := by decide +kernel
theorem dX11_stepOf_13 : decode cX11_stepOf 13 = .ok (.iload_n 1, 1) := by decide +kernel
theorem dX11_stepOf_14 : decode cX11_stepOf 14 = .ok (.iaload, 1) := by decide +kernel
theorem dX11_stepOf_15 : decode cX11_stepOf 15 = .ok (.iload_n 0, 1) := by decide +kernel
theorem dX11_stepOf_16 : decode cX11_stepOf 16 = .ok (.if_icmp .ne 8, 3) := by decide +kernel
theorem dX11_stepOf_19 : decode cX11_stepOf 19 = .ok (.bipush 10, 2) := by decide +kernel
theorem dX11_stepOf_21 : decode cX11_stepOf 21 = .ok (.iload_n 1, 1) := by decide +kernel
theorem dX11_stepOf_22 : decode cX11_stepOf 22 = .ok (.iadd, 1) := by decide +kernel
theorem dX11_stepOf_23 : decode cX11_stepOf 23 = .ok (.ireturn, 1) := by decide +kernel
theorem dX11_stepOf_24 : decode cX11_stepOf 24 = .ok (.iinc 1 1, 3) := by decide +kernel
theorem dX11_stepOf_27 : decode cX11_stepOf 27 = .ok (.goto (-25), 3) := by decide +kernel
theorem dX11_stepOf_30 : decode cX11_stepOf 30 = .ok (.iconst 0, 1) := by decide +kernel
theorem dX11_stepOf_31 : decode cX11_stepOf 31 = .ok (.ireturn, 1) := by decide +kernel
theorem dX11_valuesOf_0 : decode cX11_valuesOf 0 = .ok (.iload_n 0, 1) := by decide +kernel
theorem dX11_valuesOf_1 : decode cX11_valuesOf 1 = .ok (.tableswitch 65 7 18 #[63, 63, 65, 65, 65, 63, 63, 63, 63, 65, 63, 63], 63) := by decide +kernel
theorem dX11_valuesOf_64 : decode cX11_valuesOf 64 = .ok (.iconst 1, 1) := by decide +kernel
theorem dX11_valuesOf_65 : decode cX11_valuesOf 65 = .ok (.ireturn, 1) := by decide +kernel
theorem dX11_valuesOf_66 : decode cX11_valuesOf 66 = .ok (.iconst 2, 1) := by decide +kernel
theorem dX11_valuesOf_67 : decode cX11_valuesOf 67 = .ok (.ireturn, 1) := by decide +kernel
theorem dX11_steps_0 : decode cX11_steps 0 = .ok (.aload_n 0, 1) := by decide +kernel
theorem dX11_steps_1 : decode cX11_steps 1 = .ok (.getfield 50, 3) := by decide +kernel
theorem dX11_steps_4 : decode cX11_steps 4 = .ok (.getfield 227, 3) := by decide +kernel
theorem dX11_steps_7 : decode cX11_steps 7 = .ok (.ireturn, 1) := by decide +kernel
theorem dX11_stepAt_0 : decode cX11_stepAt 0 = .ok (.iload_n 1, 1) := by decide +kernel
theorem dX11_stepAt_1 : decode cX11_stepAt 1 = .ok (.ifCond .lt 26, 3) := by decide +kernel
theorem dX11_stepAt_4 : decode cX11_stepAt 4 = .ok (.iload_n 1, 1) := by decide +kernel
theorem dX11_stepAt_5 : decode cX11_stepAt 5 = .ok (.aload_n 0, 1) := by decide +kernel
theorem dX11_stepAt_6 : decode cX11_stepAt 6 = .ok (.getfield 50, 3) := by decide +kernel
theorem dX11_stepAt_9 : decode cX11_stepAt 9 = .ok (.getfield 227, 3) := by decide +kernel
theorem dX11_stepAt_12 : decode cX11_stepAt 12 = .ok (.if_icmp .ge 15, 3) := by decide +kernel
theorem dX11_stepAt_15 : decode cX11_stepAt 15 = .ok (.iload_n 1, 1) := by decide +kernel
theorem dX11_stepAt_16 : decode cX11_stepAt 16 = .ok (.aload_n 0, 1) := by decide +kernel
theorem dX11_stepAt_17 : decode cX11_stepAt 17 = .ok (.getfield 50, 3) := by decide +kernel
theorem dX11_stepAt_20 : decode cX11_stepAt 20 = .ok (.getfield 352, 3) := by decide +kernel
theorem dX11_stepAt_23 : decode cX11_stepAt 23 = .ok (.arraylength, 1) := by decide +kernel
theorem dX11_stepAt_24 : decode cX11_stepAt 24 = .ok (.if_icmp .lt 11, 3) := by decide +kernel
theorem dX11_stepAt_27 : decode cX11_stepAt 27 = .ok (.new 147, 3) := by decide +kernel
theorem dX11_stepAt_30 : decode cX11_stepAt 30 = .ok (.dup, 1) := by decide +kernel
theorem dX11_stepAt_31 : decode cX11_stepAt 31 = .ok (.invokespecial 149, 3) := by decide +kernel
theorem dX11_stepAt_34 : decode cX11_stepAt 34 = .ok (.athrow, 1) := by decide +kernel
theorem dX11_stepAt_35 : decode cX11_stepAt 35 = .ok (.aload_n 0, 1) := by decide +kernel
theorem dX11_stepAt_36 : decode cX11_stepAt 36 = .ok (.getfield 50, 3) := by decide +kernel
theorem dX11_stepAt_39 : decode cX11_stepAt 39 = .ok (.getfield 352, 3) := by decide +kernel
theorem dX11_stepAt_42 : decode cX11_stepAt 42 = .ok (.iload_n 1, 1) := by decide +kernel
theorem dX11_stepAt_43 : decode cX11_stepAt 43 = .ok (.iaload, 1) := by decide +kernel
theorem dX11_stepAt_44 : decode cX11_stepAt 44 = .ok (.ireturn, 1) := by decide +kernel
theorem dX11_takeStep_0 : decode cX11_takeStep 0 = .ok (.iload_n 1, 1) := by decide +kernel
theorem dX11_takeStep_1 : decode cX11_takeStep 1 = .ok (.ifCond .lt 26, 3) := by decide +kernel
theorem dX11_takeStep_4 : decode cX11_takeStep 4 = .ok (.iload_n 1, 1) := by decide +kernel
theorem dX11_takeStep_5 : decode cX11_takeStep 5 = .ok (.aload_n 0, 1) := by decide +kernel
theorem dX11_takeStep_6 : decode cX11_takeStep 6 = .ok (.getfield 50, 3) := by decide +kernel
theorem dX11_takeStep_9 : decode cX11_takeStep 9 = .ok (.getfield 227, 3) := by decide +kernel
theorem dX11_takeStep_12 : decode cX11_takeStep 12 = .ok (.if_icmp .ge 15, 3) := by decide +kernel
theorem dX11_takeStep_15 : decode cX11_takeStep 15 = .ok (.iload_n 1, 1) := by decide +kernel
theorem dX11_takeStep_16 : decode cX11_takeStep 16 = .ok (.aload_n 0, 1) := by decide +kernel
theorem dX11_takeStep_17 : decode cX11_takeStep 17 = .ok (.getfield 50, 3) := by decide +kernel
theorem dX11_takeStep_20 : decode cX11_takeStep 20 = .ok (.getfield 355, 3) := by decide +kernel
theorem dX11_takeStep_23 : decode cX11_takeStep 23 = .ok (.arraylength, 1) := by decide +kernel
theorem dX11_takeStep_24 : decode cX11_takeStep 24 = .ok (.if_icmp .lt 11, 3) := by decide +kernel
theorem dX11_takeStep_27 : decode cX11_takeStep 27 = .ok (.new 147, 3) := by decide +kernel
theorem dX11_takeStep_30 : decode cX11_takeStep 30 = .ok (.dup, 1) := by decide +kernel
theorem dX11_takeStep_31 : decode cX11_takeStep 31 = .ok (.invokespecial 149, 3) := by decide +kernel
theorem dX11_takeStep_34 : decode cX11_takeStep 34 = .ok (.athrow, 1) := by decide +kernel
theorem dX11_takeStep_35 : decode cX11_takeStep 35 = .ok (.aload_n 0, 1) := by decide +kernel
theorem dX11_takeStep_36 : decode cX11_takeStep 36 = .ok (.aload_n 0, 1) := by decide +kernel
theorem dX11_takeStep_37 : decode cX11_takeStep 37 = .ok (.getfield 50, 3) := by decide +kernel
theorem dX11_takeStep_40 : decode cX11_takeStep 40 = .ok (.getfield 355, 3) := by decide +kernel
theorem dX11_takeStep_43 : decode cX11_takeStep 43 = .ok (.iload_n 1, 1) := by decide +kernel
theorem dX11_takeStep_44 : decode cX11_takeStep 44 = .ok (.aaload, 1) := by decide +kernel
theorem dX11_takeStep_45 : decode cX11_takeStep 45 = .ok (.invokevirtual 358, 3) := by decide +kernel
theorem dX11_takeStep_48 : decode cX11_takeStep 48 = .ok (.ireturn, 1) := by decide +kernel
theorem dX11_ends_0 : decode cX11_ends 0 = .ok (.aload_n 0, 1) := by decide +kernel
theorem dX11_ends_1 : decode cX11_ends 1 = .ok (.getfield 66, 3) := by decide +kernel
theorem dX11_ends_4 : decode cX11_ends 4 = .ok (.aload_n 0, 1) := by decide +kernel
theorem dX11_ends_5 : decode cX11_ends 5 = .ok (.getfield 32, 3) := by decide +kernel
theorem dX11_ends_8 : decode cX11_ends 8 = .ok (.invokevirtual 283, 3) := by decide +kernel
theorem dX11_ends_11 : decode cX11_ends 11 = .ok (.pop, 1) := by decide +kernel
theorem dX11_ends_12 : decode cX11_ends 12 = .ok (.aload_n 0, 1) := by decide +kernel
theorem dX11_ends_13 : decode cX11_ends 13 = .ok (.getfield 66, 3) := by decide +kernel
theorem dX11_ends_16 : decode cX11_ends 16 = .ok (.iconst 1, 1) := by decide +kernel
theorem dX11_ends_17 : decode cX11_ends 17 = .ok (.invokevirtual 287, 3) := by decide +kernel
theorem dX11_ends_20 : decode cX11_ends 20 = .ok (.ifCond .ne 7, 3) := by decide +kernel
theorem dX11_ends_23 : decode cX11_ends 23 = .ok (.iconst 1, 1) := by decide +kernel
theorem dX11_ends_24 : decode cX11_ends 24 = .ok (.goto 4, 3) := by decide +kernel
theorem dX11_ends_27 : decode cX11_ends 27 = .ok (.iconst 0, 1) := by decide +kernel
theorem dX11_ends_28 : decode cX11_ends 28 = .ok (.ireturn, 1) := by decide +kernel
theorem dX11_ahead_0 : decode cX11_ahead 0 = .ok (.aload_n 0, 1) := by decide +kernel
theorem dX11_ahead_1 : decode cX11_ahead 1 = .ok (.getfield 66, 3) := by decide +kernel
theorem dX11_ahead_4 : decode cX11_ahead 4 = .ok (.aload_n 0, 1) := by decide +kernel
theorem dX11_ahead_5 : decode cX11_ahead 5 = .ok (.getfield 32, 3) := by decide +kernel
theorem dX11_ahead_8 : decode cX11_ahead 8 = .ok (.invokevirtual 283, 3) := by decide +kernel
theorem dX11_ahead_11 : decode cX11_ahead 11 = .ok (.ireturn, 1) := by decide +kernel
theorem dX11_repeating_0 : decode cX11_repeating 0 = .ok (.aload_n 0, 1) := by decide +kernel
theorem dX11_repeating_1 : decode cX11_repeating 1 = .ok (.getfield 66, 3) := by decide +kernel
theorem dX11_repeating_4 : decode cX11_repeating 4 = .ok (.aload_n 0, 1) := by decide +kernel
theorem dX11_repeating_5 : decode cX11_repeating 5 = .ok (.getfield 32, 3) := by decide +kernel
theorem dX11_repeating_8 : decode cX11_repeating 8 = .ok (.invokevirtual 283, 3) := by decide +kernel
theorem dX11_repeating_11 : decode cX11_repeating 11 = .ok (.pop, 1) := by decide +kernel
theorem dX11_repeating_12 : decode cX11_repeating 12 = .ok (.aload_n 0, 1) := by decide +kernel
theorem dX11_repeating_13 : decode cX11_repeating 13 = .ok (.getfield 66, 3) := by decide +kernel
theorem dX11_repeating_16 : decode cX11_repeating 16 = .ok (.sipush 1000, 3) := by decide +kernel
theorem dX11_repeating_19 : decode cX11_repeating 19 = .ok (.invokevirtual 287, 3) := by decide +kernel
theorem dX11_repeating_22 : decode cX11_repeating 22 = .ok (.ireturn, 1) := by decide +kernel
theorem dX11_decimal_0 : decode cX11_decimal 0 = .ok (.iload_n 1, 1) := by decide +kernel
theorem dX11_decimal_1 : decode cX11_decimal 1 = .ok (.iconst 1, 1) := by decide +kernel
theorem dX11_decimal_2 : decode cX11_decimal 2 = .ok (.if_icmp .lt 10, 3) := by decide +kernel
theorem dX11_decimal_5 : decode cX11_decimal 5 = .ok (.iload_n 1, 1) := by decide +kernel
theorem dX11_decimal_6 : decode cX11_decimal 6 = .ok (.sipush 1000, 3) := by decide +kernel
theorem dX11_decimal_9 : decode cX11_decimal 9 = .ok (.if_icmp .le 11, 3) := by decide +kernel
theorem dX11_decimal_12 : decode cX11_decimal 12 = .ok (.new 103, 3) := by decide +kernel
theorem dX11_decimal_15 : decode cX11_decimal 15 = .ok (.dup, 1) := by decide +kernel
theorem dX11_decimal_16 : decode cX11_decimal 16 = .ok (.invokespecial 105, 3) := by decide +kernel
theorem dX11_decimal_19 : decode cX11_decimal 19 = .ok (.athrow, 1) := by decide +kernel
theorem dX11_decimal_20 : decode cX11_decimal 20 = .ok (.aload_n 0, 1) := by decide +kernel
theorem dX11_decimal_21 : decode cX11_decimal 21 = .ok (.getfield 66, 3) := by decide +kernel
theorem dX11_decimal_24 : decode cX11_decimal 24 = .ok (.aload_n 0, 1) := by decide +kernel
theorem dX11_decimal_25 : decode cX11_decimal 25 = .ok (.getfield 32, 3) := by decide +kernel
theorem dX11_decimal_28 : decode cX11_decimal 28 = .ok (.invokevirtual 322, 3) := by decide +kernel
theorem dX11_decimal_31 : decode cX11_decimal 31 = .ok (.pop, 1) := by decide +kernel
theorem dX11_decimal_32 : decode cX11_decimal 32 = .ok (.iconst 0, 1) := by decide +kernel
theorem dX11_decimal_33 : decode cX11_decimal 33 = .ok (.istore_n 2, 1) := by decide +kernel
theorem dX11_decimal_34 : decode cX11_decimal 34 = .ok (.iload_n 1, 1) := by decide +kernel
theorem dX11_decimal_35 : decode cX11_decimal 35 = .ok (.istore_n 3, 1) := by decide +kernel
theorem dX11_decimal_36 : decode cX11_decimal 36 = .ok (.iload_n 3, 1) := by decide +kernel
theorem dX11_decimal_37 : decode cX11_decimal 37 = .ok (.ifCond .le 30, 3) := by decide +kernel
theorem dX11_decimal_40 : decode cX11_decimal 40 = .ok (.aload_n 0, 1) := by decide +kernel
theorem dX11_decimal_41 : decode cX11_decimal 41 = .ok (.getfield 66, 3) := by decide +kernel
theorem dX11_decimal_44 : decode cX11_decimal 44 = .ok (.aload_n 0, 1) := by decide +kernel
theorem dX11_decimal_45 : decode cX11_decimal 45 = .ok (.getfield 32, 3) := by decide +kernel
theorem dX11_decimal_48 : decode cX11_decimal 48 = .ok (.iload_n 3, 1) := by decide +kernel
theorem dX11_decimal_49 : decode cX11_decimal 49 = .ok (.bipush 9, 2) := by decide +kernel
theorem dX11_decimal_51 : decode cX11_decimal 51 = .ok (.invokestatic 361, 3) := by decide +kernel
theorem dX11_decimal_54 : decode cX11_decimal 54 = .ok (.invokevirtual 326, 3) := by decide +kernel
theorem dX11_decimal_57 : decode cX11_decimal 57 = .ok (.bipush 10, 2) := by decide +kernel
theorem dX11_decimal_59 : decode cX11_decimal 59 = .ok (.irem, 1) := by decide +kernel
theorem dX11_decimal_60 : decode cX11_decimal 60 = .ok (.istore_n 2, 1) := by decide +kernel
theorem dX11_decimal_61 : decode cX11_decimal 61 = .ok (.iinc 3 (-9), 3) := by decide +kernel
theorem dX11_decimal_64 : decode cX11_decimal 64 = .ok (.goto (-28), 3) := by decide +kernel
theorem dX11_decimal_67 : decode cX11_decimal 67 = .ok (.iload_n 2, 1) := by decide +kernel
theorem dX11_decimal_68 : decode cX11_decimal 68 = .ok (.ireturn, 1) := by decide +kernel
theorem dX11_continued_0 : decode cX11_continued 0 = .ok (.aload_n 0, 1) := by decide +kernel
theorem dX11_continued_1 : decode cX11_continued 1 = .ok (.getfield 66, 3) := by decide +kernel
theorem dX11_continued_4 : decode cX11_continued 4 = .ok (.aload_n 0, 1) := by decide +kernel
theorem dX11_continued_5 : decode cX11_continued 5 = .ok (.getfield 32, 3) := by decide +kernel
theorem dX11_continued_8 : decode cX11_continued 8 = .ok (.iconst (-1), 1) := by decide +kernel
theorem dX11_continued_9 : decode cX11_continued 9 = .ok (.invokevirtual 366, 3) := by decide +kernel
theorem dX11_continued_12 : decode cX11_continued 12 = .ok (.ireturn, 1) := by decide +kernel
theorem dX11_takeContinued_0 : decode cX11_takeContinued 0 = .ok (.iload_n 1, 1) := by decide +kernel
theorem dX11_takeContinued_1 : decode cX11_takeContinued 1 = .ok (.ifCond .lt 19, 3) := by decide +kernel
theorem dX11_takeContinued_4 : decode cX11_takeContinued 4 = .ok (.iload_n 1, 1) := by decide +kernel
theorem dX11_takeContinued_5 : decode cX11_takeContinued 5 = .ok (.aload_n 0, 1) := by decide +kernel
theorem dX11_takeContinued_6 : decode cX11_takeContinued 6 = .ok (.getfield 66, 3) := by decide +kernel
theorem dX11_takeContinued_9 : decode cX11_takeContinued 9 = .ok (.aload_n 0, 1) := by decide +kernel
theorem dX11_takeContinued_10 : decode cX11_takeContinued 10 = .ok (.getfield 32, 3) := by decide +kernel
theorem dX11_takeContinued_13 : decode cX11_takeContinued 13 = .ok (.iload_n 1, 1) := by decide +kernel
theorem dX11_takeContinued_14 : decode cX11_takeContinued 14 = .ok (.invokevirtual 366, 3) := by decide +kernel
theorem dX11_takeContinued_17 : decode cX11_takeContinued 17 = .ok (.if_icmp .lt 11, 3) := by decide +kernel
theorem dX11_takeContinued_20 : decode cX11_takeContinued 20 = .ok (.new 147, 3) := by decide +kernel
theorem dX11_takeContinued_23 : decode cX11_takeContinued 23 = .ok (.dup, 1) := by decide +kernel
theorem dX11_takeContinued_24 : decode cX11_takeContinued 24 = .ok (.invokespecial 149, 3) := by decide +kernel
theorem dX11_takeContinued_27 : decode cX11_takeContinued 27 = .ok (.athrow, 1) := by decide +kernel
theorem dX11_takeContinued_28 : decode cX11_takeContinued 28 = .ok (.aload_n 0, 1) := by decide +kernel
theorem dX11_takeContinued_29 : decode cX11_takeContinued 29 = .ok (.aload_n 0, 1) := by decide +kernel
theorem dX11_takeContinued_30 : decode cX11_takeContinued 30 = .ok (.getfield 66, 3) := by decide +kernel
theorem dX11_takeContinued_33 : decode cX11_takeContinued 33 = .ok (.getfield 369, 3) := by decide +kernel
theorem dX11_takeContinued_36 : decode cX11_takeContinued 36 = .ok (.invokevirtual 358, 3) := by decide +kernel
theorem dX11_takeContinued_39 : decode cX11_takeContinued 39 = .ok (.ireturn, 1) := by decide +kernel
theorem dX11_takeBest_0 : decode cX11_takeBest 0 = .ok (.iload_n 1, 1) := by decide +kernel
theorem dX11_takeBest_1 : decode cX11_takeBest 1 = .ok (.iconst 1, 1) := by decide +kernel
theorem dX11_takeBest_2 : decode cX11_takeBest 2 = .ok (.if_icmp .lt 10, 3) := by decide +kernel
theorem dX11_takeBest_5 : decode cX11_takeBest 5 = .ok (.iload_n 1, 1) := by decide +kernel
theorem dX11_takeBest_6 : decode cX11_takeBest 6 = .ok (.sipush 1000, 3) := by decide +kernel
theorem dX11_takeBest_9 : decode cX11_takeBest 9 = .ok (.if_icmp .le 11, 3) := by decide +kernel
theorem dX11_takeBest_12 : decode cX11_takeBest 12 = .ok (.new 103, 3) := by decide +kernel
theorem dX11_takeBest_15 : decode cX11_takeBest 15 = .ok (.dup, 1) := by decide +kernel
theorem dX11_takeBest_16 : decode cX11_takeBest 16 = .ok (.invokespecial 105, 3) := by decide +kernel
theorem dX11_takeBest_19 : decode cX11_takeBest 19 = .ok (.athrow, 1) := by decide +kernel
theorem dX11_takeBest_20 : decode cX11_takeBest 20 = .ok (.aload_n 0, 1) := by decide +kernel
theorem dX11_takeBest_21 : decode cX11_takeBest 21 = .ok (.getfield 66, 3) := by decide +kernel
theorem dX11_takeBest_24 : decode cX11_takeBest 24 = .ok (.aload_n 0, 1) := by decide +kernel
theorem dX11_takeBest_25 : decode cX11_takeBest 25 = .ok (.getfield 32, 3) := by decide +kernel
theorem dX11_takeBest_28 : decode cX11_takeBest 28 = .ok (.iload_n 1, 1) := by decide +kernel
theorem dX11_takeBest_29 : decode cX11_takeBest 29 = .ok (.invokevirtual 372, 3) := by decide +kernel
theorem dX11_takeBest_32 : decode cX11_takeBest 32 = .ok (.istore_n 2, 1) := by decide +kernel
theorem dX11_takeBest_33 : decode cX11_takeBest 33 = .ok (.aload_n 0, 1) := by decide +kernel
theorem dX11_takeBest_34 : decode cX11_takeBest 34 = .ok (.new 29, 3) := by decide +kernel
theorem dX11_takeBest_37 : decode cX11_takeBest 37 = .ok (.dup, 1) := by decide +kernel
theorem dX11_takeBest_38 : decode cX11_takeBest 38 = .ok (.aload_n 0, 1) := by decide +kernel
theorem dX11_takeBest_39 : decode cX11_takeBest 39 = .ok (.getfield 66, 3) := by decide +kernel
theorem dX11_takeBest_42 : decode cX11_takeBest 42 = .ok (.getfield 369, 3) := by decide +kernel
theorem dX11_takeBest_45 : decode cX11_takeBest 45 = .ok (.invokespecial 122, 3) := by decide +kernel
theorem dX11_takeBest_48 : decode cX11_takeBest 48 = .ok (.putfield 32, 3) := by decide +kernel
theorem dX11_takeBest_51 : decode cX11_takeBest 51 = .ok (.iload_n 2, 1) := by decide +kernel
theorem dX11_takeBest_52 : decode cX11_takeBest 52 = .ok (.ireturn, 1) := by decide +kernel
theorem dX11_units_0 : decode cX11_units 0 = .ok (.aload_n 0, 1) := by decide +kernel
theorem dX11_units_1 : decode cX11_units 1 = .ok (.getfield 66, 3) := by decide +kernel
theorem dX11_units_4 : decode cX11_units 4 = .ok (.aload_n 0, 1) := by decide +kernel
theorem dX11_units_5 : decode cX11_units 5 = .ok (.getfield 32, 3) := by decide +kernel
theorem dX11_units_8 : decode cX11_units 8 = .ok (.iconst (-1), 1) := by decide +kernel
theorem dX11_units_9 : decode cX11_units 9 = .ok (.invokevirtual 375, 3) := by decide +kernel
theorem dX11_units_12 : decode cX11_units 12 = .ok (.ireturn, 1) := by decide +kernel
theorem dX11_takeUnit_0 : decode cX11_takeUnit 0 = .ok (.iload_n 1, 1) := by decide +kernel
theorem dX11_takeUnit_1 : decode cX11_takeUnit 1 = .ok (.ifCond .lt 19, 3) := by decide +kernel
theorem dX11_takeUnit_4 : decode cX11_takeUnit 4 = .ok (.iload_n 1, 1) := by decide +kernel
theorem dX11_takeUnit_5 : decode cX11_takeUnit 5 = .ok (.aload_n 0, 1) := by decide +kernel
theorem dX11_takeUnit_6 : decode cX11_takeUnit 6 = .ok (.getfield 66, 3) := by decide +kernel
theorem dX11_takeUnit_9 : decode cX11_takeUnit 9 = .ok (.aload_n 0, 1) := by decide +kernel
theorem dX11_takeUnit_10 : decode cX11_takeUnit 10 = .ok (.getfield 32, 3) := by decide +kernel
theorem dX11_takeUnit_13 : decode cX11_takeUnit 13 = .ok (.iload_n 1, 1) := by decide +kernel
theorem dX11_takeUnit_14 : decode cX11_takeUnit 14 = .ok (.invokevirtual 375, 3) := by decide +kernel
theorem dX11_takeUnit_17 : decode cX11_takeUnit 17 = .ok (.if_icmp .lt 11, 3) := by decide +kernel
theorem dX11_takeUnit_20 : decode cX11_takeUnit 20 = .ok (.new 147, 3) := by decide +kernel
theorem dX11_takeUnit_23 : decode cX11_takeUnit 23 = .ok (.dup, 1) := by decide +kernel
theorem dX11_takeUnit_24 : decode cX11_takeUnit 24 = .ok (.invokespecial 149, 3) := by decide +kernel
theorem dX11_takeUnit_27 : decode cX11_takeUnit 27 = .ok (.athrow, 1) := by decide +kernel
theorem dX11_takeUnit_28 : decode cX11_takeUnit 28 = .ok (.aload_n 0, 1) := by decide +kernel
theorem dX11_takeUnit_29 : decode cX11_takeUnit 29 = .ok (.new 29, 3) := by decide +kernel
theorem dX11_takeUnit_32 : decode cX11_takeUnit 32 = .ok (.dup, 1) := by decide +kernel
theorem dX11_takeUnit_33 : decode cX11_takeUnit 33 = .ok (.aload_n 0, 1) := by decide +kernel
theorem dX11_takeUnit_34 : decode cX11_takeUnit 34 = .ok (.getfield 66, 3) := by decide +kernel
theorem dX11_takeUnit_37 : decode cX11_takeUnit 37 = .ok (.getfield 369, 3) := by decide +kernel
theorem dX11_takeUnit_40 : decode cX11_takeUnit 40 = .ok (.invokespecial 122, 3) := by decide +kernel
theorem dX11_takeUnit_43 : decode cX11_takeUnit 43 = .ok (.putfield 32, 3) := by decide +kernel
theorem dX11_takeUnit_46 : decode cX11_takeUnit 46 = .ok (.aload_n 0, 1) := by decide +kernel
theorem dX11_takeUnit_47 : decode cX11_takeUnit 47 = .ok (.getfield 32, 3) := by decide +kernel
theorem dX11_takeUnit_50 : decode cX11_takeUnit 50 = .ok (.getfield 304, 3) := by decide +kernel
theorem dX11_takeUnit_53 : decode cX11_takeUnit 53 = .ok (.invokevirtual 265, 3) := by decide +kernel
theorem dX11_takeUnit_56 : decode cX11_takeUnit 56 = .ok (.ireturn, 1) := by decide +kernel
theorem dX11_put_0 : decode cX11_put 0 = .ok (.aload_n 0, 1) := by decide +kernel
theorem dX11_put_1 : decode cX11_put 1 = .ok (.iload_n 1, 1) := by decide +kernel
theorem dX11_put_2 : decode cX11_put 2 = .ok (.invokevirtual 378, 3) := by decide +kernel
theorem dX11_put_5 : decode cX11_put 5 = .ok (.ifCond .ne 11, 3) := by decide +kernel
theorem dX11_put_8 : decode cX11_put 8 = .ok (.new 103, 3) := by decide +kernel
theorem dX11_put_11 : decode cX11_put 11 = .ok (.dup, 1) := by decide +kernel
theorem dX11_put_12 : decode cX11_put 12 = .ok (.invokespecial 105, 3) := by decide +kernel
theorem dX11_put_15 : decode cX11_put 15 = .ok (.athrow, 1) := by decide +kernel
theorem dX11_put_16 : decode cX11_put 16 = .ok (.aload_n 0, 1) := by decide +kernel
theorem dX11_put_17 : decode cX11_put 17 = .ok (.invokevirtual 129, 3) := by decide +kernel
theorem dX11_put_20 : decode cX11_put 20 = .ok (.getfield 133, 3) := by decide +kernel
theorem dX11_put_23 : decode cX11_put 23 = .ok (.iload_n 1, 1) := by decide +kernel
theorem dX11_put_24 : decode cX11_put 24 = .ok (.aaload, 1) := by decide +kernel
theorem dX11_put_25 : decode cX11_put 25 = .ok (.astore_n 2, 1) := by decide +kernel
theorem dX11_put_26 : decode cX11_put 26 = .ok (.aload_n 2, 1) := by decide +kernel
theorem dX11_put_27 : decode cX11_put 27 = .ok (.getfield 381, 3) := by decide +kernel
theorem dX11_put_30 : decode cX11_put 30 = .ok (.arraylength, 1) := by decide +kernel
theorem dX11_put_31 : decode cX11_put 31 = .ok (.bipush 50, 2) := by decide +kernel
theorem dX11_put_33 : decode cX11_put 33 = .ok (.if_icmp .lt 11, 3) := by decide +kernel
theorem dX11_put_36 : decode cX11_put 36 = .ok (.new 92, 3) := by decide +kernel
theorem dX11_put_39 : decode cX11_put 39 = .ok (.dup, 1) := by decide +kernel
theorem dX11_put_40 : decode cX11_put 40 = .ok (.invokespecial 94, 3) := by decide +kernel
theorem dX11_put_43 : decode cX11_put 43 = .ok (.athrow, 1) := by decide +kernel
theorem dX11_put_44 : decode cX11_put 44 = .ok (.aload_n 2, 1) := by decide +kernel
theorem dX11_put_45 : decode cX11_put 45 = .ok (.aload_n 0, 1) := by decide +kernel
theorem dX11_put_46 : decode cX11_put 46 = .ok (.getfield 32, 3) := by decide +kernel
theorem dX11_put_49 : decode cX11_put 49 = .ok (.aload_n 0, 1) := by decide +kernel
theorem dX11_put_50 : decode cX11_put 50 = .ok (.getfield 66, 3) := by decide +kernel
theorem dX11_put_53 : decode cX11_put 53 = .ok (.aload_n 2, 1) := by decide +kernel
theorem dX11_put_54 : decode cX11_put 54 = .ok (.aload_n 0, 1) := by decide +kernel
theorem dX11_put_55 : decode cX11_put 55 = .ok (.getfield 32, 3) := by decide +kernel
theorem dX11_put_58 : decode cX11_put 58 = .ok (.invokevirtual 386, 3) := by decide +kernel
theorem dX11_put_61 : decode cX11_put 61 = .ok (.invokevirtual 390, 3) := by decide +kernel
theorem dX11_put_64 : decode cX11_put 64 = .ok (.astore_n 3, 1) := by decide +kernel
theorem dX11_put_65 : decode cX11_put 65 = .ok (.aload_n 0, 1) := by decide +kernel
theorem dX11_put_66 : decode cX11_put 66 = .ok (.aload_n 0, 1) := by decide +kernel
theorem dX11_put_67 : decode cX11_put 67 = .ok (.invokevirtual 129, 3) := by decide +kernel
theorem dX11_put_70 : decode cX11_put 70 = .ok (.iload_n 1, 1) := by decide +kernel
theorem dX11_put_71 : decode cX11_put 71 = .ok (.aload_n 3, 1) := by decide +kernel
theorem dX11_put_72 : decode cX11_put 72 = .ok (.invokevirtual 393, 3) := by decide +kernel
theorem dX11_put_75 : decode cX11_put 75 = .ok (.invokevirtual 140, 3) := by decide +kernel
theorem dX11_put_78 : decode cX11_put 78 = .ok (.aload_n 3, 1) := by decide +kernel
theorem dX11_put_79 : decode cX11_put 79 = .ok (.getfield 381, 3) := by decide +kernel
theorem dX11_put_82 : decode cX11_put 82 = .ok (.arraylength, 1) := by decide +kernel
theorem dX11_put_83 : decode cX11_put 83 = .ok (.ireturn, 1) := by decide +kernel
theorem dX11_out_0 : decode cX11_out 0 = .ok (.aload_n 0, 1) := by decide +kernel
theorem dX11_out_1 : decode cX11_out 1 = .ok (.iload_n 1, 1) := by decide +kernel
theorem dX11_out_2 : decode cX11_out 2 = .ok (.invokevirtual 378, 3) := by decide +kernel
theorem dX11_out_5 : decode cX11_out 5 = .ok (.ifCond .ne 11, 3) := by decide +kernel
theorem dX11_out_8 : decode cX11_out 8 = .ok (.new 103, 3) := by decide +kernel
theorem dX11_out_11 : decode cX11_out 11 = .ok (.dup, 1) := by decide +kernel
theorem dX11_out_12 : decode cX11_out 12 = .ok (.invokespecial 105, 3) := by decide +kernel
theorem dX11_out_15 : decode cX11_out 15 = .ok (.athrow, 1) := by decide +kernel
theorem dX11_out_16 : decode cX11_out 16 = .ok (.aload_n 0, 1) := by decide +kernel
theorem dX11_out_17 : decode cX11_out 17 = .ok (.invokevirtual 129, 3) := by decide +kernel
theorem dX11_out_20 : decode cX11_out 20 = .ok (.getfield 133, 3) := by decide +kernel
theorem dX11_out_23 : decode cX11_out 23 = .ok (.iload_n 1, 1) := by decide +kernel
theorem dX11_out_24 : decode cX11_out 24 = .ok (.aaload, 1) := by decide +kernel
theorem dX11_out_25 : decode cX11_out 25 = .ok (.astore_n 2, 1) := by decide +kernel
theorem dX11_out_26 : decode cX11_out 26 = .ok (.aload_n 0, 1) := by decide +kernel
theorem dX11_out_27 : decode cX11_out 27 = .ok (.getfield 66, 3) := by decide +kernel
theorem dX11_out_30 : decode cX11_out 30 = .ok (.aload_n 2, 1) := by decide +kernel
theorem dX11_out_31 : decode cX11_out 31 = .ok (.aload_n 0, 1) := by decide +kernel
theorem dX11_out_32 : decode cX11_out 32 = .ok (.getfield 32, 3) := by decide +kernel
theorem dX11_out_35 : decode cX11_out 35 = .ok (.invokevirtual 386, 3) := by decide +kernel
theorem dX11_out_38 : decode cX11_out 38 = .ok (.istore_n 3, 1) := by decide +kernel
theorem dX11_out_39 : decode cX11_out 39 = .ok (.aload_n 2, 1) := by decide +kernel
theorem dX11_out_40 : decode cX11_out 40 = .ok (.iload_n 3, 1) := by decide +kernel
theorem dX11_out_41 : decode cX11_out 41 = .ok (.aload_n 0, 1) := by decide +kernel
theorem dX11_out_42 : decode cX11_out 42 = .ok (.getfield 32, 3) := by decide +kernel
theorem dX11_out_45 : decode cX11_out 45 = .ok (.invokevirtual 397, 3) := by decide +kernel
theorem dX11_out_48 : decode cX11_out 48 = .ok (.ifCond .ne 11, 3) := by decide +kernel
theorem dX11_out_51 : decode cX11_out 51 = .ok (.new 333, 3) := by decide +kernel
theorem dX11_out_54 : decode cX11_out 54 = .ok (.dup, 1) := by decide +kernel
theorem dX11_out_55 : decode cX11_out 55 = .ok (.invokespecial 335, 3) := by decide +kernel
theorem dX11_out_58 : decode cX11_out 58 = .ok (.athrow, 1) := by decide +kernel
theorem dX11_out_59 : decode cX11_out 59 = .ok (.aload_n 2, 1) := by decide +kernel
theorem dX11_out_60 : decode cX11_out 60 = .ok (.iload_n 3, 1) := by decide +kernel
theorem dX11_out_61 : decode cX11_out 61 = .ok (.invokevirtual 401, 3) := by decide +kernel
theorem dX11_out_64 : decode cX11_out 64 = .ok (.astore 4, 2) := by decide +kernel
theorem dX11_out_66 : decode cX11_out 66 = .ok (.aload_n 0, 1) := by decide +kernel
theorem dX11_out_67 : decode cX11_out 67 = .ok (.aload_n 0, 1) := by decide +kernel
theorem dX11_out_68 : decode cX11_out 68 = .ok (.invokevirtual 129, 3) := by decide +kernel
theorem dX11_out_71 : decode cX11_out 71 = .ok (.iload_n 1, 1) := by decide +kernel
theorem dX11_out_72 : decode cX11_out 72 = .ok (.aload 4, 2) := by decide +kernel
theorem dX11_out_74 : decode cX11_out 74 = .ok (.invokevirtual 393, 3) := by decide +kernel
theorem dX11_out_77 : decode cX11_out 77 = .ok (.invokevirtual 140, 3) := by decide +kernel
theorem dX11_out_80 : decode cX11_out 80 = .ok (.aload 4, 2) := by decide +kernel
theorem dX11_out_82 : decode cX11_out 82 = .ok (.getfield 381, 3) := by decide +kernel
theorem dX11_out_85 : decode cX11_out 85 = .ok (.arraylength, 1) := by decide +kernel
theorem dX11_out_86 : decode cX11_out 86 = .ok (.ireturn, 1) := by decide +kernel
theorem dX11_empty_0 : decode cX11_empty 0 = .ok (.aload_n 0, 1) := by decide +kernel
theorem dX11_empty_1 : decode cX11_empty 1 = .ok (.iload_n 1, 1) := by decide +kernel
theorem dX11_empty_2 : decode cX11_empty 2 = .ok (.invokevirtual 378, 3) := by decide +kernel
theorem dX11_empty_5 : decode cX11_empty 5 = .ok (.ifCond .ne 11, 3) := by decide +kernel
theorem dX11_empty_8 : decode cX11_empty 8 = .ok (.new 103, 3) := by decide +kernel
theorem dX11_empty_11 : decode cX11_empty 11 = .ok (.dup, 1) := by decide +kernel
theorem dX11_empty_12 : decode cX11_empty 12 = .ok (.invokespecial 105, 3) := by decide +kernel
theorem dX11_empty_15 : decode cX11_empty 15 = .ok (.athrow, 1) := by decide +kernel
theorem dX11_empty_16 : decode cX11_empty 16 = .ok (.aload_n 0, 1) := by decide +kernel
theorem dX11_empty_17 : decode cX11_empty 17 = .ok (.invokevirtual 129, 3) := by decide +kernel
theorem dX11_empty_20 : decode cX11_empty 20 = .ok (.getfield 133, 3) := by decide +kernel
theorem dX11_empty_23 : decode cX11_empty 23 = .ok (.iload_n 1, 1) := by decide +kernel
theorem dX11_empty_24 : decode cX11_empty 24 = .ok (.aaload, 1) := by decide +kernel
theorem dX11_empty_25 : decode cX11_empty 25 = .ok (.getfield 381, 3) := by decide +kernel
theorem dX11_empty_28 : decode cX11_empty 28 = .ok (.arraylength, 1) := by decide +kernel
theorem dX11_empty_29 : decode cX11_empty 29 = .ok (.istore_n 2, 1) := by decide +kernel
theorem dX11_empty_30 : decode cX11_empty 30 = .ok (.aload_n 0, 1) := by decide +kernel
theorem dX11_empty_31 : decode cX11_empty 31 = .ok (.aload_n 0, 1) := by decide +kernel
theorem dX11_empty_32 : decode cX11_empty 32 = .ok (.invokevirtual 129, 3) := by decide +kernel
theorem dX11_empty_35 : decode cX11_empty 35 = .ok (.iload_n 1, 1) := by decide +kernel
theorem dX11_empty_36 : decode cX11_empty 36 = .ok (.new 382, 3) := by decide +kernel
theorem dX11_empty_39 : decode cX11_empty 39 = .ok (.dup, 1) := by decide +kernel
theorem dX11_empty_40 : decode cX11_empty 40 = .ok (.iconst 0, 1) := by decide +kernel
theorem dX11_empty_41 : decode cX11_empty 41 = .ok (.invokespecial 404, 3) := by decide +kernel
theorem dX11_empty_44 : decode cX11_empty 44 = .ok (.invokevirtual 393, 3) := by decide +kernel
theorem dX11_empty_47 : decode cX11_empty 47 = .ok (.invokevirtual 140, 3) := by decide +kernel
theorem dX11_empty_50 : decode cX11_empty 50 = .ok (.iload_n 2, 1) := by decide +kernel
theorem dX11_empty_51 : decode cX11_empty 51 = .ok (.ireturn, 1) := by decide +kernel
theorem dX11_count_0 : decode cX11_count 0 = .ok (.aload_n 0, 1) := by decide +kernel
theorem dX11_count_1 : decode cX11_count 1 = .ok (.iload_n 1, 1) := by decide +kernel
theorem dX11_count_2 : decode cX11_count 2 = .ok (.invokevirtual 378, 3) := by decide +kernel
theorem dX11_count_5 : decode cX11_count 5 = .ok (.ifCond .ne 11, 3) := by decide +kernel
theorem dX11_count_8 : decode cX11_count 8 = .ok (.new 103, 3) := by decide +kernel
theorem dX11_count_11 : decode cX11_count 11 = .ok (.dup, 1) := by decide +kernel
theorem dX11_count_12 : decode cX11_count 12 = .ok (.invokespecial 105, 3) := by decide +kernel
theorem dX11_count_15 : decode cX11_count 15 = .ok (.athrow, 1) := by decide +kernel
theorem dX11_count_16 : decode cX11_count 16 = .ok (.aload_n 0, 1) := by decide +kernel
theorem dX11_count_17 : decode cX11_count 17 = .ok (.getfield 66, 3) := by decide +kernel
theorem dX11_count_20 : decode cX11_count 20 = .ok (.aload_n 0, 1) := by decide +kernel
theorem dX11_count_21 : decode cX11_count 21 = .ok (.invokevirtual 129, 3) := by decide +kernel
theorem dX11_count_24 : decode cX11_count 24 = .ok (.getfield 133, 3) := by decide +kernel
theorem dX11_count_27 : decode cX11_count 27 = .ok (.iload_n 1, 1) := by decide +kernel
theorem dX11_count_28 : decode cX11_count 28 = .ok (.aaload, 1) := by decide +kernel
theorem dX11_count_29 : decode cX11_count 29 = .ok (.aload_n 0, 1) := by decide +kernel
theorem dX11_count_30 : decode cX11_count 30 = .ok (.getfield 32, 3) := by decide +kernel
theorem dX11_count_33 : decode cX11_count 33 = .ok (.invokevirtual 386, 3) := by decide +kernel
theorem dX11_count_36 : decode cX11_count 36 = .ok (.istore_n 3, 1) := by decide +kernel
theorem dX11_count_37 : decode cX11_count 37 = .ok (.iload_n 2, 1) := by decide +kernel
theorem dX11_count_38 : decode cX11_count 38 = .ok (.ifCond .eq 23, 3) := by decide +kernel
theorem dX11_count_41 : decode cX11_count 41 = .ok (.aload_n 0, 1) := by decide +kernel
theorem dX11_count_42 : decode cX11_count 42 = .ok (.invokevirtual 129, 3) := by decide +kernel
theorem dX11_count_45 : decode cX11_count 45 = .ok (.getfield 133, 3) := by decide +kernel
theorem dX11_count_48 : decode cX11_count 48 = .ok (.iload_n 1, 1) := by decide +kernel
theorem dX11_count_49 : decode cX11_count 49 = .ok (.aaload, 1) := by decide +kernel
theorem dX11_count_50 : decode cX11_count 50 = .ok (.iload_n 3, 1) := by decide +kernel
theorem dX11_count_51 : decode cX11_count 51 = .ok (.aload_n 0, 1) := by decide +kernel
theorem dX11_count_52 : decode cX11_count 52 = .ok (.getfield 32, 3) := by decide +kernel
theorem dX11_count_55 : decode cX11_count 55 = .ok (.invokevirtual 397, 3) := by decide +kernel
theorem dX11_count_58 : decode cX11_count 58 = .ok (.goto 4, 3) := by decide +kernel
theorem dX11_count_61 : decode cX11_count 61 = .ok (.iload_n 3, 1) := by decide +kernel
theorem dX11_count_62 : decode cX11_count 62 = .ok (.ireturn, 1) := by decide +kernel
theorem dX11_takeLeast_0 : decode cX11_takeLeast 0 = .ok (.aload_n 0, 1) := by decide +kernel
theorem dX11_takeLeast_1 : decode cX11_takeLeast 1 = .ok (.iload_n 1, 1) := by decide +kernel
theorem dX11_takeLeast_2 : decode cX11_takeLeast 2 = .ok (.invokevirtual 378, 3) := by decide +kernel
theorem dX11_takeLeast_5 : decode cX11_takeLeast 5 = .ok (.ifCond .ne 11, 3) := by decide +kernel
theorem dX11_takeLeast_8 : decode cX11_takeLeast 8 = .ok (.new 103, 3) := by decide +kernel
theorem dX11_takeLeast_11 : decode cX11_takeLeast 11 = .ok (.dup, 1) := by decide +kernel
theorem dX11_takeLeast_12 : decode cX11_takeLeast 12 = .ok (.invokespecial 105, 3) := by decide +kernel
theorem dX11_takeLeast_15 : decode cX11_takeLeast 15 = .ok (.athrow, 1) := by decide +kernel
theorem dX11_takeLeast_16 : decode cX11_takeLeast 16 = .ok (.aload_n 0, 1) := by decide +kernel
theorem dX11_takeLeast_17 : decode cX11_takeLeast 17 = .ok (.invokevirtual 129, 3) := by decide +kernel
theorem dX11_takeLeast_20 : decode cX11_takeLeast 20 = .ok (.getfield 133, 3) := by decide +kernel
theorem dX11_takeLeast_23 : decode cX11_takeLeast 23 = .ok (.iload_n 1, 1) := by decide +kernel
theorem dX11_takeLeast_24 : decode cX11_takeLeast 24 = .ok (.aaload, 1) := by decide +kernel
theorem dX11_takeLeast_25 : decode cX11_takeLeast 25 = .ok (.getfield 381, 3) := by decide +kernel
theorem dX11_takeLeast_28 : decode cX11_takeLeast 28 = .ok (.astore_n 3, 1) := by decide +kernel
theorem dX11_takeLeast_29 : decode cX11_takeLeast 29 = .ok (.iload_n 2, 1) := by decide +kernel
theorem dX11_takeLeast_30 : decode cX11_takeLeast 30 = .ok (.ifCond .lt 9, 3) := by decide +kernel
theorem dX11_takeLeast_33 : decode cX11_takeLeast 33 = .ok (.iload_n 2, 1) := by decide +kernel
theorem dX11_takeLeast_34 : decode cX11_takeLeast 34 = .ok (.aload_n 3, 1) := by decide +kernel
theorem dX11_takeLeast_35 : decode cX11_takeLeast 35 = .ok (.arraylength, 1) := by decide +kernel
theorem dX11_takeLeast_36 : decode cX11_takeLeast 36 = .ok (.if_icmp .lt 11, 3) := by decide +kernel
theorem dX11_takeLeast_39 : decode cX11_takeLeast 39 = .ok (.new 147, 3) := by decide +kernel
theorem dX11_takeLeast_42 : decode cX11_takeLeast 42 = .ok (.dup, 1) := by decide +kernel
theorem dX11_takeLeast_43 : decode cX11_takeLeast 43 = .ok (.invokespecial 149, 3) := by decide +kernel
theorem dX11_takeLeast_46 : decode cX11_takeLeast 46 = .ok (.athrow, 1) := by decide +kernel
theorem dX11_takeLeast_47 : decode cX11_takeLeast 47 = .ok (.aload_n 0, 1) := by decide +kernel
theorem dX11_takeLeast_48 : decode cX11_takeLeast 48 = .ok (.aload_n 3, 1) := by decide +kernel
theorem dX11_takeLeast_49 : decode cX11_takeLeast 49 = .ok (.iload_n 2, 1) := by decide +kernel
theorem dX11_takeLeast_50 : decode cX11_takeLeast 50 = .ok (.aaload, 1) := by decide +kernel
theorem dX11_takeLeast_51 : decode cX11_takeLeast 51 = .ok (.putfield 32, 3) := by decide +kernel
theorem dX11_takeLeast_54 : decode cX11_takeLeast 54 = .ok (.aload_n 0, 1) := by decide +kernel
theorem dX11_takeLeast_55 : decode cX11_takeLeast 55 = .ok (.getfield 32, 3) := by decide +kernel
theorem dX11_takeLeast_58 : decode cX11_takeLeast 58 = .ok (.getfield 258, 3) := by decide +kernel
theorem dX11_takeLeast_61 : decode cX11_takeLeast 61 = .ok (.ireturn, 1) := by decide +kernel
theorem dX11_takeNext_0 : decode cX11_takeNext 0 = .ok (.aload_n 0, 1) := by decide +kernel
theorem dX11_takeNext_1 : decode cX11_takeNext 1 = .ok (.iload_n 1, 1) := by decide +kernel
theorem dX11_takeNext_2 : decode cX11_takeNext 2 = .ok (.invokevirtual 378, 3) := by decide +kernel
theorem dX11_takeNext_5 : decode cX11_takeNext 5 = .ok (.ifCond .ne 11, 3) := by decide +kernel
theorem dX11_takeNext_8 : decode cX11_takeNext 8 = .ok (.new 103, 3) := by decide +kernel
theorem dX11_takeNext_11 : decode cX11_takeNext 11 = .ok (.dup, 1) := by decide +kernel
theorem dX11_takeNext_12 : decode cX11_takeNext 12 = .ok (.invokespecial 105, 3) := by decide +kernel
theorem dX11_takeNext_15 : decode cX11_takeNext 15 = .ok (.athrow, 1) := by decide +kernel
theorem dX11_takeNext_16 : decode cX11_takeNext 16 = .ok (.aload_n 0, 1) := by decide +kernel
theorem dX11_takeNext_17 : decode cX11_takeNext 17 = .ok (.invokevirtual 129, 3) := by decide +kernel
theorem dX11_takeNext_20 : decode cX11_takeNext 20 = .ok (.getfield 133, 3) := by decide +kernel
theorem dX11_takeNext_23 : decode cX11_takeNext 23 = .ok (.iload_n 1, 1) := by decide +kernel
theorem dX11_takeNext_24 : decode cX11_takeNext 24 = .ok (.aaload, 1) := by decide +kernel
theorem dX11_takeNext_25 : decode cX11_takeNext 25 = .ok (.astore_n 2, 1) := by decide +kernel
theorem dX11_takeNext_26 : decode cX11_takeNext 26 = .ok (.aload_n 0, 1) := by decide +kernel
theorem dX11_takeNext_27 : decode cX11_takeNext 27 = .ok (.getfield 66, 3) := by decide +kernel
theorem dX11_takeNext_30 : decode cX11_takeNext 30 = .ok (.aload_n 2, 1) := by decide +kernel
theorem dX11_takeNext_31 : decode cX11_takeNext 31 = .ok (.aload_n 0, 1) := by decide +kernel
theorem dX11_takeNext_32 : decode cX11_takeNext 32 = .ok (.getfield 32, 3) := by decide +kernel
theorem dX11_takeNext_35 : decode cX11_takeNext 35 = .ok (.invokevirtual 386, 3) := by decide +kernel
theorem dX11_takeNext_38 : decode cX11_takeNext 38 = .ok (.istore_n 3, 1) := by decide +kernel
theorem dX11_takeNext_39 : decode cX11_takeNext 39 = .ok (.iload_n 3, 1) := by decide +kernel
theorem dX11_takeNext_40 : decode cX11_takeNext 40 = .ok (.aload_n 2, 1) := by decide +kernel
theorem dX11_takeNext_41 : decode cX11_takeNext 41 = .ok (.iload_n 3, 1) := by decide +kernel
theorem dX11_takeNext_42 : decode cX11_takeNext 42 = .ok (.aload_n 0, 1) := by decide +kernel
theorem dX11_takeNext_43 : decode cX11_takeNext 43 = .ok (.getfield 32, 3) := by decide +kernel
theorem dX11_takeNext_46 : decode cX11_takeNext 46 = .ok (.invokevirtual 397, 3) := by decide +kernel
theorem dX11_takeNext_49 : decode cX11_takeNext 49 = .ok (.iadd, 1) := by decide +kernel
theorem dX11_takeNext_50 : decode cX11_takeNext 50 = .ok (.istore 4, 2) := by decide +kernel
theorem dX11_takeNext_52 : decode cX11_takeNext 52 = .ok (.iload 4, 2) := by decide +kernel
theorem dX11_takeNext_54 : decode cX11_takeNext 54 = .ok (.aload_n 2, 1) := by decide +kernel
theorem dX11_takeNext_55 : decode cX11_takeNext 55 = .ok (.getfield 381, 3) := by decide +kernel
theorem dX11_takeNext_58 : decode cX11_takeNext 58 = .ok (.arraylength, 1) := by decide +kernel
theorem dX11_takeNext_59 : decode cX11_takeNext 59 = .ok (.if_icmp .lt 11, 3) := by decide +kernel
theorem dX11_takeNext_62 : decode cX11_takeNext 62 = .ok (.new 333, 3) := by decide +kernel
theorem dX11_takeNext_65 : decode cX11_takeNext 65 = .ok (.dup, 1) := by decide +kernel
theorem dX11_takeNext_66 : decode cX11_takeNext 66 = .ok (.invokespecial 335, 3) := by decide +kernel
theorem dX11_takeNext_69 : decode cX11_takeNext 69 = .ok (.athrow, 1) := by decide +kernel
theorem dX11_takeNext_70 : decode cX11_takeNext 70 = .ok (.aload_n 0, 1) := by decide +kernel
theorem dX11_takeNext_71 : decode cX11_takeNext 71 = .ok (.aload_n 2, 1) := by decide +kernel
theorem dX11_takeNext_72 : decode cX11_takeNext 72 = .ok (.getfield 381, 3) := by decide +kernel
theorem dX11_takeNext_75 : decode cX11_takeNext 75 = .ok (.iload 4, 2) := by decide +kernel
theorem dX11_takeNext_77 : decode cX11_takeNext 77 = .ok (.aaload, 1) := by decide +kernel
theorem dX11_takeNext_78 : decode cX11_takeNext 78 = .ok (.putfield 32, 3) := by decide +kernel
theorem dX11_takeNext_81 : decode cX11_takeNext 81 = .ok (.aload_n 2, 1) := by decide +kernel
theorem dX11_takeNext_82 : decode cX11_takeNext 82 = .ok (.iload 4, 2) := by decide +kernel
theorem dX11_takeNext_84 : decode cX11_takeNext 84 = .ok (.aload_n 0, 1) := by decide +kernel
theorem dX11_takeNext_85 : decode cX11_takeNext 85 = .ok (.getfield 32, 3) := by decide +kernel
theorem dX11_takeNext_88 : decode cX11_takeNext 88 = .ok (.invokevirtual 397, 3) := by decide +kernel
theorem dX11_takeNext_91 : decode cX11_takeNext 91 = .ok (.ireturn, 1) := by decide +kernel
theorem dX11_takeAll_0 : decode cX11_takeAll 0 = .ok (.aload_n 0, 1) := by decide +kernel
theorem dX11_takeAll_1 : decode cX11_takeAll 1 = .ok (.iload_n 1, 1) := by decide +kernel
theorem dX11_takeAll_2 : decode cX11_takeAll 2 = .ok (.invokevirtual 378, 3) := by decide +kernel
theorem dX11_takeAll_5 : decode cX11_takeAll 5 = .ok (.ifCond .eq 12, 3) := by decide +kernel
theorem dX11_takeAll_8 : decode cX11_takeAll 8 = .ok (.iload_n 2, 1) := by decide +kernel
theorem dX11_takeAll_9 : decode cX11_takeAll 9 = .ok (.ifCond .lt 8, 3) := by decide +kernel
theorem dX11_takeAll_12 : decode cX11_takeAll 12 = .ok (.iload_n 2, 1) := by decide +kernel
theorem dX11_takeAll_13 : decode cX11_takeAll 13 = .ok (.iconst 2, 1) := by decide +kernel
theorem dX11_takeAll_14 : decode cX11_takeAll 14 = .ok (.if_icmp .le 11, 3) := by decide +kernel
theorem dX11_takeAll_17 : decode cX11_takeAll 17 = .ok (.new 103, 3) := by decide +kernel
theorem dX11_takeAll_20 : decode cX11_takeAll 20 = .ok (.dup, 1) := by decide +kernel
theorem dX11_takeAll_21 : decode cX11_takeAll 21 = .ok (.invokespecial 105, 3) := by decide +kernel
theorem dX11_takeAll_24 : decode cX11_takeAll 24 = .ok (.athrow, 1) := by decide +kernel
theorem dX11_takeAll_25 : decode cX11_takeAll 25 = .ok (.aload_n 0, 1) := by decide +kernel
theorem dX11_takeAll_26 : decode cX11_takeAll 26 = .ok (.invokevirtual 129, 3) := by decide +kernel
theorem dX11_takeAll_29 : decode cX11_takeAll 29 = .ok (.getfield 133, 3) := by decide +kernel
theorem dX11_takeAll_32 : decode cX11_takeAll 32 = .ok (.iload_n 1, 1) := by decide +kernel
theorem dX11_takeAll_33 : decode cX11_takeAll 33 = .ok (.aaload, 1) := by decide +kernel
theorem dX11_takeAll_34 : decode cX11_takeAll 34 = .ok (.getfield 381, 3) := by decide +kernel
theorem dX11_takeAll_37 : decode cX11_takeAll 37 = .ok (.astore_n 3, 1) := by decide +kernel
theorem dX11_takeAll_38 : decode cX11_takeAll 38 = .ok (.iload_n 2, 1) := by decide +kernel
theorem dX11_takeAll_39 : decode cX11_takeAll 39 = .ok (.iconst 2, 1) := by decide +kernel
theorem dX11_takeAll_40 : decode cX11_takeAll 40 = .ok (.if_icmp .ne 16, 3) := by decide +kernel
theorem dX11_takeAll_43 : decode cX11_takeAll 43 = .ok (.aload_n 3, 1) := by decide +kernel
theorem dX11_takeAll_44 : decode cX11_takeAll 44 = .ok (.arraylength, 1) := by decide +kernel
theorem dX11_takeAll_45 : decode cX11_takeAll 45 = .ok (.ifCond .ne 11, 3) := by decide +kernel
theorem dX11_takeAll_48 : decode cX11_takeAll 48 = .ok (.new 333, 3) := by decide +kernel
theorem dX11_takeAll_51 : decode cX11_takeAll 51 = .ok (.dup, 1) := by decide +kernel
theorem dX11_takeAll_52 : decode cX11_takeAll 52 = .ok (.invokespecial 335, 3) := by decide +kernel
theorem dX11_takeAll_55 : decode cX11_takeAll 55 = .ok (.athrow, 1) := by decide +kernel
theorem dX11_takeAll_56 : decode cX11_takeAll 56 = .ok (.iload_n 2, 1) := by decide +kernel
theorem dX11_takeAll_57 : decode cX11_takeAll 57 = .ok (.iconst 2, 1) := by decide +kernel
theorem dX11_takeAll_58 : decode cX11_takeAll 58 = .ok (.if_icmp .ne 14, 3) := by decide +kernel
theorem dX11_takeAll_61 : decode cX11_takeAll 61 = .ok (.aload_n 0, 1) := by decide +kernel
theorem dX11_takeAll_62 : decode cX11_takeAll 62 = .ok (.getfield 66, 3) := by decide +kernel
theorem dX11_takeAll_65 : decode cX11_takeAll 65 = .ok (.aload_n 3, 1) := by decide +kernel
theorem dX11_takeAll_66 : decode cX11_takeAll 66 = .ok (.invokevirtual 406, 3) := by decide +kernel
theorem dX11_takeAll_69 : decode cX11_takeAll 69 = .ok (.goto 21, 3) := by decide +kernel
theorem dX11_takeAll_72 : decode cX11_takeAll 72 = .ok (.aload_n 0, 1) := by decide +kernel
theorem dX11_takeAll_73 : decode cX11_takeAll 73 = .ok (.getfield 66, 3) := by decide +kernel
theorem dX11_takeAll_76 : decode cX11_takeAll 76 = .ok (.aload_n 3, 1) := by decide +kernel
theorem dX11_takeAll_77 : decode cX11_takeAll 77 = .ok (.iload_n 2, 1) := by decide +kernel
theorem dX11_takeAll_78 : decode cX11_takeAll 78 = .ok (.iconst 1, 1) := by decide +kernel
theorem dX11_takeAll_79 : decode cX11_takeAll 79 = .ok (.if_icmp .ne 7, 3) := by decide +kernel
theorem dX11_takeAll_82 : decode cX11_takeAll 82 = .ok (.iconst 1, 1) := by decide +kernel
theorem dX11_takeAll_83 : decode cX11_takeAll 83 = .ok (.goto 4, 3) := by decide +kernel
theorem dX11_takeAll_86 : decode cX11_takeAll 86 = .ok (.iconst 0, 1) := by decide +kernel
theorem dX11_takeAll_87 : decode cX11_takeAll 87 = .ok (.invokevirtual 410, 3) := by decide +kernel
theorem dX11_takeAll_90 : decode cX11_takeAll 90 = .ok (.astore 4, 2) := by decide +kernel
theorem dX11_takeAll_92 : decode cX11_takeAll 92 = .ok (.aload 4, 2) := by decide +kernel
theorem dX11_takeAll_94 : decode cX11_takeAll 94 = .ok (.invokevirtual 414, 3) := by decide +kernel
theorem dX11_takeAll_97 : decode cX11_takeAll 97 = .ok (.ifCond .ne 11, 3) := by decide +kernel
theorem dX11_takeAll_100 : decode cX11_takeAll 100 = .ok (.new 113, 3) := by decide +kernel
theorem dX11_takeAll_103 : decode cX11_takeAll 103 = .ok (.dup, 1) := by decide +kernel
theorem dX11_takeAll_104 : decode cX11_takeAll 104 = .ok (.invokespecial 115, 3) := by decide +kernel
theorem dX11_takeAll_107 : decode cX11_takeAll 107 = .ok (.athrow, 1) := by decide +kernel
theorem dX11_takeAll_108 : decode cX11_takeAll 108 = .ok (.aload_n 0, 1) := by decide +kernel
theorem dX11_takeAll_109 : decode cX11_takeAll 109 = .ok (.aload 4, 2) := by decide +kernel
theorem dX11_takeAll_111 : decode cX11_takeAll 111 = .ok (.invokevirtual 358, 3) := by decide +kernel
theorem dX11_takeAll_114 : decode cX11_takeAll 114 = .ok (.ireturn, 1) := by decide +kernel
theorem dX11_isRow_0 : decode cX11_isRow 0 = .ok (.iload_n 1, 1) := by decide +kernel
theorem dX11_isRow_1 : decode cX11_isRow 1 = .ok (.ifCond .lt 19, 3) := by decide +kernel
theorem dX11_isRow_4 : decode cX11_isRow 4 = .ok (.iload_n 1, 1) := by decide +kernel
theorem dX11_isRow_5 : decode cX11_isRow 5 = .ok (.aload_n 0, 1) := by decide +kernel
theorem dX11_isRow_6 : decode cX11_isRow 6 = .ok (.invokevirtual 129, 3) := by decide +kernel
theorem dX11_isRow_9 : decode cX11_isRow 9 = .ok (.getfield 133, 3) := by decide +kernel
theorem dX11_isRow_12 : decode cX11_isRow 12 = .ok (.arraylength, 1) := by decide +kernel
theorem dX11_isRow_13 : decode cX11_isRow 13 = .ok (.if_icmp .ge 7, 3) := by decide +kernel
theorem dX11_isRow_16 : decode cX11_isRow 16 = .ok (.iconst 1, 1) := by decide +kernel
theorem dX11_isRow_17 : decode cX11_isRow 17 = .ok (.goto 4, 3) := by decide +kernel
theorem dX11_isRow_20 : decode cX11_isRow 20 = .ok (.iconst 0, 1) := by decide +kernel
theorem dX11_isRow_21 : decode cX11_isRow 21 = .ok (.ireturn, 1) := by decide +kernel
theorem dX11_undo_0 : decode cX11_undo 0 = .ok (.aload_n 0, 1) := by decide +kernel
theorem dX11_undo_1 : decode cX11_undo 1 = .ok (.getfield 417, 3) := by decide +kernel
theorem dX11_undo_4 : decode cX11_undo 4 = .ok (.iconst 1, 1) := by decide +kernel
theorem dX11_undo_5 : decode cX11_undo 5 = .ok (.if_icmp .ge 5, 3) := by decide +kernel
theorem dX11_undo_8 : decode cX11_undo 8 = .ok (.iconst (-1), 1) := by decide +kernel
theorem dX11_undo_9 : decode cX11_undo 9 = .ok (.ireturn, 1) := by decide +kernel
theorem dX11_undo_10 : decode cX11_undo 10 = .ok (.aload_n 0, 1) := by decide +kernel
theorem dX11_undo_11 : decode cX11_undo 11 = .ok (.dup, 1) := by decide +kernel
theorem dX11_undo_12 : decode cX11_undo 12 = .ok (.getfield 417, 3) := by decide +kernel
theorem dX11_undo_15 : decode cX11_undo 15 = .ok (.iconst 1, 1) := by decide +kernel
theorem dX11_undo_16 : decode cX11_undo 16 = .ok (.isub, 1) := by decide +kernel
theorem dX11_undo_17 : decode cX11_undo 17 = .ok (.putfield 417, 3) := by decide +kernel
theorem dX11_undo_20 : decode cX11_undo 20 = .ok (.aload_n 0, 1) := by decide +kernel
theorem dX11_undo_21 : decode cX11_undo 21 = .ok (.getfield 417, 3) := by decide +kernel
theorem dX11_undo_24 : decode cX11_undo 24 = .ok (.ireturn, 1) := by decide +kernel
theorem dX11_redo_0 : decode cX11_redo 0 = .ok (.aload_n 0, 1) := by decide +kernel
theorem dX11_redo_1 : decode cX11_redo 1 = .ok (.getfield 417, 3) := by decide +kernel
theorem dX11_redo_4 : decode cX11_redo 4 = .ok (.aload_n 0, 1) := by decide +kernel
theorem dX11_redo_5 : decode cX11_redo 5 = .ok (.getfield 420, 3) := by decide +kernel
theorem dX11_redo_8 : decode cX11_redo 8 = .ok (.if_icmp .lt 5, 3) := by decide +kernel
theorem dX11_redo_11 : decode cX11_redo 11 = .ok (.iconst (-1), 1) := by decide +kernel
theorem dX11_redo_12 : decode cX11_redo 12 = .ok (.ireturn, 1) := by decide +kernel
theorem dX11_redo_13 : decode cX11_redo 13 = .ok (.aload_n 0, 1) := by decide +kernel
theorem dX11_redo_14 : decode cX11_redo 14 = .ok (.dup, 1) := by decide +kernel
theorem dX11_redo_15 : decode cX11_redo 15 = .ok (.getfield 417, 3) := by decide +kernel
theorem dX11_redo_18 : decode cX11_redo 18 = .ok (.iconst 1, 1) := by decide +kernel
theorem dX11_redo_19 : decode cX11_redo 19 = .ok (.iadd, 1) := by decide +kernel
theorem dX11_redo_20 : decode cX11_redo 20 = .ok (.putfield 417, 3) := by decide +kernel
theorem dX11_redo_23 : decode cX11_redo 23 = .ok (.aload_n 0, 1) := by decide +kernel
theorem dX11_redo_24 : decode cX11_redo 24 = .ok (.getfield 420, 3) := by decide +kernel
theorem dX11_redo_27 : decode cX11_redo 27 = .ok (.aload_n 0, 1) := by decide +kernel
theorem dX11_redo_28 : decode cX11_redo 28 = .ok (.getfield 417, 3) := by decide +kernel
theorem dX11_redo_31 : decode cX11_redo 31 = .ok (.isub, 1) := by decide +kernel
theorem dX11_redo_32 : decode cX11_redo 32 = .ok (.ireturn, 1) := by decide +kernel
theorem dX11_present_0 : decode cX11_present 0 = .ok (.aload_n 0, 1) := by decide +kernel
theorem dX11_present_1 : decode cX11_present 1 = .ok (.getfield 59, 3) := by decide +kernel
theorem dX11_present_4 : decode cX11_present 4 = .ok (.aload_n 0, 1) := by decide +kernel
theorem dX11_present_5 : decode cX11_present 5 = .ok (.getfield 417, 3) := by decide +kernel
theorem dX11_present_8 : decode cX11_present 8 = .ok (.aaload, 1) := by decide +kernel
theorem dX11_present_9 : decode cX11_present 9 = .ok (.areturn, 1) := by decide +kernel
theorem dX11_change_0 : decode cX11_change 0 = .ok (.aload_n 0, 1) := by decide +kernel
theorem dX11_change_1 : decode cX11_change 1 = .ok (.getfield 417, 3) := by decide +kernel
theorem dX11_change_4 : decode cX11_change 4 = .ok (.iconst 1, 1) := by decide +kernel
theorem dX11_change_5 : decode cX11_change 5 = .ok (.iadd, 1) := by decide +kernel
theorem dX11_change_6 : decode cX11_change 6 = .ok (.aload_n 0, 1) := by decide +kernel
theorem dX11_change_7 : decode cX11_change 7 = .ok (.getfield 59, 3) := by decide +kernel
theorem dX11_change_10 : decode cX11_change 10 = .ok (.arraylength, 1) := by decide +kernel
theorem dX11_change_11 : decode cX11_change 11 = .ok (.if_icmp .lt 45, 3) := by decide +kernel
theorem dX11_change_14 : decode cX11_change 14 = .ok (.iconst 1, 1) := by decide +kernel
theorem dX11_change_15 : decode cX11_change 15 = .ok (.istore_n 2, 1) := by decide +kernel
theorem dX11_change_16 : decode cX11_change 16 = .ok (.iload_n 2, 1) := by decide +kernel
theorem dX11_change_17 : decode cX11_change 17 = .ok (.aload_n 0, 1) := by decide +kernel
theorem dX11_change_18 : decode cX11_change 18 = .ok (.getfield 59, 3) := by decide +kernel
theorem dX11_change_21 : decode cX11_change 21 = .ok (.arraylength, 1) := by decide +kernel
theorem dX11_change_22 : decode cX11_change 22 = .ok (.if_icmp .ge 23, 3) := by decide +kernel
theorem dX11_change_25 : decode cX11_change 25 = .ok (.aload_n 0, 1) := by decide +kernel
theorem dX11_change_26 : decode cX11_change 26 = .ok (.getfield 59, 3) := by decide +kernel
theorem dX11_change_29 : decode cX11_change 29 = .ok (.iload_n 2, 1) := by decide +kernel
theorem dX11_change_30 : decode cX11_change 30 = .ok (.iconst 1, 1) := by decide +kernel
theorem dX11_change_31 : decode cX11_change 31 = .ok (.isub, 1) := by decide +kernel
theorem dX11_change_32 : decode cX11_change 32 = .ok (.aload_n 0, 1) := by decide +kernel
theorem dX11_change_33 : decode cX11_change 33 = .ok (.getfield 59, 3) := by decide +kernel
theorem dX11_change_36 : decode cX11_change 36 = .ok (.iload_n 2, 1) := by decide +kernel
theorem dX11_change_37 : decode cX11_change 37 = .ok (.aaload, 1) := by decide +kernel
theorem dX11_change_38 : decode cX11_change 38 = .ok (.aastore, 1) := by decide +kernel
theorem dX11_change_39 : decode cX11_change 39 = .ok (.iinc 2 1, 3) := by decide +kernel
theorem dX11_change_42 : decode cX11_change 42 = .ok (.goto (-26), 3) := by decide +kernel
theorem dX11_change_45 : decode cX11_change 45 = .ok (.aload_n 0, 1) := by decide +kernel
theorem dX11_change_46 : decode cX11_change 46 = .ok (.aload_n 0, 1) := by decide +kernel
theorem dX11_change_47 : decode cX11_change 47 = .ok (.getfield 59, 3) := by decide +kernel
theorem dX11_change_50 : decode cX11_change 50 = .ok (.arraylength, 1) := by decide +kernel
theorem dX11_change_51 : decode cX11_change 51 = .ok (.iconst 2, 1) := by decide +kernel
theorem dX11_change_52 : decode cX11_change 52 = .ok (.isub, 1) := by decide +kernel
theorem dX11_change_53 : decode cX11_change 53 = .ok (.putfield 417, 3) := by decide +kernel
theorem dX11_change_56 : decode cX11_change 56 = .ok (.aload_n 0, 1) := by decide +kernel
theorem dX11_change_57 : decode cX11_change 57 = .ok (.dup, 1) := by decide +kernel
theorem dX11_change_58 : decode cX11_change 58 = .ok (.getfield 417, 3) := by decide +kernel
theorem dX11_change_61 : decode cX11_change 61 = .ok (.iconst 1, 1) := by decide +kernel
theorem dX11_change_62 : decode cX11_change 62 = .ok (.iadd, 1) := by decide +kernel
theorem dX11_change_63 : decode cX11_change 63 = .ok (.putfield 417, 3) := by decide +kernel
theorem dX11_change_66 : decode cX11_change 66 = .ok (.aload_n 0, 1) := by decide +kernel
theorem dX11_change_67 : decode cX11_change 67 = .ok (.aload_n 0, 1) := by decide +kernel
theorem dX11_change_68 : decode cX11_change 68 = .ok (.getfield 417, 3) := by decide +kernel
theorem dX11_change_71 : decode cX11_change 71 = .ok (.putfield 420, 3) := by decide +kernel
theorem dX11_change_74 : decode cX11_change 74 = .ok (.aload_n 0, 1) := by decide +kernel
theorem dX11_change_75 : decode cX11_change 75 = .ok (.getfield 59, 3) := by decide +kernel
theorem dX11_change_78 : decode cX11_change 78 = .ok (.aload_n 0, 1) := by decide +kernel
theorem dX11_change_79 : decode cX11_change 79 = .ok (.getfield 417, 3) := by decide +kernel
theorem dX11_change_82 : decode cX11_change 82 = .ok (.aload_n 1, 1) := by decide +kernel
theorem dX11_change_83 : decode cX11_change 83 = .ok (.aastore, 1) := by decide +kernel
theorem dX11_change_84 : decode cX11_change 84 = .ok (.return_, 1) := by decide +kernel
theorem dX11_meanDigits_0 : decode cX11_meanDigits 0 = .ok (.aload_n 0, 1) := by decide +kernel
theorem dX11_meanDigits_1 : decode cX11_meanDigits 1 = .ok (.invokevirtual 129, 3) := by decide +kernel
theorem dX11_meanDigits_4 : decode cX11_meanDigits 4 = .ok (.getfield 150, 3) := by decide +kernel
theorem dX11_meanDigits_7 : decode cX11_meanDigits 7 = .ok (.getfield 214, 3) := by decide +kernel
theorem dX11_meanDigits_10 : decode cX11_meanDigits 10 = .ok (.astore_n 1, 1) := by decide +kernel
theorem dX11_meanDigits_11 : decode cX11_meanDigits 11 = .ok (.aload_n 1, 1) := by decide +kernel
theorem dX11_meanDigits_12 : decode cX11_meanDigits 12 = .ok (.arraylength, 1) := by decide +kernel
theorem dX11_meanDigits_13 : decode cX11_meanDigits 13 = .ok (.ifCond .ne 5, 3) := by decide +kernel
theorem dX11_meanDigits_16 : decode cX11_meanDigits 16 = .ok (.dconst 0, 1) := by decide +kernel
theorem dX11_meanDigits_17 : decode cX11_meanDigits 17 = .ok (.dreturn, 1) := by decide +kernel
theorem dX11_meanDigits_18 : decode cX11_meanDigits 18 = .ok (.iconst 0, 1) := by decide +kernel
theorem dX11_meanDigits_19 : decode cX11_meanDigits 19 = .ok (.istore_n 2, 1) := by decide +kernel
theorem dX11_meanDigits_20 : decode cX11_meanDigits 20 = .ok (.iconst 0, 1) := by decide +kernel
theorem dX11_meanDigits_21 : decode cX11_meanDigits 21 = .ok (.istore_n 3, 1) := by decide +kernel
theorem dX11_meanDigits_22 : decode cX11_meanDigits 22 = .ok (.iload_n 3, 1) := by decide +kernel
theorem dX11_meanDigits_23 : decode cX11_meanDigits 23 = .ok (.aload_n 1, 1) := by decide +kernel
theorem dX11_meanDigits_24 : decode cX11_meanDigits 24 = .ok (.arraylength, 1) := by decide +kernel
theorem dX11_meanDigits_25 : decode cX11_meanDigits 25 = .ok (.if_icmp .ge 33, 3) := by decide +kernel
theorem dX11_meanDigits_28 : decode cX11_meanDigits 28 = .ok (.aload_n 1, 1) := by decide +kernel
theorem dX11_meanDigits_29 : decode cX11_meanDigits 29 = .ok (.iload_n 3, 1) := by decide +kernel
theorem dX11_meanDigits_30 : decode cX11_meanDigits 30 = .ok (.aaload, 1) := by decide +kernel
theorem dX11_meanDigits_31 : decode cX11_meanDigits 31 = .ok (.getfield 330, 3) := by decide +kernel
theorem dX11_meanDigits_34 : decode cX11_meanDigits 34 = .ok (.ifnull 18, 3) := by decide +kernel
theorem dX11_meanDigits_37 : decode cX11_meanDigits 37 = .ok (.iload_n 2, 1) := by decide +kernel
theorem dX11_meanDigits_38 : decode cX11_meanDigits 38 = .ok (.aload_n 1, 1) := by decide +kernel
theorem dX11_meanDigits_39 : decode cX11_meanDigits 39 = .ok (.iload_n 3, 1) := by decide +kernel
theorem dX11_meanDigits_40 : decode cX11_meanDigits 40 = .ok (.aaload, 1) := by decide +kernel
theorem dX11_meanDigits_41 : decode cX11_meanDigits 41 = .ok (.getfield 330, 3) := by decide +kernel
theorem dX11_meanDigits_44 : decode cX11_meanDigits 44 = .ok (.getfield 304, 3) := by decide +kernel
theorem dX11_meanDigits_47 : decode cX11_meanDigits 47 = .ok (.invokevirtual 265, 3) := by decide +kernel
theorem dX11_meanDigits_50 : decode cX11_meanDigits 50 = .ok (.iadd, 1) := by decide +kernel
theorem dX11_meanDigits_51 : decode cX11_meanDigits 51 = .ok (.istore_n 2, 1) := by decide +kernel
theorem dX11_meanDigits_52 : decode cX11_meanDigits 52 = .ok (.iinc 3 1, 3) := by decide +kernel
theorem dX11_meanDigits_55 : decode cX11_meanDigits 55 = .ok (.goto (-33), 3) := by decide +kernel
theorem dX11_meanDigits_58 : decode cX11_meanDigits 58 = .ok (.iload_n 2, 1) := by decide +kernel
theorem dX11_meanDigits_59 : decode cX11_meanDigits 59 = .ok (.i2d, 1) := by decide +kernel
theorem dX11_meanDigits_60 : decode cX11_meanDigits 60 = .ok (.aload_n 1, 1) := by decide +kernel
theorem dX11_meanDigits_61 : decode cX11_meanDigits 61 = .ok (.arraylength, 1) := by decide +kernel
theorem dX11_meanDigits_62 : decode cX11_meanDigits 62 = .ok (.i2d, 1) := by decide +kernel
theorem dX11_meanDigits_63 : decode cX11_meanDigits 63 = .ok (.ddiv, 1) := by decide +kernel
theorem dX11_meanDigits_64 : decode cX11_meanDigits 64 = .ok (.dreturn, 1) := by decide +kernel
theorem dX11_wholes_0 : decode cX11_wholes 0 = .ok (.iconst 0, 1) := by decide +kernel
theorem dX11_wholes_1 : decode cX11_wholes 1 = .ok (.istore_n 1, 1) := by decide +kernel
theorem dX11_wholes_2 : decode cX11_wholes 2 = .ok (.iconst 0, 1) := by decide +kernel
theorem dX11_wholes_3 : decode cX11_wholes 3 = .ok (.istore_n 2, 1) := by decide +kernel
theorem dX11_wholes_4 : decode cX11_wholes 4 = .ok (.iload_n 2, 1) := by decide +kernel
theorem dX11_wholes_5 : decode cX11_wholes 5 = .ok (.aload_n 0, 1) := by decide +kernel
theorem dX11_wholes_6 : decode cX11_wholes 6 = .ok (.getfield 36, 3) := by decide +kernel
theorem dX11_wholes_9 : decode cX11_wholes 9 = .ok (.arraylength, 1) := by decide +kernel
theorem dX11_wholes_10 : decode cX11_wholes 10 = .ok (.if_icmp .ge 24, 3) := by decide +kernel
theorem dX11_wholes_13 : decode cX11_wholes 13 = .ok (.aload_n 0, 1) := by decide +kernel
theorem dX11_wholes_14 : decode cX11_wholes 14 = .ok (.getfield 36, 3) := by decide +kernel
theorem dX11_wholes_17 : decode cX11_wholes 17 = .ok (.iload_n 2, 1) := by decide +kernel
theorem dX11_wholes_18 : decode cX11_wholes 18 = .ok (.aaload, 1) := by decide +kernel
theorem dX11_wholes_19 : decode cX11_wholes 19 = .ok (.invokevirtual 319, 3) := by decide +kernel
theorem dX11_wholes_22 : decode cX11_wholes 22 = .ok (.ifCond .eq 6, 3) := by decide +kernel
theorem dX11_wholes_25 : decode cX11_wholes 25 = .ok (.iinc 1 1, 3) := by decide +kernel
theorem dX11_wholes_28 : decode cX11_wholes 28 = .ok (.iinc 2 1, 3) := by decide +kernel
theorem dX11_wholes_31 : decode cX11_wholes 31 = .ok (.goto (-27), 3) := by decide +kernel
theorem dX11_wholes_34 : decode cX11_wholes 34 = .ok (.iload_n 1, 1) := by decide +kernel
theorem dX11_wholes_35 : decode cX11_wholes 35 = .ok (.i2f, 1) := by decide +kernel
theorem dX11_wholes_36 : decode cX11_wholes 36 = .ok (.ldc_w 423, 3) := by decide +kernel
theorem dX11_wholes_39 : decode cX11_wholes 39 = .ok (.fdiv, 1) := by decide +kernel
theorem dX11_wholes_40 : decode cX11_wholes 40 = .ok (.freturn, 1) := by decide +kernel
theorem dX11_errors_0 : decode cX11_errors 0 = .ok (.aload_n 0, 1) := by decide +kernel
theorem dX11_errors_1 : decode cX11_errors 1 = .ok (.invokevirtual 424, 3) := by decide +kernel
theorem dX11_errors_4 : decode cX11_errors 4 = .ok (.aload_n 0, 1) := by decide +kernel
theorem dX11_errors_5 : decode cX11_errors 5 = .ok (.invokevirtual 427, 3) := by decide +kernel
theorem dX11_errors_8 : decode cX11_errors 8 = .ok (.iadd, 1) := by decide +kernel
theorem dX11_errors_9 : decode cX11_errors 9 = .ok (.aload_n 0, 1) := by decide +kernel
theorem dX11_errors_10 : decode cX11_errors 10 = .ok (.invokevirtual 430, 3) := by decide +kernel
theorem dX11_errors_13 : decode cX11_errors 13 = .ok (.iadd, 1) := by decide +kernel
theorem dX11_errors_14 : decode cX11_errors 14 = .ok (.ireturn, 1) := by decide +kernel
theorem dX11_wrongNames_0 : decode cX11_wrongNames 0 = .ok (.aload_n 0, 1) := by decide +kernel
theorem dX11_wrongNames_1 : decode cX11_wrongNames 1 = .ok (.invokevirtual 129, 3) := by decide +kernel
theorem dX11_wrongNames_4 : decode cX11_wrongNames 4 = .ok (.getfield 150, 3) := by decide +kernel
theorem dX11_wrongNames_7 : decode cX11_wrongNames 7 = .ok (.astore_n 1, 1) := by decide +kernel
theorem dX11_wrongNames_8 : decode cX11_wrongNames 8 = .ok (.iconst 0, 1) := by decide +kernel
theorem dX11_wrongNames_9 : decode cX11_wrongNames 9 = .ok (.istore_n 2, 1) := by decide +kernel
theorem dX11_wrongNames_10 : decode cX11_wrongNames 10 = .ok (.iconst 0, 1) := by decide +kernel
theorem dX11_wrongNames_11 : decode cX11_wrongNames 11 = .ok (.istore_n 3, 1) := by decide +kernel
theorem dX11_wrongNames_12 : decode cX11_wrongNames 12 = .ok (.iload_n 3, 1) := by decide +kernel
theorem dX11_wrongNames_13 : decode cX11_wrongNames 13 = .ok (.aload_n 1, 1) := by decide +kernel
theorem dX11_wrongNames_14 : decode cX11_wrongNames 14 = .ok (.getfield 214, 3) := by decide +kernel
theorem dX11_wrongNames_17 : decode cX11_wrongNames 17 = .ok (.arraylength, 1) := by decide +kernel
theorem dX11_wrongNames_18 : decode cX11_wrongNames 18 = .ok (.if_icmp .ge 67, 3) := by decide +kernel
theorem dX11_wrongNames_21 : decode cX11_wrongNames 21 = .ok (.aload_n 1, 1) := by decide +kernel
theorem dX11_wrongNames_22 : decode cX11_wrongNames 22 = .ok (.getfield 214, 3) := by decide +kernel
theorem dX11_wrongNames_25 : decode cX11_wrongNames 25 = .ok (.iload_n 3, 1) := by decide +kernel
theorem dX11_wrongNames_26 : decode cX11_wrongNames 26 = .ok (.aaload, 1) := by decide +kernel
theorem dX11_wrongNames_27 : decode cX11_wrongNames 27 = .ok (.astore 4, 2) := by decide +kernel
theorem dX11_wrongNames_29 : decode cX11_wrongNames 29 = .ok (.aload_n 0, 1) := by decide +kernel
theorem dX11_wrongNames_30 : decode cX11_wrongNames 30 = .ok (.getfield 80, 3) := by decide +kernel
theorem dX11_wrongNames_33 : decode cX11_wrongNames 33 = .ok (.aload 4, 2) := by decide +kernel
theorem dX11_wrongNames_35 : decode cX11_wrongNames 35 = .ok (.getfield 257, 3) := by decide +kernel
theorem dX11_wrongNames_38 : decode cX11_wrongNames 38 = .ok (.aload_n 1, 1) := by decide +kernel
theorem dX11_wrongNames_39 : decode cX11_wrongNames 39 = .ok (.aconst_null, 1) := by decide +kernel
theorem dX11_wrongNames_40 : decode cX11_wrongNames 40 = .ok (.aload_n 0, 1) := by decide +kernel
theorem dX11_wrongNames_41 : decode cX11_wrongNames 41 = .ok (.getfield 66, 3) := by decide +kernel
theorem dX11_wrongNames_44 : decode cX11_wrongNames 44 = .ok (.invokevirtual 230, 3) := by decide +kernel
theorem dX11_wrongNames_47 : decode cX11_wrongNames 47 = .ok (.ifCond .ne 29, 3) := by decide +kernel
theorem dX11_wrongNames_50 : decode cX11_wrongNames 50 = .ok (.aload 4, 2) := by decide +kernel
theorem dX11_wrongNames_52 : decode cX11_wrongNames 52 = .ok (.getfield 330, 3) := by decide +kernel
theorem dX11_wrongNames_55 : decode cX11_wrongNames 55 = .ok (.ifnull 21, 3) := by decide +kernel
theorem dX11_wrongNames_58 : decode cX11_wrongNames 58 = .ok (.aload_n 0, 1) := by decide +kernel
theorem dX11_wrongNames_59 : decode cX11_wrongNames 59 = .ok (.getfield 80, 3) := by decide +kernel
theorem dX11_wrongNames_62 : decode cX11_wrongNames 62 = .ok (.getfield 119, 3) := by decide +kernel
theorem dX11_wrongNames_65 : decode cX11_wrongNames 65 = .ok (.aload 4, 2) := by decide +kernel
theorem dX11_wrongNames_67 : decode cX11_wrongNames 67 = .ok (.getfield 330, 3) := by decide +kernel
theorem dX11_wrongNames_70 : decode cX11_wrongNames 70 = .ok (.invokevirtual 433, 3) := by decide +kernel
theorem dX11_wrongNames_73 : decode cX11_wrongNames 73 = .ok (.ifCond .ne 6, 3) := by decide +kernel
theorem dX11_wrongNames_76 : decode cX11_wrongNames 76 = .ok (.iinc 2 1, 3) := by decide +kernel
theorem dX11_wrongNames_79 : decode cX11_wrongNames 79 = .ok (.iinc 3 1, 3) := by decide +kernel
theorem dX11_wrongNames_82 : decode cX11_wrongNames 82 = .ok (.goto (-70), 3) := by decide +kernel
theorem dX11_wrongNames_85 : decode cX11_wrongNames 85 = .ok (.iload_n 2, 1) := by decide +kernel
theorem dX11_wrongNames_86 : decode cX11_wrongNames 86 = .ok (.ireturn, 1) := by decide +kernel
theorem dX11_wrongPairs_0 : decode cX11_wrongPairs 0 = .ok (.iconst 0, 1) := by decide +kernel
theorem dX11_wrongPairs_1 : decode cX11_wrongPairs 1 = .ok (.istore_n 1, 1) := by decide +kernel
theorem dX11_wrongPairs_2 : decode cX11_wrongPairs 2 = .ok (.iconst 0, 1) := by decide +kernel
theorem dX11_wrongPairs_3 : decode cX11_wrongPairs 3 = .ok (.istore_n 2, 1) := by decide +kernel
theorem dX11_wrongPairs_4 : decode cX11_wrongPairs 4 = .ok (.iload_n 2, 1) := by decide +kernel
theorem dX11_wrongPairs_5 : decode cX11_wrongPairs 5 = .ok (.aload_n 0, 1) := by decide +kernel
theorem dX11_wrongPairs_6 : decode cX11_wrongPairs 6 = .ok (.getfield 36, 3) := by decide +kernel
theorem dX11_wrongPairs_9 : decode cX11_wrongPairs 9 = .ok (.arraylength, 1) := by decide +kernel
theorem dX11_wrongPairs_10 : decode cX11_wrongPairs 10 = .ok (.if_icmp .ge 53, 3) := by decide +kernel
theorem dX11_wrongPairs_13 : decode cX11_wrongPairs 13 = .ok (.iload_n 2, 1) := by decide +kernel
theorem dX11_wrongPairs_14 : decode cX11_wrongPairs 14 = .ok (.iconst 1, 1) := by decide +kernel
theorem dX11_wrongPairs_15 : decode cX11_wrongPairs 15 = .ok (.iadd, 1) := by decide +kernel
theorem dX11_wrongPairs_16 : decode cX11_wrongPairs 16 = .ok (.istore_n 3, 1) := by decide +kernel
theorem dX11_wrongPairs_17 : decode cX11_wrongPairs 17 = .ok (.iload_n 3, 1) := by decide +kernel
theorem dX11_wrongPairs_18 : decode cX11_wrongPairs 18 = .ok (.aload_n 0, 1) := by decide +kernel
theorem dX11_wrongPairs_19 : decode cX11_wrongPairs 19 = .ok (.getfield 36, 3) := by decide +kernel
theorem dX11_wrongPairs_22 : decode cX11_wrongPairs 22 = .ok (.arraylength, 1) := by decide +kernel
theorem dX11_wrongPairs_23 : decode cX11_wrongPairs 23 = .ok (.if_icmp .ge 34, 3) := by decide +kernel
theorem dX11_wrongPairs_26 : decode cX11_wrongPairs 26 = .ok (.aload_n 0, 1) := by decide +kernel
theorem dX11_wrongPairs_27 : decode cX11_wrongPairs 27 = .ok (.getfield 66, 3) := by decide +kernel
theorem dX11_wrongPairs_30 : decode cX11_wrongPairs 30 = .ok (.aload_n 0, 1) := by decide +kernel
theorem dX11_wrongPairs_31 : decode cX11_wrongPairs 31 = .ok (.getfield 36, 3) := by decide +kernel
theorem dX11_wrongPairs_34 : decode cX11_wrongPairs 34 = .ok (.iload_n 2, 1) := by decide +kernel
theorem dX11_wrongPairs_35 : decode cX11_wrongPairs 35 = .ok (.aaload, 1) := by decide +kernel
theorem dX11_wrongPairs_36 : decode cX11_wrongPairs 36 = .ok (.aload_n 0, 1) := by decide +kernel
theorem dX11_wrongPairs_37 : decode cX11_wrongPairs 37 = .ok (.getfield 36, 3) := by decide +kernel
theorem dX11_wrongPairs_40 : decode cX11_wrongPairs 40 = .ok (.iload_n 3, 1) := by decide +kernel
theorem dX11_wrongPairs_41 : decode cX11_wrongPairs 41 = .ok (.aaload, 1) := by decide +kernel
theorem dX11_wrongPairs_42 : decode cX11_wrongPairs 42 = .ok (.invokevirtual 437, 3) := by decide +kernel
theorem dX11_wrongPairs_45 : decode cX11_wrongPairs 45 = .ok (.ifCond .ne 6, 3) := by decide +kernel
theorem dX11_wrongPairs_48 : decode cX11_wrongPairs 48 = .ok (.iinc 1 1, 3) := by decide +kernel
theorem dX11_wrongPairs_51 : decode cX11_wrongPairs 51 = .ok (.iinc 3 1, 3) := by decide +kernel
theorem dX11_wrongPairs_54 : decode cX11_wrongPairs 54 = .ok (.goto (-37), 3) := by decide +kernel
theorem dX11_wrongPairs_57 : decode cX11_wrongPairs 57 = .ok (.iinc 2 1, 3) := by decide +kernel
theorem dX11_wrongPairs_60 : decode cX11_wrongPairs 60 = .ok (.goto (-56), 3) := by decide +kernel
theorem dX11_wrongPairs_63 : decode cX11_wrongPairs 63 = .ok (.iload_n 1, 1) := by decide +kernel
theorem dX11_wrongPairs_64 : decode cX11_wrongPairs 64 = .ok (.ireturn, 1) := by decide +kernel
theorem dX11_wrongTexts_0 : decode cX11_wrongTexts 0 = .ok (.new 40, 3) := by decide +kernel
theorem dX11_wrongTexts_3 : decode cX11_wrongTexts 3 = .ok (.dup, 1) := by decide +kernel
theorem dX11_wrongTexts_4 : decode cX11_wrongTexts 4 = .ok (.invokespecial 42, 3) := by decide +kernel
theorem dX11_wrongTexts_7 : decode cX11_wrongTexts 7 = .ok (.astore_n 1, 1) := by decide +kernel
theorem dX11_wrongTexts_8 : decode cX11_wrongTexts 8 = .ok (.new 29, 3) := by decide +kernel
theorem dX11_wrongTexts_11 : decode cX11_wrongTexts 11 = .ok (.dup, 1) := by decide +kernel
theorem dX11_wrongTexts_12 : decode cX11_wrongTexts 12 = .ok (.invokespecial 31, 3) := by decide +kernel
theorem dX11_wrongTexts_15 : decode cX11_wrongTexts 15 = .ok (.astore_n 2, 1) := by decide +kernel
theorem dX11_wrongTexts_16 : decode cX11_wrongTexts 16 = .ok (.iconst 0, 1) := by decide +kernel
theorem dX11_wrongTexts_17 : decode cX11_wrongTexts 17 = .ok (.istore_n 3, 1) := by decide +kernel
theorem dX11_wrongTexts_18 : decode cX11_wrongTexts 18 = .ok (.iconst 0, 1) := by decide +kernel
theorem dX11_wrongTexts_19 : decode cX11_wrongTexts 19 = .ok (.istore 4, 2) := by decide +kernel
theorem dX11_wrongTexts_21 : decode cX11_wrongTexts 21 = .ok (.iload 4, 2) := by decide +kernel
theorem dX11_wrongTexts_23 : decode cX11_wrongTexts 23 = .ok (.aload_n 0, 1) := by decide +kernel
theorem dX11_wrongTexts_24 : decode cX11_wrongTexts 24 = .ok (.getfield 36, 3) := by decide +kernel
theorem dX11_wrongTexts_27 : decode cX11_wrongTexts 27 = .ok (.arraylength, 1) := by decide +kernel
theorem dX11_wrongTexts_28 : decode cX11_wrongTexts 28 = .ok (.if_icmp .ge 48, 3) := by decide +kernel
theorem dX11_wrongTexts_31 : decode cX11_wrongTexts 31 = .ok (.aload_n 1, 1) := by decide +kernel
theorem dX11_wrongTexts_32 : decode cX11_wrongTexts 32 = .ok (.iconst 0, 1) := by decide +kernel
theorem dX11_wrongTexts_33 : decode cX11_wrongTexts 33 = .ok (.invokevirtual 274, 3) := by decide +kernel
theorem dX11_wrongTexts_36 : decode cX11_wrongTexts 36 = .ok (.aload_n 0, 1) := by decide +kernel
theorem dX11_wrongTexts_37 : decode cX11_wrongTexts 37 = .ok (.getfield 36, 3) := by decide +kernel
theorem dX11_wrongTexts_40 : decode cX11_wrongTexts 40 = .ok (.iload 4, 2) := by decide +kernel
theorem dX11_wrongTexts_42 : decode cX11_wrongTexts 42 = .ok (.aaload, 1) := by decide +kernel
theorem dX11_wrongTexts_43 : decode cX11_wrongTexts 43 = .ok (.aload_n 1, 1) := by decide +kernel
theorem dX11_wrongTexts_44 : decode cX11_wrongTexts 44 = .ok (.invokestatic 277, 3) := by decide +kernel
theorem dX11_wrongTexts_47 : decode cX11_wrongTexts 47 = .ok (.aload_n 0, 1) := by decide +kernel
theorem dX11_wrongTexts_48 : decode cX11_wrongTexts 48 = .ok (.aload_n 1, 1) := by decide +kernel
theorem dX11_wrongTexts_49 : decode cX11_wrongTexts 49 = .ok (.aload_n 2, 1) := by decide +kernel
theorem dX11_wrongTexts_50 : decode cX11_wrongTexts 50 = .ok (.invokevirtual 441, 3) := by decide +kernel
theorem dX11_wrongTexts_53 : decode cX11_wrongTexts 53 = .ok (.aload_n 2, 1) := by decide +kernel
theorem dX11_wrongTexts_54 : decode cX11_wrongTexts 54 = .ok (.aload_n 0, 1) := by decide +kernel
theorem dX11_wrongTexts_55 : decode cX11_wrongTexts 55 = .ok (.getfield 36, 3) := by decide +kernel
theorem dX11_wrongTexts_58 : decode cX11_wrongTexts 58 = .ok (.iload 4, 2) := by decide +kernel
theorem dX11_wrongTexts_60 : decode cX11_wrongTexts 60 = .ok (.aaload, 1) := by decide +kernel
theorem dX11_wrongTexts_61 : decode cX11_wrongTexts 61 = .ok (.invokevirtual 433, 3) := by decide +kernel
theorem dX11_wrongTexts_64 : decode cX11_wrongTexts 64 = .ok (.ifCond .ne 6, 3) := by decide +kernel
theorem dX11_wrongTexts_67 : decode cX11_wrongTexts 67 = .ok (.iinc 3 1, 3) := by decide +kernel
theorem dX11_wrongTexts_70 : decode cX11_wrongTexts 70 = .ok (.iinc 4 1, 3) := by decide +kernel
theorem dX11_wrongTexts_73 : decode cX11_wrongTexts 73 = .ok (.goto (-52), 3) := by decide +kernel
theorem dX11_wrongTexts_76 : decode cX11_wrongTexts 76 = .ok (.iload_n 3, 1) := by decide +kernel
theorem dX11_wrongTexts_77 : decode cX11_wrongTexts 77 = .ok (.ireturn, 1) := by decide +kernel
theorem dX11_readFraction_0 : decode cX11_readFraction 0 = .ok (.aload_n 1, 1) := by decide +kernel
theorem dX11_readFraction_1 : decode cX11_readFraction 1 = .ok (.invokevirtual 281, 3) := by decide +kernel
theorem dX11_readFraction_4 : decode cX11_readFraction 4 = .ok (.ifCond .le 17, 3) := by decide +kernel
theorem dX11_readFraction_7 : decode cX11_readFraction 7 = .ok (.aload_n 1, 1) := by decide +kernel
theorem dX11_readFraction_8 : decode cX11_readFraction 8 = .ok (.iconst 0, 1) := by decide +kernel
theorem dX11_readFraction_9 : decode cX11_readFraction 9 = .ok (.invokevirtual 293, 3) := by decide +kernel
theorem dX11_readFraction_12 : decode cX11_readFraction 12 = .ok (.bipush 45, 2) := by decide +kernel
theorem dX11_readFraction_14 : decode cX11_readFraction 14 = .ok (.if_icmp .ne 7, 3) := by decide +kernel
theorem dX11_readFraction_17 : decode cX11_readFraction 17 = .ok (.iconst 1, 1) := by decide +kernel
theorem dX11_readFraction_18 : decode cX11_readFraction 18 = .ok (.goto 4, 3) := by decide +kernel
theorem dX11_readFraction_21 : decode cX11_readFraction 21 = .ok (.iconst 0, 1) := by decide +kernel
theorem dX11_readFraction_22 : decode cX11_readFraction 22 = .ok (.istore_n 3, 1) := by decide +kernel
theorem dX11_readFraction_23 : decode cX11_readFraction 23 = .ok (.aload_n 1, 1) := by decide +kernel
theorem dX11_readFraction_24 : decode cX11_readFraction 24 = .ok (.invokevirtual 281, 3) := by decide +kernel
theorem dX11_readFraction_27 : decode cX11_readFraction 27 = .ok (.istore 4, 2) := by decide +kernel
theorem dX11_readFraction_29 : decode cX11_readFraction 29 = .ok (.aload_n 2, 1) := by decide +kernel
theorem dX11_readFraction_30 : decode cX11_readFraction 30 = .ok (.getfield 308, 3) := by decide +kernel
theorem dX11_readFraction_33 : decode cX11_readFraction 33 = .ok (.lconst 0, 1) := by decide +kernel
theorem dX11_readFraction_34 : decode cX11_readFraction 34 = .ok (.invokevirtual 445, 3) := by decide +kernel
theorem dX11_readFraction_37 : decode cX11_readFraction 37 = .ok (.aload_n 2, 1) := by decide +kernel
theorem dX11_readFraction_38 : decode cX11_readFraction 38 = .ok (.getfield 304, 3) := by decide +kernel
theorem dX11_readFraction_41 : decode cX11_readFraction 41 = .ok (.lconst 0, 1) := by decide +kernel
theorem dX11_readFraction_42 : decode cX11_readFraction 42 = .ok (.invokevirtual 445, 3) := by decide +kernel
theorem dX11_readFraction_45 : decode cX11_readFraction 45 = .ok (.iload_n 3, 1) := by decide +kernel
theorem dX11_readFraction_46 : decode cX11_readFraction 46 = .ok (.ifCond .eq 7, 3) := by decide +kernel
theorem dX11_readFraction_49 : decode cX11_readFraction 49 = .ok (.iconst 1, 1) := by decide +kernel
theorem dX11_readFraction_50 : decode cX11_readFraction 50 = .ok (.goto 4, 3) := by decide +kernel
theorem dX11_readFraction_53 : decode cX11_readFraction 53 = .ok (.iconst 0, 1) := by decide +kernel
theorem dX11_readFraction_54 : decode cX11_readFraction 54 = .ok (.istore 5, 2) := by decide +kernel
theorem dX11_readFraction_56 : decode cX11_readFraction 56 = .ok (.iload 5, 2) := by decide +kernel
theorem dX11_readFraction_58 : decode cX11_readFraction 58 = .ok (.aload_n 1, 1) := by decide +kernel
theorem dX11_readFraction_59 : decode cX11_readFraction 59 = .ok (.invokevirtual 281, 3) := by decide +kernel
theorem dX11_readFraction_62 : decode cX11_readFraction 62 = .ok (.if_icmp .ge 63, 3) := by decide +kernel
theorem dX11_readFraction_65 : decode cX11_readFraction 65 = .ok (.aload_n 1, 1) := by decide +kernel
theorem dX11_readFraction_66 : decode cX11_readFraction 66 = .ok (.iload 5, 2) := by decide +kernel
theorem dX11_readFraction_68 : decode cX11_readFraction 68 = .ok (.invokevirtual 293, 3) := by decide +kernel
theorem dX11_readFraction_71 : decode cX11_readFraction 71 = .ok (.bipush 47, 2) := by decide +kernel
theorem dX11_readFraction_73 : decode cX11_readFraction 73 = .ok (.if_icmp .ne 10, 3) := by decide +kernel
theorem dX11_readFraction_76 : decode cX11_readFraction 76 = .ok (.iload 5, 2) := by decide +kernel
theorem dX11_readFraction_78 : decode cX11_readFraction 78 = .ok (.istore 4, 2) := by decide +kernel
theorem dX11_readFraction_80 : decode cX11_readFraction 80 = .ok (.goto 39, 3) := by decide +kernel
theorem dX11_readFraction_83 : decode cX11_readFraction 83 = .ok (.iload 5, 2) := by decide +kernel
theorem dX11_readFraction_85 : decode cX11_readFraction 85 = .ok (.iload 4, 2) := by decide +kernel
theorem dX11_readFraction_87 : decode cX11_readFraction 87 = .ok (.if_icmp .ge 10, 3) := by decide +kernel
theorem dX11_readFraction_90 : decode cX11_readFraction 90 = .ok (.aload_n 2, 1) := by decide +kernel
theorem dX11_readFraction_91 : decode cX11_readFraction 91 = .ok (.getfield 308, 3) := by decide +kernel
theorem dX11_readFraction_94 : decode cX11_readFraction 94 = .ok (.goto 7, 3) := by decide +kernel
theorem dX11_readFraction_97 : decode cX11_readFraction 97 = .ok (.aload_n 2, 1) := by decide +kernel
theorem dX11_readFraction_98 : decode cX11_readFraction 98 = .ok (.getfield 304, 3) := by decide +kernel
theorem dX11_readFraction_101 : decode cX11_readFraction 101 = .ok (.astore 6, 2) := by decide +kernel
theorem dX11_readFraction_103 : decode cX11_readFraction 103 = .ok (.aload 6, 2) := by decide +kernel
theorem dX11_readFraction_105 : decode cX11_readFraction 105 = .ok (.bipush 10, 2) := by decide +kernel
theorem dX11_readFraction_107 : decode cX11_readFraction 107 = .ok (.aload_n 1, 1) := by decide +kernel
theorem dX11_readFraction_108 : decode cX11_readFraction 108 = .ok (.iload 5, 2) := by decide +kernel
theorem dX11_readFraction_110 : decode cX11_readFraction 110 = .ok (.invokevirtual 293, 3) := by decide +kernel
theorem dX11_readFraction_113 : decode cX11_readFraction 113 = .ok (.bipush 48, 2) := by decide +kernel
theorem dX11_readFraction_115 : decode cX11_readFraction 115 = .ok (.isub, 1) := by decide +kernel
theorem dX11_readFraction_116 : decode cX11_readFraction 116 = .ok (.invokevirtual 449, 3) := by decide +kernel
theorem dX11_readFraction_119 : decode cX11_readFraction 119 = .ok (.iinc 5 1, 3) := by decide +kernel
theorem dX11_readFraction_122 : decode cX11_readFraction 122 = .ok (.goto (-66), 3) := by decide +kernel
theorem dX11_readFraction_125 : decode cX11_readFraction 125 = .ok (.iload 4, 2) := by decide +kernel
theorem dX11_readFraction_127 : decode cX11_readFraction 127 = .ok (.aload_n 1, 1) := by decide +kernel
theorem dX11_readFraction_128 : decode cX11_readFraction 128 = .ok (.invokevirtual 281, 3) := by decide +kernel
theorem dX11_readFraction_131 : decode cX11_readFraction 131 = .ok (.if_icmp .ne 11, 3) := by decide +kernel
theorem dX11_readFraction_134 : decode cX11_readFraction 134 = .ok (.aload_n 2, 1) := by decide +kernel
theorem dX11_readFraction_135 : decode cX11_readFraction 135 = .ok (.getfield 304, 3) := by decide +kernel
theorem dX11_readFraction_138 : decode cX11_readFraction 138 = .ok (.lconst 1, 1) := by decide +kernel
theorem dX11_readFraction_139 : decode cX11_readFraction 139 = .ok (.invokevirtual 445, 3) := by decide +kernel
theorem dX11_readFraction_142 : decode cX11_readFraction 142 = .ok (.aload_n 2, 1) := by decide +kernel
theorem dX11_readFraction_143 : decode cX11_readFraction 143 = .ok (.iload_n 3, 1) := by decide +kernel
theorem dX11_readFraction_144 : decode cX11_readFraction 144 = .ok (.ifCond .eq 7, 3) := by decide +kernel
theorem dX11_readFraction_147 : decode cX11_readFraction 147 = .ok (.iconst (-1), 1) := by decide +kernel
theorem dX11_readFraction_148 : decode cX11_readFraction 148 = .ok (.goto 4, 3) := by decide +kernel
theorem dX11_readFraction_151 : decode cX11_readFraction 151 = .ok (.iconst 1, 1) := by decide +kernel
theorem dX11_readFraction_152 : decode cX11_readFraction 152 = .ok (.invokevirtual 452, 3) := by decide +kernel
theorem dX11_readFraction_155 : decode cX11_readFraction 155 = .ok (.aload_n 0, 1) := by decide +kernel
theorem dX11_readFraction_156 : decode cX11_readFraction 156 = .ok (.getfield 66, 3) := by decide +kernel
theorem dX11_readFraction_159 : decode cX11_readFraction 159 = .ok (.aload_n 2, 1) := by decide +kernel
theorem dX11_readFraction_160 : decode cX11_readFraction 160 = .ok (.invokevirtual 455, 3) := by decide +kernel
theorem dX11_readFraction_163 : decode cX11_readFraction 163 = .ok (.return_, 1) := by decide +kernel
theorem dX12_thrown_0 : decode cX12_thrown 0 = .ok (.aload_n 0, 1) := by decide +kernel
theorem dX12_thrown_1 : decode cX12_thrown 1 = .ok (.getfield 1, 3) := by decide +kernel
theorem dX12_thrown_4 : decode cX12_thrown 4 = .ok (.ireturn, 1) := by decide +kernel
theorem dX12_in_0 : decode cX12_in 0 = .ok (.iload_n 0, 1) := by decide +kernel
theorem dX12_in_1 : decode cX12_in 1 = .ok (.iload_n 1, 1) := by decide +kernel
theorem dX12_in_2 : decode cX12_in 2 = .ok (.if_icmp .lt 12, 3) := by decide +kernel
theorem dX12_in_5 : decode cX12_in 5 = .ok (.iload_n 0, 1) := by decide +kernel
theorem dX12_in_6 : decode cX12_in 6 = .ok (.iload_n 2, 1) := by decide +kernel
theorem dX12_in_7 : decode cX12_in 7 = .ok (.if_icmp .gt 7, 3) := by decide +kernel
theorem dX12_in_10 : decode cX12_in 10 = .ok (.iconst 1, 1) := by decide +kernel
theorem dX12_in_11 : decode cX12_in 11 = .ok (.goto 4, 3) := by decide +kernel
theorem dX12_in_14 : decode cX12_in 14 = .ok (.iconst 0, 1) := by decide +kernel
theorem dX12_in_15 : decode cX12_in 15 = .ok (.ireturn, 1) := by decide +kernel
theorem dX12_fails_0 : decode cX12_fails 0 = .ok (.iload_n 1, 1) := by decide +kernel
theorem dX12_fails_1 : decode cX12_fails 1 = .ok (.ifCond .ne 15, 3) := by decide +kernel
theorem dX12_fails_4 : decode cX12_fails 4 = .ok (.aload_n 0, 1) := by decide +kernel
theorem dX12_fails_5 : decode cX12_fails 5 = .ok (.getfield 1, 3) := by decide +kernel
theorem dX12_fails_8 : decode cX12_fails 8 = .ok (.ifCond .ne 8, 3) := by decide +kernel
theorem dX12_fails_11 : decode cX12_fails 11 = .ok (.aload_n 0, 1) := by decide +kernel
theorem dX12_fails_12 : decode cX12_fails 12 = .ok (.iload_n 2, 1) := by decide +kernel
theorem dX12_fails_13 : decode cX12_fails 13 = .ok (.putfield 1, 3) := by decide +kernel
theorem dX12_fails_16 : decode cX12_fails 16 = .ok (.aload_n 0, 1) := by decide +kernel
theorem dX12_fails_17 : decode cX12_fails 17 = .ok (.getfield 1, 3) := by decide +kernel
theorem dX12_fails_20 : decode cX12_fails 20 = .ok (.ifCond .eq 7, 3) := by decide +kernel
theorem dX12_fails_23 : decode cX12_fails 23 = .ok (.iconst 1, 1) := by decide +kernel
theorem dX12_fails_24 : decode cX12_fails 24 = .ok (.goto 4, 3) := by decide +kernel
theorem dX12_fails_27 : decode cX12_fails 27 = .ok (.iconst 0, 1) := by decide +kernel
theorem dX12_fails_28 : decode cX12_fails 28 = .ok (.ireturn, 1) := by decide +kernel
theorem dX12_init_0 : decode cX12_init 0 = .ok (.aload_n 0, 1) := by decide +kernel
theorem dX12_init_1 : decode cX12_init 1 = .ok (.invokespecial 7, 3) := by decide +kernel
theorem dX12_init_4 : decode cX12_init 4 = .ok (.aload_n 0, 1) := by decide +kernel
theorem dX12_init_5 : decode cX12_init 5 = .ok (.sipush 15000, 3) := by decide +kernel
theorem dX12_init_8 : decode cX12_init 8 = .ok (.newarray .int, 2) := by decide +kernel
theorem dX12_init_10 : decode cX12_init 10 = .ok (.putfield 13, 3) := by decide +kernel
theorem dX12_init_13 : decode cX12_init 13 = .ok (.aload_n 0, 1) := by decide +kernel
theorem dX12_init_14 : decode cX12_init 14 = .ok (.bipush 15, 2) := by decide +kernel
theorem dX12_init_16 : decode cX12_init 16 = .ok (.newarray .int, 2) := by decide +kernel
theorem dX12_init_18 : decode cX12_init 18 = .ok (.putfield 17, 3) := by decide +kernel
theorem dX12_init_21 : decode cX12_init 21 = .ok (.aload_n 0, 1) := by decide +kernel
theorem dX12_init_22 : decode cX12_init 22 = .ok (.sipush 12600, 3) := by decide +kernel
theorem dX12_init_25 : decode cX12_init 25 = .ok (.newarray .int, 2) := by decide +kernel
theorem dX12_init_27 : decode cX12_init 27 = .ok (.putfield 20, 3) := by decide +kernel
theorem dX12_init_30 : decode cX12_init 30 = .ok (.aload_n 0, 1) := by decide +kernel
theorem dX12_init_31 : decode cX12_init 31 = .ok (.ldc 23, 2) := by decide +kernel
theorem dX12_init_33 : decode cX12_init 33 = .ok (.newarray .int, 2) := by decide +kernel
theorem dX12_init_35 : decode cX12_init 35 = .ok (.putfield 24, 3) := by decide +kernel
theorem dX12_init_38 : decode cX12_init 38 = .ok (.aload_n 0, 1) := by decide +kernel
theorem dX12_init_39 : decode cX12_init 39 = .ok (.sipush 200, 3) := by decide +kernel
theorem dX12_init_42 : decode cX12_init 42 = .ok (.newarray .int, 2) := by decide +kernel
theorem dX12_init_44 : decode cX12_init 44 = .ok (.putfield 27, 3) := by decide +kernel
theorem dX12_init_47 : decode cX12_init 47 = .ok (.aload_n 0, 1) := by decide +kernel
theorem dX12_init_48 : decode cX12_init 48 = .ok (.iconst (-1), 1) := by decide +kernel
theorem dX12_init_49 : decode cX12_init 49 = .ok (.putfield 30, 3) := by decide +kernel
theorem dX12_init_52 : decode cX12_init 52 = .ok (.aload_n 0, 1) := by decide +kernel
theorem dX12_init_53 : decode cX12_init 53 = .ok (.sipush 12000, 3) := by decide +kernel
theorem dX12_init_56 : decode cX12_init 56 = .ok (.newarray .int, 2) := by decide +kernel
theorem dX12_init_58 : decode cX12_init 58 = .ok (.putfield 33, 3) := by decide +kernel
theorem dX12_init_61 : decode cX12_init 61 = .ok (.aload_n 0, 1) := by decide +kernel
theorem dX12_init_62 : decode cX12_init 62 = .ok (.sipush 12000, 3) := by decide +kernel
theorem dX12_init_65 : decode cX12_init 65 = .ok (.newarray .int, 2) := by decide +kernel
theorem dX12_init_67 : decode cX12_init 67 = .ok (.putfield 36, 3) := by decide +kernel
theorem dX12_init_70 : decode cX12_init 70 = .ok (.aload_n 0, 1) := by decide +kernel
theorem dX12_init_71 : decode cX12_init 71 = .ok (.sipush 12000, 3) := by decide +kernel
theorem dX12_init_74 : decode cX12_init 74 = .ok (.newarray .int, 2) := by decide +kernel
theorem dX12_init_76 : decode cX12_init 76 = .ok (.putfield 39, 3) := by decide +kernel
theorem dX12_init_79 : decode cX12_init 79 = .ok (.aload_n 0, 1) := by decide +kernel
theorem dX12_init_80 : decode cX12_init 80 = .ok (.sipush 12000, 3) := by decide +kernel
theorem dX12_init_83 : decode cX12_init 83 = .ok (.newarray .int, 2) := by decide +kernel
theorem dX12_init_85 : decode cX12_init 85 = .ok (.putfield 42, 3) := by decide +kernel
theorem dX12_init_88 : decode cX12_init 88 = .ok (.aload_n 0, 1) := by decide +kernel
theorem dX12_init_89 : decode cX12_init 89 = .ok (.sipush 600, 3) := by decide +kernel
theorem dX12_init_92 : decode cX12_init 92 = .ok (.newarray .int, 2) := by decide +kernel
theorem dX12_init_94 : decode cX12_init 94 = .ok (.putfield 45, 3) := by decide +kernel
theorem dX12_init_97 : decode cX12_init 97 = .ok (.aload_n 0, 1) := by decide +kernel
theorem dX12_init_98 : decode cX12_init 98 = .ok (.sipush 600, 3) := by decide +kernel
theorem dX12_init_101 : decode cX12_init 101 = .ok (.newarray .int, 2) := by decide +kernel
theorem dX12_init_103 : decode cX12_init 103 = .ok (.putfield 48, 3) := by decide +kernel
theorem dX12_init_106 : decode cX12_init 106 = .ok (.aload_n 0, 1) := by decide +kernel
theorem dX12_init_107 : decode cX12_init 107 = .ok (.sipush 600, 3) := by decide +kernel
theorem dX12_init_110 : decode cX12_init 110 = .ok (.newarray .int, 2) := by decide +kernel
theorem dX12_init_112 : decode cX12_init 112 = .ok (.putfield 51, 3) := by decide +kernel
theorem dX12_init_115 : decode cX12_init 115 = .ok (.aload_n 0, 1) := by decide +kernel
theorem dX12_init_116 : decode cX12_init 116 = .ok (.sipush 210, 3) := by decide +kernel
theorem dX12_init_119 : decode cX12_init 119 = .ok (.newarray .int, 2) := by decide +kernel
theorem dX12_init_121 : decode cX12_init 121 = .ok (.putfield 54, 3) := by decide +kernel
theorem dX12_init_124 : decode cX12_init 124 = .ok (.aload_n 0, 1) := by decide +kernel
theorem dX12_init_125 : decode cX12_init 125 = .ok (.sipush 210, 3) := by decide +kernel
theorem dX12_init_128 : decode cX12_init 128 = .ok (.newarray .int, 2) := by decide +kernel
theorem dX12_init_130 : decode cX12_init 130 = .ok (.putfield 57, 3) := by decide +kernel
theorem dX12_init_133 : decode cX12_init 133 = .ok (.aload_n 0, 1) := by decide +kernel
theorem dX12_init_134 : decode cX12_init 134 = .ok (.sipush 210, 3) := by decide +kernel
theorem dX12_init_137 : decode cX12_init 137 = .ok (.newarray .int, 2) := by decide +kernel
theorem dX12_init_139 : decode cX12_init 139 = .ok (.putfield 60, 3) := by decide +kernel
theorem dX12_init_142 : decode cX12_init 142 = .ok (.aload_n 0, 1) := by decide +kernel
theorem dX12_init_143 : decode cX12_init 143 = .ok (.sipush 210, 3) := by decide +kernel
theorem dX12_init_146 : decode cX12_init 146 = .ok (.newarray .int, 2) := by decide +kernel
theorem dX12_init_148 : decode cX12_init 148 = .ok (.putfield 63, 3) := by decide +kernel
theorem dX12_init_151 : decode cX12_init 151 = .ok (.aload_n 0, 1) := by decide +kernel
theorem dX12_init_152 : decode cX12_init 152 = .ok (.iconst 4, 1) := by decide +kernel
theorem dX12_init_153 : decode cX12_init 153 = .ok (.newarray .int, 2) := by decide +kernel
theorem dX12_init_155 : decode cX12_init 155 = .ok (.putfield 66, 3) := by decide +kernel
theorem dX12_init_158 : decode cX12_init 158 = .ok (.aload_n 0, 1) := by decide +kernel
theorem dX12_init_159 : decode cX12_init 159 = .ok (.bipush 30, 2) := by decide +kernel
theorem dX12_init_161 : decode cX12_init 161 = .ok (.newarray .int, 2) := by decide +kernel
theorem dX12_init_163 : decode cX12_init 163 = .ok (.putfield 69, 3) := by decide +kernel
theorem dX12_init_166 : decode cX12_init 166 = .ok (.aload_n 0, 1) := by decide +kernel
theorem dX12_init_167 : decode cX12_init 167 = .ok (.bipush 30, 2) := by decide +kernel
theorem dX12_init_169 : decode cX12_init 169 = .ok (.newarray .int, 2) := by decide +kernel
theorem dX12_init_171 : decode cX12_init 171 = .ok (.putfield 72, 3) := by decide +kernel
theorem dX12_init_174 : decode cX12_init 174 = .ok (.aload_n 0, 1) := by decide +kernel
theorem dX12_init_175 : decode cX12_init 175 = .ok (.bipush 30, 2) := by decide +kernel
theorem dX12_init_177 : decode cX12_init 177 = .ok (.newarray .int, 2) := by decide +kernel
theorem dX12_init_179 : decode cX12_init 179 = .ok (.putfield 75, 3) := by decide +kernel
theorem dX12_init_182 : decode cX12_init 182 = .ok (.aload_n 0, 1) := by decide +kernel
theorem dX12_init_183 : decode cX12_init 183 = .ok (.bipush 30, 2) := by decide +kernel
theorem dX12_init_185 : decode cX12_init 185 = .ok (.newarray .boolean, 2) := by decide +kernel
theorem dX12_init_187 : decode cX12_init 187 = .ok (.putfield 78, 3) := by decide +kernel
theorem dX12_init_190 : decode cX12_init 190 = .ok (.aload_n 0, 1) := by decide +kernel
theorem dX12_init_191 : decode cX12_init 191 = .ok (.iconst (-1), 1) := by decide +kernel
theorem dX12_init_192 : decode cX12_init 192 = .ok (.putfield 82, 3) := by decide +kernel
theorem dX12_init_195 : decode cX12_init 195 = .ok (.aload_n 0, 1) := by decide +kernel
theorem dX12_init_196 : decode cX12_init 196 = .ok (.iconst (-1), 1) := by decide +kernel
theorem dX12_init_197 : decode cX12_init 197 = .ok (.putfield 85, 3) := by decide +kernel
theorem dX12_init_200 : decode cX12_init 200 = .ok (.aload_n 0, 1) := by decide +kernel
theorem dX12_init_201 : decode cX12_init 201 = .ok (.iconst (-1), 1) := by decide +kernel
theorem dX12_init_202 : decode cX12_init 202 = .ok (.putfield 88, 3) := by decide +kernel
theorem dX12_init_205 : decode cX12_init 205 = .ok (.aload_n 0, 1) := by decide +kernel
theorem dX12_init_206 : decode cX12_init 206 = .ok (.sipush 2000, 3) := by decide +kernel
theorem dX12_init_209 : decode cX12_init 209 = .ok (.newarray .int, 2) := by decide +kernel
theorem dX12_init_211 : decode cX12_init 211 = .ok (.putfield 91, 3) := by decide +kernel
theorem dX12_init_214 : decode cX12_init 214 = .ok (.aload_n 0, 1) := by decide +kernel
theorem dX12_init_215 : decode cX12_init 215 = .ok (.sipush 200, 3) := by decide +kernel
theorem dX12_init_218 : decode cX12_init 218 = .ok (.newarray .int, 2) := by decide +kernel
theorem dX12_init_220 : decode cX12_init 220 = .ok (.putfield 94, 3) := by decide +kernel
theorem dX12_init_223 : decode cX12_init 223 = .ok (.aload_n 0, 1) := by decide +kernel
theorem dX12_init_224 : decode cX12_init 224 = .ok (.sipush 200, 3) := by decide +kernel
theorem dX12_init_227 : decode cX12_init 227 = .ok (.newarray .int, 2) := by decide +kernel
theorem dX12_init_229 : decode cX12_init 229 = .ok (.putfield 97, 3) := by decide +kernel
theorem dX12_init_232 : decode cX12_init 232 = .ok (.aload_n 0, 1) := by decide +kernel
theorem dX12_init_233 : decode cX12_init 233 = .ok (.sipush 200, 3) := by decide +kernel
theorem dX12_init_236 : decode cX12_init 236 = .ok (.newarray .int, 2) := by decide +kernel
theorem dX12_init_238 : decode cX12_init 238 = .ok (.putfield 100, 3) := by decide +kernel
theorem dX12_init_241 : decode cX12_init 241 = .ok (.aload_n 0, 1) := by decide +kernel
theorem dX12_init_242 : decode cX12_init 242 = .ok (.bipush 40, 2) := by decide +kernel
theorem dX12_init_244 : decode cX12_init 244 = .ok (.newarray .int, 2) := by decide +kernel
theorem dX12_init_246 : decode cX12_init 246 = .ok (.putfield 103, 3) := by decide +kernel
theorem dX12_init_249 : decode cX12_init 249 = .ok (.aload_n 0, 1) := by decide +kernel
theorem dX12_init_250 : decode cX12_init 250 = .ok (.bipush 40, 2) := by decide +kernel
theorem dX12_init_252 : decode cX12_init 252 = .ok (.newarray .int, 2) := by decide +kernel
theorem dX12_init_254 : decode cX12_init 254 = .ok (.putfield 106, 3) := by decide +kernel
theorem dX12_init_257 : decode cX12_init 257 = .ok (.aload_n 0, 1) := by decide +kernel
theorem dX12_init_258 : decode cX12_init 258 = .ok (.bipush 40, 2) := by decide +kernel
theorem dX12_init_260 : decode cX12_init 260 = .ok (.newarray .int, 2) := by decide +kernel
theorem dX12_init_262 : decode cX12_init 262 = .ok (.putfield 109, 3) := by decide +kernel
theorem dX12_init_265 : decode cX12_init 265 = .ok (.aload_n 0, 1) := by decide +kernel
theorem dX12_init_266 : decode cX12_init 266 = .ok (.bipush 40, 2) := by decide +kernel
theorem dX12_init_268 : decode cX12_init 268 = .ok (.newarray .int, 2) := by decide +kernel
theorem dX12_init_270 : decode cX12_init 270 = .ok (.putfield 112, 3) := by decide +kernel
theorem dX12_init_273 : decode cX12_init 273 = .ok (.aload_n 0, 1) := by decide +kernel
theorem dX12_init_274 : decode cX12_init 274 = .ok (.bipush 30, 2) := by decide +kernel
theorem dX12_init_276 : decode cX12_init 276 = .ok (.newarray .int, 2) := by decide +kernel
theorem dX12_init_278 : decode cX12_init 278 = .ok (.putfield 115, 3) := by decide +kernel
theorem dX12_init_281 : decode cX12_init 281 = .ok (.aload_n 0, 1) := by decide +kernel
theorem dX12_init_282 : decode cX12_init 282 = .ok (.bipush 30, 2) := by decide +kernel
theorem dX12_init_284 : decode cX12_init 284 = .ok (.newarray .int, 2) := by decide +kernel
theorem dX12_init_286 : decode cX12_init 286 = .ok (.putfield 118, 3) := by decide +kernel
theorem dX12_init_289 : decode cX12_init 289 = .ok (.aload_n 0, 1) := by decide +kernel
theorem dX12_init_290 : decode cX12_init 290 = .ok (.bipush 30, 2) := by decide +kernel
theorem dX12_init_292 : decode cX12_init 292 = .ok (.newarray .int, 2) := by decide +kernel
theorem dX12_init_294 : decode cX12_init 294 = .ok (.putfield 121, 3) := by decide +kernel
theorem dX12_init_297 : decode cX12_init 297 = .ok (.aload_n 0, 1) := by decide +kernel
theorem dX12_init_298 : decode cX12_init 298 = .ok (.bipush 20, 2) := by decide +kernel
theorem dX12_init_300 : decode cX12_init 300 = .ok (.newarray .boolean, 2) := by decide +kernel
theorem dX12_init_302 : decode cX12_init 302 = .ok (.putfield 124, 3) := by decide +kernel
theorem dX12_init_305 : decode cX12_init 305 = .ok (.aload_n 0, 1) := by decide +kernel
theorem dX12_init_306 : decode cX12_init 306 = .ok (.sipush 200, 3) := by decide +kernel
theorem dX12_init_309 : decode cX12_init 309 = .ok (.newarray .int, 2) := by decide +kernel
theorem dX12_init_311 : decode cX12_init 311 = .ok (.putfield 127, 3) := by decide +kernel
theorem dX12_init_314 : decode cX12_init 314 = .ok (.aload_n 0, 1) := by decide +kernel
theorem dX12_init_315 : decode cX12_init 315 = .ok (.bipush 30, 2) := by decide +kernel
theorem dX12_init_317 : decode cX12_init 317 = .ok (.newarray .int, 2) := by decide +kernel
theorem dX12_init_319 : decode cX12_init 319 = .ok (.putfield 130, 3) := by decide +kernel
theorem dX12_init_322 : decode cX12_init 322 = .ok (.aload_n 0, 1) := by decide +kernel
theorem dX12_init_323 : decode cX12_init 323 = .ok (.sipush 150, 3) := by decide +kernel
theorem dX12_init_326 : decode cX12_init 326 = .ok (.newarray .int, 2) := by decide +kernel
theorem dX12_init_328 : decode cX12_init 328 = .ok (.putfield 133, 3) := by decide +kernel
theorem dX12_init_331 : decode cX12_init 331 = .ok (.aload_n 0, 1) := by decide +kernel
theorem dX12_init_332 : decode cX12_init 332 = .ok (.iconst 3, 1) := by decide +kernel
theorem dX12_init_333 : decode cX12_init 333 = .ok (.newarray .int, 2) := by decide +kernel
theorem dX12_init_335 : decode cX12_init 335 = .ok (.putfield 136, 3) := by decide +kernel
theorem dX12_init_338 : decode cX12_init 338 = .ok (.aload_n 0, 1) := by decide +kernel
theorem dX12_init_339 : decode cX12_init 339 = .ok (.sipush 252, 3) := by decide +kernel
theorem dX12_init_342 : decode cX12_init 342 = .ok (.newarray .int, 2) := by decide +kernel
theorem dX12_init_344 : decode cX12_init 344 = .ok (.putfield 139, 3) := by decide +kernel
theorem dX12_init_347 : decode cX12_init 347 = .ok (.aload_n 0, 1) := by decide +kernel
theorem dX12_init_348 : decode cX12_init 348 = .ok (.sipush 5040, 3) := by decide +kernel
theorem dX12_init_351 : decode cX12_init 351 = .ok (.newarray .int, 2) := by decide +kernel
theorem dX12_init_353 : decode cX12_init 353 = .ok (.putfield 142, 3) := by decide +kernel
theorem dX12_init_356 : decode cX12_init 356 = .ok (.aload_n 0, 1) := by decide +kernel
theorem dX12_init_357 : decode cX12_init 357 = .ok (.sipush 5040, 3) := by decide +kernel
theorem dX12_init_360 : decode cX12_init 360 = .ok (.newarray .int, 2) := by decide +kernel
theorem dX12_init_362 : decode cX12_init 362 = .ok (.putfield 145, 3) := by decide +kernel
theorem dX12_init_365 : decode cX12_init 365 = .ok (.aload_n 0, 1) := by decide +kernel
theorem dX12_init_366 : decode cX12_init 366 = .ok (.bipush 10, 2) := by decide +kernel
theorem dX12_init_368 : decode cX12_init 368 = .ok (.newarray .int, 2) := by decide +kernel
theorem dX12_init_370 : decode cX12_init 370 = .ok (.putfield 148, 3) := by decide +kernel
theorem dX12_init_373 : decode cX12_init 373 = .ok (.aload_n 0, 1) := by decide +kernel
theorem dX12_init_374 : decode cX12_init 374 = .ok (.sipush 1200, 3) := by decide +kernel
theorem dX12_init_377 : decode cX12_init 377 = .ok (.newarray .int, 2) := by decide +kernel
theorem dX12_init_379 : decode cX12_init 379 = .ok (.putfield 151, 3) := by decide +kernel
theorem dX12_init_382 : decode cX12_init 382 = .ok (.aload_n 0, 1) := by decide +kernel
theorem dX12_init_383 : decode cX12_init 383 = .ok (.sipush 300, 3) := by decide +kernel
theorem dX12_init_386 : decode cX12_init 386 = .ok (.newarray .int, 2) := by decide +kernel
theorem dX12_init_388 : decode cX12_init 388 = .ok (.putfield 154, 3) := by decide +kernel
theorem dX12_init_391 : decode cX12_init 391 = .ok (.aload_n 0, 1) := by decide +kernel
theorem dX12_init_392 : decode cX12_init 392 = .ok (.bipush 8, 2) := by decide +kernel
theorem dX12_init_394 : decode cX12_init 394 = .ok (.newarray .int, 2) := by decide +kernel
theorem dX12_init_396 : decode cX12_init 396 = .ok (.putfield 157, 3) := by decide +kernel
theorem dX12_init_399 : decode cX12_init 399 = .ok (.aload_n 0, 1) := by decide +kernel
theorem dX12_init_400 : decode cX12_init 400 = .ok (.sipush 600, 3) := by decide +kernel
theorem dX12_init_403 : decode cX12_init 403 = .ok (.putfield 160, 3) := by decide +kernel
theorem dX12_init_406 : decode cX12_init 406 = .ok (.aload_n 0, 1) := by decide +kernel
theorem dX12_init_407 : decode cX12_init 407 = .ok (.aload_n 0, 1) := by decide +kernel
theorem dX12_init_408 : decode cX12_init 408 = .ok (.iconst 0, 1) := by decide +kernel
theorem dX12_init_409 : decode cX12_init 409 = .ok (.invokevirtual 163, 3) := by decide +kernel
theorem dX12_init_412 : decode cX12_init 412 = .ok (.putfield 167, 3) := by decide +kernel
theorem dX12_init_415 : decode cX12_init 415 = .ok (.aload_n 0, 1) := by decide +kernel
theorem dX12_init_416 : decode cX12_init 416 = .ok (.aload_n 0, 1) := by decide +kernel
theorem dX12_init_417 : decode cX12_init 417 = .ok (.getfield 167, 3) := by decide +kernel
theorem dX12_init_420 : decode cX12_init 420 = .ok (.putfield 170, 3) := by decide +kernel
theorem dX12_init_423 : decode cX12_init 423 = .ok (.iconst 0, 1) := by decide +kernel
theorem dX12_init_424 : decode cX12_init 424 = .ok (.istore_n 1, 1) := by decide +kernel
theorem dX12_init_425 : decode cX12_init 425 = .ok (.iload_n 1, 1) := by decide +kernel
theorem dX12_init_426 : decode cX12_init 426 = .ok (.bipush 10, 2) := by decide +kernel
theorem dX12_init_428 : decode cX12_init 428 = .ok (.if_icmp .ge 19, 3) := by decide +kernel
theorem dX12_init_431 : decode cX12_init 431 = .ok (.aload_n 0, 1) := by decide +kernel
theorem dX12_init_432 : decode cX12_init 432 = .ok (.getfield 148, 3) := by decide +kernel
theorem dX12_init_435 : decode cX12_init 435 = .ok (.iload_n 1, 1) := by decide +kernel
theorem dX12_init_436 : decode cX12_init 436 = .ok (.aload_n 0, 1) := by decide +kernel
theorem dX12_init_437 : decode cX12_init 437 = .ok (.getfield 167, 3) := by decide +kernel
theorem dX12_init_440 : decode cX12_init 440 = .ok (.iastore, 1) := by decide +kernel
theorem dX12_init_441 : decode cX12_init 441 = .ok (.iinc 1 1, 3) := by decide +kernel
theorem dX12_init_444 : decode cX12_init 444 = .ok (.goto (-19), 3) := by decide +kernel
theorem dX12_init_447 : decode cX12_init 447 = .ok (.return_, 1) := by decide +kernel
theorem dX12_puts_0 : decode cX12_puts 0 = .ok (.aload_n 0, 1) := by decide +kernel
theorem dX12_puts_1 : decode cX12_puts 1 = .ok (.getfield 17, 3) := by decide +kernel
theorem dX12_puts_4 : decode cX12_puts 4 = .ok (.iload_n 1, 1) := by decide +kernel
theorem dX12_puts_5 : decode cX12_puts 5 = .ok (.iconst 0, 1) := by decide +kernel
theorem dX12_puts_6 : decode cX12_puts 6 = .ok (.iastore, 1) := by decide +kernel
theorem dX12_puts_7 : decode cX12_puts 7 = .ok (.iload_n 2, 1) := by decide +kernel
theorem dX12_puts_8 : decode cX12_puts 8 = .ok (.istore_n 3, 1) := by decide +kernel
theorem dX12_puts_9 : decode cX12_puts 9 = .ok (.iload_n 3, 1) := by decide +kernel
theorem dX12_puts_10 : decode cX12_puts 10 = .ok (.ifCond .le 44, 3) := by decide +kernel
theorem dX12_puts_13 : decode cX12_puts 13 = .ok (.aload_n 0, 1) := by decide +kernel
theorem dX12_puts_14 : decode cX12_puts 14 = .ok (.getfield 13, 3) := by decide +kernel
theorem dX12_puts_17 : decode cX12_puts 17 = .ok (.sipush 1000, 3) := by decide +kernel
theorem dX12_puts_20 : decode cX12_puts 20 = .ok (.iload_n 1, 1) := by decide +kernel
theorem dX12_puts_21 : decode cX12_puts 21 = .ok (.imul, 1) := by decide +kernel
theorem dX12_puts_22 : decode cX12_puts 22 = .ok (.aload_n 0, 1) := by decide +kernel
theorem dX12_puts_23 : decode cX12_puts 23 = .ok (.getfield 17, 3) := by decide +kernel
theorem dX12_puts_26 : decode cX12_puts 26 = .ok (.iload_n 1, 1) := by decide +kernel
theorem dX12_puts_27 : decode cX12_puts 27 = .ok (.iaload, 1) := by decide +kernel
theorem dX12_puts_28 : decode cX12_puts 28 = .ok (.iadd, 1) := by decide +kernel
theorem dX12_puts_29 : decode cX12_puts 29 = .ok (.iload_n 3, 1) := by decide +kernel
theorem dX12_puts_30 : decode cX12_puts 30 = .ok (.sipush 10000, 3) := by decide +kernel
theorem dX12_puts_33 : decode cX12_puts 33 = .ok (.irem, 1) := by decide +kernel
theorem dX12_puts_34 : decode cX12_puts 34 = .ok (.iastore, 1) := by decide +kernel
theorem dX12_puts_35 : decode cX12_puts 35 = .ok (.aload_n 0, 1) := by decide +kernel
theorem dX12_puts_36 : decode cX12_puts 36 = .ok (.getfield 17, 3) := by decide +kernel
theorem dX12_puts_39 : decode cX12_puts 39 = .ok (.iload_n 1, 1) := by decide +kernel
theorem dX12_puts_40 : decode cX12_puts 40 = .ok (.dup2, 1) := by decide +kernel
theorem dX12_puts_41 : decode cX12_puts 41 = .ok (.iaload, 1) := by decide +kernel
theorem dX12_puts_42 : decode cX12_puts 42 = .ok (.iconst 1, 1) := by decide +kernel
theorem dX12_puts_43 : decode cX12_puts 43 = .ok (.iadd, 1) := by decide +kernel
theorem dX12_puts_44 : decode cX12_puts 44 = .ok (.iastore, 1) := by decide +kernel
theorem dX12_puts_45 : decode cX12_puts 45 = .ok (.iload_n 3, 1) := by decide +kernel
theorem dX12_puts_46 : decode cX12_puts 46 = .ok (.sipush 10000, 3) := by decide +kernel
theorem dX12_puts_49 : decode cX12_puts 49 = .ok (.idiv, 1) := by decide +kernel
theorem dX12_puts_50 : decode cX12_puts 50 = .ok (.istore_n 3, 1) := by decide +kernel
theorem dX12_puts_51 : decode cX12_puts 51 = .ok (.goto (-42), 3) := by decide +kernel
theorem dX12_puts_54 : decode cX12_puts 54 = .ok (.return_, 1) := by decide +kernel
theorem dX12_copies_0 : decode cX12_copies 0 = .ok (.aload_n 0, 1) := by decide +kernel
theorem dX12_copies_1 : decode cX12_copies 1 = .ok (.getfield 17, 3) := by decide +kernel
theorem dX12_copies_4 : decode cX12_copies 4 = .ok (.iload_n 1, 1) := by decide +kernel
theorem dX12_copies_5 : decode cX12_copies 5 = .ok (.aload_n 0, 1) := by decide +kernel
theorem dX12_copies_6 : decode cX12_copies 6 = .ok (.getfield 17, 3) := by decide +kernel
theorem dX12_copies_9 : decode cX12_copies 9 = .ok (.iload_n 2, 1) := by decide +kernel
theorem dX12_copies_10 : decode cX12_copies 10 = .ok (.iaload, 1) := by decide +kernel
theorem dX12_copies_11 : decode cX12_copies 11 = .ok (.iastore, 1) := by decide +kernel
theorem dX12_copies_12 : decode cX12_copies 12 = .ok (.iconst 0, 1) := by decide +kernel
theorem dX12_copies_13 : decode cX12_copies 13 = .ok (.istore_n 3, 1) := by decide +kernel
theorem dX12_copies_14 : decode cX12_copies 14 = .ok (.iload_n 3, 1) := by decide +kernel
theorem dX12_copies_15 : decode cX12_copies 15 = .ok (.aload_n 0, 1) := by decide +kernel
theorem dX12_copies_16 : decode cX12_copies 16 = .ok (.getfield 17, 3) := by decide +kernel
theorem dX12_copies_19 : decode cX12_copies 19 = .ok (.iload_n 2, 1) := by decide +kernel
theorem dX12_copies_20 : decode cX12_copies 20 = .ok (.iaload, 1) := by decide +kernel
theorem dX12_copies_21 : decode cX12_copies 21 = .ok (.if_icmp .ge 33, 3) := by decide +kernel
theorem dX12_copies_24 : decode cX12_copies 24 = .ok (.aload_n 0, 1) := by decide +kernel
theorem dX12_copies_25 : decode cX12_copies 25 = .ok (.getfield 13, 3) := by decide +kernel
theorem dX12_copies_28 : decode cX12_copies 28 = .ok (.sipush 1000, 3) := by decide +kernel
theorem dX12_copies_31 : decode cX12_copies 31 = .ok (.iload_n 1, 1) := by decide +kernel
theorem dX12_copies_32 : decode cX12_copies 32 = .ok (.imul, 1) := by decide +kernel
theorem dX12_copies_33 : decode cX12_copies 33 = .ok (.iload_n 3, 1) := by decide +kernel
theorem dX12_copies_34 : decode cX12_copies 34 = .ok (.iadd, 1) := by decide +kernel
theorem dX12_copies_35 : decode cX12_copies 35 = .ok (.aload_n 0, 1) := by decide +kernel
theorem dX12_copies_36 : decode cX12_copies 36 = .ok (.getfield 13, 3) := by decide +kernel
theorem dX12_copies_39 : decode cX12_copies 39 = .ok (.sipush 1000, 3) := by decide +kernel
theorem dX12_copies_42 : decode cX12_copies 42 = .ok (.iload_n 2, 1) := by decide +kernel
theorem dX12_copies_43 : decode cX12_copies 43 = .ok (.imul, 1) := by decide +kernel
theorem dX12_copies_44 : decode cX12_copies 44 = .ok (.iload_n 3, 1) := by decide +kernel
theorem dX12_copies_45 : decode cX12_copies 45 = .ok (.iadd, 1) := by decide +kernel
theorem dX12_copies_46 : decode cX12_copies 46 = .ok (.iaload, 1) := by decide +kernel
theorem dX12_copies_47 : decode cX12_copies 47 = .ok (.iastore, 1) := by decide +kernel
theorem dX12_copies_48 : decode cX12_copies 48 = .ok (.iinc 3 1, 3) := by decide +kernel
theorem dX12_copies_51 : decode cX12_copies 51 = .ok (.goto (-37), 3) := by decide +kernel
theorem dX12_copies_54 : decode cX12_copies 54 = .ok (.return_, 1) := by decide +kernel
theorem dX12_trims_0 : decode cX12_trims 0 = .ok (.aload_n 0, 1) := by decide +kernel
theorem dX12_trims_1 : decode cX12_trims 1 = .ok (.getfield 17, 3) := by decide +kernel
theorem dX12_trims_4 : decode cX12_trims 4 = .ok (.iload_n 1, 1) := by decide +kernel
theorem dX12_trims_5 : decode cX12_trims 5 = .ok (.iaload, 1) := by decide +kernel
theorem dX12_trims_6 : decode cX12_trims 6 = .ok (.ifCond .le 38, 3) := by decide +kernel
theorem dX12_trims_9 : decode cX12_trims 9 = .ok (.aload_n 0, 1) := by decide +kernel
theorem dX12_trims_10 : decode cX12_trims 10 = .ok (.getfield 13, 3) := by decide +kernel
theorem dX12_trims_13 : decode cX12_trims 13 = .ok (.sipush 1000, 3) := by decide +kernel
theorem dX12_trims_16 : decode cX12_trims 16 = .ok (.iload_n 1, 1) := by decide +kernel
theorem dX12_trims_17 : decode cX12_trims 17 = .ok (.imul, 1) := by decide +kernel
theorem dX12_trims_18 : decode cX12_trims 18 = .ok (.aload_n 0, 1) := by decide +kernel
theorem dX12_trims_19 : decode cX12_trims 19 = .ok (.getfield 17, 3) := by decide +kernel
theorem dX12_trims_22 : decode cX12_trims 22 = .ok (.iload_n 1, 1) := by decide +kernel
theorem dX12_trims_23 : decode cX12_trims 23 = .ok (.iaload, 1) := by decide +kernel
theorem dX12_trims_24 : decode cX12_trims 24 = .ok (.iadd, 1) := by decide +kernel
theorem dX12_trims_25 : decode cX12_trims 25 = .ok (.iconst 1, 1) := by decide +kernel
theorem dX12_trims_26 : decode cX12_trims 26 = .ok (.isub, 1) := by decide +kernel
theorem dX12_trims_27 : decode cX12_trims 27 = .ok (.iaload, 1) := by decide +kernel
theorem dX12_trims_28 : decode cX12_trims 28 = .ok (.ifCond .ne 16, 3) := by decide +kernel
theorem dX12_trims_31 : decode cX12_trims 31 = .ok (.aload_n 0, 1) := by decide +kernel
theorem dX12_trims_32 : decode cX12_trims 32 = .ok (.getfield 17, 3) := by decide +kernel
theorem dX12_trims_35 : decode cX12_trims 35 = .ok (.iload_n 1, 1) := by decide +kernel
theorem dX12_trims_36 : decode cX12_trims 36 = .ok (.dup2, 1) := by decide +kernel
theorem dX12_trims_37 : decode cX12_trims 37 = .ok (.iaload, 1) := by decide +kernel
theorem dX12_trims_38 : decode cX12_trims 38 = .ok (.iconst 1, 1) := by decide +kernel
theorem dX12_trims_39 : decode cX12_trims 39 = .ok (.isub, 1) := by decide +kernel
theorem dX12_trims_40 : decode cX12_trims 40 = .ok (.iastore, 1) := by decide +kernel
theorem dX12_trims_41 : decode cX12_trims 41 = .ok (.goto (-41), 3) := by decide +kernel
theorem dX12_trims_44 : decode cX12_trims 44 = .ok (.return_, 1) := by decide +kernel
theorem dX12_compares_0 : decode cX12_compares 0 = .ok (.aload_n 0, 1) := by decide +kernel
theorem dX12_compares_1 : decode cX12_compares 1 = .ok (.getfield 17, 3) := by decide +kernel
theorem dX12_compares_4 : decode cX12_compares 4 = .ok (.iload_n 1, 1) := by decide +kernel
theorem dX12_compares_5 : decode cX12_compares 5 = .ok (.iaload, 1) := by decide +kernel
theorem dX12_compares_6 : decode cX12_compares 6 = .ok (.aload_n 0, 1) := by decide +kernel
theorem dX12_compares_7 : decode cX12_compares 7 = .ok (.getfield 17, 3) := by decide +kernel
theorem dX12_compares_10 : decode cX12_compares 10 = .ok (.iload_n 2, 1) := by decide +kernel
theorem dX12_compares_11 : decode cX12_compares 11 = .ok (.iaload, 1) := by decide +kernel
theorem dX12_compares_12 : decode cX12_compares 12 = .ok (.if_icmp .eq 24, 3) := by decide +kernel
theorem dX12_compares_15 : decode cX12_compares 15 = .ok (.aload_n 0, 1) := by decide +kernel
theorem dX12_compares_16 : decode cX12_compares 16 = .ok (.getfield 17, 3) := by decide +kernel
theorem dX12_compares_19 : decode cX12_compares 19 = .ok (.iload_n 1, 1) := by decide +kernel
theorem dX12_compares_20 : decode cX12_compares 20 = .ok (.iaload, 1) := by decide +kernel
theorem dX12_compares_21 : decode cX12_compares 21 = .ok (.aload_n 0, 1) := by decide +kernel
theorem dX12_compares_22 : decode cX12_compares 22 = .ok (.getfield 17, 3) := by decide +kernel
theorem dX12_compares_25 : decode cX12_compares 25 = .ok (.iload_n 2, 1) := by decide +kernel
theorem dX12_compares_26 : decode cX12_compares 26 = .ok (.iaload, 1) := by decide +kernel
theorem dX12_compares_27 : decode cX12_compares 27 = .ok (.if_icmp .ge 7, 3) := by decide +kernel
theorem dX12_compares_30 : decode cX12_compares 30 = .ok (.iconst (-1), 1) := by decide +kernel
theorem dX12_compares_31 : decode cX12_compares 31 = .ok (.goto 4, 3) := by decide +kernel
theorem dX12_compares_34 : decode cX12_compares 34 = .ok (.iconst 1, 1) := by decide +kernel
theorem dX12_compares_35 : decode cX12_compares 35 = .ok (.ireturn, 1) := by decide +kernel
theorem dX12_compares_36 : decode cX12_compares 36 = .ok (.aload_n 0, 1) := by decide +kernel
theorem dX12_compares_37 : decode cX12_compares 37 = .ok (.getfield 17, 3) := by decide +kernel
theorem dX12_compares_40 : decode cX12_compares 40 = .ok (.iload_n 1, 1) := by decide +kernel
theorem dX12_compares_41 : decode cX12_compares 41 = .ok (.iaload, 1) := by decide +kernel
theorem dX12_compares_42 : decode cX12_compares 42 = .ok (.iconst 1, 1) := by decide +kernel
theorem dX12_compares_43 : decode cX12_compares 43 = .ok (.isub, 1) := by decide +kernel
theorem dX12_compares_44 : decode cX12_compares 44 = .ok (.istore_n 3, 1) := by decide +kernel
theorem dX12_compares_45 : decode cX12_compares 45 = .ok (.iload_n 3, 1) := by decide +kernel
theorem dX12_compares_46 : decode cX12_compares 46 = .ok (.ifCond .lt 69, 3) := by decide +kernel
theorem dX12_compares_49 : decode cX12_compares 49 = .ok (.aload_n 0, 1) := by decide +kernel
theorem dX12_compares_50 : decode cX12_compares 50 = .ok (.getfield 13, 3) := by decide +kernel
theorem dX12_compares_53 : decode cX12_compares 53 = .ok (.sipush 1000, 3) := by decide +kernel
theorem dX12_compares_56 : decode cX12_compares 56 = .ok (.iload_n 1, 1) := by decide +kernel
theorem dX12_compares_57 : decode cX12_compares 57 = .ok (.imul, 1) := by decide +kernel
theorem dX12_compares_58 : decode cX12_compares 58 = .ok (.iload_n 3, 1) := by decide +kernel
theorem dX12_compares_59 : decode cX12_compares 59 = .ok (.iadd, 1) := by decide +kernel
theorem dX12_compares_60 : decode cX12_compares 60 = .ok (.iaload, 1) := by decide +kernel
theorem dX12_compares_61 : decode cX12_compares 61 = .ok (.aload_n 0, 1) := by decide +kernel
theorem dX12_compares_62 : decode cX12_compares 62 = .ok (.getfield 13, 3) := by decide +kernel
theorem dX12_compares_65 : decode cX12_compares 65 = .ok (.sipush 1000, 3) := by decide +kernel
theorem dX12_compares_68 : decode cX12_compares 68 = .ok (.iload_n 2, 1) := by decide +kernel
theorem dX12_compares_69 : decode cX12_compares 69 = .ok (.imul, 1) := by decide +kernel
theorem dX12_compares_70 : decode cX12_compares 70 = .ok (.iload_n 3, 1) := by decide +kernel
theorem dX12_compares_71 : decode cX12_compares 71 = .ok (.iadd, 1) := by decide +kernel
theorem dX12_compares_72 : decode cX12_compares 72 = .ok (.iaload, 1) := by decide +kernel
theorem dX12_compares_73 : decode cX12_compares 73 = .ok (.if_icmp .eq 36, 3) := by decide +kernel
theorem dX12_compares_76 : decode cX12_compares 76 = .ok (.aload_n 0, 1) := by decide +kernel
theorem dX12_compares_77 : decode cX12_compares 77 = .ok (.getfield 13, 3) := by decide +kernel
theorem dX12_compares_80 : decode cX12_compares 80 = .ok (.sipush 1000, 3) := by decide +kernel
theorem dX12_compares_83 : decode cX12_compares 83 = .ok (.iload_n 1, 1) := by decide +kernel
theorem dX12_compares_84 : decode cX12_compares 84 = .ok (.imul, 1) := by decide +kernel
theorem dX12_compares_85 : decode cX12_compares 85 = .ok (.iload_n 3, 1) := by decide +kernel
theorem dX12_compares_86 : decode cX12_compares 86 = .ok (.iadd, 1) := by decide +kernel
theorem dX12_compares_87 : decode cX12_compares 87 = .ok (.iaload, 1) := by decide +kernel
theorem dX12_compares_88 : decode cX12_compares 88 = .ok (.aload_n 0, 1) := by decide +kernel
theorem dX12_compares_89 : decode cX12_compares 89 = .ok (.getfield 13, 3) := by decide +kernel
theorem dX12_compares_92 : decode cX12_compares 92 = .ok (.sipush 1000, 3) := by decide +kernel
theorem dX12_compares_95 : decode cX12_compares 95 = .ok (.iload_n 2, 1) := by decide +kernel
theorem dX12_compares_96 : decode cX12_compares 96 = .ok (.imul, 1) := by decide +kernel
theorem dX12_compares_97 : decode cX12_compares 97 = .ok (.iload_n 3, 1) := by decide +kernel
theorem dX12_compares_98 : decode cX12_compares 98 = .ok (.iadd, 1) := by decide +kernel
theorem dX12_compares_99 : decode cX12_compares 99 = .ok (.iaload, 1) := by decide +kernel
theorem dX12_compares_100 : decode cX12_compares 100 = .ok (.if_icmp .ge 7, 3) := by decide +kernel
theorem dX12_compares_103 : decode cX12_compares 103 = .ok (.iconst (-1), 1) := by decide +kernel
theorem dX12_compares_104 : decode cX12_compares 104 = .ok (.goto 4, 3) := by decide +kernel
theorem dX12_compares_107 : decode cX12_compares 107 = .ok (.iconst 1, 1) := by decide +kernel
theorem dX12_compares_108 : decode cX12_compares 108 = .ok (.ireturn, 1) := by decide +kernel
theorem dX12_compares_109 : decode cX12_compares 109 = .ok (.iinc 3 (-1), 3) := by decide +kernel
theorem dX12_compares_112 : decode cX12_compares 112 = .ok (.goto (-67), 3) := by decide +kernel
theorem dX12_compares_115 : decode cX12_compares 115 = .ok (.iconst 0, 1) := by decide +kernel
theorem dX12_compares_116 : decode cX12_compares 116 = .ok (.ireturn, 1) := by decide +kernel
theorem dX12_limb_0 : decode cX12_limb 0 = .ok (.iload_n 2, 1) := by decide +kernel
theorem dX12_limb_1 : decode cX12_limb 1 = .ok (.aload_n 0, 1) := by decide +kernel
theorem dX12_limb_2 : decode cX12_limb 2 = .ok (.getfield 17, 3) := by decide +kernel
theorem dX12_limb_5 : decode cX12_limb 5 = .ok (.iload_n 1, 1) := by decide +kernel
theorem dX12_limb_6 : decode cX12_limb 6 = .ok (.iaload, 1) := by decide +kernel
theorem dX12_limb_7 : decode cX12_limb 7 = .ok (.if_icmp .ge 18, 3) := by decide +kernel
theorem dX12_limb_10 : decode cX12_limb 10 = .ok (.aload_n 0, 1) := by decide +kernel
theorem dX12_limb_11 : decode cX12_limb 11 = .ok (.getfield 13, 3) := by decide +kernel
theorem dX12_limb_14 : decode cX12_limb 14 = .ok (.sipush 1000, 3) := by decide +kernel
theorem dX12_limb_17 : decode cX12_limb 17 = .ok (.iload_n 1, 1) := by decide +kernel
theorem dX12_limb_18 : decode cX12_limb 18 = .ok (.imul, 1) := by decide +kernel
theorem dX12_limb_19 : decode cX12_limb 19 = .ok (.iload_n 2, 1) := by decide +kernel
theorem dX12_limb_20 : decode cX12_limb 20 = .ok (.iadd, 1) := by decide +kernel
theorem dX12_limb_21 : decode cX12_limb 21 = .ok (.iaload, 1) := by decide +kernel
theorem dX12_limb_22 : decode cX12_limb 22 = .ok (.goto 4, 3) := by decide +kernel
theorem dX12_limb_25 : decode cX12_limb 25 = .ok (.iconst 0, 1) := by decide +kernel
theorem dX12_limb_26 : decode cX12_limb 26 = .ok (.ireturn, 1) := by decide +kernel
theorem dX12_adds_0 : decode cX12_adds 0 = .ok (.aload_n 0, 1) := by decide +kernel
theorem dX12_adds_1 : decode cX12_adds 1 = .ok (.getfield 17, 3) := by decide +kernel
theorem dX12_adds_4 : decode cX12_adds 4 = .ok (.iload_n 1, 1) := by decide +kernel
theorem dX12_adds_5 : decode cX12_adds 5 = .ok (.iaload, 1) := by decide +kernel
theorem dX12_adds_6 : decode cX12_adds 6 = .ok (.aload_n 0, 1) := by decide +kernel
theorem dX12_adds_7 : decode cX12_adds 7 = .ok (.getfield 17, 3) := by decide +kernel
theorem dX12_adds_10 : decode cX12_adds 10 = .ok (.iload_n 2, 1) := by decide +kernel
theorem dX12_adds_11 : decode cX12_adds 11 = .ok (.iaload, 1) := by decide +kernel
theorem dX12_adds_12 : decode cX12_adds 12 = .ok (.if_icmp .le 12, 3) := by decide +kernel
theorem dX12_adds_15 : decode cX12_adds 15 = .ok (.aload_n 0, 1) := by decide +kernel
theorem dX12_adds_16 : decode cX12_adds 16 = .ok (.getfield 17, 3) := by decide +kernel
theorem dX12_adds_19 : decode cX12_adds 19 = .ok (.iload_n 1, 1) := by decide +kernel
theorem dX12_adds_20 : decode cX12_adds 20 = .ok (.iaload, 1) := by decide +kernel
theorem dX12_adds_21 : decode cX12_adds 21 = .ok (.goto 9, 3) := by decide +kernel
theorem dX12_adds_24 : decode cX12_adds 24 = .ok (.aload_n 0, 1) := by decide +kernel
theorem dX12_adds_25 : decode cX12_adds 25 = .ok (.getfield 17, 3) := by decide +kernel
theorem dX12_adds_28 : decode cX12_adds 28 = .ok (.iload_n 2, 1) := by decide +kernel
theorem dX12_adds_29 : decode cX12_adds 29 = .ok (.iaload, 1) := by decide +kernel
theorem dX12_adds_30 : decode cX12_adds 30 = .ok (.istore_n 3, 1) := by decide +kernel
theorem dX12_adds_31 : decode cX12_adds 31 = .ok (.iconst 0, 1) := by decide +kernel
theorem dX12_adds_32 : decode cX12_adds 32 = .ok (.istore 4, 2) := by decide +kernel
theorem dX12_adds_34 : decode cX12_adds 34 = .ok (.iconst 0, 1) := by decide +kernel
theorem dX12_adds_35 : decode cX12_adds 35 = .ok (.istore 5, 2) := by decide +kernel
theorem dX12_adds_37 : decode cX12_adds 37 = .ok (.iload 5, 2) := by decide +kernel
theorem dX12_adds_39 : decode cX12_adds 39 = .ok (.iload_n 3, 1) := by decide +kernel
theorem dX12_adds_40 : decode cX12_adds 40 = .ok (.if_icmp .gt 77, 3) := by decide +kernel
theorem dX12_adds_43 : decode cX12_adds 43 = .ok (.aload_n 0, 1) := by decide +kernel
theorem dX12_adds_44 : decode cX12_adds 44 = .ok (.iload_n 1, 1) := by decide +kernel
theorem dX12_adds_45 : decode cX12_adds 45 = .ok (.iload 5, 2) := by decide +kernel
theorem dX12_adds_47 : decode cX12_adds 47 = .ok (.invokevirtual 173, 3) := by decide +kernel
theorem dX12_adds_50 : decode cX12_adds 50 = .ok (.aload_n 0, 1) := by decide +kernel
theorem dX12_adds_51 : decode cX12_adds 51 = .ok (.iload_n 2, 1) := by decide +kernel
theorem dX12_adds_52 : decode cX12_adds 52 = .ok (.iload 5, 2) := by decide +kernel
theorem dX12_adds_54 : decode cX12_adds 54 = .ok (.invokevirtual 173, 3) := by decide +kernel
theorem dX12_adds_57 : decode cX12_adds 57 = .ok (.iadd, 1) := by decide +kernel
theorem dX12_adds_58 : decode cX12_adds 58 = .ok (.iload 4, 2) := by decide +kernel
theorem dX12_adds_60 : decode cX12_adds 60 = .ok (.iadd, 1) := by decide +kernel
theorem dX12_adds_61 : decode cX12_adds 61 = .ok (.istore 6, 2) := by decide +kernel
theorem dX12_adds_63 : decode cX12_adds 63 = .ok (.aload_n 0, 1) := by decide +kernel
theorem dX12_adds_64 : decode cX12_adds 64 = .ok (.getfield 13, 3) := by decide +kernel
theorem dX12_adds_67 : decode cX12_adds 67 = .ok (.sipush 1000, 3) := by decide +kernel
theorem dX12_adds_70 : decode cX12_adds 70 = .ok (.iload_n 1, 1) := by decide +kernel
theorem dX12_adds_71 : decode cX12_adds 71 = .ok (.imul, 1) := by decide +kernel
theorem dX12_adds_72 : decode cX12_adds 72 = .ok (.iload 5, 2) := by decide +kernel
theorem dX12_adds_74 : decode cX12_adds 74 = .ok (.iadd, 1) := by decide +kernel
theorem dX12_adds_75 : decode cX12_adds 75 = .ok (.iload 6, 2) := by decide +kernel
theorem dX12_adds_77 : decode cX12_adds 77 = .ok (.sipush 10000, 3) := by decide +kernel
theorem dX12_adds_80 : decode cX12_adds 80 = .ok (.irem, 1) := by decide +kernel
theorem dX12_adds_81 : decode cX12_adds 81 = .ok (.iastore, 1) := by decide +kernel
theorem dX12_adds_82 : decode cX12_adds 82 = .ok (.iload 6, 2) := by decide +kernel
theorem dX12_adds_84 : decode cX12_adds 84 = .ok (.sipush 10000, 3) := by decide +kernel
theorem dX12_adds_87 : decode cX12_adds 87 = .ok (.idiv, 1) := by decide +kernel
theorem dX12_adds_88 : decode cX12_adds 88 = .ok (.istore 4, 2) := by decide +kernel
theorem dX12_adds_90 : decode cX12_adds 90 = .ok (.iload 5, 2) := by decide +kernel
theorem dX12_adds_92 : decode cX12_adds 92 = .ok (.aload_n 0, 1) := by decide +kernel
theorem dX12_adds_93 : decode cX12_adds 93 = .ok (.getfield 17, 3) := by decide +kernel
theorem dX12_adds_96 : decode cX12_adds 96 = .ok (.iload_n 1, 1) := by decide +kernel
theorem dX12_adds_97 : decode cX12_adds 97 = .ok (.iaload, 1) := by decide +kernel
theorem dX12_adds_98 : decode cX12_adds 98 = .ok (.if_icmp .lt 13, 3) := by decide +kernel
theorem dX12_adds_101 : decode cX12_adds 101 = .ok (.aload_n 0, 1) := by decide +kernel
theorem dX12_adds_102 : decode cX12_adds 102 = .ok (.getfield 17, 3) := by decide +kernel
theorem dX12_adds_105 : decode cX12_adds 105 = .ok (.iload_n 1, 1) := by decide +kernel
theorem dX12_adds_106 : decode cX12_adds 106 = .ok (.iload 5, 2) := by decide +kernel
theorem dX12_adds_108 : decode cX12_adds 108 = .ok (.iconst 1, 1) := by decide +kernel
theorem dX12_adds_109 : decode cX12_adds 109 = .ok (.iadd, 1) := by decide +kernel
theorem dX12_adds_110 : decode cX12_adds 110 = .ok (.iastore, 1) := by decide +kernel
theorem dX12_adds_111 : decode cX12_adds 111 = .ok (.iinc 5 1, 3) := by decide +kernel
theorem dX12_adds_114 : decode cX12_adds 114 = .ok (.goto (-77), 3) := by decide +kernel
theorem dX12_adds_117 : decode cX12_adds 117 = .ok (.aload_n 0, 1) := by decide +kernel
theorem dX12_adds_118 : decode cX12_adds 118 = .ok (.iload_n 1, 1) := by decide +kernel
theorem dX12_adds_119 : decode cX12_adds 119 = .ok (.invokevirtual 177, 3) := by decide +kernel
theorem dX12_adds_122 : decode cX12_adds 122 = .ok (.return_, 1) := by decide +kernel
theorem dX12_takesAway_0 : decode cX12_takesAway 0 = .ok (.iconst 0, 1) := by decide +kernel
theorem dX12_takesAway_1 : decode cX12_takesAway 1 = .ok (.istore_n 3, 1) := by decide +kernel
theorem dX12_takesAway_2 : decode cX12_takesAway 2 = .ok (.iconst 0, 1) := by decide +kernel
theorem dX12_takesAway_3 : decode cX12_takesAway 3 = .ok (.istore 4, 2) := by decide +kernel
theorem dX12_takesAway_5 : decode cX12_takesAway 5 = .ok (.iload 4, 2) := by decide +kernel
theorem dX12_takesAway_7 : decode cX12_takesAway 7 = .ok (.aload_n 0, 1) := by decide +kernel
theorem dX12_takesAway_8 : decode cX12_takesAway 8 = .ok (.getfield 17, 3) := by decide +kernel
theorem dX12_takesAway_11 : decode cX12_takesAway 11 = .ok (.iload_n 1, 1) := by decide +kernel
theorem dX12_takesAway_12 : decode cX12_takesAway 12 = .ok (.iaload, 1) := by decide +kernel
theorem dX12_takesAway_13 : decode cX12_takesAway 13 = .ok (.if_icmp .ge 66, 3) := by decide +kernel
theorem dX12_takesAway_16 : decode cX12_takesAway 16 = .ok (.aload_n 0, 1) := by decide +kernel
theorem dX12_takesAway_17 : decode cX12_takesAway 17 = .ok (.getfield 13, 3) := by decide +kernel
theorem dX12_takesAway_20 : decode cX12_takesAway 20 = .ok (.sipush 1000, 3) := by decide +kernel
theorem dX12_takesAway_23 : decode cX12_takesAway 23 = .ok (.iload_n 1, 1) := by decide +kernel
theorem dX12_takesAway_24 : decode cX12_takesAway 24 = .ok (.imul, 1) := by decide +kernel
theorem dX12_takesAway_25 : decode cX12_takesAway 25 = .ok (.iload 4, 2) := by decide +kernel
theorem dX12_takesAway_27 : decode cX12_takesAway 27 = .ok (.iadd, 1) := by decide +kernel
theorem dX12_takesAway_28 : decode cX12_takesAway 28 = .ok (.iaload, 1) := by decide +kernel
theorem dX12_takesAway_29 : decode cX12_takesAway 29 = .ok (.aload_n 0, 1) := by decide +kernel
theorem dX12_takesAway_30 : decode cX12_takesAway 30 = .ok (.iload_n 2, 1) := by decide +kernel
theorem dX12_takesAway_31 : decode cX12_takesAway 31 = .ok (.iload 4, 2) := by decide +kernel
theorem dX12_takesAway_33 : decode cX12_takesAway 33 = .ok (.invokevirtual 173, 3) := by decide +kernel
theorem dX12_takesAway_36 : decode cX12_takesAway 36 = .ok (.isub, 1) := by decide +kernel
theorem dX12_takesAway_37 : decode cX12_takesAway 37 = .ok (.iload_n 3, 1) := by decide +kernel
theorem dX12_takesAway_38 : decode cX12_takesAway 38 = .ok (.isub, 1) := by decide +kernel
theorem dX12_takesAway_39 : decode cX12_takesAway 39 = .ok (.istore 5, 2) := by decide +kernel
theorem dX12_takesAway_41 : decode cX12_takesAway 41 = .ok (.iload 5, 2) := by decide +kernel
theorem dX12_takesAway_43 : decode cX12_takesAway 43 = .ok (.ifCond .ge 7, 3) := by decide +kernel
theorem dX12_takesAway_46 : decode cX12_takesAway 46 = .ok (.iconst 1, 1) := by decide +kernel
theorem dX12_takesAway_47 : decode cX12_takesAway 47 = .ok (.goto 4, 3) := by decide +kernel
theorem dX12_takesAway_50 : decode cX12_takesAway 50 = .ok (.iconst 0, 1) := by decide +kernel
theorem dX12_takesAway_51 : decode cX12_takesAway 51 = .ok (.istore_n 3, 1) := by decide +kernel
theorem dX12_takesAway_52 : decode cX12_takesAway 52 = .ok (.aload_n 0, 1) := by decide +kernel
theorem dX12_takesAway_53 : decode cX12_takesAway 53 = .ok (.getfield 13, 3) := by decide +kernel
theorem dX12_takesAway_56 : decode cX12_takesAway 56 = .ok (.sipush 1000, 3) := by decide +kernel
theorem dX12_takesAway_59 : decode cX12_takesAway 59 = .ok (.iload_n 1, 1) := by decide +kernel
theorem dX12_takesAway_60 : decode cX12_takesAway 60 = .ok (.imul, 1) := by decide +kernel
theorem dX12_takesAway_61 : decode cX12_takesAway 61 = .ok (.iload 4, 2) := by decide +kernel
theorem dX12_takesAway_63 : decode cX12_takesAway 63 = .ok (.iadd, 1) := by decide +kernel
theorem dX12_takesAway_64 : decode cX12_takesAway 64 = .ok (.iload 5, 2) := by decide +kernel
theorem dX12_takesAway_66 : decode cX12_takesAway 66 = .ok (.iload_n 3, 1) := by decide +kernel
theorem dX12_takesAway_67 : decode cX12_takesAway 67 = .ok (.sipush 10000, 3) := by decide +kernel
theorem dX12_takesAway_70 : decode cX12_takesAway 70 = .ok (.imul, 1) := by decide +kernel
theorem dX12_takesAway_71 : decode cX12_takesAway 71 = .ok (.iadd, 1) := by decide +kernel
theorem dX12_takesAway_72 : decode cX12_takesAway 72 = .ok (.iastore, 1) := by decide +kernel
theorem dX12_takesAway_73 : decode cX12_takesAway 73 = .ok (.iinc 4 1, 3) := by decide +kernel
theorem dX12_takesAway_76 : decode cX12_takesAway 76 = .ok (.goto (-71), 3) := by decide +kernel
theorem dX12_takesAway_79 : decode cX12_takesAway 79 = .ok (.aload_n 0, 1) := by decide +kernel
theorem dX12_takesAway_80 : decode cX12_takesAway 80 = .ok (.iload_n 1, 1) := by decide +kernel
theorem dX12_takesAway_81 : decode cX12_takesAway 81 = .ok (.invokevirtual 177, 3) := by decide +kernel
theorem dX12_takesAway_84 : decode cX12_takesAway 84 = .ok (.return_, 1) := by decide +kernel
theorem dX12_multiplies_0 : decode cX12_multiplies 0 = .ok (.aload_n 0, 1) := by decide +kernel
theorem dX12_multiplies_1 : decode cX12_multiplies 1 = .ok (.getfield 17, 3) := by decide +kernel
theorem dX12_multiplies_4 : decode cX12_multiplies 4 = .ok (.iload_n 1, 1) := by decide +kernel
theorem dX12_multiplies_5 : decode cX12_multiplies 5 = .ok (.aload_n 0, 1) := by decide +kernel
theorem dX12_multiplies_6 : decode cX12_multiplies 6 = .ok (.getfield 17, 3) := by decide +kernel
theorem dX12_multiplies_9 : decode cX12_multiplies 9 = .ok (.iload_n 2, 1) := by decide +kernel
theorem dX12_multiplies_10 : decode cX12_multiplies 10 = .ok (.iaload, 1) := by decide +kernel
theorem dX12_multiplies_11 : decode cX12_multiplies 11 = .ok (.aload_n 0, 1) := by decide +kernel
theorem dX12_multiplies_12 : decode cX12_multiplies 12 = .ok (.getfield 17, 3) := by decide +kernel
theorem dX12_multiplies_15 : decode cX12_multiplies 15 = .ok (.iload_n 3, 1) := by decide +kernel
theorem dX12_multiplies_16 : decode cX12_multiplies 16 = .ok (.iaload, 1) := by decide +kernel
theorem dX12_multiplies_17 : decode cX12_multiplies 17 = .ok (.iadd, 1) := by decide +kernel
theorem dX12_multiplies_18 : decode cX12_multiplies 18 = .ok (.iastore, 1) := by decide +kernel
theorem dX12_multiplies_19 : decode cX12_multiplies 19 = .ok (.iconst 0, 1) := by decide +kernel
theorem dX12_multiplies_20 : decode cX12_multiplies 20 = .ok (.istore 4, 2) := by decide +kernel
theorem dX12_multiplies_22 : decode cX12_multiplies 22 = .ok (.iload 4, 2) := by decide +kernel
theorem dX12_multiplies_24 : decode cX12_multiplies 24 = .ok (.aload_n 0, 1) := by decide +kernel
theorem dX12_multiplies_25 : decode cX12_multiplies 25 = .ok (.getfield 17, 3) := by decide +kernel
theorem dX12_multiplies_28 : decode cX12_multiplies 28 = .ok (.iload_n 1, 1) := by decide +kernel
theorem dX12_multiplies_29 : decode cX12_multiplies 29 = .ok (.iaload, 1) := by decide +kernel
theorem dX12_multiplies_30 : decode cX12_multiplies 30 = .ok (.if_icmp .ge 23, 3) := by decide +kernel
theorem dX12_multiplies_33 : decode cX12_multiplies 33 = .ok (.aload_n 0, 1) := by decide +kernel
theorem dX12_multiplies_34 : decode cX12_multiplies 34 = .ok (.getfield 13, 3) := by decide +kernel
theorem dX12_multiplies_37 : decode cX12_multiplies 37 = .ok (.sipush 1000, 3) := by decide +kernel
theorem dX12_multiplies_40 : decode cX12_multiplies 40 = .ok (.iload_n 1, 1) := by decide +kernel
theorem dX12_multiplies_41 : decode cX12_multiplies 41 = .ok (.imul, 1) := by decide +kernel
theorem dX12_multiplies_42 : decode cX12_multiplies 42 = .ok (.iload 4, 2) := by decide +kernel
theorem dX12_multiplies_44 : decode cX12_multiplies 44 = .ok (.iadd, 1) := by decide +kernel
theorem dX12_multiplies_45 : decode cX12_multiplies 45 = .ok (.iconst 0, 1) := by decide +kernel
theorem dX12_multiplies_46 : decode cX12_multiplies 46 = .ok (.iastore, 1) := by decide +kernel
theorem dX12_multiplies_47 : decode cX12_multiplies 47 = .ok (.iinc 4 1, 3) := by decide +kernel
theorem dX12_multiplies_50 : decode cX12_multiplies 50 = .ok (.goto (-28), 3) := by decide +kernel
theorem dX12_multiplies_53 : decode cX12_multiplies 53 = .ok (.iconst 0, 1) := by decide +kernel
theorem dX12_multiplies_54 : decode cX12_multiplies 54 = .ok (.istore 4, 2) := by decide +kernel
theorem dX12_multiplies_56 : decode cX12_multiplies 56 = .ok (.iload 4, 2) := by decide +kernel
theorem dX12_multiplies_58 : decode cX12_multiplies 58 = .ok (.aload_n 0, 1) := by decide +kernel
theorem dX12_multiplies_59 : decode cX12_multiplies 59 = .ok (.getfield 17, 3) := by decide +kernel
theorem dX12_multiplies_62 : decode cX12_multiplies 62 = .ok (.iload_n 2, 1) := by decide +kernel
theorem dX12_multiplies_63 : decode cX12_multiplies 63 = .ok (.iaload, 1) := by decide +kernel
theorem dX12_multiplies_64 : decode cX12_multiplies 64 = .ok (.if_icmp .ge 110, 3) := by decide +kernel
theorem dX12_multiplies_67 : decode cX12_multiplies 67 = .ok (.iconst 0, 1) := by decide +kernel
theorem dX12_multiplies_68 : decode cX12_multiplies 68 = .ok (.istore 5, 2) := by decide +kernel
theorem dX12_multiplies_70 : decode cX12_multiplies 70 = .ok (.iconst 0, 1) := by decide +kernel
theorem dX12_multiplies_71 : decode cX12_multiplies 71 = .ok (.istore 6, 2) := by decide +kernel
theorem dX12_multiplies_73 : decode cX12_multiplies 73 = .ok (.iload 6, 2) := by decide +kernel
theorem dX12_multiplies_75 : decode cX12_multiplies 75 = .ok (.aload_n 0, 1) := by decide +kernel
theorem dX12_multiplies_76 : decode cX12_multiplies 76 = .ok (.getfield 17, 3) := by decide +kernel
theorem dX12_multiplies_79 : decode cX12_multiplies 79 = .ok (.iload_n 3, 1) := by decide +kernel
theorem dX12_multiplies_80 : decode cX12_multiplies 80 = .ok (.iaload, 1) := by decide +kernel
theorem dX12_multiplies_81 : decode cX12_multiplies 81 = .ok (.if_icmp .lt 8, 3) := by decide +kernel
theorem dX12_multiplies_84 : decode cX12_multiplies 84 = .ok (.iload 5, 2) := by decide +kernel
theorem dX12_multiplies_86 : decode cX12_multiplies 86 = .ok (.ifCond .le 82, 3) := by decide +kernel
theorem dX12_multiplies_89 : decode cX12_multiplies 89 = .ok (.aload_n 0, 1) := by decide +kernel
theorem dX12_multiplies_90 : decode cX12_multiplies 90 = .ok (.getfield 13, 3) := by decide +kernel
theorem dX12_multiplies_93 : decode cX12_multiplies 93 = .ok (.sipush 1000, 3) := by decide +kernel
theorem dX12_multiplies_96 : decode cX12_multiplies 96 = .ok (.iload_n 1, 1) := by decide +kernel
theorem dX12_multiplies_97 : decode cX12_multiplies 97 = .ok (.imul, 1) := by decide +kernel
theorem dX12_multiplies_98 : decode cX12_multiplies 98 = .ok (.iload 4, 2) := by decide +kernel
theorem dX12_multiplies_100 : decode cX12_multiplies 100 = .ok (.iadd, 1) := by decide +kernel
theorem dX12_multiplies_101 : decode cX12_multiplies 101 = .ok (.iload 6, 2) := by decide +kernel
theorem dX12_multiplies_103 : decode cX12_multiplies 103 = .ok (.iadd, 1) := by decide +kernel
theorem dX12_multiplies_104 : decode cX12_multiplies 104 = .ok (.iaload, 1) := by decide +kernel
theorem dX12_multiplies_105 : decode cX12_multiplies 105 = .ok (.aload_n 0, 1) := by decide +kernel
theorem dX12_multiplies_106 : decode cX12_multiplies 106 = .ok (.getfield 13, 3) := by decide +kernel
theorem dX12_multiplies_109 : decode cX12_multiplies 109 = .ok (.sipush 1000, 3) := by decide +kernel
theorem dX12_multiplies_112 : decode cX12_multiplies 112 = .ok (.iload_n 2, 1) := by decide +kernel
theorem dX12_multiplies_113 : decode cX12_multiplies 113 = .ok (.imul, 1) := by decide +kernel
theorem dX12_multiplies_114 : decode cX12_multiplies 114 = .ok (.iload 4, 2) := by decide +kernel
theorem dX12_multiplies_116 : decode cX12_multiplies 116 = .ok (.iadd, 1) := by decide +kernel
theorem dX12_multiplies_117 : decode cX12_multiplies 117 = .ok (.iaload, 1) := by decide +kernel
theorem dX12_multiplies_118 : decode cX12_multiplies 118 = .ok (.aload_n 0, 1) := by decide +kernel
theorem dX12_multiplies_119 : decode cX12_multiplies 119 = .ok (.iload_n 3, 1) := by decide +kernel
theorem dX12_multiplies_120 : decode cX12_multiplies 120 = .ok (.iload 6, 2) := by decide +kernel
theorem dX12_multiplies_122 : decode cX12_multiplies 122 = .ok (.invokevirtual 173, 3) := by decide +kernel
theorem dX12_multiplies_125 : decode cX12_multiplies 125 = .ok (.imul, 1) := by decide +kernel
theorem dX12_multiplies_126 : decode cX12_multiplies 126 = .ok (.iadd, 1) := by decide +kernel
theorem dX12_multiplies_127 : decode cX12_multiplies 127 = .ok (.iload 5, 2) := by decide +kernel
theorem dX12_multiplies_129 : decode cX12_multiplies 129 = .ok (.iadd, 1) := by decide +kernel
theorem dX12_multiplies_130 : decode cX12_multiplies 130 = .ok (.istore 7, 2) := by decide +kernel
theorem dX12_multiplies_132 : decode cX12_multiplies 132 = .ok (.aload_n 0, 1) := by decide +kernel
theorem dX12_multiplies_133 : decode cX12_multiplies 133 = .ok (.getfield 13, 3) := by decide +kernel
theorem dX12_multiplies_136 : decode cX12_multiplies 136 = .ok (.sipush 1000, 3) := by decide +kernel
theorem dX12_multiplies_139 : decode cX12_multiplies 139 = .ok (.iload_n 1, 1) := by decide +kernel
theorem dX12_multiplies_140 : decode cX12_multiplies 140 = .ok (.imul, 1) := by decide +kernel
theorem dX12_multiplies_141 : decode cX12_multiplies 141 = .ok (.iload 4, 2) := by decide +kernel
theorem dX12_multiplies_143 : decode cX12_multiplies 143 = .ok (.iadd, 1) := by decide +kernel
theorem dX12_multiplies_144 : decode cX12_multiplies 144 = .ok (.iload 6, 2) := by decide +kernel
theorem dX12_multiplies_146 : decode cX12_multiplies 146 = .ok (.iadd, 1) := by decide +kernel
theorem dX12_multiplies_147 : decode cX12_multiplies 147 = .ok (.iload 7, 2) := by decide +kernel
theorem dX12_multiplies_149 : decode cX12_multiplies 149 = .ok (.sipush 10000, 3) := by decide +kernel
theorem dX12_multiplies_152 : decode cX12_multiplies 152 = .ok (.irem, 1) := by decide +kernel
theorem dX12_multiplies_153 : decode cX12_multiplies 153 = .ok (.iastore, 1) := by decide +kernel
theorem dX12_multiplies_154 : decode cX12_multiplies 154 = .ok (.iload 7, 2) := by decide +kernel
theorem dX12_multiplies_156 : decode cX12_multiplies 156 = .ok (.sipush 10000, 3) := by decide +kernel
theorem dX12_multiplies_159 : decode cX12_multiplies 159 = .ok (.idiv, 1) := by decide +kernel
theorem dX12_multiplies_160 : decode cX12_multiplies 160 = .ok (.istore 5, 2) := by decide +kernel
theorem dX12_multiplies_162 : decode cX12_multiplies 162 = .ok (.iinc 6 1, 3) := by decide +kernel
theorem dX12_multiplies_165 : decode cX12_multiplies 165 = .ok (.goto (-92), 3) := by decide +kernel
theorem dX12_multiplies_168 : decode cX12_multiplies 168 = .ok (.iinc 4 1, 3) := by decide +kernel
theorem dX12_multiplies_171 : decode cX12_multiplies 171 = .ok (.goto (-115), 3) := by decide +kernel
theorem dX12_multiplies_174 : decode cX12_multiplies 174 = .ok (.aload_n 0, 1) := by decide +kernel
theorem dX12_multiplies_175 : decode cX12_multiplies 175 = .ok (.iload_n 1, 1) := by decide +kernel
theorem dX12_multiplies_176 : decode cX12_multiplies 176 = .ok (.invokevirtual 177, 3) := by decide +kernel
theorem dX12_multiplies_179 : decode cX12_multiplies 179 = .ok (.return_, 1) := by decide +kernel
theorem dX12_times_0 : decode cX12_times 0 = .ok (.iconst 0, 1) := by decide +kernel
theorem dX12_times_1 : decode cX12_times 1 = .ok (.istore_n 3, 1) := by decide +kernel
theorem dX12_times_2 : decode cX12_times 2 = .ok (.iconst 0, 1) := by decide +kernel
theorem dX12_times_3 : decode cX12_times 3 = .ok (.istore 4, 2) := by decide +kernel
theorem dX12_times_5 : decode cX12_times 5 = .ok (.iload 4, 2) := by decide +kernel
theorem dX12_times_7 : decode cX12_times 7 = .ok (.aload_n 0, 1) := by decide +kernel
theorem dX12_times_8 : decode cX12_times 8 = .ok (.getfield 17, 3) := by decide +kernel
theorem dX12_times_11 : decode cX12_times 11 = .ok (.iload_n 1, 1) := by decide +kernel
theorem dX12_times_12 : decode cX12_times 12 = .ok (.iaload, 1) := by decide +kernel
theorem dX12_times_13 : decode cX12_times 13 = .ok (.if_icmp .ge 54, 3) := by decide +kernel
theorem dX12_times_16 : decode cX12_times 16 = .ok (.aload_n 0, 1) := by decide +kernel
theorem dX12_times_17 : decode cX12_times 17 = .ok (.getfield 13, 3) := by decide +kernel
theorem dX12_times_20 : decode cX12_times 20 = .ok (.sipush 1000, 3) := by decide +kernel
theorem dX12_times_23 : decode cX12_times 23 = .ok (.iload_n 1, 1) := by decide +kernel
theorem dX12_times_24 : decode cX12_times 24 = .ok (.imul, 1) := by decide +kernel
theorem dX12_times_25 : decode cX12_times 25 = .ok (.iload 4, 2) := by decide +kernel
theorem dX12_times_27 : decode cX12_times 27 = .ok (.iadd, 1) := by decide +kernel
theorem dX12_times_28 : decode cX12_times 28 = .ok (.iaload, 1) := by decide +kernel
theorem dX12_times_29 : decode cX12_times 29 = .ok (.iload_n 2, 1) := by decide +kernel
theorem dX12_times_30 : decode cX12_times 30 = .ok (.imul, 1) := by decide +kernel
theorem dX12_times_31 : decode cX12_times 31 = .ok (.iload_n 3, 1) := by decide +kernel
theorem dX12_times_32 : decode cX12_times 32 = .ok (.iadd, 1) := by decide +kernel
theorem dX12_times_33 : decode cX12_times 33 = .ok (.istore 5, 2) := by decide +kernel
theorem dX12_times_35 : decode cX12_times 35 = .ok (.aload_n 0, 1) := by decide +kernel
theorem dX12_times_36 : decode cX12_times 36 = .ok (.getfield 13, 3) := by decide +kernel
theorem dX12_times_39 : decode cX12_times 39 = .ok (.sipush 1000, 3) := by decide +kernel
theorem dX12_times_42 : decode cX12_times 42 = .ok (.iload_n 1, 1) := by decide +kernel
theorem dX12_times_43 : decode cX12_times 43 = .ok (.imul, 1) := by decide +kernel
theorem dX12_times_44 : decode cX12_times 44 = .ok (.iload 4, 2) := by decide +kernel
theorem dX12_times_46 : decode cX12_times 46 = .ok (.iadd, 1) := by decide +kernel
theorem dX12_times_47 : decode cX12_times 47 = .ok (.iload 5, 2) := by decide +kernel
theorem dX12_times_49 : decode cX12_times 49 = .ok (.sipush 10000, 3) := by decide +kernel
theorem dX12_times_52 : decode cX12_times 52 = .ok (.irem, 1) := by decide +kernel
theorem dX12_times_53 : decode cX12_times 53 = .ok (.iastore, 1) := by decide +kernel
theorem dX12_times_54 : decode cX12_times 54 = .ok (.iload 5, 2) := by decide +kernel
theorem dX12_times_56 : decode cX12_times 56 = .ok (.sipush 10000, 3) := by decide +kernel
theorem dX12_times_59 : decode cX12_times 59 = .ok (.idiv, 1) := by decide +kernel
theorem dX12_times_60 : decode cX12_times 60 = .ok (.istore_n 3, 1) := by decide +kernel
theorem dX12_times_61 : decode cX12_times 61 = .ok (.iinc 4 1, 3) := by decide +kernel
theorem dX12_times_64 : decode cX12_times 64 = .ok (.goto (-59), 3) := by decide +kernel
theorem dX12_times_67 : decode cX12_times 67 = .ok (.iload_n 3, 1) := by decide +kernel
theorem dX12_times_68 : decode cX12_times 68 = .ok (.ifCond .le 31, 3) := by decide +kernel
theorem dX12_times_71 : decode cX12_times 71 = .ok (.aload_n 0, 1) := by decide +kernel
theorem dX12_times_72 : decode cX12_times 72 = .ok (.getfield 13, 3) := by decide +kernel
theorem dX12_times_75 : decode cX12_times 75 = .ok (.sipush 1000, 3) := by decide +kernel
theorem dX12_times_78 : decode cX12_times 78 = .ok (.iload_n 1, 1) := by decide +kernel
theorem dX12_times_79 : decode cX12_times 79 = .ok (.imul, 1) := by decide +kernel
theorem dX12_times_80 : decode cX12_times 80 = .ok (.aload_n 0, 1) := by decide +kernel
theorem dX12_times_81 : decode cX12_times 81 = .ok (.getfield 17, 3) := by decide +kernel
theorem dX12_times_84 : decode cX12_times 84 = .ok (.iload_n 1, 1) := by decide +kernel
theorem dX12_times_85 : decode cX12_times 85 = .ok (.iaload, 1) := by decide +kernel
theorem dX12_times_86 : decode cX12_times 86 = .ok (.iadd, 1) := by decide +kernel
theorem dX12_times_87 : decode cX12_times 87 = .ok (.iload_n 3, 1) := by decide +kernel
theorem dX12_times_88 : decode cX12_times 88 = .ok (.iastore, 1) := by decide +kernel
theorem dX12_times_89 : decode cX12_times 89 = .ok (.aload_n 0, 1) := by decide +kernel
theorem dX12_times_90 : decode cX12_times 90 = .ok (.getfield 17, 3) := by decide +kernel
theorem dX12_times_93 : decode cX12_times 93 = .ok (.iload_n 1, 1) := by decide +kernel
theorem dX12_times_94 : decode cX12_times 94 = .ok (.dup2, 1) := by decide +kernel
theorem dX12_times_95 : decode cX12_times 95 = .ok (.iaload, 1) := by decide +kernel
theorem dX12_times_96 : decode cX12_times 96 = .ok (.iconst 1, 1) := by decide +kernel
theorem dX12_times_97 : decode cX12_times 97 = .ok (.iadd, 1) := by decide +kernel
theorem dX12_times_98 : decode cX12_times 98 = .ok (.iastore, 1) := by decide +kernel
theorem dX12_times_99 : decode cX12_times 99 = .ok (.aload_n 0, 1) := by decide +kernel
theorem dX12_times_100 : decode cX12_times 100 = .ok (.iload_n 1, 1) := by decide +kernel
theorem dX12_times_101 : decode cX12_times 101 = .ok (.invokevirtual 177, 3) := by decide +kernel
theorem dX12_times_104 : decode cX12_times 104 = .ok (.return_, 1) := by decide +kernel
theorem dX12_shortens_0 : decode cX12_shortens 0 = .ok (.iconst 0, 1) := by decide +kernel
theorem dX12_shortens_1 : decode cX12_shortens 1 = .ok (.istore_n 3, 1) := by decide +kernel
theorem dX12_shortens_2 : decode cX12_shortens 2 = .ok (.aload_n 0, 1) := by decide +kernel
theorem dX12_shortens_3 : decode cX12_shortens 3 = .ok (.getfield 17, 3) := by decide +kernel
theorem dX12_shortens_6 : decode cX12_shortens 6 = .ok (.iload_n 1, 1) := by decide +kernel
theorem dX12_shortens_7 : decode cX12_shortens 7 = .ok (.iaload, 1) := by decide +kernel
theorem dX12_shortens_8 : decode cX12_shortens 8 = .ok (.iconst 1, 1) := by decide +kernel
theorem dX12_shortens_9 : decode cX12_shortens 9 = .ok (.isub, 1) := by decide +kernel
theorem dX12_shortens_10 : decode cX12_shortens 10 = .ok (.istore 4, 2) := by decide +kernel
theorem dX12_shortens_12 : decode cX12_shortens 12 = .ok (.iload 4, 2) := by decide +kernel
theorem dX12_shortens_14 : decode cX12_shortens 14 = .ok (.ifCond .lt 52, 3) := by decide +kernel
theorem dX12_shortens_17 : decode cX12_shortens 17 = .ok (.iload_n 3, 1) := by decide +kernel
theorem dX12_shortens_18 : decode cX12_shortens 18 = .ok (.sipush 10000, 3) := by decide +kernel
theorem dX12_shortens_21 : decode cX12_shortens 21 = .ok (.imul, 1) := by decide +kernel
theorem dX12_shortens_22 : decode cX12_shortens 22 = .ok (.aload_n 0, 1) := by decide +kernel
theorem dX12_shortens_23 : decode cX12_shortens 23 = .ok (.getfield 13, 3) := by decide +kernel
theorem dX12_shortens_26 : decode cX12_shortens 26 = .ok (.sipush 1000, 3) := by decide +kernel
theorem dX12_shortens_29 : decode cX12_shortens 29 = .ok (.iload_n 1, 1) := by decide +kernel
theorem dX12_shortens_30 : decode cX12_shortens 30 = .ok (.imul, 1) := by decide +kernel
theorem dX12_shortens_31 : decode cX12_shortens 31 = .ok (.iload 4, 2) := by decide +kernel
theorem dX12_shortens_33 : decode cX12_shortens 33 = .ok (.iadd, 1) := by decide +kernel
theorem dX12_shortens_34 : decode cX12_shortens 34 = .ok (.iaload, 1) := by decide +kernel
theorem dX12_shortens_35 : decode cX12_shortens 35 = .ok (.iadd, 1) := by decide +kernel
theorem dX12_shortens_36 : decode cX12_shortens 36 = .ok (.istore 5, 2) := by decide +kernel
theorem dX12_shortens_38 : decode cX12_shortens 38 = .ok (.aload_n 0, 1) := by decide +kernel
theorem dX12_shortens_39 : decode cX12_shortens 39 = .ok (.getfield 13, 3) := by decide +kernel
theorem dX12_shortens_42 : decode cX12_shortens 42 = .ok (.sipush 1000, 3) := by decide +kernel
theorem dX12_shortens_45 : decode cX12_shortens 45 = .ok (.iload_n 1, 1) := by decide +kernel
theorem dX12_shortens_46 : decode cX12_shortens 46 = .ok (.imul, 1) := by decide +kernel
theorem dX12_shortens_47 : decode cX12_shortens 47 = .ok (.iload 4, 2) := by decide +kernel
theorem dX12_shortens_49 : decode cX12_shortens 49 = .ok (.iadd, 1) := by decide +kernel
theorem dX12_shortens_50 : decode cX12_shortens 50 = .ok (.iload 5, 2) := by decide +kernel
theorem dX12_shortens_52 : decode cX12_shortens 52 = .ok (.iload_n 2, 1) := by decide +kernel
theorem dX12_shortens_53 : decode cX12_shortens 53 = .ok (.idiv, 1) := by decide +kernel
theorem dX12_shortens_54 : decode cX12_shortens 54 = .ok (.iastore, 1) := by decide +kernel
theorem dX12_shortens_55 : decode cX12_shortens 55 = .ok (.iload 5, 2) := by decide +kernel
theorem dX12_shortens_57 : decode cX12_shortens 57 = .ok (.iload_n 2, 1) := by decide +kernel
theorem dX12_shortens_58 : decode cX12_shortens 58 = .ok (.irem, 1) := by decide +kernel
theorem dX12_shortens_59 : decode cX12_shortens 59 = .ok (.istore_n 3, 1) := by decide +kernel
theorem dX12_shortens_60 : decode cX12_shortens 60 = .ok (.iinc 4 (-1), 3) := by decide +kernel
theorem dX12_shortens_63 : decode cX12_shortens 63 = .ok (.goto (-51), 3) := by decide +kernel
theorem dX12_shortens_66 : decode cX12_shortens 66 = .ok (.aload_n 0, 1) := by decide +kernel
theorem dX12_shortens_67 : decode cX12_shortens 67 = .ok (.iload_n 1, 1) := by decide +kernel
theorem dX12_shortens_68 : decode cX12_shortens 68 = .ok (.invokevirtual 177, 3) := by decide +kernel
theorem dX12_shortens_71 : decode cX12_shortens 71 = .ok (.iload_n 3, 1) := by decide +kernel
theorem dX12_shortens_72 : decode cX12_shortens 72 = .ok (.ireturn, 1) := by decide +kernel
theorem dX12_divides_0 : decode cX12_divides 0 = .ok (.aload_n 0, 1) := by decide +kernel
theorem dX12_divides_1 : decode cX12_divides 1 = .ok (.bipush 10, 2) := by decide +kernel
theorem dX12_divides_3 : decode cX12_divides 3 = .ok (.iload_n 1, 1) := by decide +kernel
theorem dX12_divides_4 : decode cX12_divides 4 = .ok (.invokevirtual 181, 3) := by decide +kernel
theorem dX12_divides_7 : decode cX12_divides 7 = .ok (.aload_n 0, 1) := by decide +kernel
theorem dX12_divides_8 : decode cX12_divides 8 = .ok (.getfield 17, 3) := by decide +kernel
theorem dX12_divides_11 : decode cX12_divides 11 = .ok (.bipush 9, 2) := by decide +kernel
theorem dX12_divides_13 : decode cX12_divides 13 = .ok (.iconst 0, 1) := by decide +kernel
theorem dX12_divides_14 : decode cX12_divides 14 = .ok (.iastore, 1) := by decide +kernel
theorem dX12_divides_15 : decode cX12_divides 15 = .ok (.aload_n 0, 1) := by decide +kernel
theorem dX12_divides_16 : decode cX12_divides 16 = .ok (.iload_n 1, 1) := by decide +kernel
theorem dX12_divides_17 : decode cX12_divides 17 = .ok (.iload_n 2, 1) := by decide +kernel
theorem dX12_divides_18 : decode cX12_divides 18 = .ok (.invokevirtual 185, 3) := by decide +kernel
theorem dX12_divides_21 : decode cX12_divides 21 = .ok (.ifCond .ge 4, 3) := by decide +kernel
theorem dX12_divides_24 : decode cX12_divides 24 = .ok (.return_, 1) := by decide +kernel
theorem dX12_divides_25 : decode cX12_divides 25 = .ok (.aload_n 0, 1) := by decide +kernel
theorem dX12_divides_26 : decode cX12_divides 26 = .ok (.getfield 17, 3) := by decide +kernel
theorem dX12_divides_29 : decode cX12_divides 29 = .ok (.iload_n 2, 1) := by decide +kernel
theorem dX12_divides_30 : decode cX12_divides 30 = .ok (.iaload, 1) := by decide +kernel
theorem dX12_divides_31 : decode cX12_divides 31 = .ok (.iconst 1, 1) := by decide +kernel
theorem dX12_divides_32 : decode cX12_divides 32 = .ok (.if_icmp .ne 33, 3) := by decide +kernel
theorem dX12_divides_35 : decode cX12_divides 35 = .ok (.aload_n 0, 1) := by decide +kernel
theorem dX12_divides_36 : decode cX12_divides 36 = .ok (.bipush 9, 2) := by decide +kernel
theorem dX12_divides_38 : decode cX12_divides 38 = .ok (.iload_n 1, 1) := by decide +kernel
theorem dX12_divides_39 : decode cX12_divides 39 = .ok (.invokevirtual 181, 3) := by decide +kernel
theorem dX12_divides_42 : decode cX12_divides 42 = .ok (.aload_n 0, 1) := by decide +kernel
theorem dX12_divides_43 : decode cX12_divides 43 = .ok (.bipush 10, 2) := by decide +kernel
theorem dX12_divides_45 : decode cX12_divides 45 = .ok (.aload_n 0, 1) := by decide +kernel
theorem dX12_divides_46 : decode cX12_divides 46 = .ok (.bipush 9, 2) := by decide +kernel
theorem dX12_divides_48 : decode cX12_divides 48 = .ok (.aload_n 0, 1) := by decide +kernel
theorem dX12_divides_49 : decode cX12_divides 49 = .ok (.getfield 13, 3) := by decide +kernel
theorem dX12_divides_52 : decode cX12_divides 52 = .ok (.sipush 1000, 3) := by decide +kernel
theorem dX12_divides_55 : decode cX12_divides 55 = .ok (.iload_n 2, 1) := by decide +kernel
theorem dX12_divides_56 : decode cX12_divides 56 = .ok (.imul, 1) := by decide +kernel
theorem dX12_divides_57 : decode cX12_divides 57 = .ok (.iaload, 1) := by decide +kernel
theorem dX12_divides_58 : decode cX12_divides 58 = .ok (.invokevirtual 188, 3) := by decide +kernel
theorem dX12_divides_61 : decode cX12_divides 61 = .ok (.invokevirtual 191, 3) := by decide +kernel
theorem dX12_divides_64 : decode cX12_divides 64 = .ok (.return_, 1) := by decide +kernel
theorem dX12_divides_65 : decode cX12_divides 65 = .ok (.aload_n 0, 1) := by decide +kernel
theorem dX12_divides_66 : decode cX12_divides 66 = .ok (.bipush 11, 2) := by decide +kernel
theorem dX12_divides_68 : decode cX12_divides 68 = .ok (.iload_n 2, 1) := by decide +kernel
theorem dX12_divides_69 : decode cX12_divides 69 = .ok (.invokevirtual 181, 3) := by decide +kernel
theorem dX12_divides_72 : decode cX12_divides 72 = .ok (.sipush 10000, 3) := by decide +kernel
theorem dX12_divides_75 : decode cX12_divides 75 = .ok (.aload_n 0, 1) := by decide +kernel
theorem dX12_divides_76 : decode cX12_divides 76 = .ok (.getfield 13, 3) := by decide +kernel
theorem dX12_divides_79 : decode cX12_divides 79 = .ok (.sipush 1000, 3) := by decide +kernel
theorem dX12_divides_82 : decode cX12_divides 82 = .ok (.iload_n 2, 1) := by decide +kernel
theorem dX12_divides_83 : decode cX12_divides 83 = .ok (.imul, 1) := by decide +kernel
theorem dX12_divides_84 : decode cX12_divides 84 = .ok (.aload_n 0, 1) := by decide +kernel
theorem dX12_divides_85 : decode cX12_divides 85 = .ok (.getfield 17, 3) := by decide +kernel
theorem dX12_divides_88 : decode cX12_divides 88 = .ok (.iload_n 2, 1) := by decide +kernel
theorem dX12_divides_89 : decode cX12_divides 89 = .ok (.iaload, 1) := by decide +kernel
theorem dX12_divides_90 : decode cX12_divides 90 = .ok (.iadd, 1) := by decide +kernel
theorem dX12_divides_91 : decode cX12_divides 91 = .ok (.iconst 1, 1) := by decide +kernel
theorem dX12_divides_92 : decode cX12_divides 92 = .ok (.isub, 1) := by decide +kernel
theorem dX12_divides_93 : decode cX12_divides 93 = .ok (.iaload, 1) := by decide +kernel
theorem dX12_divides_94 : decode cX12_divides 94 = .ok (.iconst 1, 1) := by decide +kernel
theorem dX12_divides_95 : decode cX12_divides 95 = .ok (.iadd, 1) := by decide +kernel
theorem dX12_divides_96 : decode cX12_divides 96 = .ok (.idiv, 1) := by decide +kernel
theorem dX12_divides_97 : decode cX12_divides 97 = .ok (.istore_n 3, 1) := by decide +kernel
theorem dX12_divides_98 : decode cX12_divides 98 = .ok (.aload_n 0, 1) := by decide +kernel
theorem dX12_divides_99 : decode cX12_divides 99 = .ok (.bipush 11, 2) := by decide +kernel
theorem dX12_divides_101 : decode cX12_divides 101 = .ok (.iload_n 3, 1) := by decide +kernel
theorem dX12_divides_102 : decode cX12_divides 102 = .ok (.invokevirtual 194, 3) := by decide +kernel
theorem dX12_divides_105 : decode cX12_divides 105 = .ok (.aload_n 0, 1) := by decide +kernel
theorem dX12_divides_106 : decode cX12_divides 106 = .ok (.bipush 10, 2) := by decide +kernel
theorem dX12_divides_108 : decode cX12_divides 108 = .ok (.iload_n 3, 1) := by decide +kernel
theorem dX12_divides_109 : decode cX12_divides 109 = .ok (.invokevirtual 194, 3) := by decide +kernel
theorem dX12_divides_112 : decode cX12_divides 112 = .ok (.aload_n 0, 1) := by decide +kernel
theorem dX12_divides_113 : decode cX12_divides 113 = .ok (.getfield 17, 3) := by decide +kernel
theorem dX12_divides_116 : decode cX12_divides 116 = .ok (.bipush 11, 2) := by decide +kernel
theorem dX12_divides_118 : decode cX12_divides 118 = .ok (.iaload, 1) := by decide +kernel
theorem dX12_divides_119 : decode cX12_divides 119 = .ok (.istore 4, 2) := by decide +kernel
theorem dX12_divides_121 : decode cX12_divides 121 = .ok (.aload_n 0, 1) := by decide +kernel
theorem dX12_divides_122 : decode cX12_divides 122 = .ok (.getfield 17, 3) := by decide +kernel
theorem dX12_divides_125 : decode cX12_divides 125 = .ok (.bipush 10, 2) := by decide +kernel
theorem dX12_divides_127 : decode cX12_divides 127 = .ok (.iaload, 1) := by decide +kernel
theorem dX12_divides_128 : decode cX12_divides 128 = .ok (.iload 4, 2) := by decide +kernel
theorem dX12_divides_130 : decode cX12_divides 130 = .ok (.isub, 1) := by decide +kernel
theorem dX12_divides_131 : decode cX12_divides 131 = .ok (.istore 5, 2) := by decide +kernel
theorem dX12_divides_133 : decode cX12_divides 133 = .ok (.aload_n 0, 1) := by decide +kernel
theorem dX12_divides_134 : decode cX12_divides 134 = .ok (.getfield 13, 3) := by decide +kernel
theorem dX12_divides_137 : decode cX12_divides 137 = .ok (.sipush 10000, 3) := by decide +kernel
theorem dX12_divides_140 : decode cX12_divides 140 = .ok (.aload_n 0, 1) := by decide +kernel
theorem dX12_divides_141 : decode cX12_divides 141 = .ok (.getfield 17, 3) := by decide +kernel
theorem dX12_divides_144 : decode cX12_divides 144 = .ok (.bipush 10, 2) := by decide +kernel
theorem dX12_divides_146 : decode cX12_divides 146 = .ok (.iaload, 1) := by decide +kernel
theorem dX12_divides_147 : decode cX12_divides 147 = .ok (.iadd, 1) := by decide +kernel
theorem dX12_divides_148 : decode cX12_divides 148 = .ok (.iconst 0, 1) := by decide +kernel
theorem dX12_divides_149 : decode cX12_divides 149 = .ok (.iastore, 1) := by decide +kernel
theorem dX12_divides_150 : decode cX12_divides 150 = .ok (.aload_n 0, 1) := by decide +kernel
theorem dX12_divides_151 : decode cX12_divides 151 = .ok (.getfield 17, 3) := by decide +kernel
theorem dX12_divides_154 : decode cX12_divides 154 = .ok (.bipush 9, 2) := by decide +kernel
theorem dX12_divides_156 : decode cX12_divides 156 = .ok (.iload 5, 2) := by decide +kernel
theorem dX12_divides_158 : decode cX12_divides 158 = .ok (.iconst 1, 1) := by decide +kernel
theorem dX12_divides_159 : decode cX12_divides 159 = .ok (.iadd, 1) := by decide +kernel
theorem dX12_divides_160 : decode cX12_divides 160 = .ok (.iastore, 1) := by decide +kernel
theorem dX12_divides_161 : decode cX12_divides 161 = .ok (.iload 5, 2) := by decide +kernel
theorem dX12_divides_163 : decode cX12_divides 163 = .ok (.istore 6, 2) := by decide +kernel
theorem dX12_divides_165 : decode cX12_divides 165 = .ok (.iload 6, 2) := by decide +kernel
theorem dX12_divides_167 : decode cX12_divides 167 = .ok (.ifCond .lt 28, 3) := by decide +kernel
theorem dX12_divides_170 : decode cX12_divides 170 = .ok (.aload_n 0, 1) := by decide +kernel
theorem dX12_divides_171 : decode cX12_divides 171 = .ok (.getfield 13, 3) := by decide +kernel
theorem dX12_divides_174 : decode cX12_divides 174 = .ok (.sipush 9000, 3) := by decide +kernel
theorem dX12_divides_177 : decode cX12_divides 177 = .ok (.iload 6, 2) := by decide +kernel
theorem dX12_divides_179 : decode cX12_divides 179 = .ok (.iadd, 1) := by decide +kernel
theorem dX12_divides_180 : decode cX12_divides 180 = .ok (.aload_n 0, 1) := by decide +kernel
theorem dX12_divides_181 : decode cX12_divides 181 = .ok (.iload 6, 2) := by decide +kernel
theorem dX12_divides_183 : decode cX12_divides 183 = .ok (.iload 4, 2) := by decide +kernel
theorem dX12_divides_185 : decode cX12_divides 185 = .ok (.invokevirtual 197, 3) := by decide +kernel
theorem dX12_divides_188 : decode cX12_divides 188 = .ok (.iastore, 1) := by decide +kernel
theorem dX12_divides_189 : decode cX12_divides 189 = .ok (.iinc 6 (-1), 3) := by decide +kernel
theorem dX12_divides_192 : decode cX12_divides 192 = .ok (.goto (-27), 3) := by decide +kernel
theorem dX12_divides_195 : decode cX12_divides 195 = .ok (.aload_n 0, 1) := by decide +kernel
theorem dX12_divides_196 : decode cX12_divides 196 = .ok (.getfield 17, 3) := by decide +kernel
theorem dX12_divides_199 : decode cX12_divides 199 = .ok (.bipush 10, 2) := by decide +kernel
theorem dX12_divides_201 : decode cX12_divides 201 = .ok (.iload 4, 2) := by decide +kernel
theorem dX12_divides_203 : decode cX12_divides 203 = .ok (.iastore, 1) := by decide +kernel
theorem dX12_divides_204 : decode cX12_divides 204 = .ok (.aload_n 0, 1) := by decide +kernel
theorem dX12_divides_205 : decode cX12_divides 205 = .ok (.bipush 10, 2) := by decide +kernel
theorem dX12_divides_207 : decode cX12_divides 207 = .ok (.invokevirtual 177, 3) := by decide +kernel
theorem dX12_divides_210 : decode cX12_divides 210 = .ok (.aload_n 0, 1) := by decide +kernel
theorem dX12_divides_211 : decode cX12_divides 211 = .ok (.bipush 9, 2) := by decide +kernel
theorem dX12_divides_213 : decode cX12_divides 213 = .ok (.invokevirtual 177, 3) := by decide +kernel
theorem dX12_divides_216 : decode cX12_divides 216 = .ok (.aload_n 0, 1) := by decide +kernel
theorem dX12_divides_217 : decode cX12_divides 217 = .ok (.bipush 10, 2) := by decide +kernel
theorem dX12_divides_219 : decode cX12_divides 219 = .ok (.iload_n 3, 1) := by decide +kernel
theorem dX12_divides_220 : decode cX12_divides 220 = .ok (.invokevirtual 188, 3) := by decide +kernel
theorem dX12_divides_223 : decode cX12_divides 223 = .ok (.istore 6, 2) := by decide +kernel
theorem dX12_divides_225 : decode cX12_divides 225 = .ok (.return_, 1) := by decide +kernel
theorem dX12_digitAt_0 : decode cX12_digitAt 0 = .ok (.aload_n 0, 1) := by decide +kernel
theorem dX12_digitAt_1 : decode cX12_digitAt 1 = .ok (.getfield 13, 3) := by decide +kernel
theorem dX12_digitAt_4 : decode cX12_digitAt 4 = .ok (.sipush 11000, 3) := by decide +kernel
theorem dX12_digitAt_7 : decode cX12_digitAt 7 = .ok (.iload_n 2, 1) := by decide +kernel
theorem dX12_digitAt_8 : decode cX12_digitAt 8 = .ok (.iadd, 1) := by decide +kernel
theorem dX12_digitAt_9 : decode cX12_digitAt 9 = .ok (.iconst 1, 1) := by decide +kernel
theorem dX12_digitAt_10 : decode cX12_digitAt 10 = .ok (.isub, 1) := by decide +kernel
theorem dX12_digitAt_11 : decode cX12_digitAt 11 = .ok (.iaload, 1) := by decide +kernel
theorem dX12_digitAt_12 : decode cX12_digitAt 12 = .ok (.istore_n 3, 1) := by decide +kernel
theorem dX12_digitAt_13 : decode cX12_digitAt 13 = .ok (.aload_n 0, 1) := by decide +kernel
theorem dX12_digitAt_14 : decode cX12_digitAt 14 = .ok (.getfield 13, 3) := by decide +kernel
theorem dX12_digitAt_17 : decode cX12_digitAt 17 = .ok (.sipush 10000, 3) := by decide +kernel
theorem dX12_digitAt_20 : decode cX12_digitAt 20 = .ok (.iload_n 1, 1) := by decide +kernel
theorem dX12_digitAt_21 : decode cX12_digitAt 21 = .ok (.iadd, 1) := by decide +kernel
theorem dX12_digitAt_22 : decode cX12_digitAt 22 = .ok (.iload_n 2, 1) := by decide +kernel
theorem dX12_digitAt_23 : decode cX12_digitAt 23 = .ok (.iadd, 1) := by decide +kernel
theorem dX12_digitAt_24 : decode cX12_digitAt 24 = .ok (.iaload, 1) := by decide +kernel
theorem dX12_digitAt_25 : decode cX12_digitAt 25 = .ok (.sipush 10000, 3) := by decide +kernel
theorem dX12_digitAt_28 : decode cX12_digitAt 28 = .ok (.imul, 1) := by decide +kernel
theorem dX12_digitAt_29 : decode cX12_digitAt 29 = .ok (.aload_n 0, 1) := by decide +kernel
theorem dX12_digitAt_30 : decode cX12_digitAt 30 = .ok (.getfield 13, 3) := by decide +kernel
theorem dX12_digitAt_33 : decode cX12_digitAt 33 = .ok (.sipush 10000, 3) := by decide +kernel
theorem dX12_digitAt_36 : decode cX12_digitAt 36 = .ok (.iload_n 1, 1) := by decide +kernel
theorem dX12_digitAt_37 : decode cX12_digitAt 37 = .ok (.iadd, 1) := by decide +kernel
theorem dX12_digitAt_38 : decode cX12_digitAt 38 = .ok (.iload_n 2, 1) := by decide +kernel
theorem dX12_digitAt_39 : decode cX12_digitAt 39 = .ok (.iadd, 1) := by decide +kernel
theorem dX12_digitAt_40 : decode cX12_digitAt 40 = .ok (.iconst 1, 1) := by decide +kernel
theorem dX12_digitAt_41 : decode cX12_digitAt 41 = .ok (.isub, 1) := by decide +kernel
theorem dX12_digitAt_42 : decode cX12_digitAt 42 = .ok (.iaload, 1) := by decide +kernel
theorem dX12_digitAt_43 : decode cX12_digitAt 43 = .ok (.iadd, 1) := by decide +kernel
theorem dX12_digitAt_44 : decode cX12_digitAt 44 = .ok (.istore 4, 2) := by decide +kernel
theorem dX12_digitAt_46 : decode cX12_digitAt 46 = .ok (.iload 4, 2) := by decide +kernel
theorem dX12_digitAt_48 : decode cX12_digitAt 48 = .ok (.iload_n 3, 1) := by decide +kernel
theorem dX12_digitAt_49 : decode cX12_digitAt 49 = .ok (.idiv, 1) := by decide +kernel
theorem dX12_digitAt_50 : decode cX12_digitAt 50 = .ok (.istore 5, 2) := by decide +kernel
theorem dX12_digitAt_52 : decode cX12_digitAt 52 = .ok (.iload 4, 2) := by decide +kernel
theorem dX12_digitAt_54 : decode cX12_digitAt 54 = .ok (.iload_n 3, 1) := by decide +kernel
theorem dX12_digitAt_55 : decode cX12_digitAt 55 = .ok (.irem, 1) := by decide +kernel
theorem dX12_digitAt_56 : decode cX12_digitAt 56 = .ok (.istore 6, 2) := by decide +kernel
theorem dX12_digitAt_58 : decode cX12_digitAt 58 = .ok (.iload 6, 2) := by decide +kernel
theorem dX12_digitAt_60 : decode cX12_digitAt 60 = .ok (.sipush 10000, 3) := by decide +kernel
theorem dX12_digitAt_63 : decode cX12_digitAt 63 = .ok (.if_icmp .ge 62, 3) := by decide +kernel
theorem dX12_digitAt_66 : decode cX12_digitAt 66 = .ok (.iload 5, 2) := by decide +kernel
theorem dX12_digitAt_68 : decode cX12_digitAt 68 = .ok (.sipush 10000, 3) := by decide +kernel
theorem dX12_digitAt_71 : decode cX12_digitAt 71 = .ok (.if_icmp .ge 42, 3) := by decide +kernel
theorem dX12_digitAt_74 : decode cX12_digitAt 74 = .ok (.iload 5, 2) := by decide +kernel
theorem dX12_digitAt_76 : decode cX12_digitAt 76 = .ok (.aload_n 0, 1) := by decide +kernel
theorem dX12_digitAt_77 : decode cX12_digitAt 77 = .ok (.getfield 13, 3) := by decide +kernel
theorem dX12_digitAt_80 : decode cX12_digitAt 80 = .ok (.sipush 11000, 3) := by decide +kernel
theorem dX12_digitAt_83 : decode cX12_digitAt 83 = .ok (.iload_n 2, 1) := by decide +kernel
theorem dX12_digitAt_84 : decode cX12_digitAt 84 = .ok (.iadd, 1) := by decide +kernel
theorem dX12_digitAt_85 : decode cX12_digitAt 85 = .ok (.iconst 2, 1) := by decide +kernel
theorem dX12_digitAt_86 : decode cX12_digitAt 86 = .ok (.isub, 1) := by decide +kernel
theorem dX12_digitAt_87 : decode cX12_digitAt 87 = .ok (.iaload, 1) := by decide +kernel
theorem dX12_digitAt_88 : decode cX12_digitAt 88 = .ok (.imul, 1) := by decide +kernel
theorem dX12_digitAt_89 : decode cX12_digitAt 89 = .ok (.iload 6, 2) := by decide +kernel
theorem dX12_digitAt_91 : decode cX12_digitAt 91 = .ok (.sipush 10000, 3) := by decide +kernel
theorem dX12_digitAt_94 : decode cX12_digitAt 94 = .ok (.imul, 1) := by decide +kernel
theorem dX12_digitAt_95 : decode cX12_digitAt 95 = .ok (.aload_n 0, 1) := by decide +kernel
theorem dX12_digitAt_96 : decode cX12_digitAt 96 = .ok (.getfield 13, 3) := by decide +kernel
theorem dX12_digitAt_99 : decode cX12_digitAt 99 = .ok (.sipush 10000, 3) := by decide +kernel
theorem dX12_digitAt_102 : decode cX12_digitAt 102 = .ok (.iload_n 1, 1) := by decide +kernel
theorem dX12_digitAt_103 : decode cX12_digitAt 103 = .ok (.iadd, 1) := by decide +kernel
theorem dX12_digitAt_104 : decode cX12_digitAt 104 = .ok (.iload_n 2, 1) := by decide +kernel
theorem dX12_digitAt_105 : decode cX12_digitAt 105 = .ok (.iadd, 1) := by decide +kernel
theorem dX12_digitAt_106 : decode cX12_digitAt 106 = .ok (.iconst 2, 1) := by decide +kernel
theorem dX12_digitAt_107 : decode cX12_digitAt 107 = .ok (.isub, 1) := by decide +kernel
theorem dX12_digitAt_108 : decode cX12_digitAt 108 = .ok (.iaload, 1) := by decide +kernel
theorem dX12_digitAt_109 : decode cX12_digitAt 109 = .ok (.iadd, 1) := by decide +kernel
theorem dX12_digitAt_110 : decode cX12_digitAt 110 = .ok (.if_icmp .le 15, 3) := by decide +kernel
theorem dX12_digitAt_113 : decode cX12_digitAt 113 = .ok (.iinc 5 (-1), 3) := by decide +kernel
theorem dX12_digitAt_116 : decode cX12_digitAt 116 = .ok (.iload 6, 2) := by decide +kernel
theorem dX12_digitAt_118 : decode cX12_digitAt 118 = .ok (.iload_n 3, 1) := by decide +kernel
theorem dX12_digitAt_119 : decode cX12_digitAt 119 = .ok (.iadd, 1) := by decide +kernel
theorem dX12_digitAt_120 : decode cX12_digitAt 120 = .ok (.istore 6, 2) := by decide +kernel
theorem dX12_digitAt_122 : decode cX12_digitAt 122 = .ok (.goto (-64), 3) := by decide +kernel
theorem dX12_digitAt_125 : decode cX12_digitAt 125 = .ok (.aload_n 0, 1) := by decide +kernel
theorem dX12_digitAt_126 : decode cX12_digitAt 126 = .ok (.iload_n 1, 1) := by decide +kernel
theorem dX12_digitAt_127 : decode cX12_digitAt 127 = .ok (.iload_n 2, 1) := by decide +kernel
theorem dX12_digitAt_128 : decode cX12_digitAt 128 = .ok (.iload 5, 2) := by decide +kernel
theorem dX12_digitAt_130 : decode cX12_digitAt 130 = .ok (.invokevirtual 200, 3) := by decide +kernel
theorem dX12_digitAt_133 : decode cX12_digitAt 133 = .ok (.istore 7, 2) := by decide +kernel
theorem dX12_digitAt_135 : decode cX12_digitAt 135 = .ok (.iload 7, 2) := by decide +kernel
theorem dX12_digitAt_137 : decode cX12_digitAt 137 = .ok (.ifCond .ne 6, 3) := by decide +kernel
theorem dX12_digitAt_140 : decode cX12_digitAt 140 = .ok (.iload 5, 2) := by decide +kernel
theorem dX12_digitAt_142 : decode cX12_digitAt 142 = .ok (.ireturn, 1) := by decide +kernel
theorem dX12_digitAt_143 : decode cX12_digitAt 143 = .ok (.iconst 0, 1) := by decide +kernel
theorem dX12_digitAt_144 : decode cX12_digitAt 144 = .ok (.istore 8, 2) := by decide +kernel
theorem dX12_digitAt_146 : decode cX12_digitAt 146 = .ok (.iconst 0, 1) := by decide +kernel
theorem dX12_digitAt_147 : decode cX12_digitAt 147 = .ok (.istore 9, 2) := by decide +kernel
theorem dX12_digitAt_149 : decode cX12_digitAt 149 = .ok (.iload 9, 2) := by decide +kernel
theorem dX12_digitAt_151 : decode cX12_digitAt 151 = .ok (.iload_n 2, 1) := by decide +kernel
theorem dX12_digitAt_152 : decode cX12_digitAt 152 = .ok (.if_icmp .gt 76, 3) := by decide +kernel
theorem dX12_digitAt_155 : decode cX12_digitAt 155 = .ok (.aload_n 0, 1) := by decide +kernel
theorem dX12_digitAt_156 : decode cX12_digitAt 156 = .ok (.getfield 13, 3) := by decide +kernel
theorem dX12_digitAt_159 : decode cX12_digitAt 159 = .ok (.sipush 10000, 3) := by decide +kernel
theorem dX12_digitAt_162 : decode cX12_digitAt 162 = .ok (.iload_n 1, 1) := by decide +kernel
theorem dX12_digitAt_163 : decode cX12_digitAt 163 = .ok (.iadd, 1) := by decide +kernel
theorem dX12_digitAt_164 : decode cX12_digitAt 164 = .ok (.iload 9, 2) := by decide +kernel
theorem dX12_digitAt_166 : decode cX12_digitAt 166 = .ok (.iadd, 1) := by decide +kernel
theorem dX12_digitAt_167 : decode cX12_digitAt 167 = .ok (.iaload, 1) := by decide +kernel
theorem dX12_digitAt_168 : decode cX12_digitAt 168 = .ok (.iload 9, 2) := by decide +kernel
theorem dX12_digitAt_170 : decode cX12_digitAt 170 = .ok (.iload_n 2, 1) := by decide +kernel
theorem dX12_digitAt_171 : decode cX12_digitAt 171 = .ok (.if_icmp .ge 17, 3) := by decide +kernel
theorem dX12_digitAt_174 : decode cX12_digitAt 174 = .ok (.aload_n 0, 1) := by decide +kernel
theorem dX12_digitAt_175 : decode cX12_digitAt 175 = .ok (.getfield 13, 3) := by decide +kernel
theorem dX12_digitAt_178 : decode cX12_digitAt 178 = .ok (.sipush 11000, 3) := by decide +kernel
theorem dX12_digitAt_181 : decode cX12_digitAt 181 = .ok (.iload 9, 2) := by decide +kernel
theorem dX12_digitAt_183 : decode cX12_digitAt 183 = .ok (.iadd, 1) := by decide +kernel
theorem dX12_digitAt_184 : decode cX12_digitAt 184 = .ok (.iaload, 1) := by decide +kernel
theorem dX12_digitAt_185 : decode cX12_digitAt 185 = .ok (.goto 4, 3) := by decide +kernel
theorem dX12_digitAt_188 : decode cX12_digitAt 188 = .ok (.iconst 0, 1) := by decide +kernel
theorem dX12_digitAt_189 : decode cX12_digitAt 189 = .ok (.iadd, 1) := by decide +kernel
theorem dX12_digitAt_190 : decode cX12_digitAt 190 = .ok (.iload 8, 2) := by decide +kernel
theorem dX12_digitAt_192 : decode cX12_digitAt 192 = .ok (.iadd, 1) := by decide +kernel
theorem dX12_digitAt_193 : decode cX12_digitAt 193 = .ok (.istore 10, 2) := by decide +kernel
theorem dX12_digitAt_195 : decode cX12_digitAt 195 = .ok (.aload_n 0, 1) := by decide +kernel
theorem dX12_digitAt_196 : decode cX12_digitAt 196 = .ok (.getfield 13, 3) := by decide +kernel
theorem dX12_digitAt_199 : decode cX12_digitAt 199 = .ok (.sipush 10000, 3) := by decide +kernel
theorem dX12_digitAt_202 : decode cX12_digitAt 202 = .ok (.iload_n 1, 1) := by decide +kernel
theorem dX12_digitAt_203 : decode cX12_digitAt 203 = .ok (.iadd, 1) := by decide +kernel
theorem dX12_digitAt_204 : decode cX12_digitAt 204 = .ok (.iload 9, 2) := by decide +kernel
theorem dX12_digitAt_206 : decode cX12_digitAt 206 = .ok (.iadd, 1) := by decide +kernel
theorem dX12_digitAt_207 : decode cX12_digitAt 207 = .ok (.iload 10, 2) := by decide +kernel
theorem dX12_digitAt_209 : decode cX12_digitAt 209 = .ok (.sipush 10000, 3) := by decide +kernel
theorem dX12_digitAt_212 : decode cX12_digitAt 212 = .ok (.irem, 1) := by decide +kernel
theorem dX12_digitAt_213 : decode cX12_digitAt 213 = .ok (.iastore, 1) := by decide +kernel
theorem dX12_digitAt_214 : decode cX12_digitAt 214 = .ok (.iload 10, 2) := by decide +kernel
theorem dX12_digitAt_216 : decode cX12_digitAt 216 = .ok (.sipush 10000, 3) := by decide +kernel
theorem dX12_digitAt_219 : decode cX12_digitAt 219 = .ok (.idiv, 1) := by decide +kernel
theorem dX12_digitAt_220 : decode cX12_digitAt 220 = .ok (.istore 8, 2) := by decide +kernel
theorem dX12_digitAt_222 : decode cX12_digitAt 222 = .ok (.iinc 9 1, 3) := by decide +kernel
theorem dX12_digitAt_225 : decode cX12_digitAt 225 = .ok (.goto (-76), 3) := by decide +kernel
theorem dX12_digitAt_228 : decode cX12_digitAt 228 = .ok (.iload 5, 2) := by decide +kernel
theorem dX12_digitAt_230 : decode cX12_digitAt 230 = .ok (.iconst 1, 1) := by decide +kernel
theorem dX12_digitAt_231 : decode cX12_digitAt 231 = .ok (.isub, 1) := by decide +kernel
theorem dX12_digitAt_232 : decode cX12_digitAt 232 = .ok (.ireturn, 1) := by decide +kernel
theorem dX12_takes_0 : decode cX12_takes 0 = .ok (.iconst 0, 1) := by decide +kernel
theorem dX12_takes_1 : decode cX12_takes 1 = .ok (.istore 4, 2) := by decide +kernel
theorem dX12_takes_3 : decode cX12_takes 3 = .ok (.iconst 0, 1) := by decide +kernel
theorem dX12_takes_4 : decode cX12_takes 4 = .ok (.istore 5, 2) := by decide +kernel
theorem dX12_takes_6 : decode cX12_takes 6 = .ok (.iconst 0, 1) := by decide +kernel
theorem dX12_takes_7 : decode cX12_takes 7 = .ok (.istore 6, 2) := by decide +kernel
theorem dX12_takes_9 : decode cX12_takes 9 = .ok (.iload 6, 2) := by decide +kernel
theorem dX12_takes_11 : decode cX12_takes 11 = .ok (.iload_n 2, 1) := by decide +kernel
theorem dX12_takes_12 : decode cX12_takes 12 = .ok (.if_icmp .gt 104, 3) := by decide +kernel
theorem dX12_takes_15 : decode cX12_takes 15 = .ok (.iload 6, 2) := by decide +kernel
theorem dX12_takes_17 : decode cX12_takes 17 = .ok (.iload_n 2, 1) := by decide +kernel
theorem dX12_takes_18 : decode cX12_takes 18 = .ok (.if_icmp .ge 19, 3) := by decide +kernel
theorem dX12_takes_21 : decode cX12_takes 21 = .ok (.aload_n 0, 1) := by decide +kernel
theorem dX12_takes_22 : decode cX12_takes 22 = .ok (.getfield 13, 3) := by decide +kernel
theorem dX12_takes_25 : decode cX12_takes 25 = .ok (.sipush 11000, 3) := by decide +kernel
theorem dX12_takes_28 : decode cX12_takes 28 = .ok (.iload 6, 2) := by decide +kernel
theorem dX12_takes_30 : decode cX12_takes 30 = .ok (.iadd, 1) := by decide +kernel
theorem dX12_takes_31 : decode cX12_takes 31 = .ok (.iaload, 1) := by decide +kernel
theorem dX12_takes_32 : decode cX12_takes 32 = .ok (.iload_n 3, 1) := by decide +kernel
theorem dX12_takes_33 : decode cX12_takes 33 = .ok (.imul, 1) := by decide +kernel
theorem dX12_takes_34 : decode cX12_takes 34 = .ok (.goto 4, 3) := by decide +kernel
theorem dX12_takes_37 : decode cX12_takes 37 = .ok (.iconst 0, 1) := by decide +kernel
theorem dX12_takes_38 : decode cX12_takes 38 = .ok (.iload 5, 2) := by decide +kernel
theorem dX12_takes_40 : decode cX12_takes 40 = .ok (.iadd, 1) := by decide +kernel
theorem dX12_takes_41 : decode cX12_takes 41 = .ok (.istore 7, 2) := by decide +kernel
theorem dX12_takes_43 : decode cX12_takes 43 = .ok (.iload 7, 2) := by decide +kernel
theorem dX12_takes_45 : decode cX12_takes 45 = .ok (.sipush 10000, 3) := by decide +kernel
theorem dX12_takes_48 : decode cX12_takes 48 = .ok (.idiv, 1) := by decide +kernel
theorem dX12_takes_49 : decode cX12_takes 49 = .ok (.istore 5, 2) := by decide +kernel
theorem dX12_takes_51 : decode cX12_takes 51 = .ok (.aload_n 0, 1) := by decide +kernel
theorem dX12_takes_52 : decode cX12_takes 52 = .ok (.getfield 13, 3) := by decide +kernel
theorem dX12_takes_55 : decode cX12_takes 55 = .ok (.sipush 10000, 3) := by decide +kernel
theorem dX12_takes_58 : decode cX12_takes 58 = .ok (.iload_n 1, 1) := by decide +kernel
theorem dX12_takes_59 : decode cX12_takes 59 = .ok (.iadd, 1) := by decide +kernel
theorem dX12_takes_60 : decode cX12_takes 60 = .ok (.iload 6, 2) := by decide +kernel
theorem dX12_takes_62 : decode cX12_takes 62 = .ok (.iadd, 1) := by decide +kernel
theorem dX12_takes_63 : decode cX12_takes 63 = .ok (.iaload, 1) := by decide +kernel
theorem dX12_takes_64 : decode cX12_takes 64 = .ok (.iload 7, 2) := by decide +kernel
theorem dX12_takes_66 : decode cX12_takes 66 = .ok (.sipush 10000, 3) := by decide +kernel
theorem dX12_takes_69 : decode cX12_takes 69 = .ok (.irem, 1) := by decide +kernel
theorem dX12_takes_70 : decode cX12_takes 70 = .ok (.isub, 1) := by decide +kernel
theorem dX12_takes_71 : decode cX12_takes 71 = .ok (.iload 4, 2) := by decide +kernel
theorem dX12_takes_73 : decode cX12_takes 73 = .ok (.isub, 1) := by decide +kernel
theorem dX12_takes_74 : decode cX12_takes 74 = .ok (.istore 8, 2) := by decide +kernel
theorem dX12_takes_76 : decode cX12_takes 76 = .ok (.iload 8, 2) := by decide +kernel
theorem dX12_takes_78 : decode cX12_takes 78 = .ok (.ifCond .ge 7, 3) := by decide +kernel
theorem dX12_takes_81 : decode cX12_takes 81 = .ok (.iconst 1, 1) := by decide +kernel
theorem dX12_takes_82 : decode cX12_takes 82 = .ok (.goto 4, 3) := by decide +kernel
theorem dX12_takes_85 : decode cX12_takes 85 = .ok (.iconst 0, 1) := by decide +kernel
theorem dX12_takes_86 : decode cX12_takes 86 = .ok (.istore 4, 2) := by decide +kernel
theorem dX12_takes_88 : decode cX12_takes 88 = .ok (.aload_n 0, 1) := by decide +kernel
theorem dX12_takes_89 : decode cX12_takes 89 = .ok (.getfield 13, 3) := by decide +kernel
theorem dX12_takes_92 : decode cX12_takes 92 = .ok (.sipush 10000, 3) := by decide +kernel
theorem dX12_takes_95 : decode cX12_takes 95 = .ok (.iload_n 1, 1) := by decide +kernel
theorem dX12_takes_96 : decode cX12_takes 96 = .ok (.iadd, 1) := by decide +kernel
theorem dX12_takes_97 : decode cX12_takes 97 = .ok (.iload 6, 2) := by decide +kernel
theorem dX12_takes_99 : decode cX12_takes 99 = .ok (.iadd, 1) := by decide +kernel
theorem dX12_takes_100 : decode cX12_takes 100 = .ok (.iload 8, 2) := by decide +kernel
theorem dX12_takes_102 : decode cX12_takes 102 = .ok (.iload 4, 2) := by decide +kernel
theorem dX12_takes_104 : decode cX12_takes 104 = .ok (.sipush 10000, 3) := by decide +kernel
theorem dX12_takes_107 : decode cX12_takes 107 = .ok (.imul, 1) := by decide +kernel
theorem dX12_takes_108 : decode cX12_takes 108 = .ok (.iadd, 1) := by decide +kernel
theorem dX12_takes_109 : decode cX12_takes 109 = .ok (.iastore, 1) := by decide +kernel
theorem dX12_takes_110 : decode cX12_takes 110 = .ok (.iinc 6 1, 3) := by decide +kernel
theorem dX12_takes_113 : decode cX12_takes 113 = .ok (.goto (-104), 3) := by decide +kernel
theorem dX12_takes_116 : decode cX12_takes 116 = .ok (.iload 4, 2) := by decide +kernel
theorem dX12_takes_118 : decode cX12_takes 118 = .ok (.ireturn, 1) := by decide +kernel
theorem dX12_finds_0 : decode cX12_finds 0 = .ok (.aload_n 0, 1) := by decide +kernel
theorem dX12_finds_1 : decode cX12_finds 1 = .ok (.bipush 8, 2) := by decide +kernel
theorem dX12_finds_3 : decode cX12_finds 3 = .ok (.iload_n 1, 1) := by decide +kernel
theorem dX12_finds_4 : decode cX12_finds 4 = .ok (.invokevirtual 181, 3) := by decide +kernel
theorem dX12_finds_7 : decode cX12_finds 7 = .ok (.aload_n 0, 1) := by decide +kernel
theorem dX12_finds_8 : decode cX12_finds 8 = .ok (.bipush 12, 2) := by decide +kernel
theorem dX12_finds_10 : decode cX12_finds 10 = .ok (.iload_n 2, 1) := by decide +kernel
theorem dX12_finds_11 : decode cX12_finds 11 = .ok (.invokevirtual 181, 3) := by decide +kernel
theorem dX12_finds_14 : decode cX12_finds 14 = .ok (.aload_n 0, 1) := by decide +kernel
theorem dX12_finds_15 : decode cX12_finds 15 = .ok (.getfield 17, 3) := by decide +kernel
theorem dX12_finds_18 : decode cX12_finds 18 = .ok (.bipush 12, 2) := by decide +kernel
theorem dX12_finds_20 : decode cX12_finds 20 = .ok (.iaload, 1) := by decide +kernel
theorem dX12_finds_21 : decode cX12_finds 21 = .ok (.ifCond .le 30, 3) := by decide +kernel
theorem dX12_finds_24 : decode cX12_finds 24 = .ok (.aload_n 0, 1) := by decide +kernel
theorem dX12_finds_25 : decode cX12_finds 25 = .ok (.bipush 8, 2) := by decide +kernel
theorem dX12_finds_27 : decode cX12_finds 27 = .ok (.bipush 12, 2) := by decide +kernel
theorem dX12_finds_29 : decode cX12_finds 29 = .ok (.invokevirtual 204, 3) := by decide +kernel
theorem dX12_finds_32 : decode cX12_finds 32 = .ok (.aload_n 0, 1) := by decide +kernel
theorem dX12_finds_33 : decode cX12_finds 33 = .ok (.bipush 8, 2) := by decide +kernel
theorem dX12_finds_35 : decode cX12_finds 35 = .ok (.bipush 12, 2) := by decide +kernel
theorem dX12_finds_37 : decode cX12_finds 37 = .ok (.invokevirtual 181, 3) := by decide +kernel
theorem dX12_finds_40 : decode cX12_finds 40 = .ok (.aload_n 0, 1) := by decide +kernel
theorem dX12_finds_41 : decode cX12_finds 41 = .ok (.bipush 12, 2) := by decide +kernel
theorem dX12_finds_43 : decode cX12_finds 43 = .ok (.bipush 10, 2) := by decide +kernel
theorem dX12_finds_45 : decode cX12_finds 45 = .ok (.invokevirtual 181, 3) := by decide +kernel
theorem dX12_finds_48 : decode cX12_finds 48 = .ok (.goto (-34), 3) := by decide +kernel
theorem dX12_finds_51 : decode cX12_finds 51 = .ok (.return_, 1) := by decide +kernel
theorem dX12_loads_0 : decode cX12_loads 0 = .ok (.aload_n 0, 1) := by decide +kernel
theorem dX12_loads_1 : decode cX12_loads 1 = .ok (.getfield 17, 3) := by decide +kernel
theorem dX12_loads_4 : decode cX12_loads 4 = .ok (.iload_n 1, 1) := by decide +kernel
theorem dX12_loads_5 : decode cX12_loads 5 = .ok (.bipush 8, 2) := by decide +kernel
theorem dX12_loads_7 : decode cX12_loads 7 = .ok (.iastore, 1) := by decide +kernel
theorem dX12_loads_8 : decode cX12_loads 8 = .ok (.bipush 16, 2) := by decide +kernel
theorem dX12_loads_10 : decode cX12_loads 10 = .ok (.iload_n 2, 1) := by decide +kernel
theorem dX12_loads_11 : decode cX12_loads 11 = .ok (.imul, 1) := by decide +kernel
theorem dX12_loads_12 : decode cX12_loads 12 = .ok (.iload_n 3, 1) := by decide +kernel
theorem dX12_loads_13 : decode cX12_loads 13 = .ok (.ifCond .eq 8, 3) := by decide +kernel
theorem dX12_loads_16 : decode cX12_loads 16 = .ok (.bipush 8, 2) := by decide +kernel
theorem dX12_loads_18 : decode cX12_loads 18 = .ok (.goto 4, 3) := by decide +kernel
theorem dX12_loads_21 : decode cX12_loads 21 = .ok (.iconst 0, 1) := by decide +kernel
theorem dX12_loads_22 : decode cX12_loads 22 = .ok (.iadd, 1) := by decide +kernel
theorem dX12_loads_23 : decode cX12_loads 23 = .ok (.istore 4, 2) := by decide +kernel
theorem dX12_loads_25 : decode cX12_loads 25 = .ok (.iconst 0, 1) := by decide +kernel
theorem dX12_loads_26 : decode cX12_loads 26 = .ok (.istore 5, 2) := by decide +kernel
theorem dX12_loads_28 : decode cX12_loads 28 = .ok (.iload 5, 2) := by decide +kernel
theorem dX12_loads_30 : decode cX12_loads 30 = .ok (.bipush 8, 2) := by decide +kernel
theorem dX12_loads_32 : decode cX12_loads 32 = .ok (.if_icmp .ge 32, 3) := by decide +kernel
theorem dX12_loads_35 : decode cX12_loads 35 = .ok (.aload_n 0, 1) := by decide +kernel
theorem dX12_loads_36 : decode cX12_loads 36 = .ok (.getfield 13, 3) := by decide +kernel
theorem dX12_loads_39 : decode cX12_loads 39 = .ok (.sipush 1000, 3) := by decide +kernel
theorem dX12_loads_42 : decode cX12_loads 42 = .ok (.iload_n 1, 1) := by decide +kernel
theorem dX12_loads_43 : decode cX12_loads 43 = .ok (.imul, 1) := by decide +kernel
theorem dX12_loads_44 : decode cX12_loads 44 = .ok (.iload 5, 2) := by decide +kernel
theorem dX12_loads_46 : decode cX12_loads 46 = .ok (.iadd, 1) := by decide +kernel
theorem dX12_loads_47 : decode cX12_loads 47 = .ok (.aload_n 0, 1) := by decide +kernel
theorem dX12_loads_48 : decode cX12_loads 48 = .ok (.getfield 24, 3) := by decide +kernel
theorem dX12_loads_51 : decode cX12_loads 51 = .ok (.iload 4, 2) := by decide +kernel
theorem dX12_loads_53 : decode cX12_loads 53 = .ok (.iload 5, 2) := by decide +kernel
theorem dX12_loads_55 : decode cX12_loads 55 = .ok (.iadd, 1) := by decide +kernel
theorem dX12_loads_56 : decode cX12_loads 56 = .ok (.iaload, 1) := by decide +kernel
theorem dX12_loads_57 : decode cX12_loads 57 = .ok (.iastore, 1) := by decide +kernel
theorem dX12_loads_58 : decode cX12_loads 58 = .ok (.iinc 5 1, 3) := by decide +kernel
theorem dX12_loads_61 : decode cX12_loads 61 = .ok (.goto (-33), 3) := by decide +kernel
theorem dX12_loads_64 : decode cX12_loads 64 = .ok (.aload_n 0, 1) := by decide +kernel
theorem dX12_loads_65 : decode cX12_loads 65 = .ok (.iload_n 1, 1) := by decide +kernel
theorem dX12_loads_66 : decode cX12_loads 66 = .ok (.invokevirtual 177, 3) := by decide +kernel
theorem dX12_loads_69 : decode cX12_loads 69 = .ok (.return_, 1) := by decide +kernel
theorem dX12_isSmall_0 : decode cX12_isSmall 0 = .ok (.aload_n 0, 1) := by decide +kernel
theorem dX12_isSmall_1 : decode cX12_isSmall 1 = .ok (.getfield 17, 3) := by decide +kernel
theorem dX12_isSmall_4 : decode cX12_isSmall 4 = .ok (.iload_n 1, 1) := by decide +kernel
theorem dX12_isSmall_5 : decode cX12_isSmall 5 = .ok (.iaload, 1) := by decide +kernel
theorem dX12_isSmall_6 : decode cX12_isSmall 6 = .ok (.bipush 8, 2) := by decide +kernel
theorem dX12_isSmall_8 : decode cX12_isSmall 8 = .ok (.if_icmp .lt 34, 3) := by decide +kernel
theorem dX12_isSmall_11 : decode cX12_isSmall 11 = .ok (.aload_n 0, 1) := by decide +kernel
theorem dX12_isSmall_12 : decode cX12_isSmall 12 = .ok (.getfield 17, 3) := by decide +kernel
theorem dX12_isSmall_15 : decode cX12_isSmall 15 = .ok (.iload_n 1, 1) := by decide +kernel
theorem dX12_isSmall_16 : decode cX12_isSmall 16 = .ok (.iaload, 1) := by decide +kernel
theorem dX12_isSmall_17 : decode cX12_isSmall 17 = .ok (.bipush 8, 2) := by decide +kernel
theorem dX12_isSmall_19 : decode cX12_isSmall 19 = .ok (.if_icmp .ne 27, 3) := by decide +kernel
theorem dX12_isSmall_22 : decode cX12_isSmall 22 = .ok (.aload_n 0, 1) := by decide +kernel
theorem dX12_isSmall_23 : decode cX12_isSmall 23 = .ok (.getfield 13, 3) := by decide +kernel
theorem dX12_isSmall_26 : decode cX12_isSmall 26 = .ok (.sipush 1000, 3) := by decide +kernel
theorem dX12_isSmall_29 : decode cX12_isSmall 29 = .ok (.iload_n 1, 1) := by decide +kernel
theorem dX12_isSmall_30 : decode cX12_isSmall 30 = .ok (.imul, 1) := by decide +kernel
theorem dX12_isSmall_31 : decode cX12_isSmall 31 = .ok (.bipush 8, 2) := by decide +kernel
theorem dX12_isSmall_33 : decode cX12_isSmall 33 = .ok (.iadd, 1) := by decide +kernel
theorem dX12_isSmall_34 : decode cX12_isSmall 34 = .ok (.iconst 1, 1) := by decide +kernel
theorem dX12_isSmall_35 : decode cX12_isSmall 35 = .ok (.isub, 1) := by decide +kernel
theorem dX12_isSmall_36 : decode cX12_isSmall 36 = .ok (.iaload, 1) := by decide +kernel
theorem dX12_isSmall_37 : decode cX12_isSmall 37 = .ok (.bipush 100, 2) := by decide +kernel
theorem dX12_isSmall_39 : decode cX12_isSmall 39 = .ok (.if_icmp .ge 7, 3) := by decide +kernel
theorem dX12_isSmall_42 : decode cX12_isSmall 42 = .ok (.iconst 1, 1) := by decide +kernel
theorem dX12_isSmall_43 : decode cX12_isSmall 43 = .ok (.goto 4, 3) := by decide +kernel
theorem dX12_isSmall_46 : decode cX12_isSmall 46 = .ok (.iconst 0, 1) := by decide +kernel
theorem dX12_isSmall_47 : decode cX12_isSmall 47 = .ok (.ireturn, 1) := by decide +kernel
theorem dX12_lowers_0 : decode cX12_lowers 0 = .ok (.aload_n 0, 1) := by decide +kernel
theorem dX12_lowers_1 : decode cX12_lowers 1 = .ok (.bipush 6, 2) := by decide +kernel
theorem dX12_lowers_3 : decode cX12_lowers 3 = .ok (.bipush 7, 2) := by decide +kernel
theorem dX12_lowers_5 : decode cX12_lowers 5 = .ok (.invokevirtual 207, 3) := by decide +kernel
theorem dX12_lowers_8 : decode cX12_lowers 8 = .ok (.aload_n 0, 1) := by decide +kernel
theorem dX12_lowers_9 : decode cX12_lowers 9 = .ok (.bipush 6, 2) := by decide +kernel
theorem dX12_lowers_11 : decode cX12_lowers 11 = .ok (.bipush 8, 2) := by decide +kernel
theorem dX12_lowers_13 : decode cX12_lowers 13 = .ok (.invokevirtual 204, 3) := by decide +kernel
theorem dX12_lowers_16 : decode cX12_lowers 16 = .ok (.aload_n 0, 1) := by decide +kernel
theorem dX12_lowers_17 : decode cX12_lowers 17 = .ok (.bipush 6, 2) := by decide +kernel
theorem dX12_lowers_19 : decode cX12_lowers 19 = .ok (.bipush 9, 2) := by decide +kernel
theorem dX12_lowers_21 : decode cX12_lowers 21 = .ok (.invokevirtual 181, 3) := by decide +kernel
theorem dX12_lowers_24 : decode cX12_lowers 24 = .ok (.aload_n 0, 1) := by decide +kernel
theorem dX12_lowers_25 : decode cX12_lowers 25 = .ok (.bipush 7, 2) := by decide +kernel
theorem dX12_lowers_27 : decode cX12_lowers 27 = .ok (.bipush 8, 2) := by decide +kernel
theorem dX12_lowers_29 : decode cX12_lowers 29 = .ok (.invokevirtual 204, 3) := by decide +kernel
theorem dX12_lowers_32 : decode cX12_lowers 32 = .ok (.aload_n 0, 1) := by decide +kernel
theorem dX12_lowers_33 : decode cX12_lowers 33 = .ok (.bipush 7, 2) := by decide +kernel
theorem dX12_lowers_35 : decode cX12_lowers 35 = .ok (.bipush 9, 2) := by decide +kernel
theorem dX12_lowers_37 : decode cX12_lowers 37 = .ok (.invokevirtual 181, 3) := by decide +kernel
theorem dX12_lowers_40 : decode cX12_lowers 40 = .ok (.return_, 1) := by decide +kernel
theorem dX12_lays_0 : decode cX12_lays 0 = .ok (.aload_n 0, 1) := by decide +kernel
theorem dX12_lays_1 : decode cX12_lays 1 = .ok (.invokevirtual 210, 3) := by decide +kernel
theorem dX12_lays_4 : decode cX12_lays 4 = .ok (.aload_n 0, 1) := by decide +kernel
theorem dX12_lays_5 : decode cX12_lays 5 = .ok (.bipush 6, 2) := by decide +kernel
theorem dX12_lays_7 : decode cX12_lays 7 = .ok (.invokevirtual 213, 3) := by decide +kernel
theorem dX12_lays_10 : decode cX12_lays 10 = .ok (.ifCond .eq 12, 3) := by decide +kernel
theorem dX12_lays_13 : decode cX12_lays 13 = .ok (.aload_n 0, 1) := by decide +kernel
theorem dX12_lays_14 : decode cX12_lays 14 = .ok (.bipush 7, 2) := by decide +kernel
theorem dX12_lays_16 : decode cX12_lays 16 = .ok (.invokevirtual 213, 3) := by decide +kernel
theorem dX12_lays_19 : decode cX12_lays 19 = .ok (.ifCond .ne 5, 3) := by decide +kernel
theorem dX12_lays_22 : decode cX12_lays 22 = .ok (.iconst 0, 1) := by decide +kernel
theorem dX12_lays_23 : decode cX12_lays 23 = .ok (.ireturn, 1) := by decide +kernel
theorem dX12_lays_24 : decode cX12_lays 24 = .ok (.aload_n 0, 1) := by decide +kernel
theorem dX12_lays_25 : decode cX12_lays 25 = .ok (.getfield 20, 3) := by decide +kernel
theorem dX12_lays_28 : decode cX12_lays 28 = .ok (.iload_n 1, 1) := by decide +kernel
theorem dX12_lays_29 : decode cX12_lays 29 = .ok (.aload_n 0, 1) := by decide +kernel
theorem dX12_lays_30 : decode cX12_lays 30 = .ok (.getfield 17, 3) := by decide +kernel
theorem dX12_lays_33 : decode cX12_lays 33 = .ok (.bipush 6, 2) := by decide +kernel
theorem dX12_lays_35 : decode cX12_lays 35 = .ok (.iaload, 1) := by decide +kernel
theorem dX12_lays_36 : decode cX12_lays 36 = .ok (.ifCond .ne 7, 3) := by decide +kernel
theorem dX12_lays_39 : decode cX12_lays 39 = .ok (.iconst 0, 1) := by decide +kernel
theorem dX12_lays_40 : decode cX12_lays 40 = .ok (.goto 4, 3) := by decide +kernel
theorem dX12_lays_43 : decode cX12_lays 43 = .ok (.iload_n 2, 1) := by decide +kernel
theorem dX12_lays_44 : decode cX12_lays 44 = .ok (.iastore, 1) := by decide +kernel
theorem dX12_lays_45 : decode cX12_lays 45 = .ok (.iconst 0, 1) := by decide +kernel
theorem dX12_lays_46 : decode cX12_lays 46 = .ok (.istore_n 3, 1) := by decide +kernel
theorem dX12_lays_47 : decode cX12_lays 47 = .ok (.iload_n 3, 1) := by decide +kernel
theorem dX12_lays_48 : decode cX12_lays 48 = .ok (.bipush 8, 2) := by decide +kernel
theorem dX12_lays_50 : decode cX12_lays 50 = .ok (.if_icmp .ge 48, 3) := by decide +kernel
theorem dX12_lays_53 : decode cX12_lays 53 = .ok (.aload_n 0, 1) := by decide +kernel
theorem dX12_lays_54 : decode cX12_lays 54 = .ok (.getfield 24, 3) := by decide +kernel
theorem dX12_lays_57 : decode cX12_lays 57 = .ok (.bipush 16, 2) := by decide +kernel
theorem dX12_lays_59 : decode cX12_lays 59 = .ok (.iload_n 1, 1) := by decide +kernel
theorem dX12_lays_60 : decode cX12_lays 60 = .ok (.imul, 1) := by decide +kernel
theorem dX12_lays_61 : decode cX12_lays 61 = .ok (.iload_n 3, 1) := by decide +kernel
theorem dX12_lays_62 : decode cX12_lays 62 = .ok (.iadd, 1) := by decide +kernel
theorem dX12_lays_63 : decode cX12_lays 63 = .ok (.aload_n 0, 1) := by decide +kernel
theorem dX12_lays_64 : decode cX12_lays 64 = .ok (.bipush 6, 2) := by decide +kernel
theorem dX12_lays_66 : decode cX12_lays 66 = .ok (.iload_n 3, 1) := by decide +kernel
theorem dX12_lays_67 : decode cX12_lays 67 = .ok (.invokevirtual 173, 3) := by decide +kernel
theorem dX12_lays_70 : decode cX12_lays 70 = .ok (.iastore, 1) := by decide +kernel
theorem dX12_lays_71 : decode cX12_lays 71 = .ok (.aload_n 0, 1) := by decide +kernel
theorem dX12_lays_72 : decode cX12_lays 72 = .ok (.getfield 24, 3) := by decide +kernel
theorem dX12_lays_75 : decode cX12_lays 75 = .ok (.bipush 16, 2) := by decide +kernel
theorem dX12_lays_77 : decode cX12_lays 77 = .ok (.iload_n 1, 1) := by decide +kernel
theorem dX12_lays_78 : decode cX12_lays 78 = .ok (.imul, 1) := by decide +kernel
theorem dX12_lays_79 : decode cX12_lays 79 = .ok (.bipush 8, 2) := by decide +kernel
theorem dX12_lays_81 : decode cX12_lays 81 = .ok (.iadd, 1) := by decide +kernel
theorem dX12_lays_82 : decode cX12_lays 82 = .ok (.iload_n 3, 1) := by decide +kernel
theorem dX12_lays_83 : decode cX12_lays 83 = .ok (.iadd, 1) := by decide +kernel
theorem dX12_lays_84 : decode cX12_lays 84 = .ok (.aload_n 0, 1) := by decide +kernel
theorem dX12_lays_85 : decode cX12_lays 85 = .ok (.bipush 7, 2) := by decide +kernel
theorem dX12_lays_87 : decode cX12_lays 87 = .ok (.iload_n 3, 1) := by decide +kernel
theorem dX12_lays_88 : decode cX12_lays 88 = .ok (.invokevirtual 173, 3) := by decide +kernel
theorem dX12_lays_91 : decode cX12_lays 91 = .ok (.iastore, 1) := by decide +kernel
theorem dX12_lays_92 : decode cX12_lays 92 = .ok (.iinc 3 1, 3) := by decide +kernel
theorem dX12_lays_95 : decode cX12_lays 95 = .ok (.goto (-48), 3) := by decide +kernel
theorem dX12_lays_98 : decode cX12_lays 98 = .ok (.iconst 1, 1) := by decide +kernel
theorem dX12_lays_99 : decode cX12_lays 99 = .ok (.ireturn, 1) := by decide +kernel
theorem dX12_newValue_0 : decode cX12_newValue 0 = .ok (.aload_n 0, 1) := by decide +kernel
theorem dX12_newValue_1 : decode cX12_newValue 1 = .ok (.dup, 1) := by decide +kernel
theorem dX12_newValue_2 : decode cX12_newValue 2 = .ok (.getfield 160, 3) := by decide +kernel
theorem dX12_newValue_5 : decode cX12_newValue 5 = .ok (.iconst 1, 1) := by decide +kernel
theorem dX12_newValue_6 : decode cX12_newValue 6 = .ok (.iadd, 1) := by decide +kernel
theorem dX12_newValue_7 : decode cX12_newValue 7 = .ok (.putfield 160, 3) := by decide +kernel
theorem dX12_newValue_10 : decode cX12_newValue 10 = .ok (.aload_n 0, 1) := by decide +kernel
theorem dX12_newValue_11 : decode cX12_newValue 11 = .ok (.getfield 160, 3) := by decide +kernel
theorem dX12_newValue_14 : decode cX12_newValue 14 = .ok (.iconst 1, 1) := by decide +kernel
theorem dX12_newValue_15 : decode cX12_newValue 15 = .ok (.isub, 1) := by decide +kernel
theorem dX12_newValue_16 : decode cX12_newValue 16 = .ok (.ireturn, 1) := by decide +kernel
theorem dX12_keeps_0 : decode cX12_keeps 0 = .ok (.iload_n 1, 1) := by decide +kernel
theorem dX12_keeps_1 : decode cX12_keeps 1 = .ok (.sipush 600, 3) := by decide +kernel
theorem dX12_keeps_4 : decode cX12_keeps 4 = .ok (.if_icmp .lt 5, 3) := by decide +kernel
theorem dX12_keeps_7 : decode cX12_keeps 7 = .ok (.iload_n 1, 1) := by decide +kernel
theorem dX12_keeps_8 : decode cX12_keeps 8 = .ok (.ireturn, 1) := by decide +kernel
theorem dX12_keeps_9 : decode cX12_keeps 9 = .ok (.aload_n 0, 1) := by decide +kernel
theorem dX12_keeps_10 : decode cX12_keeps 10 = .ok (.invokevirtual 217, 3) := by decide +kernel
theorem dX12_keeps_13 : decode cX12_keeps 13 = .ok (.istore_n 2, 1) := by decide +kernel
theorem dX12_keeps_14 : decode cX12_keeps 14 = .ok (.aload_n 0, 1) := by decide +kernel
theorem dX12_keeps_15 : decode cX12_keeps 15 = .ok (.iload_n 2, 1) := by decide +kernel
theorem dX12_keeps_16 : decode cX12_keeps 16 = .ok (.iload_n 1, 1) := by decide +kernel
theorem dX12_keeps_17 : decode cX12_keeps 17 = .ok (.invokevirtual 221, 3) := by decide +kernel
theorem dX12_keeps_20 : decode cX12_keeps 20 = .ok (.iload_n 2, 1) := by decide +kernel
theorem dX12_keeps_21 : decode cX12_keeps 21 = .ok (.ireturn, 1) := by decide +kernel
theorem dX12_copiesValue_0 : decode cX12_copiesValue 0 = .ok (.aload_n 0, 1) := by decide +kernel
theorem dX12_copiesValue_1 : decode cX12_copiesValue 1 = .ok (.getfield 20, 3) := by decide +kernel
theorem dX12_copiesValue_4 : decode cX12_copiesValue 4 = .ok (.iload_n 1, 1) := by decide +kernel
theorem dX12_copiesValue_5 : decode cX12_copiesValue 5 = .ok (.aload_n 0, 1) := by decide +kernel
theorem dX12_copiesValue_6 : decode cX12_copiesValue 6 = .ok (.getfield 20, 3) := by decide +kernel
theorem dX12_copiesValue_9 : decode cX12_copiesValue 9 = .ok (.iload_n 2, 1) := by decide +kernel
theorem dX12_copiesValue_10 : decode cX12_copiesValue 10 = .ok (.iaload, 1) := by decide +kernel
theorem dX12_copiesValue_11 : decode cX12_copiesValue 11 = .ok (.iastore, 1) := by decide +kernel
theorem dX12_copiesValue_12 : decode cX12_copiesValue 12 = .ok (.iconst 0, 1) := by decide +kernel
theorem dX12_copiesValue_13 : decode cX12_copiesValue 13 = .ok (.istore_n 3, 1) := by decide +kernel
theorem dX12_copiesValue_14 : decode cX12_copiesValue 14 = .ok (.iload_n 3, 1) := by decide +kernel
theorem dX12_copiesValue_15 : decode cX12_copiesValue 15 = .ok (.bipush 16, 2) := by decide +kernel
theorem dX12_copiesValue_17 : decode cX12_copiesValue 17 = .ok (.if_icmp .ge 31, 3) := by decide +kernel
theorem dX12_copiesValue_20 : decode cX12_copiesValue 20 = .ok (.aload_n 0, 1) := by decide +kernel
theorem dX12_copiesValue_21 : decode cX12_copiesValue 21 = .ok (.getfield 24, 3) := by decide +kernel
theorem dX12_copiesValue_24 : decode cX12_copiesValue 24 = .ok (.bipush 16, 2) := by decide +kernel
theorem dX12_copiesValue_26 : decode cX12_copiesValue 26 = .ok (.iload_n 1, 1) := by decide +kernel
theorem dX12_copiesValue_27 : decode cX12_copiesValue 27 = .ok (.imul, 1) := by decide +kernel
theorem dX12_copiesValue_28 : decode cX12_copiesValue 28 = .ok (.iload_n 3, 1) := by decide +kernel
theorem dX12_copiesValue_29 : decode cX12_copiesValue 29 = .ok (.iadd, 1) := by decide +kernel
theorem dX12_copiesValue_30 : decode cX12_copiesValue 30 = .ok (.aload_n 0, 1) := by decide +kernel
theorem dX12_copiesValue_31 : decode cX12_copiesValue 31 = .ok (.getfield 24, 3) := by decide +kernel
theorem dX12_copiesValue_34 : decode cX12_copiesValue 34 = .ok (.bipush 16, 2) := by decide +kernel
theorem dX12_copiesValue_36 : decode cX12_copiesValue 36 = .ok (.iload_n 2, 1) := by decide +kernel
theorem dX12_copiesValue_37 : decode cX12_copiesValue 37 = .ok (.imul, 1) := by decide +kernel
theorem dX12_copiesValue_38 : decode cX12_copiesValue 38 = .ok (.iload_n 3, 1) := by decide +kernel
theorem dX12_copiesValue_39 : decode cX12_copiesValue 39 = .ok (.iadd, 1) := by decide +kernel
theorem dX12_copiesValue_40 : decode cX12_copiesValue 40 = .ok (.iaload, 1) := by decide +kernel
theorem dX12_copiesValue_41 : decode cX12_copiesValue 41 = .ok (.iastore, 1) := by decide +kernel
theorem dX12_copiesValue_42 : decode cX12_copiesValue 42 = .ok (.iinc 3 1, 3) := by decide +kernel
theorem dX12_copiesValue_45 : decode cX12_copiesValue 45 = .ok (.goto (-31), 3) := by decide +kernel
theorem dX12_copiesValue_48 : decode cX12_copiesValue 48 = .ok (.return_, 1) := by decide +kernel
theorem dX12_keepsWhole_0 : decode cX12_keepsWhole 0 = .ok (.aload_n 0, 1) := by decide +kernel
theorem dX12_keepsWhole_1 : decode cX12_keepsWhole 1 = .ok (.invokevirtual 217, 3) := by decide +kernel
theorem dX12_keepsWhole_4 : decode cX12_keepsWhole 4 = .ok (.istore_n 2, 1) := by decide +kernel
theorem dX12_keepsWhole_5 : decode cX12_keepsWhole 5 = .ok (.aload_n 0, 1) := by decide +kernel
theorem dX12_keepsWhole_6 : decode cX12_keepsWhole 6 = .ok (.bipush 6, 2) := by decide +kernel
theorem dX12_keepsWhole_8 : decode cX12_keepsWhole 8 = .ok (.iload_n 1, 1) := by decide +kernel
theorem dX12_keepsWhole_9 : decode cX12_keepsWhole 9 = .ok (.invokevirtual 191, 3) := by decide +kernel
theorem dX12_keepsWhole_12 : decode cX12_keepsWhole 12 = .ok (.aload_n 0, 1) := by decide +kernel
theorem dX12_keepsWhole_13 : decode cX12_keepsWhole 13 = .ok (.bipush 7, 2) := by decide +kernel
theorem dX12_keepsWhole_15 : decode cX12_keepsWhole 15 = .ok (.iconst 1, 1) := by decide +kernel
theorem dX12_keepsWhole_16 : decode cX12_keepsWhole 16 = .ok (.invokevirtual 191, 3) := by decide +kernel
theorem dX12_keepsWhole_19 : decode cX12_keepsWhole 19 = .ok (.aload_n 0, 1) := by decide +kernel
theorem dX12_keepsWhole_20 : decode cX12_keepsWhole 20 = .ok (.iload_n 2, 1) := by decide +kernel
theorem dX12_keepsWhole_21 : decode cX12_keepsWhole 21 = .ok (.iconst 1, 1) := by decide +kernel
theorem dX12_keepsWhole_22 : decode cX12_keepsWhole 22 = .ok (.invokevirtual 224, 3) := by decide +kernel
theorem dX12_keepsWhole_25 : decode cX12_keepsWhole 25 = .ok (.istore_n 3, 1) := by decide +kernel
theorem dX12_keepsWhole_26 : decode cX12_keepsWhole 26 = .ok (.iload_n 3, 1) := by decide +kernel
theorem dX12_keepsWhole_27 : decode cX12_keepsWhole 27 = .ok (.ifCond .eq 7, 3) := by decide +kernel
theorem dX12_keepsWhole_30 : decode cX12_keepsWhole 30 = .ok (.iload_n 2, 1) := by decide +kernel
theorem dX12_keepsWhole_31 : decode cX12_keepsWhole 31 = .ok (.goto 4, 3) := by decide +kernel
theorem dX12_keepsWhole_34 : decode cX12_keepsWhole 34 = .ok (.iconst (-1), 1) := by decide +kernel
theorem dX12_keepsWhole_35 : decode cX12_keepsWhole 35 = .ok (.ireturn, 1) := by decide +kernel
theorem dX12_keepsMade_0 : decode cX12_keepsMade 0 = .ok (.aload_n 0, 1) := by decide +kernel
theorem dX12_keepsMade_1 : decode cX12_keepsMade 1 = .ok (.invokevirtual 217, 3) := by decide +kernel
theorem dX12_keepsMade_4 : decode cX12_keepsMade 4 = .ok (.istore_n 2, 1) := by decide +kernel
theorem dX12_keepsMade_5 : decode cX12_keepsMade 5 = .ok (.aload_n 0, 1) := by decide +kernel
theorem dX12_keepsMade_6 : decode cX12_keepsMade 6 = .ok (.iload_n 2, 1) := by decide +kernel
theorem dX12_keepsMade_7 : decode cX12_keepsMade 7 = .ok (.iload_n 1, 1) := by decide +kernel
theorem dX12_keepsMade_8 : decode cX12_keepsMade 8 = .ok (.invokevirtual 224, 3) := by decide +kernel
theorem dX12_keepsMade_11 : decode cX12_keepsMade 11 = .ok (.ifCond .eq 5, 3) := by decide +kernel
theorem dX12_keepsMade_14 : decode cX12_keepsMade 14 = .ok (.iload_n 2, 1) := by decide +kernel
theorem dX12_keepsMade_15 : decode cX12_keepsMade 15 = .ok (.ireturn, 1) := by decide +kernel
theorem dX12_keepsMade_16 : decode cX12_keepsMade 16 = .ok (.aload_n 0, 1) := by decide +kernel
theorem dX12_keepsMade_17 : decode cX12_keepsMade 17 = .ok (.dup, 1) := by decide +kernel
theorem dX12_keepsMade_18 : decode cX12_keepsMade 18 = .ok (.getfield 160, 3) := by decide +kernel
theorem dX12_keepsMade_21 : decode cX12_keepsMade 21 = .ok (.iconst 1, 1) := by decide +kernel
theorem dX12_keepsMade_22 : decode cX12_keepsMade 22 = .ok (.isub, 1) := by decide +kernel
theorem dX12_keepsMade_23 : decode cX12_keepsMade 23 = .ok (.putfield 160, 3) := by decide +kernel
theorem dX12_keepsMade_26 : decode cX12_keepsMade 26 = .ok (.iconst (-1), 1) := by decide +kernel
theorem dX12_keepsMade_27 : decode cX12_keepsMade 27 = .ok (.ireturn, 1) := by decide +kernel
theorem dX12_isWhole_0 : decode cX12_isWhole 0 = .ok (.aload_n 0, 1) := by decide +kernel
theorem dX12_isWhole_1 : decode cX12_isWhole 1 = .ok (.getfield 24, 3) := by decide +kernel
theorem dX12_isWhole_4 : decode cX12_isWhole 4 = .ok (.bipush 16, 2) := by decide +kernel
theorem dX12_isWhole_6 : decode cX12_isWhole 6 = .ok (.iload_n 1, 1) := by decide +kernel
theorem dX12_isWhole_7 : decode cX12_isWhole 7 = .ok (.imul, 1) := by decide +kernel
theorem dX12_isWhole_8 : decode cX12_isWhole 8 = .ok (.bipush 8, 2) := by decide +kernel
theorem dX12_isWhole_10 : decode cX12_isWhole 10 = .ok (.iadd, 1) := by decide +kernel
theorem dX12_isWhole_11 : decode cX12_isWhole 11 = .ok (.iaload, 1) := by decide +kernel
theorem dX12_isWhole_12 : decode cX12_isWhole 12 = .ok (.iconst 1, 1) := by decide +kernel
theorem dX12_isWhole_13 : decode cX12_isWhole 13 = .ok (.if_icmp .eq 5, 3) := by decide +kernel
theorem dX12_isWhole_16 : decode cX12_isWhole 16 = .ok (.iconst 0, 1) := by decide +kernel
theorem dX12_isWhole_17 : decode cX12_isWhole 17 = .ok (.ireturn, 1) := by decide +kernel
theorem dX12_isWhole_18 : decode cX12_isWhole 18 = .ok (.iconst 1, 1) := by decide +kernel
theorem dX12_isWhole_19 : decode cX12_isWhole 19 = .ok (.istore_n 2, 1) := by decide +kernel
theorem dX12_isWhole_20 : decode cX12_isWhole 20 = .ok (.iload_n 2, 1) := by decide +kernel
theorem dX12_isWhole_21 : decode cX12_isWhole 21 = .ok (.bipush 8, 2) := by decide +kernel
theorem dX12_isWhole_23 : decode cX12_isWhole 23 = .ok (.if_icmp .ge 28, 3) := by decide +kernel
theorem dX12_isWhole_26 : decode cX12_isWhole 26 = .ok (.aload_n 0, 1) := by decide +kernel
theorem dX12_isWhole_27 : decode cX12_isWhole 27 = .ok (.getfield 24, 3) := by decide +kernel
theorem dX12_isWhole_30 : decode cX12_isWhole 30 = .ok (.bipush 16, 2) := by decide +kernel
theorem dX12_isWhole_32 : decode cX12_isWhole 32 = .ok (.iload_n 1, 1) := by decide +kernel
theorem dX12_isWhole_33 : decode cX12_isWhole 33 = .ok (.imul, 1) := by decide +kernel
theorem dX12_isWhole_34 : decode cX12_isWhole 34 = .ok (.bipush 8, 2) := by decide +kernel
theorem dX12_isWhole_36 : decode cX12_isWhole 36 = .ok (.iadd, 1) := by decide +kernel
theorem dX12_isWhole_37 : decode cX12_isWhole 37 = .ok (.iload_n 2, 1) := by decide +kernel
theorem dX12_isWhole_38 : decode cX12_isWhole 38 = .ok (.iadd, 1) := by decide +kernel
theorem dX12_isWhole_39 : decode cX12_isWhole 39 = .ok (.iaload, 1) := by decide +kernel
theorem dX12_isWhole_40 : decode cX12_isWhole 40 = .ok (.ifCond .eq 5, 3) := by decide +kernel
theorem dX12_isWhole_43 : decode cX12_isWhole 43 = .ok (.iconst 0, 1) := by decide +kernel
theorem dX12_isWhole_44 : decode cX12_isWhole 44 = .ok (.ireturn, 1) := by decide +kernel
theorem dX12_isWhole_45 : decode cX12_isWhole 45 = .ok (.iinc 2 1, 3) := by decide +kernel
theorem dX12_isWhole_48 : decode cX12_isWhole 48 = .ok (.goto (-28), 3) := by decide +kernel
theorem dX12_isWhole_51 : decode cX12_isWhole 51 = .ok (.iconst 1, 1) := by decide +kernel
theorem dX12_isWhole_52 : decode cX12_isWhole 52 = .ok (.ireturn, 1) := by decide +kernel
theorem dX12_asInt_0 : decode cX12_asInt 0 = .ok (.iconst 1, 1) := by decide +kernel
theorem dX12_asInt_1 : decode cX12_asInt 1 = .ok (.istore_n 2, 1) := by decide +kernel
theorem dX12_asInt_2 : decode cX12_asInt 2 = .ok (.iload_n 2, 1) := by decide +kernel
theorem dX12_asInt_3 : decode cX12_asInt 3 = .ok (.bipush 8, 2) := by decide +kernel
theorem dX12_asInt_5 : decode cX12_asInt 5 = .ok (.if_icmp .ge 34, 3) := by decide +kernel
theorem dX12_asInt_8 : decode cX12_asInt 8 = .ok (.aload_n 0, 1) := by decide +kernel
theorem dX12_asInt_9 : decode cX12_asInt 9 = .ok (.getfield 24, 3) := by decide +kernel
theorem dX12_asInt_12 : decode cX12_asInt 12 = .ok (.bipush 16, 2) := by decide +kernel
theorem dX12_asInt_14 : decode cX12_asInt 14 = .ok (.iload_n 1, 1) := by decide +kernel
theorem dX12_asInt_15 : decode cX12_asInt 15 = .ok (.imul, 1) := by decide +kernel
theorem dX12_asInt_16 : decode cX12_asInt 16 = .ok (.iload_n 2, 1) := by decide +kernel
theorem dX12_asInt_17 : decode cX12_asInt 17 = .ok (.iadd, 1) := by decide +kernel
theorem dX12_asInt_18 : decode cX12_asInt 18 = .ok (.iaload, 1) := by decide +kernel
theorem dX12_asInt_19 : decode cX12_asInt 19 = .ok (.ifCond .eq 14, 3) := by decide +kernel
theorem dX12_asInt_22 : decode cX12_asInt 22 = .ok (.aload_n 0, 1) := by decide +kernel
theorem dX12_asInt_23 : decode cX12_asInt 23 = .ok (.getfield 20, 3) := by decide +kernel
theorem dX12_asInt_26 : decode cX12_asInt 26 = .ok (.iload_n 1, 1) := by decide +kernel
theorem dX12_asInt_27 : decode cX12_asInt 27 = .ok (.iaload, 1) := by decide +kernel
theorem dX12_asInt_28 : decode cX12_asInt 28 = .ok (.sipush 10000, 3) := by decide +kernel
theorem dX12_asInt_31 : decode cX12_asInt 31 = .ok (.imul, 1) := by decide +kernel
theorem dX12_asInt_32 : decode cX12_asInt 32 = .ok (.ireturn, 1) := by decide +kernel
theorem dX12_asInt_33 : decode cX12_asInt 33 = .ok (.iinc 2 1, 3) := by decide +kernel
theorem dX12_asInt_36 : decode cX12_asInt 36 = .ok (.goto (-34), 3) := by decide +kernel
theorem dX12_asInt_39 : decode cX12_asInt 39 = .ok (.aload_n 0, 1) := by decide +kernel
theorem dX12_asInt_40 : decode cX12_asInt 40 = .ok (.getfield 20, 3) := by decide +kernel
theorem dX12_asInt_43 : decode cX12_asInt 43 = .ok (.iload_n 1, 1) := by decide +kernel
theorem dX12_asInt_44 : decode cX12_asInt 44 = .ok (.iaload, 1) := by decide +kernel
theorem dX12_asInt_45 : decode cX12_asInt 45 = .ok (.aload_n 0, 1) := by decide +kernel
theorem dX12_asInt_46 : decode cX12_asInt 46 = .ok (.getfield 24, 3) := by decide +kernel
theorem dX12_asInt_49 : decode cX12_asInt 49 = .ok (.bipush 16, 2) := by decide +kernel
theorem dX12_asInt_51 : decode cX12_asInt 51 = .ok (.iload_n 1, 1) := by decide +kernel
theorem dX12_asInt_52 : decode cX12_asInt 52 = .ok (.imul, 1) := by decide +kernel
theorem dX12_asInt_53 : decode cX12_asInt 53 = .ok (.iaload, 1) := by decide +kernel
theorem dX12_asInt_54 : decode cX12_asInt 54 = .ok (.imul, 1) := by decide +kernel
theorem dX12_asInt_55 : decode cX12_asInt 55 = .ok (.ireturn, 1) := by decide +kernel
theorem dX12_loadsBoth_0 : decode cX12_loadsBoth 0 = .ok (.aload_n 0, 1) := by decide +kernel
theorem dX12_loadsBoth_1 : decode cX12_loadsBoth 1 = .ok (.iconst 0, 1) := by decide +kernel
theorem dX12_loadsBoth_2 : decode cX12_loadsBoth 2 = .ok (.iload_n 1, 1) := by decide +kernel
theorem dX12_loadsBoth_3 : decode cX12_loadsBoth 3 = .ok (.iconst 0, 1) := by decide +kernel
theorem dX12_loadsBoth_4 : decode cX12_loadsBoth 4 = .ok (.invokevirtual 228, 3) := by decide +kernel
theorem dX12_loadsBoth_7 : decode cX12_loadsBoth 7 = .ok (.aload_n 0, 1) := by decide +kernel
theorem dX12_loadsBoth_8 : decode cX12_loadsBoth 8 = .ok (.iconst 1, 1) := by decide +kernel
theorem dX12_loadsBoth_9 : decode cX12_loadsBoth 9 = .ok (.iload_n 1, 1) := by decide +kernel
theorem dX12_loadsBoth_10 : decode cX12_loadsBoth 10 = .ok (.iconst 1, 1) := by decide +kernel
theorem dX12_loadsBoth_11 : decode cX12_loadsBoth 11 = .ok (.invokevirtual 228, 3) := by decide +kernel
theorem dX12_loadsBoth_14 : decode cX12_loadsBoth 14 = .ok (.aload_n 0, 1) := by decide +kernel
theorem dX12_loadsBoth_15 : decode cX12_loadsBoth 15 = .ok (.iconst 2, 1) := by decide +kernel
theorem dX12_loadsBoth_16 : decode cX12_loadsBoth 16 = .ok (.iload_n 2, 1) := by decide +kernel
theorem dX12_loadsBoth_17 : decode cX12_loadsBoth 17 = .ok (.iconst 0, 1) := by decide +kernel
theorem dX12_loadsBoth_18 : decode cX12_loadsBoth 18 = .ok (.invokevirtual 228, 3) := by decide +kernel
theorem dX12_loadsBoth_21 : decode cX12_loadsBoth 21 = .ok (.aload_n 0, 1) := by decide +kernel
theorem dX12_loadsBoth_22 : decode cX12_loadsBoth 22 = .ok (.iconst 3, 1) := by decide +kernel
theorem dX12_loadsBoth_23 : decode cX12_loadsBoth 23 = .ok (.iload_n 2, 1) := by decide +kernel
theorem dX12_loadsBoth_24 : decode cX12_loadsBoth 24 = .ok (.iconst 1, 1) := by decide +kernel
theorem dX12_loadsBoth_25 : decode cX12_loadsBoth 25 = .ok (.invokevirtual 228, 3) := by decide +kernel
theorem dX12_loadsBoth_28 : decode cX12_loadsBoth 28 = .ok (.return_, 1) := by decide +kernel
theorem dX12_order_0 : decode cX12_order 0 = .ok (.aload_n 0, 1) := by decide +kernel
theorem dX12_order_1 : decode cX12_order 1 = .ok (.getfield 20, 3) := by decide +kernel
theorem dX12_order_4 : decode cX12_order 4 = .ok (.iload_n 1, 1) := by decide +kernel
theorem dX12_order_5 : decode cX12_order 5 = .ok (.iaload, 1) := by decide +kernel
theorem dX12_order_6 : decode cX12_order 6 = .ok (.aload_n 0, 1) := by decide +kernel
theorem dX12_order_7 : decode cX12_order 7 = .ok (.getfield 20, 3) := by decide +kernel
theorem dX12_order_10 : decode cX12_order 10 = .ok (.iload_n 2, 1) := by decide +kernel
theorem dX12_order_11 : decode cX12_order 11 = .ok (.iaload, 1) := by decide +kernel
theorem dX12_order_12 : decode cX12_order 12 = .ok (.if_icmp .eq 24, 3) := by decide +kernel
theorem dX12_order_15 : decode cX12_order 15 = .ok (.aload_n 0, 1) := by decide +kernel
theorem dX12_order_16 : decode cX12_order 16 = .ok (.getfield 20, 3) := by decide +kernel
theorem dX12_order_19 : decode cX12_order 19 = .ok (.iload_n 1, 1) := by decide +kernel
theorem dX12_order_20 : decode cX12_order 20 = .ok (.iaload, 1) := by decide +kernel
theorem dX12_order_21 : decode cX12_order 21 = .ok (.aload_n 0, 1) := by decide +kernel
theorem dX12_order_22 : decode cX12_order 22 = .ok (.getfield 20, 3) := by decide +kernel
theorem dX12_order_25 : decode cX12_order 25 = .ok (.iload_n 2, 1) := by decide +kernel
theorem dX12_order_26 : decode cX12_order 26 = .ok (.iaload, 1) := by decide +kernel
theorem dX12_order_27 : decode cX12_order 27 = .ok (.if_icmp .ge 7, 3) := by decide +kernel
theorem dX12_order_30 : decode cX12_order 30 = .ok (.iconst (-1), 1) := by decide +kernel
theorem dX12_order_31 : decode cX12_order 31 = .ok (.goto 4, 3) := by decide +kernel
theorem dX12_order_34 : decode cX12_order 34 = .ok (.iconst 1, 1) := by decide +kernel
theorem dX12_order_35 : decode cX12_order 35 = .ok (.ireturn, 1) := by decide +kernel
theorem dX12_order_36 : decode cX12_order 36 = .ok (.aload_n 0, 1) := by decide +kernel
theorem dX12_order_37 : decode cX12_order 37 = .ok (.iload_n 1, 1) := by decide +kernel
theorem dX12_order_38 : decode cX12_order 38 = .ok (.iload_n 2, 1) := by decide +kernel
theorem dX12_order_39 : decode cX12_order 39 = .ok (.invokevirtual 232, 3) := by decide +kernel
theorem dX12_order_42 : decode cX12_order 42 = .ok (.aload_n 0, 1) := by decide +kernel
theorem dX12_order_43 : decode cX12_order 43 = .ok (.iconst 4, 1) := by decide +kernel
theorem dX12_order_44 : decode cX12_order 44 = .ok (.iconst 0, 1) := by decide +kernel
theorem dX12_order_45 : decode cX12_order 45 = .ok (.iconst 3, 1) := by decide +kernel
theorem dX12_order_46 : decode cX12_order 46 = .ok (.invokevirtual 235, 3) := by decide +kernel
theorem dX12_order_49 : decode cX12_order 49 = .ok (.aload_n 0, 1) := by decide +kernel
theorem dX12_order_50 : decode cX12_order 50 = .ok (.iconst 5, 1) := by decide +kernel
theorem dX12_order_51 : decode cX12_order 51 = .ok (.iconst 2, 1) := by decide +kernel
theorem dX12_order_52 : decode cX12_order 52 = .ok (.iconst 1, 1) := by decide +kernel
theorem dX12_order_53 : decode cX12_order 53 = .ok (.invokevirtual 235, 3) := by decide +kernel
theorem dX12_order_56 : decode cX12_order 56 = .ok (.aload_n 0, 1) := by decide +kernel
theorem dX12_order_57 : decode cX12_order 57 = .ok (.getfield 20, 3) := by decide +kernel
theorem dX12_order_60 : decode cX12_order 60 = .ok (.iload_n 1, 1) := by decide +kernel
theorem dX12_order_61 : decode cX12_order 61 = .ok (.iaload, 1) := by decide +kernel
theorem dX12_order_62 : decode cX12_order 62 = .ok (.aload_n 0, 1) := by decide +kernel
theorem dX12_order_63 : decode cX12_order 63 = .ok (.iconst 4, 1) := by decide +kernel
theorem dX12_order_64 : decode cX12_order 64 = .ok (.iconst 5, 1) := by decide +kernel
theorem dX12_order_65 : decode cX12_order 65 = .ok (.invokevirtual 185, 3) := by decide +kernel
theorem dX12_order_68 : decode cX12_order 68 = .ok (.imul, 1) := by decide +kernel
theorem dX12_order_69 : decode cX12_order 69 = .ok (.ireturn, 1) := by decide +kernel
theorem dX12_joins_0 : decode cX12_joins 0 = .ok (.iload_n 1, 1) := by decide +kernel
theorem dX12_joins_1 : decode cX12_joins 1 = .ok (.ifCond .eq 12, 3) := by decide +kernel
theorem dX12_joins_4 : decode cX12_joins 4 = .ok (.iload_n 2, 1) := by decide +kernel
theorem dX12_joins_5 : decode cX12_joins 5 = .ok (.ifCond .eq 8, 3) := by decide +kernel
theorem dX12_joins_8 : decode cX12_joins 8 = .ok (.iload_n 1, 1) := by decide +kernel
theorem dX12_joins_9 : decode cX12_joins 9 = .ok (.iload_n 2, 1) := by decide +kernel
theorem dX12_joins_10 : decode cX12_joins 10 = .ok (.if_icmp .ne 27, 3) := by decide +kernel
theorem dX12_joins_13 : decode cX12_joins 13 = .ok (.aload_n 0, 1) := by decide +kernel
theorem dX12_joins_14 : decode cX12_joins 14 = .ok (.bipush 6, 2) := by decide +kernel
theorem dX12_joins_16 : decode cX12_joins 16 = .ok (.iconst 4, 1) := by decide +kernel
theorem dX12_joins_17 : decode cX12_joins 17 = .ok (.invokevirtual 181, 3) := by decide +kernel
theorem dX12_joins_20 : decode cX12_joins 20 = .ok (.aload_n 0, 1) := by decide +kernel
theorem dX12_joins_21 : decode cX12_joins 21 = .ok (.bipush 6, 2) := by decide +kernel
theorem dX12_joins_23 : decode cX12_joins 23 = .ok (.iconst 5, 1) := by decide +kernel
theorem dX12_joins_24 : decode cX12_joins 24 = .ok (.invokevirtual 239, 3) := by decide +kernel
theorem dX12_joins_27 : decode cX12_joins 27 = .ok (.iload_n 1, 1) := by decide +kernel
theorem dX12_joins_28 : decode cX12_joins 28 = .ok (.ifCond .ne 7, 3) := by decide +kernel
theorem dX12_joins_31 : decode cX12_joins 31 = .ok (.iload_n 2, 1) := by decide +kernel
theorem dX12_joins_32 : decode cX12_joins 32 = .ok (.goto 4, 3) := by decide +kernel
theorem dX12_joins_35 : decode cX12_joins 35 = .ok (.iload_n 1, 1) := by decide +kernel
theorem dX12_joins_36 : decode cX12_joins 36 = .ok (.ireturn, 1) := by decide +kernel
theorem dX12_joins_37 : decode cX12_joins 37 = .ok (.aload_n 0, 1) := by decide +kernel
theorem dX12_joins_38 : decode cX12_joins 38 = .ok (.iconst 4, 1) := by decide +kernel
theorem dX12_joins_39 : decode cX12_joins 39 = .ok (.iconst 5, 1) := by decide +kernel
theorem dX12_joins_40 : decode cX12_joins 40 = .ok (.invokevirtual 185, 3) := by decide +kernel
theorem dX12_joins_43 : decode cX12_joins 43 = .ok (.ifCond .ge 7, 3) := by decide +kernel
theorem dX12_joins_46 : decode cX12_joins 46 = .ok (.iconst 1, 1) := by decide +kernel
theorem dX12_joins_47 : decode cX12_joins 47 = .ok (.goto 4, 3) := by decide +kernel
theorem dX12_joins_50 : decode cX12_joins 50 = .ok (.iconst 0, 1) := by decide +kernel
theorem dX12_joins_51 : decode cX12_joins 51 = .ok (.istore_n 3, 1) := by decide +kernel
theorem dX12_joins_52 : decode cX12_joins 52 = .ok (.aload_n 0, 1) := by decide +kernel
theorem dX12_joins_53 : decode cX12_joins 53 = .ok (.bipush 6, 2) := by decide +kernel
theorem dX12_joins_55 : decode cX12_joins 55 = .ok (.iload_n 3, 1) := by decide +kernel
theorem dX12_joins_56 : decode cX12_joins 56 = .ok (.ifCond .eq 7, 3) := by decide +kernel
theorem dX12_joins_59 : decode cX12_joins 59 = .ok (.iconst 5, 1) := by decide +kernel
theorem dX12_joins_60 : decode cX12_joins 60 = .ok (.goto 4, 3) := by decide +kernel
theorem dX12_joins_63 : decode cX12_joins 63 = .ok (.iconst 4, 1) := by decide +kernel
theorem dX12_joins_64 : decode cX12_joins 64 = .ok (.invokevirtual 181, 3) := by decide +kernel
theorem dX12_joins_67 : decode cX12_joins 67 = .ok (.aload_n 0, 1) := by decide +kernel
theorem dX12_joins_68 : decode cX12_joins 68 = .ok (.bipush 6, 2) := by decide +kernel
theorem dX12_joins_70 : decode cX12_joins 70 = .ok (.iload_n 3, 1) := by decide +kernel
theorem dX12_joins_71 : decode cX12_joins 71 = .ok (.ifCond .eq 7, 3) := by decide +kernel
theorem dX12_joins_74 : decode cX12_joins 74 = .ok (.iconst 4, 1) := by decide +kernel
theorem dX12_joins_75 : decode cX12_joins 75 = .ok (.goto 4, 3) := by decide +kernel
theorem dX12_joins_78 : decode cX12_joins 78 = .ok (.iconst 5, 1) := by decide +kernel
theorem dX12_joins_79 : decode cX12_joins 79 = .ok (.invokevirtual 242, 3) := by decide +kernel
theorem dX12_joins_82 : decode cX12_joins 82 = .ok (.aload_n 0, 1) := by decide +kernel
theorem dX12_joins_83 : decode cX12_joins 83 = .ok (.getfield 17, 3) := by decide +kernel
theorem dX12_joins_86 : decode cX12_joins 86 = .ok (.bipush 6, 2) := by decide +kernel
theorem dX12_joins_88 : decode cX12_joins 88 = .ok (.iaload, 1) := by decide +kernel
theorem dX12_joins_89 : decode cX12_joins 89 = .ok (.ifCond .ne 7, 3) := by decide +kernel
theorem dX12_joins_92 : decode cX12_joins 92 = .ok (.iconst 0, 1) := by decide +kernel
theorem dX12_joins_93 : decode cX12_joins 93 = .ok (.goto 12, 3) := by decide +kernel
theorem dX12_joins_96 : decode cX12_joins 96 = .ok (.iload_n 3, 1) := by decide +kernel
theorem dX12_joins_97 : decode cX12_joins 97 = .ok (.ifCond .eq 7, 3) := by decide +kernel
theorem dX12_joins_100 : decode cX12_joins 100 = .ok (.iload_n 2, 1) := by decide +kernel
theorem dX12_joins_101 : decode cX12_joins 101 = .ok (.goto 4, 3) := by decide +kernel
theorem dX12_joins_104 : decode cX12_joins 104 = .ok (.iload_n 1, 1) := by decide +kernel
theorem dX12_joins_105 : decode cX12_joins 105 = .ok (.ireturn, 1) := by decide +kernel
theorem dX12_hasTwo_0 : decode cX12_hasTwo 0 = .ok (.iload_n 0, 1) := by decide +kernel
theorem dX12_hasTwo_1 : decode cX12_hasTwo 1 = .ok (.bipush 7, 2) := by decide +kernel
theorem dX12_hasTwo_3 : decode cX12_hasTwo 3 = .ok (.if_icmp .lt 33, 3) := by decide +kernel
theorem dX12_hasTwo_6 : decode cX12_hasTwo 6 = .ok (.iload_n 0, 1) := by decide +kernel
theorem dX12_hasTwo_7 : decode cX12_hasTwo 7 = .ok (.bipush 10, 2) := by decide +kernel
theorem dX12_hasTwo_9 : decode cX12_hasTwo 9 = .ok (.if_icmp .eq 27, 3) := by decide +kernel
theorem dX12_hasTwo_12 : decode cX12_hasTwo 12 = .ok (.iload_n 0, 1) := by decide +kernel
theorem dX12_hasTwo_13 : decode cX12_hasTwo 13 = .ok (.bipush 11, 2) := by decide +kernel
theorem dX12_hasTwo_15 : decode cX12_hasTwo 15 = .ok (.if_icmp .eq 21, 3) := by decide +kernel
theorem dX12_hasTwo_18 : decode cX12_hasTwo 18 = .ok (.iload_n 0, 1) := by decide +kernel
theorem dX12_hasTwo_19 : decode cX12_hasTwo 19 = .ok (.bipush 16, 2) := by decide +kernel
theorem dX12_hasTwo_21 : decode cX12_hasTwo 21 = .ok (.if_icmp .eq 15, 3) := by decide +kernel
theorem dX12_hasTwo_24 : decode cX12_hasTwo 24 = .ok (.iload_n 0, 1) := by decide +kernel
theorem dX12_hasTwo_25 : decode cX12_hasTwo 25 = .ok (.bipush 19, 2) := by decide +kernel
theorem dX12_hasTwo_27 : decode cX12_hasTwo 27 = .ok (.if_icmp .eq 9, 3) := by decide +kernel
theorem dX12_hasTwo_30 : decode cX12_hasTwo 30 = .ok (.iload_n 0, 1) := by decide +kernel
theorem dX12_hasTwo_31 : decode cX12_hasTwo 31 = .ok (.bipush 20, 2) := by decide +kernel
theorem dX12_hasTwo_33 : decode cX12_hasTwo 33 = .ok (.if_icmp .ne 7, 3) := by decide +kernel
theorem dX12_hasTwo_36 : decode cX12_hasTwo 36 = .ok (.iconst 1, 1) := by decide +kernel
theorem dX12_hasTwo_37 : decode cX12_hasTwo 37 = .ok (.goto 4, 3) := by decide +kernel
theorem dX12_hasTwo_40 : decode cX12_hasTwo 40 = .ok (.iconst 0, 1) := by decide +kernel
theorem dX12_hasTwo_41 : decode cX12_hasTwo 41 = .ok (.ireturn, 1) := by decide +kernel
theorem dX12_rounds_0 : decode cX12_rounds 0 = .ok (.aload_n 0, 1) := by decide +kernel
theorem dX12_rounds_1 : decode cX12_rounds 1 = .ok (.iconst 0, 1) := by decide +kernel
theorem dX12_rounds_2 : decode cX12_rounds 2 = .ok (.iload_n 2, 1) := by decide +kernel
theorem dX12_rounds_3 : decode cX12_rounds 3 = .ok (.iconst 0, 1) := by decide +kernel
theorem dX12_rounds_4 : decode cX12_rounds 4 = .ok (.invokevirtual 228, 3) := by decide +kernel
theorem dX12_rounds_7 : decode cX12_rounds 7 = .ok (.aload_n 0, 1) := by decide +kernel
theorem dX12_rounds_8 : decode cX12_rounds 8 = .ok (.iconst 1, 1) := by decide +kernel
theorem dX12_rounds_9 : decode cX12_rounds 9 = .ok (.iload_n 2, 1) := by decide +kernel
theorem dX12_rounds_10 : decode cX12_rounds 10 = .ok (.iconst 1, 1) := by decide +kernel
theorem dX12_rounds_11 : decode cX12_rounds 11 = .ok (.invokevirtual 228, 3) := by decide +kernel
theorem dX12_rounds_14 : decode cX12_rounds 14 = .ok (.aload_n 0, 1) := by decide +kernel
theorem dX12_rounds_15 : decode cX12_rounds 15 = .ok (.iconst 0, 1) := by decide +kernel
theorem dX12_rounds_16 : decode cX12_rounds 16 = .ok (.iconst 1, 1) := by decide +kernel
theorem dX12_rounds_17 : decode cX12_rounds 17 = .ok (.invokevirtual 204, 3) := by decide +kernel
theorem dX12_rounds_20 : decode cX12_rounds 20 = .ok (.aload_n 0, 1) := by decide +kernel
theorem dX12_rounds_21 : decode cX12_rounds 21 = .ok (.bipush 6, 2) := by decide +kernel
theorem dX12_rounds_23 : decode cX12_rounds 23 = .ok (.bipush 9, 2) := by decide +kernel
theorem dX12_rounds_25 : decode cX12_rounds 25 = .ok (.invokevirtual 181, 3) := by decide +kernel
