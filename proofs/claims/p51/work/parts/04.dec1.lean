theorem dX5_lengthAhead_20 : decode cX5_lengthAhead 20 = .ok (.aload_n 0, 1) := by decide +kernel
theorem dX5_lengthAhead_21 : decode cX5_lengthAhead 21 = .ok (.getfield 48, 3) := by decide +kernel
theorem dX5_lengthAhead_24 : decode cX5_lengthAhead 24 = .ok (.iconst 2, 1) := by decide +kernel
theorem dX5_lengthAhead_25 : decode cX5_lengthAhead 25 = .ok (.invokevirtual 188, 3) := by decide +kernel
theorem dX5_lengthAhead_28 : decode cX5_lengthAhead 28 = .ok (.ifCond .eq 18, 3) := by decide +kernel
theorem dX5_lengthAhead_31 : decode cX5_lengthAhead 31 = .ok (.aload_n 0, 1) := by decide +kernel
theorem dX5_lengthAhead_32 : decode cX5_lengthAhead 32 = .ok (.getfield 48, 3) := by decide +kernel
theorem dX5_lengthAhead_35 : decode cX5_lengthAhead 35 = .ok (.iconst 2, 1) := by decide +kernel
theorem dX5_lengthAhead_36 : decode cX5_lengthAhead 36 = .ok (.invokevirtual 86, 3) := by decide +kernel
theorem dX5_lengthAhead_39 : decode cX5_lengthAhead 39 = .ok (.pop, 1) := by decide +kernel
theorem dX5_lengthAhead_40 : decode cX5_lengthAhead 40 = .ok (.iinc 2 1, 3) := by decide +kernel
theorem dX5_lengthAhead_43 : decode cX5_lengthAhead 43 = .ok (.goto (-30), 3) := by decide +kernel
theorem dX5_lengthAhead_46 : decode cX5_lengthAhead 46 = .ok (.iconst 0, 1) := by decide +kernel
theorem dX5_lengthAhead_47 : decode cX5_lengthAhead 47 = .ok (.istore_n 3, 1) := by decide +kernel
theorem dX5_lengthAhead_48 : decode cX5_lengthAhead 48 = .ok (.iload_n 3, 1) := by decide +kernel
theorem dX5_lengthAhead_49 : decode cX5_lengthAhead 49 = .ok (.sipush 1000, 3) := by decide +kernel
theorem dX5_lengthAhead_52 : decode cX5_lengthAhead 52 = .ok (.if_icmp .ge 29, 3) := by decide +kernel
theorem dX5_lengthAhead_55 : decode cX5_lengthAhead 55 = .ok (.aload_n 0, 1) := by decide +kernel
theorem dX5_lengthAhead_56 : decode cX5_lengthAhead 56 = .ok (.getfield 48, 3) := by decide +kernel
theorem dX5_lengthAhead_59 : decode cX5_lengthAhead 59 = .ok (.iconst 5, 1) := by decide +kernel
theorem dX5_lengthAhead_60 : decode cX5_lengthAhead 60 = .ok (.invokevirtual 188, 3) := by decide +kernel
theorem dX5_lengthAhead_63 : decode cX5_lengthAhead 63 = .ok (.ifCond .eq 18, 3) := by decide +kernel
theorem dX5_lengthAhead_66 : decode cX5_lengthAhead 66 = .ok (.aload_n 0, 1) := by decide +kernel
theorem dX5_lengthAhead_67 : decode cX5_lengthAhead 67 = .ok (.getfield 48, 3) := by decide +kernel
theorem dX5_lengthAhead_70 : decode cX5_lengthAhead 70 = .ok (.iconst 5, 1) := by decide +kernel
theorem dX5_lengthAhead_71 : decode cX5_lengthAhead 71 = .ok (.invokevirtual 86, 3) := by decide +kernel
theorem dX5_lengthAhead_74 : decode cX5_lengthAhead 74 = .ok (.pop, 1) := by decide +kernel
theorem dX5_lengthAhead_75 : decode cX5_lengthAhead 75 = .ok (.iinc 3 1, 3) := by decide +kernel
theorem dX5_lengthAhead_78 : decode cX5_lengthAhead 78 = .ok (.goto (-30), 3) := by decide +kernel
theorem dX5_lengthAhead_81 : decode cX5_lengthAhead 81 = .ok (.iload_n 2, 1) := by decide +kernel
theorem dX5_lengthAhead_82 : decode cX5_lengthAhead 82 = .ok (.iload_n 3, 1) := by decide +kernel
theorem dX5_lengthAhead_83 : decode cX5_lengthAhead 83 = .ok (.invokestatic 217, 3) := by decide +kernel
theorem dX5_lengthAhead_86 : decode cX5_lengthAhead 86 = .ok (.ireturn, 1) := by decide +kernel
theorem dX5_lengthRepeating_0 : decode cX5_lengthRepeating 0 = .ok (.aload_n 0, 1) := by decide +kernel
theorem dX5_lengthRepeating_1 : decode cX5_lengthRepeating 1 = .ok (.getfield 48, 3) := by decide +kernel
theorem dX5_lengthRepeating_4 : decode cX5_lengthRepeating 4 = .ok (.invokevirtual 228, 3) := by decide +kernel
theorem dX5_lengthRepeating_7 : decode cX5_lengthRepeating 7 = .ok (.ifCond .eq 5, 3) := by decide +kernel
theorem dX5_lengthRepeating_10 : decode cX5_lengthRepeating 10 = .ok (.iconst 0, 1) := by decide +kernel
theorem dX5_lengthRepeating_11 : decode cX5_lengthRepeating 11 = .ok (.ireturn, 1) := by decide +kernel
theorem dX5_lengthRepeating_12 : decode cX5_lengthRepeating 12 = .ok (.aload_n 0, 1) := by decide +kernel
theorem dX5_lengthRepeating_13 : decode cX5_lengthRepeating 13 = .ok (.getfield 48, 3) := by decide +kernel
theorem dX5_lengthRepeating_16 : decode cX5_lengthRepeating 16 = .ok (.invokevirtual 126, 3) := by decide +kernel
theorem dX5_lengthRepeating_19 : decode cX5_lengthRepeating 19 = .ok (.ifCond .eq 30, 3) := by decide +kernel
theorem dX5_lengthRepeating_22 : decode cX5_lengthRepeating 22 = .ok (.aload_n 0, 1) := by decide +kernel
theorem dX5_lengthRepeating_23 : decode cX5_lengthRepeating 23 = .ok (.getfield 48, 3) := by decide +kernel
theorem dX5_lengthRepeating_26 : decode cX5_lengthRepeating 26 = .ok (.invokevirtual 137, 3) := by decide +kernel
theorem dX5_lengthRepeating_29 : decode cX5_lengthRepeating 29 = .ok (.ldc2_w 231, 3) := by decide +kernel
theorem dX5_lengthRepeating_32 : decode cX5_lengthRepeating 32 = .ok (.lcmp, 1) := by decide +kernel
theorem dX5_lengthRepeating_33 : decode cX5_lengthRepeating 33 = .ok (.ifCond .ge 16, 3) := by decide +kernel
theorem dX5_lengthRepeating_36 : decode cX5_lengthRepeating 36 = .ok (.aload_n 0, 1) := by decide +kernel
theorem dX5_lengthRepeating_37 : decode cX5_lengthRepeating 37 = .ok (.aload_n 0, 1) := by decide +kernel
theorem dX5_lengthRepeating_38 : decode cX5_lengthRepeating 38 = .ok (.getfield 48, 3) := by decide +kernel
theorem dX5_lengthRepeating_41 : decode cX5_lengthRepeating 41 = .ok (.invokevirtual 137, 3) := by decide +kernel
theorem dX5_lengthRepeating_44 : decode cX5_lengthRepeating 44 = .ok (.iload_n 1, 1) := by decide +kernel
theorem dX5_lengthRepeating_45 : decode cX5_lengthRepeating 45 = .ok (.invokevirtual 233, 3) := by decide +kernel
theorem dX5_lengthRepeating_48 : decode cX5_lengthRepeating 48 = .ok (.ireturn, 1) := by decide +kernel
theorem dX5_lengthRepeating_49 : decode cX5_lengthRepeating 49 = .ok (.aload_n 0, 1) := by decide +kernel
theorem dX5_lengthRepeating_50 : decode cX5_lengthRepeating 50 = .ok (.getfield 42, 3) := by decide +kernel
theorem dX5_lengthRepeating_53 : decode cX5_lengthRepeating 53 = .ok (.lconst 1, 1) := by decide +kernel
theorem dX5_lengthRepeating_54 : decode cX5_lengthRepeating 54 = .ok (.invokevirtual 90, 3) := by decide +kernel
theorem dX5_lengthRepeating_57 : decode cX5_lengthRepeating 57 = .ok (.iconst 1, 1) := by decide +kernel
theorem dX5_lengthRepeating_58 : decode cX5_lengthRepeating 58 = .ok (.istore_n 2, 1) := by decide +kernel
theorem dX5_lengthRepeating_59 : decode cX5_lengthRepeating 59 = .ok (.iload_n 2, 1) := by decide +kernel
theorem dX5_lengthRepeating_60 : decode cX5_lengthRepeating 60 = .ok (.iload_n 1, 1) := by decide +kernel
theorem dX5_lengthRepeating_61 : decode cX5_lengthRepeating 61 = .ok (.if_icmp .gt 70, 3) := by decide +kernel
theorem dX5_lengthRepeating_64 : decode cX5_lengthRepeating 64 = .ok (.aload_n 0, 1) := by decide +kernel
theorem dX5_lengthRepeating_65 : decode cX5_lengthRepeating 65 = .ok (.getfield 42, 3) := by decide +kernel
theorem dX5_lengthRepeating_68 : decode cX5_lengthRepeating 68 = .ok (.bipush 10, 2) := by decide +kernel
theorem dX5_lengthRepeating_70 : decode cX5_lengthRepeating 70 = .ok (.iconst 0, 1) := by decide +kernel
theorem dX5_lengthRepeating_71 : decode cX5_lengthRepeating 71 = .ok (.invokevirtual 95, 3) := by decide +kernel
theorem dX5_lengthRepeating_74 : decode cX5_lengthRepeating 74 = .ok (.iconst 0, 1) := by decide +kernel
theorem dX5_lengthRepeating_75 : decode cX5_lengthRepeating 75 = .ok (.istore_n 3, 1) := by decide +kernel
theorem dX5_lengthRepeating_76 : decode cX5_lengthRepeating 76 = .ok (.iload_n 3, 1) := by decide +kernel
theorem dX5_lengthRepeating_77 : decode cX5_lengthRepeating 77 = .ok (.bipush 9, 2) := by decide +kernel
theorem dX5_lengthRepeating_79 : decode cX5_lengthRepeating 79 = .ok (.if_icmp .ge 34, 3) := by decide +kernel
theorem dX5_lengthRepeating_82 : decode cX5_lengthRepeating 82 = .ok (.aload_n 0, 1) := by decide +kernel
theorem dX5_lengthRepeating_83 : decode cX5_lengthRepeating 83 = .ok (.getfield 42, 3) := by decide +kernel
theorem dX5_lengthRepeating_86 : decode cX5_lengthRepeating 86 = .ok (.aload_n 0, 1) := by decide +kernel
theorem dX5_lengthRepeating_87 : decode cX5_lengthRepeating 87 = .ok (.getfield 48, 3) := by decide +kernel
theorem dX5_lengthRepeating_90 : decode cX5_lengthRepeating 90 = .ok (.invokevirtual 78, 3) := by decide +kernel
theorem dX5_lengthRepeating_93 : decode cX5_lengthRepeating 93 = .ok (.ifCond .lt 20, 3) := by decide +kernel
theorem dX5_lengthRepeating_96 : decode cX5_lengthRepeating 96 = .ok (.aload_n 0, 1) := by decide +kernel
theorem dX5_lengthRepeating_97 : decode cX5_lengthRepeating 97 = .ok (.getfield 42, 3) := by decide +kernel
theorem dX5_lengthRepeating_100 : decode cX5_lengthRepeating 100 = .ok (.aload_n 0, 1) := by decide +kernel
theorem dX5_lengthRepeating_101 : decode cX5_lengthRepeating 101 = .ok (.getfield 48, 3) := by decide +kernel
theorem dX5_lengthRepeating_104 : decode cX5_lengthRepeating 104 = .ok (.invokevirtual 158, 3) := by decide +kernel
theorem dX5_lengthRepeating_107 : decode cX5_lengthRepeating 107 = .ok (.iinc 3 1, 3) := by decide +kernel
theorem dX5_lengthRepeating_110 : decode cX5_lengthRepeating 110 = .ok (.goto (-34), 3) := by decide +kernel
theorem dX5_lengthRepeating_113 : decode cX5_lengthRepeating 113 = .ok (.aload_n 0, 1) := by decide +kernel
theorem dX5_lengthRepeating_114 : decode cX5_lengthRepeating 114 = .ok (.getfield 42, 3) := by decide +kernel
theorem dX5_lengthRepeating_117 : decode cX5_lengthRepeating 117 = .ok (.invokevirtual 228, 3) := by decide +kernel
theorem dX5_lengthRepeating_120 : decode cX5_lengthRepeating 120 = .ok (.ifCond .eq 5, 3) := by decide +kernel
theorem dX5_lengthRepeating_123 : decode cX5_lengthRepeating 123 = .ok (.iload_n 2, 1) := by decide +kernel
theorem dX5_lengthRepeating_124 : decode cX5_lengthRepeating 124 = .ok (.ireturn, 1) := by decide +kernel
theorem dX5_lengthRepeating_125 : decode cX5_lengthRepeating 125 = .ok (.iinc 2 1, 3) := by decide +kernel
theorem dX5_lengthRepeating_128 : decode cX5_lengthRepeating 128 = .ok (.goto (-69), 3) := by decide +kernel
theorem dX5_lengthRepeating_131 : decode cX5_lengthRepeating 131 = .ok (.iconst (-1), 1) := by decide +kernel
theorem dX5_lengthRepeating_132 : decode cX5_lengthRepeating 132 = .ok (.ireturn, 1) := by decide +kernel
theorem dX5_lengthRepeating__0 : decode cX5_lengthRepeating_ 0 = .ok (.lconst 1, 1) := by decide +kernel
theorem dX5_lengthRepeating__1 : decode cX5_lengthRepeating_ 1 = .ok (.lstore 4, 2) := by decide +kernel
theorem dX5_lengthRepeating__3 : decode cX5_lengthRepeating_ 3 = .ok (.iconst 1, 1) := by decide +kernel
theorem dX5_lengthRepeating__4 : decode cX5_lengthRepeating_ 4 = .ok (.istore 6, 2) := by decide +kernel
theorem dX5_lengthRepeating__6 : decode cX5_lengthRepeating_ 6 = .ok (.iload 6, 2) := by decide +kernel
theorem dX5_lengthRepeating__8 : decode cX5_lengthRepeating_ 8 = .ok (.iload_n 3, 1) := by decide +kernel
theorem dX5_lengthRepeating__9 : decode cX5_lengthRepeating_ 9 = .ok (.if_icmp .gt 35, 3) := by decide +kernel
theorem dX5_lengthRepeating__12 : decode cX5_lengthRepeating_ 12 = .ok (.lload_n 1, 1) := by decide +kernel
theorem dX5_lengthRepeating__13 : decode cX5_lengthRepeating_ 13 = .ok (.lconst 0, 1) := by decide +kernel
theorem dX5_lengthRepeating__14 : decode cX5_lengthRepeating_ 14 = .ok (.lcmp, 1) := by decide +kernel
theorem dX5_lengthRepeating__15 : decode cX5_lengthRepeating_ 15 = .ok (.ifCond .le 29, 3) := by decide +kernel
theorem dX5_lengthRepeating__18 : decode cX5_lengthRepeating_ 18 = .ok (.lload 4, 2) := by decide +kernel
theorem dX5_lengthRepeating__20 : decode cX5_lengthRepeating_ 20 = .ok (.ldc2_w 237, 3) := by decide +kernel
theorem dX5_lengthRepeating__23 : decode cX5_lengthRepeating_ 23 = .ok (.lmul, 1) := by decide +kernel
theorem dX5_lengthRepeating__24 : decode cX5_lengthRepeating_ 24 = .ok (.lload_n 1, 1) := by decide +kernel
theorem dX5_lengthRepeating__25 : decode cX5_lengthRepeating_ 25 = .ok (.lrem, 1) := by decide +kernel
theorem dX5_lengthRepeating__26 : decode cX5_lengthRepeating_ 26 = .ok (.lstore 4, 2) := by decide +kernel
theorem dX5_lengthRepeating__28 : decode cX5_lengthRepeating_ 28 = .ok (.lload 4, 2) := by decide +kernel
theorem dX5_lengthRepeating__30 : decode cX5_lengthRepeating_ 30 = .ok (.lconst 1, 1) := by decide +kernel
theorem dX5_lengthRepeating__31 : decode cX5_lengthRepeating_ 31 = .ok (.lcmp, 1) := by decide +kernel
theorem dX5_lengthRepeating__32 : decode cX5_lengthRepeating_ 32 = .ok (.ifCond .ne 6, 3) := by decide +kernel
theorem dX5_lengthRepeating__35 : decode cX5_lengthRepeating_ 35 = .ok (.iload 6, 2) := by decide +kernel
theorem dX5_lengthRepeating__37 : decode cX5_lengthRepeating_ 37 = .ok (.ireturn, 1) := by decide +kernel
theorem dX5_lengthRepeating__38 : decode cX5_lengthRepeating_ 38 = .ok (.iinc 6 1, 3) := by decide +kernel
theorem dX5_lengthRepeating__41 : decode cX5_lengthRepeating_ 41 = .ok (.goto (-35), 3) := by decide +kernel
theorem dX5_lengthRepeating__44 : decode cX5_lengthRepeating_ 44 = .ok (.iconst (-1), 1) := by decide +kernel
theorem dX5_lengthRepeating__45 : decode cX5_lengthRepeating_ 45 = .ok (.ireturn, 1) := by decide +kernel
theorem dX5_startDecimals_0 : decode cX5_startDecimals 0 = .ok (.aload_n 0, 1) := by decide +kernel
theorem dX5_startDecimals_1 : decode cX5_startDecimals 1 = .ok (.aload_n 1, 1) := by decide +kernel
theorem dX5_startDecimals_2 : decode cX5_startDecimals 2 = .ok (.getfield 141, 3) := by decide +kernel
theorem dX5_startDecimals_5 : decode cX5_startDecimals 5 = .ok (.aload_n 1, 1) := by decide +kernel
theorem dX5_startDecimals_6 : decode cX5_startDecimals 6 = .ok (.getfield 144, 3) := by decide +kernel
theorem dX5_startDecimals_9 : decode cX5_startDecimals 9 = .ok (.aload_n 0, 1) := by decide +kernel
theorem dX5_startDecimals_10 : decode cX5_startDecimals 10 = .ok (.getfield 36, 3) := by decide +kernel
theorem dX5_startDecimals_13 : decode cX5_startDecimals 13 = .ok (.aload_n 0, 1) := by decide +kernel
theorem dX5_startDecimals_14 : decode cX5_startDecimals 14 = .ok (.getfield 51, 3) := by decide +kernel
theorem dX5_startDecimals_17 : decode cX5_startDecimals 17 = .ok (.invokevirtual 133, 3) := by decide +kernel
theorem dX5_startDecimals_20 : decode cX5_startDecimals 20 = .ok (.aload_n 0, 1) := by decide +kernel
theorem dX5_startDecimals_21 : decode cX5_startDecimals 21 = .ok (.getfield 36, 3) := by decide +kernel
theorem dX5_startDecimals_24 : decode cX5_startDecimals 24 = .ok (.areturn, 1) := by decide +kernel
theorem dX5_nextDecimals_0 : decode cX5_nextDecimals 0 = .ok (.iload_n 2, 1) := by decide +kernel
theorem dX5_nextDecimals_1 : decode cX5_nextDecimals 1 = .ok (.ifCond .lt 11, 3) := by decide +kernel
theorem dX5_nextDecimals_4 : decode cX5_nextDecimals 4 = .ok (.iload_n 2, 1) := by decide +kernel
theorem dX5_nextDecimals_5 : decode cX5_nextDecimals 5 = .ok (.getstatic 239, 3) := by decide +kernel
theorem dX5_nextDecimals_8 : decode cX5_nextDecimals 8 = .ok (.arraylength, 1) := by decide +kernel
theorem dX5_nextDecimals_9 : decode cX5_nextDecimals 9 = .ok (.if_icmp .lt 5, 3) := by decide +kernel
theorem dX5_nextDecimals_12 : decode cX5_nextDecimals 12 = .ok (.iconst 0, 1) := by decide +kernel
theorem dX5_nextDecimals_13 : decode cX5_nextDecimals 13 = .ok (.ireturn, 1) := by decide +kernel
theorem dX5_nextDecimals_14 : decode cX5_nextDecimals 14 = .ok (.aload_n 0, 1) := by decide +kernel
theorem dX5_nextDecimals_15 : decode cX5_nextDecimals 15 = .ok (.getfield 51, 3) := by decide +kernel
theorem dX5_nextDecimals_18 : decode cX5_nextDecimals 18 = .ok (.getstatic 239, 3) := by decide +kernel
theorem dX5_nextDecimals_21 : decode cX5_nextDecimals 21 = .ok (.iload_n 2, 1) := by decide +kernel
theorem dX5_nextDecimals_22 : decode cX5_nextDecimals 22 = .ok (.iaload, 1) := by decide +kernel
theorem dX5_nextDecimals_23 : decode cX5_nextDecimals 23 = .ok (.iconst 0, 1) := by decide +kernel
theorem dX5_nextDecimals_24 : decode cX5_nextDecimals 24 = .ok (.invokevirtual 95, 3) := by decide +kernel
theorem dX5_nextDecimals_27 : decode cX5_nextDecimals 27 = .ok (.aload_n 0, 1) := by decide +kernel
theorem dX5_nextDecimals_28 : decode cX5_nextDecimals 28 = .ok (.aload_n 0, 1) := by decide +kernel
theorem dX5_nextDecimals_29 : decode cX5_nextDecimals 29 = .ok (.getfield 51, 3) := by decide +kernel
theorem dX5_nextDecimals_32 : decode cX5_nextDecimals 32 = .ok (.aload_n 1, 1) := by decide +kernel
theorem dX5_nextDecimals_33 : decode cX5_nextDecimals 33 = .ok (.getfield 144, 3) := by decide +kernel
theorem dX5_nextDecimals_36 : decode cX5_nextDecimals 36 = .ok (.aload_n 0, 1) := by decide +kernel
theorem dX5_nextDecimals_37 : decode cX5_nextDecimals 37 = .ok (.getfield 12, 3) := by decide +kernel
theorem dX5_nextDecimals_40 : decode cX5_nextDecimals 40 = .ok (.aload_n 0, 1) := by decide +kernel
theorem dX5_nextDecimals_41 : decode cX5_nextDecimals 41 = .ok (.getfield 51, 3) := by decide +kernel
theorem dX5_nextDecimals_44 : decode cX5_nextDecimals 44 = .ok (.invokevirtual 133, 3) := by decide +kernel
theorem dX5_nextDecimals_47 : decode cX5_nextDecimals 47 = .ok (.aload_n 0, 1) := by decide +kernel
theorem dX5_nextDecimals_48 : decode cX5_nextDecimals 48 = .ok (.getfield 12, 3) := by decide +kernel
theorem dX5_nextDecimals_51 : decode cX5_nextDecimals 51 = .ok (.iconst 0, 1) := by decide +kernel
theorem dX5_nextDecimals_52 : decode cX5_nextDecimals 52 = .ok (.invokevirtual 182, 3) := by decide +kernel
theorem dX5_nextDecimals_55 : decode cX5_nextDecimals 55 = .ok (.ireturn, 1) := by decide +kernel
theorem dX5_setAboveFloor_0 : decode cX5_setAboveFloor 0 = .ok (.aload_n 0, 1) := by decide +kernel
theorem dX5_setAboveFloor_1 : decode cX5_setAboveFloor 1 = .ok (.aload_n 1, 1) := by decide +kernel
theorem dX5_setAboveFloor_2 : decode cX5_setAboveFloor 2 = .ok (.getfield 141, 3) := by decide +kernel
theorem dX5_setAboveFloor_5 : decode cX5_setAboveFloor 5 = .ok (.aload_n 1, 1) := by decide +kernel
theorem dX5_setAboveFloor_6 : decode cX5_setAboveFloor 6 = .ok (.getfield 144, 3) := by decide +kernel
theorem dX5_setAboveFloor_9 : decode cX5_setAboveFloor 9 = .ok (.aload_n 0, 1) := by decide +kernel
theorem dX5_setAboveFloor_10 : decode cX5_setAboveFloor 10 = .ok (.getfield 36, 3) := by decide +kernel
theorem dX5_setAboveFloor_13 : decode cX5_setAboveFloor 13 = .ok (.aload_n 0, 1) := by decide +kernel
theorem dX5_setAboveFloor_14 : decode cX5_setAboveFloor 14 = .ok (.getfield 42, 3) := by decide +kernel
theorem dX5_setAboveFloor_17 : decode cX5_setAboveFloor 17 = .ok (.invokevirtual 133, 3) := by decide +kernel
theorem dX5_setAboveFloor_20 : decode cX5_setAboveFloor 20 = .ok (.aload_n 1, 1) := by decide +kernel
theorem dX5_setAboveFloor_21 : decode cX5_setAboveFloor 21 = .ok (.getfield 165, 3) := by decide +kernel
theorem dX5_setAboveFloor_24 : decode cX5_setAboveFloor 24 = .ok (.ifCond .ge 46, 3) := by decide +kernel
theorem dX5_setAboveFloor_27 : decode cX5_setAboveFloor 27 = .ok (.aload_n 0, 1) := by decide +kernel
theorem dX5_setAboveFloor_28 : decode cX5_setAboveFloor 28 = .ok (.getfield 42, 3) := by decide +kernel
theorem dX5_setAboveFloor_31 : decode cX5_setAboveFloor 31 = .ok (.invokevirtual 130, 3) := by decide +kernel
theorem dX5_setAboveFloor_34 : decode cX5_setAboveFloor 34 = .ok (.ifCond .ne 36, 3) := by decide +kernel
theorem dX5_setAboveFloor_37 : decode cX5_setAboveFloor 37 = .ok (.aload_n 0, 1) := by decide +kernel
theorem dX5_setAboveFloor_38 : decode cX5_setAboveFloor 38 = .ok (.getfield 45, 3) := by decide +kernel
theorem dX5_setAboveFloor_41 : decode cX5_setAboveFloor 41 = .ok (.aload_n 1, 1) := by decide +kernel
theorem dX5_setAboveFloor_42 : decode cX5_setAboveFloor 42 = .ok (.getfield 144, 3) := by decide +kernel
theorem dX5_setAboveFloor_45 : decode cX5_setAboveFloor 45 = .ok (.invokevirtual 70, 3) := by decide +kernel
theorem dX5_setAboveFloor_48 : decode cX5_setAboveFloor 48 = .ok (.aload_n 0, 1) := by decide +kernel
theorem dX5_setAboveFloor_49 : decode cX5_setAboveFloor 49 = .ok (.getfield 45, 3) := by decide +kernel
theorem dX5_setAboveFloor_52 : decode cX5_setAboveFloor 52 = .ok (.aload_n 0, 1) := by decide +kernel
theorem dX5_setAboveFloor_53 : decode cX5_setAboveFloor 53 = .ok (.getfield 42, 3) := by decide +kernel
theorem dX5_setAboveFloor_56 : decode cX5_setAboveFloor 56 = .ok (.invokevirtual 158, 3) := by decide +kernel
theorem dX5_setAboveFloor_59 : decode cX5_setAboveFloor 59 = .ok (.aload_n 0, 1) := by decide +kernel
theorem dX5_setAboveFloor_60 : decode cX5_setAboveFloor 60 = .ok (.getfield 42, 3) := by decide +kernel
theorem dX5_setAboveFloor_63 : decode cX5_setAboveFloor 63 = .ok (.aload_n 0, 1) := by decide +kernel
theorem dX5_setAboveFloor_64 : decode cX5_setAboveFloor 64 = .ok (.getfield 45, 3) := by decide +kernel
theorem dX5_setAboveFloor_67 : decode cX5_setAboveFloor 67 = .ok (.invokevirtual 70, 3) := by decide +kernel
theorem dX5_setAboveFloor_70 : decode cX5_setAboveFloor 70 = .ok (.return_, 1) := by decide +kernel
theorem dX5_continuedForm_0 : decode cX5_continuedForm 0 = .ok (.aload_n 0, 1) := by decide +kernel
theorem dX5_continuedForm_1 : decode cX5_continuedForm 1 = .ok (.aload_n 1, 1) := by decide +kernel
theorem dX5_continuedForm_2 : decode cX5_continuedForm 2 = .ok (.bipush 12, 2) := by decide +kernel
theorem dX5_continuedForm_4 : decode cX5_continuedForm 4 = .ok (.aload_n 0, 1) := by decide +kernel
theorem dX5_continuedForm_5 : decode cX5_continuedForm 5 = .ok (.getfield 67, 3) := by decide +kernel
theorem dX5_continuedForm_8 : decode cX5_continuedForm 8 = .ok (.invokevirtual 242, 3) := by decide +kernel
theorem dX5_continuedForm_11 : decode cX5_continuedForm 11 = .ok (.aload_n 0, 1) := by decide +kernel
theorem dX5_continuedForm_12 : decode cX5_continuedForm 12 = .ok (.aload_n 1, 1) := by decide +kernel
theorem dX5_continuedForm_13 : decode cX5_continuedForm 13 = .ok (.invokevirtual 246, 3) := by decide +kernel
theorem dX5_continuedForm_16 : decode cX5_continuedForm 16 = .ok (.aload_n 0, 1) := by decide +kernel
theorem dX5_continuedForm_17 : decode cX5_continuedForm 17 = .ok (.getfield 45, 3) := by decide +kernel
theorem dX5_continuedForm_20 : decode cX5_continuedForm 20 = .ok (.aload_n 1, 1) := by decide +kernel
theorem dX5_continuedForm_21 : decode cX5_continuedForm 21 = .ok (.getfield 144, 3) := by decide +kernel
theorem dX5_continuedForm_24 : decode cX5_continuedForm 24 = .ok (.invokevirtual 70, 3) := by decide +kernel
theorem dX5_continuedForm_27 : decode cX5_continuedForm 27 = .ok (.aload_n 0, 1) := by decide +kernel
theorem dX5_continuedForm_28 : decode cX5_continuedForm 28 = .ok (.getfield 45, 3) := by decide +kernel
theorem dX5_continuedForm_31 : decode cX5_continuedForm 31 = .ok (.astore_n 3, 1) := by decide +kernel
theorem dX5_continuedForm_32 : decode cX5_continuedForm 32 = .ok (.aload_n 0, 1) := by decide +kernel
theorem dX5_continuedForm_33 : decode cX5_continuedForm 33 = .ok (.getfield 42, 3) := by decide +kernel
theorem dX5_continuedForm_36 : decode cX5_continuedForm 36 = .ok (.astore 4, 2) := by decide +kernel
theorem dX5_continuedForm_38 : decode cX5_continuedForm 38 = .ok (.iconst 1, 1) := by decide +kernel
theorem dX5_continuedForm_39 : decode cX5_continuedForm 39 = .ok (.istore 5, 2) := by decide +kernel
theorem dX5_continuedForm_41 : decode cX5_continuedForm 41 = .ok (.iload 5, 2) := by decide +kernel
theorem dX5_continuedForm_43 : decode cX5_continuedForm 43 = .ok (.ldc 125, 2) := by decide +kernel
theorem dX5_continuedForm_45 : decode cX5_continuedForm 45 = .ok (.if_icmp .ge 67, 3) := by decide +kernel
theorem dX5_continuedForm_48 : decode cX5_continuedForm 48 = .ok (.aload 4, 2) := by decide +kernel
theorem dX5_continuedForm_50 : decode cX5_continuedForm 50 = .ok (.invokevirtual 130, 3) := by decide +kernel
theorem dX5_continuedForm_53 : decode cX5_continuedForm 53 = .ok (.ifCond .ne 59, 3) := by decide +kernel
theorem dX5_continuedForm_56 : decode cX5_continuedForm 56 = .ok (.aload_n 0, 1) := by decide +kernel
theorem dX5_continuedForm_57 : decode cX5_continuedForm 57 = .ok (.aload_n 3, 1) := by decide +kernel
theorem dX5_continuedForm_58 : decode cX5_continuedForm 58 = .ok (.aload 4, 2) := by decide +kernel
theorem dX5_continuedForm_60 : decode cX5_continuedForm 60 = .ok (.aload_n 0, 1) := by decide +kernel
theorem dX5_continuedForm_61 : decode cX5_continuedForm 61 = .ok (.getfield 36, 3) := by decide +kernel
theorem dX5_continuedForm_64 : decode cX5_continuedForm 64 = .ok (.aload_n 3, 1) := by decide +kernel
theorem dX5_continuedForm_65 : decode cX5_continuedForm 65 = .ok (.invokevirtual 133, 3) := by decide +kernel
theorem dX5_continuedForm_68 : decode cX5_continuedForm 68 = .ok (.iload 5, 2) := by decide +kernel
theorem dX5_continuedForm_70 : decode cX5_continuedForm 70 = .ok (.iload_n 2, 1) := by decide +kernel
theorem dX5_continuedForm_71 : decode cX5_continuedForm 71 = .ok (.if_icmp .ne 25, 3) := by decide +kernel
theorem dX5_continuedForm_74 : decode cX5_continuedForm 74 = .ok (.aload_n 0, 1) := by decide +kernel
theorem dX5_continuedForm_75 : decode cX5_continuedForm 75 = .ok (.getfield 67, 3) := by decide +kernel
theorem dX5_continuedForm_78 : decode cX5_continuedForm 78 = .ok (.getfield 141, 3) := by decide +kernel
theorem dX5_continuedForm_81 : decode cX5_continuedForm 81 = .ok (.aload_n 0, 1) := by decide +kernel
theorem dX5_continuedForm_82 : decode cX5_continuedForm 82 = .ok (.getfield 36, 3) := by decide +kernel
theorem dX5_continuedForm_85 : decode cX5_continuedForm 85 = .ok (.invokevirtual 70, 3) := by decide +kernel
theorem dX5_continuedForm_88 : decode cX5_continuedForm 88 = .ok (.aload_n 0, 1) := by decide +kernel
theorem dX5_continuedForm_89 : decode cX5_continuedForm 89 = .ok (.getfield 67, 3) := by decide +kernel
theorem dX5_continuedForm_92 : decode cX5_continuedForm 92 = .ok (.iconst 1, 1) := by decide +kernel
theorem dX5_continuedForm_93 : decode cX5_continuedForm 93 = .ok (.putfield 165, 3) := by decide +kernel
theorem dX5_continuedForm_96 : decode cX5_continuedForm 96 = .ok (.iinc 5 1, 3) := by decide +kernel
theorem dX5_continuedForm_99 : decode cX5_continuedForm 99 = .ok (.aload_n 3, 1) := by decide +kernel
theorem dX5_continuedForm_100 : decode cX5_continuedForm 100 = .ok (.astore 6, 2) := by decide +kernel
theorem dX5_continuedForm_102 : decode cX5_continuedForm 102 = .ok (.aload 4, 2) := by decide +kernel
theorem dX5_continuedForm_104 : decode cX5_continuedForm 104 = .ok (.astore_n 3, 1) := by decide +kernel
theorem dX5_continuedForm_105 : decode cX5_continuedForm 105 = .ok (.aload 6, 2) := by decide +kernel
theorem dX5_continuedForm_107 : decode cX5_continuedForm 107 = .ok (.astore 4, 2) := by decide +kernel
theorem dX5_continuedForm_109 : decode cX5_continuedForm 109 = .ok (.goto (-68), 3) := by decide +kernel
theorem dX5_continuedForm_112 : decode cX5_continuedForm 112 = .ok (.iload 5, 2) := by decide +kernel
theorem dX5_continuedForm_114 : decode cX5_continuedForm 114 = .ok (.ireturn, 1) := by decide +kernel
theorem dX5_bestWithin_0 : decode cX5_bestWithin 0 = .ok (.aload_n 0, 1) := by decide +kernel
theorem dX5_bestWithin_1 : decode cX5_bestWithin 1 = .ok (.aload_n 1, 1) := by decide +kernel
theorem dX5_bestWithin_2 : decode cX5_bestWithin 2 = .ok (.bipush 12, 2) := by decide +kernel
theorem dX5_bestWithin_4 : decode cX5_bestWithin 4 = .ok (.aload_n 0, 1) := by decide +kernel
theorem dX5_bestWithin_5 : decode cX5_bestWithin 5 = .ok (.getfield 67, 3) := by decide +kernel
theorem dX5_bestWithin_8 : decode cX5_bestWithin 8 = .ok (.invokevirtual 242, 3) := by decide +kernel
theorem dX5_bestWithin_11 : decode cX5_bestWithin 11 = .ok (.aload_n 0, 1) := by decide +kernel
theorem dX5_bestWithin_12 : decode cX5_bestWithin 12 = .ok (.aload_n 1, 1) := by decide +kernel
theorem dX5_bestWithin_13 : decode cX5_bestWithin 13 = .ok (.invokevirtual 246, 3) := by decide +kernel
theorem dX5_bestWithin_16 : decode cX5_bestWithin 16 = .ok (.aload_n 0, 1) := by decide +kernel
theorem dX5_bestWithin_17 : decode cX5_bestWithin 17 = .ok (.getfield 45, 3) := by decide +kernel
theorem dX5_bestWithin_20 : decode cX5_bestWithin 20 = .ok (.aload_n 1, 1) := by decide +kernel
theorem dX5_bestWithin_21 : decode cX5_bestWithin 21 = .ok (.getfield 144, 3) := by decide +kernel
theorem dX5_bestWithin_24 : decode cX5_bestWithin 24 = .ok (.invokevirtual 70, 3) := by decide +kernel
theorem dX5_bestWithin_27 : decode cX5_bestWithin 27 = .ok (.aload_n 0, 1) := by decide +kernel
theorem dX5_bestWithin_28 : decode cX5_bestWithin 28 = .ok (.getfield 45, 3) := by decide +kernel
theorem dX5_bestWithin_31 : decode cX5_bestWithin 31 = .ok (.aload_n 0, 1) := by decide +kernel
theorem dX5_bestWithin_32 : decode cX5_bestWithin 32 = .ok (.getfield 42, 3) := by decide +kernel
theorem dX5_bestWithin_35 : decode cX5_bestWithin 35 = .ok (.invokevirtual 158, 3) := by decide +kernel
theorem dX5_bestWithin_38 : decode cX5_bestWithin 38 = .ok (.iconst 0, 1) := by decide +kernel
theorem dX5_bestWithin_39 : decode cX5_bestWithin 39 = .ok (.istore_n 3, 1) := by decide +kernel
theorem dX5_bestWithin_40 : decode cX5_bestWithin 40 = .ok (.iconst 1, 1) := by decide +kernel
theorem dX5_bestWithin_41 : decode cX5_bestWithin 41 = .ok (.istore 4, 2) := by decide +kernel
theorem dX5_bestWithin_43 : decode cX5_bestWithin 43 = .ok (.iconst 1, 1) := by decide +kernel
theorem dX5_bestWithin_44 : decode cX5_bestWithin 44 = .ok (.istore 5, 2) := by decide +kernel
theorem dX5_bestWithin_46 : decode cX5_bestWithin 46 = .ok (.iconst 1, 1) := by decide +kernel
theorem dX5_bestWithin_47 : decode cX5_bestWithin 47 = .ok (.istore 6, 2) := by decide +kernel
theorem dX5_bestWithin_49 : decode cX5_bestWithin 49 = .ok (.iload 4, 2) := by decide +kernel
theorem dX5_bestWithin_51 : decode cX5_bestWithin 51 = .ok (.iload 6, 2) := by decide +kernel
theorem dX5_bestWithin_53 : decode cX5_bestWithin 53 = .ok (.iadd, 1) := by decide +kernel
theorem dX5_bestWithin_54 : decode cX5_bestWithin 54 = .ok (.iload_n 2, 1) := by decide +kernel
theorem dX5_bestWithin_55 : decode cX5_bestWithin 55 = .ok (.if_icmp .gt 80, 3) := by decide +kernel
theorem dX5_bestWithin_58 : decode cX5_bestWithin 58 = .ok (.aload_n 0, 1) := by decide +kernel
theorem dX5_bestWithin_59 : decode cX5_bestWithin 59 = .ok (.getfield 42, 3) := by decide +kernel
theorem dX5_bestWithin_62 : decode cX5_bestWithin 62 = .ok (.invokevirtual 130, 3) := by decide +kernel
theorem dX5_bestWithin_65 : decode cX5_bestWithin 65 = .ok (.ifCond .ne 70, 3) := by decide +kernel
theorem dX5_bestWithin_68 : decode cX5_bestWithin 68 = .ok (.aload_n 0, 1) := by decide +kernel
theorem dX5_bestWithin_69 : decode cX5_bestWithin 69 = .ok (.getfield 42, 3) := by decide +kernel
theorem dX5_bestWithin_72 : decode cX5_bestWithin 72 = .ok (.aload_n 0, 1) := by decide +kernel
theorem dX5_bestWithin_73 : decode cX5_bestWithin 73 = .ok (.getfield 45, 3) := by decide +kernel
theorem dX5_bestWithin_76 : decode cX5_bestWithin 76 = .ok (.invokevirtual 78, 3) := by decide +kernel
theorem dX5_bestWithin_79 : decode cX5_bestWithin 79 = .ok (.ifCond .lt 29, 3) := by decide +kernel
theorem dX5_bestWithin_82 : decode cX5_bestWithin 82 = .ok (.aload_n 0, 1) := by decide +kernel
theorem dX5_bestWithin_83 : decode cX5_bestWithin 83 = .ok (.getfield 42, 3) := by decide +kernel
theorem dX5_bestWithin_86 : decode cX5_bestWithin 86 = .ok (.aload_n 0, 1) := by decide +kernel
theorem dX5_bestWithin_87 : decode cX5_bestWithin 87 = .ok (.getfield 45, 3) := by decide +kernel
theorem dX5_bestWithin_90 : decode cX5_bestWithin 90 = .ok (.invokevirtual 158, 3) := by decide +kernel
theorem dX5_bestWithin_93 : decode cX5_bestWithin 93 = .ok (.iload_n 3, 1) := by decide +kernel
theorem dX5_bestWithin_94 : decode cX5_bestWithin 94 = .ok (.iload 5, 2) := by decide +kernel
theorem dX5_bestWithin_96 : decode cX5_bestWithin 96 = .ok (.iadd, 1) := by decide +kernel
theorem dX5_bestWithin_97 : decode cX5_bestWithin 97 = .ok (.istore_n 3, 1) := by decide +kernel
theorem dX5_bestWithin_98 : decode cX5_bestWithin 98 = .ok (.iload 4, 2) := by decide +kernel
theorem dX5_bestWithin_100 : decode cX5_bestWithin 100 = .ok (.iload 6, 2) := by decide +kernel
theorem dX5_bestWithin_102 : decode cX5_bestWithin 102 = .ok (.iadd, 1) := by decide +kernel
theorem dX5_bestWithin_103 : decode cX5_bestWithin 103 = .ok (.istore 4, 2) := by decide +kernel
theorem dX5_bestWithin_105 : decode cX5_bestWithin 105 = .ok (.goto (-56), 3) := by decide +kernel
theorem dX5_bestWithin_108 : decode cX5_bestWithin 108 = .ok (.aload_n 0, 1) := by decide +kernel
theorem dX5_bestWithin_109 : decode cX5_bestWithin 109 = .ok (.getfield 45, 3) := by decide +kernel
theorem dX5_bestWithin_112 : decode cX5_bestWithin 112 = .ok (.aload_n 0, 1) := by decide +kernel
theorem dX5_bestWithin_113 : decode cX5_bestWithin 113 = .ok (.getfield 42, 3) := by decide +kernel
theorem dX5_bestWithin_116 : decode cX5_bestWithin 116 = .ok (.invokevirtual 158, 3) := by decide +kernel
theorem dX5_bestWithin_119 : decode cX5_bestWithin 119 = .ok (.iload 5, 2) := by decide +kernel
theorem dX5_bestWithin_121 : decode cX5_bestWithin 121 = .ok (.iload_n 3, 1) := by decide +kernel
theorem dX5_bestWithin_122 : decode cX5_bestWithin 122 = .ok (.iadd, 1) := by decide +kernel
theorem dX5_bestWithin_123 : decode cX5_bestWithin 123 = .ok (.istore 5, 2) := by decide +kernel
theorem dX5_bestWithin_125 : decode cX5_bestWithin 125 = .ok (.iload 6, 2) := by decide +kernel
theorem dX5_bestWithin_127 : decode cX5_bestWithin 127 = .ok (.iload 4, 2) := by decide +kernel
theorem dX5_bestWithin_129 : decode cX5_bestWithin 129 = .ok (.iadd, 1) := by decide +kernel
theorem dX5_bestWithin_130 : decode cX5_bestWithin 130 = .ok (.istore 6, 2) := by decide +kernel
theorem dX5_bestWithin_132 : decode cX5_bestWithin 132 = .ok (.goto (-83), 3) := by decide +kernel
theorem dX5_bestWithin_135 : decode cX5_bestWithin 135 = .ok (.aload_n 0, 1) := by decide +kernel
theorem dX5_bestWithin_136 : decode cX5_bestWithin 136 = .ok (.getfield 42, 3) := by decide +kernel
theorem dX5_bestWithin_139 : decode cX5_bestWithin 139 = .ok (.invokevirtual 130, 3) := by decide +kernel
theorem dX5_bestWithin_142 : decode cX5_bestWithin 142 = .ok (.istore 7, 2) := by decide +kernel
theorem dX5_bestWithin_144 : decode cX5_bestWithin 144 = .ok (.aload_n 0, 1) := by decide +kernel
theorem dX5_bestWithin_145 : decode cX5_bestWithin 145 = .ok (.getfield 42, 3) := by decide +kernel
theorem dX5_bestWithin_148 : decode cX5_bestWithin 148 = .ok (.iload 6, 2) := by decide +kernel
theorem dX5_bestWithin_150 : decode cX5_bestWithin 150 = .ok (.iconst 0, 1) := by decide +kernel
theorem dX5_bestWithin_151 : decode cX5_bestWithin 151 = .ok (.invokevirtual 95, 3) := by decide +kernel
theorem dX5_bestWithin_154 : decode cX5_bestWithin 154 = .ok (.aload_n 0, 1) := by decide +kernel
theorem dX5_bestWithin_155 : decode cX5_bestWithin 155 = .ok (.getfield 45, 3) := by decide +kernel
theorem dX5_bestWithin_158 : decode cX5_bestWithin 158 = .ok (.iload 4, 2) := by decide +kernel
theorem dX5_bestWithin_160 : decode cX5_bestWithin 160 = .ok (.iconst 0, 1) := by decide +kernel
theorem dX5_bestWithin_161 : decode cX5_bestWithin 161 = .ok (.invokevirtual 95, 3) := by decide +kernel
theorem dX5_bestWithin_164 : decode cX5_bestWithin 164 = .ok (.aload_n 0, 1) := by decide +kernel
theorem dX5_bestWithin_165 : decode cX5_bestWithin 165 = .ok (.getfield 42, 3) := by decide +kernel
theorem dX5_bestWithin_168 : decode cX5_bestWithin 168 = .ok (.aload_n 0, 1) := by decide +kernel
theorem dX5_bestWithin_169 : decode cX5_bestWithin 169 = .ok (.getfield 45, 3) := by decide +kernel
theorem dX5_bestWithin_172 : decode cX5_bestWithin 172 = .ok (.invokevirtual 78, 3) := by decide +kernel
theorem dX5_bestWithin_175 : decode cX5_bestWithin 175 = .ok (.istore 8, 2) := by decide +kernel
theorem dX5_bestWithin_177 : decode cX5_bestWithin 177 = .ok (.iload 8, 2) := by decide +kernel
theorem dX5_bestWithin_179 : decode cX5_bestWithin 179 = .ok (.ifCond .lt 15, 3) := by decide +kernel
theorem dX5_bestWithin_182 : decode cX5_bestWithin 182 = .ok (.iload 8, 2) := by decide +kernel
theorem dX5_bestWithin_184 : decode cX5_bestWithin 184 = .ok (.ifCond .ne 14, 3) := by decide +kernel
theorem dX5_bestWithin_187 : decode cX5_bestWithin 187 = .ok (.iload 4, 2) := by decide +kernel
theorem dX5_bestWithin_189 : decode cX5_bestWithin 189 = .ok (.iload 6, 2) := by decide +kernel
theorem dX5_bestWithin_191 : decode cX5_bestWithin 191 = .ok (.if_icmp .gt 7, 3) := by decide +kernel
theorem dX5_bestWithin_194 : decode cX5_bestWithin 194 = .ok (.iconst 1, 1) := by decide +kernel
theorem dX5_bestWithin_195 : decode cX5_bestWithin 195 = .ok (.goto 4, 3) := by decide +kernel
theorem dX5_bestWithin_198 : decode cX5_bestWithin 198 = .ok (.iconst 0, 1) := by decide +kernel
theorem dX5_bestWithin_199 : decode cX5_bestWithin 199 = .ok (.istore 9, 2) := by decide +kernel
theorem dX5_bestWithin_201 : decode cX5_bestWithin 201 = .ok (.aload_n 0, 1) := by decide +kernel
theorem dX5_bestWithin_202 : decode cX5_bestWithin 202 = .ok (.iload 9, 2) := by decide +kernel
theorem dX5_bestWithin_204 : decode cX5_bestWithin 204 = .ok (.ifCond .eq 7, 3) := by decide +kernel
theorem dX5_bestWithin_207 : decode cX5_bestWithin 207 = .ok (.iload_n 3, 1) := by decide +kernel
theorem dX5_bestWithin_208 : decode cX5_bestWithin 208 = .ok (.goto 5, 3) := by decide +kernel
theorem dX5_bestWithin_211 : decode cX5_bestWithin 211 = .ok (.iload 5, 2) := by decide +kernel
theorem dX5_bestWithin_213 : decode cX5_bestWithin 213 = .ok (.iload 9, 2) := by decide +kernel
theorem dX5_bestWithin_215 : decode cX5_bestWithin 215 = .ok (.ifCond .eq 8, 3) := by decide +kernel
theorem dX5_bestWithin_218 : decode cX5_bestWithin 218 = .ok (.iload 4, 2) := by decide +kernel
theorem dX5_bestWithin_220 : decode cX5_bestWithin 220 = .ok (.goto 5, 3) := by decide +kernel
theorem dX5_bestWithin_223 : decode cX5_bestWithin 223 = .ok (.iload 6, 2) := by decide +kernel
theorem dX5_bestWithin_225 : decode cX5_bestWithin 225 = .ok (.invokevirtual 249, 3) := by decide +kernel
theorem dX5_bestWithin_228 : decode cX5_bestWithin 228 = .ok (.iload 7, 2) := by decide +kernel
theorem dX5_bestWithin_230 : decode cX5_bestWithin 230 = .ok (.ifCond .eq 7, 3) := by decide +kernel
theorem dX5_bestWithin_233 : decode cX5_bestWithin 233 = .ok (.iconst 0, 1) := by decide +kernel
theorem dX5_bestWithin_234 : decode cX5_bestWithin 234 = .ok (.goto 13, 3) := by decide +kernel
theorem dX5_bestWithin_237 : decode cX5_bestWithin 237 = .ok (.iload 9, 2) := by decide +kernel
theorem dX5_bestWithin_239 : decode cX5_bestWithin 239 = .ok (.ifCond .eq 7, 3) := by decide +kernel
theorem dX5_bestWithin_242 : decode cX5_bestWithin 242 = .ok (.iconst (-1), 1) := by decide +kernel
theorem dX5_bestWithin_243 : decode cX5_bestWithin 243 = .ok (.goto 4, 3) := by decide +kernel
theorem dX5_bestWithin_246 : decode cX5_bestWithin 246 = .ok (.iconst 1, 1) := by decide +kernel
theorem dX5_bestWithin_247 : decode cX5_bestWithin 247 = .ok (.ireturn, 1) := by decide +kernel
theorem dX5_addSmall_0 : decode cX5_addSmall 0 = .ok (.aload_n 0, 1) := by decide +kernel
theorem dX5_addSmall_1 : decode cX5_addSmall 1 = .ok (.getfield 61, 3) := by decide +kernel
theorem dX5_addSmall_4 : decode cX5_addSmall 4 = .ok (.aload_n 0, 1) := by decide +kernel
theorem dX5_addSmall_5 : decode cX5_addSmall 5 = .ok (.getfield 67, 3) := by decide +kernel
theorem dX5_addSmall_8 : decode cX5_addSmall 8 = .ok (.invokevirtual 214, 3) := by decide +kernel
theorem dX5_addSmall_11 : decode cX5_addSmall 11 = .ok (.aload_n 0, 1) := by decide +kernel
theorem dX5_addSmall_12 : decode cX5_addSmall 12 = .ok (.getfield 64, 3) := by decide +kernel
theorem dX5_addSmall_15 : decode cX5_addSmall 15 = .ok (.getfield 141, 3) := by decide +kernel
theorem dX5_addSmall_18 : decode cX5_addSmall 18 = .ok (.iload_n 1, 1) := by decide +kernel
theorem dX5_addSmall_19 : decode cX5_addSmall 19 = .ok (.i2l, 1) := by decide +kernel
theorem dX5_addSmall_20 : decode cX5_addSmall 20 = .ok (.invokevirtual 90, 3) := by decide +kernel
theorem dX5_addSmall_23 : decode cX5_addSmall 23 = .ok (.aload_n 0, 1) := by decide +kernel
theorem dX5_addSmall_24 : decode cX5_addSmall 24 = .ok (.getfield 64, 3) := by decide +kernel
theorem dX5_addSmall_27 : decode cX5_addSmall 27 = .ok (.getfield 144, 3) := by decide +kernel
theorem dX5_addSmall_30 : decode cX5_addSmall 30 = .ok (.iload_n 2, 1) := by decide +kernel
theorem dX5_addSmall_31 : decode cX5_addSmall 31 = .ok (.i2l, 1) := by decide +kernel
theorem dX5_addSmall_32 : decode cX5_addSmall 32 = .ok (.invokevirtual 90, 3) := by decide +kernel
theorem dX5_addSmall_35 : decode cX5_addSmall 35 = .ok (.aload_n 0, 1) := by decide +kernel
theorem dX5_addSmall_36 : decode cX5_addSmall 36 = .ok (.getfield 64, 3) := by decide +kernel
theorem dX5_addSmall_39 : decode cX5_addSmall 39 = .ok (.iconst 1, 1) := by decide +kernel
theorem dX5_addSmall_40 : decode cX5_addSmall 40 = .ok (.invokevirtual 154, 3) := by decide +kernel
theorem dX5_addSmall_43 : decode cX5_addSmall 43 = .ok (.aload_n 0, 1) := by decide +kernel
theorem dX5_addSmall_44 : decode cX5_addSmall 44 = .ok (.aload_n 0, 1) := by decide +kernel
theorem dX5_addSmall_45 : decode cX5_addSmall 45 = .ok (.getfield 61, 3) := by decide +kernel
theorem dX5_addSmall_48 : decode cX5_addSmall 48 = .ok (.aload_n 0, 1) := by decide +kernel
theorem dX5_addSmall_49 : decode cX5_addSmall 49 = .ok (.getfield 64, 3) := by decide +kernel
theorem dX5_addSmall_52 : decode cX5_addSmall 52 = .ok (.iconst 0, 1) := by decide +kernel
theorem dX5_addSmall_53 : decode cX5_addSmall 53 = .ok (.aload_n 0, 1) := by decide +kernel
theorem dX5_addSmall_54 : decode cX5_addSmall 54 = .ok (.getfield 67, 3) := by decide +kernel
theorem dX5_addSmall_57 : decode cX5_addSmall 57 = .ok (.invokevirtual 206, 3) := by decide +kernel
theorem dX5_addSmall_60 : decode cX5_addSmall 60 = .ok (.return_, 1) := by decide +kernel
theorem dX5_unitFractions_0 : decode cX5_unitFractions 0 = .ok (.aload_n 1, 1) := by decide +kernel
theorem dX5_unitFractions_1 : decode cX5_unitFractions 1 = .ok (.getfield 165, 3) := by decide +kernel
theorem dX5_unitFractions_4 : decode cX5_unitFractions 4 = .ok (.ifCond .le 17, 3) := by decide +kernel
theorem dX5_unitFractions_7 : decode cX5_unitFractions 7 = .ok (.aload_n 1, 1) := by decide +kernel
theorem dX5_unitFractions_8 : decode cX5_unitFractions 8 = .ok (.getfield 141, 3) := by decide +kernel
theorem dX5_unitFractions_11 : decode cX5_unitFractions 11 = .ok (.aload_n 1, 1) := by decide +kernel
theorem dX5_unitFractions_12 : decode cX5_unitFractions 12 = .ok (.getfield 144, 3) := by decide +kernel
theorem dX5_unitFractions_15 : decode cX5_unitFractions 15 = .ok (.invokevirtual 78, 3) := by decide +kernel
theorem dX5_unitFractions_18 : decode cX5_unitFractions 18 = .ok (.ifCond .lt 5, 3) := by decide +kernel
theorem dX5_unitFractions_21 : decode cX5_unitFractions 21 = .ok (.iconst (-1), 1) := by decide +kernel
theorem dX5_unitFractions_22 : decode cX5_unitFractions 22 = .ok (.ireturn, 1) := by decide +kernel
theorem dX5_unitFractions_23 : decode cX5_unitFractions 23 = .ok (.aload_n 0, 1) := by decide +kernel
theorem dX5_unitFractions_24 : decode cX5_unitFractions 24 = .ok (.getfield 61, 3) := by decide +kernel
theorem dX5_unitFractions_27 : decode cX5_unitFractions 27 = .ok (.astore_n 3, 1) := by decide +kernel
theorem dX5_unitFractions_28 : decode cX5_unitFractions 28 = .ok (.aload_n 0, 1) := by decide +kernel
theorem dX5_unitFractions_29 : decode cX5_unitFractions 29 = .ok (.getfield 64, 3) := by decide +kernel
theorem dX5_unitFractions_32 : decode cX5_unitFractions 32 = .ok (.astore 4, 2) := by decide +kernel
theorem dX5_unitFractions_34 : decode cX5_unitFractions 34 = .ok (.aload_n 3, 1) := by decide +kernel
theorem dX5_unitFractions_35 : decode cX5_unitFractions 35 = .ok (.aload_n 1, 1) := by decide +kernel
theorem dX5_unitFractions_36 : decode cX5_unitFractions 36 = .ok (.invokevirtual 214, 3) := by decide +kernel
theorem dX5_unitFractions_39 : decode cX5_unitFractions 39 = .ok (.aload_n 0, 1) := by decide +kernel
theorem dX5_unitFractions_40 : decode cX5_unitFractions 40 = .ok (.getfield 57, 3) := by decide +kernel
theorem dX5_unitFractions_43 : decode cX5_unitFractions 43 = .ok (.getfield 141, 3) := by decide +kernel
theorem dX5_unitFractions_46 : decode cX5_unitFractions 46 = .ok (.lconst 1, 1) := by decide +kernel
theorem dX5_unitFractions_47 : decode cX5_unitFractions 47 = .ok (.invokevirtual 90, 3) := by decide +kernel
theorem dX5_unitFractions_50 : decode cX5_unitFractions 50 = .ok (.aload_n 0, 1) := by decide +kernel
theorem dX5_unitFractions_51 : decode cX5_unitFractions 51 = .ok (.getfield 57, 3) := by decide +kernel
theorem dX5_unitFractions_54 : decode cX5_unitFractions 54 = .ok (.iconst 1, 1) := by decide +kernel
theorem dX5_unitFractions_55 : decode cX5_unitFractions 55 = .ok (.putfield 165, 3) := by decide +kernel
theorem dX5_unitFractions_58 : decode cX5_unitFractions 58 = .ok (.iconst 0, 1) := by decide +kernel
theorem dX5_unitFractions_59 : decode cX5_unitFractions 59 = .ok (.istore 5, 2) := by decide +kernel
theorem dX5_unitFractions_61 : decode cX5_unitFractions 61 = .ok (.iload 5, 2) := by decide +kernel
theorem dX5_unitFractions_63 : decode cX5_unitFractions 63 = .ok (.bipush 8, 2) := by decide +kernel
theorem dX5_unitFractions_65 : decode cX5_unitFractions 65 = .ok (.if_icmp .ge 126, 3) := by decide +kernel
theorem dX5_unitFractions_68 : decode cX5_unitFractions 68 = .ok (.aload_n 0, 1) := by decide +kernel
theorem dX5_unitFractions_69 : decode cX5_unitFractions 69 = .ok (.aload_n 3, 1) := by decide +kernel
theorem dX5_unitFractions_70 : decode cX5_unitFractions 70 = .ok (.getfield 144, 3) := by decide +kernel
theorem dX5_unitFractions_73 : decode cX5_unitFractions 73 = .ok (.aload_n 3, 1) := by decide +kernel
theorem dX5_unitFractions_74 : decode cX5_unitFractions 74 = .ok (.getfield 141, 3) := by decide +kernel
theorem dX5_unitFractions_77 : decode cX5_unitFractions 77 = .ok (.aload_n 0, 1) := by decide +kernel
theorem dX5_unitFractions_78 : decode cX5_unitFractions 78 = .ok (.getfield 57, 3) := by decide +kernel
theorem dX5_unitFractions_81 : decode cX5_unitFractions 81 = .ok (.getfield 144, 3) := by decide +kernel
theorem dX5_unitFractions_84 : decode cX5_unitFractions 84 = .ok (.aload_n 0, 1) := by decide +kernel
theorem dX5_unitFractions_85 : decode cX5_unitFractions 85 = .ok (.getfield 21, 3) := by decide +kernel
theorem dX5_unitFractions_88 : decode cX5_unitFractions 88 = .ok (.invokevirtual 133, 3) := by decide +kernel
theorem dX5_unitFractions_91 : decode cX5_unitFractions 91 = .ok (.aload_n 0, 1) := by decide +kernel
theorem dX5_unitFractions_92 : decode cX5_unitFractions 92 = .ok (.getfield 21, 3) := by decide +kernel
theorem dX5_unitFractions_95 : decode cX5_unitFractions 95 = .ok (.invokevirtual 130, 3) := by decide +kernel
theorem dX5_unitFractions_98 : decode cX5_unitFractions 98 = .ok (.ifCond .ne 15, 3) := by decide +kernel
theorem dX5_unitFractions_101 : decode cX5_unitFractions 101 = .ok (.aload_n 0, 1) := by decide +kernel
theorem dX5_unitFractions_102 : decode cX5_unitFractions 102 = .ok (.getfield 57, 3) := by decide +kernel
theorem dX5_unitFractions_105 : decode cX5_unitFractions 105 = .ok (.getfield 144, 3) := by decide +kernel
theorem dX5_unitFractions_108 : decode cX5_unitFractions 108 = .ok (.iconst 1, 1) := by decide +kernel
theorem dX5_unitFractions_109 : decode cX5_unitFractions 109 = .ok (.iconst 1, 1) := by decide +kernel
theorem dX5_unitFractions_110 : decode cX5_unitFractions 110 = .ok (.invokevirtual 95, 3) := by decide +kernel
theorem dX5_unitFractions_113 : decode cX5_unitFractions 113 = .ok (.iload 5, 2) := by decide +kernel
theorem dX5_unitFractions_115 : decode cX5_unitFractions 115 = .ok (.iload_n 2, 1) := by decide +kernel
theorem dX5_unitFractions_116 : decode cX5_unitFractions 116 = .ok (.if_icmp .ne 14, 3) := by decide +kernel
theorem dX5_unitFractions_119 : decode cX5_unitFractions 119 = .ok (.aload_n 0, 1) := by decide +kernel
theorem dX5_unitFractions_120 : decode cX5_unitFractions 120 = .ok (.getfield 67, 3) := by decide +kernel
theorem dX5_unitFractions_123 : decode cX5_unitFractions 123 = .ok (.aload_n 0, 1) := by decide +kernel
theorem dX5_unitFractions_124 : decode cX5_unitFractions 124 = .ok (.getfield 57, 3) := by decide +kernel
theorem dX5_unitFractions_127 : decode cX5_unitFractions 127 = .ok (.invokevirtual 214, 3) := by decide +kernel
theorem dX5_unitFractions_130 : decode cX5_unitFractions 130 = .ok (.aload_n 0, 1) := by decide +kernel
theorem dX5_unitFractions_131 : decode cX5_unitFractions 131 = .ok (.aload_n 3, 1) := by decide +kernel
theorem dX5_unitFractions_132 : decode cX5_unitFractions 132 = .ok (.aload_n 0, 1) := by decide +kernel
theorem dX5_unitFractions_133 : decode cX5_unitFractions 133 = .ok (.getfield 57, 3) := by decide +kernel
theorem dX5_unitFractions_136 : decode cX5_unitFractions 136 = .ok (.iconst 1, 1) := by decide +kernel
theorem dX5_unitFractions_137 : decode cX5_unitFractions 137 = .ok (.aload 4, 2) := by decide +kernel
theorem dX5_unitFractions_139 : decode cX5_unitFractions 139 = .ok (.invokevirtual 206, 3) := by decide +kernel
theorem dX5_unitFractions_142 : decode cX5_unitFractions 142 = .ok (.aload_n 0, 1) := by decide +kernel
theorem dX5_unitFractions_143 : decode cX5_unitFractions 143 = .ok (.getfield 57, 3) := by decide +kernel
theorem dX5_unitFractions_146 : decode cX5_unitFractions 146 = .ok (.invokevirtual 252, 3) := by decide +kernel
theorem dX5_unitFractions_149 : decode cX5_unitFractions 149 = .ok (.ifCond .eq 11, 3) := by decide +kernel
theorem dX5_unitFractions_152 : decode cX5_unitFractions 152 = .ok (.aload 4, 2) := by decide +kernel
theorem dX5_unitFractions_154 : decode cX5_unitFractions 154 = .ok (.invokevirtual 252, 3) := by decide +kernel
theorem dX5_unitFractions_157 : decode cX5_unitFractions 157 = .ok (.ifCond .ne 5, 3) := by decide +kernel
theorem dX5_unitFractions_160 : decode cX5_unitFractions 160 = .ok (.iconst (-1), 1) := by decide +kernel
theorem dX5_unitFractions_161 : decode cX5_unitFractions 161 = .ok (.ireturn, 1) := by decide +kernel
theorem dX5_unitFractions_162 : decode cX5_unitFractions 162 = .ok (.aload 4, 2) := by decide +kernel
theorem dX5_unitFractions_164 : decode cX5_unitFractions 164 = .ok (.getfield 165, 3) := by decide +kernel
theorem dX5_unitFractions_167 : decode cX5_unitFractions 167 = .ok (.ifCond .ne 8, 3) := by decide +kernel
theorem dX5_unitFractions_170 : decode cX5_unitFractions 170 = .ok (.iload 5, 2) := by decide +kernel
theorem dX5_unitFractions_172 : decode cX5_unitFractions 172 = .ok (.iconst 1, 1) := by decide +kernel
theorem dX5_unitFractions_173 : decode cX5_unitFractions 173 = .ok (.iadd, 1) := by decide +kernel
theorem dX5_unitFractions_174 : decode cX5_unitFractions 174 = .ok (.ireturn, 1) := by decide +kernel
theorem dX5_unitFractions_175 : decode cX5_unitFractions 175 = .ok (.aload_n 3, 1) := by decide +kernel
theorem dX5_unitFractions_176 : decode cX5_unitFractions 176 = .ok (.astore 6, 2) := by decide +kernel
theorem dX5_unitFractions_178 : decode cX5_unitFractions 178 = .ok (.aload 4, 2) := by decide +kernel
theorem dX5_unitFractions_180 : decode cX5_unitFractions 180 = .ok (.astore_n 3, 1) := by decide +kernel
theorem dX5_unitFractions_181 : decode cX5_unitFractions 181 = .ok (.aload 6, 2) := by decide +kernel
theorem dX5_unitFractions_183 : decode cX5_unitFractions 183 = .ok (.astore 4, 2) := by decide +kernel
theorem dX5_unitFractions_185 : decode cX5_unitFractions 185 = .ok (.iinc 5 1, 3) := by decide +kernel
theorem dX5_unitFractions_188 : decode cX5_unitFractions 188 = .ok (.goto (-127), 3) := by decide +kernel
theorem dX5_unitFractions_191 : decode cX5_unitFractions 191 = .ok (.iconst (-1), 1) := by decide +kernel
theorem dX5_unitFractions_192 : decode cX5_unitFractions 192 = .ok (.ireturn, 1) := by decide +kernel
theorem dX6_init_0 : decode cX6_init 0 = .ok (.aload_n 0, 1) := by decide +kernel
theorem dX6_init_1 : decode cX6_init 1 = .ok (.invokespecial 1, 3) := by decide +kernel
theorem dX6_init_4 : decode cX6_init 4 = .ok (.aload_n 0, 1) := by decide +kernel
theorem dX6_init_5 : decode cX6_init 5 = .ok (.iload_n 1, 1) := by decide +kernel
theorem dX6_init_6 : decode cX6_init 6 = .ok (.iconst 0, 1) := by decide +kernel
theorem dX6_init_7 : decode cX6_init 7 = .ok (.invokestatic 7, 3) := by decide +kernel
theorem dX6_init_10 : decode cX6_init 10 = .ok (.anewarray 13, 3) := by decide +kernel
theorem dX6_init_13 : decode cX6_init 13 = .ok (.putfield 15, 3) := by decide +kernel
theorem dX6_init_16 : decode cX6_init 16 = .ok (.return_, 1) := by decide +kernel
theorem dX6_with_0 : decode cX6_with 0 = .ok (.new 16, 3) := by decide +kernel
theorem dX6_with_3 : decode cX6_with 3 = .ok (.dup, 1) := by decide +kernel
theorem dX6_with_4 : decode cX6_with 4 = .ok (.aload_n 0, 1) := by decide +kernel
theorem dX6_with_5 : decode cX6_with 5 = .ok (.getfield 15, 3) := by decide +kernel
theorem dX6_with_8 : decode cX6_with 8 = .ok (.arraylength, 1) := by decide +kernel
theorem dX6_with_9 : decode cX6_with 9 = .ok (.iconst 1, 1) := by decide +kernel
theorem dX6_with_10 : decode cX6_with 10 = .ok (.iadd, 1) := by decide +kernel
theorem dX6_with_11 : decode cX6_with 11 = .ok (.invokespecial 21, 3) := by decide +kernel
theorem dX6_with_14 : decode cX6_with 14 = .ok (.astore_n 3, 1) := by decide +kernel
theorem dX6_with_15 : decode cX6_with 15 = .ok (.iconst 0, 1) := by decide +kernel
theorem dX6_with_16 : decode cX6_with 16 = .ok (.istore 4, 2) := by decide +kernel
theorem dX6_with_18 : decode cX6_with 18 = .ok (.iload 4, 2) := by decide +kernel
theorem dX6_with_20 : decode cX6_with 20 = .ok (.aload_n 3, 1) := by decide +kernel
theorem dX6_with_21 : decode cX6_with 21 = .ok (.getfield 15, 3) := by decide +kernel
theorem dX6_with_24 : decode cX6_with 24 = .ok (.arraylength, 1) := by decide +kernel
theorem dX6_with_25 : decode cX6_with 25 = .ok (.if_icmp .ge 60, 3) := by decide +kernel
theorem dX6_with_28 : decode cX6_with 28 = .ok (.iload 4, 2) := by decide +kernel
theorem dX6_with_30 : decode cX6_with 30 = .ok (.iload_n 2, 1) := by decide +kernel
theorem dX6_with_31 : decode cX6_with 31 = .ok (.if_icmp .le 10, 3) := by decide +kernel
theorem dX6_with_34 : decode cX6_with 34 = .ok (.iload 4, 2) := by decide +kernel
theorem dX6_with_36 : decode cX6_with 36 = .ok (.iconst 1, 1) := by decide +kernel
theorem dX6_with_37 : decode cX6_with 37 = .ok (.isub, 1) := by decide +kernel
theorem dX6_with_38 : decode cX6_with 38 = .ok (.goto 5, 3) := by decide +kernel
theorem dX6_with_41 : decode cX6_with 41 = .ok (.iload 4, 2) := by decide +kernel
theorem dX6_with_43 : decode cX6_with 43 = .ok (.istore 5, 2) := by decide +kernel
theorem dX6_with_45 : decode cX6_with 45 = .ok (.aload_n 3, 1) := by decide +kernel
theorem dX6_with_46 : decode cX6_with 46 = .ok (.getfield 15, 3) := by decide +kernel
theorem dX6_with_49 : decode cX6_with 49 = .ok (.iload 4, 2) := by decide +kernel
theorem dX6_with_51 : decode cX6_with 51 = .ok (.iload 4, 2) := by decide +kernel
theorem dX6_with_53 : decode cX6_with 53 = .ok (.iload_n 2, 1) := by decide +kernel
theorem dX6_with_54 : decode cX6_with 54 = .ok (.if_icmp .eq 13, 3) := by decide +kernel
theorem dX6_with_57 : decode cX6_with 57 = .ok (.iload 5, 2) := by decide +kernel
theorem dX6_with_59 : decode cX6_with 59 = .ok (.aload_n 0, 1) := by decide +kernel
theorem dX6_with_60 : decode cX6_with 60 = .ok (.getfield 15, 3) := by decide +kernel
theorem dX6_with_63 : decode cX6_with 63 = .ok (.arraylength, 1) := by decide +kernel
theorem dX6_with_64 : decode cX6_with 64 = .ok (.if_icmp .lt 7, 3) := by decide +kernel
theorem dX6_with_67 : decode cX6_with 67 = .ok (.aload_n 1, 1) := by decide +kernel
theorem dX6_with_68 : decode cX6_with 68 = .ok (.goto 10, 3) := by decide +kernel
theorem dX6_with_71 : decode cX6_with 71 = .ok (.aload_n 0, 1) := by decide +kernel
theorem dX6_with_72 : decode cX6_with 72 = .ok (.getfield 15, 3) := by decide +kernel
theorem dX6_with_75 : decode cX6_with 75 = .ok (.iload 5, 2) := by decide +kernel
theorem dX6_with_77 : decode cX6_with 77 = .ok (.aaload, 1) := by decide +kernel
theorem dX6_with_78 : decode cX6_with 78 = .ok (.aastore, 1) := by decide +kernel
theorem dX6_with_79 : decode cX6_with 79 = .ok (.iinc 4 1, 3) := by decide +kernel
theorem dX6_with_82 : decode cX6_with 82 = .ok (.goto (-64), 3) := by decide +kernel
theorem dX6_with_85 : decode cX6_with 85 = .ok (.aload_n 3, 1) := by decide +kernel
theorem dX6_with_86 : decode cX6_with 86 = .ok (.areturn, 1) := by decide +kernel
theorem dX6_without_0 : decode cX6_without 0 = .ok (.new 16, 3) := by decide +kernel
theorem dX6_without_3 : decode cX6_without 3 = .ok (.dup, 1) := by decide +kernel
theorem dX6_without_4 : decode cX6_without 4 = .ok (.aload_n 0, 1) := by decide +kernel
theorem dX6_without_5 : decode cX6_without 5 = .ok (.getfield 15, 3) := by decide +kernel
theorem dX6_without_8 : decode cX6_without 8 = .ok (.arraylength, 1) := by decide +kernel
theorem dX6_without_9 : decode cX6_without 9 = .ok (.iconst 1, 1) := by decide +kernel
theorem dX6_without_10 : decode cX6_without 10 = .ok (.isub, 1) := by decide +kernel
theorem dX6_without_11 : decode cX6_without 11 = .ok (.invokespecial 21, 3) := by decide +kernel
theorem dX6_without_14 : decode cX6_without 14 = .ok (.astore_n 2, 1) := by decide +kernel
theorem dX6_without_15 : decode cX6_without 15 = .ok (.iconst 0, 1) := by decide +kernel
theorem dX6_without_16 : decode cX6_without 16 = .ok (.istore_n 3, 1) := by decide +kernel
theorem dX6_without_17 : decode cX6_without 17 = .ok (.iload_n 3, 1) := by decide +kernel
theorem dX6_without_18 : decode cX6_without 18 = .ok (.aload_n 2, 1) := by decide +kernel
theorem dX6_without_19 : decode cX6_without 19 = .ok (.getfield 15, 3) := by decide +kernel
theorem dX6_without_22 : decode cX6_without 22 = .ok (.arraylength, 1) := by decide +kernel
theorem dX6_without_23 : decode cX6_without 23 = .ok (.if_icmp .ge 32, 3) := by decide +kernel
theorem dX6_without_26 : decode cX6_without 26 = .ok (.aload_n 2, 1) := by decide +kernel
theorem dX6_without_27 : decode cX6_without 27 = .ok (.getfield 15, 3) := by decide +kernel
theorem dX6_without_30 : decode cX6_without 30 = .ok (.iload_n 3, 1) := by decide +kernel
theorem dX6_without_31 : decode cX6_without 31 = .ok (.aload_n 0, 1) := by decide +kernel
theorem dX6_without_32 : decode cX6_without 32 = .ok (.getfield 15, 3) := by decide +kernel
theorem dX6_without_35 : decode cX6_without 35 = .ok (.iload_n 3, 1) := by decide +kernel
theorem dX6_without_36 : decode cX6_without 36 = .ok (.iload_n 1, 1) := by decide +kernel
theorem dX6_without_37 : decode cX6_without 37 = .ok (.if_icmp .ge 7, 3) := by decide +kernel
theorem dX6_without_40 : decode cX6_without 40 = .ok (.iload_n 3, 1) := by decide +kernel
theorem dX6_without_41 : decode cX6_without 41 = .ok (.goto 6, 3) := by decide +kernel
theorem dX6_without_44 : decode cX6_without 44 = .ok (.iload_n 3, 1) := by decide +kernel
theorem dX6_without_45 : decode cX6_without 45 = .ok (.iconst 1, 1) := by decide +kernel
theorem dX6_without_46 : decode cX6_without 46 = .ok (.iadd, 1) := by decide +kernel
theorem dX6_without_47 : decode cX6_without 47 = .ok (.aaload, 1) := by decide +kernel
theorem dX6_without_48 : decode cX6_without 48 = .ok (.aastore, 1) := by decide +kernel
theorem dX6_without_49 : decode cX6_without 49 = .ok (.iinc 3 1, 3) := by decide +kernel
theorem dX6_without_52 : decode cX6_without 52 = .ok (.goto (-35), 3) := by decide +kernel
theorem dX6_without_55 : decode cX6_without 55 = .ok (.aload_n 2, 1) := by decide +kernel
theorem dX6_without_56 : decode cX6_without 56 = .ok (.areturn, 1) := by decide +kernel
theorem dX6_countSame_0 : decode cX6_countSame 0 = .ok (.iconst 0, 1) := by decide +kernel
theorem dX6_countSame_1 : decode cX6_countSame 1 = .ok (.istore_n 3, 1) := by decide +kernel
theorem dX6_countSame_2 : decode cX6_countSame 2 = .ok (.iload_n 1, 1) := by decide +kernel
theorem dX6_countSame_3 : decode cX6_countSame 3 = .ok (.ifCond .lt 35, 3) := by decide +kernel
theorem dX6_countSame_6 : decode cX6_countSame 6 = .ok (.iload_n 1, 1) := by decide +kernel
theorem dX6_countSame_7 : decode cX6_countSame 7 = .ok (.iload_n 3, 1) := by decide +kernel
theorem dX6_countSame_8 : decode cX6_countSame 8 = .ok (.iadd, 1) := by decide +kernel
theorem dX6_countSame_9 : decode cX6_countSame 9 = .ok (.aload_n 0, 1) := by decide +kernel
theorem dX6_countSame_10 : decode cX6_countSame 10 = .ok (.getfield 15, 3) := by decide +kernel
theorem dX6_countSame_13 : decode cX6_countSame 13 = .ok (.arraylength, 1) := by decide +kernel
theorem dX6_countSame_14 : decode cX6_countSame 14 = .ok (.if_icmp .ge 24, 3) := by decide +kernel
theorem dX6_countSame_17 : decode cX6_countSame 17 = .ok (.aload_n 0, 1) := by decide +kernel
theorem dX6_countSame_18 : decode cX6_countSame 18 = .ok (.getfield 15, 3) := by decide +kernel
theorem dX6_countSame_21 : decode cX6_countSame 21 = .ok (.iload_n 1, 1) := by decide +kernel
theorem dX6_countSame_22 : decode cX6_countSame 22 = .ok (.iload_n 3, 1) := by decide +kernel
theorem dX6_countSame_23 : decode cX6_countSame 23 = .ok (.iadd, 1) := by decide +kernel
theorem dX6_countSame_24 : decode cX6_countSame 24 = .ok (.aaload, 1) := by decide +kernel
theorem dX6_countSame_25 : decode cX6_countSame 25 = .ok (.aload_n 2, 1) := by decide +kernel
theorem dX6_countSame_26 : decode cX6_countSame 26 = .ok (.invokevirtual 24, 3) := by decide +kernel
theorem dX6_countSame_29 : decode cX6_countSame 29 = .ok (.ifCond .eq 9, 3) := by decide +kernel
theorem dX6_countSame_32 : decode cX6_countSame 32 = .ok (.iinc 3 1, 3) := by decide +kernel
theorem dX6_countSame_35 : decode cX6_countSame 35 = .ok (.goto (-33), 3) := by decide +kernel
theorem dX6_countSame_38 : decode cX6_countSame 38 = .ok (.iload_n 3, 1) := by decide +kernel
theorem dX6_countSame_39 : decode cX6_countSame 39 = .ok (.ireturn, 1) := by decide +kernel
theorem dX7_init_0 : decode cX7_init 0 = .ok (.aload_n 0, 1) := by decide +kernel
theorem dX7_init_1 : decode cX7_init 1 = .ok (.invokespecial 3, 3) := by decide +kernel
theorem dX7_init_4 : decode cX7_init 4 = .ok (.aload_n 0, 1) := by decide +kernel
theorem dX7_init_5 : decode cX7_init 5 = .ok (.new 9, 3) := by decide +kernel
theorem dX7_init_8 : decode cX7_init 8 = .ok (.dup, 1) := by decide +kernel
theorem dX7_init_9 : decode cX7_init 9 = .ok (.iconst 0, 1) := by decide +kernel
theorem dX7_init_10 : decode cX7_init 10 = .ok (.anewarray 11, 3) := by decide +kernel
theorem dX7_init_13 : decode cX7_init 13 = .ok (.iconst 0, 1) := by decide +kernel
theorem dX7_init_14 : decode cX7_init 14 = .ok (.anewarray 11, 3) := by decide +kernel
theorem dX7_init_17 : decode cX7_init 17 = .ok (.invokespecial 13, 3) := by decide +kernel
theorem dX7_init_20 : decode cX7_init 20 = .ok (.putfield 16, 3) := by decide +kernel
theorem dX7_init_23 : decode cX7_init 23 = .ok (.aload_n 0, 1) := by decide +kernel
theorem dX7_init_24 : decode cX7_init 24 = .ok (.iconst 3, 1) := by decide +kernel
theorem dX7_init_25 : decode cX7_init 25 = .ok (.anewarray 22, 3) := by decide +kernel
theorem dX7_init_28 : decode cX7_init 28 = .ok (.putfield 24, 3) := by decide +kernel
theorem dX7_init_31 : decode cX7_init 31 = .ok (.iconst 0, 1) := by decide +kernel
theorem dX7_init_32 : decode cX7_init 32 = .ok (.istore_n 1, 1) := by decide +kernel
theorem dX7_init_33 : decode cX7_init 33 = .ok (.iload_n 1, 1) := by decide +kernel
theorem dX7_init_34 : decode cX7_init 34 = .ok (.aload_n 0, 1) := by decide +kernel
theorem dX7_init_35 : decode cX7_init 35 = .ok (.getfield 24, 3) := by decide +kernel
theorem dX7_init_38 : decode cX7_init 38 = .ok (.arraylength, 1) := by decide +kernel
theorem dX7_init_39 : decode cX7_init 39 = .ok (.if_icmp .ge 23, 3) := by decide +kernel
theorem dX7_init_42 : decode cX7_init 42 = .ok (.aload_n 0, 1) := by decide +kernel
theorem dX7_init_43 : decode cX7_init 43 = .ok (.getfield 24, 3) := by decide +kernel
theorem dX7_init_46 : decode cX7_init 46 = .ok (.iload_n 1, 1) := by decide +kernel
theorem dX7_init_47 : decode cX7_init 47 = .ok (.new 22, 3) := by decide +kernel
theorem dX7_init_50 : decode cX7_init 50 = .ok (.dup, 1) := by decide +kernel
theorem dX7_init_51 : decode cX7_init 51 = .ok (.iconst 0, 1) := by decide +kernel
theorem dX7_init_52 : decode cX7_init 52 = .ok (.invokespecial 28, 3) := by decide +kernel
theorem dX7_init_55 : decode cX7_init 55 = .ok (.aastore, 1) := by decide +kernel
theorem dX7_init_56 : decode cX7_init 56 = .ok (.iinc 1 1, 3) := by decide +kernel
theorem dX7_init_59 : decode cX7_init 59 = .ok (.goto (-26), 3) := by decide +kernel
theorem dX7_init_62 : decode cX7_init 62 = .ok (.return_, 1) := by decide +kernel
theorem dX7_init__0 : decode cX7_init_ 0 = .ok (.aload_n 0, 1) := by decide +kernel
theorem dX7_init__1 : decode cX7_init_ 1 = .ok (.invokespecial 3, 3) := by decide +kernel
theorem dX7_init__4 : decode cX7_init_ 4 = .ok (.aload_n 0, 1) := by decide +kernel
theorem dX7_init__5 : decode cX7_init_ 5 = .ok (.aload_n 1, 1) := by decide +kernel
theorem dX7_init__6 : decode cX7_init_ 6 = .ok (.putfield 16, 3) := by decide +kernel
theorem dX7_init__9 : decode cX7_init_ 9 = .ok (.aload_n 0, 1) := by decide +kernel
theorem dX7_init__10 : decode cX7_init_ 10 = .ok (.aload_n 2, 1) := by decide +kernel
theorem dX7_init__11 : decode cX7_init_ 11 = .ok (.putfield 24, 3) := by decide +kernel
theorem dX7_init__14 : decode cX7_init_ 14 = .ok (.return_, 1) := by decide +kernel
theorem dX7_withRow_0 : decode cX7_withRow 0 = .ok (.aload_n 0, 1) := by decide +kernel
theorem dX7_withRow_1 : decode cX7_withRow 1 = .ok (.getfield 24, 3) := by decide +kernel
theorem dX7_withRow_4 : decode cX7_withRow 4 = .ok (.invokevirtual 31, 3) := by decide +kernel
theorem dX7_withRow_7 : decode cX7_withRow 7 = .ok (.checkcast 32, 3) := by decide +kernel
theorem dX7_withRow_10 : decode cX7_withRow 10 = .ok (.astore_n 3, 1) := by decide +kernel
theorem dX7_withRow_11 : decode cX7_withRow 11 = .ok (.iload_n 1, 1) := by decide +kernel
theorem dX7_withRow_12 : decode cX7_withRow 12 = .ok (.ifCond .lt 13, 3) := by decide +kernel
theorem dX7_withRow_15 : decode cX7_withRow 15 = .ok (.iload_n 1, 1) := by decide +kernel
theorem dX7_withRow_16 : decode cX7_withRow 16 = .ok (.aload_n 3, 1) := by decide +kernel
theorem dX7_withRow_17 : decode cX7_withRow 17 = .ok (.arraylength, 1) := by decide +kernel
theorem dX7_withRow_18 : decode cX7_withRow 18 = .ok (.if_icmp .ge 7, 3) := by decide +kernel
theorem dX7_withRow_21 : decode cX7_withRow 21 = .ok (.aload_n 3, 1) := by decide +kernel
theorem dX7_withRow_22 : decode cX7_withRow 22 = .ok (.iload_n 1, 1) := by decide +kernel
theorem dX7_withRow_23 : decode cX7_withRow 23 = .ok (.aload_n 2, 1) := by decide +kernel
theorem dX7_withRow_24 : decode cX7_withRow 24 = .ok (.aastore, 1) := by decide +kernel
theorem dX7_withRow_25 : decode cX7_withRow 25 = .ok (.new 17, 3) := by decide +kernel
theorem dX7_withRow_28 : decode cX7_withRow 28 = .ok (.dup, 1) := by decide +kernel
theorem dX7_withRow_29 : decode cX7_withRow 29 = .ok (.aload_n 0, 1) := by decide +kernel
theorem dX7_withRow_30 : decode cX7_withRow 30 = .ok (.getfield 16, 3) := by decide +kernel
theorem dX7_withRow_33 : decode cX7_withRow 33 = .ok (.aload_n 3, 1) := by decide +kernel
theorem dX7_withRow_34 : decode cX7_withRow 34 = .ok (.invokespecial 36, 3) := by decide +kernel
theorem dX7_withRow_37 : decode cX7_withRow 37 = .ok (.areturn, 1) := by decide +kernel
theorem dX8_init_0 : decode cX8_init 0 = .ok (.aload_n 0, 1) := by decide +kernel
theorem dX8_init_1 : decode cX8_init 1 = .ok (.invokespecial 3, 3) := by decide +kernel
theorem dX8_init_4 : decode cX8_init 4 = .ok (.aload_n 0, 1) := by decide +kernel
theorem dX8_init_5 : decode cX8_init 5 = .ok (.sipush 200, 3) := by decide +kernel
theorem dX8_init_8 : decode cX8_init 8 = .ok (.newarray .int, 2) := by decide +kernel
theorem dX8_init_10 : decode cX8_init 10 = .ok (.putfield 9, 3) := by decide +kernel
theorem dX8_init_13 : decode cX8_init 13 = .ok (.aload_n 0, 1) := by decide +kernel
theorem dX8_init_14 : decode cX8_init 14 = .ok (.sipush 200, 3) := by decide +kernel
theorem dX8_init_17 : decode cX8_init 17 = .ok (.anewarray 15, 3) := by decide +kernel
theorem dX8_init_20 : decode cX8_init 20 = .ok (.putfield 17, 3) := by decide +kernel
theorem dX8_init_23 : decode cX8_init 23 = .ok (.return_, 1) := by decide +kernel
theorem dX8_note_0 : decode cX8_note 0 = .ok (.aload_n 0, 1) := by decide +kernel
theorem dX8_note_1 : decode cX8_note 1 = .ok (.getfield 21, 3) := by decide +kernel
theorem dX8_note_4 : decode cX8_note 4 = .ok (.aload_n 0, 1) := by decide +kernel
theorem dX8_note_5 : decode cX8_note 5 = .ok (.getfield 9, 3) := by decide +kernel
theorem dX8_note_8 : decode cX8_note 8 = .ok (.arraylength, 1) := by decide +kernel
theorem dX8_note_9 : decode cX8_note 9 = .ok (.if_icmp .lt 4, 3) := by decide +kernel
theorem dX8_note_12 : decode cX8_note 12 = .ok (.return_, 1) := by decide +kernel
theorem dX8_note_13 : decode cX8_note 13 = .ok (.aload_n 0, 1) := by decide +kernel
theorem dX8_note_14 : decode cX8_note 14 = .ok (.getfield 17, 3) := by decide +kernel
theorem dX8_note_17 : decode cX8_note 17 = .ok (.aload_n 0, 1) := by decide +kernel
theorem dX8_note_18 : decode cX8_note 18 = .ok (.getfield 21, 3) := by decide +kernel
theorem dX8_note_21 : decode cX8_note 21 = .ok (.aaload, 1) := by decide +kernel
theorem dX8_note_22 : decode cX8_note 22 = .ok (.ifnonnull 19, 3) := by decide +kernel
theorem dX8_note_25 : decode cX8_note 25 = .ok (.aload_n 0, 1) := by decide +kernel
theorem dX8_note_26 : decode cX8_note 26 = .ok (.getfield 17, 3) := by decide +kernel
theorem dX8_note_29 : decode cX8_note 29 = .ok (.aload_n 0, 1) := by decide +kernel
theorem dX8_note_30 : decode cX8_note 30 = .ok (.getfield 21, 3) := by decide +kernel
theorem dX8_note_33 : decode cX8_note 33 = .ok (.new 15, 3) := by decide +kernel
theorem dX8_note_36 : decode cX8_note 36 = .ok (.dup, 1) := by decide +kernel
theorem dX8_note_37 : decode cX8_note 37 = .ok (.invokespecial 25, 3) := by decide +kernel
theorem dX8_note_40 : decode cX8_note 40 = .ok (.aastore, 1) := by decide +kernel
theorem dX8_note_41 : decode cX8_note 41 = .ok (.aload_n 0, 1) := by decide +kernel
theorem dX8_note_42 : decode cX8_note 42 = .ok (.getfield 17, 3) := by decide +kernel
theorem dX8_note_45 : decode cX8_note 45 = .ok (.aload_n 0, 1) := by decide +kernel
theorem dX8_note_46 : decode cX8_note 46 = .ok (.getfield 21, 3) := by decide +kernel
theorem dX8_note_49 : decode cX8_note 49 = .ok (.aaload, 1) := by decide +kernel
theorem dX8_note_50 : decode cX8_note 50 = .ok (.aload_n 2, 1) := by decide +kernel
theorem dX8_note_51 : decode cX8_note 51 = .ok (.invokevirtual 26, 3) := by decide +kernel
theorem dX8_note_54 : decode cX8_note 54 = .ok (.aload_n 0, 1) := by decide +kernel
theorem dX8_note_55 : decode cX8_note 55 = .ok (.getfield 9, 3) := by decide +kernel
theorem dX8_note_58 : decode cX8_note 58 = .ok (.aload_n 0, 1) := by decide +kernel
theorem dX8_note_59 : decode cX8_note 59 = .ok (.getfield 21, 3) := by decide +kernel
theorem dX8_note_62 : decode cX8_note 62 = .ok (.iload_n 1, 1) := by decide +kernel
theorem dX8_note_63 : decode cX8_note 63 = .ok (.iastore, 1) := by decide +kernel
theorem dX8_note_64 : decode cX8_note 64 = .ok (.aload_n 0, 1) := by decide +kernel
theorem dX8_note_65 : decode cX8_note 65 = .ok (.dup, 1) := by decide +kernel
theorem dX8_note_66 : decode cX8_note 66 = .ok (.getfield 21, 3) := by decide +kernel
theorem dX8_note_69 : decode cX8_note 69 = .ok (.iconst 1, 1) := by decide +kernel
theorem dX8_note_70 : decode cX8_note 70 = .ok (.iadd, 1) := by decide +kernel
theorem dX8_note_71 : decode cX8_note 71 = .ok (.putfield 21, 3) := by decide +kernel
theorem dX8_note_74 : decode cX8_note 74 = .ok (.return_, 1) := by decide +kernel
theorem dX9_init_0 : decode cX9_init 0 = .ok (.aload_n 0, 1) := by decide +kernel
theorem dX9_init_1 : decode cX9_init 1 = .ok (.invokespecial 1, 3) := by decide +kernel
theorem dX9_init_4 : decode cX9_init 4 = .ok (.aload_n 0, 1) := by decide +kernel
theorem dX9_init_5 : decode cX9_init 5 = .ok (.aload_n 1, 1) := by decide +kernel
theorem dX9_init_6 : decode cX9_init 6 = .ok (.putfield 7, 3) := by decide +kernel
theorem dX9_init_9 : decode cX9_init 9 = .ok (.aload_n 0, 1) := by decide +kernel
theorem dX9_init_10 : decode cX9_init 10 = .ok (.aload_n 2, 1) := by decide +kernel
theorem dX9_init_11 : decode cX9_init 11 = .ok (.putfield 13, 3) := by decide +kernel
theorem dX9_init_14 : decode cX9_init 14 = .ok (.aload_n 0, 1) := by decide +kernel
theorem dX9_init_15 : decode cX9_init 15 = .ok (.aload_n 3, 1) := by decide +kernel
theorem dX9_init_16 : decode cX9_init 16 = .ok (.putfield 16, 3) := by decide +kernel
theorem dX9_init_19 : decode cX9_init 19 = .ok (.aload_n 0, 1) := by decide +kernel
theorem dX9_init_20 : decode cX9_init 20 = .ok (.aload 4, 2) := by decide +kernel
theorem dX9_init_22 : decode cX9_init 22 = .ok (.putfield 19, 3) := by decide +kernel
theorem dX9_init_25 : decode cX9_init 25 = .ok (.aload_n 0, 1) := by decide +kernel
theorem dX9_init_26 : decode cX9_init 26 = .ok (.aload 5, 2) := by decide +kernel
theorem dX9_init_28 : decode cX9_init 28 = .ok (.putfield 22, 3) := by decide +kernel
theorem dX9_init_31 : decode cX9_init 31 = .ok (.return_, 1) := by decide +kernel
theorem dX10_init_0 : decode cX10_init 0 = .ok (.aload_n 0, 1) := by decide +kernel
theorem dX10_init_1 : decode cX10_init 1 = .ok (.invokespecial 1, 3) := by decide +kernel
theorem dX10_init_4 : decode cX10_init 4 = .ok (.aload_n 0, 1) := by decide +kernel
theorem dX10_init_5 : decode cX10_init 5 = .ok (.iload_n 1, 1) := by decide +kernel
theorem dX10_init_6 : decode cX10_init 6 = .ok (.putfield 7, 3) := by decide +kernel
theorem dX10_init_9 : decode cX10_init 9 = .ok (.aload_n 0, 1) := by decide +kernel
theorem dX10_init_10 : decode cX10_init 10 = .ok (.iload_n 2, 1) := by decide +kernel
theorem dX10_init_11 : decode cX10_init 11 = .ok (.putfield 13, 3) := by decide +kernel
theorem dX10_init_14 : decode cX10_init 14 = .ok (.aload_n 0, 1) := by decide +kernel
theorem dX10_init_15 : decode cX10_init 15 = .ok (.aload_n 3, 1) := by decide +kernel
theorem dX10_init_16 : decode cX10_init 16 = .ok (.putfield 16, 3) := by decide +kernel
theorem dX10_init_19 : decode cX10_init 19 = .ok (.aload_n 0, 1) := by decide +kernel
theorem dX10_init_20 : decode cX10_init 20 = .ok (.aload 4, 2) := by decide +kernel
theorem dX10_init_22 : decode cX10_init 22 = .ok (.putfield 20, 3) := by decide +kernel
theorem dX10_init_25 : decode cX10_init 25 = .ok (.return_, 1) := by decide +kernel
theorem dX10_key_0 : decode cX10_key 0 = .ok (.aload_n 0, 1) := by decide +kernel
theorem dX10_key_1 : decode cX10_key 1 = .ok (.getfield 7, 3) := by decide +kernel
theorem dX10_key_4 : decode cX10_key 4 = .ok (.istore_n 1, 1) := by decide +kernel
theorem dX10_key_5 : decode cX10_key 5 = .ok (.iconst 0, 1) := by decide +kernel
theorem dX10_key_6 : decode cX10_key 6 = .ok (.istore_n 2, 1) := by decide +kernel
theorem dX10_key_7 : decode cX10_key 7 = .ok (.iload_n 2, 1) := by decide +kernel
theorem dX10_key_8 : decode cX10_key 8 = .ok (.bipush 6, 2) := by decide +kernel
theorem dX10_key_10 : decode cX10_key 10 = .ok (.if_icmp .ge 24, 3) := by decide +kernel
theorem dX10_key_13 : decode cX10_key 13 = .ok (.iload_n 1, 1) := by decide +kernel
theorem dX10_key_14 : decode cX10_key 14 = .ok (.ifCond .le 20, 3) := by decide +kernel
theorem dX10_key_17 : decode cX10_key 17 = .ok (.iload_n 1, 1) := by decide +kernel
theorem dX10_key_18 : decode cX10_key 18 = .ok (.ldc 24, 2) := by decide +kernel
theorem dX10_key_20 : decode cX10_key 20 = .ok (.if_icmp .ge 14, 3) := by decide +kernel
theorem dX10_key_23 : decode cX10_key 23 = .ok (.iload_n 1, 1) := by decide +kernel
theorem dX10_key_24 : decode cX10_key 24 = .ok (.bipush 27, 2) := by decide +kernel
theorem dX10_key_26 : decode cX10_key 26 = .ok (.imul, 1) := by decide +kernel
theorem dX10_key_27 : decode cX10_key 27 = .ok (.istore_n 1, 1) := by decide +kernel
theorem dX10_key_28 : decode cX10_key 28 = .ok (.iinc 2 1, 3) := by decide +kernel
theorem dX10_key_31 : decode cX10_key 31 = .ok (.goto (-24), 3) := by decide +kernel
theorem dX10_key_34 : decode cX10_key 34 = .ok (.iload_n 1, 1) := by decide +kernel
theorem dX10_key_35 : decode cX10_key 35 = .ok (.ireturn, 1) := by decide +kernel
theorem dX11_init_0 : decode cX11_init 0 = .ok (.aload_n 0, 1) := by decide +kernel
theorem dX11_init_1 : decode cX11_init 1 = .ok (.invokespecial 1, 3) := by decide +kernel
theorem dX11_init_4 : decode cX11_init 4 = .ok (.aload_n 0, 1) := by decide +kernel
theorem dX11_init_5 : decode cX11_init 5 = .ok (.sipush 200, 3) := by decide +kernel
theorem dX11_init_8 : decode cX11_init 8 = .ok (.newarray .int, 2) := by decide +kernel
theorem dX11_init_10 : decode cX11_init 10 = .ok (.putfield 9, 3) := by decide +kernel
theorem dX11_init_13 : decode cX11_init 13 = .ok (.aload_n 0, 1) := by decide +kernel
theorem dX11_init_14 : decode cX11_init 14 = .ok (.iconst (-1), 1) := by decide +kernel
theorem dX11_init_15 : decode cX11_init 15 = .ok (.putfield 13, 3) := by decide +kernel
theorem dX11_init_18 : decode cX11_init 18 = .ok (.aload_n 0, 1) := by decide +kernel
theorem dX11_init_19 : decode cX11_init 19 = .ok (.iconst (-1), 1) := by decide +kernel
theorem dX11_init_20 : decode cX11_init 20 = .ok (.putfield 17, 3) := by decide +kernel
theorem dX11_init_23 : decode cX11_init 23 = .ok (.aload_n 0, 1) := by decide +kernel
theorem dX11_init_24 : decode cX11_init 24 = .ok (.iconst (-1), 1) := by decide +kernel
theorem dX11_init_25 : decode cX11_init 25 = .ok (.putfield 20, 3) := by decide +kernel
theorem dX11_init_28 : decode cX11_init 28 = .ok (.aload_n 0, 1) := by decide +kernel
theorem dX11_init_29 : decode cX11_init 29 = .ok (.iconst (-1), 1) := by decide +kernel
theorem dX11_init_30 : decode cX11_init 30 = .ok (.putfield 23, 3) := by decide +kernel
theorem dX11_init_33 : decode cX11_init 33 = .ok (.aload_n 0, 1) := by decide +kernel
theorem dX11_init_34 : decode cX11_init 34 = .ok (.bipush 30, 2) := by decide +kernel
theorem dX11_init_36 : decode cX11_init 36 = .ok (.newarray .int, 2) := by decide +kernel
theorem dX11_init_38 : decode cX11_init 38 = .ok (.putfield 26, 3) := by decide +kernel
theorem dX11_init_41 : decode cX11_init 41 = .ok (.aload_n 0, 1) := by decide +kernel
theorem dX11_init_42 : decode cX11_init 42 = .ok (.new 29, 3) := by decide +kernel
theorem dX11_init_45 : decode cX11_init 45 = .ok (.dup, 1) := by decide +kernel
theorem dX11_init_46 : decode cX11_init 46 = .ok (.invokespecial 31, 3) := by decide +kernel
theorem dX11_init_49 : decode cX11_init 49 = .ok (.putfield 32, 3) := by decide +kernel
theorem dX11_init_52 : decode cX11_init 52 = .ok (.aload_n 0, 1) := by decide +kernel
theorem dX11_init_53 : decode cX11_init 53 = .ok (.bipush 10, 2) := by decide +kernel
theorem dX11_init_55 : decode cX11_init 55 = .ok (.anewarray 29, 3) := by decide +kernel
theorem dX11_init_58 : decode cX11_init 58 = .ok (.putfield 36, 3) := by decide +kernel
theorem dX11_init_61 : decode cX11_init 61 = .ok (.aload_n 0, 1) := by decide +kernel
theorem dX11_init_62 : decode cX11_init 62 = .ok (.new 40, 3) := by decide +kernel
theorem dX11_init_65 : decode cX11_init 65 = .ok (.dup, 1) := by decide +kernel
theorem dX11_init_66 : decode cX11_init 66 = .ok (.invokespecial 42, 3) := by decide +kernel
theorem dX11_init_69 : decode cX11_init 69 = .ok (.putfield 43, 3) := by decide +kernel
theorem dX11_init_72 : decode cX11_init 72 = .ok (.aload_n 0, 1) := by decide +kernel
theorem dX11_init_73 : decode cX11_init 73 = .ok (.new 47, 3) := by decide +kernel
theorem dX11_init_76 : decode cX11_init 76 = .ok (.dup, 1) := by decide +kernel
theorem dX11_init_77 : decode cX11_init 77 = .ok (.invokespecial 49, 3) := by decide +kernel
theorem dX11_init_80 : decode cX11_init 80 = .ok (.putfield 50, 3) := by decide +kernel
theorem dX11_init_83 : decode cX11_init 83 = .ok (.aload_n 0, 1) := by decide +kernel
theorem dX11_init_84 : decode cX11_init 84 = .ok (.new 47, 3) := by decide +kernel
theorem dX11_init_87 : decode cX11_init 87 = .ok (.dup, 1) := by decide +kernel
theorem dX11_init_88 : decode cX11_init 88 = .ok (.invokespecial 49, 3) := by decide +kernel
theorem dX11_init_91 : decode cX11_init 91 = .ok (.putfield 54, 3) := by decide +kernel
theorem dX11_init_94 : decode cX11_init 94 = .ok (.aload_n 0, 1) := by decide +kernel
theorem dX11_init_95 : decode cX11_init 95 = .ok (.bipush 21, 2) := by decide +kernel
theorem dX11_init_97 : decode cX11_init 97 = .ok (.anewarray 57, 3) := by decide +kernel
theorem dX11_init_100 : decode cX11_init 100 = .ok (.putfield 59, 3) := by decide +kernel
theorem dX11_init_103 : decode cX11_init 103 = .ok (.aload_n 0, 1) := by decide +kernel
theorem dX11_init_104 : decode cX11_init 104 = .ok (.new 63, 3) := by decide +kernel
theorem dX11_init_107 : decode cX11_init 107 = .ok (.dup, 1) := by decide +kernel
theorem dX11_init_108 : decode cX11_init 108 = .ok (.invokespecial 65, 3) := by decide +kernel
theorem dX11_init_111 : decode cX11_init 111 = .ok (.putfield 66, 3) := by decide +kernel
theorem dX11_init_114 : decode cX11_init 114 = .ok (.aload_n 0, 1) := by decide +kernel
theorem dX11_init_115 : decode cX11_init 115 = .ok (.new 70, 3) := by decide +kernel
theorem dX11_init_118 : decode cX11_init 118 = .ok (.dup, 1) := by decide +kernel
theorem dX11_init_119 : decode cX11_init 119 = .ok (.invokespecial 72, 3) := by decide +kernel
theorem dX11_init_122 : decode cX11_init 122 = .ok (.putfield 73, 3) := by decide +kernel
theorem dX11_init_125 : decode cX11_init 125 = .ok (.aload_n 0, 1) := by decide +kernel
theorem dX11_init_126 : decode cX11_init 126 = .ok (.new 77, 3) := by decide +kernel
theorem dX11_init_129 : decode cX11_init 129 = .ok (.dup, 1) := by decide +kernel
theorem dX11_init_130 : decode cX11_init 130 = .ok (.invokespecial 79, 3) := by decide +kernel
theorem dX11_init_133 : decode cX11_init 133 = .ok (.putfield 80, 3) := by decide +kernel
theorem dX11_init_136 : decode cX11_init 136 = .ok (.iconst 0, 1) := by decide +kernel
theorem dX11_init_137 : decode cX11_init 137 = .ok (.istore_n 1, 1) := by decide +kernel
theorem dX11_init_138 : decode cX11_init 138 = .ok (.iload_n 1, 1) := by decide +kernel
theorem dX11_init_139 : decode cX11_init 139 = .ok (.aload_n 0, 1) := by decide +kernel
theorem dX11_init_140 : decode cX11_init 140 = .ok (.getfield 36, 3) := by decide +kernel
theorem dX11_init_143 : decode cX11_init 143 = .ok (.arraylength, 1) := by decide +kernel
theorem dX11_init_144 : decode cX11_init 144 = .ok (.if_icmp .ge 19, 3) := by decide +kernel
theorem dX11_init_147 : decode cX11_init 147 = .ok (.aload_n 0, 1) := by decide +kernel
theorem dX11_init_148 : decode cX11_init 148 = .ok (.getfield 36, 3) := by decide +kernel
theorem dX11_init_151 : decode cX11_init 151 = .ok (.iload_n 1, 1) := by decide +kernel
theorem dX11_init_152 : decode cX11_init 152 = .ok (.aload_n 0, 1) := by decide +kernel
theorem dX11_init_153 : decode cX11_init 153 = .ok (.getfield 32, 3) := by decide +kernel
theorem dX11_init_156 : decode cX11_init 156 = .ok (.aastore, 1) := by decide +kernel
theorem dX11_init_157 : decode cX11_init 157 = .ok (.iinc 1 1, 3) := by decide +kernel
theorem dX11_init_160 : decode cX11_init 160 = .ok (.goto (-22), 3) := by decide +kernel
theorem dX11_init_163 : decode cX11_init 163 = .ok (.aload_n 0, 1) := by decide +kernel
theorem dX11_init_164 : decode cX11_init 164 = .ok (.getfield 59, 3) := by decide +kernel
theorem dX11_init_167 : decode cX11_init 167 = .ok (.iconst 0, 1) := by decide +kernel
theorem dX11_init_168 : decode cX11_init 168 = .ok (.new 57, 3) := by decide +kernel
theorem dX11_init_171 : decode cX11_init 171 = .ok (.dup, 1) := by decide +kernel
theorem dX11_init_172 : decode cX11_init 172 = .ok (.invokespecial 84, 3) := by decide +kernel
theorem dX11_init_175 : decode cX11_init 175 = .ok (.aastore, 1) := by decide +kernel
theorem dX11_init_176 : decode cX11_init 176 = .ok (.return_, 1) := by decide +kernel
theorem dX11_append_0 : decode cX11_append 0 = .ok (.aload_n 0, 1) := by decide +kernel
theorem dX11_append_1 : decode cX11_append 1 = .ok (.getfield 85, 3) := by decide +kernel
theorem dX11_append_4 : decode cX11_append 4 = .ok (.iload_n 1, 1) := by decide +kernel
theorem dX11_append_5 : decode cX11_append 5 = .ok (.invokestatic 88, 3) := by decide +kernel
theorem dX11_append_8 : decode cX11_append 8 = .ok (.iadd, 1) := by decide +kernel
theorem dX11_append_9 : decode cX11_append 9 = .ok (.iload_n 2, 1) := by decide +kernel
theorem dX11_append_10 : decode cX11_append 10 = .ok (.invokestatic 88, 3) := by decide +kernel
theorem dX11_append_13 : decode cX11_append 13 = .ok (.iadd, 1) := by decide +kernel
theorem dX11_append_14 : decode cX11_append 14 = .ok (.iload_n 3, 1) := by decide +kernel
theorem dX11_append_15 : decode cX11_append 15 = .ok (.invokestatic 88, 3) := by decide +kernel
theorem dX11_append_18 : decode cX11_append 18 = .ok (.iadd, 1) := by decide +kernel
theorem dX11_append_19 : decode cX11_append 19 = .ok (.iload 4, 2) := by decide +kernel
theorem dX11_append_21 : decode cX11_append 21 = .ok (.invokestatic 88, 3) := by decide +kernel
theorem dX11_append_24 : decode cX11_append 24 = .ok (.iadd, 1) := by decide +kernel
theorem dX11_append_25 : decode cX11_append 25 = .ok (.iload 5, 2) := by decide +kernel
theorem dX11_append_27 : decode cX11_append 27 = .ok (.invokestatic 88, 3) := by decide +kernel
theorem dX11_append_30 : decode cX11_append 30 = .ok (.iadd, 1) := by decide +kernel
theorem dX11_append_31 : decode cX11_append 31 = .ok (.sipush 200, 3) := by decide +kernel
theorem dX11_append_34 : decode cX11_append 34 = .ok (.if_icmp .le 11, 3) := by decide +kernel
theorem dX11_append_37 : decode cX11_append 37 = .ok (.new 92, 3) := by decide +kernel
theorem dX11_append_40 : decode cX11_append 40 = .ok (.dup, 1) := by decide +kernel
theorem dX11_append_41 : decode cX11_append 41 = .ok (.invokespecial 94, 3) := by decide +kernel
theorem dX11_append_44 : decode cX11_append 44 = .ok (.athrow, 1) := by decide +kernel
theorem dX11_append_45 : decode cX11_append 45 = .ok (.aload_n 0, 1) := by decide +kernel
theorem dX11_append_46 : decode cX11_append 46 = .ok (.iload_n 1, 1) := by decide +kernel
theorem dX11_append_47 : decode cX11_append 47 = .ok (.invokevirtual 95, 3) := by decide +kernel
theorem dX11_append_50 : decode cX11_append 50 = .ok (.aload_n 0, 1) := by decide +kernel
theorem dX11_append_51 : decode cX11_append 51 = .ok (.iload_n 2, 1) := by decide +kernel
theorem dX11_append_52 : decode cX11_append 52 = .ok (.invokevirtual 95, 3) := by decide +kernel
theorem dX11_append_55 : decode cX11_append 55 = .ok (.aload_n 0, 1) := by decide +kernel
theorem dX11_append_56 : decode cX11_append 56 = .ok (.iload_n 3, 1) := by decide +kernel
theorem dX11_append_57 : decode cX11_append 57 = .ok (.invokevirtual 95, 3) := by decide +kernel
theorem dX11_append_60 : decode cX11_append 60 = .ok (.aload_n 0, 1) := by decide +kernel
theorem dX11_append_61 : decode cX11_append 61 = .ok (.iload 4, 2) := by decide +kernel
theorem dX11_append_63 : decode cX11_append 63 = .ok (.invokevirtual 95, 3) := by decide +kernel
theorem dX11_append_66 : decode cX11_append 66 = .ok (.aload_n 0, 1) := by decide +kernel
theorem dX11_append_67 : decode cX11_append 67 = .ok (.iload 5, 2) := by decide +kernel
theorem dX11_append_69 : decode cX11_append 69 = .ok (.invokevirtual 95, 3) := by decide +kernel
theorem dX11_append_72 : decode cX11_append 72 = .ok (.aload_n 0, 1) := by decide +kernel
theorem dX11_append_73 : decode cX11_append 73 = .ok (.getfield 85, 3) := by decide +kernel
theorem dX11_append_76 : decode cX11_append 76 = .ok (.ireturn, 1) := by decide +kernel
theorem dX11_run_0 : decode cX11_run 0 = .ok (.aload_n 0, 1) := by decide +kernel
theorem dX11_run_1 : decode cX11_run 1 = .ok (.aload_n 0, 1) := by decide +kernel
theorem dX11_run_2 : decode cX11_run 2 = .ok (.getfield 73, 3) := by decide +kernel
theorem dX11_run_5 : decode cX11_run 5 = .ok (.aload_n 0, 1) := by decide +kernel
theorem dX11_run_6 : decode cX11_run 6 = .ok (.getfield 9, 3) := by decide +kernel
theorem dX11_run_9 : decode cX11_run 9 = .ok (.aload_n 0, 1) := by decide +kernel
theorem dX11_run_10 : decode cX11_run 10 = .ok (.getfield 85, 3) := by decide +kernel
theorem dX11_run_13 : decode cX11_run 13 = .ok (.aload_n 0, 1) := by decide +kernel
theorem dX11_run_14 : decode cX11_run 14 = .ok (.getfield 66, 3) := by decide +kernel
theorem dX11_run_17 : decode cX11_run 17 = .ok (.invokevirtual 99, 3) := by decide +kernel
theorem dX11_run_20 : decode cX11_run 20 = .ok (.putfield 13, 3) := by decide +kernel
theorem dX11_run_23 : decode cX11_run 23 = .ok (.aload_n 0, 1) := by decide +kernel
theorem dX11_run_24 : decode cX11_run 24 = .ok (.iconst 0, 1) := by decide +kernel
theorem dX11_run_25 : decode cX11_run 25 = .ok (.putfield 85, 3) := by decide +kernel
theorem dX11_run_28 : decode cX11_run 28 = .ok (.aload_n 0, 1) := by decide +kernel
theorem dX11_run_29 : decode cX11_run 29 = .ok (.getfield 13, 3) := by decide +kernel
theorem dX11_run_32 : decode cX11_run 32 = .ok (.iconst (-1), 1) := by decide +kernel
theorem dX11_run_33 : decode cX11_run 33 = .ok (.if_icmp .eq 11, 3) := by decide +kernel
theorem dX11_run_36 : decode cX11_run 36 = .ok (.new 103, 3) := by decide +kernel
theorem dX11_run_39 : decode cX11_run 39 = .ok (.dup, 1) := by decide +kernel
theorem dX11_run_40 : decode cX11_run 40 = .ok (.invokespecial 105, 3) := by decide +kernel
theorem dX11_run_43 : decode cX11_run 43 = .ok (.athrow, 1) := by decide +kernel
theorem dX11_run_44 : decode cX11_run 44 = .ok (.aload_n 0, 1) := by decide +kernel
theorem dX11_run_45 : decode cX11_run 45 = .ok (.invokevirtual 106, 3) := by decide +kernel
theorem dX11_run_48 : decode cX11_run 48 = .ok (.ifCond .ne 10, 3) := by decide +kernel
theorem dX11_run_51 : decode cX11_run 51 = .ok (.aload_n 0, 1) := by decide +kernel
theorem dX11_run_52 : decode cX11_run 52 = .ok (.invokevirtual 110, 3) := by decide +kernel
theorem dX11_run_55 : decode cX11_run 55 = .ok (.ifCond .eq 11, 3) := by decide +kernel
theorem dX11_run_58 : decode cX11_run 58 = .ok (.new 113, 3) := by decide +kernel
theorem dX11_run_61 : decode cX11_run 61 = .ok (.dup, 1) := by decide +kernel
theorem dX11_run_62 : decode cX11_run 62 = .ok (.invokespecial 115, 3) := by decide +kernel
theorem dX11_run_65 : decode cX11_run 65 = .ok (.athrow, 1) := by decide +kernel
theorem dX11_run_66 : decode cX11_run 66 = .ok (.aload_n 0, 1) := by decide +kernel
theorem dX11_run_67 : decode cX11_run 67 = .ok (.getfield 73, 3) := by decide +kernel
theorem dX11_run_70 : decode cX11_run 70 = .ok (.getfield 116, 3) := by decide +kernel
theorem dX11_run_73 : decode cX11_run 73 = .ok (.iconst 2, 1) := by decide +kernel
theorem dX11_run_74 : decode cX11_run 74 = .ok (.if_icmp .ne 7, 3) := by decide +kernel
theorem dX11_run_77 : decode cX11_run 77 = .ok (.aconst_null, 1) := by decide +kernel
theorem dX11_run_78 : decode cX11_run 78 = .ok (.goto 17, 3) := by decide +kernel
theorem dX11_run_81 : decode cX11_run 81 = .ok (.new 29, 3) := by decide +kernel
theorem dX11_run_84 : decode cX11_run 84 = .ok (.dup, 1) := by decide +kernel
theorem dX11_run_85 : decode cX11_run 85 = .ok (.aload_n 0, 1) := by decide +kernel
theorem dX11_run_86 : decode cX11_run 86 = .ok (.getfield 80, 3) := by decide +kernel
theorem dX11_run_89 : decode cX11_run 89 = .ok (.getfield 119, 3) := by decide +kernel
theorem dX11_run_92 : decode cX11_run 92 = .ok (.invokespecial 122, 3) := by decide +kernel
theorem dX11_run_95 : decode cX11_run 95 = .ok (.astore_n 1, 1) := by decide +kernel
theorem dX11_run_96 : decode cX11_run 96 = .ok (.aload_n 0, 1) := by decide +kernel
theorem dX11_run_97 : decode cX11_run 97 = .ok (.getfield 73, 3) := by decide +kernel
theorem dX11_run_100 : decode cX11_run 100 = .ok (.getfield 116, 3) := by decide +kernel
theorem dX11_run_103 : decode cX11_run 103 = .ok (.ifCond .eq 40, 3) := by decide +kernel
theorem dX11_run_106 : decode cX11_run 106 = .ok (.aload_n 0, 1) := by decide +kernel
theorem dX11_run_107 : decode cX11_run 107 = .ok (.aload_n 1, 1) := by decide +kernel
theorem dX11_run_108 : decode cX11_run 108 = .ok (.invokevirtual 125, 3) := by decide +kernel
theorem dX11_run_111 : decode cX11_run 111 = .ok (.astore_n 2, 1) := by decide +kernel
theorem dX11_run_112 : decode cX11_run 112 = .ok (.aload_n 2, 1) := by decide +kernel
theorem dX11_run_113 : decode cX11_run 113 = .ok (.ifnonnull 11, 3) := by decide +kernel
theorem dX11_run_116 : decode cX11_run 116 = .ok (.new 113, 3) := by decide +kernel
theorem dX11_run_119 : decode cX11_run 119 = .ok (.dup, 1) := by decide +kernel
theorem dX11_run_120 : decode cX11_run 120 = .ok (.invokespecial 115, 3) := by decide +kernel
theorem dX11_run_123 : decode cX11_run 123 = .ok (.athrow, 1) := by decide +kernel
theorem dX11_run_124 : decode cX11_run 124 = .ok (.aload_n 0, 1) := by decide +kernel
theorem dX11_run_125 : decode cX11_run 125 = .ok (.new 57, 3) := by decide +kernel
theorem dX11_run_128 : decode cX11_run 128 = .ok (.dup, 1) := by decide +kernel
theorem dX11_run_129 : decode cX11_run 129 = .ok (.aload_n 2, 1) := by decide +kernel
theorem dX11_run_130 : decode cX11_run 130 = .ok (.aload_n 0, 1) := by decide +kernel
theorem dX11_run_131 : decode cX11_run 131 = .ok (.invokevirtual 129, 3) := by decide +kernel
theorem dX11_run_134 : decode cX11_run 134 = .ok (.getfield 133, 3) := by decide +kernel
theorem dX11_run_137 : decode cX11_run 137 = .ok (.invokespecial 137, 3) := by decide +kernel
theorem dX11_run_140 : decode cX11_run 140 = .ok (.invokevirtual 140, 3) := by decide +kernel
theorem dX11_run_143 : decode cX11_run 143 = .ok (.aload_n 1, 1) := by decide +kernel
theorem dX11_run_144 : decode cX11_run 144 = .ok (.ifnull 26, 3) := by decide +kernel
theorem dX11_run_147 : decode cX11_run 147 = .ok (.aload_n 0, 1) := by decide +kernel
theorem dX11_run_148 : decode cX11_run 148 = .ok (.aload_n 1, 1) := by decide +kernel
theorem dX11_run_149 : decode cX11_run 149 = .ok (.putfield 32, 3) := by decide +kernel
theorem dX11_run_152 : decode cX11_run 152 = .ok (.aload_n 0, 1) := by decide +kernel
theorem dX11_run_153 : decode cX11_run 153 = .ok (.getfield 50, 3) := by decide +kernel
theorem dX11_run_156 : decode cX11_run 156 = .ok (.astore_n 2, 1) := by decide +kernel
theorem dX11_run_157 : decode cX11_run 157 = .ok (.aload_n 0, 1) := by decide +kernel
theorem dX11_run_158 : decode cX11_run 158 = .ok (.aload_n 0, 1) := by decide +kernel
theorem dX11_run_159 : decode cX11_run 159 = .ok (.getfield 54, 3) := by decide +kernel
theorem dX11_run_162 : decode cX11_run 162 = .ok (.putfield 50, 3) := by decide +kernel
theorem dX11_run_165 : decode cX11_run 165 = .ok (.aload_n 0, 1) := by decide +kernel
theorem dX11_run_166 : decode cX11_run 166 = .ok (.aload_n 2, 1) := by decide +kernel
theorem dX11_run_167 : decode cX11_run 167 = .ok (.putfield 54, 3) := by decide +kernel
theorem dX11_run_170 : decode cX11_run 170 = .ok (.aload_n 0, 1) := by decide +kernel
theorem dX11_run_171 : decode cX11_run 171 = .ok (.getfield 73, 3) := by decide +kernel
theorem dX11_run_174 : decode cX11_run 174 = .ok (.getfield 116, 3) := by decide +kernel
theorem dX11_run_177 : decode cX11_run 177 = .ok (.ireturn, 1) := by decide +kernel
theorem dX11_refused_0 : decode cX11_refused 0 = .ok (.iload_n 1, 1) := by decide +kernel
theorem dX11_refused_1 : decode cX11_refused 1 = .ok (.ifCond .eq 16, 3) := by decide +kernel
theorem dX11_refused_4 : decode cX11_refused 4 = .ok (.iload_n 1, 1) := by decide +kernel
theorem dX11_refused_5 : decode cX11_refused 5 = .ok (.iconst 1, 1) := by decide +kernel
theorem dX11_refused_6 : decode cX11_refused 6 = .ok (.if_icmp .eq 11, 3) := by decide +kernel
theorem dX11_refused_9 : decode cX11_refused 9 = .ok (.new 103, 3) := by decide +kernel
theorem dX11_refused_12 : decode cX11_refused 12 = .ok (.dup, 1) := by decide +kernel
theorem dX11_refused_13 : decode cX11_refused 13 = .ok (.invokespecial 105, 3) := by decide +kernel
theorem dX11_refused_16 : decode cX11_refused 16 = .ok (.athrow, 1) := by decide +kernel
theorem dX11_refused_17 : decode cX11_refused 17 = .ok (.iload_n 1, 1) := by decide +kernel
theorem dX11_refused_18 : decode cX11_refused 18 = .ok (.ifCond .ne 10, 3) := by decide +kernel
theorem dX11_refused_21 : decode cX11_refused 21 = .ok (.aload_n 0, 1) := by decide +kernel
theorem dX11_refused_22 : decode cX11_refused 22 = .ok (.getfield 17, 3) := by decide +kernel
theorem dX11_refused_25 : decode cX11_refused 25 = .ok (.goto 7, 3) := by decide +kernel
theorem dX11_refused_28 : decode cX11_refused 28 = .ok (.aload_n 0, 1) := by decide +kernel
theorem dX11_refused_29 : decode cX11_refused 29 = .ok (.getfield 20, 3) := by decide +kernel
theorem dX11_refused_32 : decode cX11_refused 32 = .ok (.ireturn, 1) := by decide +kernel
theorem dX11_failed_0 : decode cX11_failed 0 = .ok (.aload_n 0, 1) := by decide +kernel
theorem dX11_failed_1 : decode cX11_failed 1 = .ok (.getfield 23, 3) := by decide +kernel
theorem dX11_failed_4 : decode cX11_failed 4 = .ok (.ireturn, 1) := by decide +kernel
theorem dX11_ring_0 : decode cX11_ring 0 = .ok (.aload_n 0, 1) := by decide +kernel
theorem dX11_ring_1 : decode cX11_ring 1 = .ok (.getfield 144, 3) := by decide +kernel
theorem dX11_ring_4 : decode cX11_ring 4 = .ok (.ireturn, 1) := by decide +kernel
theorem dX11_bytesIn_0 : decode cX11_bytesIn 0 = .ok (.iconst 0, 1) := by decide +kernel
theorem dX11_bytesIn_1 : decode cX11_bytesIn 1 = .ok (.istore_n 1, 1) := by decide +kernel
theorem dX11_bytesIn_2 : decode cX11_bytesIn 2 = .ok (.bipush 24, 2) := by decide +kernel
theorem dX11_bytesIn_4 : decode cX11_bytesIn 4 = .ok (.istore_n 2, 1) := by decide +kernel
theorem dX11_bytesIn_5 : decode cX11_bytesIn 5 = .ok (.iload_n 2, 1) := by decide +kernel
theorem dX11_bytesIn_6 : decode cX11_bytesIn 6 = .ok (.ifCond .lt 22, 3) := by decide +kernel
theorem dX11_bytesIn_9 : decode cX11_bytesIn 9 = .ok (.iload_n 0, 1) := by decide +kernel
theorem dX11_bytesIn_10 : decode cX11_bytesIn 10 = .ok (.iload_n 2, 1) := by decide +kernel
theorem dX11_bytesIn_11 : decode cX11_bytesIn 11 = .ok (.iushr, 1) := by decide +kernel
theorem dX11_bytesIn_12 : decode cX11_bytesIn 12 = .ok (.sipush 255, 3) := by decide +kernel
theorem dX11_bytesIn_15 : decode cX11_bytesIn 15 = .ok (.iand, 1) := by decide +kernel
theorem dX11_bytesIn_16 : decode cX11_bytesIn 16 = .ok (.ifCond .eq 6, 3) := by decide +kernel
theorem dX11_bytesIn_19 : decode cX11_bytesIn 19 = .ok (.iinc 1 1, 3) := by decide +kernel
theorem dX11_bytesIn_22 : decode cX11_bytesIn 22 = .ok (.iinc 2 (-8), 3) := by decide +kernel
theorem dX11_bytesIn_25 : decode cX11_bytesIn 25 = .ok (.goto (-20), 3) := by decide +kernel
theorem dX11_bytesIn_28 : decode cX11_bytesIn 28 = .ok (.iload_n 1, 1) := by decide +kernel
theorem dX11_bytesIn_29 : decode cX11_bytesIn 29 = .ok (.ireturn, 1) := by decide +kernel
theorem dX11_lay_0 : decode cX11_lay 0 = .ok (.bipush 24, 2) := by decide +kernel
theorem dX11_lay_2 : decode cX11_lay 2 = .ok (.istore_n 2, 1) := by decide +kernel
theorem dX11_lay_3 : decode cX11_lay 3 = .ok (.iload_n 2, 1) := by decide +kernel
theorem dX11_lay_4 : decode cX11_lay 4 = .ok (.ifCond .lt 53, 3) := by decide +kernel
theorem dX11_lay_7 : decode cX11_lay 7 = .ok (.iload_n 1, 1) := by decide +kernel
theorem dX11_lay_8 : decode cX11_lay 8 = .ok (.iload_n 2, 1) := by decide +kernel
theorem dX11_lay_9 : decode cX11_lay 9 = .ok (.iushr, 1) := by decide +kernel
theorem dX11_lay_10 : decode cX11_lay 10 = .ok (.sipush 255, 3) := by decide +kernel
theorem dX11_lay_13 : decode cX11_lay 13 = .ok (.iand, 1) := by decide +kernel
theorem dX11_lay_14 : decode cX11_lay 14 = .ok (.istore_n 3, 1) := by decide +kernel
theorem dX11_lay_15 : decode cX11_lay 15 = .ok (.iload_n 3, 1) := by decide +kernel
theorem dX11_lay_16 : decode cX11_lay 16 = .ok (.ifCond .eq 35, 3) := by decide +kernel
theorem dX11_lay_19 : decode cX11_lay 19 = .ok (.aload_n 0, 1) := by decide +kernel
theorem dX11_lay_20 : decode cX11_lay 20 = .ok (.getfield 85, 3) := by decide +kernel
theorem dX11_lay_23 : decode cX11_lay 23 = .ok (.aload_n 0, 1) := by decide +kernel
theorem dX11_lay_24 : decode cX11_lay 24 = .ok (.getfield 9, 3) := by decide +kernel
theorem dX11_lay_27 : decode cX11_lay 27 = .ok (.arraylength, 1) := by decide +kernel
theorem dX11_lay_28 : decode cX11_lay 28 = .ok (.if_icmp .ge 23, 3) := by decide +kernel
theorem dX11_lay_31 : decode cX11_lay 31 = .ok (.aload_n 0, 1) := by decide +kernel
theorem dX11_lay_32 : decode cX11_lay 32 = .ok (.getfield 9, 3) := by decide +kernel
theorem dX11_lay_35 : decode cX11_lay 35 = .ok (.aload_n 0, 1) := by decide +kernel
theorem dX11_lay_36 : decode cX11_lay 36 = .ok (.getfield 85, 3) := by decide +kernel
theorem dX11_lay_39 : decode cX11_lay 39 = .ok (.iload_n 3, 1) := by decide +kernel
theorem dX11_lay_40 : decode cX11_lay 40 = .ok (.iastore, 1) := by decide +kernel
theorem dX11_lay_41 : decode cX11_lay 41 = .ok (.aload_n 0, 1) := by decide +kernel
theorem dX11_lay_42 : decode cX11_lay 42 = .ok (.dup, 1) := by decide +kernel
theorem dX11_lay_43 : decode cX11_lay 43 = .ok (.getfield 85, 3) := by decide +kernel
theorem dX11_lay_46 : decode cX11_lay 46 = .ok (.iconst 1, 1) := by decide +kernel
theorem dX11_lay_47 : decode cX11_lay 47 = .ok (.iadd, 1) := by decide +kernel
theorem dX11_lay_48 : decode cX11_lay 48 = .ok (.putfield 85, 3) := by decide +kernel
theorem dX11_lay_51 : decode cX11_lay 51 = .ok (.iinc 2 (-8), 3) := by decide +kernel
theorem dX11_lay_54 : decode cX11_lay 54 = .ok (.goto (-51), 3) := by decide +kernel
theorem dX11_lay_57 : decode cX11_lay 57 = .ok (.return_, 1) := by decide +kernel
theorem dX11_refuse_0 : decode cX11_refuse 0 = .ok (.aload_n 0, 1) := by decide +kernel
theorem dX11_refuse_1 : decode cX11_refuse 1 = .ok (.iload_n 1, 1) := by decide +kernel
theorem dX11_refuse_2 : decode cX11_refuse 2 = .ok (.putfield 17, 3) := by decide +kernel
theorem dX11_refuse_5 : decode cX11_refuse 5 = .ok (.aload_n 0, 1) := by decide +kernel
theorem dX11_refuse_6 : decode cX11_refuse 6 = .ok (.iload_n 2, 1) := by decide +kernel
theorem dX11_refuse_7 : decode cX11_refuse 7 = .ok (.putfield 20, 3) := by decide +kernel
theorem dX11_refuse_10 : decode cX11_refuse 10 = .ok (.aload_n 0, 1) := by decide +kernel
theorem dX11_refuse_11 : decode cX11_refuse 11 = .ok (.iconst (-1), 1) := by decide +kernel
theorem dX11_refuse_12 : decode cX11_refuse 12 = .ok (.putfield 23, 3) := by decide +kernel
theorem dX11_refuse_15 : decode cX11_refuse 15 = .ok (.aload_n 0, 1) := by decide +kernel
theorem dX11_refuse_16 : decode cX11_refuse 16 = .ok (.iconst 0, 1) := by decide +kernel
theorem dX11_refuse_17 : decode cX11_refuse 17 = .ok (.putfield 144, 3) := by decide +kernel
theorem dX11_refuse_20 : decode cX11_refuse 20 = .ok (.return_, 1) := by decide +kernel
theorem dX11_isRefusedAhead_0 : decode cX11_isRefusedAhead 0 = .ok (.aload_n 0, 1) := by decide +kernel
theorem dX11_isRefusedAhead_1 : decode cX11_isRefusedAhead 1 = .ok (.invokevirtual 129, 3) := by decide +kernel
theorem dX11_isRefusedAhead_4 : decode cX11_isRefusedAhead 4 = .ok (.getfield 150, 3) := by decide +kernel
theorem dX11_isRefusedAhead_7 : decode cX11_isRefusedAhead 7 = .ok (.astore_n 1, 1) := by decide +kernel
theorem dX11_isRefusedAhead_8 : decode cX11_isRefusedAhead 8 = .ok (.aload_n 1, 1) := by decide +kernel
theorem dX11_isRefusedAhead_9 : decode cX11_isRefusedAhead 9 = .ok (.aload_n 0, 1) := by decide +kernel
theorem dX11_isRefusedAhead_10 : decode cX11_isRefusedAhead 10 = .ok (.getfield 73, 3) := by decide +kernel
theorem dX11_isRefusedAhead_13 : decode cX11_isRefusedAhead 13 = .ok (.getfield 154, 3) := by decide +kernel
theorem dX11_isRefusedAhead_16 : decode cX11_isRefusedAhead 16 = .ok (.invokevirtual 158, 3) := by decide +kernel
theorem dX11_isRefusedAhead_19 : decode cX11_isRefusedAhead 19 = .ok (.istore_n 2, 1) := by decide +kernel
theorem dX11_isRefusedAhead_20 : decode cX11_isRefusedAhead 20 = .ok (.iload_n 2, 1) := by decide +kernel
theorem dX11_isRefusedAhead_21 : decode cX11_isRefusedAhead 21 = .ok (.iconst (-1), 1) := by decide +kernel
theorem dX11_isRefusedAhead_22 : decode cX11_isRefusedAhead 22 = .ok (.if_icmp .eq 11, 3) := by decide +kernel
theorem dX11_isRefusedAhead_25 : decode cX11_isRefusedAhead 25 = .ok (.aload_n 0, 1) := by decide +kernel
theorem dX11_isRefusedAhead_26 : decode cX11_isRefusedAhead 26 = .ok (.iconst 1, 1) := by decide +kernel
theorem dX11_isRefusedAhead_27 : decode cX11_isRefusedAhead 27 = .ok (.iload_n 2, 1) := by decide +kernel
theorem dX11_isRefusedAhead_28 : decode cX11_isRefusedAhead 28 = .ok (.invokevirtual 164, 3) := by decide +kernel
theorem dX11_isRefusedAhead_31 : decode cX11_isRefusedAhead 31 = .ok (.iconst 1, 1) := by decide +kernel
theorem dX11_isRefusedAhead_32 : decode cX11_isRefusedAhead 32 = .ok (.ireturn, 1) := by decide +kernel
theorem dX11_isRefusedAhead_33 : decode cX11_isRefusedAhead 33 = .ok (.aload_n 0, 1) := by decide +kernel
theorem dX11_isRefusedAhead_34 : decode cX11_isRefusedAhead 34 = .ok (.getfield 73, 3) := by decide +kernel
theorem dX11_isRefusedAhead_37 : decode cX11_isRefusedAhead 37 = .ok (.getfield 116, 3) := by decide +kernel
theorem dX11_isRefusedAhead_40 : decode cX11_isRefusedAhead 40 = .ok (.ifCond .ne 5, 3) := by decide +kernel
theorem dX11_isRefusedAhead_43 : decode cX11_isRefusedAhead 43 = .ok (.iconst 0, 1) := by decide +kernel
theorem dX11_isRefusedAhead_44 : decode cX11_isRefusedAhead 44 = .ok (.ireturn, 1) := by decide +kernel
theorem dX11_isRefusedAhead_45 : decode cX11_isRefusedAhead 45 = .ok (.aload_n 1, 1) := by decide +kernel
theorem dX11_isRefusedAhead_46 : decode cX11_isRefusedAhead 46 = .ok (.aload_n 0, 1) := by decide +kernel
theorem dX11_isRefusedAhead_47 : decode cX11_isRefusedAhead 47 = .ok (.getfield 73, 3) := by decide +kernel
theorem dX11_isRefusedAhead_50 : decode cX11_isRefusedAhead 50 = .ok (.getfield 168, 3) := by decide +kernel
theorem dX11_isRefusedAhead_53 : decode cX11_isRefusedAhead 53 = .ok (.aload_n 0, 1) := by decide +kernel
theorem dX11_isRefusedAhead_54 : decode cX11_isRefusedAhead 54 = .ok (.getfield 73, 3) := by decide +kernel
theorem dX11_isRefusedAhead_57 : decode cX11_isRefusedAhead 57 = .ok (.getfield 116, 3) := by decide +kernel
theorem dX11_isRefusedAhead_60 : decode cX11_isRefusedAhead 60 = .ok (.iconst 2, 1) := by decide +kernel
theorem dX11_isRefusedAhead_61 : decode cX11_isRefusedAhead 61 = .ok (.if_icmp .ne 7, 3) := by decide +kernel
theorem dX11_isRefusedAhead_64 : decode cX11_isRefusedAhead 64 = .ok (.iconst 1, 1) := by decide +kernel
theorem dX11_isRefusedAhead_65 : decode cX11_isRefusedAhead 65 = .ok (.goto 4, 3) := by decide +kernel
theorem dX11_isRefusedAhead_68 : decode cX11_isRefusedAhead 68 = .ok (.iconst 0, 1) := by decide +kernel
theorem dX11_isRefusedAhead_69 : decode cX11_isRefusedAhead 69 = .ok (.invokevirtual 171, 3) := by decide +kernel
theorem dX11_isRefusedAhead_72 : decode cX11_isRefusedAhead 72 = .ok (.istore_n 3, 1) := by decide +kernel
theorem dX11_isRefusedAhead_73 : decode cX11_isRefusedAhead 73 = .ok (.aload_n 0, 1) := by decide +kernel
theorem dX11_isRefusedAhead_74 : decode cX11_isRefusedAhead 74 = .ok (.aload_n 1, 1) := by decide +kernel
theorem dX11_isRefusedAhead_75 : decode cX11_isRefusedAhead 75 = .ok (.iload_n 3, 1) := by decide +kernel
theorem dX11_isRefusedAhead_76 : decode cX11_isRefusedAhead 76 = .ok (.invokevirtual 175, 3) := by decide +kernel
theorem dX11_isRefusedAhead_79 : decode cX11_isRefusedAhead 79 = .ok (.ifCond .eq 18, 3) := by decide +kernel
theorem dX11_isRefusedAhead_82 : decode cX11_isRefusedAhead 82 = .ok (.aload_n 0, 1) := by decide +kernel
theorem dX11_isRefusedAhead_83 : decode cX11_isRefusedAhead 83 = .ok (.iconst 2, 1) := by decide +kernel
theorem dX11_isRefusedAhead_84 : decode cX11_isRefusedAhead 84 = .ok (.aload_n 0, 1) := by decide +kernel
theorem dX11_isRefusedAhead_85 : decode cX11_isRefusedAhead 85 = .ok (.getfield 73, 3) := by decide +kernel
theorem dX11_isRefusedAhead_88 : decode cX11_isRefusedAhead 88 = .ok (.getfield 179, 3) := by decide +kernel
theorem dX11_isRefusedAhead_91 : decode cX11_isRefusedAhead 91 = .ok (.invokevirtual 164, 3) := by decide +kernel
theorem dX11_isRefusedAhead_94 : decode cX11_isRefusedAhead 94 = .ok (.goto 78, 3) := by decide +kernel
theorem dX11_isRefusedAhead_97 : decode cX11_isRefusedAhead 97 = .ok (.iload_n 3, 1) := by decide +kernel
theorem dX11_isRefusedAhead_98 : decode cX11_isRefusedAhead 98 = .ok (.iconst (-1), 1) := by decide +kernel
theorem dX11_isRefusedAhead_99 : decode cX11_isRefusedAhead 99 = .ok (.if_icmp .ne 26, 3) := by decide +kernel
theorem dX11_isRefusedAhead_102 : decode cX11_isRefusedAhead 102 = .ok (.aload_n 0, 1) := by decide +kernel
theorem dX11_isRefusedAhead_103 : decode cX11_isRefusedAhead 103 = .ok (.aload_n 1, 1) := by decide +kernel
theorem dX11_isRefusedAhead_104 : decode cX11_isRefusedAhead 104 = .ok (.invokevirtual 182, 3) := by decide +kernel
theorem dX11_isRefusedAhead_107 : decode cX11_isRefusedAhead 107 = .ok (.ifCond .eq 18, 3) := by decide +kernel
theorem dX11_isRefusedAhead_110 : decode cX11_isRefusedAhead 110 = .ok (.aload_n 0, 1) := by decide +kernel
theorem dX11_isRefusedAhead_111 : decode cX11_isRefusedAhead 111 = .ok (.iconst 3, 1) := by decide +kernel
theorem dX11_isRefusedAhead_112 : decode cX11_isRefusedAhead 112 = .ok (.aload_n 0, 1) := by decide +kernel
theorem dX11_isRefusedAhead_113 : decode cX11_isRefusedAhead 113 = .ok (.getfield 73, 3) := by decide +kernel
theorem dX11_isRefusedAhead_116 : decode cX11_isRefusedAhead 116 = .ok (.getfield 179, 3) := by decide +kernel
theorem dX11_isRefusedAhead_119 : decode cX11_isRefusedAhead 119 = .ok (.invokevirtual 164, 3) := by decide +kernel
theorem dX11_isRefusedAhead_122 : decode cX11_isRefusedAhead 122 = .ok (.goto 50, 3) := by decide +kernel
theorem dX11_isRefusedAhead_125 : decode cX11_isRefusedAhead 125 = .ok (.iload_n 3, 1) := by decide +kernel
theorem dX11_isRefusedAhead_126 : decode cX11_isRefusedAhead 126 = .ok (.iconst (-1), 1) := by decide +kernel
theorem dX11_isRefusedAhead_127 : decode cX11_isRefusedAhead 127 = .ok (.if_icmp .eq 43, 3) := by decide +kernel
theorem dX11_isRefusedAhead_130 : decode cX11_isRefusedAhead 130 = .ok (.aload_n 1, 1) := by decide +kernel
theorem dX11_isRefusedAhead_131 : decode cX11_isRefusedAhead 131 = .ok (.aload_n 1, 1) := by decide +kernel
theorem dX11_isRefusedAhead_132 : decode cX11_isRefusedAhead 132 = .ok (.aload_n 0, 1) := by decide +kernel
theorem dX11_isRefusedAhead_133 : decode cX11_isRefusedAhead 133 = .ok (.getfield 73, 3) := by decide +kernel
theorem dX11_isRefusedAhead_136 : decode cX11_isRefusedAhead 136 = .ok (.getfield 154, 3) := by decide +kernel
theorem dX11_isRefusedAhead_139 : decode cX11_isRefusedAhead 139 = .ok (.invokevirtual 186, 3) := by decide +kernel
theorem dX11_isRefusedAhead_142 : decode cX11_isRefusedAhead 142 = .ok (.iload_n 3, 1) := by decide +kernel
theorem dX11_isRefusedAhead_143 : decode cX11_isRefusedAhead 143 = .ok (.invokevirtual 189, 3) := by decide +kernel
theorem dX11_isRefusedAhead_146 : decode cX11_isRefusedAhead 146 = .ok (.ifCond .eq 24, 3) := by decide +kernel
theorem dX11_isRefusedAhead_149 : decode cX11_isRefusedAhead 149 = .ok (.aload_n 0, 1) := by decide +kernel
theorem dX11_isRefusedAhead_150 : decode cX11_isRefusedAhead 150 = .ok (.iconst 4, 1) := by decide +kernel
theorem dX11_isRefusedAhead_151 : decode cX11_isRefusedAhead 151 = .ok (.aload_n 0, 1) := by decide +kernel
theorem dX11_isRefusedAhead_152 : decode cX11_isRefusedAhead 152 = .ok (.getfield 73, 3) := by decide +kernel
theorem dX11_isRefusedAhead_155 : decode cX11_isRefusedAhead 155 = .ok (.getfield 179, 3) := by decide +kernel
theorem dX11_isRefusedAhead_158 : decode cX11_isRefusedAhead 158 = .ok (.invokevirtual 164, 3) := by decide +kernel
theorem dX11_isRefusedAhead_161 : decode cX11_isRefusedAhead 161 = .ok (.aload_n 0, 1) := by decide +kernel
theorem dX11_isRefusedAhead_162 : decode cX11_isRefusedAhead 162 = .ok (.aload_n 1, 1) := by decide +kernel
theorem dX11_isRefusedAhead_163 : decode cX11_isRefusedAhead 163 = .ok (.iload_n 3, 1) := by decide +kernel
theorem dX11_isRefusedAhead_164 : decode cX11_isRefusedAhead 164 = .ok (.invokevirtual 193, 3) := by decide +kernel
theorem dX11_isRefusedAhead_167 : decode cX11_isRefusedAhead 167 = .ok (.goto 5, 3) := by decide +kernel
theorem dX11_isRefusedAhead_170 : decode cX11_isRefusedAhead 170 = .ok (.iconst 0, 1) := by decide +kernel
theorem dX11_isRefusedAhead_171 : decode cX11_isRefusedAhead 171 = .ok (.ireturn, 1) := by decide +kernel
theorem dX11_isRefusedAhead_172 : decode cX11_isRefusedAhead 172 = .ok (.iconst 1, 1) := by decide +kernel
theorem dX11_isRefusedAhead_173 : decode cX11_isRefusedAhead 173 = .ok (.ireturn, 1) := by decide +kernel
theorem dX11_isTaken_0 : decode cX11_isTaken 0 = .ok (.aload_n 0, 1) := by decide +kernel
theorem dX11_isTaken_1 : decode cX11_isTaken 1 = .ok (.getfield 73, 3) := by decide +kernel
theorem dX11_isTaken_4 : decode cX11_isTaken 4 = .ok (.getfield 168, 3) := by decide +kernel
theorem dX11_isTaken_7 : decode cX11_isTaken 7 = .ok (.invokestatic 197, 3) := by decide +kernel
theorem dX11_isTaken_10 : decode cX11_isTaken 10 = .ok (.ifCond .eq 5, 3) := by decide +kernel
theorem dX11_isTaken_13 : decode cX11_isTaken 13 = .ok (.iconst 1, 1) := by decide +kernel
theorem dX11_isTaken_14 : decode cX11_isTaken 14 = .ok (.ireturn, 1) := by decide +kernel
theorem dX11_isTaken_15 : decode cX11_isTaken 15 = .ok (.iload_n 2, 1) := by decide +kernel
theorem dX11_isTaken_16 : decode cX11_isTaken 16 = .ok (.iconst (-1), 1) := by decide +kernel
theorem dX11_isTaken_17 : decode cX11_isTaken 17 = .ok (.if_icmp .eq 41, 3) := by decide +kernel
theorem dX11_isTaken_20 : decode cX11_isTaken 20 = .ok (.aload_n 0, 1) := by decide +kernel
theorem dX11_isTaken_21 : decode cX11_isTaken 21 = .ok (.getfield 73, 3) := by decide +kernel
theorem dX11_isTaken_24 : decode cX11_isTaken 24 = .ok (.getfield 116, 3) := by decide +kernel
theorem dX11_isTaken_27 : decode cX11_isTaken 27 = .ok (.iconst 2, 1) := by decide +kernel
theorem dX11_isTaken_28 : decode cX11_isTaken 28 = .ok (.if_icmp .ne 30, 3) := by decide +kernel
theorem dX11_isTaken_31 : decode cX11_isTaken 31 = .ok (.aload_n 1, 1) := by decide +kernel
theorem dX11_isTaken_32 : decode cX11_isTaken 32 = .ok (.iload_n 2, 1) := by decide +kernel
theorem dX11_isTaken_33 : decode cX11_isTaken 33 = .ok (.invokevirtual 200, 3) := by decide +kernel
theorem dX11_isTaken_36 : decode cX11_isTaken 36 = .ok (.ifCond .eq 22, 3) := by decide +kernel
theorem dX11_isTaken_39 : decode cX11_isTaken 39 = .ok (.aload_n 1, 1) := by decide +kernel
theorem dX11_isTaken_40 : decode cX11_isTaken 40 = .ok (.iload_n 2, 1) := by decide +kernel
theorem dX11_isTaken_41 : decode cX11_isTaken 41 = .ok (.invokevirtual 204, 3) := by decide +kernel
theorem dX11_isTaken_44 : decode cX11_isTaken 44 = .ok (.aload_n 0, 1) := by decide +kernel
theorem dX11_isTaken_45 : decode cX11_isTaken 45 = .ok (.getfield 73, 3) := by decide +kernel
theorem dX11_isTaken_48 : decode cX11_isTaken 48 = .ok (.getfield 207, 3) := by decide +kernel
theorem dX11_isTaken_51 : decode cX11_isTaken 51 = .ok (.if_icmp .eq 7, 3) := by decide +kernel
theorem dX11_isTaken_54 : decode cX11_isTaken 54 = .ok (.iconst 1, 1) := by decide +kernel
theorem dX11_isTaken_55 : decode cX11_isTaken 55 = .ok (.goto 4, 3) := by decide +kernel
theorem dX11_isTaken_58 : decode cX11_isTaken 58 = .ok (.iconst 0, 1) := by decide +kernel
theorem dX11_isTaken_59 : decode cX11_isTaken 59 = .ok (.ireturn, 1) := by decide +kernel
theorem dX11_isFull_0 : decode cX11_isFull 0 = .ok (.aload_n 0, 1) := by decide +kernel
theorem dX11_isFull_1 : decode cX11_isFull 1 = .ok (.getfield 73, 3) := by decide +kernel
theorem dX11_isFull_4 : decode cX11_isFull 4 = .ok (.getfield 116, 3) := by decide +kernel
theorem dX11_isFull_7 : decode cX11_isFull 7 = .ok (.iconst 2, 1) := by decide +kernel
theorem dX11_isFull_8 : decode cX11_isFull 8 = .ok (.if_icmp .ne 19, 3) := by decide +kernel
theorem dX11_isFull_11 : decode cX11_isFull 11 = .ok (.aload_n 1, 1) := by decide +kernel
theorem dX11_isFull_12 : decode cX11_isFull 12 = .ok (.getfield 210, 3) := by decide +kernel
theorem dX11_isFull_15 : decode cX11_isFull 15 = .ok (.arraylength, 1) := by decide +kernel
theorem dX11_isFull_16 : decode cX11_isFull 16 = .ok (.bipush 10, 2) := by decide +kernel
theorem dX11_isFull_18 : decode cX11_isFull 18 = .ok (.if_icmp .lt 7, 3) := by decide +kernel
theorem dX11_isFull_21 : decode cX11_isFull 21 = .ok (.iconst 1, 1) := by decide +kernel
theorem dX11_isFull_22 : decode cX11_isFull 22 = .ok (.goto 4, 3) := by decide +kernel
theorem dX11_isFull_25 : decode cX11_isFull 25 = .ok (.iconst 0, 1) := by decide +kernel
theorem dX11_isFull_26 : decode cX11_isFull 26 = .ok (.ireturn, 1) := by decide +kernel
theorem dX11_isFull_27 : decode cX11_isFull 27 = .ok (.aload_n 1, 1) := by decide +kernel
theorem dX11_isFull_28 : decode cX11_isFull 28 = .ok (.getfield 214, 3) := by decide +kernel
theorem dX11_isFull_31 : decode cX11_isFull 31 = .ok (.arraylength, 1) := by decide +kernel
theorem dX11_isFull_32 : decode cX11_isFull 32 = .ok (.bipush 20, 2) := by decide +kernel
theorem dX11_isFull_34 : decode cX11_isFull 34 = .ok (.if_icmp .lt 7, 3) := by decide +kernel
theorem dX11_isFull_37 : decode cX11_isFull 37 = .ok (.iconst 1, 1) := by decide +kernel
theorem dX11_isFull_38 : decode cX11_isFull 38 = .ok (.goto 4, 3) := by decide +kernel
theorem dX11_isFull_41 : decode cX11_isFull 41 = .ok (.iconst 0, 1) := by decide +kernel
theorem dX11_isFull_42 : decode cX11_isFull 42 = .ok (.ireturn, 1) := by decide +kernel
theorem dX11_traceRing_0 : decode cX11_traceRing 0 = .ok (.aload_n 1, 1) := by decide +kernel
theorem dX11_traceRing_1 : decode cX11_traceRing 1 = .ok (.aload_n 0, 1) := by decide +kernel
theorem dX11_traceRing_2 : decode cX11_traceRing 2 = .ok (.getfield 73, 3) := by decide +kernel
theorem dX11_traceRing_5 : decode cX11_traceRing 5 = .ok (.getfield 154, 3) := by decide +kernel
theorem dX11_traceRing_8 : decode cX11_traceRing 8 = .ok (.invokevirtual 186, 3) := by decide +kernel
theorem dX11_traceRing_11 : decode cX11_traceRing 11 = .ok (.istore_n 3, 1) := by decide +kernel
theorem dX11_traceRing_12 : decode cX11_traceRing 12 = .ok (.iload_n 2, 1) := by decide +kernel
theorem dX11_traceRing_13 : decode cX11_traceRing 13 = .ok (.istore 4, 2) := by decide +kernel
theorem dX11_traceRing_15 : decode cX11_traceRing 15 = .ok (.iconst 0, 1) := by decide +kernel
theorem dX11_traceRing_16 : decode cX11_traceRing 16 = .ok (.istore 5, 2) := by decide +kernel
theorem dX11_traceRing_18 : decode cX11_traceRing 18 = .ok (.iload 5, 2) := by decide +kernel
theorem dX11_traceRing_20 : decode cX11_traceRing 20 = .ok (.aload_n 0, 1) := by decide +kernel
theorem dX11_traceRing_21 : decode cX11_traceRing 21 = .ok (.getfield 26, 3) := by decide +kernel
theorem dX11_traceRing_24 : decode cX11_traceRing 24 = .ok (.arraylength, 1) := by decide +kernel
theorem dX11_traceRing_25 : decode cX11_traceRing 25 = .ok (.if_icmp .ge 62, 3) := by decide +kernel
theorem dX11_traceRing_28 : decode cX11_traceRing 28 = .ok (.aload_n 0, 1) := by decide +kernel
theorem dX11_traceRing_29 : decode cX11_traceRing 29 = .ok (.getfield 26, 3) := by decide +kernel
theorem dX11_traceRing_32 : decode cX11_traceRing 32 = .ok (.aload_n 0, 1) := by decide +kernel
theorem dX11_traceRing_33 : decode cX11_traceRing 33 = .ok (.getfield 144, 3) := by decide +kernel
theorem dX11_traceRing_36 : decode cX11_traceRing 36 = .ok (.aload_n 1, 1) := by decide +kernel
theorem dX11_traceRing_37 : decode cX11_traceRing 37 = .ok (.iload 4, 2) := by decide +kernel
theorem dX11_traceRing_39 : decode cX11_traceRing 39 = .ok (.invokevirtual 217, 3) := by decide +kernel
theorem dX11_traceRing_42 : decode cX11_traceRing 42 = .ok (.iastore, 1) := by decide +kernel
theorem dX11_traceRing_43 : decode cX11_traceRing 43 = .ok (.aload_n 0, 1) := by decide +kernel
theorem dX11_traceRing_44 : decode cX11_traceRing 44 = .ok (.dup, 1) := by decide +kernel
theorem dX11_traceRing_45 : decode cX11_traceRing 45 = .ok (.getfield 144, 3) := by decide +kernel
theorem dX11_traceRing_48 : decode cX11_traceRing 48 = .ok (.iconst 1, 1) := by decide +kernel
theorem dX11_traceRing_49 : decode cX11_traceRing 49 = .ok (.iadd, 1) := by decide +kernel
theorem dX11_traceRing_50 : decode cX11_traceRing 50 = .ok (.putfield 144, 3) := by decide +kernel
theorem dX11_traceRing_53 : decode cX11_traceRing 53 = .ok (.aload_n 1, 1) := by decide +kernel
theorem dX11_traceRing_54 : decode cX11_traceRing 54 = .ok (.iload_n 3, 1) := by decide +kernel
theorem dX11_traceRing_55 : decode cX11_traceRing 55 = .ok (.iload_n 2, 1) := by decide +kernel
theorem dX11_traceRing_56 : decode cX11_traceRing 56 = .ok (.invokevirtual 220, 3) := by decide +kernel
theorem dX11_traceRing_59 : decode cX11_traceRing 59 = .ok (.istore 4, 2) := by decide +kernel
theorem dX11_traceRing_61 : decode cX11_traceRing 61 = .ok (.iload 4, 2) := by decide +kernel
theorem dX11_traceRing_63 : decode cX11_traceRing 63 = .ok (.iload_n 2, 1) := by decide +kernel
theorem dX11_traceRing_64 : decode cX11_traceRing 64 = .ok (.if_icmp .eq 9, 3) := by decide +kernel
theorem dX11_traceRing_67 : decode cX11_traceRing 67 = .ok (.iload 4, 2) := by decide +kernel
theorem dX11_traceRing_69 : decode cX11_traceRing 69 = .ok (.iconst (-1), 1) := by decide +kernel
theorem dX11_traceRing_70 : decode cX11_traceRing 70 = .ok (.if_icmp .ne 4, 3) := by decide +kernel
theorem dX11_traceRing_73 : decode cX11_traceRing 73 = .ok (.return_, 1) := by decide +kernel
theorem dX11_traceRing_74 : decode cX11_traceRing 74 = .ok (.aload_n 1, 1) := by decide +kernel
theorem dX11_traceRing_75 : decode cX11_traceRing 75 = .ok (.iload 4, 2) := by decide +kernel
theorem dX11_traceRing_77 : decode cX11_traceRing 77 = .ok (.invokevirtual 224, 3) := by decide +kernel
theorem dX11_traceRing_80 : decode cX11_traceRing 80 = .ok (.istore_n 3, 1) := by decide +kernel
theorem dX11_traceRing_81 : decode cX11_traceRing 81 = .ok (.iinc 5 1, 3) := by decide +kernel
theorem dX11_traceRing_84 : decode cX11_traceRing 84 = .ok (.goto (-66), 3) := by decide +kernel
theorem dX11_traceRing_87 : decode cX11_traceRing 87 = .ok (.return_, 1) := by decide +kernel
theorem dX11_isRefusedAtWork_0 : decode cX11_isRefusedAtWork 0 = .ok (.aload_n 0, 1) := by decide +kernel
theorem dX11_isRefusedAtWork_1 : decode cX11_isRefusedAtWork 1 = .ok (.getfield 73, 3) := by decide +kernel
theorem dX11_isRefusedAtWork_4 : decode cX11_isRefusedAtWork 4 = .ok (.getfield 116, 3) := by decide +kernel
theorem dX11_isRefusedAtWork_7 : decode cX11_isRefusedAtWork 7 = .ok (.iconst 2, 1) := by decide +kernel
theorem dX11_isRefusedAtWork_8 : decode cX11_isRefusedAtWork 8 = .ok (.if_icmp .ne 5, 3) := by decide +kernel
theorem dX11_isRefusedAtWork_11 : decode cX11_isRefusedAtWork 11 = .ok (.iconst 0, 1) := by decide +kernel
theorem dX11_isRefusedAtWork_12 : decode cX11_isRefusedAtWork 12 = .ok (.ireturn, 1) := by decide +kernel
theorem dX11_isRefusedAtWork_13 : decode cX11_isRefusedAtWork 13 = .ok (.aload_n 0, 1) := by decide +kernel
theorem dX11_isRefusedAtWork_14 : decode cX11_isRefusedAtWork 14 = .ok (.getfield 54, 3) := by decide +kernel
theorem dX11_isRefusedAtWork_17 : decode cX11_isRefusedAtWork 17 = .ok (.iconst 0, 1) := by decide +kernel
theorem dX11_isRefusedAtWork_18 : decode cX11_isRefusedAtWork 18 = .ok (.putfield 227, 3) := by decide +kernel
theorem dX11_isRefusedAtWork_21 : decode cX11_isRefusedAtWork 21 = .ok (.aload_n 0, 1) := by decide +kernel
theorem dX11_isRefusedAtWork_22 : decode cX11_isRefusedAtWork 22 = .ok (.getfield 80, 3) := by decide +kernel
theorem dX11_isRefusedAtWork_25 : decode cX11_isRefusedAtWork 25 = .ok (.aload_n 0, 1) := by decide +kernel
theorem dX11_isRefusedAtWork_26 : decode cX11_isRefusedAtWork 26 = .ok (.getfield 73, 3) := by decide +kernel
theorem dX11_isRefusedAtWork_29 : decode cX11_isRefusedAtWork 29 = .ok (.getfield 154, 3) := by decide +kernel
theorem dX11_isRefusedAtWork_32 : decode cX11_isRefusedAtWork 32 = .ok (.aload_n 0, 1) := by decide +kernel
theorem dX11_isRefusedAtWork_33 : decode cX11_isRefusedAtWork 33 = .ok (.invokevirtual 129, 3) := by decide +kernel
theorem dX11_isRefusedAtWork_36 : decode cX11_isRefusedAtWork 36 = .ok (.getfield 150, 3) := by decide +kernel
theorem dX11_isRefusedAtWork_39 : decode cX11_isRefusedAtWork 39 = .ok (.aload_n 0, 1) := by decide +kernel
theorem dX11_isRefusedAtWork_40 : decode cX11_isRefusedAtWork 40 = .ok (.getfield 54, 3) := by decide +kernel
theorem dX11_isRefusedAtWork_43 : decode cX11_isRefusedAtWork 43 = .ok (.aload_n 0, 1) := by decide +kernel
theorem dX11_isRefusedAtWork_44 : decode cX11_isRefusedAtWork 44 = .ok (.getfield 66, 3) := by decide +kernel
theorem dX11_isRefusedAtWork_47 : decode cX11_isRefusedAtWork 47 = .ok (.invokevirtual 230, 3) := by decide +kernel
theorem dX11_isRefusedAtWork_50 : decode cX11_isRefusedAtWork 50 = .ok (.istore_n 1, 1) := by decide +kernel
theorem dX11_isRefusedAtWork_51 : decode cX11_isRefusedAtWork 51 = .ok (.iload_n 1, 1) := by decide +kernel
theorem dX11_isRefusedAtWork_52 : decode cX11_isRefusedAtWork 52 = .ok (.ifCond .eq 15, 3) := by decide +kernel
theorem dX11_isRefusedAtWork_55 : decode cX11_isRefusedAtWork 55 = .ok (.aload_n 0, 1) := by decide +kernel
theorem dX11_isRefusedAtWork_56 : decode cX11_isRefusedAtWork 56 = .ok (.iload_n 1, 1) := by decide +kernel
theorem dX11_isRefusedAtWork_57 : decode cX11_isRefusedAtWork 57 = .ok (.aload_n 0, 1) := by decide +kernel
theorem dX11_isRefusedAtWork_58 : decode cX11_isRefusedAtWork 58 = .ok (.getfield 80, 3) := by decide +kernel
theorem dX11_isRefusedAtWork_61 : decode cX11_isRefusedAtWork 61 = .ok (.getfield 234, 3) := by decide +kernel
theorem dX11_isRefusedAtWork_64 : decode cX11_isRefusedAtWork 64 = .ok (.invokevirtual 164, 3) := by decide +kernel
theorem dX11_isRefusedAtWork_67 : decode cX11_isRefusedAtWork 67 = .ok (.iload_n 1, 1) := by decide +kernel
theorem dX11_isRefusedAtWork_68 : decode cX11_isRefusedAtWork 68 = .ok (.ifCond .eq 7, 3) := by decide +kernel
theorem dX11_isRefusedAtWork_71 : decode cX11_isRefusedAtWork 71 = .ok (.iconst 1, 1) := by decide +kernel
theorem dX11_isRefusedAtWork_72 : decode cX11_isRefusedAtWork 72 = .ok (.goto 4, 3) := by decide +kernel
theorem dX11_isRefusedAtWork_75 : decode cX11_isRefusedAtWork 75 = .ok (.iconst 0, 1) := by decide +kernel
theorem dX11_isRefusedAtWork_76 : decode cX11_isRefusedAtWork 76 = .ok (.ireturn, 1) := by decide +kernel
theorem dX11_bookWith_0 : decode cX11_bookWith 0 = .ok (.new 237, 3) := by decide +kernel
theorem dX11_bookWith_3 : decode cX11_bookWith 3 = .ok (.dup, 1) := by decide +kernel
theorem dX11_bookWith_4 : decode cX11_bookWith 4 = .ok (.aload_n 0, 1) := by decide +kernel
theorem dX11_bookWith_5 : decode cX11_bookWith 5 = .ok (.getfield 73, 3) := by decide +kernel
theorem dX11_bookWith_8 : decode cX11_bookWith 8 = .ok (.getfield 168, 3) := by decide +kernel
theorem dX11_bookWith_11 : decode cX11_bookWith 11 = .ok (.aload_n 0, 1) := by decide +kernel
theorem dX11_bookWith_12 : decode cX11_bookWith 12 = .ok (.getfield 73, 3) := by decide +kernel
theorem dX11_bookWith_15 : decode cX11_bookWith 15 = .ok (.getfield 207, 3) := by decide +kernel
theorem dX11_bookWith_18 : decode cX11_bookWith 18 = .ok (.aload_n 0, 1) := by decide +kernel
theorem dX11_bookWith_19 : decode cX11_bookWith 19 = .ok (.getfield 73, 3) := by decide +kernel
theorem dX11_bookWith_22 : decode cX11_bookWith 22 = .ok (.getfield 154, 3) := by decide +kernel
theorem dX11_bookWith_25 : decode cX11_bookWith 25 = .ok (.aload_n 1, 1) := by decide +kernel
theorem dX11_bookWith_26 : decode cX11_bookWith 26 = .ok (.invokespecial 239, 3) := by decide +kernel
theorem dX11_bookWith_29 : decode cX11_bookWith 29 = .ok (.astore_n 2, 1) := by decide +kernel
theorem dX11_bookWith_30 : decode cX11_bookWith 30 = .ok (.aload_n 0, 1) := by decide +kernel
theorem dX11_bookWith_31 : decode cX11_bookWith 31 = .ok (.invokevirtual 129, 3) := by decide +kernel
theorem dX11_bookWith_34 : decode cX11_bookWith 34 = .ok (.getfield 150, 3) := by decide +kernel
theorem dX11_bookWith_37 : decode cX11_bookWith 37 = .ok (.aload_n 2, 1) := by decide +kernel
theorem dX11_bookWith_38 : decode cX11_bookWith 38 = .ok (.invokevirtual 242, 3) := by decide +kernel
theorem dX11_bookWith_41 : decode cX11_bookWith 41 = .ok (.astore_n 3, 1) := by decide +kernel
theorem dX11_bookWith_42 : decode cX11_bookWith 42 = .ok (.aload_n 3, 1) := by decide +kernel
theorem dX11_bookWith_43 : decode cX11_bookWith 43 = .ok (.aload_n 3, 1) := by decide +kernel
theorem dX11_bookWith_44 : decode cX11_bookWith 44 = .ok (.aload_n 2, 1) := by decide +kernel
theorem dX11_bookWith_45 : decode cX11_bookWith 45 = .ok (.getfield 246, 3) := by decide +kernel
theorem dX11_bookWith_48 : decode cX11_bookWith 48 = .ok (.aload_n 1, 1) := by decide +kernel
theorem dX11_bookWith_49 : decode cX11_bookWith 49 = .ok (.ifnonnull 7, 3) := by decide +kernel
theorem dX11_bookWith_52 : decode cX11_bookWith 52 = .ok (.iconst 1, 1) := by decide +kernel
theorem dX11_bookWith_53 : decode cX11_bookWith 53 = .ok (.goto 4, 3) := by decide +kernel
theorem dX11_bookWith_56 : decode cX11_bookWith 56 = .ok (.iconst 0, 1) := by decide +kernel
theorem dX11_bookWith_57 : decode cX11_bookWith 57 = .ok (.invokevirtual 171, 3) := by decide +kernel
theorem dX11_bookWith_60 : decode cX11_bookWith 60 = .ok (.invokevirtual 247, 3) := by decide +kernel
theorem dX11_bookWith_63 : decode cX11_bookWith 63 = .ok (.istore 4, 2) := by decide +kernel
theorem dX11_bookWith_65 : decode cX11_bookWith 65 = .ok (.iconst 0, 1) := by decide +kernel
theorem dX11_bookWith_66 : decode cX11_bookWith 66 = .ok (.istore 5, 2) := by decide +kernel
theorem dX11_bookWith_68 : decode cX11_bookWith 68 = .ok (.iload 5, 2) := by decide +kernel
theorem dX11_bookWith_70 : decode cX11_bookWith 70 = .ok (.bipush 20, 2) := by decide +kernel
theorem dX11_bookWith_72 : decode cX11_bookWith 72 = .ok (.if_icmp .ge 126, 3) := by decide +kernel
theorem dX11_bookWith_75 : decode cX11_bookWith 75 = .ok (.iload 4, 2) := by decide +kernel
theorem dX11_bookWith_77 : decode cX11_bookWith 77 = .ok (.ifCond .eq 121, 3) := by decide +kernel
theorem dX11_bookWith_80 : decode cX11_bookWith 80 = .ok (.aload_n 3, 1) := by decide +kernel
theorem dX11_bookWith_81 : decode cX11_bookWith 81 = .ok (.iload 4, 2) := by decide +kernel
theorem dX11_bookWith_83 : decode cX11_bookWith 83 = .ok (.invokevirtual 250, 3) := by decide +kernel
theorem dX11_bookWith_86 : decode cX11_bookWith 86 = .ok (.istore 6, 2) := by decide +kernel
theorem dX11_bookWith_88 : decode cX11_bookWith 88 = .ok (.aload_n 3, 1) := by decide +kernel
theorem dX11_bookWith_89 : decode cX11_bookWith 89 = .ok (.iload 6, 2) := by decide +kernel
theorem dX11_bookWith_91 : decode cX11_bookWith 91 = .ok (.invokevirtual 253, 3) := by decide +kernel
theorem dX11_bookWith_94 : decode cX11_bookWith 94 = .ok (.astore 7, 2) := by decide +kernel
theorem dX11_bookWith_96 : decode cX11_bookWith 96 = .ok (.aload 7, 2) := by decide +kernel
theorem dX11_bookWith_98 : decode cX11_bookWith 98 = .ok (.ifnonnull 5, 3) := by decide +kernel
theorem dX11_bookWith_101 : decode cX11_bookWith 101 = .ok (.aconst_null, 1) := by decide +kernel
theorem dX11_bookWith_102 : decode cX11_bookWith 102 = .ok (.areturn, 1) := by decide +kernel
theorem dX11_bookWith_103 : decode cX11_bookWith 103 = .ok (.aload_n 0, 1) := by decide +kernel
theorem dX11_bookWith_104 : decode cX11_bookWith 104 = .ok (.getfield 80, 3) := by decide +kernel
theorem dX11_bookWith_107 : decode cX11_bookWith 107 = .ok (.aload 7, 2) := by decide +kernel
theorem dX11_bookWith_109 : decode cX11_bookWith 109 = .ok (.getfield 257, 3) := by decide +kernel
theorem dX11_bookWith_112 : decode cX11_bookWith 112 = .ok (.aload_n 3, 1) := by decide +kernel
theorem dX11_bookWith_113 : decode cX11_bookWith 113 = .ok (.aconst_null, 1) := by decide +kernel
theorem dX11_bookWith_114 : decode cX11_bookWith 114 = .ok (.aload_n 0, 1) := by decide +kernel
theorem dX11_bookWith_115 : decode cX11_bookWith 115 = .ok (.getfield 66, 3) := by decide +kernel
theorem dX11_bookWith_118 : decode cX11_bookWith 118 = .ok (.invokevirtual 230, 3) := by decide +kernel
theorem dX11_bookWith_121 : decode cX11_bookWith 121 = .ok (.ifCond .eq 21, 3) := by decide +kernel
theorem dX11_bookWith_124 : decode cX11_bookWith 124 = .ok (.aload_n 0, 1) := by decide +kernel
theorem dX11_bookWith_125 : decode cX11_bookWith 125 = .ok (.bipush 9, 2) := by decide +kernel
theorem dX11_bookWith_127 : decode cX11_bookWith 127 = .ok (.iconst 0, 1) := by decide +kernel
theorem dX11_bookWith_128 : decode cX11_bookWith 128 = .ok (.invokevirtual 164, 3) := by decide +kernel
theorem dX11_bookWith_131 : decode cX11_bookWith 131 = .ok (.aload_n 0, 1) := by decide +kernel
theorem dX11_bookWith_132 : decode cX11_bookWith 132 = .ok (.aload 7, 2) := by decide +kernel
theorem dX11_bookWith_134 : decode cX11_bookWith 134 = .ok (.getfield 246, 3) := by decide +kernel
theorem dX11_bookWith_137 : decode cX11_bookWith 137 = .ok (.putfield 23, 3) := by decide +kernel
theorem dX11_bookWith_140 : decode cX11_bookWith 140 = .ok (.aconst_null, 1) := by decide +kernel
theorem dX11_bookWith_141 : decode cX11_bookWith 141 = .ok (.areturn, 1) := by decide +kernel
theorem dX11_bookWith_142 : decode cX11_bookWith 142 = .ok (.aload_n 3, 1) := by decide +kernel
theorem dX11_bookWith_143 : decode cX11_bookWith 143 = .ok (.getfield 214, 3) := by decide +kernel
theorem dX11_bookWith_146 : decode cX11_bookWith 146 = .ok (.iload 6, 2) := by decide +kernel
theorem dX11_bookWith_148 : decode cX11_bookWith 148 = .ok (.new 237, 3) := by decide +kernel
theorem dX11_bookWith_151 : decode cX11_bookWith 151 = .ok (.dup, 1) := by decide +kernel
theorem dX11_bookWith_152 : decode cX11_bookWith 152 = .ok (.aload 7, 2) := by decide +kernel
theorem dX11_bookWith_154 : decode cX11_bookWith 154 = .ok (.getfield 246, 3) := by decide +kernel
theorem dX11_bookWith_157 : decode cX11_bookWith 157 = .ok (.iconst 0, 1) := by decide +kernel
theorem dX11_bookWith_158 : decode cX11_bookWith 158 = .ok (.aload 7, 2) := by decide +kernel
theorem dX11_bookWith_160 : decode cX11_bookWith 160 = .ok (.getfield 257, 3) := by decide +kernel
theorem dX11_bookWith_163 : decode cX11_bookWith 163 = .ok (.new 29, 3) := by decide +kernel
theorem dX11_bookWith_166 : decode cX11_bookWith 166 = .ok (.dup, 1) := by decide +kernel
theorem dX11_bookWith_167 : decode cX11_bookWith 167 = .ok (.aload_n 0, 1) := by decide +kernel
theorem dX11_bookWith_168 : decode cX11_bookWith 168 = .ok (.getfield 80, 3) := by decide +kernel
theorem dX11_bookWith_171 : decode cX11_bookWith 171 = .ok (.getfield 119, 3) := by decide +kernel
theorem dX11_bookWith_174 : decode cX11_bookWith 174 = .ok (.invokespecial 122, 3) := by decide +kernel
theorem dX11_bookWith_177 : decode cX11_bookWith 177 = .ok (.invokespecial 239, 3) := by decide +kernel
theorem dX11_bookWith_180 : decode cX11_bookWith 180 = .ok (.aastore, 1) := by decide +kernel
theorem dX11_bookWith_181 : decode cX11_bookWith 181 = .ok (.iload 4, 2) := by decide +kernel
theorem dX11_bookWith_183 : decode cX11_bookWith 183 = .ok (.iconst 1, 1) := by decide +kernel
theorem dX11_bookWith_184 : decode cX11_bookWith 184 = .ok (.iload 6, 2) := by decide +kernel
theorem dX11_bookWith_186 : decode cX11_bookWith 186 = .ok (.ishl, 1) := by decide +kernel
theorem dX11_bookWith_187 : decode cX11_bookWith 187 = .ok (.iconst (-1), 1) := by decide +kernel
theorem dX11_bookWith_188 : decode cX11_bookWith 188 = .ok (.ixor, 1) := by decide +kernel
theorem dX11_bookWith_189 : decode cX11_bookWith 189 = .ok (.iand, 1) := by decide +kernel
theorem dX11_bookWith_190 : decode cX11_bookWith 190 = .ok (.istore 4, 2) := by decide +kernel
theorem dX11_bookWith_192 : decode cX11_bookWith 192 = .ok (.iinc 5 1, 3) := by decide +kernel
theorem dX11_bookWith_195 : decode cX11_bookWith 195 = .ok (.goto (-127), 3) := by decide +kernel
theorem dX11_bookWith_198 : decode cX11_bookWith 198 = .ok (.aload_n 3, 1) := by decide +kernel
theorem dX11_bookWith_199 : decode cX11_bookWith 199 = .ok (.areturn, 1) := by decide +kernel
theorem dX11_sign_0 : decode cX11_sign 0 = .ok (.aload_n 0, 1) := by decide +kernel
theorem dX11_sign_1 : decode cX11_sign 1 = .ok (.getfield 32, 3) := by decide +kernel
theorem dX11_sign_4 : decode cX11_sign 4 = .ok (.getfield 258, 3) := by decide +kernel
theorem dX11_sign_7 : decode cX11_sign 7 = .ok (.ireturn, 1) := by decide +kernel
theorem dX11_digits_0 : decode cX11_digits 0 = .ok (.aload_n 0, 1) := by decide +kernel
theorem dX11_digits_1 : decode cX11_digits 1 = .ok (.iload_n 1, 1) := by decide +kernel
theorem dX11_digits_2 : decode cX11_digits 2 = .ok (.invokevirtual 261, 3) := by decide +kernel
theorem dX11_digits_5 : decode cX11_digits 5 = .ok (.invokevirtual 265, 3) := by decide +kernel
theorem dX11_digits_8 : decode cX11_digits 8 = .ok (.ireturn, 1) := by decide +kernel
theorem dX11_digit_0 : decode cX11_digit 0 = .ok (.aload_n 0, 1) := by decide +kernel
theorem dX11_digit_1 : decode cX11_digit 1 = .ok (.iload_n 1, 1) := by decide +kernel
theorem dX11_digit_2 : decode cX11_digit 2 = .ok (.invokevirtual 261, 3) := by decide +kernel
theorem dX11_digit_5 : decode cX11_digit 5 = .ok (.astore_n 3, 1) := by decide +kernel
theorem dX11_digit_6 : decode cX11_digit 6 = .ok (.iload_n 2, 1) := by decide +kernel
theorem dX11_digit_7 : decode cX11_digit 7 = .ok (.ifCond .lt 11, 3) := by decide +kernel
theorem dX11_digit_10 : decode cX11_digit 10 = .ok (.iload_n 2, 1) := by decide +kernel
theorem dX11_digit_11 : decode cX11_digit 11 = .ok (.aload_n 3, 1) := by decide +kernel
theorem dX11_digit_12 : decode cX11_digit 12 = .ok (.invokevirtual 265, 3) := by decide +kernel
theorem dX11_digit_15 : decode cX11_digit 15 = .ok (.if_icmp .lt 11, 3) := by decide +kernel
theorem dX11_digit_18 : decode cX11_digit 18 = .ok (.new 147, 3) := by decide +kernel
theorem dX11_digit_21 : decode cX11_digit 21 = .ok (.dup, 1) := by decide +kernel
theorem dX11_digit_22 : decode cX11_digit 22 = .ok (.invokespecial 149, 3) := by decide +kernel
theorem dX11_digit_25 : decode cX11_digit 25 = .ok (.athrow, 1) := by decide +kernel
theorem dX11_digit_26 : decode cX11_digit 26 = .ok (.aload_n 3, 1) := by decide +kernel
theorem dX11_digit_27 : decode cX11_digit 27 = .ok (.iload_n 2, 1) := by decide +kernel
theorem dX11_digit_28 : decode cX11_digit 28 = .ok (.invokevirtual 271, 3) := by decide +kernel
theorem dX11_digit_31 : decode cX11_digit 31 = .ok (.ireturn, 1) := by decide +kernel
theorem dX11_write_0 : decode cX11_write 0 = .ok (.iload_n 1, 1) := by decide +kernel
theorem dX11_write_1 : decode cX11_write 1 = .ok (.ifCond .ne 30, 3) := by decide +kernel
theorem dX11_write_4 : decode cX11_write 4 = .ok (.aload_n 0, 1) := by decide +kernel
theorem dX11_write_5 : decode cX11_write 5 = .ok (.getfield 43, 3) := by decide +kernel
theorem dX11_write_8 : decode cX11_write 8 = .ok (.iconst 0, 1) := by decide +kernel
theorem dX11_write_9 : decode cX11_write 9 = .ok (.invokevirtual 274, 3) := by decide +kernel
theorem dX11_write_12 : decode cX11_write 12 = .ok (.aload_n 0, 1) := by decide +kernel
theorem dX11_write_13 : decode cX11_write 13 = .ok (.getfield 32, 3) := by decide +kernel
theorem dX11_write_16 : decode cX11_write 16 = .ok (.aload_n 0, 1) := by decide +kernel
theorem dX11_write_17 : decode cX11_write 17 = .ok (.getfield 43, 3) := by decide +kernel
theorem dX11_write_20 : decode cX11_write 20 = .ok (.invokestatic 277, 3) := by decide +kernel
theorem dX11_write_23 : decode cX11_write 23 = .ok (.aload_n 0, 1) := by decide +kernel
theorem dX11_write_24 : decode cX11_write 24 = .ok (.getfield 43, 3) := by decide +kernel
theorem dX11_write_27 : decode cX11_write 27 = .ok (.invokevirtual 281, 3) := by decide +kernel
theorem dX11_write_30 : decode cX11_write 30 = .ok (.ireturn, 1) := by decide +kernel
theorem dX11_write_31 : decode cX11_write 31 = .ok (.aload_n 0, 1) := by decide +kernel
theorem dX11_write_32 : decode cX11_write 32 = .ok (.getfield 66, 3) := by decide +kernel
theorem dX11_write_35 : decode cX11_write 35 = .ok (.aload_n 0, 1) := by decide +kernel
theorem dX11_write_36 : decode cX11_write 36 = .ok (.getfield 32, 3) := by decide +kernel
theorem dX11_write_39 : decode cX11_write 39 = .ok (.invokevirtual 283, 3) := by decide +kernel
theorem dX11_write_42 : decode cX11_write 42 = .ok (.istore_n 2, 1) := by decide +kernel
theorem dX11_write_43 : decode cX11_write 43 = .ok (.aload_n 0, 1) := by decide +kernel
theorem dX11_write_44 : decode cX11_write 44 = .ok (.getfield 66, 3) := by decide +kernel
theorem dX11_write_47 : decode cX11_write 47 = .ok (.bipush 100, 2) := by decide +kernel
theorem dX11_write_49 : decode cX11_write 49 = .ok (.invokevirtual 287, 3) := by decide +kernel
theorem dX11_write_52 : decode cX11_write 52 = .ok (.istore_n 3, 1) := by decide +kernel
theorem dX11_write_53 : decode cX11_write 53 = .ok (.iload_n 3, 1) := by decide +kernel
theorem dX11_write_54 : decode cX11_write 54 = .ok (.iconst (-1), 1) := by decide +kernel
theorem dX11_write_55 : decode cX11_write 55 = .ok (.if_icmp .eq 11, 3) := by decide +kernel
theorem dX11_write_58 : decode cX11_write 58 = .ok (.iload_n 2, 1) := by decide +kernel
theorem dX11_write_59 : decode cX11_write 59 = .ok (.iload_n 3, 1) := by decide +kernel
theorem dX11_write_60 : decode cX11_write 60 = .ok (.iadd, 1) := by decide +kernel
theorem dX11_write_61 : decode cX11_write 61 = .ok (.bipush 100, 2) := by decide +kernel
theorem dX11_write_63 : decode cX11_write 63 = .ok (.if_icmp .le 5, 3) := by decide +kernel
theorem dX11_write_66 : decode cX11_write 66 = .ok (.iconst (-1), 1) := by decide +kernel
theorem dX11_write_67 : decode cX11_write 67 = .ok (.ireturn, 1) := by decide +kernel
theorem dX11_write_68 : decode cX11_write 68 = .ok (.aload_n 0, 1) := by decide +kernel
theorem dX11_write_69 : decode cX11_write 69 = .ok (.getfield 43, 3) := by decide +kernel
theorem dX11_write_72 : decode cX11_write 72 = .ok (.iconst 0, 1) := by decide +kernel
theorem dX11_write_73 : decode cX11_write 73 = .ok (.invokevirtual 274, 3) := by decide +kernel
theorem dX11_write_76 : decode cX11_write 76 = .ok (.aload_n 0, 1) := by decide +kernel
theorem dX11_write_77 : decode cX11_write 77 = .ok (.iload_n 2, 1) := by decide +kernel
theorem dX11_write_78 : decode cX11_write 78 = .ok (.iload_n 3, 1) := by decide +kernel
theorem dX11_write_79 : decode cX11_write 79 = .ok (.invokevirtual 290, 3) := by decide +kernel
theorem dX11_write_82 : decode cX11_write 82 = .ok (.aload_n 0, 1) := by decide +kernel
theorem dX11_write_83 : decode cX11_write 83 = .ok (.getfield 43, 3) := by decide +kernel
theorem dX11_write_86 : decode cX11_write 86 = .ok (.invokevirtual 281, 3) := by decide +kernel
theorem dX11_write_89 : decode cX11_write 89 = .ok (.ireturn, 1) := by decide +kernel
theorem dX11_writtenAt_0 : decode cX11_writtenAt 0 = .ok (.iload_n 1, 1) := by decide +kernel
theorem dX11_writtenAt_1 : decode cX11_writtenAt 1 = .ok (.ifCond .lt 14, 3) := by decide +kernel
theorem dX11_writtenAt_4 : decode cX11_writtenAt 4 = .ok (.iload_n 1, 1) := by decide +kernel
theorem dX11_writtenAt_5 : decode cX11_writtenAt 5 = .ok (.aload_n 0, 1) := by decide +kernel
theorem dX11_writtenAt_6 : decode cX11_writtenAt 6 = .ok (.getfield 43, 3) := by decide +kernel
theorem dX11_writtenAt_9 : decode cX11_writtenAt 9 = .ok (.invokevirtual 281, 3) := by decide +kernel
theorem dX11_writtenAt_12 : decode cX11_writtenAt 12 = .ok (.if_icmp .lt 11, 3) := by decide +kernel
theorem dX11_writtenAt_15 : decode cX11_writtenAt 15 = .ok (.new 147, 3) := by decide +kernel
theorem dX11_writtenAt_18 : decode cX11_writtenAt 18 = .ok (.dup, 1) := by decide +kernel
theorem dX11_writtenAt_19 : decode cX11_writtenAt 19 = .ok (.invokespecial 149, 3) := by decide +kernel
theorem dX11_writtenAt_22 : decode cX11_writtenAt 22 = .ok (.athrow, 1) := by decide +kernel
theorem dX11_writtenAt_23 : decode cX11_writtenAt 23 = .ok (.aload_n 0, 1) := by decide +kernel
theorem dX11_writtenAt_24 : decode cX11_writtenAt 24 = .ok (.getfield 43, 3) := by decide +kernel
theorem dX11_writtenAt_27 : decode cX11_writtenAt 27 = .ok (.iload_n 1, 1) := by decide +kernel
theorem dX11_writtenAt_28 : decode cX11_writtenAt 28 = .ok (.invokevirtual 293, 3) := by decide +kernel
theorem dX11_writtenAt_31 : decode cX11_writtenAt 31 = .ok (.ireturn, 1) := by decide +kernel
theorem dX11_keep_0 : decode cX11_keep 0 = .ok (.aload_n 0, 1) := by decide +kernel
theorem dX11_keep_1 : decode cX11_keep 1 = .ok (.iload_n 1, 1) := by decide +kernel
theorem dX11_keep_2 : decode cX11_keep 2 = .ok (.invokevirtual 297, 3) := by decide +kernel
theorem dX11_keep_5 : decode cX11_keep 5 = .ok (.ifCond .ne 11, 3) := by decide +kernel
theorem dX11_keep_8 : decode cX11_keep 8 = .ok (.new 103, 3) := by decide +kernel
theorem dX11_keep_11 : decode cX11_keep 11 = .ok (.dup, 1) := by decide +kernel
theorem dX11_keep_12 : decode cX11_keep 12 = .ok (.invokespecial 105, 3) := by decide +kernel
theorem dX11_keep_15 : decode cX11_keep 15 = .ok (.athrow, 1) := by decide +kernel
theorem dX11_keep_16 : decode cX11_keep 16 = .ok (.aload_n 0, 1) := by decide +kernel
theorem dX11_keep_17 : decode cX11_keep 17 = .ok (.getfield 36, 3) := by decide +kernel
theorem dX11_keep_20 : decode cX11_keep 20 = .ok (.iload_n 1, 1) := by decide +kernel
theorem dX11_keep_21 : decode cX11_keep 21 = .ok (.aaload, 1) := by decide +kernel
theorem dX11_keep_22 : decode cX11_keep 22 = .ok (.getfield 258, 3) := by decide +kernel
theorem dX11_keep_25 : decode cX11_keep 25 = .ok (.istore_n 2, 1) := by decide +kernel
theorem dX11_keep_26 : decode cX11_keep 26 = .ok (.aload_n 0, 1) := by decide +kernel
theorem dX11_keep_27 : decode cX11_keep 27 = .ok (.getfield 36, 3) := by decide +kernel
theorem dX11_keep_30 : decode cX11_keep 30 = .ok (.iload_n 1, 1) := by decide +kernel
theorem dX11_keep_31 : decode cX11_keep 31 = .ok (.aload_n 0, 1) := by decide +kernel
theorem dX11_keep_32 : decode cX11_keep 32 = .ok (.getfield 32, 3) := by decide +kernel
theorem dX11_keep_35 : decode cX11_keep 35 = .ok (.aastore, 1) := by decide +kernel
theorem dX11_keep_36 : decode cX11_keep 36 = .ok (.iload_n 2, 1) := by decide +kernel
theorem dX11_keep_37 : decode cX11_keep 37 = .ok (.ireturn, 1) := by decide +kernel
theorem dX11_take_0 : decode cX11_take 0 = .ok (.aload_n 0, 1) := by decide +kernel
theorem dX11_take_1 : decode cX11_take 1 = .ok (.iload_n 1, 1) := by decide +kernel
theorem dX11_take_2 : decode cX11_take 2 = .ok (.invokevirtual 297, 3) := by decide +kernel
theorem dX11_take_5 : decode cX11_take 5 = .ok (.ifCond .ne 11, 3) := by decide +kernel
theorem dX11_take_8 : decode cX11_take 8 = .ok (.new 103, 3) := by decide +kernel
theorem dX11_take_11 : decode cX11_take 11 = .ok (.dup, 1) := by decide +kernel
theorem dX11_take_12 : decode cX11_take 12 = .ok (.invokespecial 105, 3) := by decide +kernel
theorem dX11_take_15 : decode cX11_take 15 = .ok (.athrow, 1) := by decide +kernel
theorem dX11_take_16 : decode cX11_take 16 = .ok (.aload_n 0, 1) := by decide +kernel
theorem dX11_take_17 : decode cX11_take 17 = .ok (.aload_n 0, 1) := by decide +kernel
theorem dX11_take_18 : decode cX11_take 18 = .ok (.getfield 36, 3) := by decide +kernel
theorem dX11_take_21 : decode cX11_take 21 = .ok (.iload_n 1, 1) := by decide +kernel
theorem dX11_take_22 : decode cX11_take 22 = .ok (.aaload, 1) := by decide +kernel
theorem dX11_take_23 : decode cX11_take 23 = .ok (.putfield 32, 3) := by decide +kernel
theorem dX11_take_26 : decode cX11_take 26 = .ok (.aload_n 0, 1) := by decide +kernel
theorem dX11_take_27 : decode cX11_take 27 = .ok (.getfield 32, 3) := by decide +kernel
theorem dX11_take_30 : decode cX11_take 30 = .ok (.getfield 258, 3) := by decide +kernel
theorem dX11_take_33 : decode cX11_take 33 = .ok (.ireturn, 1) := by decide +kernel
theorem dX11_compare_0 : decode cX11_compare 0 = .ok (.aload_n 0, 1) := by decide +kernel
theorem dX11_compare_1 : decode cX11_compare 1 = .ok (.iload_n 1, 1) := by decide +kernel
theorem dX11_compare_2 : decode cX11_compare 2 = .ok (.invokevirtual 297, 3) := by decide +kernel
theorem dX11_compare_5 : decode cX11_compare 5 = .ok (.ifCond .eq 11, 3) := by decide +kernel
theorem dX11_compare_8 : decode cX11_compare 8 = .ok (.aload_n 0, 1) := by decide +kernel
theorem dX11_compare_9 : decode cX11_compare 9 = .ok (.iload_n 2, 1) := by decide +kernel
theorem dX11_compare_10 : decode cX11_compare 10 = .ok (.invokevirtual 297, 3) := by decide +kernel
theorem dX11_compare_13 : decode cX11_compare 13 = .ok (.ifCond .ne 11, 3) := by decide +kernel
theorem dX11_compare_16 : decode cX11_compare 16 = .ok (.new 103, 3) := by decide +kernel
theorem dX11_compare_19 : decode cX11_compare 19 = .ok (.dup, 1) := by decide +kernel
theorem dX11_compare_20 : decode cX11_compare 20 = .ok (.invokespecial 105, 3) := by decide +kernel
theorem dX11_compare_23 : decode cX11_compare 23 = .ok (.athrow, 1) := by decide +kernel
theorem dX11_compare_24 : decode cX11_compare 24 = .ok (.aload_n 0, 1) := by decide +kernel
theorem dX11_compare_25 : decode cX11_compare 25 = .ok (.getfield 66, 3) := by decide +kernel
theorem dX11_compare_28 : decode cX11_compare 28 = .ok (.aload_n 0, 1) := by decide +kernel
theorem dX11_compare_29 : decode cX11_compare 29 = .ok (.getfield 36, 3) := by decide +kernel
theorem dX11_compare_32 : decode cX11_compare 32 = .ok (.iload_n 1, 1) := by decide +kernel
theorem dX11_compare_33 : decode cX11_compare 33 = .ok (.aaload, 1) := by decide +kernel
theorem dX11_compare_34 : decode cX11_compare 34 = .ok (.aload_n 0, 1) := by decide +kernel
theorem dX11_compare_35 : decode cX11_compare 35 = .ok (.getfield 36, 3) := by decide +kernel
theorem dX11_compare_38 : decode cX11_compare 38 = .ok (.iload_n 2, 1) := by decide +kernel
theorem dX11_compare_39 : decode cX11_compare 39 = .ok (.aaload, 1) := by decide +kernel
theorem dX11_compare_40 : decode cX11_compare 40 = .ok (.invokevirtual 300, 3) := by decide +kernel
theorem dX11_compare_43 : decode cX11_compare 43 = .ok (.ireturn, 1) := by decide +kernel
theorem dX11_isSlot_0 : decode cX11_isSlot 0 = .ok (.iload_n 1, 1) := by decide +kernel
theorem dX11_isSlot_1 : decode cX11_isSlot 1 = .ok (.ifCond .lt 16, 3) := by decide +kernel
theorem dX11_isSlot_4 : decode cX11_isSlot 4 = .ok (.iload_n 1, 1) := by decide +kernel
theorem dX11_isSlot_5 : decode cX11_isSlot 5 = .ok (.aload_n 0, 1) := by decide +kernel
theorem dX11_isSlot_6 : decode cX11_isSlot 6 = .ok (.getfield 36, 3) := by decide +kernel
theorem dX11_isSlot_9 : decode cX11_isSlot 9 = .ok (.arraylength, 1) := by decide +kernel
theorem dX11_isSlot_10 : decode cX11_isSlot 10 = .ok (.if_icmp .ge 7, 3) := by decide +kernel
theorem dX11_isSlot_13 : decode cX11_isSlot 13 = .ok (.iconst 1, 1) := by decide +kernel
theorem dX11_isSlot_14 : decode cX11_isSlot 14 = .ok (.goto 4, 3) := by decide +kernel
theorem dX11_isSlot_17 : decode cX11_isSlot 17 = .ok (.iconst 0, 1) := by decide +kernel
theorem dX11_isSlot_18 : decode cX11_isSlot 18 = .ok (.ireturn, 1) := by decide +kernel
theorem dX11_partOfAnswer_0 : decode cX11_partOfAnswer 0 = .ok (.iload_n 1, 1) := by decide +kernel
theorem dX11_partOfAnswer_1 : decode cX11_partOfAnswer 1 = .ok (.ifCond .eq 13, 3) := by decide +kernel
theorem dX11_partOfAnswer_4 : decode cX11_partOfAnswer 4 = .ok (.aload_n 0, 1) := by decide +kernel
theorem dX11_partOfAnswer_5 : decode cX11_partOfAnswer 5 = .ok (.getfield 32, 3) := by decide +kernel
theorem dX11_partOfAnswer_8 : decode cX11_partOfAnswer 8 = .ok (.getfield 304, 3) := by decide +kernel
theorem dX11_partOfAnswer_11 : decode cX11_partOfAnswer 11 = .ok (.goto 10, 3) := by decide +kernel
theorem dX11_partOfAnswer_14 : decode cX11_partOfAnswer 14 = .ok (.aload_n 0, 1) := by decide +kernel
theorem dX11_partOfAnswer_15 : decode cX11_partOfAnswer 15 = .ok (.getfield 32, 3) := by decide +kernel
theorem dX11_partOfAnswer_18 : decode cX11_partOfAnswer 18 = .ok (.getfield 308, 3) := by decide +kernel
theorem dX11_partOfAnswer_21 : decode cX11_partOfAnswer 21 = .ok (.areturn, 1) := by decide +kernel
theorem dX11_takeCopy_0 : decode cX11_takeCopy 0 = .ok (.aload_n 0, 1) := by decide +kernel
theorem dX11_takeCopy_1 : decode cX11_takeCopy 1 = .ok (.new 29, 3) := by decide +kernel
theorem dX11_takeCopy_4 : decode cX11_takeCopy 4 = .ok (.dup, 1) := by decide +kernel
theorem dX11_takeCopy_5 : decode cX11_takeCopy 5 = .ok (.aload_n 1, 1) := by decide +kernel
theorem dX11_takeCopy_6 : decode cX11_takeCopy 6 = .ok (.invokespecial 122, 3) := by decide +kernel
theorem dX11_takeCopy_9 : decode cX11_takeCopy 9 = .ok (.putfield 32, 3) := by decide +kernel
theorem dX11_takeCopy_12 : decode cX11_takeCopy 12 = .ok (.aload_n 0, 1) := by decide +kernel
theorem dX11_takeCopy_13 : decode cX11_takeCopy 13 = .ok (.getfield 32, 3) := by decide +kernel
theorem dX11_takeCopy_16 : decode cX11_takeCopy 16 = .ok (.getfield 258, 3) := by decide +kernel
theorem dX11_takeCopy_19 : decode cX11_takeCopy 19 = .ok (.ireturn, 1) := by decide +kernel
theorem dX11_writeDigits_0 : decode cX11_writeDigits 0 = .ok (.aload_n 0, 1) := by decide +kernel
theorem dX11_writeDigits_1 : decode cX11_writeDigits 1 = .ok (.invokevirtual 265, 3) := by decide +kernel
theorem dX11_writeDigits_4 : decode cX11_writeDigits 4 = .ok (.istore_n 2, 1) := by decide +kernel
theorem dX11_writeDigits_5 : decode cX11_writeDigits 5 = .ok (.iconst 0, 1) := by decide +kernel
theorem dX11_writeDigits_6 : decode cX11_writeDigits 6 = .ok (.istore_n 3, 1) := by decide +kernel
theorem dX11_writeDigits_7 : decode cX11_writeDigits 7 = .ok (.iload_n 3, 1) := by decide +kernel
theorem dX11_writeDigits_8 : decode cX11_writeDigits 8 = .ok (.iload_n 2, 1) := by decide +kernel
theorem dX11_writeDigits_9 : decode cX11_writeDigits 9 = .ok (.if_icmp .ge 23, 3) := by decide +kernel
theorem dX11_writeDigits_12 : decode cX11_writeDigits 12 = .ok (.aload_n 1, 1) := by decide +kernel
theorem dX11_writeDigits_13 : decode cX11_writeDigits 13 = .ok (.bipush 48, 2) := by decide +kernel
theorem dX11_writeDigits_15 : decode cX11_writeDigits 15 = .ok (.aload_n 0, 1) := by decide +kernel
theorem dX11_writeDigits_16 : decode cX11_writeDigits 16 = .ok (.iload_n 3, 1) := by decide +kernel
theorem dX11_writeDigits_17 : decode cX11_writeDigits 17 = .ok (.invokevirtual 271, 3) := by decide +kernel
theorem dX11_writeDigits_20 : decode cX11_writeDigits 20 = .ok (.iadd, 1) := by decide +kernel
theorem dX11_writeDigits_21 : decode cX11_writeDigits 21 = .ok (.i2c, 1) := by decide +kernel
theorem dX11_writeDigits_22 : decode cX11_writeDigits 22 = .ok (.invokevirtual 311, 3) := by decide +kernel
theorem dX11_writeDigits_25 : decode cX11_writeDigits 25 = .ok (.pop, 1) := by decide +kernel
theorem dX11_writeDigits_26 : decode cX11_writeDigits 26 = .ok (.iinc 3 1, 3) := by decide +kernel
theorem dX11_writeDigits_29 : decode cX11_writeDigits 29 = .ok (.goto (-22), 3) := by decide +kernel
theorem dX11_writeDigits_32 : decode cX11_writeDigits 32 = .ok (.return_, 1) := by decide +kernel
theorem dX11_writeFraction_0 : decode cX11_writeFraction 0 = .ok (.aload_n 0, 1) := by decide +kernel
theorem dX11_writeFraction_1 : decode cX11_writeFraction 1 = .ok (.getfield 258, 3) := by decide +kernel
theorem dX11_writeFraction_4 : decode cX11_writeFraction 4 = .ok (.ifCond .ge 10, 3) := by decide +kernel
theorem dX11_writeFraction_7 : decode cX11_writeFraction 7 = .ok (.aload_n 1, 1) := by decide +kernel
theorem dX11_writeFraction_8 : decode cX11_writeFraction 8 = .ok (.bipush 45, 2) := by decide +kernel
theorem dX11_writeFraction_10 : decode cX11_writeFraction 10 = .ok (.invokevirtual 311, 3) := by decide +kernel
theorem dX11_writeFraction_13 : decode cX11_writeFraction 13 = .ok (.pop, 1) := by decide +kernel
theorem dX11_writeFraction_14 : decode cX11_writeFraction 14 = .ok (.aload_n 0, 1) := by decide +kernel
theorem dX11_writeFraction_15 : decode cX11_writeFraction 15 = .ok (.getfield 308, 3) := by decide +kernel
theorem dX11_writeFraction_18 : decode cX11_writeFraction 18 = .ok (.aload_n 1, 1) := by decide +kernel
theorem dX11_writeFraction_19 : decode cX11_writeFraction 19 = .ok (.invokestatic 315, 3) := by decide +kernel
theorem dX11_writeFraction_22 : decode cX11_writeFraction 22 = .ok (.aload_n 0, 1) := by decide +kernel
theorem dX11_writeFraction_23 : decode cX11_writeFraction 23 = .ok (.invokevirtual 319, 3) := by decide +kernel
theorem dX11_writeFraction_26 : decode cX11_writeFraction 26 = .ok (.ifCond .ne 18, 3) := by decide +kernel
theorem dX11_writeFraction_29 : decode cX11_writeFraction 29 = .ok (.aload_n 1, 1) := by decide +kernel
theorem dX11_writeFraction_30 : decode cX11_writeFraction 30 = .ok (.bipush 47, 2) := by decide +kernel
theorem dX11_writeFraction_32 : decode cX11_writeFraction 32 = .ok (.invokevirtual 311, 3) := by decide +kernel
theorem dX11_writeFraction_35 : decode cX11_writeFraction 35 = .ok (.pop, 1) := by decide +kernel
theorem dX11_writeFraction_36 : decode cX11_writeFraction 36 = .ok (.aload_n 0, 1) := by decide +kernel
theorem dX11_writeFraction_37 : decode cX11_writeFraction 37 = .ok (.getfield 304, 3) := by decide +kernel
theorem dX11_writeFraction_40 : decode cX11_writeFraction 40 = .ok (.aload_n 1, 1) := by decide +kernel
theorem dX11_writeFraction_41 : decode cX11_writeFraction 41 = .ok (.invokestatic 315, 3) := by decide +kernel
theorem dX11_writeFraction_44 : decode cX11_writeFraction 44 = .ok (.return_, 1) := by decide +kernel
theorem dX11_writeDecimals_0 : decode cX11_writeDecimals 0 = .ok (.aload_n 0, 1) := by decide +kernel
theorem dX11_writeDecimals_1 : decode cX11_writeDecimals 1 = .ok (.getfield 32, 3) := by decide +kernel
theorem dX11_writeDecimals_4 : decode cX11_writeDecimals 4 = .ok (.getfield 258, 3) := by decide +kernel
theorem dX11_writeDecimals_7 : decode cX11_writeDecimals 7 = .ok (.ifCond .ge 13, 3) := by decide +kernel
theorem dX11_writeDecimals_10 : decode cX11_writeDecimals 10 = .ok (.aload_n 0, 1) := by decide +kernel
theorem dX11_writeDecimals_11 : decode cX11_writeDecimals 11 = .ok (.getfield 43, 3) := by decide +kernel
theorem dX11_writeDecimals_14 : decode cX11_writeDecimals 14 = .ok (.bipush 45, 2) := by decide +kernel
theorem dX11_writeDecimals_16 : decode cX11_writeDecimals 16 = .ok (.invokevirtual 311, 3) := by decide +kernel
theorem dX11_writeDecimals_19 : decode cX11_writeDecimals 19 = .ok (.pop, 1) := by decide +kernel
theorem dX11_writeDecimals_20 : decode cX11_writeDecimals 20 = .ok (.aload_n 0, 1) := by decide +kernel
theorem dX11_writeDecimals_21 : decode cX11_writeDecimals 21 = .ok (.getfield 66, 3) := by decide +kernel
theorem dX11_writeDecimals_24 : decode cX11_writeDecimals 24 = .ok (.aload_n 0, 1) := by decide +kernel
theorem dX11_writeDecimals_25 : decode cX11_writeDecimals 25 = .ok (.getfield 32, 3) := by decide +kernel
theorem dX11_writeDecimals_28 : decode cX11_writeDecimals 28 = .ok (.invokevirtual 322, 3) := by decide +kernel
theorem dX11_writeDecimals_31 : decode cX11_writeDecimals 31 = .ok (.aload_n 0, 1) := by decide +kernel
theorem dX11_writeDecimals_32 : decode cX11_writeDecimals 32 = .ok (.getfield 43, 3) := by decide +kernel
theorem dX11_writeDecimals_35 : decode cX11_writeDecimals 35 = .ok (.invokestatic 315, 3) := by decide +kernel
theorem dX11_writeDecimals_38 : decode cX11_writeDecimals 38 = .ok (.iload_n 1, 1) := by decide +kernel
theorem dX11_writeDecimals_39 : decode cX11_writeDecimals 39 = .ok (.iload_n 2, 1) := by decide +kernel
theorem dX11_writeDecimals_40 : decode cX11_writeDecimals 40 = .ok (.iadd, 1) := by decide +kernel
theorem dX11_writeDecimals_41 : decode cX11_writeDecimals 41 = .ok (.ifCond .le 13, 3) := by decide +kernel
theorem dX11_writeDecimals_44 : decode cX11_writeDecimals 44 = .ok (.aload_n 0, 1) := by decide +kernel
theorem dX11_writeDecimals_45 : decode cX11_writeDecimals 45 = .ok (.getfield 43, 3) := by decide +kernel
theorem dX11_writeDecimals_48 : decode cX11_writeDecimals 48 = .ok (.bipush 46, 2) := by decide +kernel
theorem dX11_writeDecimals_50 : decode cX11_writeDecimals 50 = .ok (.invokevirtual 311, 3) := by decide +kernel
theorem dX11_writeDecimals_53 : decode cX11_writeDecimals 53 = .ok (.pop, 1) := by decide +kernel
theorem dX11_writeDecimals_54 : decode cX11_writeDecimals 54 = .ok (.iconst 0, 1) := by decide +kernel
theorem dX11_writeDecimals_55 : decode cX11_writeDecimals 55 = .ok (.istore_n 3, 1) := by decide +kernel
theorem dX11_writeDecimals_56 : decode cX11_writeDecimals 56 = .ok (.iload_n 3, 1) := by decide +kernel
theorem dX11_writeDecimals_57 : decode cX11_writeDecimals 57 = .ok (.iload_n 1, 1) := by decide +kernel
theorem dX11_writeDecimals_58 : decode cX11_writeDecimals 58 = .ok (.iload_n 2, 1) := by decide +kernel
theorem dX11_writeDecimals_59 : decode cX11_writeDecimals 59 = .ok (.iadd, 1) := by decide +kernel
theorem dX11_writeDecimals_60 : decode cX11_writeDecimals 60 = .ok (.if_icmp .ge 48, 3) := by decide +kernel
theorem dX11_writeDecimals_63 : decode cX11_writeDecimals 63 = .ok (.iload_n 3, 1) := by decide +kernel
theorem dX11_writeDecimals_64 : decode cX11_writeDecimals 64 = .ok (.iload_n 1, 1) := by decide +kernel
theorem dX11_writeDecimals_65 : decode cX11_writeDecimals 65 = .ok (.if_icmp .ne 13, 3) := by decide +kernel
theorem dX11_writeDecimals_68 : decode cX11_writeDecimals 68 = .ok (.aload_n 0, 1) := by decide +kernel
theorem dX11_writeDecimals_69 : decode cX11_writeDecimals 69 = .ok (.getfield 43, 3) := by decide +kernel
theorem dX11_writeDecimals_72 : decode cX11_writeDecimals 72 = .ok (.bipush 91, 2) := by decide +kernel
theorem dX11_writeDecimals_74 : decode cX11_writeDecimals 74 = .ok (.invokevirtual 311, 3) := by decide +kernel
theorem dX11_writeDecimals_77 : decode cX11_writeDecimals 77 = .ok (.pop, 1) := by decide +kernel
theorem dX11_writeDecimals_78 : decode cX11_writeDecimals 78 = .ok (.aload_n 0, 1) := by decide +kernel
theorem dX11_writeDecimals_79 : decode cX11_writeDecimals 79 = .ok (.getfield 43, 3) := by decide +kernel
theorem dX11_writeDecimals_82 : decode cX11_writeDecimals 82 = .ok (.bipush 48, 2) := by decide +kernel
theorem dX11_writeDecimals_84 : decode cX11_writeDecimals 84 = .ok (.aload_n 0, 1) := by decide +kernel
theorem dX11_writeDecimals_85 : decode cX11_writeDecimals 85 = .ok (.getfield 66, 3) := by decide +kernel
theorem dX11_writeDecimals_88 : decode cX11_writeDecimals 88 = .ok (.aload_n 0, 1) := by decide +kernel
theorem dX11_writeDecimals_89 : decode cX11_writeDecimals 89 = .ok (.getfield 32, 3) := by decide +kernel
theorem dX11_writeDecimals_92 : decode cX11_writeDecimals 92 = .ok (.iconst 1, 1) := by decide +kernel
theorem dX11_writeDecimals_93 : decode cX11_writeDecimals 93 = .ok (.invokevirtual 326, 3) := by decide +kernel
theorem dX11_writeDecimals_96 : decode cX11_writeDecimals 96 = .ok (.iadd, 1) := by decide +kernel
theorem dX11_writeDecimals_97 : decode cX11_writeDecimals 97 = .ok (.i2c, 1) := by decide +kernel
theorem dX11_writeDecimals_98 : decode cX11_writeDecimals 98 = .ok (.invokevirtual 311, 3) := by decide +kernel
theorem dX11_writeDecimals_101 : decode cX11_writeDecimals 101 = .ok (.pop, 1) := by decide +kernel
theorem dX11_writeDecimals_102 : decode cX11_writeDecimals 102 = .ok (.iinc 3 1, 3) := by decide +kernel
theorem dX11_writeDecimals_105 : decode cX11_writeDecimals 105 = .ok (.goto (-49), 3) := by decide +kernel
theorem dX11_writeDecimals_108 : decode cX11_writeDecimals 108 = .ok (.iload_n 2, 1) := by decide +kernel
theorem dX11_writeDecimals_109 : decode cX11_writeDecimals 109 = .ok (.ifCond .le 13, 3) := by decide +kernel
theorem dX11_writeDecimals_112 : decode cX11_writeDecimals 112 = .ok (.aload_n 0, 1) := by decide +kernel
theorem dX11_writeDecimals_113 : decode cX11_writeDecimals 113 = .ok (.getfield 43, 3) := by decide +kernel
theorem dX11_writeDecimals_116 : decode cX11_writeDecimals 116 = .ok (.bipush 93, 2) := by decide +kernel
theorem dX11_writeDecimals_118 : decode cX11_writeDecimals 118 = .ok (.invokevirtual 311, 3) := by decide +kernel
theorem dX11_writeDecimals_121 : decode cX11_writeDecimals 121 = .ok (.pop, 1) := by decide +kernel
theorem dX11_writeDecimals_122 : decode cX11_writeDecimals 122 = .ok (.return_, 1) := by decide +kernel
theorem dX11_names_0 : decode cX11_names 0 = .ok (.aload_n 0, 1) := by decide +kernel
theorem dX11_names_1 : decode cX11_names 1 = .ok (.invokevirtual 129, 3) := by decide +kernel
theorem dX11_names_4 : decode cX11_names 4 = .ok (.getfield 150, 3) := by decide +kernel
theorem dX11_names_7 : decode cX11_names 7 = .ok (.getfield 214, 3) := by decide +kernel
theorem dX11_names_10 : decode cX11_names 10 = .ok (.arraylength, 1) := by decide +kernel
theorem dX11_names_11 : decode cX11_names 11 = .ok (.ireturn, 1) := by decide +kernel
theorem dX11_nameAt_0 : decode cX11_nameAt 0 = .ok (.aload_n 0, 1) := by decide +kernel
theorem dX11_nameAt_1 : decode cX11_nameAt 1 = .ok (.invokevirtual 129, 3) := by decide +kernel
theorem dX11_nameAt_4 : decode cX11_nameAt 4 = .ok (.getfield 150, 3) := by decide +kernel
theorem dX11_nameAt_7 : decode cX11_nameAt 7 = .ok (.getfield 214, 3) := by decide +kernel
theorem dX11_nameAt_10 : decode cX11_nameAt 10 = .ok (.astore_n 2, 1) := by decide +kernel
theorem dX11_nameAt_11 : decode cX11_nameAt 11 = .ok (.iload_n 1, 1) := by decide +kernel
theorem dX11_nameAt_12 : decode cX11_nameAt 12 = .ok (.ifCond .lt 9, 3) := by decide +kernel
theorem dX11_nameAt_15 : decode cX11_nameAt 15 = .ok (.iload_n 1, 1) := by decide +kernel
theorem dX11_nameAt_16 : decode cX11_nameAt 16 = .ok (.aload_n 2, 1) := by decide +kernel
theorem dX11_nameAt_17 : decode cX11_nameAt 17 = .ok (.arraylength, 1) := by decide +kernel
theorem dX11_nameAt_18 : decode cX11_nameAt 18 = .ok (.if_icmp .lt 11, 3) := by decide +kernel
theorem dX11_nameAt_21 : decode cX11_nameAt 21 = .ok (.new 147, 3) := by decide +kernel
theorem dX11_nameAt_24 : decode cX11_nameAt 24 = .ok (.dup, 1) := by decide +kernel
theorem dX11_nameAt_25 : decode cX11_nameAt 25 = .ok (.invokespecial 149, 3) := by decide +kernel
theorem dX11_nameAt_28 : decode cX11_nameAt 28 = .ok (.athrow, 1) := by decide +kernel
theorem dX11_nameAt_29 : decode cX11_nameAt 29 = .ok (.aload_n 2, 1) := by decide +kernel
theorem dX11_nameAt_30 : decode cX11_nameAt 30 = .ok (.iload_n 1, 1) := by decide +kernel
theorem dX11_nameAt_31 : decode cX11_nameAt 31 = .ok (.aaload, 1) := by decide +kernel
theorem dX11_nameAt_32 : decode cX11_nameAt 32 = .ok (.getfield 246, 3) := by decide +kernel
theorem dX11_nameAt_35 : decode cX11_nameAt 35 = .ok (.ireturn, 1) := by decide +kernel
theorem dX11_takeName_0 : decode cX11_takeName 0 = .ok (.aload_n 0, 1) := by decide +kernel
theorem dX11_takeName_1 : decode cX11_takeName 1 = .ok (.invokevirtual 129, 3) := by decide +kernel
theorem dX11_takeName_4 : decode cX11_takeName 4 = .ok (.getfield 150, 3) := by decide +kernel
theorem dX11_takeName_7 : decode cX11_takeName 7 = .ok (.aload_n 0, 1) := by decide +kernel
theorem dX11_takeName_8 : decode cX11_takeName 8 = .ok (.invokevirtual 129, 3) := by decide +kernel
theorem dX11_takeName_11 : decode cX11_takeName 11 = .ok (.getfield 150, 3) := by decide +kernel
theorem dX11_takeName_14 : decode cX11_takeName 14 = .ok (.iload_n 1, 1) := by decide +kernel
theorem dX11_takeName_15 : decode cX11_takeName 15 = .ok (.iconst 0, 1) := by decide +kernel
theorem dX11_takeName_16 : decode cX11_takeName 16 = .ok (.invokevirtual 171, 3) := by decide +kernel
theorem dX11_takeName_19 : decode cX11_takeName 19 = .ok (.invokevirtual 253, 3) := by decide +kernel
theorem dX11_takeName_22 : decode cX11_takeName 22 = .ok (.astore_n 2, 1) := by decide +kernel
theorem dX11_takeName_23 : decode cX11_takeName 23 = .ok (.aload_n 2, 1) := by decide +kernel
theorem dX11_takeName_24 : decode cX11_takeName 24 = .ok (.ifnull 10, 3) := by decide +kernel
theorem dX11_takeName_27 : decode cX11_takeName 27 = .ok (.aload_n 2, 1) := by decide +kernel
theorem dX11_takeName_28 : decode cX11_takeName 28 = .ok (.getfield 330, 3) := by decide +kernel
theorem dX11_takeName_31 : decode cX11_takeName 31 = .ok (.ifnonnull 11, 3) := by decide +kernel
theorem dX11_takeName_34 : decode cX11_takeName 34 = .ok (.new 333, 3) := by decide +kernel
theorem dX11_takeName_37 : decode cX11_takeName 37 = .ok (.dup, 1) := by decide +kernel
theorem dX11_takeName_38 : decode cX11_takeName 38 = .ok (.invokespecial 335, 3) := by decide +kernel
theorem dX11_takeName_41 : decode cX11_takeName 41 = .ok (.athrow, 1) := by decide +kernel
theorem dX11_takeName_42 : decode cX11_takeName 42 = .ok (.aload_n 0, 1) := by decide +kernel
theorem dX11_takeName_43 : decode cX11_takeName 43 = .ok (.aload_n 2, 1) := by decide +kernel
theorem dX11_takeName_44 : decode cX11_takeName 44 = .ok (.getfield 330, 3) := by decide +kernel
theorem dX11_takeName_47 : decode cX11_takeName 47 = .ok (.putfield 32, 3) := by decide +kernel
theorem dX11_takeName_50 : decode cX11_takeName 50 = .ok (.aload_n 0, 1) := by decide +kernel
theorem dX11_takeName_51 : decode cX11_takeName 51 = .ok (.getfield 32, 3) := by decide +kernel
theorem dX11_takeName_54 : decode cX11_takeName 54 = .ok (.getfield 258, 3) := by decide +kernel
theorem dX11_takeName_57 : decode cX11_takeName 57 = .ok (.ireturn, 1) := by decide +kernel
theorem dX11_stepOf_0 : decode cX11_stepOf 0 = .ok (.iconst 0, 1) := by decide +kernel
theorem dX11_stepOf_1 : decode cX11_stepOf 1 = .ok (.istore_n 1, 1) := by decide +kernel
theorem dX11_stepOf_2 : decode cX11_stepOf 2 = .ok (.iload_n 1, 1) := by decide +kernel
theorem dX11_stepOf_3 : decode cX11_stepOf 3 = .ok (.getstatic 349, 3) := by decide +kernel
theorem dX11_stepOf_6 : decode cX11_stepOf 6 = .ok (.arraylength, 1) := by decide +kernel
theorem dX11_stepOf_7 : decode cX11_stepOf 7 = .ok (.if_icmp .ge 23, 3) := by decide +kernel
theorem dX11_stepOf_10 : decode cX11_stepOf 10 = .ok (.getstatic 349, 3) := by decide +kernel
theorem dX11_stepOf_13 : decode cX11_stepOf 13 = .ok (.iload_n 1, 1) := by decide +kernel
theorem dX11_stepOf_14 : decode cX11_stepOf 14 = .ok (.iaload, 1) := by decide +kernel
theorem dX11_stepOf_15 : decode cX11_stepOf 15 = .ok (.iload_n 0, 1) := by decide +kernel
theorem dX11_stepOf_16 : decode cX11_stepOf 16 = .ok (.if_icmp .ne 8, 3) := by decide +kernel
theorem dX11_stepOf_19 : decode cX11_stepOf 19 = .ok (.bipush 10, 2) := by decide +kernel
theorem dX11_stepOf_21 : decode cX11_stepOf 21 = .ok (.iload_n 1, 1) := by decide +kernel
theorem dX11_stepOf_22 : decode cX11_stepOf 22 = .ok (.iadd, 1) := by decide +kernel
theorem dX11_stepOf_23 : decode cX11_stepOf 23 = .ok (.ireturn, 1) := by decide +kernel
theorem dX11_stepOf_24 : decode cX11_stepOf 24 = .ok (.iinc 1 1, 3) := by decide +kernel
theorem dX11_stepOf_27 : decode cX11_stepOf 27 = .ok (.goto (-25), 3) := by decide +kernel
theorem dX11_stepOf_30 : decode cX11_stepOf 30 = .ok (.iconst 0, 1) := by decide +kernel
theorem dX11_stepOf_31 : decode cX11_stepOf 31 = .ok (.ireturn, 1) := by decide +kernel
theorem dX11_valuesOf_0 : decode cX11_valuesOf 0 = .ok (.iload_n 0, 1) := by decide +kernel
theorem dX11_valuesOf_1 : decode cX11_valuesOf 1 = .ok (.tableswitch 65 7 18 #[63, 63, 65, 65, 65, 63, 63, 63, 63, 65, 63, 63], 63) := by decide +kernel
theorem dX11_valuesOf_64 : decode cX11_valuesOf 64 = .ok (.iconst 1, 1) := by decide +kernel
theorem dX11_valuesOf_65 : decode cX11_valuesOf 65 = .ok (.ireturn, 1) := by decide +kernel
theorem dX11_valuesOf_66 : decode cX11_valuesOf 66 = .ok (.iconst 2, 1) := by decide +kernel
theorem dX11_valuesOf_67 : decode cX11_valuesOf 67 = .ok (.ireturn, 1) := by decide +kernel
theorem dX11_steps_0 : decode cX11_steps 0 = .ok (.aload_n 0, 1) := by decide +kernel
theorem dX11_steps_1 : decode cX11_steps 1 = .ok (.getfield 50, 3) := by decide +kernel
theorem dX11_steps_4 : decode cX11_steps 4 = .ok (.getfield 227, 3) := by decide +kernel
theorem dX11_steps_7 : decode cX11_steps 7 = .ok (.ireturn, 1) := by decide +kernel
theorem dX11_takeStep_0 : decode cX11_takeStep 0 = .ok (.iload_n 1, 1) := by decide +kernel
theorem dX11_takeStep_1 : decode cX11_takeStep 1 = .ok (.ifCond .lt 26, 3) := by decide +kernel
theorem dX11_takeStep_4 : decode cX11_takeStep 4 = .ok (.iload_n 1, 1) := by decide +kernel
theorem dX11_takeStep_5 : decode cX11_takeStep 5 = .ok (.aload_n 0, 1) := by decide +kernel
theorem dX11_takeStep_6 : decode cX11_takeStep 6 = .ok (.getfield 50, 3) := by decide +kernel
theorem dX11_takeStep_9 : decode cX11_takeStep 9 = .ok (.getfield 227, 3) := by decide +kernel
theorem dX11_takeStep_12 : decode cX11_takeStep 12 = .ok (.if_icmp .ge 15, 3) := by decide +kernel
theorem dX11_takeStep_15 : decode cX11_takeStep 15 = .ok (.iload_n 1, 1) := by decide +kernel
theorem dX11_takeStep_16 : decode cX11_takeStep 16 = .ok (.aload_n 0, 1) := by decide +kernel
theorem dX11_takeStep_17 : decode cX11_takeStep 17 = .ok (.getfield 50, 3) := by decide +kernel
theorem dX11_takeStep_20 : decode cX11_takeStep 20 = .ok (.getfield 355, 3) := by decide +kernel
theorem dX11_takeStep_23 : decode cX11_takeStep 23 = .ok (.arraylength, 1) := by decide +kernel
theorem dX11_takeStep_24 : decode cX11_takeStep 24 = .ok (.if_icmp .lt 11, 3) := by decide +kernel
theorem dX11_takeStep_27 : decode cX11_takeStep 27 = .ok (.new 147, 3) := by decide +kernel
theorem dX11_takeStep_30 : decode cX11_takeStep 30 = .ok (.dup, 1) := by decide +kernel
theorem dX11_takeStep_31 : decode cX11_takeStep 31 = .ok (.invokespecial 149, 3) := by decide +kernel
theorem dX11_takeStep_34 : decode cX11_takeStep 34 = .ok (.athrow, 1) := by decide +kernel
theorem dX11_takeStep_35 : decode cX11_takeStep 35 = .ok (.aload_n 0, 1) := by decide +kernel
theorem dX11_takeStep_36 : decode cX11_takeStep 36 = .ok (.aload_n 0, 1) := by decide +kernel
theorem dX11_takeStep_37 : decode cX11_takeStep 37 = .ok (.getfield 50, 3) := by decide +kernel
theorem dX11_takeStep_40 : decode cX11_takeStep 40 = .ok (.getfield 355, 3) := by decide +kernel
theorem dX11_takeStep_43 : decode cX11_takeStep 43 = .ok (.iload_n 1, 1) := by decide +kernel
theorem dX11_takeStep_44 : decode cX11_takeStep 44 = .ok (.aaload, 1) := by decide +kernel
theorem dX11_takeStep_45 : decode cX11_takeStep 45 = .ok (.invokevirtual 358, 3) := by decide +kernel
theorem dX11_takeStep_48 : decode cX11_takeStep 48 = .ok (.ireturn, 1) := by decide +kernel
theorem dX11_ends_0 : decode cX11_ends 0 = .ok (.aload_n 0, 1) := by decide +kernel
theorem dX11_ends_1 : decode cX11_ends 1 = .ok (.getfield 66, 3) := by decide +kernel
theorem dX11_ends_4 : decode cX11_ends 4 = .ok (.aload_n 0, 1) := by decide +kernel
theorem dX11_ends_5 : decode cX11_ends 5 = .ok (.getfield 32, 3) := by decide +kernel
theorem dX11_ends_8 : decode cX11_ends 8 = .ok (.invokevirtual 283, 3) := by decide +kernel
theorem dX11_ends_11 : decode cX11_ends 11 = .ok (.pop, 1) := by decide +kernel
theorem dX11_ends_12 : decode cX11_ends 12 = .ok (.aload_n 0, 1) := by decide +kernel
theorem dX11_ends_13 : decode cX11_ends 13 = .ok (.getfield 66, 3) := by decide +kernel
theorem dX11_ends_16 : decode cX11_ends 16 = .ok (.iconst 1, 1) := by decide +kernel
theorem dX11_ends_17 : decode cX11_ends 17 = .ok (.invokevirtual 287, 3) := by decide +kernel
theorem dX11_ends_20 : decode cX11_ends 20 = .ok (.ifCond .ne 7, 3) := by decide +kernel
theorem dX11_ends_23 : decode cX11_ends 23 = .ok (.iconst 1, 1) := by decide +kernel
theorem dX11_ends_24 : decode cX11_ends 24 = .ok (.goto 4, 3) := by decide +kernel
theorem dX11_ends_27 : decode cX11_ends 27 = .ok (.iconst 0, 1) := by decide +kernel
theorem dX11_ends_28 : decode cX11_ends 28 = .ok (.ireturn, 1) := by decide +kernel
theorem dX11_ahead_0 : decode cX11_ahead 0 = .ok (.aload_n 0, 1) := by decide +kernel
theorem dX11_ahead_1 : decode cX11_ahead 1 = .ok (.getfield 66, 3) := by decide +kernel
theorem dX11_ahead_4 : decode cX11_ahead 4 = .ok (.aload_n 0, 1) := by decide +kernel
theorem dX11_ahead_5 : decode cX11_ahead 5 = .ok (.getfield 32, 3) := by decide +kernel
theorem dX11_ahead_8 : decode cX11_ahead 8 = .ok (.invokevirtual 283, 3) := by decide +kernel
theorem dX11_ahead_11 : decode cX11_ahead 11 = .ok (.ireturn, 1) := by decide +kernel
theorem dX11_repeating_0 : decode cX11_repeating 0 = .ok (.aload_n 0, 1) := by decide +kernel
theorem dX11_repeating_1 : decode cX11_repeating 1 = .ok (.getfield 66, 3) := by decide +kernel
theorem dX11_repeating_4 : decode cX11_repeating 4 = .ok (.aload_n 0, 1) := by decide +kernel
theorem dX11_repeating_5 : decode cX11_repeating 5 = .ok (.getfield 32, 3) := by decide +kernel
theorem dX11_repeating_8 : decode cX11_repeating 8 = .ok (.invokevirtual 283, 3) := by decide +kernel
theorem dX11_repeating_11 : decode cX11_repeating 11 = .ok (.pop, 1) := by decide +kernel
theorem dX11_repeating_12 : decode cX11_repeating 12 = .ok (.aload_n 0, 1) := by decide +kernel
theorem dX11_repeating_13 : decode cX11_repeating 13 = .ok (.getfield 66, 3) := by decide +kernel
theorem dX11_repeating_16 : decode cX11_repeating 16 = .ok (.sipush 1000, 3) := by decide +kernel
theorem dX11_repeating_19 : decode cX11_repeating 19 = .ok (.invokevirtual 287, 3) := by decide +kernel
theorem dX11_repeating_22 : decode cX11_repeating 22 = .ok (.ireturn, 1) := by decide +kernel
theorem dX11_decimal_0 : decode cX11_decimal 0 = .ok (.iload_n 1, 1) := by decide +kernel
theorem dX11_decimal_1 : decode cX11_decimal 1 = .ok (.iconst 1, 1) := by decide +kernel
theorem dX11_decimal_2 : decode cX11_decimal 2 = .ok (.if_icmp .lt 10, 3) := by decide +kernel
theorem dX11_decimal_5 : decode cX11_decimal 5 = .ok (.iload_n 1, 1) := by decide +kernel
theorem dX11_decimal_6 : decode cX11_decimal 6 = .ok (.sipush 1000, 3) := by decide +kernel
theorem dX11_decimal_9 : decode cX11_decimal 9 = .ok (.if_icmp .le 11, 3) := by decide +kernel
theorem dX11_decimal_12 : decode cX11_decimal 12 = .ok (.new 103, 3) := by decide +kernel
theorem dX11_decimal_15 : decode cX11_decimal 15 = .ok (.dup, 1) := by decide +kernel
theorem dX11_decimal_16 : decode cX11_decimal 16 = .ok (.invokespecial 105, 3) := by decide +kernel
theorem dX11_decimal_19 : decode cX11_decimal 19 = .ok (.athrow, 1) := by decide +kernel
theorem dX11_decimal_20 : decode cX11_decimal 20 = .ok (.aload_n 0, 1) := by decide +kernel
theorem dX11_decimal_21 : decode cX11_decimal 21 = .ok (.getfield 66, 3) := by decide +kernel
theorem dX11_decimal_24 : decode cX11_decimal 24 = .ok (.aload_n 0, 1) := by decide +kernel
theorem dX11_decimal_25 : decode cX11_decimal 25 = .ok (.getfield 32, 3) := by decide +kernel
theorem dX11_decimal_28 : decode cX11_decimal 28 = .ok (.invokevirtual 322, 3) := by decide +kernel
theorem dX11_decimal_31 : decode cX11_decimal 31 = .ok (.pop, 1) := by decide +kernel
theorem dX11_decimal_32 : decode cX11_decimal 32 = .ok (.iconst 0, 1) := by decide +kernel
theorem dX11_decimal_33 : decode cX11_decimal 33 = .ok (.istore_n 2, 1) := by decide +kernel
theorem dX11_decimal_34 : decode cX11_decimal 34 = .ok (.iload_n 1, 1) := by decide +kernel
theorem dX11_decimal_35 : decode cX11_decimal 35 = .ok (.istore_n 3, 1) := by decide +kernel
theorem dX11_decimal_36 : decode cX11_decimal 36 = .ok (.iload_n 3, 1) := by decide +kernel
theorem dX11_decimal_37 : decode cX11_decimal 37 = .ok (.ifCond .le 30, 3) := by decide +kernel
theorem dX11_decimal_40 : decode cX11_decimal 40 = .ok (.aload_n 0, 1) := by decide +kernel
theorem dX11_decimal_41 : decode cX11_decimal 41 = .ok (.getfield 66, 3) := by decide +kernel
theorem dX11_decimal_44 : decode cX11_decimal 44 = .ok (.aload_n 0, 1) := by decide +kernel
theorem dX11_decimal_45 : decode cX11_decimal 45 = .ok (.getfield 32, 3) := by decide +kernel
theorem dX11_decimal_48 : decode cX11_decimal 48 = .ok (.iload_n 3, 1) := by decide +kernel
theorem dX11_decimal_49 : decode cX11_decimal 49 = .ok (.bipush 9, 2) := by decide +kernel
theorem dX11_decimal_51 : decode cX11_decimal 51 = .ok (.invokestatic 361, 3) := by decide +kernel
theorem dX11_decimal_54 : decode cX11_decimal 54 = .ok (.invokevirtual 326, 3) := by decide +kernel
theorem dX11_decimal_57 : decode cX11_decimal 57 = .ok (.bipush 10, 2) := by decide +kernel
theorem dX11_decimal_59 : decode cX11_decimal 59 = .ok (.irem, 1) := by decide +kernel
theorem dX11_decimal_60 : decode cX11_decimal 60 = .ok (.istore_n 2, 1) := by decide +kernel
theorem dX11_decimal_61 : decode cX11_decimal 61 = .ok (.iinc 3 (-9), 3) := by decide +kernel
theorem dX11_decimal_64 : decode cX11_decimal 64 = .ok (.goto (-28), 3) := by decide +kernel
theorem dX11_decimal_67 : decode cX11_decimal 67 = .ok (.iload_n 2, 1) := by decide +kernel
theorem dX11_decimal_68 : decode cX11_decimal 68 = .ok (.ireturn, 1) := by decide +kernel
theorem dX11_continued_0 : decode cX11_continued 0 = .ok (.aload_n 0, 1) := by decide +kernel
theorem dX11_continued_1 : decode cX11_continued 1 = .ok (.getfield 66, 3) := by decide +kernel
theorem dX11_continued_4 : decode cX11_continued 4 = .ok (.aload_n 0, 1) := by decide +kernel
theorem dX11_continued_5 : decode cX11_continued 5 = .ok (.getfield 32, 3) := by decide +kernel
theorem dX11_continued_8 : decode cX11_continued 8 = .ok (.iconst (-1), 1) := by decide +kernel
theorem dX11_continued_9 : decode cX11_continued 9 = .ok (.invokevirtual 366, 3) := by decide +kernel
theorem dX11_continued_12 : decode cX11_continued 12 = .ok (.ireturn, 1) := by decide +kernel
theorem dX11_takeContinued_0 : decode cX11_takeContinued 0 = .ok (.iload_n 1, 1) := by decide +kernel
theorem dX11_takeContinued_1 : decode cX11_takeContinued 1 = .ok (.ifCond .lt 19, 3) := by decide +kernel
theorem dX11_takeContinued_4 : decode cX11_takeContinued 4 = .ok (.iload_n 1, 1) := by decide +kernel
theorem dX11_takeContinued_5 : decode cX11_takeContinued 5 = .ok (.aload_n 0, 1) := by decide +kernel
theorem dX11_takeContinued_6 : decode cX11_takeContinued 6 = .ok (.getfield 66, 3) := by decide +kernel
theorem dX11_takeContinued_9 : decode cX11_takeContinued 9 = .ok (.aload_n 0, 1) := by decide +kernel
theorem dX11_takeContinued_10 : decode cX11_takeContinued 10 = .ok (.getfield 32, 3) := by decide +kernel
theorem dX11_takeContinued_13 : decode cX11_takeContinued 13 = .ok (.iload_n 1, 1) := by decide +kernel
theorem dX11_takeContinued_14 : decode cX11_takeContinued 14 = .ok (.invokevirtual 366, 3) := by decide +kernel
theorem dX11_takeContinued_17 : decode cX11_takeContinued 17 = .ok (.if_icmp .lt 11, 3) := by decide +kernel
theorem dX11_takeContinued_20 : decode cX11_takeContinued 20 = .ok (.new 147, 3) := by decide +kernel
theorem dX11_takeContinued_23 : decode cX11_takeContinued 23 = .ok (.dup, 1) := by decide +kernel
theorem dX11_takeContinued_24 : decode cX11_takeContinued 24 = .ok (.invokespecial 149, 3) := by decide +kernel
theorem dX11_takeContinued_27 : decode cX11_takeContinued 27 = .ok (.athrow, 1) := by decide +kernel
theorem dX11_takeContinued_28 : decode cX11_takeContinued 28 = .ok (.aload_n 0, 1) := by decide +kernel
theorem dX11_takeContinued_29 : decode cX11_takeContinued 29 = .ok (.aload_n 0, 1) := by decide +kernel
theorem dX11_takeContinued_30 : decode cX11_takeContinued 30 = .ok (.getfield 66, 3) := by decide +kernel
theorem dX11_takeContinued_33 : decode cX11_takeContinued 33 = .ok (.getfield 369, 3) := by decide +kernel
theorem dX11_takeContinued_36 : decode cX11_takeContinued 36 = .ok (.invokevirtual 358, 3) := by decide +kernel
theorem dX11_takeContinued_39 : decode cX11_takeContinued 39 = .ok (.ireturn, 1) := by decide +kernel
theorem dX11_takeBest_0 : decode cX11_takeBest 0 = .ok (.iload_n 1, 1) := by decide +kernel
theorem dX11_takeBest_1 : decode cX11_takeBest 1 = .ok (.iconst 1, 1) := by decide +kernel
theorem dX11_takeBest_2 : decode cX11_takeBest 2 = .ok (.if_icmp .lt 10, 3) := by decide +kernel
theorem dX11_takeBest_5 : decode cX11_takeBest 5 = .ok (.iload_n 1, 1) := by decide +kernel
theorem dX11_takeBest_6 : decode cX11_takeBest 6 = .ok (.sipush 1000, 3) := by decide +kernel
theorem dX11_takeBest_9 : decode cX11_takeBest 9 = .ok (.if_icmp .le 11, 3) := by decide +kernel
theorem dX11_takeBest_12 : decode cX11_takeBest 12 = .ok (.new 103, 3) := by decide +kernel
theorem dX11_takeBest_15 : decode cX11_takeBest 15 = .ok (.dup, 1) := by decide +kernel
theorem dX11_takeBest_16 : decode cX11_takeBest 16 = .ok (.invokespecial 105, 3) := by decide +kernel
theorem dX11_takeBest_19 : decode cX11_takeBest 19 = .ok (.athrow, 1) := by decide +kernel
theorem dX11_takeBest_20 : decode cX11_takeBest 20 = .ok (.aload_n 0, 1) := by decide +kernel
theorem dX11_takeBest_21 : decode cX11_takeBest 21 = .ok (.getfield 66, 3) := by decide +kernel
theorem dX11_takeBest_24 : decode cX11_takeBest 24 = .ok (.aload_n 0, 1) := by decide +kernel
theorem dX11_takeBest_25 : decode cX11_takeBest 25 = .ok (.getfield 32, 3) := by decide +kernel
theorem dX11_takeBest_28 : decode cX11_takeBest 28 = .ok (.iload_n 1, 1) := by decide +kernel
theorem dX11_takeBest_29 : decode cX11_takeBest 29 = .ok (.invokevirtual 372, 3) := by decide +kernel
theorem dX11_takeBest_32 : decode cX11_takeBest 32 = .ok (.istore_n 2, 1) := by decide +kernel
theorem dX11_takeBest_33 : decode cX11_takeBest 33 = .ok (.aload_n 0, 1) := by decide +kernel
theorem dX11_takeBest_34 : decode cX11_takeBest 34 = .ok (.new 29, 3) := by decide +kernel
theorem dX11_takeBest_37 : decode cX11_takeBest 37 = .ok (.dup, 1) := by decide +kernel
theorem dX11_takeBest_38 : decode cX11_takeBest 38 = .ok (.aload_n 0, 1) := by decide +kernel
theorem dX11_takeBest_39 : decode cX11_takeBest 39 = .ok (.getfield 66, 3) := by decide +kernel
theorem dX11_takeBest_42 : decode cX11_takeBest 42 = .ok (.getfield 369, 3) := by decide +kernel
theorem dX11_takeBest_45 : decode cX11_takeBest 45 = .ok (.invokespecial 122, 3) := by decide +kernel
theorem dX11_takeBest_48 : decode cX11_takeBest 48 = .ok (.putfield 32, 3) := by decide +kernel
theorem dX11_takeBest_51 : decode cX11_takeBest 51 = .ok (.iload_n 2, 1) := by decide +kernel
theorem dX11_takeBest_52 : decode cX11_takeBest 52 = .ok (.ireturn, 1) := by decide +kernel
theorem dX11_units_0 : decode cX11_units 0 = .ok (.aload_n 0, 1) := by decide +kernel
theorem dX11_units_1 : decode cX11_units 1 = .ok (.getfield 66, 3) := by decide +kernel
theorem dX11_units_4 : decode cX11_units 4 = .ok (.aload_n 0, 1) := by decide +kernel
theorem dX11_units_5 : decode cX11_units 5 = .ok (.getfield 32, 3) := by decide +kernel
theorem dX11_units_8 : decode cX11_units 8 = .ok (.iconst (-1), 1) := by decide +kernel
theorem dX11_units_9 : decode cX11_units 9 = .ok (.invokevirtual 375, 3) := by decide +kernel
theorem dX11_units_12 : decode cX11_units 12 = .ok (.ireturn, 1) := by decide +kernel
theorem dX11_takeUnit_0 : decode cX11_takeUnit 0 = .ok (.iload_n 1, 1) := by decide +kernel
theorem dX11_takeUnit_1 : decode cX11_takeUnit 1 = .ok (.ifCond .lt 19, 3) := by decide +kernel
theorem dX11_takeUnit_4 : decode cX11_takeUnit 4 = .ok (.iload_n 1, 1) := by decide +kernel
theorem dX11_takeUnit_5 : decode cX11_takeUnit 5 = .ok (.aload_n 0, 1) := by decide +kernel
theorem dX11_takeUnit_6 : decode cX11_takeUnit 6 = .ok (.getfield 66, 3) := by decide +kernel
theorem dX11_takeUnit_9 : decode cX11_takeUnit 9 = .ok (.aload_n 0, 1) := by decide +kernel
theorem dX11_takeUnit_10 : decode cX11_takeUnit 10 = .ok (.getfield 32, 3) := by decide +kernel
theorem dX11_takeUnit_13 : decode cX11_takeUnit 13 = .ok (.iload_n 1, 1) := by decide +kernel
theorem dX11_takeUnit_14 : decode cX11_takeUnit 14 = .ok (.invokevirtual 375, 3) := by decide +kernel
theorem dX11_takeUnit_17 : decode cX11_takeUnit 17 = .ok (.if_icmp .lt 11, 3) := by decide +kernel
theorem dX11_takeUnit_20 : decode cX11_takeUnit 20 = .ok (.new 147, 3) := by decide +kernel
theorem dX11_takeUnit_23 : decode cX11_takeUnit 23 = .ok (.dup, 1) := by decide +kernel
theorem dX11_takeUnit_24 : decode cX11_takeUnit 24 = .ok (.invokespecial 149, 3) := by decide +kernel
theorem dX11_takeUnit_27 : decode cX11_takeUnit 27 = .ok (.athrow, 1) := by decide +kernel
theorem dX11_takeUnit_28 : decode cX11_takeUnit 28 = .ok (.aload_n 0, 1) := by decide +kernel
theorem dX11_takeUnit_29 : decode cX11_takeUnit 29 = .ok (.new 29, 3) := by decide +kernel
theorem dX11_takeUnit_32 : decode cX11_takeUnit 32 = .ok (.dup, 1) := by decide +kernel
theorem dX11_takeUnit_33 : decode cX11_takeUnit 33 = .ok (.aload_n 0, 1) := by decide +kernel
theorem dX11_takeUnit_34 : decode cX11_takeUnit 34 = .ok (.getfield 66, 3) := by decide +kernel
theorem dX11_takeUnit_37 : decode cX11_takeUnit 37 = .ok (.getfield 369, 3) := by decide +kernel
theorem dX11_takeUnit_40 : decode cX11_takeUnit 40 = .ok (.invokespecial 122, 3) := by decide +kernel
theorem dX11_takeUnit_43 : decode cX11_takeUnit 43 = .ok (.putfield 32, 3) := by decide +kernel
theorem dX11_takeUnit_46 : decode cX11_takeUnit 46 = .ok (.aload_n 0, 1) := by decide +kernel
theorem dX11_takeUnit_47 : decode cX11_takeUnit 47 = .ok (.getfield 32, 3) := by decide +kernel
theorem dX11_takeUnit_50 : decode cX11_takeUnit 50 = .ok (.getfield 304, 3) := by decide +kernel
theorem dX11_takeUnit_53 : decode cX11_takeUnit 53 = .ok (.invokevirtual 265, 3) := by decide +kernel
theorem dX11_takeUnit_56 : decode cX11_takeUnit 56 = .ok (.ireturn, 1) := by decide +kernel
theorem dX11_put_0 : decode cX11_put 0 = .ok (.aload_n 0, 1) := by decide +kernel
theorem dX11_put_1 : decode cX11_put 1 = .ok (.iload_n 1, 1) := by decide +kernel
theorem dX11_put_2 : decode cX11_put 2 = .ok (.invokevirtual 378, 3) := by decide +kernel
theorem dX11_put_5 : decode cX11_put 5 = .ok (.ifCond .ne 11, 3) := by decide +kernel
theorem dX11_put_8 : decode cX11_put 8 = .ok (.new 103, 3) := by decide +kernel
theorem dX11_put_11 : decode cX11_put 11 = .ok (.dup, 1) := by decide +kernel
theorem dX11_put_12 : decode cX11_put 12 = .ok (.invokespecial 105, 3) := by decide +kernel
theorem dX11_put_15 : decode cX11_put 15 = .ok (.athrow, 1) := by decide +kernel
theorem dX11_put_16 : decode cX11_put 16 = .ok (.aload_n 0, 1) := by decide +kernel
theorem dX11_put_17 : decode cX11_put 17 = .ok (.invokevirtual 129, 3) := by decide +kernel
theorem dX11_put_20 : decode cX11_put 20 = .ok (.getfield 133, 3) := by decide +kernel
theorem dX11_put_23 : decode cX11_put 23 = .ok (.iload_n 1, 1) := by decide +kernel
theorem dX11_put_24 : decode cX11_put 24 = .ok (.aaload, 1) := by decide +kernel
theorem dX11_put_25 : decode cX11_put 25 = .ok (.astore_n 2, 1) := by decide +kernel
theorem dX11_put_26 : decode cX11_put 26 = .ok (.aload_n 2, 1) := by decide +kernel
theorem dX11_put_27 : decode cX11_put 27 = .ok (.getfield 381, 3) := by decide +kernel
theorem dX11_put_30 : decode cX11_put 30 = .ok (.arraylength, 1) := by decide +kernel
theorem dX11_put_31 : decode cX11_put 31 = .ok (.bipush 50, 2) := by decide +kernel
theorem dX11_put_33 : decode cX11_put 33 = .ok (.if_icmp .lt 11, 3) := by decide +kernel
theorem dX11_put_36 : decode cX11_put 36 = .ok (.new 92, 3) := by decide +kernel
theorem dX11_put_39 : decode cX11_put 39 = .ok (.dup, 1) := by decide +kernel
theorem dX11_put_40 : decode cX11_put 40 = .ok (.invokespecial 94, 3) := by decide +kernel
theorem dX11_put_43 : decode cX11_put 43 = .ok (.athrow, 1) := by decide +kernel
theorem dX11_put_44 : decode cX11_put 44 = .ok (.aload_n 2, 1) := by decide +kernel
theorem dX11_put_45 : decode cX11_put 45 = .ok (.aload_n 0, 1) := by decide +kernel
theorem dX11_put_46 : decode cX11_put 46 = .ok (.getfield 32, 3) := by decide +kernel
theorem dX11_put_49 : decode cX11_put 49 = .ok (.aload_n 0, 1) := by decide +kernel
theorem dX11_put_50 : decode cX11_put 50 = .ok (.getfield 66, 3) := by decide +kernel
theorem dX11_put_53 : decode cX11_put 53 = .ok (.aload_n 2, 1) := by decide +kernel
theorem dX11_put_54 : decode cX11_put 54 = .ok (.aload_n 0, 1) := by decide +kernel
theorem dX11_put_55 : decode cX11_put 55 = .ok (.getfield 32, 3) := by decide +kernel
theorem dX11_put_58 : decode cX11_put 58 = .ok (.invokevirtual 386, 3) := by decide +kernel
theorem dX11_put_61 : decode cX11_put 61 = .ok (.invokevirtual 390, 3) := by decide +kernel
theorem dX11_put_64 : decode cX11_put 64 = .ok (.astore_n 3, 1) := by decide +kernel
theorem dX11_put_65 : decode cX11_put 65 = .ok (.aload_n 0, 1) := by decide +kernel
theorem dX11_put_66 : decode cX11_put 66 = .ok (.aload_n 0, 1) := by decide +kernel
theorem dX11_put_67 : decode cX11_put 67 = .ok (.invokevirtual 129, 3) := by decide +kernel
theorem dX11_put_70 : decode cX11_put 70 = .ok (.iload_n 1, 1) := by decide +kernel
theorem dX11_put_71 : decode cX11_put 71 = .ok (.aload_n 3, 1) := by decide +kernel
theorem dX11_put_72 : decode cX11_put 72 = .ok (.invokevirtual 393, 3) := by decide +kernel
theorem dX11_put_75 : decode cX11_put 75 = .ok (.invokevirtual 140, 3) := by decide +kernel
theorem dX11_put_78 : decode cX11_put 78 = .ok (.aload_n 3, 1) := by decide +kernel
theorem dX11_put_79 : decode cX11_put 79 = .ok (.getfield 381, 3) := by decide +kernel
theorem dX11_put_82 : decode cX11_put 82 = .ok (.arraylength, 1) := by decide +kernel
theorem dX11_put_83 : decode cX11_put 83 = .ok (.ireturn, 1) := by decide +kernel
theorem dX11_out_0 : decode cX11_out 0 = .ok (.aload_n 0, 1) := by decide +kernel
theorem dX11_out_1 : decode cX11_out 1 = .ok (.iload_n 1, 1) := by decide +kernel
theorem dX11_out_2 : decode cX11_out 2 = .ok (.invokevirtual 378, 3) := by decide +kernel
theorem dX11_out_5 : decode cX11_out 5 = .ok (.ifCond .ne 11, 3) := by decide +kernel
theorem dX11_out_8 : decode cX11_out 8 = .ok (.new 103, 3) := by decide +kernel
theorem dX11_out_11 : decode cX11_out 11 = .ok (.dup, 1) := by decide +kernel
theorem dX11_out_12 : decode cX11_out 12 = .ok (.invokespecial 105, 3) := by decide +kernel
theorem dX11_out_15 : decode cX11_out 15 = .ok (.athrow, 1) := by decide +kernel
theorem dX11_out_16 : decode cX11_out 16 = .ok (.aload_n 0, 1) := by decide +kernel
theorem dX11_out_17 : decode cX11_out 17 = .ok (.invokevirtual 129, 3) := by decide +kernel
theorem dX11_out_20 : decode cX11_out 20 = .ok (.getfield 133, 3) := by decide +kernel
theorem dX11_out_23 : decode cX11_out 23 = .ok (.iload_n 1, 1) := by decide +kernel
theorem dX11_out_24 : decode cX11_out 24 = .ok (.aaload, 1) := by decide +kernel
theorem dX11_out_25 : decode cX11_out 25 = .ok (.astore_n 2, 1) := by decide +kernel
theorem dX11_out_26 : decode cX11_out 26 = .ok (.aload_n 0, 1) := by decide +kernel
theorem dX11_out_27 : decode cX11_out 27 = .ok (.getfield 66, 3) := by decide +kernel
theorem dX11_out_30 : decode cX11_out 30 = .ok (.aload_n 2, 1) := by decide +kernel
theorem dX11_out_31 : decode cX11_out 31 = .ok (.aload_n 0, 1) := by decide +kernel
theorem dX11_out_32 : decode cX11_out 32 = .ok (.getfield 32, 3) := by decide +kernel
theorem dX11_out_35 : decode cX11_out 35 = .ok (.invokevirtual 386, 3) := by decide +kernel
theorem dX11_out_38 : decode cX11_out 38 = .ok (.istore_n 3, 1) := by decide +kernel
theorem dX11_out_39 : decode cX11_out 39 = .ok (.aload_n 2, 1) := by decide +kernel
theorem dX11_out_40 : decode cX11_out 40 = .ok (.iload_n 3, 1) := by decide +kernel
theorem dX11_out_41 : decode cX11_out 41 = .ok (.aload_n 0, 1) := by decide +kernel
theorem dX11_out_42 : decode cX11_out 42 = .ok (.getfield 32, 3) := by decide +kernel
theorem dX11_out_45 : decode cX11_out 45 = .ok (.invokevirtual 397, 3) := by decide +kernel
theorem dX11_out_48 : decode cX11_out 48 = .ok (.ifCond .ne 11, 3) := by decide +kernel
theorem dX11_out_51 : decode cX11_out 51 = .ok (.new 333, 3) := by decide +kernel
theorem dX11_out_54 : decode cX11_out 54 = .ok (.dup, 1) := by decide +kernel
theorem dX11_out_55 : decode cX11_out 55 = .ok (.invokespecial 335, 3) := by decide +kernel
theorem dX11_out_58 : decode cX11_out 58 = .ok (.athrow, 1) := by decide +kernel
theorem dX11_out_59 : decode cX11_out 59 = .ok (.aload_n 2, 1) := by decide +kernel
theorem dX11_out_60 : decode cX11_out 60 = .ok (.iload_n 3, 1) := by decide +kernel
theorem dX11_out_61 : decode cX11_out 61 = .ok (.invokevirtual 401, 3) := by decide +kernel
theorem dX11_out_64 : decode cX11_out 64 = .ok (.astore 4, 2) := by decide +kernel
theorem dX11_out_66 : decode cX11_out 66 = .ok (.aload_n 0, 1) := by decide +kernel
theorem dX11_out_67 : decode cX11_out 67 = .ok (.aload_n 0, 1) := by decide +kernel
theorem dX11_out_68 : decode cX11_out 68 = .ok (.invokevirtual 129, 3) := by decide +kernel
theorem dX11_out_71 : decode cX11_out 71 = .ok (.iload_n 1, 1) := by decide +kernel
theorem dX11_out_72 : decode cX11_out 72 = .ok (.aload 4, 2) := by decide +kernel
theorem dX11_out_74 : decode cX11_out 74 = .ok (.invokevirtual 393, 3) := by decide +kernel
theorem dX11_out_77 : decode cX11_out 77 = .ok (.invokevirtual 140, 3) := by decide +kernel
theorem dX11_out_80 : decode cX11_out 80 = .ok (.aload 4, 2) := by decide +kernel
theorem dX11_out_82 : decode cX11_out 82 = .ok (.getfield 381, 3) := by decide +kernel
theorem dX11_out_85 : decode cX11_out 85 = .ok (.arraylength, 1) := by decide +kernel
theorem dX11_out_86 : decode cX11_out 86 = .ok (.ireturn, 1) := by decide +kernel
theorem dX11_empty_0 : decode cX11_empty 0 = .ok (.aload_n 0, 1) := by decide +kernel
theorem dX11_empty_1 : decode cX11_empty 1 = .ok (.iload_n 1, 1) := by decide +kernel
theorem dX11_empty_2 : decode cX11_empty 2 = .ok (.invokevirtual 378, 3) := by decide +kernel
theorem dX11_empty_5 : decode cX11_empty 5 = .ok (.ifCond .ne 11, 3) := by decide +kernel
theorem dX11_empty_8 : decode cX11_empty 8 = .ok (.new 103, 3) := by decide +kernel
theorem dX11_empty_11 : decode cX11_empty 11 = .ok (.dup, 1) := by decide +kernel
theorem dX11_empty_12 : decode cX11_empty 12 = .ok (.invokespecial 105, 3) := by decide +kernel
theorem dX11_empty_15 : decode cX11_empty 15 = .ok (.athrow, 1) := by decide +kernel
theorem dX11_empty_16 : decode cX11_empty 16 = .ok (.aload_n 0, 1) := by decide +kernel
theorem dX11_empty_17 : decode cX11_empty 17 = .ok (.invokevirtual 129, 3) := by decide +kernel
theorem dX11_empty_20 : decode cX11_empty 20 = .ok (.getfield 133, 3) := by decide +kernel
theorem dX11_empty_23 : decode cX11_empty 23 = .ok (.iload_n 1, 1) := by decide +kernel
theorem dX11_empty_24 : decode cX11_empty 24 = .ok (.aaload, 1) := by decide +kernel
theorem dX11_empty_25 : decode cX11_empty 25 = .ok (.getfield 381, 3) := by decide +kernel
theorem dX11_empty_28 : decode cX11_empty 28 = .ok (.arraylength, 1) := by decide +kernel
theorem dX11_empty_29 : decode cX11_empty 29 = .ok (.istore_n 2, 1) := by decide +kernel
theorem dX11_empty_30 : decode cX11_empty 30 = .ok (.aload_n 0, 1) := by decide +kernel
theorem dX11_empty_31 : decode cX11_empty 31 = .ok (.aload_n 0, 1) := by decide +kernel
theorem dX11_empty_32 : decode cX11_empty 32 = .ok (.invokevirtual 129, 3) := by decide +kernel
theorem dX11_empty_35 : decode cX11_empty 35 = .ok (.iload_n 1, 1) := by decide +kernel
theorem dX11_empty_36 : decode cX11_empty 36 = .ok (.new 382, 3) := by decide +kernel
theorem dX11_empty_39 : decode cX11_empty 39 = .ok (.dup, 1) := by decide +kernel
theorem dX11_empty_40 : decode cX11_empty 40 = .ok (.iconst 0, 1) := by decide +kernel
theorem dX11_empty_41 : decode cX11_empty 41 = .ok (.invokespecial 404, 3) := by decide +kernel
theorem dX11_empty_44 : decode cX11_empty 44 = .ok (.invokevirtual 393, 3) := by decide +kernel
theorem dX11_empty_47 : decode cX11_empty 47 = .ok (.invokevirtual 140, 3) := by decide +kernel
theorem dX11_empty_50 : decode cX11_empty 50 = .ok (.iload_n 2, 1) := by decide +kernel
theorem dX11_empty_51 : decode cX11_empty 51 = .ok (.ireturn, 1) := by decide +kernel
theorem dX11_count_0 : decode cX11_count 0 = .ok (.aload_n 0, 1) := by decide +kernel
theorem dX11_count_1 : decode cX11_count 1 = .ok (.iload_n 1, 1) := by decide +kernel
theorem dX11_count_2 : decode cX11_count 2 = .ok (.invokevirtual 378, 3) := by decide +kernel
theorem dX11_count_5 : decode cX11_count 5 = .ok (.ifCond .ne 11, 3) := by decide +kernel
theorem dX11_count_8 : decode cX11_count 8 = .ok (.new 103, 3) := by decide +kernel
theorem dX11_count_11 : decode cX11_count 11 = .ok (.dup, 1) := by decide +kernel
theorem dX11_count_12 : decode cX11_count 12 = .ok (.invokespecial 105, 3) := by decide +kernel
theorem dX11_count_15 : decode cX11_count 15 = .ok (.athrow, 1) := by decide +kernel
theorem dX11_count_16 : decode cX11_count 16 = .ok (.aload_n 0, 1) := by decide +kernel
theorem dX11_count_17 : decode cX11_count 17 = .ok (.getfield 66, 3) := by decide +kernel
theorem dX11_count_20 : decode cX11_count 20 = .ok (.aload_n 0, 1) := by decide +kernel
theorem dX11_count_21 : decode cX11_count 21 = .ok (.invokevirtual 129, 3) := by decide +kernel
theorem dX11_count_24 : decode cX11_count 24 = .ok (.getfield 133, 3) := by decide +kernel
theorem dX11_count_27 : decode cX11_count 27 = .ok (.iload_n 1, 1) := by decide +kernel
theorem dX11_count_28 : decode cX11_count 28 = .ok (.aaload, 1) := by decide +kernel
theorem dX11_count_29 : decode cX11_count 29 = .ok (.aload_n 0, 1) := by decide +kernel
theorem dX11_count_30 : decode cX11_count 30 = .ok (.getfield 32, 3) := by decide +kernel
theorem dX11_count_33 : decode cX11_count 33 = .ok (.invokevirtual 386, 3) := by decide +kernel
theorem dX11_count_36 : decode cX11_count 36 = .ok (.istore_n 3, 1) := by decide +kernel
theorem dX11_count_37 : decode cX11_count 37 = .ok (.iload_n 2, 1) := by decide +kernel
theorem dX11_count_38 : decode cX11_count 38 = .ok (.ifCond .eq 23, 3) := by decide +kernel
theorem dX11_count_41 : decode cX11_count 41 = .ok (.aload_n 0, 1) := by decide +kernel
theorem dX11_count_42 : decode cX11_count 42 = .ok (.invokevirtual 129, 3) := by decide +kernel
theorem dX11_count_45 : decode cX11_count 45 = .ok (.getfield 133, 3) := by decide +kernel
theorem dX11_count_48 : decode cX11_count 48 = .ok (.iload_n 1, 1) := by decide +kernel
theorem dX11_count_49 : decode cX11_count 49 = .ok (.aaload, 1) := by decide +kernel
theorem dX11_count_50 : decode cX11_count 50 = .ok (.iload_n 3, 1) := by decide +kernel
theorem dX11_count_51 : decode cX11_count 51 = .ok (.aload_n 0, 1) := by decide +kernel
theorem dX11_count_52 : decode cX11_count 52 = .ok (.getfield 32, 3) := by decide +kernel
theorem dX11_count_55 : decode cX11_count 55 = .ok (.invokevirtual 397, 3) := by decide +kernel
theorem dX11_count_58 : decode cX11_count 58 = .ok (.goto 4, 3) := by decide +kernel
theorem dX11_count_61 : decode cX11_count 61 = .ok (.iload_n 3, 1) := by decide +kernel
theorem dX11_count_62 : decode cX11_count 62 = .ok (.ireturn, 1) := by decide +kernel
theorem dX11_takeLeast_0 : decode cX11_takeLeast 0 = .ok (.aload_n 0, 1) := by decide +kernel
theorem dX11_takeLeast_1 : decode cX11_takeLeast 1 = .ok (.iload_n 1, 1) := by decide +kernel
theorem dX11_takeLeast_2 : decode cX11_takeLeast 2 = .ok (.invokevirtual 378, 3) := by decide +kernel
theorem dX11_takeLeast_5 : decode cX11_takeLeast 5 = .ok (.ifCond .ne 11, 3) := by decide +kernel
theorem dX11_takeLeast_8 : decode cX11_takeLeast 8 = .ok (.new 103, 3) := by decide +kernel
theorem dX11_takeLeast_11 : decode cX11_takeLeast 11 = .ok (.dup, 1) := by decide +kernel
theorem dX11_takeLeast_12 : decode cX11_takeLeast 12 = .ok (.invokespecial 105, 3) := by decide +kernel
theorem dX11_takeLeast_15 : decode cX11_takeLeast 15 = .ok (.athrow, 1) := by decide +kernel
theorem dX11_takeLeast_16 : decode cX11_takeLeast 16 = .ok (.aload_n 0, 1) := by decide +kernel
theorem dX11_takeLeast_17 : decode cX11_takeLeast 17 = .ok (.invokevirtual 129, 3) := by decide +kernel
theorem dX11_takeLeast_20 : decode cX11_takeLeast 20 = .ok (.getfield 133, 3) := by decide +kernel
theorem dX11_takeLeast_23 : decode cX11_takeLeast 23 = .ok (.iload_n 1, 1) := by decide +kernel
theorem dX11_takeLeast_24 : decode cX11_takeLeast 24 = .ok (.aaload, 1) := by decide +kernel
theorem dX11_takeLeast_25 : decode cX11_takeLeast 25 = .ok (.getfield 381, 3) := by decide +kernel
theorem dX11_takeLeast_28 : decode cX11_takeLeast 28 = .ok (.astore_n 3, 1) := by decide +kernel
theorem dX11_takeLeast_29 : decode cX11_takeLeast 29 = .ok (.iload_n 2, 1) := by decide +kernel
theorem dX11_takeLeast_30 : decode cX11_takeLeast 30 = .ok (.ifCond .lt 9, 3) := by decide +kernel
theorem dX11_takeLeast_33 : decode cX11_takeLeast 33 = .ok (.iload_n 2, 1) := by decide +kernel
theorem dX11_takeLeast_34 : decode cX11_takeLeast 34 = .ok (.aload_n 3, 1) := by decide +kernel
theorem dX11_takeLeast_35 : decode cX11_takeLeast 35 = .ok (.arraylength, 1) := by decide +kernel
theorem dX11_takeLeast_36 : decode cX11_takeLeast 36 = .ok (.if_icmp .lt 11, 3) := by decide +kernel
theorem dX11_takeLeast_39 : decode cX11_takeLeast 39 = .ok (.new 147, 3) := by decide +kernel
theorem dX11_takeLeast_42 : decode cX11_takeLeast 42 = .ok (.dup, 1) := by decide +kernel
theorem dX11_takeLeast_43 : decode cX11_takeLeast 43 = .ok (.invokespecial 149, 3) := by decide +kernel
theorem dX11_takeLeast_46 : decode cX11_takeLeast 46 = .ok (.athrow, 1) := by decide +kernel
theorem dX11_takeLeast_47 : decode cX11_takeLeast 47 = .ok (.aload_n 0, 1) := by decide +kernel
theorem dX11_takeLeast_48 : decode cX11_takeLeast 48 = .ok (.aload_n 3, 1) := by decide +kernel
theorem dX11_takeLeast_49 : decode cX11_takeLeast 49 = .ok (.iload_n 2, 1) := by decide +kernel
theorem dX11_takeLeast_50 : decode cX11_takeLeast 50 = .ok (.aaload, 1) := by decide +kernel
theorem dX11_takeLeast_51 : decode cX11_takeLeast 51 = .ok (.putfield 32, 3) := by decide +kernel
theorem dX11_takeLeast_54 : decode cX11_takeLeast 54 = .ok (.aload_n 0, 1) := by decide +kernel
theorem dX11_takeLeast_55 : decode cX11_takeLeast 55 = .ok (.getfield 32, 3) := by decide +kernel
theorem dX11_takeLeast_58 : decode cX11_takeLeast 58 = .ok (.getfield 258, 3) := by decide +kernel
theorem dX11_takeLeast_61 : decode cX11_takeLeast 61 = .ok (.ireturn, 1) := by decide +kernel
theorem dX11_takeAll_0 : decode cX11_takeAll 0 = .ok (.aload_n 0, 1) := by decide +kernel
theorem dX11_takeAll_1 : decode cX11_takeAll 1 = .ok (.iload_n 1, 1) := by decide +kernel
theorem dX11_takeAll_2 : decode cX11_takeAll 2 = .ok (.invokevirtual 378, 3) := by decide +kernel
theorem dX11_takeAll_5 : decode cX11_takeAll 5 = .ok (.ifCond .eq 12, 3) := by decide +kernel
theorem dX11_takeAll_8 : decode cX11_takeAll 8 = .ok (.iload_n 2, 1) := by decide +kernel
theorem dX11_takeAll_9 : decode cX11_takeAll 9 = .ok (.ifCond .lt 8, 3) := by decide +kernel
theorem dX11_takeAll_12 : decode cX11_takeAll 12 = .ok (.iload_n 2, 1) := by decide +kernel
theorem dX11_takeAll_13 : decode cX11_takeAll 13 = .ok (.iconst 2, 1) := by decide +kernel
theorem dX11_takeAll_14 : decode cX11_takeAll 14 = .ok (.if_icmp .le 11, 3) := by decide +kernel
theorem dX11_takeAll_17 : decode cX11_takeAll 17 = .ok (.new 103, 3) := by decide +kernel
theorem dX11_takeAll_20 : decode cX11_takeAll 20 = .ok (.dup, 1) := by decide +kernel
theorem dX11_takeAll_21 : decode cX11_takeAll 21 = .ok (.invokespecial 105, 3) := by decide +kernel
theorem dX11_takeAll_24 : decode cX11_takeAll 24 = .ok (.athrow, 1) := by decide +kernel
theorem dX11_takeAll_25 : decode cX11_takeAll 25 = .ok (.aload_n 0, 1) := by decide +kernel
theorem dX11_takeAll_26 : decode cX11_takeAll 26 = .ok (.invokevirtual 129, 3) := by decide +kernel
theorem dX11_takeAll_29 : decode cX11_takeAll 29 = .ok (.getfield 133, 3) := by decide +kernel
theorem dX11_takeAll_32 : decode cX11_takeAll 32 = .ok (.iload_n 1, 1) := by decide +kernel
theorem dX11_takeAll_33 : decode cX11_takeAll 33 = .ok (.aaload, 1) := by decide +kernel
theorem dX11_takeAll_34 : decode cX11_takeAll 34 = .ok (.getfield 381, 3) := by decide +kernel
theorem dX11_takeAll_37 : decode cX11_takeAll 37 = .ok (.astore_n 3, 1) := by decide +kernel
theorem dX11_takeAll_38 : decode cX11_takeAll 38 = .ok (.iload_n 2, 1) := by decide +kernel
theorem dX11_takeAll_39 : decode cX11_takeAll 39 = .ok (.iconst 2, 1) := by decide +kernel
theorem dX11_takeAll_40 : decode cX11_takeAll 40 = .ok (.if_icmp .ne 16, 3) := by decide +kernel
theorem dX11_takeAll_43 : decode cX11_takeAll 43 = .ok (.aload_n 3, 1) := by decide +kernel
theorem dX11_takeAll_44 : decode cX11_takeAll 44 = .ok (.arraylength, 1) := by decide +kernel
theorem dX11_takeAll_45 : decode cX11_takeAll 45 = .ok (.ifCond .ne 11, 3) := by decide +kernel
theorem dX11_takeAll_48 : decode cX11_takeAll 48 = .ok (.new 333, 3) := by decide +kernel
theorem dX11_takeAll_51 : decode cX11_takeAll 51 = .ok (.dup, 1) := by decide +kernel
theorem dX11_takeAll_52 : decode cX11_takeAll 52 = .ok (.invokespecial 335, 3) := by decide +kernel
theorem dX11_takeAll_55 : decode cX11_takeAll 55 = .ok (.athrow, 1) := by decide +kernel
theorem dX11_takeAll_56 : decode cX11_takeAll 56 = .ok (.iload_n 2, 1) := by decide +kernel
theorem dX11_takeAll_57 : decode cX11_takeAll 57 = .ok (.iconst 2, 1) := by decide +kernel
theorem dX11_takeAll_58 : decode cX11_takeAll 58 = .ok (.if_icmp .ne 14, 3) := by decide +kernel
theorem dX11_takeAll_61 : decode cX11_takeAll 61 = .ok (.aload_n 0, 1) := by decide +kernel
theorem dX11_takeAll_62 : decode cX11_takeAll 62 = .ok (.getfield 66, 3) := by decide +kernel
theorem dX11_takeAll_65 : decode cX11_takeAll 65 = .ok (.aload_n 3, 1) := by decide +kernel
theorem dX11_takeAll_66 : decode cX11_takeAll 66 = .ok (.invokevirtual 406, 3) := by decide +kernel
theorem dX11_takeAll_69 : decode cX11_takeAll 69 = .ok (.goto 21, 3) := by decide +kernel
theorem dX11_takeAll_72 : decode cX11_takeAll 72 = .ok (.aload_n 0, 1) := by decide +kernel
theorem dX11_takeAll_73 : decode cX11_takeAll 73 = .ok (.getfield 66, 3) := by decide +kernel
theorem dX11_takeAll_76 : decode cX11_takeAll 76 = .ok (.aload_n 3, 1) := by decide +kernel
theorem dX11_takeAll_77 : decode cX11_takeAll 77 = .ok (.iload_n 2, 1) := by decide +kernel
theorem dX11_takeAll_78 : decode cX11_takeAll 78 = .ok (.iconst 1, 1) := by decide +kernel
theorem dX11_takeAll_79 : decode cX11_takeAll 79 = .ok (.if_icmp .ne 7, 3) := by decide +kernel
theorem dX11_takeAll_82 : decode cX11_takeAll 82 = .ok (.iconst 1, 1) := by decide +kernel
theorem dX11_takeAll_83 : decode cX11_takeAll 83 = .ok (.goto 4, 3) := by decide +kernel
theorem dX11_takeAll_86 : decode cX11_takeAll 86 = .ok (.iconst 0, 1) := by decide +kernel
theorem dX11_takeAll_87 : decode cX11_takeAll 87 = .ok (.invokevirtual 410, 3) := by decide +kernel
theorem dX11_takeAll_90 : decode cX11_takeAll 90 = .ok (.astore 4, 2) := by decide +kernel
theorem dX11_takeAll_92 : decode cX11_takeAll 92 = .ok (.aload 4, 2) := by decide +kernel
theorem dX11_takeAll_94 : decode cX11_takeAll 94 = .ok (.invokevirtual 414, 3) := by decide +kernel
theorem dX11_takeAll_97 : decode cX11_takeAll 97 = .ok (.ifCond .ne 11, 3) := by decide +kernel
theorem dX11_takeAll_100 : decode cX11_takeAll 100 = .ok (.new 113, 3) := by decide +kernel
theorem dX11_takeAll_103 : decode cX11_takeAll 103 = .ok (.dup, 1) := by decide +kernel
theorem dX11_takeAll_104 : decode cX11_takeAll 104 = .ok (.invokespecial 115, 3) := by decide +kernel
theorem dX11_takeAll_107 : decode cX11_takeAll 107 = .ok (.athrow, 1) := by decide +kernel
theorem dX11_takeAll_108 : decode cX11_takeAll 108 = .ok (.aload_n 0, 1) := by decide +kernel
theorem dX11_takeAll_109 : decode cX11_takeAll 109 = .ok (.aload 4, 2) := by decide +kernel
theorem dX11_takeAll_111 : decode cX11_takeAll 111 = .ok (.invokevirtual 358, 3) := by decide +kernel
theorem dX11_takeAll_114 : decode cX11_takeAll 114 = .ok (.ireturn, 1) := by decide +kernel
theorem dX11_isRow_0 : decode cX11_isRow 0 = .ok (.iload_n 1, 1) := by decide +kernel
theorem dX11_isRow_1 : decode cX11_isRow 1 = .ok (.ifCond .lt 19, 3) := by decide +kernel
theorem dX11_isRow_4 : decode cX11_isRow 4 = .ok (.iload_n 1, 1) := by decide +kernel
theorem dX11_isRow_5 : decode cX11_isRow 5 = .ok (.aload_n 0, 1) := by decide +kernel
theorem dX11_isRow_6 : decode cX11_isRow 6 = .ok (.invokevirtual 129, 3) := by decide +kernel
theorem dX11_isRow_9 : decode cX11_isRow 9 = .ok (.getfield 133, 3) := by decide +kernel
theorem dX11_isRow_12 : decode cX11_isRow 12 = .ok (.arraylength, 1) := by decide +kernel
theorem dX11_isRow_13 : decode cX11_isRow 13 = .ok (.if_icmp .ge 7, 3) := by decide +kernel
theorem dX11_isRow_16 : decode cX11_isRow 16 = .ok (.iconst 1, 1) := by decide +kernel
theorem dX11_isRow_17 : decode cX11_isRow 17 = .ok (.goto 4, 3) := by decide +kernel
theorem dX11_isRow_20 : decode cX11_isRow 20 = .ok (.iconst 0, 1) := by decide +kernel
theorem dX11_isRow_21 : decode cX11_isRow 21 = .ok (.ireturn, 1) := by decide +kernel
theorem dX11_undo_0 : decode cX11_undo 0 = .ok (.aload_n 0, 1) := by decide +kernel
theorem dX11_undo_1 : decode cX11_undo 1 = .ok (.getfield 417, 3) := by decide +kernel
theorem dX11_undo_4 : decode cX11_undo 4 = .ok (.iconst 1, 1) := by decide +kernel
theorem dX11_undo_5 : decode cX11_undo 5 = .ok (.if_icmp .ge 5, 3) := by decide +kernel
theorem dX11_undo_8 : decode cX11_undo 8 = .ok (.iconst (-1), 1) := by decide +kernel
theorem dX11_undo_9 : decode cX11_undo 9 = .ok (.ireturn, 1) := by decide +kernel
theorem dX11_undo_10 : decode cX11_undo 10 = .ok (.aload_n 0, 1) := by decide +kernel
theorem dX11_undo_11 : decode cX11_undo 11 = .ok (.dup, 1) := by decide +kernel
theorem dX11_undo_12 : decode cX11_undo 12 = .ok (.getfield 417, 3) := by decide +kernel
theorem dX11_undo_15 : decode cX11_undo 15 = .ok (.iconst 1, 1) := by decide +kernel
theorem dX11_undo_16 : decode cX11_undo 16 = .ok (.isub, 1) := by decide +kernel
theorem dX11_undo_17 : decode cX11_undo 17 = .ok (.putfield 417, 3) := by decide +kernel
theorem dX11_undo_20 : decode cX11_undo 20 = .ok (.aload_n 0, 1) := by decide +kernel
theorem dX11_undo_21 : decode cX11_undo 21 = .ok (.getfield 417, 3) := by decide +kernel
theorem dX11_undo_24 : decode cX11_undo 24 = .ok (.ireturn, 1) := by decide +kernel
theorem dX11_redo_0 : decode cX11_redo 0 = .ok (.aload_n 0, 1) := by decide +kernel
theorem dX11_redo_1 : decode cX11_redo 1 = .ok (.getfield 417, 3) := by decide +kernel
theorem dX11_redo_4 : decode cX11_redo 4 = .ok (.aload_n 0, 1) := by decide +kernel
theorem dX11_redo_5 : decode cX11_redo 5 = .ok (.getfield 420, 3) := by decide +kernel
theorem dX11_redo_8 : decode cX11_redo 8 = .ok (.if_icmp .lt 5, 3) := by decide +kernel
theorem dX11_redo_11 : decode cX11_redo 11 = .ok (.iconst (-1), 1) := by decide +kernel
theorem dX11_redo_12 : decode cX11_redo 12 = .ok (.ireturn, 1) := by decide +kernel
theorem dX11_redo_13 : decode cX11_redo 13 = .ok (.aload_n 0, 1) := by decide +kernel
theorem dX11_redo_14 : decode cX11_redo 14 = .ok (.dup, 1) := by decide +kernel
theorem dX11_redo_15 : decode cX11_redo 15 = .ok (.getfield 417, 3) := by decide +kernel
theorem dX11_redo_18 : decode cX11_redo 18 = .ok (.iconst 1, 1) := by decide +kernel
theorem dX11_redo_19 : decode cX11_redo 19 = .ok (.iadd, 1) := by decide +kernel
theorem dX11_redo_20 : decode cX11_redo 20 = .ok (.putfield 417, 3) := by decide +kernel
theorem dX11_redo_23 : decode cX11_redo 23 = .ok (.aload_n 0, 1) := by decide +kernel
theorem dX11_redo_24 : decode cX11_redo 24 = .ok (.getfield 420, 3) := by decide +kernel
theorem dX11_redo_27 : decode cX11_redo 27 = .ok (.aload_n 0, 1) := by decide +kernel
theorem dX11_redo_28 : decode cX11_redo 28 = .ok (.getfield 417, 3) := by decide +kernel
theorem dX11_redo_31 : decode cX11_redo 31 = .ok (.isub, 1) := by decide +kernel
theorem dX11_redo_32 : decode cX11_redo 32 = .ok (.ireturn, 1) := by decide +kernel
theorem dX11_present_0 : decode cX11_present 0 = .ok (.aload_n 0, 1) := by decide +kernel
theorem dX11_present_1 : decode cX11_present 1 = .ok (.getfield 59, 3) := by decide +kernel
theorem dX11_present_4 : decode cX11_present 4 = .ok (.aload_n 0, 1) := by decide +kernel
theorem dX11_present_5 : decode cX11_present 5 = .ok (.getfield 417, 3) := by decide +kernel
theorem dX11_present_8 : decode cX11_present 8 = .ok (.aaload, 1) := by decide +kernel
theorem dX11_present_9 : decode cX11_present 9 = .ok (.areturn, 1) := by decide +kernel
theorem dX11_change_0 : decode cX11_change 0 = .ok (.aload_n 0, 1) := by decide +kernel
theorem dX11_change_1 : decode cX11_change 1 = .ok (.getfield 417, 3) := by decide +kernel
theorem dX11_change_4 : decode cX11_change 4 = .ok (.iconst 1, 1) := by decide +kernel
theorem dX11_change_5 : decode cX11_change 5 = .ok (.iadd, 1) := by decide +kernel
theorem dX11_change_6 : decode cX11_change 6 = .ok (.aload_n 0, 1) := by decide +kernel
theorem dX11_change_7 : decode cX11_change 7 = .ok (.getfield 59, 3) := by decide +kernel
theorem dX11_change_10 : decode cX11_change 10 = .ok (.arraylength, 1) := by decide +kernel
theorem dX11_change_11 : decode cX11_change 11 = .ok (.if_icmp .lt 45, 3) := by decide +kernel
theorem dX11_change_14 : decode cX11_change 14 = .ok (.iconst 1, 1) := by decide +kernel
theorem dX11_change_15 : decode cX11_change 15 = .ok (.istore_n 2, 1) := by decide +kernel
theorem dX11_change_16 : decode cX11_change 16 = .ok (.iload_n 2, 1) := by decide +kernel
theorem dX11_change_17 : decode cX11_change 17 = .ok (.aload_n 0, 1) := by decide +kernel
theorem dX11_change_18 : decode cX11_change 18 = .ok (.getfield 59, 3) := by decide +kernel
theorem dX11_change_21 : decode cX11_change 21 = .ok (.arraylength, 1) := by decide +kernel
theorem dX11_change_22 : decode cX11_change 22 = .ok (.if_icmp .ge 23, 3) := by decide +kernel
theorem dX11_change_25 : decode cX11_change 25 = .ok (.aload_n 0, 1) := by decide +kernel
theorem dX11_change_26 : decode cX11_change 26 = .ok (.getfield 59, 3) := by decide +kernel
theorem dX11_change_29 : decode cX11_change 29 = .ok (.iload_n 2, 1) := by decide +kernel
theorem dX11_change_30 : decode cX11_change 30 = .ok (.iconst 1, 1) := by decide +kernel
theorem dX11_change_31 : decode cX11_change 31 = .ok (.isub, 1) := by decide +kernel
theorem dX11_change_32 : decode cX11_change 32 = .ok (.aload_n 0, 1) := by decide +kernel
theorem dX11_change_33 : decode cX11_change 33 = .ok (.getfield 59, 3) := by decide +kernel
theorem dX11_change_36 : decode cX11_change 36 = .ok (.iload_n 2, 1) := by decide +kernel
theorem dX11_change_37 : decode cX11_change 37 = .ok (.aaload, 1) := by decide +kernel
theorem dX11_change_38 : decode cX11_change 38 = .ok (.aastore, 1) := by decide +kernel
theorem dX11_change_39 : decode cX11_change 39 = .ok (.iinc 2 1, 3) := by decide +kernel
theorem dX11_change_42 : decode cX11_change 42 = .ok (.goto (-26), 3) := by decide +kernel
theorem dX11_change_45 : decode cX11_change 45 = .ok (.aload_n 0, 1) := by decide +kernel
theorem dX11_change_46 : decode cX11_change 46 = .ok (.aload_n 0, 1) := by decide +kernel
theorem dX11_change_47 : decode cX11_change 47 = .ok (.getfield 59, 3) := by decide +kernel
theorem dX11_change_50 : decode cX11_change 50 = .ok (.arraylength, 1) := by decide +kernel
theorem dX11_change_51 : decode cX11_change 51 = .ok (.iconst 2, 1) := by decide +kernel
theorem dX11_change_52 : decode cX11_change 52 = .ok (.isub, 1) := by decide +kernel
theorem dX11_change_53 : decode cX11_change 53 = .ok (.putfield 417, 3) := by decide +kernel
theorem dX11_change_56 : decode cX11_change 56 = .ok (.aload_n 0, 1) := by decide +kernel
theorem dX11_change_57 : decode cX11_change 57 = .ok (.dup, 1) := by decide +kernel
theorem dX11_change_58 : decode cX11_change 58 = .ok (.getfield 417, 3) := by decide +kernel
theorem dX11_change_61 : decode cX11_change 61 = .ok (.iconst 1, 1) := by decide +kernel
theorem dX11_change_62 : decode cX11_change 62 = .ok (.iadd, 1) := by decide +kernel
theorem dX11_change_63 : decode cX11_change 63 = .ok (.putfield 417, 3) := by decide +kernel
theorem dX11_change_66 : decode cX11_change 66 = .ok (.aload_n 0, 1) := by decide +kernel
theorem dX11_change_67 : decode cX11_change 67 = .ok (.aload_n 0, 1) := by decide +kernel
theorem dX11_change_68 : decode cX11_change 68 = .ok (.getfield 417, 3) := by decide +kernel
theorem dX11_change_71 : decode cX11_change 71 = .ok (.putfield 420, 3) := by decide +kernel
theorem dX11_change_74 : decode cX11_change 74 = .ok (.aload_n 0, 1) := by decide +kernel
theorem dX11_change_75 : decode cX11_change 75 = .ok (.getfield 59, 3) := by decide +kernel
theorem dX11_change_78 : decode cX11_change 78 = .ok (.aload_n 0, 1) := by decide +kernel
theorem dX11_change_79 : decode cX11_change 79 = .ok (.getfield 417, 3) := by decide +kernel
theorem dX11_change_82 : decode cX11_change 82 = .ok (.aload_n 1, 1) := by decide +kernel
theorem dX11_change_83 : decode cX11_change 83 = .ok (.aastore, 1) := by decide +kernel
theorem dX11_change_84 : decode cX11_change 84 = .ok (.return_, 1) := by decide +kernel
theorem dX11_errors_0 : decode cX11_errors 0 = .ok (.aload_n 0, 1) := by decide +kernel
theorem dX11_errors_1 : decode cX11_errors 1 = .ok (.invokevirtual 424, 3) := by decide +kernel
theorem dX11_errors_4 : decode cX11_errors 4 = .ok (.aload_n 0, 1) := by decide +kernel
theorem dX11_errors_5 : decode cX11_errors 5 = .ok (.invokevirtual 427, 3) := by decide +kernel
theorem dX11_errors_8 : decode cX11_errors 8 = .ok (.iadd, 1) := by decide +kernel
theorem dX11_errors_9 : decode cX11_errors 9 = .ok (.aload_n 0, 1) := by decide +kernel
theorem dX11_errors_10 : decode cX11_errors 10 = .ok (.invokevirtual 430, 3) := by decide +kernel
theorem dX11_errors_13 : decode cX11_errors 13 = .ok (.iadd, 1) := by decide +kernel
theorem dX11_errors_14 : decode cX11_errors 14 = .ok (.ireturn, 1) := by decide +kernel
theorem dX11_wrongNames_0 : decode cX11_wrongNames 0 = .ok (.aload_n 0, 1) := by decide +kernel
theorem dX11_wrongNames_1 : decode cX11_wrongNames 1 = .ok (.invokevirtual 129, 3) := by decide +kernel
theorem dX11_wrongNames_4 : decode cX11_wrongNames 4 = .ok (.getfield 150, 3) := by decide +kernel
theorem dX11_wrongNames_7 : decode cX11_wrongNames 7 = .ok (.astore_n 1, 1) := by decide +kernel
theorem dX11_wrongNames_8 : decode cX11_wrongNames 8 = .ok (.iconst 0, 1) := by decide +kernel
theorem dX11_wrongNames_9 : decode cX11_wrongNames 9 = .ok (.istore_n 2, 1) := by decide +kernel
theorem dX11_wrongNames_10 : decode cX11_wrongNames 10 = .ok (.iconst 0, 1) := by decide +kernel
theorem dX11_wrongNames_11 : decode cX11_wrongNames 11 = .ok (.istore_n 3, 1) := by decide +kernel
theorem dX11_wrongNames_12 : decode cX11_wrongNames 12 = .ok (.iload_n 3, 1) := by decide +kernel
theorem dX11_wrongNames_13 : decode cX11_wrongNames 13 = .ok (.aload_n 1, 1) := by decide +kernel
theorem dX11_wrongNames_14 : decode cX11_wrongNames 14 = .ok (.getfield 214, 3) := by decide +kernel
theorem dX11_wrongNames_17 : decode cX11_wrongNames 17 = .ok (.arraylength, 1) := by decide +kernel
theorem dX11_wrongNames_18 : decode cX11_wrongNames 18 = .ok (.if_icmp .ge 67, 3) := by decide +kernel
theorem dX11_wrongNames_21 : decode cX11_wrongNames 21 = .ok (.aload_n 1, 1) := by decide +kernel
theorem dX11_wrongNames_22 : decode cX11_wrongNames 22 = .ok (.getfield 214, 3) := by decide +kernel
theorem dX11_wrongNames_25 : decode cX11_wrongNames 25 = .ok (.iload_n 3, 1) := by decide +kernel
theorem dX11_wrongNames_26 : decode cX11_wrongNames 26 = .ok (.aaload, 1) := by decide +kernel
theorem dX11_wrongNames_27 : decode cX11_wrongNames 27 = .ok (.astore 4, 2) := by decide +kernel
theorem dX11_wrongNames_29 : decode cX11_wrongNames 29 = .ok (.aload_n 0, 1) := by decide +kernel
theorem dX11_wrongNames_30 : decode cX11_wrongNames 30 = .ok (.getfield 80, 3) := by decide +kernel
theorem dX11_wrongNames_33 : decode cX11_wrongNames 33 = .ok (.aload 4, 2) := by decide +kernel
theorem dX11_wrongNames_35 : decode cX11_wrongNames 35 = .ok (.getfield 257, 3) := by decide +kernel
theorem dX11_wrongNames_38 : decode cX11_wrongNames 38 = .ok (.aload_n 1, 1) := by decide +kernel
theorem dX11_wrongNames_39 : decode cX11_wrongNames 39 = .ok (.aconst_null, 1) := by decide +kernel
theorem dX11_wrongNames_40 : decode cX11_wrongNames 40 = .ok (.aload_n 0, 1) := by decide +kernel
theorem dX11_wrongNames_41 : decode cX11_wrongNames 41 = .ok (.getfield 66, 3) := by decide +kernel
theorem dX11_wrongNames_44 : decode cX11_wrongNames 44 = .ok (.invokevirtual 230, 3) := by decide +kernel
theorem dX11_wrongNames_47 : decode cX11_wrongNames 47 = .ok (.ifCond .ne 29, 3) := by decide +kernel
theorem dX11_wrongNames_50 : decode cX11_wrongNames 50 = .ok (.aload 4, 2) := by decide +kernel
theorem dX11_wrongNames_52 : decode cX11_wrongNames 52 = .ok (.getfield 330, 3) := by decide +kernel
theorem dX11_wrongNames_55 : decode cX11_wrongNames 55 = .ok (.ifnull 21, 3) := by decide +kernel
theorem dX11_wrongNames_58 : decode cX11_wrongNames 58 = .ok (.aload_n 0, 1) := by decide +kernel
theorem dX11_wrongNames_59 : decode cX11_wrongNames 59 = .ok (.getfield 80, 3) := by decide +kernel
theorem dX11_wrongNames_62 : decode cX11_wrongNames 62 = .ok (.getfield 119, 3) := by decide +kernel
theorem dX11_wrongNames_65 : decode cX11_wrongNames 65 = .ok (.aload 4, 2) := by decide +kernel
theorem dX11_wrongNames_67 : decode cX11_wrongNames 67 = .ok (.getfield 330, 3) := by decide +kernel
theorem dX11_wrongNames_70 : decode cX11_wrongNames 70 = .ok (.invokevirtual 433, 3) := by decide +kernel
theorem dX11_wrongNames_73 : decode cX11_wrongNames 73 = .ok (.ifCond .ne 6, 3) := by decide +kernel
theorem dX11_wrongNames_76 : decode cX11_wrongNames 76 = .ok (.iinc 2 1, 3) := by decide +kernel
theorem dX11_wrongNames_79 : decode cX11_wrongNames 79 = .ok (.iinc 3 1, 3) := by decide +kernel
theorem dX11_wrongNames_82 : decode cX11_wrongNames 82 = .ok (.goto (-70), 3) := by decide +kernel
theorem dX11_wrongNames_85 : decode cX11_wrongNames 85 = .ok (.iload_n 2, 1) := by decide +kernel
theorem dX11_wrongNames_86 : decode cX11_wrongNames 86 = .ok (.ireturn, 1) := by decide +kernel
theorem dX11_wrongPairs_0 : decode cX11_wrongPairs 0 = .ok (.iconst 0, 1) := by decide +kernel
theorem dX11_wrongPairs_1 : decode cX11_wrongPairs 1 = .ok (.istore_n 1, 1) := by decide +kernel
theorem dX11_wrongPairs_2 : decode cX11_wrongPairs 2 = .ok (.iconst 0, 1) := by decide +kernel
theorem dX11_wrongPairs_3 : decode cX11_wrongPairs 3 = .ok (.istore_n 2, 1) := by decide +kernel
theorem dX11_wrongPairs_4 : decode cX11_wrongPairs 4 = .ok (.iload_n 2, 1) := by decide +kernel
theorem dX11_wrongPairs_5 : decode cX11_wrongPairs 5 = .ok (.aload_n 0, 1) := by decide +kernel
theorem dX11_wrongPairs_6 : decode cX11_wrongPairs 6 = .ok (.getfield 36, 3) := by decide +kernel
theorem dX11_wrongPairs_9 : decode cX11_wrongPairs 9 = .ok (.arraylength, 1) := by decide +kernel
theorem dX11_wrongPairs_10 : decode cX11_wrongPairs 10 = .ok (.if_icmp .ge 53, 3) := by decide +kernel
theorem dX11_wrongPairs_13 : decode cX11_wrongPairs 13 = .ok (.iload_n 2, 1) := by decide +kernel
theorem dX11_wrongPairs_14 : decode cX11_wrongPairs 14 = .ok (.iconst 1, 1) := by decide +kernel
theorem dX11_wrongPairs_15 : decode cX11_wrongPairs 15 = .ok (.iadd, 1) := by decide +kernel
theorem dX11_wrongPairs_16 : decode cX11_wrongPairs 16 = .ok (.istore_n 3, 1) := by decide +kernel
theorem dX11_wrongPairs_17 : decode cX11_wrongPairs 17 = .ok (.iload_n 3, 1) := by decide +kernel
theorem dX11_wrongPairs_18 : decode cX11_wrongPairs 18 = .ok (.aload_n 0, 1) := by decide +kernel
theorem dX11_wrongPairs_19 : decode cX11_wrongPairs 19 = .ok (.getfield 36, 3) := by decide +kernel
theorem dX11_wrongPairs_22 : decode cX11_wrongPairs 22 = .ok (.arraylength, 1) := by decide +kernel
theorem dX11_wrongPairs_23 : decode cX11_wrongPairs 23 = .ok (.if_icmp .ge 34, 3) := by decide +kernel
theorem dX11_wrongPairs_26 : decode cX11_wrongPairs 26 = .ok (.aload_n 0, 1) := by decide +kernel
theorem dX11_wrongPairs_27 : decode cX11_wrongPairs 27 = .ok (.getfield 66, 3) := by decide +kernel
theorem dX11_wrongPairs_30 : decode cX11_wrongPairs 30 = .ok (.aload_n 0, 1) := by decide +kernel
theorem dX11_wrongPairs_31 : decode cX11_wrongPairs 31 = .ok (.getfield 36, 3) := by decide +kernel
theorem dX11_wrongPairs_34 : decode cX11_wrongPairs 34 = .ok (.iload_n 2, 1) := by decide +kernel
theorem dX11_wrongPairs_35 : decode cX11_wrongPairs 35 = .ok (.aaload, 1) := by decide +kernel
theorem dX11_wrongPairs_36 : decode cX11_wrongPairs 36 = .ok (.aload_n 0, 1) := by decide +kernel
theorem dX11_wrongPairs_37 : decode cX11_wrongPairs 37 = .ok (.getfield 36, 3) := by decide +kernel
theorem dX11_wrongPairs_40 : decode cX11_wrongPairs 40 = .ok (.iload_n 3, 1) := by decide +kernel
theorem dX11_wrongPairs_41 : decode cX11_wrongPairs 41 = .ok (.aaload, 1) := by decide +kernel
theorem dX11_wrongPairs_42 : decode cX11_wrongPairs 42 = .ok (.invokevirtual 437, 3) := by decide +kernel
theorem dX11_wrongPairs_45 : decode cX11_wrongPairs 45 = .ok (.ifCond .ne 6, 3) := by decide +kernel
theorem dX11_wrongPairs_48 : decode cX11_wrongPairs 48 = .ok (.iinc 1 1, 3) := by decide +kernel
theorem dX11_wrongPairs_51 : decode cX11_wrongPairs 51 = .ok (.iinc 3 1, 3) := by decide +kernel
theorem dX11_wrongPairs_54 : decode cX11_wrongPairs 54 = .ok (.goto (-37), 3) := by decide +kernel
theorem dX11_wrongPairs_57 : decode cX11_wrongPairs 57 = .ok (.iinc 2 1, 3) := by decide +kernel
theorem dX11_wrongPairs_60 : decode cX11_wrongPairs 60 = .ok (.goto (-56), 3) := by decide +kernel
theorem dX11_wrongPairs_63 : decode cX11_wrongPairs 63 = .ok (.iload_n 1, 1) := by decide +kernel
theorem dX11_wrongPairs_64 : decode cX11_wrongPairs 64 = .ok (.ireturn, 1) := by decide +kernel
theorem dX11_wrongTexts_0 : decode cX11_wrongTexts 0 = .ok (.new 40, 3) := by decide +kernel
theorem dX11_wrongTexts_3 : decode cX11_wrongTexts 3 = .ok (.dup, 1) := by decide +kernel
theorem dX11_wrongTexts_4 : decode cX11_wrongTexts 4 = .ok (.invokespecial 42, 3) := by decide +kernel
theorem dX11_wrongTexts_7 : decode cX11_wrongTexts 7 = .ok (.astore_n 1, 1) := by decide +kernel
theorem dX11_wrongTexts_8 : decode cX11_wrongTexts 8 = .ok (.new 29, 3) := by decide +kernel
theorem dX11_wrongTexts_11 : decode cX11_wrongTexts 11 = .ok (.dup, 1) := by decide +kernel
theorem dX11_wrongTexts_12 : decode cX11_wrongTexts 12 = .ok (.invokespecial 31, 3) := by decide +kernel
theorem dX11_wrongTexts_15 : decode cX11_wrongTexts 15 = .ok (.astore_n 2, 1) := by decide +kernel
theorem dX11_wrongTexts_16 : decode cX11_wrongTexts 16 = .ok (.iconst 0, 1) := by decide +kernel
theorem dX11_wrongTexts_17 : decode cX11_wrongTexts 17 = .ok (.istore_n 3, 1) := by decide +kernel
theorem dX11_wrongTexts_18 : decode cX11_wrongTexts 18 = .ok (.iconst 0, 1) := by decide +kernel
theorem dX11_wrongTexts_19 : decode cX11_wrongTexts 19 = .ok (.istore 4, 2) := by decide +kernel
theorem dX11_wrongTexts_21 : decode cX11_wrongTexts 21 = .ok (.iload 4, 2) := by decide +kernel
theorem dX11_wrongTexts_23 : decode cX11_wrongTexts 23 = .ok (.aload_n 0, 1) := by decide +kernel
theorem dX11_wrongTexts_24 : decode cX11_wrongTexts 24 = .ok (.getfield 36, 3) := by decide +kernel
theorem dX11_wrongTexts_27 : decode cX11_wrongTexts 27 = .ok (.arraylength, 1) := by decide +kernel
theorem dX11_wrongTexts_28 : decode cX11_wrongTexts 28 = .ok (.if_icmp .ge 48, 3) := by decide +kernel
theorem dX11_wrongTexts_31 : decode cX11_wrongTexts 31 = .ok (.aload_n 1, 1) := by decide +kernel
theorem dX11_wrongTexts_32 : decode cX11_wrongTexts 32 = .ok (.iconst 0, 1) := by decide +kernel
theorem dX11_wrongTexts_33 : decode cX11_wrongTexts 33 = .ok (.invokevirtual 274, 3) := by decide +kernel
theorem dX11_wrongTexts_36 : decode cX11_wrongTexts 36 = .ok (.aload_n 0, 1) := by decide +kernel
theorem dX11_wrongTexts_37 : decode cX11_wrongTexts 37 = .ok (.getfield 36, 3) := by decide +kernel
theorem dX11_wrongTexts_40 : decode cX11_wrongTexts 40 = .ok (.iload 4, 2) := by decide +kernel
theorem dX11_wrongTexts_42 : decode cX11_wrongTexts 42 = .ok (.aaload, 1) := by decide +kernel
theorem dX11_wrongTexts_43 : decode cX11_wrongTexts 43 = .ok (.aload_n 1, 1) := by decide +kernel
theorem dX11_wrongTexts_44 : decode cX11_wrongTexts 44 = .ok (.invokestatic 277, 3) := by decide +kernel
theorem dX11_wrongTexts_47 : decode cX11_wrongTexts 47 = .ok (.aload_n 0, 1) := by decide +kernel
theorem dX11_wrongTexts_48 : decode cX11_wrongTexts 48 = .ok (.aload_n 1, 1) := by decide +kernel
theorem dX11_wrongTexts_49 : decode cX11_wrongTexts 49 = .ok (.aload_n 2, 1) := by decide +kernel
theorem dX11_wrongTexts_50 : decode cX11_wrongTexts 50 = .ok (.invokevirtual 441, 3) := by decide +kernel
theorem dX11_wrongTexts_53 : decode cX11_wrongTexts 53 = .ok (.aload_n 2, 1) := by decide +kernel
theorem dX11_wrongTexts_54 : decode cX11_wrongTexts 54 = .ok (.aload_n 0, 1) := by decide +kernel
theorem dX11_wrongTexts_55 : decode cX11_wrongTexts 55 = .ok (.getfield 36, 3) := by decide +kernel
theorem dX11_wrongTexts_58 : decode cX11_wrongTexts 58 = .ok (.iload 4, 2) := by decide +kernel
theorem dX11_wrongTexts_60 : decode cX11_wrongTexts 60 = .ok (.aaload, 1) := by decide +kernel
theorem dX11_wrongTexts_61 : decode cX11_wrongTexts 61 = .ok (.invokevirtual 433, 3) := by decide +kernel
theorem dX11_wrongTexts_64 : decode cX11_wrongTexts 64 = .ok (.ifCond .ne 6, 3) := by decide +kernel
theorem dX11_wrongTexts_67 : decode cX11_wrongTexts 67 = .ok (.iinc 3 1, 3) := by decide +kernel
theorem dX11_wrongTexts_70 : decode cX11_wrongTexts 70 = .ok (.iinc 4 1, 3) := by decide +kernel
theorem dX11_wrongTexts_73 : decode cX11_wrongTexts 73 = .ok (.goto (-52), 3) := by decide +kernel
theorem dX11_wrongTexts_76 : decode cX11_wrongTexts 76 = .ok (.iload_n 3, 1) := by decide +kernel
theorem dX11_wrongTexts_77 : decode cX11_wrongTexts 77 = .ok (.ireturn, 1) := by decide +kernel
theorem dX11_readFraction_0 : decode cX11_readFraction 0 = .ok (.aload_n 1, 1) := by decide +kernel
theorem dX11_readFraction_1 : decode cX11_readFraction 1 = .ok (.invokevirtual 281, 3) := by decide +kernel
theorem dX11_readFraction_4 : decode cX11_readFraction 4 = .ok (.ifCond .le 17, 3) := by decide +kernel
theorem dX11_readFraction_7 : decode cX11_readFraction 7 = .ok (.aload_n 1, 1) := by decide +kernel
theorem dX11_readFraction_8 : decode cX11_readFraction 8 = .ok (.iconst 0, 1) := by decide +kernel
theorem dX11_readFraction_9 : decode cX11_readFraction 9 = .ok (.invokevirtual 293, 3) := by decide +kernel
theorem dX11_readFraction_12 : decode cX11_readFraction 12 = .ok (.bipush 45, 2) := by decide +kernel
theorem dX11_readFraction_14 : decode cX11_readFraction 14 = .ok (.if_icmp .ne 7, 3) := by decide +kernel
theorem dX11_readFraction_17 : decode cX11_readFraction 17 = .ok (.iconst 1, 1) := by decide +kernel
theorem dX11_readFraction_18 : decode cX11_readFraction 18 = .ok (.goto 4, 3) := by decide +kernel
theorem dX11_readFraction_21 : decode cX11_readFraction 21 = .ok (.iconst 0, 1) := by decide +kernel
theorem dX11_readFraction_22 : decode cX11_readFraction 22 = .ok (.istore_n 3, 1) := by decide +kernel
theorem dX11_readFraction_23 : decode cX11_readFraction 23 = .ok (.aload_n 1, 1) := by decide +kernel
theorem dX11_readFraction_24 : decode cX11_readFraction 24 = .ok (.invokevirtual 281, 3) := by decide +kernel
theorem dX11_readFraction_27 : decode cX11_readFraction 27 = .ok (.istore 4, 2) := by decide +kernel
theorem dX11_readFraction_29 : decode cX11_readFraction 29 = .ok (.aload_n 2, 1) := by decide +kernel
theorem dX11_readFraction_30 : decode cX11_readFraction 30 = .ok (.getfield 308, 3) := by decide +kernel
theorem dX11_readFraction_33 : decode cX11_readFraction 33 = .ok (.lconst 0, 1) := by decide +kernel
theorem dX11_readFraction_34 : decode cX11_readFraction 34 = .ok (.invokevirtual 445, 3) := by decide +kernel
theorem dX11_readFraction_37 : decode cX11_readFraction 37 = .ok (.aload_n 2, 1) := by decide +kernel
theorem dX11_readFraction_38 : decode cX11_readFraction 38 = .ok (.getfield 304, 3) := by decide +kernel
theorem dX11_readFraction_41 : decode cX11_readFraction 41 = .ok (.lconst 0, 1) := by decide +kernel
theorem dX11_readFraction_42 : decode cX11_readFraction 42 = .ok (.invokevirtual 445, 3) := by decide +kernel
theorem dX11_readFraction_45 : decode cX11_readFraction 45 = .ok (.iload_n 3, 1) := by decide +kernel
theorem dX11_readFraction_46 : decode cX11_readFraction 46 = .ok (.ifCond .eq 7, 3) := by decide +kernel
theorem dX11_readFraction_49 : decode cX11_readFraction 49 = .ok (.iconst 1, 1) := by decide +kernel
theorem dX11_readFraction_50 : decode cX11_readFraction 50 = .ok (.goto 4, 3) := by decide +kernel
theorem dX11_readFraction_53 : decode cX11_readFraction 53 = .ok (.iconst 0, 1) := by decide +kernel
theorem dX11_readFraction_54 : decode cX11_readFraction 54 = .ok (.istore 5, 2) := by decide +kernel
theorem dX11_readFraction_56 : decode cX11_readFraction 56 = .ok (.iload 5, 2) := by decide +kernel
theorem dX11_readFraction_58 : decode cX11_readFraction 58 = .ok (.aload_n 1, 1) := by decide +kernel
theorem dX11_readFraction_59 : decode cX11_readFraction 59 = .ok (.invokevirtual 281, 3) := by decide +kernel
theorem dX11_readFraction_62 : decode cX11_readFraction 62 = .ok (.if_icmp .ge 63, 3) := by decide +kernel
theorem dX11_readFraction_65 : decode cX11_readFraction 65 = .ok (.aload_n 1, 1) := by decide +kernel
theorem dX11_readFraction_66 : decode cX11_readFraction 66 = .ok (.iload 5, 2) := by decide +kernel
theorem dX11_readFraction_68 : decode cX11_readFraction 68 = .ok (.invokevirtual 293, 3) := by decide +kernel
theorem dX11_readFraction_71 : decode cX11_readFraction 71 = .ok (.bipush 47, 2) := by decide +kernel
theorem dX11_readFraction_73 : decode cX11_readFraction 73 = .ok (.if_icmp .ne 10, 3) := by decide +kernel
theorem dX11_readFraction_76 : decode cX11_readFraction 76 = .ok (.iload 5, 2) := by decide +kernel
theorem dX11_readFraction_78 : decode cX11_readFraction 78 = .ok (.istore 4, 2) := by decide +kernel
theorem dX11_readFraction_80 : decode cX11_readFraction 80 = .ok (.goto 39, 3) := by decide +kernel
theorem dX11_readFraction_83 : decode cX11_readFraction 83 = .ok (.iload 5, 2) := by decide +kernel
theorem dX11_readFraction_85 : decode cX11_readFraction 85 = .ok (.iload 4, 2) := by decide +kernel
theorem dX11_readFraction_87 : decode cX11_readFraction 87 = .ok (.if_icmp .ge 10, 3) := by decide +kernel
theorem dX11_readFraction_90 : decode cX11_readFraction 90 = .ok (.aload_n 2, 1) := by decide +kernel
theorem dX11_readFraction_91 : decode cX11_readFraction 91 = .ok (.getfield 308, 3) := by decide +kernel
theorem dX11_readFraction_94 : decode cX11_readFraction 94 = .ok (.goto 7, 3) := by decide +kernel
theorem dX11_readFraction_97 : decode cX11_readFraction 97 = .ok (.aload_n 2, 1) := by decide +kernel
theorem dX11_readFraction_98 : decode cX11_readFraction 98 = .ok (.getfield 304, 3) := by decide +kernel
theorem dX11_readFraction_101 : decode cX11_readFraction 101 = .ok (.astore 6, 2) := by decide +kernel
theorem dX11_readFraction_103 : decode cX11_readFraction 103 = .ok (.aload 6, 2) := by decide +kernel
theorem dX11_readFraction_105 : decode cX11_readFraction 105 = .ok (.bipush 10, 2) := by decide +kernel
theorem dX11_readFraction_107 : decode cX11_readFraction 107 = .ok (.aload_n 1, 1) := by decide +kernel
theorem dX11_readFraction_108 : decode cX11_readFraction 108 = .ok (.iload 5, 2) := by decide +kernel
theorem dX11_readFraction_110 : decode cX11_readFraction 110 = .ok (.invokevirtual 293, 3) := by decide +kernel
theorem dX11_readFraction_113 : decode cX11_readFraction 113 = .ok (.bipush 48, 2) := by decide +kernel
theorem dX11_readFraction_115 : decode cX11_readFraction 115 = .ok (.isub, 1) := by decide +kernel
theorem dX11_readFraction_116 : decode cX11_readFraction 116 = .ok (.invokevirtual 449, 3) := by decide +kernel
theorem dX11_readFraction_119 : decode cX11_readFraction 119 = .ok (.iinc 5 1, 3) := by decide +kernel
theorem dX11_readFraction_122 : decode cX11_readFraction 122 = .ok (.goto (-66), 3) := by decide +kernel
theorem dX11_readFraction_125 : decode cX11_readFraction 125 = .ok (.iload 4, 2) := by decide +kernel
theorem dX11_readFraction_127 : decode cX11_readFraction 127 = .ok (.aload_n 1, 1) := by decide +kernel
theorem dX11_readFraction_128 : decode cX11_readFraction 128 = .ok (.invokevirtual 281, 3) := by decide +kernel
theorem dX11_readFraction_131 : decode cX11_readFraction 131 = .ok (.if_icmp .ne 11, 3) := by decide +kernel
theorem dX11_readFraction_134 : decode cX11_readFraction 134 = .ok (.aload_n 2, 1) := by decide +kernel
theorem dX11_readFraction_135 : decode cX11_readFraction 135 = .ok (.getfield 304, 3) := by decide +kernel
theorem dX11_readFraction_138 : decode cX11_readFraction 138 = .ok (.lconst 1, 1) := by decide +kernel
theorem dX11_readFraction_139 : decode cX11_readFraction 139 = .ok (.invokevirtual 445, 3) := by decide +kernel
theorem dX11_readFraction_142 : decode cX11_readFraction 142 = .ok (.aload_n 2, 1) := by decide +kernel
theorem dX11_readFraction_143 : decode cX11_readFraction 143 = .ok (.iload_n 3, 1) := by decide +kernel
theorem dX11_readFraction_144 : decode cX11_readFraction 144 = .ok (.ifCond .eq 7, 3) := by decide +kernel
theorem dX11_readFraction_147 : decode cX11_readFraction 147 = .ok (.iconst (-1), 1) := by decide +kernel
theorem dX11_readFraction_148 : decode cX11_readFraction 148 = .ok (.goto 4, 3) := by decide +kernel
theorem dX11_readFraction_151 : decode cX11_readFraction 151 = .ok (.iconst 1, 1) := by decide +kernel
theorem dX11_readFraction_152 : decode cX11_readFraction 152 = .ok (.invokevirtual 452, 3) := by decide +kernel
theorem dX11_readFraction_155 : decode cX11_readFraction 155 = .ok (.aload_n 0, 1) := by decide +kernel
theorem dX11_readFraction_156 : decode cX11_readFraction 156 = .ok (.getfield 66, 3) := by decide +kernel
theorem dX11_readFraction_159 : decode cX11_readFraction 159 = .ok (.aload_n 2, 1) := by decide +kernel
theorem dX11_readFraction_160 : decode cX11_readFraction 160 = .ok (.invokevirtual 455, 3) := by decide +kernel
theorem dX11_readFraction_163 : decode cX11_readFraction 163 = .ok (.return_, 1) := by decide +kernel
theorem dJ5_init_d00df_0 : decode cJ5_init_d00df 0 = .ok (.aload_n 0, 1) := by decide +kernel
theorem dJ5_init_d00df_1 : decode cJ5_init_d00df 1 = .ok (.invokespecial 3, 3) := by decide +kernel
theorem dJ5_init_d00df_4 : decode cJ5_init_d00df 4 = .ok (.getstatic 18, 3) := by decide +kernel
theorem dJ5_init_d00df_7 : decode cJ5_init_d00df 7 = .ok (.ifCond .eq 18, 3) := by decide +kernel
theorem dJ5_init_d00df_10 : decode cJ5_init_d00df 10 = .ok (.aload_n 0, 1) := by decide +kernel
theorem dJ5_init_d00df_11 : decode cJ5_init_d00df 11 = .ok (.iload_n 1, 1) := by decide +kernel
theorem dJ5_init_d00df_12 : decode cJ5_init_d00df 12 = .ok (.newarray .byte, 2) := by decide +kernel
theorem dJ5_init_d00df_14 : decode cJ5_init_d00df 14 = .ok (.putfield 15, 3) := by decide +kernel
theorem dJ5_init_d00df_17 : decode cJ5_init_d00df 17 = .ok (.aload_n 0, 1) := by decide +kernel
theorem dJ5_init_d00df_18 : decode cJ5_init_d00df 18 = .ok (.iconst 0, 1) := by decide +kernel
theorem dJ5_init_d00df_19 : decode cJ5_init_d00df 19 = .ok (.putfield 22, 3) := by decide +kernel
theorem dJ5_init_d00df_22 : decode cJ5_init_d00df 22 = .ok (.goto 16, 3) := by decide +kernel
theorem dJ5_init_d00df_25 : decode cJ5_init_d00df 25 = .ok (.aload_n 0, 1) := by decide +kernel
theorem dJ5_init_d00df_26 : decode cJ5_init_d00df 26 = .ok (.iload_n 1, 1) := by decide +kernel
theorem dJ5_init_d00df_27 : decode cJ5_init_d00df 27 = .ok (.invokestatic 26, 3) := by decide +kernel
theorem dJ5_init_d00df_30 : decode cJ5_init_d00df 30 = .ok (.putfield 15, 3) := by decide +kernel
theorem dJ5_init_d00df_33 : decode cJ5_init_d00df 33 = .ok (.aload_n 0, 1) := by decide +kernel
theorem dJ5_init_d00df_34 : decode cJ5_init_d00df 34 = .ok (.iconst 1, 1) := by decide +kernel
theorem dJ5_init_d00df_35 : decode cJ5_init_d00df 35 = .ok (.putfield 22, 3) := by decide +kernel
theorem dJ5_init_d00df_38 : decode cJ5_init_d00df 38 = .ok (.return_, 1) := by decide +kernel
theorem dJ5_init_a7421_0 : decode cJ5_init_a7421 0 = .ok (.aload_n 0, 1) := by decide +kernel
theorem dJ5_init_a7421_1 : decode cJ5_init_a7421 1 = .ok (.invokespecial 3, 3) := by decide +kernel
theorem dJ5_init_a7421_4 : decode cJ5_init_a7421 4 = .ok (.aload_n 1, 1) := by decide +kernel
theorem dJ5_init_a7421_5 : decode cJ5_init_a7421 5 = .ok (.invokevirtual 32, 3) := by decide +kernel
theorem dJ5_init_a7421_8 : decode cJ5_init_a7421 8 = .ok (.istore_n 2, 1) := by decide +kernel
theorem dJ5_init_a7421_9 : decode cJ5_init_a7421 9 = .ok (.iload_n 2, 1) := by decide +kernel
theorem dJ5_init_a7421_10 : decode cJ5_init_a7421 10 = .ok (.ldc 38, 2) := by decide +kernel
theorem dJ5_init_a7421_12 : decode cJ5_init_a7421 12 = .ok (.if_icmp .ge 10, 3) := by decide +kernel
theorem dJ5_init_a7421_15 : decode cJ5_init_a7421 15 = .ok (.iload_n 2, 1) := by decide +kernel
theorem dJ5_init_a7421_16 : decode cJ5_init_a7421 16 = .ok (.bipush 16, 2) := by decide +kernel
theorem dJ5_init_a7421_18 : decode cJ5_init_a7421 18 = .ok (.iadd, 1) := by decide +kernel
theorem dJ5_init_a7421_19 : decode cJ5_init_a7421 19 = .ok (.goto 5, 3) := by decide +kernel
theorem dJ5_init_a7421_22 : decode cJ5_init_a7421 22 = .ok (.ldc 39, 2) := by decide +kernel
theorem dJ5_init_a7421_24 : decode cJ5_init_a7421 24 = .ok (.istore_n 3, 1) := by decide +kernel
theorem dJ5_init_a7421_25 : decode cJ5_init_a7421 25 = .ok (.aload_n 1, 1) := by decide +kernel
theorem dJ5_init_a7421_26 : decode cJ5_init_a7421 26 = .ok (.invokevirtual 40, 3) := by decide +kernel
theorem dJ5_init_a7421_29 : decode cJ5_init_a7421 29 = .ok (.istore 4, 2) := by decide +kernel
theorem dJ5_init_a7421_31 : decode cJ5_init_a7421 31 = .ok (.aload_n 0, 1) := by decide +kernel
theorem dJ5_init_a7421_32 : decode cJ5_init_a7421 32 = .ok (.iload 4, 2) := by decide +kernel
theorem dJ5_init_a7421_34 : decode cJ5_init_a7421 34 = .ok (.putfield 22, 3) := by decide +kernel
theorem dJ5_init_a7421_37 : decode cJ5_init_a7421 37 = .ok (.aload_n 0, 1) := by decide +kernel
theorem dJ5_init_a7421_38 : decode cJ5_init_a7421 38 = .ok (.iload 4, 2) := by decide +kernel
theorem dJ5_init_a7421_40 : decode cJ5_init_a7421 40 = .ok (.ifCond .ne 9, 3) := by decide +kernel
theorem dJ5_init_a7421_43 : decode cJ5_init_a7421 43 = .ok (.iload_n 3, 1) := by decide +kernel
theorem dJ5_init_a7421_44 : decode cJ5_init_a7421 44 = .ok (.newarray .byte, 2) := by decide +kernel
theorem dJ5_init_a7421_46 : decode cJ5_init_a7421 46 = .ok (.goto 7, 3) := by decide +kernel
theorem dJ5_init_a7421_49 : decode cJ5_init_a7421 49 = .ok (.iload_n 3, 1) := by decide +kernel
theorem dJ5_init_a7421_50 : decode cJ5_init_a7421 50 = .ok (.invokestatic 26, 3) := by decide +kernel
theorem dJ5_init_a7421_53 : decode cJ5_init_a7421 53 = .ok (.putfield 15, 3) := by decide +kernel
theorem dJ5_init_a7421_56 : decode cJ5_init_a7421 56 = .ok (.aload_n 0, 1) := by decide +kernel
theorem dJ5_init_a7421_57 : decode cJ5_init_a7421 57 = .ok (.aload_n 1, 1) := by decide +kernel
theorem dJ5_init_a7421_58 : decode cJ5_init_a7421 58 = .ok (.invokevirtual 43, 3) := by decide +kernel
theorem dJ5_init_a7421_61 : decode cJ5_init_a7421 61 = .ok (.pop, 1) := by decide +kernel
theorem dJ5_init_a7421_62 : decode cJ5_init_a7421 62 = .ok (.return_, 1) := by decide +kernel
theorem dJ5_length_8abf5_0 : decode cJ5_length_8abf5 0 = .ok (.aload_n 0, 1) := by decide +kernel
theorem dJ5_length_8abf5_1 : decode cJ5_length_8abf5 1 = .ok (.getfield 79, 3) := by decide +kernel
theorem dJ5_length_8abf5_4 : decode cJ5_length_8abf5 4 = .ok (.ireturn, 1) := by decide +kernel
theorem dJ5_ensureCapacityInternal_d00df_0 : decode cJ5_ensureCapacityInternal_d00df 0 = .ok (.aload_n 0, 1) := by decide +kernel
theorem dJ5_ensureCapacityInternal_d00df_1 : decode cJ5_ensureCapacityInternal_d00df 1 = .ok (.getfield 15, 3) := by decide +kernel
theorem dJ5_ensureCapacityInternal_d00df_4 : decode cJ5_ensureCapacityInternal_d00df 4 = .ok (.arraylength, 1) := by decide +kernel
theorem dJ5_ensureCapacityInternal_d00df_5 : decode cJ5_ensureCapacityInternal_d00df 5 = .ok (.aload_n 0, 1) := by decide +kernel
theorem dJ5_ensureCapacityInternal_d00df_6 : decode cJ5_ensureCapacityInternal_d00df 6 = .ok (.getfield 22, 3) := by decide +kernel
theorem dJ5_ensureCapacityInternal_d00df_9 : decode cJ5_ensureCapacityInternal_d00df 9 = .ok (.ishr, 1) := by decide +kernel
theorem dJ5_ensureCapacityInternal_d00df_10 : decode cJ5_ensureCapacityInternal_d00df 10 = .ok (.istore_n 2, 1) := by decide +kernel
theorem dJ5_ensureCapacityInternal_d00df_11 : decode cJ5_ensureCapacityInternal_d00df 11 = .ok (.iload_n 1, 1) := by decide +kernel
theorem dJ5_ensureCapacityInternal_d00df_12 : decode cJ5_ensureCapacityInternal_d00df 12 = .ok (.iload_n 2, 1) := by decide +kernel
theorem dJ5_ensureCapacityInternal_d00df_13 : decode cJ5_ensureCapacityInternal_d00df 13 = .ok (.isub, 1) := by decide +kernel
theorem dJ5_ensureCapacityInternal_d00df_14 : decode cJ5_ensureCapacityInternal_d00df 14 = .ok (.ifCond .le 24, 3) := by decide +kernel
theorem dJ5_ensureCapacityInternal_d00df_17 : decode cJ5_ensureCapacityInternal_d00df 17 = .ok (.aload_n 0, 1) := by decide +kernel
theorem dJ5_ensureCapacityInternal_d00df_18 : decode cJ5_ensureCapacityInternal_d00df 18 = .ok (.aload_n 0, 1) := by decide +kernel
theorem dJ5_ensureCapacityInternal_d00df_19 : decode cJ5_ensureCapacityInternal_d00df 19 = .ok (.getfield 15, 3) := by decide +kernel
theorem dJ5_ensureCapacityInternal_d00df_22 : decode cJ5_ensureCapacityInternal_d00df 22 = .ok (.aload_n 0, 1) := by decide +kernel
theorem dJ5_ensureCapacityInternal_d00df_23 : decode cJ5_ensureCapacityInternal_d00df 23 = .ok (.iload_n 1, 1) := by decide +kernel
theorem dJ5_ensureCapacityInternal_d00df_24 : decode cJ5_ensureCapacityInternal_d00df 24 = .ok (.invokevirtual 104, 3) := by decide +kernel
theorem dJ5_ensureCapacityInternal_d00df_27 : decode cJ5_ensureCapacityInternal_d00df 27 = .ok (.aload_n 0, 1) := by decide +kernel
theorem dJ5_ensureCapacityInternal_d00df_28 : decode cJ5_ensureCapacityInternal_d00df 28 = .ok (.getfield 22, 3) := by decide +kernel
theorem dJ5_ensureCapacityInternal_d00df_31 : decode cJ5_ensureCapacityInternal_d00df 31 = .ok (.ishl, 1) := by decide +kernel
theorem dJ5_ensureCapacityInternal_d00df_32 : decode cJ5_ensureCapacityInternal_d00df 32 = .ok (.invokestatic 108, 3) := by decide +kernel
theorem dJ5_ensureCapacityInternal_d00df_35 : decode cJ5_ensureCapacityInternal_d00df 35 = .ok (.putfield 15, 3) := by decide +kernel
theorem dJ5_ensureCapacityInternal_d00df_38 : decode cJ5_ensureCapacityInternal_d00df 38 = .ok (.return_, 1) := by decide +kernel
theorem dJ5_newCapacity_0f7a4_0 : decode cJ5_newCapacity_0f7a4 0 = .ok (.aload_n 0, 1) := by decide +kernel
theorem dJ5_newCapacity_0f7a4_1 : decode cJ5_newCapacity_0f7a4 1 = .ok (.getfield 15, 3) := by decide +kernel
theorem dJ5_newCapacity_0f7a4_4 : decode cJ5_newCapacity_0f7a4 4 = .ok (.arraylength, 1) := by decide +kernel
theorem dJ5_newCapacity_0f7a4_5 : decode cJ5_newCapacity_0f7a4 5 = .ok (.istore_n 2, 1) := by decide +kernel
theorem dJ5_newCapacity_0f7a4_6 : decode cJ5_newCapacity_0f7a4 6 = .ok (.iload_n 1, 1) := by decide +kernel
theorem dJ5_newCapacity_0f7a4_7 : decode cJ5_newCapacity_0f7a4 7 = .ok (.aload_n 0, 1) := by decide +kernel
theorem dJ5_newCapacity_0f7a4_8 : decode cJ5_newCapacity_0f7a4 8 = .ok (.getfield 22, 3) := by decide +kernel
theorem dJ5_newCapacity_0f7a4_11 : decode cJ5_newCapacity_0f7a4 11 = .ok (.ishl, 1) := by decide +kernel
theorem dJ5_newCapacity_0f7a4_12 : decode cJ5_newCapacity_0f7a4 12 = .ok (.istore_n 3, 1) := by decide +kernel
theorem dJ5_newCapacity_0f7a4_13 : decode cJ5_newCapacity_0f7a4 13 = .ok (.iload_n 3, 1) := by decide +kernel
theorem dJ5_newCapacity_0f7a4_14 : decode cJ5_newCapacity_0f7a4 14 = .ok (.iload_n 2, 1) := by decide +kernel
theorem dJ5_newCapacity_0f7a4_15 : decode cJ5_newCapacity_0f7a4 15 = .ok (.isub, 1) := by decide +kernel
theorem dJ5_newCapacity_0f7a4_16 : decode cJ5_newCapacity_0f7a4 16 = .ok (.istore 4, 2) := by decide +kernel
theorem dJ5_newCapacity_0f7a4_18 : decode cJ5_newCapacity_0f7a4 18 = .ok (.iload_n 2, 1) := by decide +kernel
theorem dJ5_newCapacity_0f7a4_19 : decode cJ5_newCapacity_0f7a4 19 = .ok (.iload 4, 2) := by decide +kernel
theorem dJ5_newCapacity_0f7a4_21 : decode cJ5_newCapacity_0f7a4 21 = .ok (.iload_n 2, 1) := by decide +kernel
theorem dJ5_newCapacity_0f7a4_22 : decode cJ5_newCapacity_0f7a4 22 = .ok (.iconst 2, 1) := by decide +kernel
theorem dJ5_newCapacity_0f7a4_23 : decode cJ5_newCapacity_0f7a4 23 = .ok (.aload_n 0, 1) := by decide +kernel
theorem dJ5_newCapacity_0f7a4_24 : decode cJ5_newCapacity_0f7a4 24 = .ok (.getfield 22, 3) := by decide +kernel
theorem dJ5_newCapacity_0f7a4_27 : decode cJ5_newCapacity_0f7a4 27 = .ok (.ishl, 1) := by decide +kernel
theorem dJ5_newCapacity_0f7a4_28 : decode cJ5_newCapacity_0f7a4 28 = .ok (.iadd, 1) := by decide +kernel
theorem dJ5_newCapacity_0f7a4_29 : decode cJ5_newCapacity_0f7a4 29 = .ok (.invokestatic 114, 3) := by decide +kernel
theorem dJ5_newCapacity_0f7a4_32 : decode cJ5_newCapacity_0f7a4 32 = .ok (.istore 5, 2) := by decide +kernel
theorem dJ5_newCapacity_0f7a4_34 : decode cJ5_newCapacity_0f7a4 34 = .ok (.iload 5, 2) := by decide +kernel
theorem dJ5_newCapacity_0f7a4_36 : decode cJ5_newCapacity_0f7a4 36 = .ok (.ldc 39, 2) := by decide +kernel
theorem dJ5_newCapacity_0f7a4_38 : decode cJ5_newCapacity_0f7a4 38 = .ok (.if_icmp .ne 13, 3) := by decide +kernel
theorem dJ5_newCapacity_0f7a4_41 : decode cJ5_newCapacity_0f7a4 41 = .ok (.new 120, 3) := by decide +kernel
theorem dJ5_newCapacity_0f7a4_44 : decode cJ5_newCapacity_0f7a4 44 = .ok (.dup, 1) := by decide +kernel
theorem dJ5_newCapacity_0f7a4_45 : decode cJ5_newCapacity_0f7a4 45 = .ok (.ldc 122, 2) := by decide +kernel
theorem dJ5_newCapacity_0f7a4_47 : decode cJ5_newCapacity_0f7a4 47 = .ok (.invokespecial 124, 3) := by decide +kernel
theorem dJ5_newCapacity_0f7a4_50 : decode cJ5_newCapacity_0f7a4 50 = .ok (.athrow, 1) := by decide +kernel
theorem dJ5_newCapacity_0f7a4_51 : decode cJ5_newCapacity_0f7a4 51 = .ok (.iload 5, 2) := by decide +kernel
theorem dJ5_newCapacity_0f7a4_53 : decode cJ5_newCapacity_0f7a4 53 = .ok (.aload_n 0, 1) := by decide +kernel
theorem dJ5_newCapacity_0f7a4_54 : decode cJ5_newCapacity_0f7a4 54 = .ok (.getfield 22, 3) := by decide +kernel
theorem dJ5_newCapacity_0f7a4_57 : decode cJ5_newCapacity_0f7a4 57 = .ok (.ishr, 1) := by decide +kernel
theorem dJ5_newCapacity_0f7a4_58 : decode cJ5_newCapacity_0f7a4 58 = .ok (.ireturn, 1) := by decide +kernel
theorem dJ5_inflate_da8c8_0 : decode cJ5_inflate_da8c8 0 = .ok (.aload_n 0, 1) := by decide +kernel
theorem dJ5_inflate_da8c8_1 : decode cJ5_inflate_da8c8 1 = .ok (.invokevirtual 83, 3) := by decide +kernel
theorem dJ5_inflate_da8c8_4 : decode cJ5_inflate_da8c8 4 = .ok (.ifCond .ne 4, 3) := by decide +kernel
theorem dJ5_inflate_da8c8_7 : decode cJ5_inflate_da8c8 7 = .ok (.return_, 1) := by decide +kernel
theorem dJ5_inflate_da8c8_8 : decode cJ5_inflate_da8c8 8 = .ok (.aload_n 0, 1) := by decide +kernel
theorem dJ5_inflate_da8c8_9 : decode cJ5_inflate_da8c8 9 = .ok (.getfield 15, 3) := by decide +kernel
theorem dJ5_inflate_da8c8_12 : decode cJ5_inflate_da8c8 12 = .ok (.arraylength, 1) := by decide +kernel
theorem dJ5_inflate_da8c8_13 : decode cJ5_inflate_da8c8 13 = .ok (.invokestatic 26, 3) := by decide +kernel
theorem dJ5_inflate_da8c8_16 : decode cJ5_inflate_da8c8 16 = .ok (.astore_n 1, 1) := by decide +kernel
theorem dJ5_inflate_da8c8_17 : decode cJ5_inflate_da8c8 17 = .ok (.aload_n 0, 1) := by decide +kernel
theorem dJ5_inflate_da8c8_18 : decode cJ5_inflate_da8c8 18 = .ok (.getfield 15, 3) := by decide +kernel
theorem dJ5_inflate_da8c8_21 : decode cJ5_inflate_da8c8 21 = .ok (.iconst 0, 1) := by decide +kernel
theorem dJ5_inflate_da8c8_22 : decode cJ5_inflate_da8c8 22 = .ok (.aload_n 1, 1) := by decide +kernel
theorem dJ5_inflate_da8c8_23 : decode cJ5_inflate_da8c8 23 = .ok (.iconst 0, 1) := by decide +kernel
theorem dJ5_inflate_da8c8_24 : decode cJ5_inflate_da8c8 24 = .ok (.aload_n 0, 1) := by decide +kernel
theorem dJ5_inflate_da8c8_25 : decode cJ5_inflate_da8c8 25 = .ok (.getfield 79, 3) := by decide +kernel
theorem dJ5_inflate_da8c8_28 : decode cJ5_inflate_da8c8 28 = .ok (.invokestatic 125, 3) := by decide +kernel
theorem dJ5_inflate_da8c8_31 : decode cJ5_inflate_da8c8 31 = .ok (.aload_n 0, 1) := by decide +kernel
theorem dJ5_inflate_da8c8_32 : decode cJ5_inflate_da8c8 32 = .ok (.aload_n 1, 1) := by decide +kernel
theorem dJ5_inflate_da8c8_33 : decode cJ5_inflate_da8c8 33 = .ok (.putfield 15, 3) := by decide +kernel
theorem dJ5_inflate_da8c8_36 : decode cJ5_inflate_da8c8 36 = .ok (.aload_n 0, 1) := by decide +kernel
theorem dJ5_inflate_da8c8_37 : decode cJ5_inflate_da8c8 37 = .ok (.iconst 1, 1) := by decide +kernel
theorem dJ5_inflate_da8c8_38 : decode cJ5_inflate_da8c8 38 = .ok (.putfield 22, 3) := by decide +kernel
theorem dJ5_inflate_da8c8_41 : decode cJ5_inflate_da8c8 41 = .ok (.return_, 1) := by decide +kernel
theorem dJ5_setLength_d00df_0 : decode cJ5_setLength_d00df 0 = .ok (.iload_n 1, 1) := by decide +kernel
theorem dJ5_setLength_d00df_1 : decode cJ5_setLength_d00df 1 = .ok (.ifCond .ge 12, 3) := by decide +kernel
theorem dJ5_setLength_d00df_4 : decode cJ5_setLength_d00df 4 = .ok (.new 129, 3) := by decide +kernel
theorem dJ5_setLength_d00df_7 : decode cJ5_setLength_d00df 7 = .ok (.dup, 1) := by decide +kernel
theorem dJ5_setLength_d00df_8 : decode cJ5_setLength_d00df 8 = .ok (.iload_n 1, 1) := by decide +kernel
theorem dJ5_setLength_d00df_9 : decode cJ5_setLength_d00df 9 = .ok (.invokespecial 131, 3) := by decide +kernel
theorem dJ5_setLength_d00df_12 : decode cJ5_setLength_d00df 12 = .ok (.athrow, 1) := by decide +kernel
theorem dJ5_setLength_d00df_13 : decode cJ5_setLength_d00df 13 = .ok (.aload_n 0, 1) := by decide +kernel
theorem dJ5_setLength_d00df_14 : decode cJ5_setLength_d00df 14 = .ok (.iload_n 1, 1) := by decide +kernel
theorem dJ5_setLength_d00df_15 : decode cJ5_setLength_d00df 15 = .ok (.invokevirtual 100, 3) := by decide +kernel
theorem dJ5_setLength_d00df_18 : decode cJ5_setLength_d00df 18 = .ok (.aload_n 0, 1) := by decide +kernel
theorem dJ5_setLength_d00df_19 : decode cJ5_setLength_d00df 19 = .ok (.getfield 79, 3) := by decide +kernel
theorem dJ5_setLength_d00df_22 : decode cJ5_setLength_d00df 22 = .ok (.iload_n 1, 1) := by decide +kernel
theorem dJ5_setLength_d00df_23 : decode cJ5_setLength_d00df 23 = .ok (.if_icmp .ge 40, 3) := by decide +kernel
theorem dJ5_setLength_d00df_26 : decode cJ5_setLength_d00df 26 = .ok (.aload_n 0, 1) := by decide +kernel
theorem dJ5_setLength_d00df_27 : decode cJ5_setLength_d00df 27 = .ok (.invokevirtual 83, 3) := by decide +kernel
theorem dJ5_setLength_d00df_30 : decode cJ5_setLength_d00df 30 = .ok (.ifCond .eq 18, 3) := by decide +kernel
theorem dJ5_setLength_d00df_33 : decode cJ5_setLength_d00df 33 = .ok (.aload_n 0, 1) := by decide +kernel
theorem dJ5_setLength_d00df_34 : decode cJ5_setLength_d00df 34 = .ok (.getfield 15, 3) := by decide +kernel
theorem dJ5_setLength_d00df_37 : decode cJ5_setLength_d00df 37 = .ok (.aload_n 0, 1) := by decide +kernel
theorem dJ5_setLength_d00df_38 : decode cJ5_setLength_d00df 38 = .ok (.getfield 79, 3) := by decide +kernel
theorem dJ5_setLength_d00df_41 : decode cJ5_setLength_d00df 41 = .ok (.iload_n 1, 1) := by decide +kernel
theorem dJ5_setLength_d00df_42 : decode cJ5_setLength_d00df 42 = .ok (.invokestatic 133, 3) := by decide +kernel
theorem dJ5_setLength_d00df_45 : decode cJ5_setLength_d00df 45 = .ok (.goto 31, 3) := by decide +kernel
theorem dJ5_setLength_d00df_48 : decode cJ5_setLength_d00df 48 = .ok (.aload_n 0, 1) := by decide +kernel
theorem dJ5_setLength_d00df_49 : decode cJ5_setLength_d00df 49 = .ok (.getfield 15, 3) := by decide +kernel
theorem dJ5_setLength_d00df_52 : decode cJ5_setLength_d00df 52 = .ok (.aload_n 0, 1) := by decide +kernel
theorem dJ5_setLength_d00df_53 : decode cJ5_setLength_d00df 53 = .ok (.getfield 79, 3) := by decide +kernel
theorem dJ5_setLength_d00df_56 : decode cJ5_setLength_d00df 56 = .ok (.iload_n 1, 1) := by decide +kernel
theorem dJ5_setLength_d00df_57 : decode cJ5_setLength_d00df 57 = .ok (.invokestatic 137, 3) := by decide +kernel
theorem dJ5_setLength_d00df_60 : decode cJ5_setLength_d00df 60 = .ok (.goto 16, 3) := by decide +kernel
theorem dJ5_setLength_d00df_63 : decode cJ5_setLength_d00df 63 = .ok (.aload_n 0, 1) := by decide +kernel
theorem dJ5_setLength_d00df_64 : decode cJ5_setLength_d00df 64 = .ok (.getfield 79, 3) := by decide +kernel
theorem dJ5_setLength_d00df_67 : decode cJ5_setLength_d00df 67 = .ok (.iload_n 1, 1) := by decide +kernel
theorem dJ5_setLength_d00df_68 : decode cJ5_setLength_d00df 68 = .ok (.if_icmp .le 8, 3) := by decide +kernel
theorem dJ5_setLength_d00df_71 : decode cJ5_setLength_d00df 71 = .ok (.aload_n 0, 1) := by decide +kernel
theorem dJ5_setLength_d00df_72 : decode cJ5_setLength_d00df 72 = .ok (.iconst 1, 1) := by decide +kernel
theorem dJ5_setLength_d00df_73 : decode cJ5_setLength_d00df 73 = .ok (.putfield 73, 3) := by decide +kernel
theorem dJ5_setLength_d00df_76 : decode cJ5_setLength_d00df 76 = .ok (.aload_n 0, 1) := by decide +kernel
theorem dJ5_setLength_d00df_77 : decode cJ5_setLength_d00df 77 = .ok (.iload_n 1, 1) := by decide +kernel
theorem dJ5_setLength_d00df_78 : decode cJ5_setLength_d00df 78 = .ok (.putfield 79, 3) := by decide +kernel
theorem dJ5_setLength_d00df_81 : decode cJ5_setLength_d00df 81 = .ok (.return_, 1) := by decide +kernel
theorem dJ5_charAt_5068e_0 : decode cJ5_charAt_5068e 0 = .ok (.aload_n 0, 1) := by decide +kernel
theorem dJ5_charAt_5068e_1 : decode cJ5_charAt_5068e 1 = .ok (.getfield 22, 3) := by decide +kernel
theorem dJ5_charAt_5068e_4 : decode cJ5_charAt_5068e 4 = .ok (.istore_n 2, 1) := by decide +kernel
theorem dJ5_charAt_5068e_5 : decode cJ5_charAt_5068e 5 = .ok (.aload_n 0, 1) := by decide +kernel
theorem dJ5_charAt_5068e_6 : decode cJ5_charAt_5068e 6 = .ok (.getfield 15, 3) := by decide +kernel
theorem dJ5_charAt_5068e_9 : decode cJ5_charAt_5068e 9 = .ok (.astore_n 3, 1) := by decide +kernel
theorem dJ5_charAt_5068e_10 : decode cJ5_charAt_5068e 10 = .ok (.aload_n 0, 1) := by decide +kernel
theorem dJ5_charAt_5068e_11 : decode cJ5_charAt_5068e 11 = .ok (.getfield 79, 3) := by decide +kernel
theorem dJ5_charAt_5068e_14 : decode cJ5_charAt_5068e 14 = .ok (.aload_n 3, 1) := by decide +kernel
theorem dJ5_charAt_5068e_15 : decode cJ5_charAt_5068e 15 = .ok (.arraylength, 1) := by decide +kernel
theorem dJ5_charAt_5068e_16 : decode cJ5_charAt_5068e 16 = .ok (.iload_n 2, 1) := by decide +kernel
theorem dJ5_charAt_5068e_17 : decode cJ5_charAt_5068e 17 = .ok (.ishr, 1) := by decide +kernel
theorem dJ5_charAt_5068e_18 : decode cJ5_charAt_5068e 18 = .ok (.invokestatic 138, 3) := by decide +kernel
theorem dJ5_charAt_5068e_21 : decode cJ5_charAt_5068e 21 = .ok (.istore 4, 2) := by decide +kernel
theorem dJ5_charAt_5068e_23 : decode cJ5_charAt_5068e 23 = .ok (.iload_n 1, 1) := by decide +kernel
theorem dJ5_charAt_5068e_24 : decode cJ5_charAt_5068e 24 = .ok (.iload 4, 2) := by decide +kernel
theorem dJ5_charAt_5068e_26 : decode cJ5_charAt_5068e 26 = .ok (.invokestatic 144, 3) := by decide +kernel
theorem dJ5_charAt_5068e_29 : decode cJ5_charAt_5068e 29 = .ok (.iload_n 2, 1) := by decide +kernel
theorem dJ5_charAt_5068e_30 : decode cJ5_charAt_5068e 30 = .ok (.ifCond .ne 12, 3) := by decide +kernel
theorem dJ5_charAt_5068e_33 : decode cJ5_charAt_5068e 33 = .ok (.aload_n 3, 1) := by decide +kernel
theorem dJ5_charAt_5068e_34 : decode cJ5_charAt_5068e 34 = .ok (.iload_n 1, 1) := by decide +kernel
theorem dJ5_charAt_5068e_35 : decode cJ5_charAt_5068e 35 = .ok (.baload, 1) := by decide +kernel
theorem dJ5_charAt_5068e_36 : decode cJ5_charAt_5068e 36 = .ok (.sipush 255, 3) := by decide +kernel
theorem dJ5_charAt_5068e_39 : decode cJ5_charAt_5068e 39 = .ok (.iand, 1) := by decide +kernel
theorem dJ5_charAt_5068e_40 : decode cJ5_charAt_5068e 40 = .ok (.i2c, 1) := by decide +kernel
theorem dJ5_charAt_5068e_41 : decode cJ5_charAt_5068e 41 = .ok (.ireturn, 1) := by decide +kernel
theorem dJ5_charAt_5068e_42 : decode cJ5_charAt_5068e 42 = .ok (.aload_n 3, 1) := by decide +kernel
theorem dJ5_charAt_5068e_43 : decode cJ5_charAt_5068e 43 = .ok (.iload_n 1, 1) := by decide +kernel
theorem dJ5_charAt_5068e_44 : decode cJ5_charAt_5068e 44 = .ok (.invokestatic 148, 3) := by decide +kernel
theorem dJ5_charAt_5068e_47 : decode cJ5_charAt_5068e 47 = .ok (.ireturn, 1) := by decide +kernel
theorem dJ5_append_cf1ce_0 : decode cJ5_append_cf1ce 0 = .ok (.aload_n 1, 1) := by decide +kernel
theorem dJ5_append_cf1ce_1 : decode cJ5_append_cf1ce 1 = .ok (.ifnonnull 8, 3) := by decide +kernel
theorem dJ5_append_cf1ce_4 : decode cJ5_append_cf1ce 4 = .ok (.aload_n 0, 1) := by decide +kernel
theorem dJ5_append_cf1ce_5 : decode cJ5_append_cf1ce 5 = .ok (.invokevirtual 204, 3) := by decide +kernel
theorem dJ5_append_cf1ce_8 : decode cJ5_append_cf1ce 8 = .ok (.areturn, 1) := by decide +kernel
theorem dJ5_append_cf1ce_9 : decode cJ5_append_cf1ce 9 = .ok (.aload_n 1, 1) := by decide +kernel
theorem dJ5_append_cf1ce_10 : decode cJ5_append_cf1ce 10 = .ok (.invokevirtual 32, 3) := by decide +kernel
theorem dJ5_append_cf1ce_13 : decode cJ5_append_cf1ce 13 = .ok (.istore_n 2, 1) := by decide +kernel
theorem dJ5_append_cf1ce_14 : decode cJ5_append_cf1ce 14 = .ok (.aload_n 0, 1) := by decide +kernel
theorem dJ5_append_cf1ce_15 : decode cJ5_append_cf1ce 15 = .ok (.aload_n 0, 1) := by decide +kernel
theorem dJ5_append_cf1ce_16 : decode cJ5_append_cf1ce 16 = .ok (.getfield 79, 3) := by decide +kernel
theorem dJ5_append_cf1ce_19 : decode cJ5_append_cf1ce 19 = .ok (.iload_n 2, 1) := by decide +kernel
theorem dJ5_append_cf1ce_20 : decode cJ5_append_cf1ce 20 = .ok (.iadd, 1) := by decide +kernel
theorem dJ5_append_cf1ce_21 : decode cJ5_append_cf1ce 21 = .ok (.invokevirtual 100, 3) := by decide +kernel
theorem dJ5_append_cf1ce_24 : decode cJ5_append_cf1ce 24 = .ok (.aload_n 0, 1) := by decide +kernel
theorem dJ5_append_cf1ce_25 : decode cJ5_append_cf1ce 25 = .ok (.aload_n 0, 1) := by decide +kernel
theorem dJ5_append_cf1ce_26 : decode cJ5_append_cf1ce 26 = .ok (.getfield 79, 3) := by decide +kernel
theorem dJ5_append_cf1ce_29 : decode cJ5_append_cf1ce 29 = .ok (.aload_n 1, 1) := by decide +kernel
theorem dJ5_append_cf1ce_30 : decode cJ5_append_cf1ce 30 = .ok (.invokevirtual 208, 3) := by decide +kernel
theorem dJ5_append_cf1ce_33 : decode cJ5_append_cf1ce 33 = .ok (.aload_n 0, 1) := by decide +kernel
theorem dJ5_append_cf1ce_34 : decode cJ5_append_cf1ce 34 = .ok (.dup, 1) := by decide +kernel
theorem dJ5_append_cf1ce_35 : decode cJ5_append_cf1ce 35 = .ok (.getfield 79, 3) := by decide +kernel
theorem dJ5_append_cf1ce_38 : decode cJ5_append_cf1ce 38 = .ok (.iload_n 2, 1) := by decide +kernel
theorem dJ5_append_cf1ce_39 : decode cJ5_append_cf1ce 39 = .ok (.iadd, 1) := by decide +kernel
theorem dJ5_append_cf1ce_40 : decode cJ5_append_cf1ce 40 = .ok (.putfield 79, 3) := by decide +kernel
theorem dJ5_append_cf1ce_43 : decode cJ5_append_cf1ce 43 = .ok (.aload_n 0, 1) := by decide +kernel
theorem dJ5_append_cf1ce_44 : decode cJ5_append_cf1ce 44 = .ok (.areturn, 1) := by decide +kernel
theorem dJ5_appendNull_278bc_0 : decode cJ5_appendNull_278bc 0 = .ok (.aload_n 0, 1) := by decide +kernel
theorem dJ5_appendNull_278bc_1 : decode cJ5_appendNull_278bc 1 = .ok (.aload_n 0, 1) := by decide +kernel
theorem dJ5_appendNull_278bc_2 : decode cJ5_appendNull_278bc 2 = .ok (.getfield 79, 3) := by decide +kernel
theorem dJ5_appendNull_278bc_5 : decode cJ5_appendNull_278bc 5 = .ok (.iconst 4, 1) := by decide +kernel
theorem dJ5_appendNull_278bc_6 : decode cJ5_appendNull_278bc 6 = .ok (.iadd, 1) := by decide +kernel
theorem dJ5_appendNull_278bc_7 : decode cJ5_appendNull_278bc 7 = .ok (.invokevirtual 100, 3) := by decide +kernel
theorem dJ5_appendNull_278bc_10 : decode cJ5_appendNull_278bc 10 = .ok (.aload_n 0, 1) := by decide +kernel
theorem dJ5_appendNull_278bc_11 : decode cJ5_appendNull_278bc 11 = .ok (.getfield 79, 3) := by decide +kernel
theorem dJ5_appendNull_278bc_14 : decode cJ5_appendNull_278bc 14 = .ok (.istore_n 1, 1) := by decide +kernel
theorem dJ5_appendNull_278bc_15 : decode cJ5_appendNull_278bc 15 = .ok (.aload_n 0, 1) := by decide +kernel
theorem dJ5_appendNull_278bc_16 : decode cJ5_appendNull_278bc 16 = .ok (.getfield 15, 3) := by decide +kernel
theorem dJ5_appendNull_278bc_19 : decode cJ5_appendNull_278bc 19 = .ok (.astore_n 2, 1) := by decide +kernel
theorem dJ5_appendNull_278bc_20 : decode cJ5_appendNull_278bc 20 = .ok (.aload_n 0, 1) := by decide +kernel
theorem dJ5_appendNull_278bc_21 : decode cJ5_appendNull_278bc 21 = .ok (.invokevirtual 83, 3) := by decide +kernel
theorem dJ5_appendNull_278bc_24 : decode cJ5_appendNull_278bc 24 = .ok (.ifCond .eq 38, 3) := by decide +kernel
theorem dJ5_appendNull_278bc_27 : decode cJ5_appendNull_278bc 27 = .ok (.aload_n 2, 1) := by decide +kernel
theorem dJ5_appendNull_278bc_28 : decode cJ5_appendNull_278bc 28 = .ok (.iload_n 1, 1) := by decide +kernel
theorem dJ5_appendNull_278bc_29 : decode cJ5_appendNull_278bc 29 = .ok (.iinc 1 1, 3) := by decide +kernel
theorem dJ5_appendNull_278bc_32 : decode cJ5_appendNull_278bc 32 = .ok (.bipush 110, 2) := by decide +kernel
theorem dJ5_appendNull_278bc_34 : decode cJ5_appendNull_278bc 34 = .ok (.bastore, 1) := by decide +kernel
theorem dJ5_appendNull_278bc_35 : decode cJ5_appendNull_278bc 35 = .ok (.aload_n 2, 1) := by decide +kernel
theorem dJ5_appendNull_278bc_36 : decode cJ5_appendNull_278bc 36 = .ok (.iload_n 1, 1) := by decide +kernel
theorem dJ5_appendNull_278bc_37 : decode cJ5_appendNull_278bc 37 = .ok (.iinc 1 1, 3) := by decide +kernel
theorem dJ5_appendNull_278bc_40 : decode cJ5_appendNull_278bc 40 = .ok (.bipush 117, 2) := by decide +kernel
theorem dJ5_appendNull_278bc_42 : decode cJ5_appendNull_278bc 42 = .ok (.bastore, 1) := by decide +kernel
theorem dJ5_appendNull_278bc_43 : decode cJ5_appendNull_278bc 43 = .ok (.aload_n 2, 1) := by decide +kernel
theorem dJ5_appendNull_278bc_44 : decode cJ5_appendNull_278bc 44 = .ok (.iload_n 1, 1) := by decide +kernel
theorem dJ5_appendNull_278bc_45 : decode cJ5_appendNull_278bc 45 = .ok (.iinc 1 1, 3) := by decide +kernel
theorem dJ5_appendNull_278bc_48 : decode cJ5_appendNull_278bc 48 = .ok (.bipush 108, 2) := by decide +kernel
theorem dJ5_appendNull_278bc_50 : decode cJ5_appendNull_278bc 50 = .ok (.bastore, 1) := by decide +kernel
theorem dJ5_appendNull_278bc_51 : decode cJ5_appendNull_278bc 51 = .ok (.aload_n 2, 1) := by decide +kernel
theorem dJ5_appendNull_278bc_52 : decode cJ5_appendNull_278bc 52 = .ok (.iload_n 1, 1) := by decide +kernel
theorem dJ5_appendNull_278bc_53 : decode cJ5_appendNull_278bc 53 = .ok (.iinc 1 1, 3) := by decide +kernel
theorem dJ5_appendNull_278bc_56 : decode cJ5_appendNull_278bc 56 = .ok (.bipush 108, 2) := by decide +kernel
theorem dJ5_appendNull_278bc_58 : decode cJ5_appendNull_278bc 58 = .ok (.bastore, 1) := by decide +kernel
theorem dJ5_appendNull_278bc_59 : decode cJ5_appendNull_278bc 59 = .ok (.goto 17, 3) := by decide +kernel
theorem dJ5_appendNull_278bc_62 : decode cJ5_appendNull_278bc 62 = .ok (.aload_n 2, 1) := by decide +kernel
theorem dJ5_appendNull_278bc_63 : decode cJ5_appendNull_278bc 63 = .ok (.iload_n 1, 1) := by decide +kernel
theorem dJ5_appendNull_278bc_64 : decode cJ5_appendNull_278bc 64 = .ok (.bipush 110, 2) := by decide +kernel
theorem dJ5_appendNull_278bc_66 : decode cJ5_appendNull_278bc 66 = .ok (.bipush 117, 2) := by decide +kernel
theorem dJ5_appendNull_278bc_68 : decode cJ5_appendNull_278bc 68 = .ok (.bipush 108, 2) := by decide +kernel
theorem dJ5_appendNull_278bc_70 : decode cJ5_appendNull_278bc 70 = .ok (.bipush 108, 2) := by decide +kernel
theorem dJ5_appendNull_278bc_72 : decode cJ5_appendNull_278bc 72 = .ok (.invokestatic 226, 3) := by decide +kernel
theorem dJ5_appendNull_278bc_75 : decode cJ5_appendNull_278bc 75 = .ok (.istore_n 1, 1) := by decide +kernel
theorem dJ5_appendNull_278bc_76 : decode cJ5_appendNull_278bc 76 = .ok (.aload_n 0, 1) := by decide +kernel
theorem dJ5_appendNull_278bc_77 : decode cJ5_appendNull_278bc 77 = .ok (.iload_n 1, 1) := by decide +kernel
theorem dJ5_appendNull_278bc_78 : decode cJ5_appendNull_278bc 78 = .ok (.putfield 79, 3) := by decide +kernel
theorem dJ5_appendNull_278bc_81 : decode cJ5_appendNull_278bc 81 = .ok (.aload_n 0, 1) := by decide +kernel
theorem dJ5_appendNull_278bc_82 : decode cJ5_appendNull_278bc 82 = .ok (.areturn, 1) := by decide +kernel
theorem dJ5_append_3fe6f_0 : decode cJ5_append_3fe6f 0 = .ok (.aload_n 0, 1) := by decide +kernel
theorem dJ5_append_3fe6f_1 : decode cJ5_append_3fe6f 1 = .ok (.aload_n 0, 1) := by decide +kernel
theorem dJ5_append_3fe6f_2 : decode cJ5_append_3fe6f 2 = .ok (.getfield 79, 3) := by decide +kernel
theorem dJ5_append_3fe6f_5 : decode cJ5_append_3fe6f 5 = .ok (.iconst 1, 1) := by decide +kernel
theorem dJ5_append_3fe6f_6 : decode cJ5_append_3fe6f 6 = .ok (.iadd, 1) := by decide +kernel
theorem dJ5_append_3fe6f_7 : decode cJ5_append_3fe6f 7 = .ok (.invokevirtual 100, 3) := by decide +kernel
theorem dJ5_append_3fe6f_10 : decode cJ5_append_3fe6f 10 = .ok (.aload_n 0, 1) := by decide +kernel
theorem dJ5_append_3fe6f_11 : decode cJ5_append_3fe6f 11 = .ok (.invokevirtual 83, 3) := by decide +kernel
theorem dJ5_append_3fe6f_14 : decode cJ5_append_3fe6f 14 = .ok (.ifCond .eq 31, 3) := by decide +kernel
theorem dJ5_append_3fe6f_17 : decode cJ5_append_3fe6f 17 = .ok (.iload_n 1, 1) := by decide +kernel
theorem dJ5_append_3fe6f_18 : decode cJ5_append_3fe6f 18 = .ok (.invokestatic 191, 3) := by decide +kernel
theorem dJ5_append_3fe6f_21 : decode cJ5_append_3fe6f 21 = .ok (.ifCond .eq 24, 3) := by decide +kernel
theorem dJ5_append_3fe6f_24 : decode cJ5_append_3fe6f 24 = .ok (.aload_n 0, 1) := by decide +kernel
theorem dJ5_append_3fe6f_25 : decode cJ5_append_3fe6f 25 = .ok (.getfield 15, 3) := by decide +kernel
theorem dJ5_append_3fe6f_28 : decode cJ5_append_3fe6f 28 = .ok (.aload_n 0, 1) := by decide +kernel
theorem dJ5_append_3fe6f_29 : decode cJ5_append_3fe6f 29 = .ok (.dup, 1) := by decide +kernel
theorem dJ5_append_3fe6f_30 : decode cJ5_append_3fe6f 30 = .ok (.getfield 79, 3) := by decide +kernel
theorem dJ5_append_3fe6f_33 : decode cJ5_append_3fe6f 33 = .ok (.dup_x1, 1) := by decide +kernel
theorem dJ5_append_3fe6f_34 : decode cJ5_append_3fe6f 34 = .ok (.iconst 1, 1) := by decide +kernel
theorem dJ5_append_3fe6f_35 : decode cJ5_append_3fe6f 35 = .ok (.iadd, 1) := by decide +kernel
theorem dJ5_append_3fe6f_36 : decode cJ5_append_3fe6f 36 = .ok (.putfield 79, 3) := by decide +kernel
theorem dJ5_append_3fe6f_39 : decode cJ5_append_3fe6f 39 = .ok (.iload_n 1, 1) := by decide +kernel
theorem dJ5_append_3fe6f_40 : decode cJ5_append_3fe6f 40 = .ok (.i2b, 1) := by decide +kernel
theorem dJ5_append_3fe6f_41 : decode cJ5_append_3fe6f 41 = .ok (.bastore, 1) := by decide +kernel
theorem dJ5_append_3fe6f_42 : decode cJ5_append_3fe6f 42 = .ok (.goto 33, 3) := by decide +kernel
theorem dJ5_append_3fe6f_45 : decode cJ5_append_3fe6f 45 = .ok (.aload_n 0, 1) := by decide +kernel
theorem dJ5_append_3fe6f_46 : decode cJ5_append_3fe6f 46 = .ok (.invokevirtual 83, 3) := by decide +kernel
theorem dJ5_append_3fe6f_49 : decode cJ5_append_3fe6f 49 = .ok (.ifCond .eq 7, 3) := by decide +kernel
theorem dJ5_append_3fe6f_52 : decode cJ5_append_3fe6f 52 = .ok (.aload_n 0, 1) := by decide +kernel
theorem dJ5_append_3fe6f_53 : decode cJ5_append_3fe6f 53 = .ok (.invokevirtual 195, 3) := by decide +kernel
theorem dJ5_append_3fe6f_56 : decode cJ5_append_3fe6f 56 = .ok (.aload_n 0, 1) := by decide +kernel
theorem dJ5_append_3fe6f_57 : decode cJ5_append_3fe6f 57 = .ok (.getfield 15, 3) := by decide +kernel
theorem dJ5_append_3fe6f_60 : decode cJ5_append_3fe6f 60 = .ok (.aload_n 0, 1) := by decide +kernel
theorem dJ5_append_3fe6f_61 : decode cJ5_append_3fe6f 61 = .ok (.dup, 1) := by decide +kernel
theorem dJ5_append_3fe6f_62 : decode cJ5_append_3fe6f 62 = .ok (.getfield 79, 3) := by decide +kernel
theorem dJ5_append_3fe6f_65 : decode cJ5_append_3fe6f 65 = .ok (.dup_x1, 1) := by decide +kernel
theorem dJ5_append_3fe6f_66 : decode cJ5_append_3fe6f 66 = .ok (.iconst 1, 1) := by decide +kernel
theorem dJ5_append_3fe6f_67 : decode cJ5_append_3fe6f 67 = .ok (.iadd, 1) := by decide +kernel
theorem dJ5_append_3fe6f_68 : decode cJ5_append_3fe6f 68 = .ok (.putfield 79, 3) := by decide +kernel
theorem dJ5_append_3fe6f_71 : decode cJ5_append_3fe6f 71 = .ok (.iload_n 1, 1) := by decide +kernel
theorem dJ5_append_3fe6f_72 : decode cJ5_append_3fe6f 72 = .ok (.invokestatic 197, 3) := by decide +kernel
theorem dJ5_append_3fe6f_75 : decode cJ5_append_3fe6f 75 = .ok (.aload_n 0, 1) := by decide +kernel
theorem dJ5_append_3fe6f_76 : decode cJ5_append_3fe6f 76 = .ok (.areturn, 1) := by decide +kernel
theorem dJ5_append_c97b9_0 : decode cJ5_append_c97b9 0 = .ok (.aload_n 0, 1) := by decide +kernel
theorem dJ5_append_c97b9_1 : decode cJ5_append_c97b9 1 = .ok (.getfield 79, 3) := by decide +kernel
theorem dJ5_append_c97b9_4 : decode cJ5_append_c97b9 4 = .ok (.istore_n 2, 1) := by decide +kernel
theorem dJ5_append_c97b9_5 : decode cJ5_append_c97b9 5 = .ok (.iload_n 2, 1) := by decide +kernel
theorem dJ5_append_c97b9_6 : decode cJ5_append_c97b9 6 = .ok (.iload_n 1, 1) := by decide +kernel
theorem dJ5_append_c97b9_7 : decode cJ5_append_c97b9 7 = .ok (.invokestatic 245, 3) := by decide +kernel
theorem dJ5_append_c97b9_10 : decode cJ5_append_c97b9 10 = .ok (.iadd, 1) := by decide +kernel
theorem dJ5_append_c97b9_11 : decode cJ5_append_c97b9 11 = .ok (.istore_n 3, 1) := by decide +kernel
theorem dJ5_append_c97b9_12 : decode cJ5_append_c97b9 12 = .ok (.aload_n 0, 1) := by decide +kernel
theorem dJ5_append_c97b9_13 : decode cJ5_append_c97b9 13 = .ok (.iload_n 3, 1) := by decide +kernel
theorem dJ5_append_c97b9_14 : decode cJ5_append_c97b9 14 = .ok (.invokevirtual 100, 3) := by decide +kernel
theorem dJ5_append_c97b9_17 : decode cJ5_append_c97b9 17 = .ok (.aload_n 0, 1) := by decide +kernel
theorem dJ5_append_c97b9_18 : decode cJ5_append_c97b9 18 = .ok (.invokevirtual 83, 3) := by decide +kernel
theorem dJ5_append_c97b9_21 : decode cJ5_append_c97b9 21 = .ok (.ifCond .eq 16, 3) := by decide +kernel
theorem dJ5_append_c97b9_24 : decode cJ5_append_c97b9 24 = .ok (.iload_n 1, 1) := by decide +kernel
theorem dJ5_append_c97b9_25 : decode cJ5_append_c97b9 25 = .ok (.iload_n 3, 1) := by decide +kernel
theorem dJ5_append_c97b9_26 : decode cJ5_append_c97b9 26 = .ok (.aload_n 0, 1) := by decide +kernel
theorem dJ5_append_c97b9_27 : decode cJ5_append_c97b9 27 = .ok (.getfield 15, 3) := by decide +kernel
theorem dJ5_append_c97b9_30 : decode cJ5_append_c97b9 30 = .ok (.invokestatic 248, 3) := by decide +kernel
theorem dJ5_append_c97b9_33 : decode cJ5_append_c97b9 33 = .ok (.pop, 1) := by decide +kernel
theorem dJ5_append_c97b9_34 : decode cJ5_append_c97b9 34 = .ok (.goto 14, 3) := by decide +kernel
theorem dJ5_append_c97b9_37 : decode cJ5_append_c97b9 37 = .ok (.iload_n 1, 1) := by decide +kernel
theorem dJ5_append_c97b9_38 : decode cJ5_append_c97b9 38 = .ok (.iload_n 2, 1) := by decide +kernel
theorem dJ5_append_c97b9_39 : decode cJ5_append_c97b9 39 = .ok (.iload_n 3, 1) := by decide +kernel
theorem dJ5_append_c97b9_40 : decode cJ5_append_c97b9 40 = .ok (.aload_n 0, 1) := by decide +kernel
theorem dJ5_append_c97b9_41 : decode cJ5_append_c97b9 41 = .ok (.getfield 15, 3) := by decide +kernel
theorem dJ5_append_c97b9_44 : decode cJ5_append_c97b9 44 = .ok (.invokestatic 251, 3) := by decide +kernel
theorem dJ5_append_c97b9_47 : decode cJ5_append_c97b9 47 = .ok (.pop, 1) := by decide +kernel
theorem dJ5_append_c97b9_48 : decode cJ5_append_c97b9 48 = .ok (.aload_n 0, 1) := by decide +kernel
theorem dJ5_append_c97b9_49 : decode cJ5_append_c97b9 49 = .ok (.iload_n 3, 1) := by decide +kernel
theorem dJ5_append_c97b9_50 : decode cJ5_append_c97b9 50 = .ok (.putfield 79, 3) := by decide +kernel
theorem dJ5_append_c97b9_53 : decode cJ5_append_c97b9 53 = .ok (.aload_n 0, 1) := by decide +kernel
theorem dJ5_append_c97b9_54 : decode cJ5_append_c97b9 54 = .ok (.areturn, 1) := by decide +kernel
theorem dJ5_append_66267_0 : decode cJ5_append_66267 0 = .ok (.aload_n 0, 1) := by decide +kernel
theorem dJ5_append_66267_1 : decode cJ5_append_66267 1 = .ok (.getfield 79, 3) := by decide +kernel
theorem dJ5_append_66267_4 : decode cJ5_append_66267 4 = .ok (.istore_n 3, 1) := by decide +kernel
theorem dJ5_append_66267_5 : decode cJ5_append_66267 5 = .ok (.iload_n 3, 1) := by decide +kernel
theorem dJ5_append_66267_6 : decode cJ5_append_66267 6 = .ok (.lload_n 1, 1) := by decide +kernel
theorem dJ5_append_66267_7 : decode cJ5_append_66267 7 = .ok (.invokestatic 254, 3) := by decide +kernel
theorem dJ5_append_66267_10 : decode cJ5_append_66267 10 = .ok (.iadd, 1) := by decide +kernel
theorem dJ5_append_66267_11 : decode cJ5_append_66267 11 = .ok (.istore 4, 2) := by decide +kernel
theorem dJ5_append_66267_13 : decode cJ5_append_66267 13 = .ok (.aload_n 0, 1) := by decide +kernel
theorem dJ5_append_66267_14 : decode cJ5_append_66267 14 = .ok (.iload 4, 2) := by decide +kernel
theorem dJ5_append_66267_16 : decode cJ5_append_66267 16 = .ok (.invokevirtual 100, 3) := by decide +kernel
theorem dJ5_append_66267_19 : decode cJ5_append_66267 19 = .ok (.aload_n 0, 1) := by decide +kernel
theorem dJ5_append_66267_20 : decode cJ5_append_66267 20 = .ok (.invokevirtual 83, 3) := by decide +kernel
theorem dJ5_append_66267_23 : decode cJ5_append_66267 23 = .ok (.ifCond .eq 17, 3) := by decide +kernel
theorem dJ5_append_66267_26 : decode cJ5_append_66267 26 = .ok (.lload_n 1, 1) := by decide +kernel
theorem dJ5_append_66267_27 : decode cJ5_append_66267 27 = .ok (.iload 4, 2) := by decide +kernel
theorem dJ5_append_66267_29 : decode cJ5_append_66267 29 = .ok (.aload_n 0, 1) := by decide +kernel
theorem dJ5_append_66267_30 : decode cJ5_append_66267 30 = .ok (.getfield 15, 3) := by decide +kernel
theorem dJ5_append_66267_33 : decode cJ5_append_66267 33 = .ok (.invokestatic 259, 3) := by decide +kernel
theorem dJ5_append_66267_36 : decode cJ5_append_66267 36 = .ok (.pop, 1) := by decide +kernel
theorem dJ5_append_66267_37 : decode cJ5_append_66267 37 = .ok (.goto 15, 3) := by decide +kernel
theorem dJ5_append_66267_40 : decode cJ5_append_66267 40 = .ok (.lload_n 1, 1) := by decide +kernel
theorem dJ5_append_66267_41 : decode cJ5_append_66267 41 = .ok (.iload_n 3, 1) := by decide +kernel
theorem dJ5_append_66267_42 : decode cJ5_append_66267 42 = .ok (.iload 4, 2) := by decide +kernel
theorem dJ5_append_66267_44 : decode cJ5_append_66267 44 = .ok (.aload_n 0, 1) := by decide +kernel
theorem dJ5_append_66267_45 : decode cJ5_append_66267 45 = .ok (.getfield 15, 3) := by decide +kernel
theorem dJ5_append_66267_48 : decode cJ5_append_66267 48 = .ok (.invokestatic 262, 3) := by decide +kernel
theorem dJ5_append_66267_51 : decode cJ5_append_66267 51 = .ok (.pop, 1) := by decide +kernel
theorem dJ5_append_66267_52 : decode cJ5_append_66267 52 = .ok (.aload_n 0, 1) := by decide +kernel
theorem dJ5_append_66267_53 : decode cJ5_append_66267 53 = .ok (.iload 4, 2) := by decide +kernel
theorem dJ5_append_66267_55 : decode cJ5_append_66267 55 = .ok (.putfield 79, 3) := by decide +kernel
theorem dJ5_append_66267_58 : decode cJ5_append_66267 58 = .ok (.aload_n 0, 1) := by decide +kernel
theorem dJ5_append_66267_59 : decode cJ5_append_66267 59 = .ok (.areturn, 1) := by decide +kernel
theorem dJ5_getValue_6d5f1_0 : decode cJ5_getValue_6d5f1 0 = .ok (.aload_n 0, 1) := by decide +kernel
theorem dJ5_getValue_6d5f1_1 : decode cJ5_getValue_6d5f1 1 = .ok (.getfield 15, 3) := by decide +kernel
theorem dJ5_getValue_6d5f1_4 : decode cJ5_getValue_6d5f1 4 = .ok (.areturn, 1) := by decide +kernel
theorem dJ5_isLatin1_aae02_0 : decode cJ5_isLatin1_aae02 0 = .ok (.getstatic 18, 3) := by decide +kernel
theorem dJ5_isLatin1_aae02_3 : decode cJ5_isLatin1_aae02 3 = .ok (.ifCond .eq 14, 3) := by decide +kernel
theorem dJ5_isLatin1_aae02_6 : decode cJ5_isLatin1_aae02 6 = .ok (.aload_n 0, 1) := by decide +kernel
theorem dJ5_isLatin1_aae02_7 : decode cJ5_isLatin1_aae02 7 = .ok (.getfield 22, 3) := by decide +kernel
theorem dJ5_isLatin1_aae02_10 : decode cJ5_isLatin1_aae02 10 = .ok (.ifCond .ne 7, 3) := by decide +kernel
theorem dJ5_isLatin1_aae02_13 : decode cJ5_isLatin1_aae02 13 = .ok (.iconst 1, 1) := by decide +kernel
theorem dJ5_isLatin1_aae02_14 : decode cJ5_isLatin1_aae02 14 = .ok (.goto 4, 3) := by decide +kernel
theorem dJ5_isLatin1_aae02_17 : decode cJ5_isLatin1_aae02 17 = .ok (.iconst 0, 1) := by decide +kernel
theorem dJ5_isLatin1_aae02_18 : decode cJ5_isLatin1_aae02 18 = .ok (.ireturn, 1) := by decide +kernel
theorem dJ5_inflateIfNeededFor_a7421_0 : decode cJ5_inflateIfNeededFor_a7421 0 = .ok (.getstatic 18, 3) := by decide +kernel
theorem dJ5_inflateIfNeededFor_a7421_3 : decode cJ5_inflateIfNeededFor_a7421 3 = .ok (.ifCond .eq 18, 3) := by decide +kernel
theorem dJ5_inflateIfNeededFor_a7421_6 : decode cJ5_inflateIfNeededFor_a7421 6 = .ok (.aload_n 0, 1) := by decide +kernel
theorem dJ5_inflateIfNeededFor_a7421_7 : decode cJ5_inflateIfNeededFor_a7421 7 = .ok (.getfield 22, 3) := by decide +kernel
theorem dJ5_inflateIfNeededFor_a7421_10 : decode cJ5_inflateIfNeededFor_a7421 10 = .ok (.aload_n 1, 1) := by decide +kernel
theorem dJ5_inflateIfNeededFor_a7421_11 : decode cJ5_inflateIfNeededFor_a7421 11 = .ok (.invokevirtual 40, 3) := by decide +kernel
theorem dJ5_inflateIfNeededFor_a7421_14 : decode cJ5_inflateIfNeededFor_a7421 14 = .ok (.if_icmp .eq 7, 3) := by decide +kernel
theorem dJ5_inflateIfNeededFor_a7421_17 : decode cJ5_inflateIfNeededFor_a7421 17 = .ok (.aload_n 0, 1) := by decide +kernel
theorem dJ5_inflateIfNeededFor_a7421_18 : decode cJ5_inflateIfNeededFor_a7421 18 = .ok (.invokevirtual 195, 3) := by decide +kernel
theorem dJ5_inflateIfNeededFor_a7421_21 : decode cJ5_inflateIfNeededFor_a7421 21 = .ok (.return_, 1) := by decide +kernel
theorem dJ5_putStringAt_47b60_0 : decode cJ5_putStringAt_47b60 0 = .ok (.aload_n 0, 1) := by decide +kernel
theorem dJ5_putStringAt_47b60_1 : decode cJ5_putStringAt_47b60 1 = .ok (.aload_n 2, 1) := by decide +kernel
theorem dJ5_putStringAt_47b60_2 : decode cJ5_putStringAt_47b60 2 = .ok (.invokevirtual 397, 3) := by decide +kernel
theorem dJ5_putStringAt_47b60_5 : decode cJ5_putStringAt_47b60 5 = .ok (.aload_n 2, 1) := by decide +kernel
theorem dJ5_putStringAt_47b60_6 : decode cJ5_putStringAt_47b60 6 = .ok (.aload_n 0, 1) := by decide +kernel
theorem dJ5_putStringAt_47b60_7 : decode cJ5_putStringAt_47b60 7 = .ok (.getfield 15, 3) := by decide +kernel
theorem dJ5_putStringAt_47b60_10 : decode cJ5_putStringAt_47b60 10 = .ok (.iload_n 1, 1) := by decide +kernel
theorem dJ5_putStringAt_47b60_11 : decode cJ5_putStringAt_47b60 11 = .ok (.aload_n 0, 1) := by decide +kernel
theorem dJ5_putStringAt_47b60_12 : decode cJ5_putStringAt_47b60 12 = .ok (.getfield 22, 3) := by decide +kernel
theorem dJ5_putStringAt_47b60_15 : decode cJ5_putStringAt_47b60 15 = .ok (.invokevirtual 399, 3) := by decide +kernel
theorem dJ5_putStringAt_47b60_18 : decode cJ5_putStringAt_47b60 18 = .ok (.return_, 1) := by decide +kernel
theorem dJ6_getChars_ba4f3_0 : decode cJ6_getChars_ba4f3 0 = .ok (.iload_n 1, 1) := by decide +kernel
theorem dJ6_getChars_ba4f3_1 : decode cJ6_getChars_ba4f3 1 = .ok (.istore 5, 2) := by decide +kernel
theorem dJ6_getChars_ba4f3_3 : decode cJ6_getChars_ba4f3 3 = .ok (.iload_n 0, 1) := by decide +kernel
theorem dJ6_getChars_ba4f3_4 : decode cJ6_getChars_ba4f3 4 = .ok (.ifCond .ge 7, 3) := by decide +kernel
theorem dJ6_getChars_ba4f3_7 : decode cJ6_getChars_ba4f3 7 = .ok (.iconst 1, 1) := by decide +kernel
theorem dJ6_getChars_ba4f3_8 : decode cJ6_getChars_ba4f3 8 = .ok (.goto 4, 3) := by decide +kernel
theorem dJ6_getChars_ba4f3_11 : decode cJ6_getChars_ba4f3 11 = .ok (.iconst 0, 1) := by decide +kernel
theorem dJ6_getChars_ba4f3_12 : decode cJ6_getChars_ba4f3 12 = .ok (.istore 6, 2) := by decide +kernel
theorem dJ6_getChars_ba4f3_14 : decode cJ6_getChars_ba4f3 14 = .ok (.iload 6, 2) := by decide +kernel
theorem dJ6_getChars_ba4f3_16 : decode cJ6_getChars_ba4f3 16 = .ok (.ifCond .ne 6, 3) := by decide +kernel
theorem dJ6_getChars_ba4f3_19 : decode cJ6_getChars_ba4f3 19 = .ok (.iload_n 0, 1) := by decide +kernel
theorem dJ6_getChars_ba4f3_20 : decode cJ6_getChars_ba4f3 20 = .ok (.ineg, 1) := by decide +kernel
theorem dJ6_getChars_ba4f3_21 : decode cJ6_getChars_ba4f3 21 = .ok (.istore_n 0, 1) := by decide +kernel
theorem dJ6_getChars_ba4f3_22 : decode cJ6_getChars_ba4f3 22 = .ok (.iload_n 0, 1) := by decide +kernel
theorem dJ6_getChars_ba4f3_23 : decode cJ6_getChars_ba4f3 23 = .ok (.bipush (-100), 2) := by decide +kernel
theorem dJ6_getChars_ba4f3_25 : decode cJ6_getChars_ba4f3 25 = .ok (.if_icmp .gt 47, 3) := by decide +kernel
theorem dJ6_getChars_ba4f3_28 : decode cJ6_getChars_ba4f3 28 = .ok (.iload_n 0, 1) := by decide +kernel
theorem dJ6_getChars_ba4f3_29 : decode cJ6_getChars_ba4f3 29 = .ok (.bipush 100, 2) := by decide +kernel
theorem dJ6_getChars_ba4f3_31 : decode cJ6_getChars_ba4f3 31 = .ok (.idiv, 1) := by decide +kernel
theorem dJ6_getChars_ba4f3_32 : decode cJ6_getChars_ba4f3 32 = .ok (.istore_n 3, 1) := by decide +kernel
theorem dJ6_getChars_ba4f3_33 : decode cJ6_getChars_ba4f3 33 = .ok (.iload_n 3, 1) := by decide +kernel
theorem dJ6_getChars_ba4f3_34 : decode cJ6_getChars_ba4f3 34 = .ok (.bipush 100, 2) := by decide +kernel
theorem dJ6_getChars_ba4f3_36 : decode cJ6_getChars_ba4f3 36 = .ok (.imul, 1) := by decide +kernel
theorem dJ6_getChars_ba4f3_37 : decode cJ6_getChars_ba4f3 37 = .ok (.iload_n 0, 1) := by decide +kernel
theorem dJ6_getChars_ba4f3_38 : decode cJ6_getChars_ba4f3 38 = .ok (.isub, 1) := by decide +kernel
theorem dJ6_getChars_ba4f3_39 : decode cJ6_getChars_ba4f3 39 = .ok (.istore 4, 2) := by decide +kernel
theorem dJ6_getChars_ba4f3_41 : decode cJ6_getChars_ba4f3 41 = .ok (.iload_n 3, 1) := by decide +kernel
theorem dJ6_getChars_ba4f3_42 : decode cJ6_getChars_ba4f3 42 = .ok (.istore_n 0, 1) := by decide +kernel
theorem dJ6_getChars_ba4f3_43 : decode cJ6_getChars_ba4f3 43 = .ok (.aload_n 2, 1) := by decide +kernel
theorem dJ6_getChars_ba4f3_44 : decode cJ6_getChars_ba4f3 44 = .ok (.iinc 5 (-1), 3) := by decide +kernel
theorem dJ6_getChars_ba4f3_47 : decode cJ6_getChars_ba4f3 47 = .ok (.iload 5, 2) := by decide +kernel
theorem dJ6_getChars_ba4f3_49 : decode cJ6_getChars_ba4f3 49 = .ok (.getstatic 83, 3) := by decide +kernel
theorem dJ6_getChars_ba4f3_52 : decode cJ6_getChars_ba4f3 52 = .ok (.iload 4, 2) := by decide +kernel
theorem dJ6_getChars_ba4f3_54 : decode cJ6_getChars_ba4f3 54 = .ok (.baload, 1) := by decide +kernel
theorem dJ6_getChars_ba4f3_55 : decode cJ6_getChars_ba4f3 55 = .ok (.bastore, 1) := by decide +kernel
theorem dJ6_getChars_ba4f3_56 : decode cJ6_getChars_ba4f3 56 = .ok (.aload_n 2, 1) := by decide +kernel
theorem dJ6_getChars_ba4f3_57 : decode cJ6_getChars_ba4f3 57 = .ok (.iinc 5 (-1), 3) := by decide +kernel
theorem dJ6_getChars_ba4f3_60 : decode cJ6_getChars_ba4f3 60 = .ok (.iload 5, 2) := by decide +kernel
theorem dJ6_getChars_ba4f3_62 : decode cJ6_getChars_ba4f3 62 = .ok (.getstatic 87, 3) := by decide +kernel
theorem dJ6_getChars_ba4f3_65 : decode cJ6_getChars_ba4f3 65 = .ok (.iload 4, 2) := by decide +kernel
theorem dJ6_getChars_ba4f3_67 : decode cJ6_getChars_ba4f3 67 = .ok (.baload, 1) := by decide +kernel
theorem dJ6_getChars_ba4f3_68 : decode cJ6_getChars_ba4f3 68 = .ok (.bastore, 1) := by decide +kernel
theorem dJ6_getChars_ba4f3_69 : decode cJ6_getChars_ba4f3 69 = .ok (.goto (-47), 3) := by decide +kernel
theorem dJ6_getChars_ba4f3_72 : decode cJ6_getChars_ba4f3 72 = .ok (.aload_n 2, 1) := by decide +kernel
theorem dJ6_getChars_ba4f3_73 : decode cJ6_getChars_ba4f3 73 = .ok (.iinc 5 (-1), 3) := by decide +kernel
theorem dJ6_getChars_ba4f3_76 : decode cJ6_getChars_ba4f3 76 = .ok (.iload 5, 2) := by decide +kernel
theorem dJ6_getChars_ba4f3_78 : decode cJ6_getChars_ba4f3 78 = .ok (.getstatic 83, 3) := by decide +kernel
theorem dJ6_getChars_ba4f3_81 : decode cJ6_getChars_ba4f3 81 = .ok (.iload_n 0, 1) := by decide +kernel
theorem dJ6_getChars_ba4f3_82 : decode cJ6_getChars_ba4f3 82 = .ok (.ineg, 1) := by decide +kernel
theorem dJ6_getChars_ba4f3_83 : decode cJ6_getChars_ba4f3 83 = .ok (.baload, 1) := by decide +kernel
theorem dJ6_getChars_ba4f3_84 : decode cJ6_getChars_ba4f3 84 = .ok (.bastore, 1) := by decide +kernel
theorem dJ6_getChars_ba4f3_85 : decode cJ6_getChars_ba4f3 85 = .ok (.iload_n 0, 1) := by decide +kernel
theorem dJ6_getChars_ba4f3_86 : decode cJ6_getChars_ba4f3 86 = .ok (.bipush (-9), 2) := by decide +kernel
theorem dJ6_getChars_ba4f3_88 : decode cJ6_getChars_ba4f3 88 = .ok (.if_icmp .ge 16, 3) := by decide +kernel
theorem dJ6_getChars_ba4f3_91 : decode cJ6_getChars_ba4f3 91 = .ok (.aload_n 2, 1) := by decide +kernel
theorem dJ6_getChars_ba4f3_92 : decode cJ6_getChars_ba4f3 92 = .ok (.iinc 5 (-1), 3) := by decide +kernel
theorem dJ6_getChars_ba4f3_95 : decode cJ6_getChars_ba4f3 95 = .ok (.iload 5, 2) := by decide +kernel
theorem dJ6_getChars_ba4f3_97 : decode cJ6_getChars_ba4f3 97 = .ok (.getstatic 87, 3) := by decide +kernel
theorem dJ6_getChars_ba4f3_100 : decode cJ6_getChars_ba4f3 100 = .ok (.iload_n 0, 1) := by decide +kernel
theorem dJ6_getChars_ba4f3_101 : decode cJ6_getChars_ba4f3 101 = .ok (.ineg, 1) := by decide +kernel
theorem dJ6_getChars_ba4f3_102 : decode cJ6_getChars_ba4f3 102 = .ok (.baload, 1) := by decide +kernel
theorem dJ6_getChars_ba4f3_103 : decode cJ6_getChars_ba4f3 103 = .ok (.bastore, 1) := by decide +kernel
theorem dJ6_getChars_ba4f3_104 : decode cJ6_getChars_ba4f3 104 = .ok (.iload 6, 2) := by decide +kernel
theorem dJ6_getChars_ba4f3_106 : decode cJ6_getChars_ba4f3 106 = .ok (.ifCond .eq 12, 3) := by decide +kernel
theorem dJ6_getChars_ba4f3_109 : decode cJ6_getChars_ba4f3 109 = .ok (.aload_n 2, 1) := by decide +kernel
theorem dJ6_getChars_ba4f3_110 : decode cJ6_getChars_ba4f3 110 = .ok (.iinc 5 (-1), 3) := by decide +kernel
theorem dJ6_getChars_ba4f3_113 : decode cJ6_getChars_ba4f3 113 = .ok (.iload 5, 2) := by decide +kernel
theorem dJ6_getChars_ba4f3_115 : decode cJ6_getChars_ba4f3 115 = .ok (.bipush 45, 2) := by decide +kernel
theorem dJ6_getChars_ba4f3_117 : decode cJ6_getChars_ba4f3 117 = .ok (.bastore, 1) := by decide +kernel
theorem dJ6_getChars_ba4f3_118 : decode cJ6_getChars_ba4f3 118 = .ok (.iload 5, 2) := by decide +kernel
theorem dJ6_getChars_ba4f3_120 : decode cJ6_getChars_ba4f3 120 = .ok (.ireturn, 1) := by decide +kernel
theorem dJ6_stringSize_0f7a4_0 : decode cJ6_stringSize_0f7a4 0 = .ok (.iconst 1, 1) := by decide +kernel
theorem dJ6_stringSize_0f7a4_1 : decode cJ6_stringSize_0f7a4 1 = .ok (.istore_n 1, 1) := by decide +kernel
theorem dJ6_stringSize_0f7a4_2 : decode cJ6_stringSize_0f7a4 2 = .ok (.iload_n 0, 1) := by decide +kernel
theorem dJ6_stringSize_0f7a4_3 : decode cJ6_stringSize_0f7a4 3 = .ok (.ifCond .lt 8, 3) := by decide +kernel
theorem dJ6_stringSize_0f7a4_6 : decode cJ6_stringSize_0f7a4 6 = .ok (.iconst 0, 1) := by decide +kernel
theorem dJ6_stringSize_0f7a4_7 : decode cJ6_stringSize_0f7a4 7 = .ok (.istore_n 1, 1) := by decide +kernel
theorem dJ6_stringSize_0f7a4_8 : decode cJ6_stringSize_0f7a4 8 = .ok (.iload_n 0, 1) := by decide +kernel
theorem dJ6_stringSize_0f7a4_9 : decode cJ6_stringSize_0f7a4 9 = .ok (.ineg, 1) := by decide +kernel
theorem dJ6_stringSize_0f7a4_10 : decode cJ6_stringSize_0f7a4 10 = .ok (.istore_n 0, 1) := by decide +kernel
theorem dJ6_stringSize_0f7a4_11 : decode cJ6_stringSize_0f7a4 11 = .ok (.bipush (-10), 2) := by decide +kernel
theorem dJ6_stringSize_0f7a4_13 : decode cJ6_stringSize_0f7a4 13 = .ok (.istore_n 2, 1) := by decide +kernel
theorem dJ6_stringSize_0f7a4_14 : decode cJ6_stringSize_0f7a4 14 = .ok (.iconst 1, 1) := by decide +kernel
theorem dJ6_stringSize_0f7a4_15 : decode cJ6_stringSize_0f7a4 15 = .ok (.istore_n 3, 1) := by decide +kernel
theorem dJ6_stringSize_0f7a4_16 : decode cJ6_stringSize_0f7a4 16 = .ok (.iload_n 3, 1) := by decide +kernel
theorem dJ6_stringSize_0f7a4_17 : decode cJ6_stringSize_0f7a4 17 = .ok (.bipush 10, 2) := by decide +kernel
theorem dJ6_stringSize_0f7a4_19 : decode cJ6_stringSize_0f7a4 19 = .ok (.if_icmp .ge 23, 3) := by decide +kernel
theorem dJ6_stringSize_0f7a4_22 : decode cJ6_stringSize_0f7a4 22 = .ok (.iload_n 0, 1) := by decide +kernel
theorem dJ6_stringSize_0f7a4_23 : decode cJ6_stringSize_0f7a4 23 = .ok (.iload_n 2, 1) := by decide +kernel
theorem dJ6_stringSize_0f7a4_24 : decode cJ6_stringSize_0f7a4 24 = .ok (.if_icmp .le 7, 3) := by decide +kernel
theorem dJ6_stringSize_0f7a4_27 : decode cJ6_stringSize_0f7a4 27 = .ok (.iload_n 3, 1) := by decide +kernel
theorem dJ6_stringSize_0f7a4_28 : decode cJ6_stringSize_0f7a4 28 = .ok (.iload_n 1, 1) := by decide +kernel
theorem dJ6_stringSize_0f7a4_29 : decode cJ6_stringSize_0f7a4 29 = .ok (.iadd, 1) := by decide +kernel
theorem dJ6_stringSize_0f7a4_30 : decode cJ6_stringSize_0f7a4 30 = .ok (.ireturn, 1) := by decide +kernel
theorem dJ6_stringSize_0f7a4_31 : decode cJ6_stringSize_0f7a4 31 = .ok (.bipush 10, 2) := by decide +kernel
theorem dJ6_stringSize_0f7a4_33 : decode cJ6_stringSize_0f7a4 33 = .ok (.iload_n 2, 1) := by decide +kernel
theorem dJ6_stringSize_0f7a4_34 : decode cJ6_stringSize_0f7a4 34 = .ok (.imul, 1) := by decide +kernel
theorem dJ6_stringSize_0f7a4_35 : decode cJ6_stringSize_0f7a4 35 = .ok (.istore_n 2, 1) := by decide +kernel
theorem dJ6_stringSize_0f7a4_36 : decode cJ6_stringSize_0f7a4 36 = .ok (.iinc 3 1, 3) := by decide +kernel
theorem dJ6_stringSize_0f7a4_39 : decode cJ6_stringSize_0f7a4 39 = .ok (.goto (-23), 3) := by decide +kernel
theorem dJ6_stringSize_0f7a4_42 : decode cJ6_stringSize_0f7a4 42 = .ok (.bipush 10, 2) := by decide +kernel
theorem dJ6_stringSize_0f7a4_44 : decode cJ6_stringSize_0f7a4 44 = .ok (.iload_n 1, 1) := by decide +kernel
theorem dJ6_stringSize_0f7a4_45 : decode cJ6_stringSize_0f7a4 45 = .ok (.iadd, 1) := by decide +kernel
theorem dJ6_stringSize_0f7a4_46 : decode cJ6_stringSize_0f7a4 46 = .ok (.ireturn, 1) := by decide +kernel
theorem dJ13_getChars_11360_0 : decode cJ13_getChars_11360 0 = .ok (.iload_n 2, 1) := by decide +kernel
theorem dJ13_getChars_11360_1 : decode cJ13_getChars_11360 1 = .ok (.istore 7, 2) := by decide +kernel
theorem dJ13_getChars_11360_3 : decode cJ13_getChars_11360 3 = .ok (.lload_n 0, 1) := by decide +kernel
theorem dJ13_getChars_11360_4 : decode cJ13_getChars_11360 4 = .ok (.lconst 0, 1) := by decide +kernel
theorem dJ13_getChars_11360_5 : decode cJ13_getChars_11360 5 = .ok (.lcmp, 1) := by decide +kernel
theorem dJ13_getChars_11360_6 : decode cJ13_getChars_11360 6 = .ok (.ifCond .ge 7, 3) := by decide +kernel
theorem dJ13_getChars_11360_9 : decode cJ13_getChars_11360 9 = .ok (.iconst 1, 1) := by decide +kernel
theorem dJ13_getChars_11360_10 : decode cJ13_getChars_11360 10 = .ok (.goto 4, 3) := by decide +kernel
theorem dJ13_getChars_11360_13 : decode cJ13_getChars_11360 13 = .ok (.iconst 0, 1) := by decide +kernel
theorem dJ13_getChars_11360_14 : decode cJ13_getChars_11360 14 = .ok (.istore 8, 2) := by decide +kernel
theorem dJ13_getChars_11360_16 : decode cJ13_getChars_11360 16 = .ok (.iload 8, 2) := by decide +kernel
theorem dJ13_getChars_11360_18 : decode cJ13_getChars_11360 18 = .ok (.ifCond .ne 6, 3) := by decide +kernel
theorem dJ13_getChars_11360_21 : decode cJ13_getChars_11360 21 = .ok (.lload_n 0, 1) := by decide +kernel
theorem dJ13_getChars_11360_22 : decode cJ13_getChars_11360 22 = .ok (.lneg, 1) := by decide +kernel
theorem dJ13_getChars_11360_23 : decode cJ13_getChars_11360 23 = .ok (.lstore_n 0, 1) := by decide +kernel
theorem dJ13_getChars_11360_24 : decode cJ13_getChars_11360 24 = .ok (.lload_n 0, 1) := by decide +kernel
theorem dJ13_getChars_11360_25 : decode cJ13_getChars_11360 25 = .ok (.ldc2_w 129, 3) := by decide +kernel
theorem dJ13_getChars_11360_28 : decode cJ13_getChars_11360 28 = .ok (.lcmp, 1) := by decide +kernel
theorem dJ13_getChars_11360_29 : decode cJ13_getChars_11360 29 = .ok (.ifCond .gt 53, 3) := by decide +kernel
theorem dJ13_getChars_11360_32 : decode cJ13_getChars_11360 32 = .ok (.lload_n 0, 1) := by decide +kernel
theorem dJ13_getChars_11360_33 : decode cJ13_getChars_11360 33 = .ok (.ldc2_w 131, 3) := by decide +kernel
theorem dJ13_getChars_11360_36 : decode cJ13_getChars_11360 36 = .ok (.ldiv, 1) := by decide +kernel
theorem dJ13_getChars_11360_37 : decode cJ13_getChars_11360 37 = .ok (.lstore 4, 2) := by decide +kernel
theorem dJ13_getChars_11360_39 : decode cJ13_getChars_11360 39 = .ok (.lload 4, 2) := by decide +kernel
theorem dJ13_getChars_11360_41 : decode cJ13_getChars_11360 41 = .ok (.ldc2_w 131, 3) := by decide +kernel
theorem dJ13_getChars_11360_44 : decode cJ13_getChars_11360 44 = .ok (.lmul, 1) := by decide +kernel
theorem dJ13_getChars_11360_45 : decode cJ13_getChars_11360 45 = .ok (.lload_n 0, 1) := by decide +kernel
theorem dJ13_getChars_11360_46 : decode cJ13_getChars_11360 46 = .ok (.lsub, 1) := by decide +kernel
theorem dJ13_getChars_11360_47 : decode cJ13_getChars_11360 47 = .ok (.l2i, 1) := by decide +kernel
theorem dJ13_getChars_11360_48 : decode cJ13_getChars_11360 48 = .ok (.istore 6, 2) := by decide +kernel
theorem dJ13_getChars_11360_50 : decode cJ13_getChars_11360 50 = .ok (.lload 4, 2) := by decide +kernel
theorem dJ13_getChars_11360_52 : decode cJ13_getChars_11360 52 = .ok (.lstore_n 0, 1) := by decide +kernel
theorem dJ13_getChars_11360_53 : decode cJ13_getChars_11360 53 = .ok (.aload_n 3, 1) := by decide +kernel
theorem dJ13_getChars_11360_54 : decode cJ13_getChars_11360 54 = .ok (.iinc 7 (-1), 3) := by decide +kernel
theorem dJ13_getChars_11360_57 : decode cJ13_getChars_11360 57 = .ok (.iload 7, 2) := by decide +kernel
theorem dJ13_getChars_11360_59 : decode cJ13_getChars_11360 59 = .ok (.getstatic 133, 3) := by decide +kernel
theorem dJ13_getChars_11360_62 : decode cJ13_getChars_11360 62 = .ok (.iload 6, 2) := by decide +kernel
theorem dJ13_getChars_11360_64 : decode cJ13_getChars_11360 64 = .ok (.baload, 1) := by decide +kernel
theorem dJ13_getChars_11360_65 : decode cJ13_getChars_11360 65 = .ok (.bastore, 1) := by decide +kernel
theorem dJ13_getChars_11360_66 : decode cJ13_getChars_11360 66 = .ok (.aload_n 3, 1) := by decide +kernel
theorem dJ13_getChars_11360_67 : decode cJ13_getChars_11360 67 = .ok (.iinc 7 (-1), 3) := by decide +kernel
theorem dJ13_getChars_11360_70 : decode cJ13_getChars_11360 70 = .ok (.iload 7, 2) := by decide +kernel
theorem dJ13_getChars_11360_72 : decode cJ13_getChars_11360 72 = .ok (.getstatic 137, 3) := by decide +kernel
theorem dJ13_getChars_11360_75 : decode cJ13_getChars_11360 75 = .ok (.iload 6, 2) := by decide +kernel
theorem dJ13_getChars_11360_77 : decode cJ13_getChars_11360 77 = .ok (.baload, 1) := by decide +kernel
theorem dJ13_getChars_11360_78 : decode cJ13_getChars_11360 78 = .ok (.bastore, 1) := by decide +kernel
theorem dJ13_getChars_11360_79 : decode cJ13_getChars_11360 79 = .ok (.goto (-55), 3) := by decide +kernel
theorem dJ13_getChars_11360_82 : decode cJ13_getChars_11360 82 = .ok (.lload_n 0, 1) := by decide +kernel
theorem dJ13_getChars_11360_83 : decode cJ13_getChars_11360 83 = .ok (.l2i, 1) := by decide +kernel
theorem dJ13_getChars_11360_84 : decode cJ13_getChars_11360 84 = .ok (.istore 10, 2) := by decide +kernel
theorem dJ13_getChars_11360_86 : decode cJ13_getChars_11360 86 = .ok (.iload 10, 2) := by decide +kernel
theorem dJ13_getChars_11360_88 : decode cJ13_getChars_11360 88 = .ok (.bipush (-100), 2) := by decide +kernel
theorem dJ13_getChars_11360_90 : decode cJ13_getChars_11360 90 = .ok (.if_icmp .gt 53, 3) := by decide +kernel
theorem dJ13_getChars_11360_93 : decode cJ13_getChars_11360 93 = .ok (.iload 10, 2) := by decide +kernel
theorem dJ13_getChars_11360_95 : decode cJ13_getChars_11360 95 = .ok (.bipush 100, 2) := by decide +kernel
theorem dJ13_getChars_11360_97 : decode cJ13_getChars_11360 97 = .ok (.idiv, 1) := by decide +kernel
theorem dJ13_getChars_11360_98 : decode cJ13_getChars_11360 98 = .ok (.istore 9, 2) := by decide +kernel
theorem dJ13_getChars_11360_100 : decode cJ13_getChars_11360 100 = .ok (.iload 9, 2) := by decide +kernel
theorem dJ13_getChars_11360_102 : decode cJ13_getChars_11360 102 = .ok (.bipush 100, 2) := by decide +kernel
theorem dJ13_getChars_11360_104 : decode cJ13_getChars_11360 104 = .ok (.imul, 1) := by decide +kernel
theorem dJ13_getChars_11360_105 : decode cJ13_getChars_11360 105 = .ok (.iload 10, 2) := by decide +kernel
theorem dJ13_getChars_11360_107 : decode cJ13_getChars_11360 107 = .ok (.isub, 1) := by decide +kernel
theorem dJ13_getChars_11360_108 : decode cJ13_getChars_11360 108 = .ok (.istore 6, 2) := by decide +kernel
theorem dJ13_getChars_11360_110 : decode cJ13_getChars_11360 110 = .ok (.iload 9, 2) := by decide +kernel
theorem dJ13_getChars_11360_112 : decode cJ13_getChars_11360 112 = .ok (.istore 10, 2) := by decide +kernel
theorem dJ13_getChars_11360_114 : decode cJ13_getChars_11360 114 = .ok (.aload_n 3, 1) := by decide +kernel
theorem dJ13_getChars_11360_115 : decode cJ13_getChars_11360 115 = .ok (.iinc 7 (-1), 3) := by decide +kernel
theorem dJ13_getChars_11360_118 : decode cJ13_getChars_11360 118 = .ok (.iload 7, 2) := by decide +kernel
theorem dJ13_getChars_11360_120 : decode cJ13_getChars_11360 120 = .ok (.getstatic 133, 3) := by decide +kernel
theorem dJ13_getChars_11360_123 : decode cJ13_getChars_11360 123 = .ok (.iload 6, 2) := by decide +kernel
theorem dJ13_getChars_11360_125 : decode cJ13_getChars_11360 125 = .ok (.baload, 1) := by decide +kernel
theorem dJ13_getChars_11360_126 : decode cJ13_getChars_11360 126 = .ok (.bastore, 1) := by decide +kernel
theorem dJ13_getChars_11360_127 : decode cJ13_getChars_11360 127 = .ok (.aload_n 3, 1) := by decide +kernel
theorem dJ13_getChars_11360_128 : decode cJ13_getChars_11360 128 = .ok (.iinc 7 (-1), 3) := by decide +kernel
theorem dJ13_getChars_11360_131 : decode cJ13_getChars_11360 131 = .ok (.iload 7, 2) := by decide +kernel
theorem dJ13_getChars_11360_133 : decode cJ13_getChars_11360 133 = .ok (.getstatic 137, 3) := by decide +kernel
theorem dJ13_getChars_11360_136 : decode cJ13_getChars_11360 136 = .ok (.iload 6, 2) := by decide +kernel
theorem dJ13_getChars_11360_138 : decode cJ13_getChars_11360 138 = .ok (.baload, 1) := by decide +kernel
theorem dJ13_getChars_11360_139 : decode cJ13_getChars_11360 139 = .ok (.bastore, 1) := by decide +kernel
theorem dJ13_getChars_11360_140 : decode cJ13_getChars_11360 140 = .ok (.goto (-54), 3) := by decide +kernel
theorem dJ13_getChars_11360_143 : decode cJ13_getChars_11360 143 = .ok (.aload_n 3, 1) := by decide +kernel
theorem dJ13_getChars_11360_144 : decode cJ13_getChars_11360 144 = .ok (.iinc 7 (-1), 3) := by decide +kernel
theorem dJ13_getChars_11360_147 : decode cJ13_getChars_11360 147 = .ok (.iload 7, 2) := by decide +kernel
theorem dJ13_getChars_11360_149 : decode cJ13_getChars_11360 149 = .ok (.getstatic 133, 3) := by decide +kernel
theorem dJ13_getChars_11360_152 : decode cJ13_getChars_11360 152 = .ok (.iload 10, 2) := by decide +kernel
theorem dJ13_getChars_11360_154 : decode cJ13_getChars_11360 154 = .ok (.ineg, 1) := by decide +kernel
theorem dJ13_getChars_11360_155 : decode cJ13_getChars_11360 155 = .ok (.baload, 1) := by decide +kernel
theorem dJ13_getChars_11360_156 : decode cJ13_getChars_11360 156 = .ok (.bastore, 1) := by decide +kernel
theorem dJ13_getChars_11360_157 : decode cJ13_getChars_11360 157 = .ok (.iload 10, 2) := by decide +kernel
theorem dJ13_getChars_11360_159 : decode cJ13_getChars_11360 159 = .ok (.bipush (-9), 2) := by decide +kernel
theorem dJ13_getChars_11360_161 : decode cJ13_getChars_11360 161 = .ok (.if_icmp .ge 17, 3) := by decide +kernel
theorem dJ13_getChars_11360_164 : decode cJ13_getChars_11360 164 = .ok (.aload_n 3, 1) := by decide +kernel
theorem dJ13_getChars_11360_165 : decode cJ13_getChars_11360 165 = .ok (.iinc 7 (-1), 3) := by decide +kernel
theorem dJ13_getChars_11360_168 : decode cJ13_getChars_11360 168 = .ok (.iload 7, 2) := by decide +kernel
theorem dJ13_getChars_11360_170 : decode cJ13_getChars_11360 170 = .ok (.getstatic 137, 3) := by decide +kernel
theorem dJ13_getChars_11360_173 : decode cJ13_getChars_11360 173 = .ok (.iload 10, 2) := by decide +kernel
theorem dJ13_getChars_11360_175 : decode cJ13_getChars_11360 175 = .ok (.ineg, 1) := by decide +kernel
theorem dJ13_getChars_11360_176 : decode cJ13_getChars_11360 176 = .ok (.baload, 1) := by decide +kernel
theorem dJ13_getChars_11360_177 : decode cJ13_getChars_11360 177 = .ok (.bastore, 1) := by decide +kernel
theorem dJ13_getChars_11360_178 : decode cJ13_getChars_11360 178 = .ok (.iload 8, 2) := by decide +kernel
theorem dJ13_getChars_11360_180 : decode cJ13_getChars_11360 180 = .ok (.ifCond .eq 12, 3) := by decide +kernel
theorem dJ13_getChars_11360_183 : decode cJ13_getChars_11360 183 = .ok (.aload_n 3, 1) := by decide +kernel
theorem dJ13_getChars_11360_184 : decode cJ13_getChars_11360 184 = .ok (.iinc 7 (-1), 3) := by decide +kernel
theorem dJ13_getChars_11360_187 : decode cJ13_getChars_11360 187 = .ok (.iload 7, 2) := by decide +kernel
theorem dJ13_getChars_11360_189 : decode cJ13_getChars_11360 189 = .ok (.bipush 45, 2) := by decide +kernel
theorem dJ13_getChars_11360_191 : decode cJ13_getChars_11360 191 = .ok (.bastore, 1) := by decide +kernel
theorem dJ13_getChars_11360_192 : decode cJ13_getChars_11360 192 = .ok (.iload 7, 2) := by decide +kernel
theorem dJ13_getChars_11360_194 : decode cJ13_getChars_11360 194 = .ok (.ireturn, 1) := by decide +kernel
theorem dJ13_stringSize_95d88_0 : decode cJ13_stringSize_95d88 0 = .ok (.iconst 1, 1) := by decide +kernel
theorem dJ13_stringSize_95d88_1 : decode cJ13_stringSize_95d88 1 = .ok (.istore_n 2, 1) := by decide +kernel
theorem dJ13_stringSize_95d88_2 : decode cJ13_stringSize_95d88 2 = .ok (.lload_n 0, 1) := by decide +kernel
theorem dJ13_stringSize_95d88_3 : decode cJ13_stringSize_95d88 3 = .ok (.lconst 0, 1) := by decide +kernel
theorem dJ13_stringSize_95d88_4 : decode cJ13_stringSize_95d88 4 = .ok (.lcmp, 1) := by decide +kernel
theorem dJ13_stringSize_95d88_5 : decode cJ13_stringSize_95d88 5 = .ok (.ifCond .lt 8, 3) := by decide +kernel
theorem dJ13_stringSize_95d88_8 : decode cJ13_stringSize_95d88 8 = .ok (.iconst 0, 1) := by decide +kernel
theorem dJ13_stringSize_95d88_9 : decode cJ13_stringSize_95d88 9 = .ok (.istore_n 2, 1) := by decide +kernel
theorem dJ13_stringSize_95d88_10 : decode cJ13_stringSize_95d88 10 = .ok (.lload_n 0, 1) := by decide +kernel
theorem dJ13_stringSize_95d88_11 : decode cJ13_stringSize_95d88 11 = .ok (.lneg, 1) := by decide +kernel
theorem dJ13_stringSize_95d88_12 : decode cJ13_stringSize_95d88 12 = .ok (.lstore_n 0, 1) := by decide +kernel
theorem dJ13_stringSize_95d88_13 : decode cJ13_stringSize_95d88 13 = .ok (.ldc2_w 140, 3) := by decide +kernel
theorem dJ13_stringSize_95d88_16 : decode cJ13_stringSize_95d88 16 = .ok (.lstore_n 3, 1) := by decide +kernel
theorem dJ13_stringSize_95d88_17 : decode cJ13_stringSize_95d88 17 = .ok (.iconst 1, 1) := by decide +kernel
theorem dJ13_stringSize_95d88_18 : decode cJ13_stringSize_95d88 18 = .ok (.istore 5, 2) := by decide +kernel
theorem dJ13_stringSize_95d88_20 : decode cJ13_stringSize_95d88 20 = .ok (.iload 5, 2) := by decide +kernel
theorem dJ13_stringSize_95d88_22 : decode cJ13_stringSize_95d88 22 = .ok (.bipush 19, 2) := by decide +kernel
theorem dJ13_stringSize_95d88_24 : decode cJ13_stringSize_95d88 24 = .ok (.if_icmp .ge 26, 3) := by decide +kernel
theorem dJ13_stringSize_95d88_27 : decode cJ13_stringSize_95d88 27 = .ok (.lload_n 0, 1) := by decide +kernel
theorem dJ13_stringSize_95d88_28 : decode cJ13_stringSize_95d88 28 = .ok (.lload_n 3, 1) := by decide +kernel
theorem dJ13_stringSize_95d88_29 : decode cJ13_stringSize_95d88 29 = .ok (.lcmp, 1) := by decide +kernel
theorem dJ13_stringSize_95d88_30 : decode cJ13_stringSize_95d88 30 = .ok (.ifCond .le 8, 3) := by decide +kernel
theorem dJ13_stringSize_95d88_33 : decode cJ13_stringSize_95d88 33 = .ok (.iload 5, 2) := by decide +kernel
theorem dJ13_stringSize_95d88_35 : decode cJ13_stringSize_95d88 35 = .ok (.iload_n 2, 1) := by decide +kernel
theorem dJ13_stringSize_95d88_36 : decode cJ13_stringSize_95d88 36 = .ok (.iadd, 1) := by decide +kernel
theorem dJ13_stringSize_95d88_37 : decode cJ13_stringSize_95d88 37 = .ok (.ireturn, 1) := by decide +kernel
theorem dJ13_stringSize_95d88_38 : decode cJ13_stringSize_95d88 38 = .ok (.ldc2_w 53, 3) := by decide +kernel
theorem dJ13_stringSize_95d88_41 : decode cJ13_stringSize_95d88 41 = .ok (.lload_n 3, 1) := by decide +kernel
theorem dJ13_stringSize_95d88_42 : decode cJ13_stringSize_95d88 42 = .ok (.lmul, 1) := by decide +kernel
theorem dJ13_stringSize_95d88_43 : decode cJ13_stringSize_95d88 43 = .ok (.lstore_n 3, 1) := by decide +kernel
theorem dJ13_stringSize_95d88_44 : decode cJ13_stringSize_95d88 44 = .ok (.iinc 5 1, 3) := by decide +kernel
theorem dJ13_stringSize_95d88_47 : decode cJ13_stringSize_95d88 47 = .ok (.goto (-27), 3) := by decide +kernel
theorem dJ13_stringSize_95d88_50 : decode cJ13_stringSize_95d88 50 = .ok (.bipush 19, 2) := by decide +kernel
theorem dJ13_stringSize_95d88_52 : decode cJ13_stringSize_95d88 52 = .ok (.iload_n 2, 1) := by decide +kernel
theorem dJ13_stringSize_95d88_53 : decode cJ13_stringSize_95d88 53 = .ok (.iadd, 1) := by decide +kernel
theorem dJ13_stringSize_95d88_54 : decode cJ13_stringSize_95d88 54 = .ok (.ireturn, 1) := by decide +kernel
theorem dJ13_compare_74951_0 : decode cJ13_compare_74951 0 = .ok (.lload_n 0, 1) := by decide +kernel
theorem dJ13_compare_74951_1 : decode cJ13_compare_74951 1 = .ok (.lload_n 2, 1) := by decide +kernel
theorem dJ13_compare_74951_2 : decode cJ13_compare_74951 2 = .ok (.lcmp, 1) := by decide +kernel
theorem dJ13_compare_74951_3 : decode cJ13_compare_74951 3 = .ok (.ifCond .ge 7, 3) := by decide +kernel
theorem dJ13_compare_74951_6 : decode cJ13_compare_74951 6 = .ok (.iconst (-1), 1) := by decide +kernel
theorem dJ13_compare_74951_7 : decode cJ13_compare_74951 7 = .ok (.goto 14, 3) := by decide +kernel
theorem dJ13_compare_74951_10 : decode cJ13_compare_74951 10 = .ok (.lload_n 0, 1) := by decide +kernel
theorem dJ13_compare_74951_11 : decode cJ13_compare_74951 11 = .ok (.lload_n 2, 1) := by decide +kernel
theorem dJ13_compare_74951_12 : decode cJ13_compare_74951 12 = .ok (.lcmp, 1) := by decide +kernel
theorem dJ13_compare_74951_13 : decode cJ13_compare_74951 13 = .ok (.ifCond .ne 7, 3) := by decide +kernel
theorem dJ13_compare_74951_16 : decode cJ13_compare_74951 16 = .ok (.iconst 0, 1) := by decide +kernel
theorem dJ13_compare_74951_17 : decode cJ13_compare_74951 17 = .ok (.goto 4, 3) := by decide +kernel
theorem dJ13_compare_74951_20 : decode cJ13_compare_74951 20 = .ok (.iconst 1, 1) := by decide +kernel
theorem dJ13_compare_74951_21 : decode cJ13_compare_74951 21 = .ok (.ireturn, 1) := by decide +kernel
theorem dJ13_signum_95d88_0 : decode cJ13_signum_95d88 0 = .ok (.lload_n 0, 1) := by decide +kernel
theorem dJ13_signum_95d88_1 : decode cJ13_signum_95d88 1 = .ok (.bipush 63, 2) := by decide +kernel
theorem dJ13_signum_95d88_3 : decode cJ13_signum_95d88 3 = .ok (.lshr, 1) := by decide +kernel
theorem dJ13_signum_95d88_4 : decode cJ13_signum_95d88 4 = .ok (.lload_n 0, 1) := by decide +kernel
theorem dJ13_signum_95d88_5 : decode cJ13_signum_95d88 5 = .ok (.lneg, 1) := by decide +kernel
theorem dJ13_signum_95d88_6 : decode cJ13_signum_95d88 6 = .ok (.bipush 63, 2) := by decide +kernel
theorem dJ13_signum_95d88_8 : decode cJ13_signum_95d88 8 = .ok (.lushr, 1) := by decide +kernel
theorem dJ13_signum_95d88_9 : decode cJ13_signum_95d88 9 = .ok (.lor, 1) := by decide +kernel
theorem dJ13_signum_95d88_10 : decode cJ13_signum_95d88 10 = .ok (.l2i, 1) := by decide +kernel
theorem dJ13_signum_95d88_11 : decode cJ13_signum_95d88 11 = .ok (.ireturn, 1) := by decide +kernel
theorem dJ9_floorMod_f86c9_0 : decode cJ9_floorMod_f86c9 0 = .ok (.lload_n 0, 1) := by decide +kernel
theorem dJ9_floorMod_f86c9_1 : decode cJ9_floorMod_f86c9 1 = .ok (.lload_n 2, 1) := by decide +kernel
theorem dJ9_floorMod_f86c9_2 : decode cJ9_floorMod_f86c9 2 = .ok (.lrem, 1) := by decide +kernel
theorem dJ9_floorMod_f86c9_3 : decode cJ9_floorMod_f86c9 3 = .ok (.lstore 4, 2) := by decide +kernel
theorem dJ9_floorMod_f86c9_5 : decode cJ9_floorMod_f86c9 5 = .ok (.lload_n 0, 1) := by decide +kernel
theorem dJ9_floorMod_f86c9_6 : decode cJ9_floorMod_f86c9 6 = .ok (.lload_n 2, 1) := by decide +kernel
theorem dJ9_floorMod_f86c9_7 : decode cJ9_floorMod_f86c9 7 = .ok (.lxor, 1) := by decide +kernel
theorem dJ9_floorMod_f86c9_8 : decode cJ9_floorMod_f86c9 8 = .ok (.lconst 0, 1) := by decide +kernel
theorem dJ9_floorMod_f86c9_9 : decode cJ9_floorMod_f86c9 9 = .ok (.lcmp, 1) := by decide +kernel
theorem dJ9_floorMod_f86c9_10 : decode cJ9_floorMod_f86c9 10 = .ok (.ifCond .ge 15, 3) := by decide +kernel
theorem dJ9_floorMod_f86c9_13 : decode cJ9_floorMod_f86c9 13 = .ok (.lload 4, 2) := by decide +kernel
theorem dJ9_floorMod_f86c9_15 : decode cJ9_floorMod_f86c9 15 = .ok (.lconst 0, 1) := by decide +kernel
theorem dJ9_floorMod_f86c9_16 : decode cJ9_floorMod_f86c9 16 = .ok (.lcmp, 1) := by decide +kernel
theorem dJ9_floorMod_f86c9_17 : decode cJ9_floorMod_f86c9 17 = .ok (.ifCond .eq 8, 3) := by decide +kernel
theorem dJ9_floorMod_f86c9_20 : decode cJ9_floorMod_f86c9 20 = .ok (.lload 4, 2) := by decide +kernel
theorem dJ9_floorMod_f86c9_22 : decode cJ9_floorMod_f86c9 22 = .ok (.lload_n 2, 1) := by decide +kernel
theorem dJ9_floorMod_f86c9_23 : decode cJ9_floorMod_f86c9 23 = .ok (.ladd, 1) := by decide +kernel
theorem dJ9_floorMod_f86c9_24 : decode cJ9_floorMod_f86c9 24 = .ok (.lreturn, 1) := by decide +kernel
theorem dJ9_floorMod_f86c9_25 : decode cJ9_floorMod_f86c9 25 = .ok (.lload 4, 2) := by decide +kernel
theorem dJ9_floorMod_f86c9_27 : decode cJ9_floorMod_f86c9 27 = .ok (.lreturn, 1) := by decide +kernel
theorem dJ9_abs_0f7a4_0 : decode cJ9_abs_0f7a4 0 = .ok (.iload_n 0, 1) := by decide +kernel
theorem dJ9_abs_0f7a4_1 : decode cJ9_abs_0f7a4 1 = .ok (.ifCond .ge 8, 3) := by decide +kernel
theorem dJ9_abs_0f7a4_4 : decode cJ9_abs_0f7a4 4 = .ok (.iload_n 0, 1) := by decide +kernel
theorem dJ9_abs_0f7a4_5 : decode cJ9_abs_0f7a4 5 = .ok (.ineg, 1) := by decide +kernel
theorem dJ9_abs_0f7a4_6 : decode cJ9_abs_0f7a4 6 = .ok (.goto 4, 3) := by decide +kernel
theorem dJ9_abs_0f7a4_9 : decode cJ9_abs_0f7a4 9 = .ok (.iload_n 0, 1) := by decide +kernel
theorem dJ9_abs_0f7a4_10 : decode cJ9_abs_0f7a4 10 = .ok (.ireturn, 1) := by decide +kernel
theorem dJ9_abs_067f4_0 : decode cJ9_abs_067f4 0 = .ok (.lload_n 0, 1) := by decide +kernel
theorem dJ9_abs_067f4_1 : decode cJ9_abs_067f4 1 = .ok (.lconst 0, 1) := by decide +kernel
theorem dJ9_abs_067f4_2 : decode cJ9_abs_067f4 2 = .ok (.lcmp, 1) := by decide +kernel
theorem dJ9_abs_067f4_3 : decode cJ9_abs_067f4 3 = .ok (.ifCond .ge 8, 3) := by decide +kernel
theorem dJ9_abs_067f4_6 : decode cJ9_abs_067f4 6 = .ok (.lload_n 0, 1) := by decide +kernel
theorem dJ9_abs_067f4_7 : decode cJ9_abs_067f4 7 = .ok (.lneg, 1) := by decide +kernel
theorem dJ9_abs_067f4_8 : decode cJ9_abs_067f4 8 = .ok (.goto 4, 3) := by decide +kernel
theorem dJ9_abs_067f4_11 : decode cJ9_abs_067f4 11 = .ok (.lload_n 0, 1) := by decide +kernel
theorem dJ9_abs_067f4_12 : decode cJ9_abs_067f4 12 = .ok (.lreturn, 1) := by decide +kernel
theorem dJ9_max_7cf53_0 : decode cJ9_max_7cf53 0 = .ok (.iload_n 0, 1) := by decide +kernel
theorem dJ9_max_7cf53_1 : decode cJ9_max_7cf53 1 = .ok (.iload_n 1, 1) := by decide +kernel
theorem dJ9_max_7cf53_2 : decode cJ9_max_7cf53 2 = .ok (.if_icmp .lt 7, 3) := by decide +kernel
theorem dJ9_max_7cf53_5 : decode cJ9_max_7cf53 5 = .ok (.iload_n 0, 1) := by decide +kernel
theorem dJ9_max_7cf53_6 : decode cJ9_max_7cf53 6 = .ok (.goto 4, 3) := by decide +kernel
theorem dJ9_max_7cf53_9 : decode cJ9_max_7cf53 9 = .ok (.iload_n 1, 1) := by decide +kernel
theorem dJ9_max_7cf53_10 : decode cJ9_max_7cf53 10 = .ok (.ireturn, 1) := by decide +kernel
theorem dJ9_min_7cf53_0 : decode cJ9_min_7cf53 0 = .ok (.iload_n 0, 1) := by decide +kernel
theorem dJ9_min_7cf53_1 : decode cJ9_min_7cf53 1 = .ok (.iload_n 1, 1) := by decide +kernel
theorem dJ9_min_7cf53_2 : decode cJ9_min_7cf53 2 = .ok (.if_icmp .gt 7, 3) := by decide +kernel
theorem dJ9_min_7cf53_5 : decode cJ9_min_7cf53 5 = .ok (.iload_n 0, 1) := by decide +kernel
theorem dJ9_min_7cf53_6 : decode cJ9_min_7cf53 6 = .ok (.goto 4, 3) := by decide +kernel
theorem dJ9_min_7cf53_9 : decode cJ9_min_7cf53 9 = .ok (.iload_n 1, 1) := by decide +kernel
theorem dJ9_min_7cf53_10 : decode cJ9_min_7cf53 10 = .ok (.ireturn, 1) := by decide +kernel
theorem dJ9_min_f86c9_0 : decode cJ9_min_f86c9 0 = .ok (.lload_n 0, 1) := by decide +kernel
theorem dJ9_min_f86c9_1 : decode cJ9_min_f86c9 1 = .ok (.lload_n 2, 1) := by decide +kernel
theorem dJ9_min_f86c9_2 : decode cJ9_min_f86c9 2 = .ok (.lcmp, 1) := by decide +kernel
theorem dJ9_min_f86c9_3 : decode cJ9_min_f86c9 3 = .ok (.ifCond .gt 7, 3) := by decide +kernel
theorem dJ9_min_f86c9_6 : decode cJ9_min_f86c9 6 = .ok (.lload_n 0, 1) := by decide +kernel
theorem dJ9_min_f86c9_7 : decode cJ9_min_f86c9 7 = .ok (.goto 4, 3) := by decide +kernel
theorem dJ9_min_f86c9_10 : decode cJ9_min_f86c9 10 = .ok (.lload_n 2, 1) := by decide +kernel
theorem dJ9_min_f86c9_11 : decode cJ9_min_f86c9 11 = .ok (.lreturn, 1) := by decide +kernel
theorem dJ0_init_81219_0 : decode cJ0_init_81219 0 = .ok (.aload_n 0, 1) := by decide +kernel
theorem dJ0_init_81219_1 : decode cJ0_init_81219 1 = .ok (.aload_n 1, 1) := by decide +kernel
theorem dJ0_init_81219_2 : decode cJ0_init_81219 2 = .ok (.aconst_null, 1) := by decide +kernel
theorem dJ0_init_81219_3 : decode cJ0_init_81219 3 = .ok (.invokespecial 489, 3) := by decide +kernel
theorem dJ0_init_81219_6 : decode cJ0_init_81219 6 = .ok (.return_, 1) := by decide +kernel
theorem dJ0_length_8abf5_0 : decode cJ0_length_8abf5 0 = .ok (.aload_n 0, 1) := by decide +kernel
theorem dJ0_length_8abf5_1 : decode cJ0_length_8abf5 1 = .ok (.getfield 9, 3) := by decide +kernel
theorem dJ0_length_8abf5_4 : decode cJ0_length_8abf5 4 = .ok (.arraylength, 1) := by decide +kernel
theorem dJ0_length_8abf5_5 : decode cJ0_length_8abf5 5 = .ok (.aload_n 0, 1) := by decide +kernel
theorem dJ0_length_8abf5_6 : decode cJ0_length_8abf5 6 = .ok (.invokevirtual 335, 3) := by decide +kernel
theorem dJ0_length_8abf5_9 : decode cJ0_length_8abf5 9 = .ok (.ishr, 1) := by decide +kernel
theorem dJ0_length_8abf5_10 : decode cJ0_length_8abf5 10 = .ok (.ireturn, 1) := by decide +kernel
theorem dJ0_charAt_5068e_0 : decode cJ0_charAt_5068e 0 = .ok (.aload_n 0, 1) := by decide +kernel
theorem dJ0_charAt_5068e_1 : decode cJ0_charAt_5068e 1 = .ok (.invokevirtual 492, 3) := by decide +kernel
theorem dJ0_charAt_5068e_4 : decode cJ0_charAt_5068e 4 = .ok (.ifCond .eq 12, 3) := by decide +kernel
theorem dJ0_charAt_5068e_7 : decode cJ0_charAt_5068e 7 = .ok (.aload_n 0, 1) := by decide +kernel
theorem dJ0_charAt_5068e_8 : decode cJ0_charAt_5068e 8 = .ok (.getfield 9, 3) := by decide +kernel
theorem dJ0_charAt_5068e_11 : decode cJ0_charAt_5068e 11 = .ok (.iload_n 1, 1) := by decide +kernel
theorem dJ0_charAt_5068e_12 : decode cJ0_charAt_5068e 12 = .ok (.invokestatic 495, 3) := by decide +kernel
theorem dJ0_charAt_5068e_15 : decode cJ0_charAt_5068e 15 = .ok (.ireturn, 1) := by decide +kernel
theorem dJ0_charAt_5068e_16 : decode cJ0_charAt_5068e 16 = .ok (.aload_n 0, 1) := by decide +kernel
theorem dJ0_charAt_5068e_17 : decode cJ0_charAt_5068e 17 = .ok (.getfield 9, 3) := by decide +kernel
theorem dJ0_charAt_5068e_20 : decode cJ0_charAt_5068e 20 = .ok (.iload_n 1, 1) := by decide +kernel
theorem dJ0_charAt_5068e_21 : decode cJ0_charAt_5068e 21 = .ok (.invokestatic 498, 3) := by decide +kernel
theorem dJ0_charAt_5068e_24 : decode cJ0_charAt_5068e 24 = .ok (.ireturn, 1) := by decide +kernel
theorem dJ0_equals_9ea2d_0 : decode cJ0_equals_9ea2d 0 = .ok (.aload_n 0, 1) := by decide +kernel
theorem dJ0_equals_9ea2d_1 : decode cJ0_equals_9ea2d 1 = .ok (.aload_n 1, 1) := by decide +kernel
theorem dJ0_equals_9ea2d_2 : decode cJ0_equals_9ea2d 2 = .ok (.if_acmp .ne 5, 3) := by decide +kernel
theorem dJ0_equals_9ea2d_5 : decode cJ0_equals_9ea2d 5 = .ok (.iconst 1, 1) := by decide +kernel
theorem dJ0_equals_9ea2d_6 : decode cJ0_equals_9ea2d 6 = .ok (.ireturn, 1) := by decide +kernel
theorem dJ0_equals_9ea2d_7 : decode cJ0_equals_9ea2d 7 = .ok (.aload_n 1, 1) := by decide +kernel
theorem dJ0_equals_9ea2d_8 : decode cJ0_equals_9ea2d 8 = .ok (.instanceof 10, 3) := by decide +kernel
theorem dJ0_equals_9ea2d_11 : decode cJ0_equals_9ea2d 11 = .ok (.ifCond .eq 43, 3) := by decide +kernel
theorem dJ0_equals_9ea2d_14 : decode cJ0_equals_9ea2d 14 = .ok (.aload_n 1, 1) := by decide +kernel
theorem dJ0_equals_9ea2d_15 : decode cJ0_equals_9ea2d 15 = .ok (.checkcast 10, 3) := by decide +kernel
theorem dJ0_equals_9ea2d_18 : decode cJ0_equals_9ea2d 18 = .ok (.astore_n 2, 1) := by decide +kernel
theorem dJ0_equals_9ea2d_19 : decode cJ0_equals_9ea2d 19 = .ok (.getstatic 38, 3) := by decide +kernel
theorem dJ0_equals_9ea2d_22 : decode cJ0_equals_9ea2d 22 = .ok (.ifCond .eq 14, 3) := by decide +kernel
theorem dJ0_equals_9ea2d_25 : decode cJ0_equals_9ea2d 25 = .ok (.aload_n 0, 1) := by decide +kernel
theorem dJ0_equals_9ea2d_26 : decode cJ0_equals_9ea2d 26 = .ok (.getfield 15, 3) := by decide +kernel
theorem dJ0_equals_9ea2d_29 : decode cJ0_equals_9ea2d 29 = .ok (.aload_n 2, 1) := by decide +kernel
theorem dJ0_equals_9ea2d_30 : decode cJ0_equals_9ea2d 30 = .ok (.getfield 15, 3) := by decide +kernel
theorem dJ0_equals_9ea2d_33 : decode cJ0_equals_9ea2d 33 = .ok (.if_icmp .ne 21, 3) := by decide +kernel
theorem dJ0_equals_9ea2d_36 : decode cJ0_equals_9ea2d 36 = .ok (.aload_n 0, 1) := by decide +kernel
theorem dJ0_equals_9ea2d_37 : decode cJ0_equals_9ea2d 37 = .ok (.getfield 9, 3) := by decide +kernel
theorem dJ0_equals_9ea2d_40 : decode cJ0_equals_9ea2d 40 = .ok (.aload_n 2, 1) := by decide +kernel
theorem dJ0_equals_9ea2d_41 : decode cJ0_equals_9ea2d 41 = .ok (.getfield 9, 3) := by decide +kernel
theorem dJ0_equals_9ea2d_44 : decode cJ0_equals_9ea2d 44 = .ok (.invokestatic 541, 3) := by decide +kernel
theorem dJ0_equals_9ea2d_47 : decode cJ0_equals_9ea2d 47 = .ok (.ifCond .eq 7, 3) := by decide +kernel
theorem dJ0_equals_9ea2d_50 : decode cJ0_equals_9ea2d 50 = .ok (.iconst 1, 1) := by decide +kernel
theorem dJ0_equals_9ea2d_51 : decode cJ0_equals_9ea2d 51 = .ok (.goto 4, 3) := by decide +kernel
theorem dJ0_equals_9ea2d_54 : decode cJ0_equals_9ea2d 54 = .ok (.iconst 0, 1) := by decide +kernel
theorem dJ0_equals_9ea2d_55 : decode cJ0_equals_9ea2d 55 = .ok (.ireturn, 1) := by decide +kernel
theorem dJ0_getBytes_840e7_0 : decode cJ0_getBytes_840e7 0 = .ok (.aload_n 0, 1) := by decide +kernel
theorem dJ0_getBytes_840e7_1 : decode cJ0_getBytes_840e7 1 = .ok (.invokevirtual 335, 3) := by decide +kernel
theorem dJ0_getBytes_840e7_4 : decode cJ0_getBytes_840e7 4 = .ok (.iload_n 3, 1) := by decide +kernel
theorem dJ0_getBytes_840e7_5 : decode cJ0_getBytes_840e7 5 = .ok (.if_icmp .ne 23, 3) := by decide +kernel
theorem dJ0_getBytes_840e7_8 : decode cJ0_getBytes_840e7 8 = .ok (.aload_n 0, 1) := by decide +kernel
theorem dJ0_getBytes_840e7_9 : decode cJ0_getBytes_840e7 9 = .ok (.getfield 9, 3) := by decide +kernel
theorem dJ0_getBytes_840e7_12 : decode cJ0_getBytes_840e7 12 = .ok (.iconst 0, 1) := by decide +kernel
theorem dJ0_getBytes_840e7_13 : decode cJ0_getBytes_840e7 13 = .ok (.aload_n 1, 1) := by decide +kernel
theorem dJ0_getBytes_840e7_14 : decode cJ0_getBytes_840e7 14 = .ok (.iload_n 2, 1) := by decide +kernel
theorem dJ0_getBytes_840e7_15 : decode cJ0_getBytes_840e7 15 = .ok (.iload_n 3, 1) := by decide +kernel
theorem dJ0_getBytes_840e7_16 : decode cJ0_getBytes_840e7 16 = .ok (.ishl, 1) := by decide +kernel
theorem dJ0_getBytes_840e7_17 : decode cJ0_getBytes_840e7 17 = .ok (.aload_n 0, 1) := by decide +kernel
theorem dJ0_getBytes_840e7_18 : decode cJ0_getBytes_840e7 18 = .ok (.getfield 9, 3) := by decide +kernel
theorem dJ0_getBytes_840e7_21 : decode cJ0_getBytes_840e7 21 = .ok (.arraylength, 1) := by decide +kernel
theorem dJ0_getBytes_840e7_22 : decode cJ0_getBytes_840e7 22 = .ok (.invokestatic 212, 3) := by decide +kernel
theorem dJ0_getBytes_840e7_25 : decode cJ0_getBytes_840e7 25 = .ok (.goto 18, 3) := by decide +kernel
theorem dJ0_getBytes_840e7_28 : decode cJ0_getBytes_840e7 28 = .ok (.aload_n 0, 1) := by decide +kernel
theorem dJ0_getBytes_840e7_29 : decode cJ0_getBytes_840e7 29 = .ok (.getfield 9, 3) := by decide +kernel
theorem dJ0_getBytes_840e7_32 : decode cJ0_getBytes_840e7 32 = .ok (.iconst 0, 1) := by decide +kernel
theorem dJ0_getBytes_840e7_33 : decode cJ0_getBytes_840e7 33 = .ok (.aload_n 1, 1) := by decide +kernel
theorem dJ0_getBytes_840e7_34 : decode cJ0_getBytes_840e7 34 = .ok (.iload_n 2, 1) := by decide +kernel
theorem dJ0_getBytes_840e7_35 : decode cJ0_getBytes_840e7 35 = .ok (.aload_n 0, 1) := by decide +kernel
theorem dJ0_getBytes_840e7_36 : decode cJ0_getBytes_840e7 36 = .ok (.getfield 9, 3) := by decide +kernel
theorem dJ0_getBytes_840e7_39 : decode cJ0_getBytes_840e7 39 = .ok (.arraylength, 1) := by decide +kernel
theorem dJ0_getBytes_840e7_40 : decode cJ0_getBytes_840e7 40 = .ok (.invokestatic 106, 3) := by decide +kernel
theorem dJ0_getBytes_840e7_43 : decode cJ0_getBytes_840e7 43 = .ok (.return_, 1) := by decide +kernel
theorem dJ0_init_db425_0 : decode cJ0_init_db425 0 = .ok (.aload_n 0, 1) := by decide +kernel
theorem dJ0_init_db425_1 : decode cJ0_init_db425 1 = .ok (.invokespecial 1, 3) := by decide +kernel
theorem dJ0_init_db425_4 : decode cJ0_init_db425 4 = .ok (.aload_n 1, 1) := by decide +kernel
theorem dJ0_init_db425_5 : decode cJ0_init_db425 5 = .ok (.invokevirtual 552, 3) := by decide +kernel
theorem dJ0_init_db425_8 : decode cJ0_init_db425 8 = .ok (.astore_n 3, 1) := by decide +kernel
theorem dJ0_init_db425_9 : decode cJ0_init_db425 9 = .ok (.aload_n 1, 1) := by decide +kernel
theorem dJ0_init_db425_10 : decode cJ0_init_db425 10 = .ok (.invokevirtual 549, 3) := by decide +kernel
theorem dJ0_init_db425_13 : decode cJ0_init_db425 13 = .ok (.istore 4, 2) := by decide +kernel
theorem dJ0_init_db425_15 : decode cJ0_init_db425 15 = .ok (.aload_n 1, 1) := by decide +kernel
theorem dJ0_init_db425_16 : decode cJ0_init_db425 16 = .ok (.invokevirtual 1047, 3) := by decide +kernel
theorem dJ0_init_db425_19 : decode cJ0_init_db425 19 = .ok (.ifCond .eq 22, 3) := by decide +kernel
theorem dJ0_init_db425_22 : decode cJ0_init_db425 22 = .ok (.aload_n 0, 1) := by decide +kernel
theorem dJ0_init_db425_23 : decode cJ0_init_db425 23 = .ok (.iconst 0, 1) := by decide +kernel
theorem dJ0_init_db425_24 : decode cJ0_init_db425 24 = .ok (.putfield 15, 3) := by decide +kernel
theorem dJ0_init_db425_27 : decode cJ0_init_db425 27 = .ok (.aload_n 0, 1) := by decide +kernel
theorem dJ0_init_db425_28 : decode cJ0_init_db425 28 = .ok (.aload_n 3, 1) := by decide +kernel
theorem dJ0_init_db425_29 : decode cJ0_init_db425 29 = .ok (.iconst 0, 1) := by decide +kernel
theorem dJ0_init_db425_30 : decode cJ0_init_db425 30 = .ok (.iload 4, 2) := by decide +kernel
theorem dJ0_init_db425_32 : decode cJ0_init_db425 32 = .ok (.invokestatic 54, 3) := by decide +kernel
theorem dJ0_init_db425_35 : decode cJ0_init_db425 35 = .ok (.putfield 9, 3) := by decide +kernel
theorem dJ0_init_db425_38 : decode cJ0_init_db425 38 = .ok (.goto 59, 3) := by decide +kernel
theorem dJ0_init_db425_41 : decode cJ0_init_db425 41 = .ok (.getstatic 38, 3) := by decide +kernel
theorem dJ0_init_db425_44 : decode cJ0_init_db425 44 = .ok (.ifCond .eq 35, 3) := by decide +kernel
theorem dJ0_init_db425_47 : decode cJ0_init_db425 47 = .ok (.aload_n 1, 1) := by decide +kernel
theorem dJ0_init_db425_48 : decode cJ0_init_db425 48 = .ok (.getfield 1048, 3) := by decide +kernel
theorem dJ0_init_db425_51 : decode cJ0_init_db425 51 = .ok (.ifCond .eq 28, 3) := by decide +kernel
theorem dJ0_init_db425_54 : decode cJ0_init_db425 54 = .ok (.aload_n 0, 1) := by decide +kernel
theorem dJ0_init_db425_55 : decode cJ0_init_db425 55 = .ok (.aload_n 3, 1) := by decide +kernel
theorem dJ0_init_db425_56 : decode cJ0_init_db425 56 = .ok (.iconst 0, 1) := by decide +kernel
theorem dJ0_init_db425_57 : decode cJ0_init_db425 57 = .ok (.iload 4, 2) := by decide +kernel
theorem dJ0_init_db425_59 : decode cJ0_init_db425 59 = .ok (.invokestatic 1051, 3) := by decide +kernel
theorem dJ0_init_db425_62 : decode cJ0_init_db425 62 = .ok (.putfield 9, 3) := by decide +kernel
theorem dJ0_init_db425_65 : decode cJ0_init_db425 65 = .ok (.aload_n 0, 1) := by decide +kernel
theorem dJ0_init_db425_66 : decode cJ0_init_db425 66 = .ok (.aload_n 0, 1) := by decide +kernel
theorem dJ0_init_db425_67 : decode cJ0_init_db425 67 = .ok (.getfield 9, 3) := by decide +kernel
theorem dJ0_init_db425_70 : decode cJ0_init_db425 70 = .ok (.iload 4, 2) := by decide +kernel
theorem dJ0_init_db425_72 : decode cJ0_init_db425 72 = .ok (.invokestatic 47, 3) := by decide +kernel
theorem dJ0_init_db425_75 : decode cJ0_init_db425 75 = .ok (.putfield 15, 3) := by decide +kernel
theorem dJ0_init_db425_78 : decode cJ0_init_db425 78 = .ok (.return_, 1) := by decide +kernel
theorem dJ0_init_db425_79 : decode cJ0_init_db425 79 = .ok (.aload_n 0, 1) := by decide +kernel
theorem dJ0_init_db425_80 : decode cJ0_init_db425 80 = .ok (.iconst 1, 1) := by decide +kernel
theorem dJ0_init_db425_81 : decode cJ0_init_db425 81 = .ok (.putfield 15, 3) := by decide +kernel
theorem dJ0_init_db425_84 : decode cJ0_init_db425 84 = .ok (.aload_n 0, 1) := by decide +kernel
theorem dJ0_init_db425_85 : decode cJ0_init_db425 85 = .ok (.aload_n 3, 1) := by decide +kernel
theorem dJ0_init_db425_86 : decode cJ0_init_db425 86 = .ok (.iconst 0, 1) := by decide +kernel
theorem dJ0_init_db425_87 : decode cJ0_init_db425 87 = .ok (.iload 4, 2) := by decide +kernel
theorem dJ0_init_db425_89 : decode cJ0_init_db425 89 = .ok (.iconst 1, 1) := by decide +kernel
theorem dJ0_init_db425_90 : decode cJ0_init_db425 90 = .ok (.ishl, 1) := by decide +kernel
theorem dJ0_init_db425_91 : decode cJ0_init_db425 91 = .ok (.invokestatic 54, 3) := by decide +kernel
theorem dJ0_init_db425_94 : decode cJ0_init_db425 94 = .ok (.putfield 9, 3) := by decide +kernel
theorem dJ0_init_db425_97 : decode cJ0_init_db425 97 = .ok (.return_, 1) := by decide +kernel
theorem dJ0_coder_7d493_0 : decode cJ0_coder_7d493 0 = .ok (.getstatic 38, 3) := by decide +kernel
theorem dJ0_coder_7d493_3 : decode cJ0_coder_7d493 3 = .ok (.ifCond .eq 10, 3) := by decide +kernel
theorem dJ0_coder_7d493_6 : decode cJ0_coder_7d493 6 = .ok (.aload_n 0, 1) := by decide +kernel
theorem dJ0_coder_7d493_7 : decode cJ0_coder_7d493 7 = .ok (.getfield 15, 3) := by decide +kernel
theorem dJ0_coder_7d493_10 : decode cJ0_coder_7d493 10 = .ok (.goto 4, 3) := by decide +kernel
theorem dJ0_coder_7d493_13 : decode cJ0_coder_7d493 13 = .ok (.iconst 1, 1) := by decide +kernel
theorem dJ0_coder_7d493_14 : decode cJ0_coder_7d493 14 = .ok (.ireturn, 1) := by decide +kernel
theorem dJ0_isLatin1_aae02_0 : decode cJ0_isLatin1_aae02 0 = .ok (.getstatic 38, 3) := by decide +kernel
theorem dJ0_isLatin1_aae02_3 : decode cJ0_isLatin1_aae02 3 = .ok (.ifCond .eq 14, 3) := by decide +kernel
theorem dJ0_isLatin1_aae02_6 : decode cJ0_isLatin1_aae02 6 = .ok (.aload_n 0, 1) := by decide +kernel
theorem dJ0_isLatin1_aae02_7 : decode cJ0_isLatin1_aae02 7 = .ok (.getfield 15, 3) := by decide +kernel
theorem dJ0_isLatin1_aae02_10 : decode cJ0_isLatin1_aae02 10 = .ok (.ifCond .ne 7, 3) := by decide +kernel
theorem dJ0_isLatin1_aae02_13 : decode cJ0_isLatin1_aae02 13 = .ok (.iconst 1, 1) := by decide +kernel
theorem dJ0_isLatin1_aae02_14 : decode cJ0_isLatin1_aae02 14 = .ok (.goto 4, 3) := by decide +kernel
theorem dJ0_isLatin1_aae02_17 : decode cJ0_isLatin1_aae02 17 = .ok (.iconst 0, 1) := by decide +kernel
theorem dJ0_isLatin1_aae02_18 : decode cJ0_isLatin1_aae02 18 = .ok (.ireturn, 1) := by decide +kernel
theorem dJ0_checkIndex_df160_0 : decode cJ0_checkIndex_df160 0 = .ok (.iload_n 0, 1) := by decide +kernel
theorem dJ0_checkIndex_df160_1 : decode cJ0_checkIndex_df160 1 = .ok (.iload_n 1, 1) := by decide +kernel
theorem dJ0_checkIndex_df160_2 : decode cJ0_checkIndex_df160 2 = .ok (.getstatic 1053, 3) := by decide +kernel
theorem dJ0_checkIndex_df160_5 : decode cJ0_checkIndex_df160 5 = .ok (.invokestatic 1059, 3) := by decide +kernel
theorem dJ0_checkIndex_df160_8 : decode cJ0_checkIndex_df160 8 = .ok (.pop, 1) := by decide +kernel
theorem dJ0_checkIndex_df160_9 : decode cJ0_checkIndex_df160 9 = .ok (.return_, 1) := by decide +kernel
theorem dJ0_checkBoundsOffCount_cabcc_0 : decode cJ0_checkBoundsOffCount_cabcc 0 = .ok (.iload_n 0, 1) := by decide +kernel
theorem dJ0_checkBoundsOffCount_cabcc_1 : decode cJ0_checkBoundsOffCount_cabcc 1 = .ok (.iload_n 1, 1) := by decide +kernel
theorem dJ0_checkBoundsOffCount_cabcc_2 : decode cJ0_checkBoundsOffCount_cabcc 2 = .ok (.iload_n 2, 1) := by decide +kernel
theorem dJ0_checkBoundsOffCount_cabcc_3 : decode cJ0_checkBoundsOffCount_cabcc 3 = .ok (.getstatic 1053, 3) := by decide +kernel
theorem dJ0_checkBoundsOffCount_cabcc_6 : decode cJ0_checkBoundsOffCount_cabcc 6 = .ok (.invokestatic 1065, 3) := by decide +kernel
theorem dJ0_checkBoundsOffCount_cabcc_9 : decode cJ0_checkBoundsOffCount_cabcc 9 = .ok (.ireturn, 1) := by decide +kernel
theorem dJ0_checkBoundsBeginEnd_23922_0 : decode cJ0_checkBoundsBeginEnd_23922 0 = .ok (.iload_n 0, 1) := by decide +kernel
theorem dJ0_checkBoundsBeginEnd_23922_1 : decode cJ0_checkBoundsBeginEnd_23922 1 = .ok (.iload_n 1, 1) := by decide +kernel
theorem dJ0_checkBoundsBeginEnd_23922_2 : decode cJ0_checkBoundsBeginEnd_23922 2 = .ok (.iload_n 2, 1) := by decide +kernel
theorem dJ0_checkBoundsBeginEnd_23922_3 : decode cJ0_checkBoundsBeginEnd_23922 3 = .ok (.getstatic 1053, 3) := by decide +kernel
theorem dJ0_checkBoundsBeginEnd_23922_6 : decode cJ0_checkBoundsBeginEnd_23922 6 = .ok (.invokestatic 1062, 3) := by decide +kernel
theorem dJ0_checkBoundsBeginEnd_23922_9 : decode cJ0_checkBoundsBeginEnd_23922 9 = .ok (.pop, 1) := by decide +kernel
theorem dJ0_checkBoundsBeginEnd_23922_10 : decode cJ0_checkBoundsBeginEnd_23922 10 = .ok (.return_, 1) := by decide +kernel
theorem dJ4_init_da8c8_0 : decode cJ4_init_da8c8 0 = .ok (.aload_n 0, 1) := by decide +kernel
theorem dJ4_init_da8c8_1 : decode cJ4_init_da8c8 1 = .ok (.bipush 16, 2) := by decide +kernel
theorem dJ4_init_da8c8_3 : decode cJ4_init_da8c8 3 = .ok (.invokespecial 1, 3) := by decide +kernel
theorem dJ4_init_da8c8_6 : decode cJ4_init_da8c8 6 = .ok (.return_, 1) := by decide +kernel
theorem dJ4_init_a7421_0 : decode cJ4_init_a7421 0 = .ok (.aload_n 0, 1) := by decide +kernel
theorem dJ4_init_a7421_1 : decode cJ4_init_a7421 1 = .ok (.aload_n 1, 1) := by decide +kernel
theorem dJ4_init_a7421_2 : decode cJ4_init_a7421 2 = .ok (.invokespecial 7, 3) := by decide +kernel
theorem dJ4_init_a7421_5 : decode cJ4_init_a7421 5 = .ok (.return_, 1) := by decide +kernel
theorem dJ4_append_15ec4_0 : decode cJ4_append_15ec4 0 = .ok (.aload_n 0, 1) := by decide +kernel
theorem dJ4_append_15ec4_1 : decode cJ4_append_15ec4 1 = .ok (.aload_n 1, 1) := by decide +kernel
theorem dJ4_append_15ec4_2 : decode cJ4_append_15ec4 2 = .ok (.invokespecial 29, 3) := by decide +kernel
theorem dJ4_append_15ec4_5 : decode cJ4_append_15ec4 5 = .ok (.pop, 1) := by decide +kernel
theorem dJ4_append_15ec4_6 : decode cJ4_append_15ec4 6 = .ok (.aload_n 0, 1) := by decide +kernel
theorem dJ4_append_15ec4_7 : decode cJ4_append_15ec4 7 = .ok (.areturn, 1) := by decide +kernel
theorem dJ4_append_cf468_0 : decode cJ4_append_cf468 0 = .ok (.aload_n 0, 1) := by decide +kernel
theorem dJ4_append_cf468_1 : decode cJ4_append_cf468 1 = .ok (.iload_n 1, 1) := by decide +kernel
theorem dJ4_append_cf468_2 : decode cJ4_append_cf468 2 = .ok (.invokespecial 50, 3) := by decide +kernel
theorem dJ4_append_cf468_5 : decode cJ4_append_cf468 5 = .ok (.pop, 1) := by decide +kernel
theorem dJ4_append_cf468_6 : decode cJ4_append_cf468 6 = .ok (.aload_n 0, 1) := by decide +kernel
theorem dJ4_append_cf468_7 : decode cJ4_append_cf468 7 = .ok (.areturn, 1) := by decide +kernel
theorem dJ4_append_bf812_0 : decode cJ4_append_bf812 0 = .ok (.aload_n 0, 1) := by decide +kernel
theorem dJ4_append_bf812_1 : decode cJ4_append_bf812 1 = .ok (.iload_n 1, 1) := by decide +kernel
theorem dJ4_append_bf812_2 : decode cJ4_append_bf812 2 = .ok (.invokespecial 53, 3) := by decide +kernel
theorem dJ4_append_bf812_5 : decode cJ4_append_bf812 5 = .ok (.pop, 1) := by decide +kernel
theorem dJ4_append_bf812_6 : decode cJ4_append_bf812 6 = .ok (.aload_n 0, 1) := by decide +kernel
theorem dJ4_append_bf812_7 : decode cJ4_append_bf812 7 = .ok (.areturn, 1) := by decide +kernel
theorem dJ4_append_f7089_0 : decode cJ4_append_f7089 0 = .ok (.aload_n 0, 1) := by decide +kernel
theorem dJ4_append_f7089_1 : decode cJ4_append_f7089 1 = .ok (.lload_n 1, 1) := by decide +kernel
theorem dJ4_append_f7089_2 : decode cJ4_append_f7089 2 = .ok (.invokespecial 56, 3) := by decide +kernel
theorem dJ4_append_f7089_5 : decode cJ4_append_f7089 5 = .ok (.pop, 1) := by decide +kernel
theorem dJ4_append_f7089_6 : decode cJ4_append_f7089 6 = .ok (.aload_n 0, 1) := by decide +kernel
theorem dJ4_append_f7089_7 : decode cJ4_append_f7089 7 = .ok (.areturn, 1) := by decide +kernel
theorem dJ4_toString_0e30d_0 : decode cJ4_toString_0e30d 0 = .ok (.new 18, 3) := by decide +kernel
theorem dJ4_toString_0e30d_3 : decode cJ4_toString_0e30d 3 = .ok (.dup, 1) := by decide +kernel
theorem dJ4_toString_0e30d_4 : decode cJ4_toString_0e30d 4 = .ok (.aload_n 0, 1) := by decide +kernel
theorem dJ4_toString_0e30d_5 : decode cJ4_toString_0e30d 5 = .ok (.invokespecial 137, 3) := by decide +kernel
theorem dJ4_toString_0e30d_8 : decode cJ4_toString_0e30d 8 = .ok (.areturn, 1) := by decide +kernel
theorem dJ4_append_cf1ce_0 : decode cJ4_append_cf1ce 0 = .ok (.aload_n 0, 1) := by decide +kernel
theorem dJ4_append_cf1ce_1 : decode cJ4_append_cf1ce 1 = .ok (.aload_n 1, 1) := by decide +kernel
theorem dJ4_append_cf1ce_2 : decode cJ4_append_cf1ce 2 = .ok (.invokevirtual 23, 3) := by decide +kernel
theorem dJ4_append_cf1ce_5 : decode cJ4_append_cf1ce 5 = .ok (.areturn, 1) := by decide +kernel
theorem dJ4_charAt_5068e_0 : decode cJ4_charAt_5068e 0 = .ok (.aload_n 0, 1) := by decide +kernel
theorem dJ4_charAt_5068e_1 : decode cJ4_charAt_5068e 1 = .ok (.iload_n 1, 1) := by decide +kernel
theorem dJ4_charAt_5068e_2 : decode cJ4_charAt_5068e 2 = .ok (.invokespecial 329, 3) := by decide +kernel
theorem dJ4_charAt_5068e_5 : decode cJ4_charAt_5068e 5 = .ok (.ireturn, 1) := by decide +kernel
theorem dJ4_setLength_d00df_0 : decode cJ4_setLength_d00df 0 = .ok (.aload_n 0, 1) := by decide +kernel
theorem dJ4_setLength_d00df_1 : decode cJ4_setLength_d00df 1 = .ok (.iload_n 1, 1) := by decide +kernel
theorem dJ4_setLength_d00df_2 : decode cJ4_setLength_d00df 2 = .ok (.invokespecial 333, 3) := by decide +kernel
theorem dJ4_setLength_d00df_5 : decode cJ4_setLength_d00df 5 = .ok (.return_, 1) := by decide +kernel
theorem dJ4_length_8abf5_0 : decode cJ4_length_8abf5 0 = .ok (.aload_n 0, 1) := by decide +kernel
theorem dJ4_length_8abf5_1 : decode cJ4_length_8abf5 1 = .ok (.invokespecial 343, 3) := by decide +kernel
theorem dJ4_length_8abf5_4 : decode cJ4_length_8abf5 4 = .ok (.ireturn, 1) := by decide +kernel
theorem dJ1_charAt_3b067_0 : decode cJ1_charAt_3b067 0 = .ok (.iload_n 1, 1) := by decide +kernel
theorem dJ1_charAt_3b067_1 : decode cJ1_charAt_3b067 1 = .ok (.aload_n 0, 1) := by decide +kernel
theorem dJ1_charAt_3b067_2 : decode cJ1_charAt_3b067 2 = .ok (.arraylength, 1) := by decide +kernel
theorem dJ1_charAt_3b067_3 : decode cJ1_charAt_3b067 3 = .ok (.invokestatic 9, 3) := by decide +kernel
theorem dJ1_charAt_3b067_6 : decode cJ1_charAt_3b067 6 = .ok (.aload_n 0, 1) := by decide +kernel
theorem dJ1_charAt_3b067_7 : decode cJ1_charAt_3b067 7 = .ok (.iload_n 1, 1) := by decide +kernel
theorem dJ1_charAt_3b067_8 : decode cJ1_charAt_3b067 8 = .ok (.baload, 1) := by decide +kernel
theorem dJ1_charAt_3b067_9 : decode cJ1_charAt_3b067 9 = .ok (.sipush 255, 3) := by decide +kernel
theorem dJ1_charAt_3b067_12 : decode cJ1_charAt_3b067 12 = .ok (.iand, 1) := by decide +kernel
theorem dJ1_charAt_3b067_13 : decode cJ1_charAt_3b067 13 = .ok (.i2c, 1) := by decide +kernel
theorem dJ1_charAt_3b067_14 : decode cJ1_charAt_3b067 14 = .ok (.ireturn, 1) := by decide +kernel
theorem dJ1_canEncode_fc78d_0 : decode cJ1_canEncode_fc78d 0 = .ok (.iload_n 0, 1) := by decide +kernel
theorem dJ1_canEncode_fc78d_1 : decode cJ1_canEncode_fc78d 1 = .ok (.sipush 255, 3) := by decide +kernel
theorem dJ1_canEncode_fc78d_4 : decode cJ1_canEncode_fc78d 4 = .ok (.if_icmp .gt 7, 3) := by decide +kernel
theorem dJ1_canEncode_fc78d_7 : decode cJ1_canEncode_fc78d 7 = .ok (.iconst 1, 1) := by decide +kernel
theorem dJ1_canEncode_fc78d_8 : decode cJ1_canEncode_fc78d 8 = .ok (.goto 4, 3) := by decide +kernel
theorem dJ1_canEncode_fc78d_11 : decode cJ1_canEncode_fc78d 11 = .ok (.iconst 0, 1) := by decide +kernel
theorem dJ1_canEncode_fc78d_12 : decode cJ1_canEncode_fc78d 12 = .ok (.ireturn, 1) := by decide +kernel
theorem dJ1_equals_b5fdf_0 : decode cJ1_equals_b5fdf 0 = .ok (.aload_n 0, 1) := by decide +kernel
theorem dJ1_equals_b5fdf_1 : decode cJ1_equals_b5fdf 1 = .ok (.arraylength, 1) := by decide +kernel
theorem dJ1_equals_b5fdf_2 : decode cJ1_equals_b5fdf 2 = .ok (.aload_n 1, 1) := by decide +kernel
theorem dJ1_equals_b5fdf_3 : decode cJ1_equals_b5fdf 3 = .ok (.arraylength, 1) := by decide +kernel
theorem dJ1_equals_b5fdf_4 : decode cJ1_equals_b5fdf 4 = .ok (.if_icmp .ne 30, 3) := by decide +kernel
theorem dJ1_equals_b5fdf_7 : decode cJ1_equals_b5fdf 7 = .ok (.iconst 0, 1) := by decide +kernel
theorem dJ1_equals_b5fdf_8 : decode cJ1_equals_b5fdf 8 = .ok (.istore_n 2, 1) := by decide +kernel
theorem dJ1_equals_b5fdf_9 : decode cJ1_equals_b5fdf 9 = .ok (.iload_n 2, 1) := by decide +kernel
theorem dJ1_equals_b5fdf_10 : decode cJ1_equals_b5fdf 10 = .ok (.aload_n 0, 1) := by decide +kernel
theorem dJ1_equals_b5fdf_11 : decode cJ1_equals_b5fdf 11 = .ok (.arraylength, 1) := by decide +kernel
theorem dJ1_equals_b5fdf_12 : decode cJ1_equals_b5fdf 12 = .ok (.if_icmp .ge 20, 3) := by decide +kernel
theorem dJ1_equals_b5fdf_15 : decode cJ1_equals_b5fdf 15 = .ok (.aload_n 0, 1) := by decide +kernel
theorem dJ1_equals_b5fdf_16 : decode cJ1_equals_b5fdf 16 = .ok (.iload_n 2, 1) := by decide +kernel
theorem dJ1_equals_b5fdf_17 : decode cJ1_equals_b5fdf 17 = .ok (.baload, 1) := by decide +kernel
theorem dJ1_equals_b5fdf_18 : decode cJ1_equals_b5fdf 18 = .ok (.aload_n 1, 1) := by decide +kernel
theorem dJ1_equals_b5fdf_19 : decode cJ1_equals_b5fdf 19 = .ok (.iload_n 2, 1) := by decide +kernel
theorem dJ1_equals_b5fdf_20 : decode cJ1_equals_b5fdf 20 = .ok (.baload, 1) := by decide +kernel
theorem dJ1_equals_b5fdf_21 : decode cJ1_equals_b5fdf 21 = .ok (.if_icmp .eq 5, 3) := by decide +kernel
theorem dJ1_equals_b5fdf_24 : decode cJ1_equals_b5fdf 24 = .ok (.iconst 0, 1) := by decide +kernel
theorem dJ1_equals_b5fdf_25 : decode cJ1_equals_b5fdf 25 = .ok (.ireturn, 1) := by decide +kernel
theorem dJ1_equals_b5fdf_26 : decode cJ1_equals_b5fdf 26 = .ok (.iinc 2 1, 3) := by decide +kernel
theorem dJ1_equals_b5fdf_29 : decode cJ1_equals_b5fdf 29 = .ok (.goto (-20), 3) := by decide +kernel
theorem dJ1_equals_b5fdf_32 : decode cJ1_equals_b5fdf 32 = .ok (.iconst 1, 1) := by decide +kernel
theorem dJ1_equals_b5fdf_33 : decode cJ1_equals_b5fdf 33 = .ok (.ireturn, 1) := by decide +kernel
theorem dJ1_equals_b5fdf_34 : decode cJ1_equals_b5fdf 34 = .ok (.iconst 0, 1) := by decide +kernel
theorem dJ1_equals_b5fdf_35 : decode cJ1_equals_b5fdf 35 = .ok (.ireturn, 1) := by decide +kernel
theorem dJ1_fillNull_b72d1_0 : decode cJ1_fillNull_b72d1 0 = .ok (.aload_n 0, 1) := by decide +kernel
theorem dJ1_fillNull_b72d1_1 : decode cJ1_fillNull_b72d1 1 = .ok (.iload_n 1, 1) := by decide +kernel
theorem dJ1_fillNull_b72d1_2 : decode cJ1_fillNull_b72d1 2 = .ok (.iload_n 2, 1) := by decide +kernel
theorem dJ1_fillNull_b72d1_3 : decode cJ1_fillNull_b72d1 3 = .ok (.iconst 0, 1) := by decide +kernel
theorem dJ1_fillNull_b72d1_4 : decode cJ1_fillNull_b72d1 4 = .ok (.invokestatic 236, 3) := by decide +kernel
theorem dJ1_fillNull_b72d1_7 : decode cJ1_fillNull_b72d1 7 = .ok (.return_, 1) := by decide +kernel
theorem dJ1_inflate_0e8fd_0 : decode cJ1_inflate_0e8fd 0 = .ok (.aload_n 0, 1) := by decide +kernel
theorem dJ1_inflate_0e8fd_1 : decode cJ1_inflate_0e8fd 1 = .ok (.iload_n 1, 1) := by decide +kernel
theorem dJ1_inflate_0e8fd_2 : decode cJ1_inflate_0e8fd 2 = .ok (.aload_n 2, 1) := by decide +kernel
theorem dJ1_inflate_0e8fd_3 : decode cJ1_inflate_0e8fd 3 = .ok (.iload_n 3, 1) := by decide +kernel
theorem dJ1_inflate_0e8fd_4 : decode cJ1_inflate_0e8fd 4 = .ok (.iload 4, 2) := by decide +kernel
theorem dJ1_inflate_0e8fd_6 : decode cJ1_inflate_0e8fd 6 = .ok (.invokestatic 240, 3) := by decide +kernel
theorem dJ1_inflate_0e8fd_9 : decode cJ1_inflate_0e8fd 9 = .ok (.return_, 1) := by decide +kernel
theorem dJ2_newBytesFor_77867_0 : decode cJ2_newBytesFor_77867 0 = .ok (.iload_n 0, 1) := by decide +kernel
theorem dJ2_newBytesFor_77867_1 : decode cJ2_newBytesFor_77867 1 = .ok (.invokestatic 11, 3) := by decide +kernel
theorem dJ2_newBytesFor_77867_4 : decode cJ2_newBytesFor_77867 4 = .ok (.newarray .byte, 2) := by decide +kernel
theorem dJ2_newBytesFor_77867_6 : decode cJ2_newBytesFor_77867 6 = .ok (.areturn, 1) := by decide +kernel
theorem dJ2_newBytesLength_0f7a4_0 : decode cJ2_newBytesLength_0f7a4 0 = .ok (.iload_n 0, 1) := by decide +kernel
theorem dJ2_newBytesLength_0f7a4_1 : decode cJ2_newBytesLength_0f7a4 1 = .ok (.ifCond .ge 11, 3) := by decide +kernel
theorem dJ2_newBytesLength_0f7a4_4 : decode cJ2_newBytesLength_0f7a4 4 = .ok (.new 17, 3) := by decide +kernel
theorem dJ2_newBytesLength_0f7a4_7 : decode cJ2_newBytesLength_0f7a4 7 = .ok (.dup, 1) := by decide +kernel
theorem dJ2_newBytesLength_0f7a4_8 : decode cJ2_newBytesLength_0f7a4 8 = .ok (.invokespecial 19, 3) := by decide +kernel
theorem dJ2_newBytesLength_0f7a4_11 : decode cJ2_newBytesLength_0f7a4 11 = .ok (.athrow, 1) := by decide +kernel
theorem dJ2_newBytesLength_0f7a4_12 : decode cJ2_newBytesLength_0f7a4 12 = .ok (.iload_n 0, 1) := by decide +kernel
theorem dJ2_newBytesLength_0f7a4_13 : decode cJ2_newBytesLength_0f7a4 13 = .ok (.ldc 20, 2) := by decide +kernel
theorem dJ2_newBytesLength_0f7a4_15 : decode cJ2_newBytesLength_0f7a4 15 = .ok (.if_icmp .lt 40, 3) := by decide +kernel
theorem dJ2_newBytesLength_0f7a4_18 : decode cJ2_newBytesLength_0f7a4 18 = .ok (.new 21, 3) := by decide +kernel
theorem dJ2_newBytesLength_0f7a4_21 : decode cJ2_newBytesLength_0f7a4 21 = .ok (.dup, 1) := by decide +kernel
theorem dJ2_newBytesLength_0f7a4_22 : decode cJ2_newBytesLength_0f7a4 22 = .ok (.new 23, 3) := by decide +kernel
theorem dJ2_newBytesLength_0f7a4_25 : decode cJ2_newBytesLength_0f7a4 25 = .ok (.dup, 1) := by decide +kernel
theorem dJ2_newBytesLength_0f7a4_26 : decode cJ2_newBytesLength_0f7a4 26 = .ok (.invokespecial 25, 3) := by decide +kernel
theorem dJ2_newBytesLength_0f7a4_29 : decode cJ2_newBytesLength_0f7a4 29 = .ok (.ldc 26, 2) := by decide +kernel
theorem dJ2_newBytesLength_0f7a4_31 : decode cJ2_newBytesLength_0f7a4 31 = .ok (.invokevirtual 28, 3) := by decide +kernel
theorem dJ2_newBytesLength_0f7a4_34 : decode cJ2_newBytesLength_0f7a4 34 = .ok (.iload_n 0, 1) := by decide +kernel
theorem dJ2_newBytesLength_0f7a4_35 : decode cJ2_newBytesLength_0f7a4 35 = .ok (.invokevirtual 32, 3) := by decide +kernel
theorem dJ2_newBytesLength_0f7a4_38 : decode cJ2_newBytesLength_0f7a4 38 = .ok (.ldc 35, 2) := by decide +kernel
theorem dJ2_newBytesLength_0f7a4_40 : decode cJ2_newBytesLength_0f7a4 40 = .ok (.invokevirtual 28, 3) := by decide +kernel
theorem dJ2_newBytesLength_0f7a4_43 : decode cJ2_newBytesLength_0f7a4 43 = .ok (.ldc 20, 2) := by decide +kernel
theorem dJ2_newBytesLength_0f7a4_45 : decode cJ2_newBytesLength_0f7a4 45 = .ok (.invokevirtual 32, 3) := by decide +kernel
theorem dJ2_newBytesLength_0f7a4_48 : decode cJ2_newBytesLength_0f7a4 48 = .ok (.invokevirtual 37, 3) := by decide +kernel
theorem dJ2_newBytesLength_0f7a4_51 : decode cJ2_newBytesLength_0f7a4 51 = .ok (.invokespecial 41, 3) := by decide +kernel
theorem dJ2_newBytesLength_0f7a4_54 : decode cJ2_newBytesLength_0f7a4 54 = .ok (.athrow, 1) := by decide +kernel
theorem dJ2_newBytesLength_0f7a4_55 : decode cJ2_newBytesLength_0f7a4 55 = .ok (.iload_n 0, 1) := by decide +kernel
theorem dJ2_newBytesLength_0f7a4_56 : decode cJ2_newBytesLength_0f7a4 56 = .ok (.iconst 1, 1) := by decide +kernel
theorem dJ2_newBytesLength_0f7a4_57 : decode cJ2_newBytesLength_0f7a4 57 = .ok (.ishl, 1) := by decide +kernel
theorem dJ2_newBytesLength_0f7a4_58 : decode cJ2_newBytesLength_0f7a4 58 = .ok (.ireturn, 1) := by decide +kernel
theorem dJ2_putChar_b72d1_0 : decode cJ2_putChar_b72d1 0 = .ok (.getstatic 44, 3) := by decide +kernel
theorem dJ2_putChar_b72d1_3 : decode cJ2_putChar_b72d1 3 = .ok (.ifCond .ne 25, 3) := by decide +kernel
theorem dJ2_putChar_b72d1_6 : decode cJ2_putChar_b72d1 6 = .ok (.iload_n 1, 1) := by decide +kernel
theorem dJ2_putChar_b72d1_7 : decode cJ2_putChar_b72d1 7 = .ok (.ifCond .lt 11, 3) := by decide +kernel
theorem dJ2_putChar_b72d1_10 : decode cJ2_putChar_b72d1 10 = .ok (.iload_n 1, 1) := by decide +kernel
theorem dJ2_putChar_b72d1_11 : decode cJ2_putChar_b72d1 11 = .ok (.aload_n 0, 1) := by decide +kernel
theorem dJ2_putChar_b72d1_12 : decode cJ2_putChar_b72d1 12 = .ok (.invokestatic 48, 3) := by decide +kernel
theorem dJ2_putChar_b72d1_15 : decode cJ2_putChar_b72d1 15 = .ok (.if_icmp .lt 13, 3) := by decide +kernel
theorem dJ2_putChar_b72d1_18 : decode cJ2_putChar_b72d1 18 = .ok (.new 52, 3) := by decide +kernel
theorem dJ2_putChar_b72d1_21 : decode cJ2_putChar_b72d1 21 = .ok (.dup, 1) := by decide +kernel
theorem dJ2_putChar_b72d1_22 : decode cJ2_putChar_b72d1 22 = .ok (.ldc 54, 2) := by decide +kernel
theorem dJ2_putChar_b72d1_24 : decode cJ2_putChar_b72d1 24 = .ok (.invokespecial 56, 3) := by decide +kernel
theorem dJ2_putChar_b72d1_27 : decode cJ2_putChar_b72d1 27 = .ok (.athrow, 1) := by decide +kernel
theorem dJ2_putChar_b72d1_28 : decode cJ2_putChar_b72d1 28 = .ok (.iload_n 1, 1) := by decide +kernel
theorem dJ2_putChar_b72d1_29 : decode cJ2_putChar_b72d1 29 = .ok (.iconst 1, 1) := by decide +kernel
theorem dJ2_putChar_b72d1_30 : decode cJ2_putChar_b72d1 30 = .ok (.ishl, 1) := by decide +kernel
theorem dJ2_putChar_b72d1_31 : decode cJ2_putChar_b72d1 31 = .ok (.istore_n 1, 1) := by decide +kernel
theorem dJ2_putChar_b72d1_32 : decode cJ2_putChar_b72d1 32 = .ok (.aload_n 0, 1) := by decide +kernel
theorem dJ2_putChar_b72d1_33 : decode cJ2_putChar_b72d1 33 = .ok (.iload_n 1, 1) := by decide +kernel
theorem dJ2_putChar_b72d1_34 : decode cJ2_putChar_b72d1 34 = .ok (.iinc 1 1, 3) := by decide +kernel
theorem dJ2_putChar_b72d1_37 : decode cJ2_putChar_b72d1 37 = .ok (.iload_n 2, 1) := by decide +kernel
theorem dJ2_putChar_b72d1_38 : decode cJ2_putChar_b72d1 38 = .ok (.getstatic 59, 3) := by decide +kernel
theorem dJ2_putChar_b72d1_41 : decode cJ2_putChar_b72d1 41 = .ok (.ishr, 1) := by decide +kernel
theorem dJ2_putChar_b72d1_42 : decode cJ2_putChar_b72d1 42 = .ok (.i2b, 1) := by decide +kernel
theorem dJ2_putChar_b72d1_43 : decode cJ2_putChar_b72d1 43 = .ok (.bastore, 1) := by decide +kernel
theorem dJ2_putChar_b72d1_44 : decode cJ2_putChar_b72d1 44 = .ok (.aload_n 0, 1) := by decide +kernel
theorem dJ2_putChar_b72d1_45 : decode cJ2_putChar_b72d1 45 = .ok (.iload_n 1, 1) := by decide +kernel
theorem dJ2_putChar_b72d1_46 : decode cJ2_putChar_b72d1 46 = .ok (.iload_n 2, 1) := by decide +kernel
theorem dJ2_putChar_b72d1_47 : decode cJ2_putChar_b72d1 47 = .ok (.getstatic 63, 3) := by decide +kernel
theorem dJ2_putChar_b72d1_50 : decode cJ2_putChar_b72d1 50 = .ok (.ishr, 1) := by decide +kernel
theorem dJ2_putChar_b72d1_51 : decode cJ2_putChar_b72d1 51 = .ok (.i2b, 1) := by decide +kernel
theorem dJ2_putChar_b72d1_52 : decode cJ2_putChar_b72d1 52 = .ok (.bastore, 1) := by decide +kernel
theorem dJ2_putChar_b72d1_53 : decode cJ2_putChar_b72d1 53 = .ok (.return_, 1) := by decide +kernel
theorem dJ2_getChar_3b067_0 : decode cJ2_getChar_3b067 0 = .ok (.getstatic 44, 3) := by decide +kernel
theorem dJ2_getChar_3b067_3 : decode cJ2_getChar_3b067 3 = .ok (.ifCond .ne 25, 3) := by decide +kernel
theorem dJ2_getChar_3b067_6 : decode cJ2_getChar_3b067 6 = .ok (.iload_n 1, 1) := by decide +kernel
theorem dJ2_getChar_3b067_7 : decode cJ2_getChar_3b067 7 = .ok (.ifCond .lt 11, 3) := by decide +kernel
theorem dJ2_getChar_3b067_10 : decode cJ2_getChar_3b067 10 = .ok (.iload_n 1, 1) := by decide +kernel
theorem dJ2_getChar_3b067_11 : decode cJ2_getChar_3b067 11 = .ok (.aload_n 0, 1) := by decide +kernel
theorem dJ2_getChar_3b067_12 : decode cJ2_getChar_3b067 12 = .ok (.invokestatic 48, 3) := by decide +kernel
theorem dJ2_getChar_3b067_15 : decode cJ2_getChar_3b067 15 = .ok (.if_icmp .lt 13, 3) := by decide +kernel
theorem dJ2_getChar_3b067_18 : decode cJ2_getChar_3b067 18 = .ok (.new 52, 3) := by decide +kernel
theorem dJ2_getChar_3b067_21 : decode cJ2_getChar_3b067 21 = .ok (.dup, 1) := by decide +kernel
theorem dJ2_getChar_3b067_22 : decode cJ2_getChar_3b067 22 = .ok (.ldc 54, 2) := by decide +kernel
theorem dJ2_getChar_3b067_24 : decode cJ2_getChar_3b067 24 = .ok (.invokespecial 56, 3) := by decide +kernel
theorem dJ2_getChar_3b067_27 : decode cJ2_getChar_3b067 27 = .ok (.athrow, 1) := by decide +kernel
theorem dJ2_getChar_3b067_28 : decode cJ2_getChar_3b067 28 = .ok (.iload_n 1, 1) := by decide +kernel
theorem dJ2_getChar_3b067_29 : decode cJ2_getChar_3b067 29 = .ok (.iconst 1, 1) := by decide +kernel
theorem dJ2_getChar_3b067_30 : decode cJ2_getChar_3b067 30 = .ok (.ishl, 1) := by decide +kernel
theorem dJ2_getChar_3b067_31 : decode cJ2_getChar_3b067 31 = .ok (.istore_n 1, 1) := by decide +kernel
theorem dJ2_getChar_3b067_32 : decode cJ2_getChar_3b067 32 = .ok (.aload_n 0, 1) := by decide +kernel
theorem dJ2_getChar_3b067_33 : decode cJ2_getChar_3b067 33 = .ok (.iload_n 1, 1) := by decide +kernel
theorem dJ2_getChar_3b067_34 : decode cJ2_getChar_3b067 34 = .ok (.iinc 1 1, 3) := by decide +kernel
theorem dJ2_getChar_3b067_37 : decode cJ2_getChar_3b067 37 = .ok (.baload, 1) := by decide +kernel
theorem dJ2_getChar_3b067_38 : decode cJ2_getChar_3b067 38 = .ok (.sipush 255, 3) := by decide +kernel
theorem dJ2_getChar_3b067_41 : decode cJ2_getChar_3b067 41 = .ok (.iand, 1) := by decide +kernel
theorem dJ2_getChar_3b067_42 : decode cJ2_getChar_3b067 42 = .ok (.getstatic 59, 3) := by decide +kernel
theorem dJ2_getChar_3b067_45 : decode cJ2_getChar_3b067 45 = .ok (.ishl, 1) := by decide +kernel
theorem dJ2_getChar_3b067_46 : decode cJ2_getChar_3b067 46 = .ok (.aload_n 0, 1) := by decide +kernel
theorem dJ2_getChar_3b067_47 : decode cJ2_getChar_3b067 47 = .ok (.iload_n 1, 1) := by decide +kernel
theorem dJ2_getChar_3b067_48 : decode cJ2_getChar_3b067 48 = .ok (.baload, 1) := by decide +kernel
theorem dJ2_getChar_3b067_49 : decode cJ2_getChar_3b067 49 = .ok (.sipush 255, 3) := by decide +kernel
theorem dJ2_getChar_3b067_52 : decode cJ2_getChar_3b067 52 = .ok (.iand, 1) := by decide +kernel
theorem dJ2_getChar_3b067_53 : decode cJ2_getChar_3b067 53 = .ok (.getstatic 63, 3) := by decide +kernel
theorem dJ2_getChar_3b067_56 : decode cJ2_getChar_3b067 56 = .ok (.ishl, 1) := by decide +kernel
theorem dJ2_getChar_3b067_57 : decode cJ2_getChar_3b067 57 = .ok (.ior, 1) := by decide +kernel
theorem dJ2_getChar_3b067_58 : decode cJ2_getChar_3b067 58 = .ok (.i2c, 1) := by decide +kernel
theorem dJ2_getChar_3b067_59 : decode cJ2_getChar_3b067 59 = .ok (.ireturn, 1) := by decide +kernel
theorem dJ2_length_9d52b_0 : decode cJ2_length_9d52b 0 = .ok (.aload_n 0, 1) := by decide +kernel
theorem dJ2_length_9d52b_1 : decode cJ2_length_9d52b 1 = .ok (.arraylength, 1) := by decide +kernel
theorem dJ2_length_9d52b_2 : decode cJ2_length_9d52b 2 = .ok (.iconst 1, 1) := by decide +kernel
theorem dJ2_length_9d52b_3 : decode cJ2_length_9d52b 3 = .ok (.ishr, 1) := by decide +kernel
theorem dJ2_length_9d52b_4 : decode cJ2_length_9d52b 4 = .ok (.ireturn, 1) := by decide +kernel
theorem dJ2_coderFromArrayLen_85cad_0 : decode cJ2_coderFromArrayLen_85cad 0 = .ok (.iload_n 1, 1) := by decide +kernel
theorem dJ2_coderFromArrayLen_85cad_1 : decode cJ2_coderFromArrayLen_85cad 1 = .ok (.aload_n 0, 1) := by decide +kernel
theorem dJ2_coderFromArrayLen_85cad_2 : decode cJ2_coderFromArrayLen_85cad 2 = .ok (.arraylength, 1) := by decide +kernel
theorem dJ2_coderFromArrayLen_85cad_3 : decode cJ2_coderFromArrayLen_85cad 3 = .ok (.isub, 1) := by decide +kernel
theorem dJ2_coderFromArrayLen_85cad_4 : decode cJ2_coderFromArrayLen_85cad 4 = .ok (.bipush 31, 2) := by decide +kernel
theorem dJ2_coderFromArrayLen_85cad_6 : decode cJ2_coderFromArrayLen_85cad 6 = .ok (.iushr, 1) := by decide +kernel
theorem dJ2_coderFromArrayLen_85cad_7 : decode cJ2_coderFromArrayLen_85cad 7 = .ok (.i2b, 1) := by decide +kernel
theorem dJ2_coderFromArrayLen_85cad_8 : decode cJ2_coderFromArrayLen_85cad 8 = .ok (.ireturn, 1) := by decide +kernel
theorem dJ2_compress_39247_0 : decode cJ2_compress_39247 0 = .ok (.iload_n 2, 1) := by decide +kernel
theorem dJ2_compress_39247_1 : decode cJ2_compress_39247 1 = .ok (.newarray .byte, 2) := by decide +kernel
theorem dJ2_compress_39247_3 : decode cJ2_compress_39247 3 = .ok (.astore_n 3, 1) := by decide +kernel
theorem dJ2_compress_39247_4 : decode cJ2_compress_39247 4 = .ok (.aload_n 0, 1) := by decide +kernel
theorem dJ2_compress_39247_5 : decode cJ2_compress_39247 5 = .ok (.iload_n 1, 1) := by decide +kernel
theorem dJ2_compress_39247_6 : decode cJ2_compress_39247 6 = .ok (.aload_n 3, 1) := by decide +kernel
theorem dJ2_compress_39247_7 : decode cJ2_compress_39247 7 = .ok (.iconst 0, 1) := by decide +kernel
theorem dJ2_compress_39247_8 : decode cJ2_compress_39247 8 = .ok (.iload_n 2, 1) := by decide +kernel
theorem dJ2_compress_39247_9 : decode cJ2_compress_39247 9 = .ok (.invokestatic 123, 3) := by decide +kernel
theorem dJ2_compress_39247_12 : decode cJ2_compress_39247 12 = .ok (.istore 4, 2) := by decide +kernel
theorem dJ2_compress_39247_14 : decode cJ2_compress_39247 14 = .ok (.iload 4, 2) := by decide +kernel
theorem dJ2_compress_39247_16 : decode cJ2_compress_39247 16 = .ok (.iload_n 2, 1) := by decide +kernel
theorem dJ2_compress_39247_17 : decode cJ2_compress_39247 17 = .ok (.if_icmp .eq 47, 3) := by decide +kernel
theorem dJ2_compress_39247_20 : decode cJ2_compress_39247 20 = .ok (.aload_n 0, 1) := by decide +kernel
theorem dJ2_compress_39247_21 : decode cJ2_compress_39247 21 = .ok (.iload_n 1, 1) := by decide +kernel
theorem dJ2_compress_39247_22 : decode cJ2_compress_39247 22 = .ok (.iconst 1, 1) := by decide +kernel
theorem dJ2_compress_39247_23 : decode cJ2_compress_39247 23 = .ok (.ishl, 1) := by decide +kernel
theorem dJ2_compress_39247_24 : decode cJ2_compress_39247 24 = .ok (.iload_n 1, 1) := by decide +kernel
theorem dJ2_compress_39247_25 : decode cJ2_compress_39247 25 = .ok (.iload_n 2, 1) := by decide +kernel
theorem dJ2_compress_39247_26 : decode cJ2_compress_39247 26 = .ok (.iadd, 1) := by decide +kernel
theorem dJ2_compress_39247_27 : decode cJ2_compress_39247 27 = .ok (.invokestatic 11, 3) := by decide +kernel
theorem dJ2_compress_39247_30 : decode cJ2_compress_39247 30 = .ok (.invokestatic 126, 3) := by decide +kernel
theorem dJ2_compress_39247_33 : decode cJ2_compress_39247 33 = .ok (.astore 5, 2) := by decide +kernel
theorem dJ2_compress_39247_35 : decode cJ2_compress_39247 35 = .ok (.aload 5, 2) := by decide +kernel
theorem dJ2_compress_39247_37 : decode cJ2_compress_39247 37 = .ok (.iload 4, 2) := by decide +kernel
theorem dJ2_compress_39247_39 : decode cJ2_compress_39247 39 = .ok (.invokestatic 71, 3) := by decide +kernel
theorem dJ2_compress_39247_42 : decode cJ2_compress_39247 42 = .ok (.sipush 255, 3) := by decide +kernel
theorem dJ2_compress_39247_45 : decode cJ2_compress_39247 45 = .ok (.if_icmp .gt 16, 3) := by decide +kernel
theorem dJ2_compress_39247_48 : decode cJ2_compress_39247 48 = .ok (.aload 5, 2) := by decide +kernel
theorem dJ2_compress_39247_50 : decode cJ2_compress_39247 50 = .ok (.iconst 0, 1) := by decide +kernel
theorem dJ2_compress_39247_51 : decode cJ2_compress_39247 51 = .ok (.aload_n 3, 1) := by decide +kernel
theorem dJ2_compress_39247_52 : decode cJ2_compress_39247 52 = .ok (.iconst 0, 1) := by decide +kernel
theorem dJ2_compress_39247_53 : decode cJ2_compress_39247 53 = .ok (.iload_n 2, 1) := by decide +kernel
theorem dJ2_compress_39247_54 : decode cJ2_compress_39247 54 = .ok (.invokestatic 123, 3) := by decide +kernel
theorem dJ2_compress_39247_57 : decode cJ2_compress_39247 57 = .ok (.iload_n 2, 1) := by decide +kernel
theorem dJ2_compress_39247_58 : decode cJ2_compress_39247 58 = .ok (.if_icmp .eq 6, 3) := by decide +kernel
theorem dJ2_compress_39247_61 : decode cJ2_compress_39247 61 = .ok (.aload 5, 2) := by decide +kernel
theorem dJ2_compress_39247_63 : decode cJ2_compress_39247 63 = .ok (.areturn, 1) := by decide +kernel
theorem dJ2_compress_39247_64 : decode cJ2_compress_39247 64 = .ok (.aload_n 3, 1) := by decide +kernel
theorem dJ2_compress_39247_65 : decode cJ2_compress_39247 65 = .ok (.areturn, 1) := by decide +kernel
theorem dJ2_compress_5af95_0 : decode cJ2_compress_5af95 0 = .ok (.iload_n 1, 1) := by decide +kernel
theorem dJ2_compress_5af95_1 : decode cJ2_compress_5af95 1 = .ok (.iload 4, 2) := by decide +kernel
theorem dJ2_compress_5af95_3 : decode cJ2_compress_5af95 3 = .ok (.aload_n 0, 1) := by decide +kernel
theorem dJ2_compress_5af95_4 : decode cJ2_compress_5af95 4 = .ok (.invokestatic 173, 3) := by decide +kernel
theorem dJ2_compress_5af95_7 : decode cJ2_compress_5af95 7 = .ok (.iconst 0, 1) := by decide +kernel
theorem dJ2_compress_5af95_8 : decode cJ2_compress_5af95 8 = .ok (.istore 5, 2) := by decide +kernel
theorem dJ2_compress_5af95_10 : decode cJ2_compress_5af95 10 = .ok (.iload 5, 2) := by decide +kernel
theorem dJ2_compress_5af95_12 : decode cJ2_compress_5af95 12 = .ok (.iload 4, 2) := by decide +kernel
theorem dJ2_compress_5af95_14 : decode cJ2_compress_5af95 14 = .ok (.if_icmp .ge 39, 3) := by decide +kernel
theorem dJ2_compress_5af95_17 : decode cJ2_compress_5af95 17 = .ok (.aload_n 0, 1) := by decide +kernel
theorem dJ2_compress_5af95_18 : decode cJ2_compress_5af95 18 = .ok (.iload_n 1, 1) := by decide +kernel
theorem dJ2_compress_5af95_19 : decode cJ2_compress_5af95 19 = .ok (.invokestatic 71, 3) := by decide +kernel
theorem dJ2_compress_5af95_22 : decode cJ2_compress_5af95 22 = .ok (.istore 6, 2) := by decide +kernel
theorem dJ2_compress_5af95_24 : decode cJ2_compress_5af95 24 = .ok (.iload 6, 2) := by decide +kernel
theorem dJ2_compress_5af95_26 : decode cJ2_compress_5af95 26 = .ok (.sipush 255, 3) := by decide +kernel
theorem dJ2_compress_5af95_29 : decode cJ2_compress_5af95 29 = .ok (.if_icmp .le 6, 3) := by decide +kernel
theorem dJ2_compress_5af95_32 : decode cJ2_compress_5af95 32 = .ok (.iload 5, 2) := by decide +kernel
theorem dJ2_compress_5af95_34 : decode cJ2_compress_5af95 34 = .ok (.ireturn, 1) := by decide +kernel
theorem dJ2_compress_5af95_35 : decode cJ2_compress_5af95 35 = .ok (.aload_n 2, 1) := by decide +kernel
theorem dJ2_compress_5af95_36 : decode cJ2_compress_5af95 36 = .ok (.iload_n 3, 1) := by decide +kernel
theorem dJ2_compress_5af95_37 : decode cJ2_compress_5af95 37 = .ok (.iload 6, 2) := by decide +kernel
theorem dJ2_compress_5af95_39 : decode cJ2_compress_5af95 39 = .ok (.i2b, 1) := by decide +kernel
theorem dJ2_compress_5af95_40 : decode cJ2_compress_5af95 40 = .ok (.bastore, 1) := by decide +kernel
theorem dJ2_compress_5af95_41 : decode cJ2_compress_5af95 41 = .ok (.iinc 1 1, 3) := by decide +kernel
theorem dJ2_compress_5af95_44 : decode cJ2_compress_5af95 44 = .ok (.iinc 3 1, 3) := by decide +kernel
theorem dJ2_compress_5af95_47 : decode cJ2_compress_5af95 47 = .ok (.iinc 5 1, 3) := by decide +kernel
theorem dJ2_compress_5af95_50 : decode cJ2_compress_5af95 50 = .ok (.goto (-40), 3) := by decide +kernel
theorem dJ2_compress_5af95_53 : decode cJ2_compress_5af95 53 = .ok (.iload 4, 2) := by decide +kernel
theorem dJ2_compress_5af95_55 : decode cJ2_compress_5af95 55 = .ok (.ireturn, 1) := by decide +kernel
theorem dJ2_fillNull_b72d1_0 : decode cJ2_fillNull_b72d1 0 = .ok (.aload_n 0, 1) := by decide +kernel
theorem dJ2_fillNull_b72d1_1 : decode cJ2_fillNull_b72d1 1 = .ok (.iload_n 1, 1) := by decide +kernel
theorem dJ2_fillNull_b72d1_2 : decode cJ2_fillNull_b72d1 2 = .ok (.iconst 1, 1) := by decide +kernel
theorem dJ2_fillNull_b72d1_3 : decode cJ2_fillNull_b72d1 3 = .ok (.ishl, 1) := by decide +kernel
theorem dJ2_fillNull_b72d1_4 : decode cJ2_fillNull_b72d1 4 = .ok (.iload_n 2, 1) := by decide +kernel
theorem dJ2_fillNull_b72d1_5 : decode cJ2_fillNull_b72d1 5 = .ok (.iconst 1, 1) := by decide +kernel
theorem dJ2_fillNull_b72d1_6 : decode cJ2_fillNull_b72d1 6 = .ok (.ishl, 1) := by decide +kernel
theorem dJ2_fillNull_b72d1_7 : decode cJ2_fillNull_b72d1 7 = .ok (.iconst 0, 1) := by decide +kernel
theorem dJ2_fillNull_b72d1_8 : decode cJ2_fillNull_b72d1 8 = .ok (.invokestatic 380, 3) := by decide +kernel
theorem dJ2_fillNull_b72d1_11 : decode cJ2_fillNull_b72d1 11 = .ok (.return_, 1) := by decide +kernel
theorem dJ2_putCharSB_b72d1_0 : decode cJ2_putCharSB_b72d1 0 = .ok (.iload_n 1, 1) := by decide +kernel
theorem dJ2_putCharSB_b72d1_1 : decode cJ2_putCharSB_b72d1 1 = .ok (.aload_n 0, 1) := by decide +kernel
theorem dJ2_putCharSB_b72d1_2 : decode cJ2_putCharSB_b72d1 2 = .ok (.invokestatic 67, 3) := by decide +kernel
theorem dJ2_putCharSB_b72d1_5 : decode cJ2_putCharSB_b72d1 5 = .ok (.aload_n 0, 1) := by decide +kernel
theorem dJ2_putCharSB_b72d1_6 : decode cJ2_putCharSB_b72d1 6 = .ok (.iload_n 1, 1) := by decide +kernel
theorem dJ2_putCharSB_b72d1_7 : decode cJ2_putCharSB_b72d1 7 = .ok (.iload_n 2, 1) := by decide +kernel
theorem dJ2_putCharSB_b72d1_8 : decode cJ2_putCharSB_b72d1 8 = .ok (.invokestatic 111, 3) := by decide +kernel
theorem dJ2_putCharSB_b72d1_11 : decode cJ2_putCharSB_b72d1 11 = .ok (.return_, 1) := by decide +kernel
theorem dJ2_getChars_46870_0 : decode cJ2_getChars_46870 0 = .ok (.iload_n 1, 1) := by decide +kernel
theorem dJ2_getChars_46870_1 : decode cJ2_getChars_46870 1 = .ok (.iload_n 2, 1) := by decide +kernel
theorem dJ2_getChars_46870_2 : decode cJ2_getChars_46870 2 = .ok (.aload_n 3, 1) := by decide +kernel
theorem dJ2_getChars_46870_3 : decode cJ2_getChars_46870 3 = .ok (.invokestatic 96, 3) := by decide +kernel
theorem dJ2_getChars_46870_6 : decode cJ2_getChars_46870 6 = .ok (.iload_n 0, 1) := by decide +kernel
theorem dJ2_getChars_46870_7 : decode cJ2_getChars_46870 7 = .ok (.iload_n 2, 1) := by decide +kernel
theorem dJ2_getChars_46870_8 : decode cJ2_getChars_46870 8 = .ok (.aload_n 3, 1) := by decide +kernel
theorem dJ2_getChars_46870_9 : decode cJ2_getChars_46870 9 = .ok (.invokestatic 393, 3) := by decide +kernel
theorem dJ2_getChars_46870_12 : decode cJ2_getChars_46870 12 = .ok (.istore 4, 2) := by decide +kernel
theorem dJ2_getChars_46870_14 : decode cJ2_getChars_46870 14 = .ok (.getstatic 44, 3) := by decide +kernel
theorem dJ2_getChars_46870_17 : decode cJ2_getChars_46870 17 = .ok (.ifCond .ne 17, 3) := by decide +kernel
theorem dJ2_getChars_46870_20 : decode cJ2_getChars_46870 20 = .ok (.iload_n 1, 1) := by decide +kernel
theorem dJ2_getChars_46870_21 : decode cJ2_getChars_46870 21 = .ok (.iload 4, 2) := by decide +kernel
theorem dJ2_getChars_46870_23 : decode cJ2_getChars_46870 23 = .ok (.if_icmp .eq 11, 3) := by decide +kernel
theorem dJ2_getChars_46870_26 : decode cJ2_getChars_46870 26 = .ok (.new 52, 3) := by decide +kernel
theorem dJ2_getChars_46870_29 : decode cJ2_getChars_46870 29 = .ok (.dup, 1) := by decide +kernel
theorem dJ2_getChars_46870_30 : decode cJ2_getChars_46870 30 = .ok (.invokespecial 66, 3) := by decide +kernel
theorem dJ2_getChars_46870_33 : decode cJ2_getChars_46870 33 = .ok (.athrow, 1) := by decide +kernel
theorem dJ2_getChars_46870_34 : decode cJ2_getChars_46870 34 = .ok (.iload 4, 2) := by decide +kernel
theorem dJ2_getChars_46870_36 : decode cJ2_getChars_46870 36 = .ok (.ireturn, 1) := by decide +kernel
theorem dJ2_getChars_1ba55_0 : decode cJ2_getChars_1ba55 0 = .ok (.iload_n 2, 1) := by decide +kernel
theorem dJ2_getChars_1ba55_1 : decode cJ2_getChars_1ba55 1 = .ok (.iload_n 3, 1) := by decide +kernel
theorem dJ2_getChars_1ba55_2 : decode cJ2_getChars_1ba55 2 = .ok (.aload 4, 2) := by decide +kernel
theorem dJ2_getChars_1ba55_4 : decode cJ2_getChars_1ba55 4 = .ok (.invokestatic 96, 3) := by decide +kernel
theorem dJ2_getChars_1ba55_7 : decode cJ2_getChars_1ba55 7 = .ok (.lload_n 0, 1) := by decide +kernel
theorem dJ2_getChars_1ba55_8 : decode cJ2_getChars_1ba55 8 = .ok (.iload_n 3, 1) := by decide +kernel
theorem dJ2_getChars_1ba55_9 : decode cJ2_getChars_1ba55 9 = .ok (.aload 4, 2) := by decide +kernel
theorem dJ2_getChars_1ba55_11 : decode cJ2_getChars_1ba55 11 = .ok (.invokestatic 396, 3) := by decide +kernel
theorem dJ2_getChars_1ba55_14 : decode cJ2_getChars_1ba55 14 = .ok (.istore 5, 2) := by decide +kernel
theorem dJ2_getChars_1ba55_16 : decode cJ2_getChars_1ba55 16 = .ok (.getstatic 44, 3) := by decide +kernel
theorem dJ2_getChars_1ba55_19 : decode cJ2_getChars_1ba55 19 = .ok (.ifCond .ne 17, 3) := by decide +kernel
theorem dJ2_getChars_1ba55_22 : decode cJ2_getChars_1ba55 22 = .ok (.iload_n 2, 1) := by decide +kernel
theorem dJ2_getChars_1ba55_23 : decode cJ2_getChars_1ba55 23 = .ok (.iload 5, 2) := by decide +kernel
theorem dJ2_getChars_1ba55_25 : decode cJ2_getChars_1ba55 25 = .ok (.if_icmp .eq 11, 3) := by decide +kernel
theorem dJ2_getChars_1ba55_28 : decode cJ2_getChars_1ba55 28 = .ok (.new 52, 3) := by decide +kernel
theorem dJ2_getChars_1ba55_31 : decode cJ2_getChars_1ba55 31 = .ok (.dup, 1) := by decide +kernel
theorem dJ2_getChars_1ba55_32 : decode cJ2_getChars_1ba55 32 = .ok (.invokespecial 66, 3) := by decide +kernel
theorem dJ2_getChars_1ba55_35 : decode cJ2_getChars_1ba55 35 = .ok (.athrow, 1) := by decide +kernel
theorem dJ2_getChars_1ba55_36 : decode cJ2_getChars_1ba55 36 = .ok (.iload 5, 2) := by decide +kernel
theorem dJ2_getChars_1ba55_38 : decode cJ2_getChars_1ba55 38 = .ok (.ireturn, 1) := by decide +kernel
theorem dJ2_putCharsAt_cd4e5_0 : decode cJ2_putCharsAt_cd4e5 0 = .ok (.iload_n 1, 1) := by decide +kernel
theorem dJ2_putCharsAt_cd4e5_1 : decode cJ2_putCharsAt_cd4e5 1 = .ok (.iconst 4, 1) := by decide +kernel
theorem dJ2_putCharsAt_cd4e5_2 : decode cJ2_putCharsAt_cd4e5 2 = .ok (.iadd, 1) := by decide +kernel
theorem dJ2_putCharsAt_cd4e5_3 : decode cJ2_putCharsAt_cd4e5 3 = .ok (.istore 6, 2) := by decide +kernel
theorem dJ2_putCharsAt_cd4e5_5 : decode cJ2_putCharsAt_cd4e5 5 = .ok (.iload_n 1, 1) := by decide +kernel
theorem dJ2_putCharsAt_cd4e5_6 : decode cJ2_putCharsAt_cd4e5 6 = .ok (.iload 6, 2) := by decide +kernel
theorem dJ2_putCharsAt_cd4e5_8 : decode cJ2_putCharsAt_cd4e5 8 = .ok (.aload_n 0, 1) := by decide +kernel
theorem dJ2_putCharsAt_cd4e5_9 : decode cJ2_putCharsAt_cd4e5 9 = .ok (.invokestatic 96, 3) := by decide +kernel
theorem dJ2_putCharsAt_cd4e5_12 : decode cJ2_putCharsAt_cd4e5 12 = .ok (.aload_n 0, 1) := by decide +kernel
theorem dJ2_putCharsAt_cd4e5_13 : decode cJ2_putCharsAt_cd4e5 13 = .ok (.iload_n 1, 1) := by decide +kernel
theorem dJ2_putCharsAt_cd4e5_14 : decode cJ2_putCharsAt_cd4e5 14 = .ok (.iinc 1 1, 3) := by decide +kernel
theorem dJ2_putCharsAt_cd4e5_17 : decode cJ2_putCharsAt_cd4e5 17 = .ok (.iload_n 2, 1) := by decide +kernel
theorem dJ2_putCharsAt_cd4e5_18 : decode cJ2_putCharsAt_cd4e5 18 = .ok (.invokestatic 111, 3) := by decide +kernel
theorem dJ2_putCharsAt_cd4e5_21 : decode cJ2_putCharsAt_cd4e5 21 = .ok (.aload_n 0, 1) := by decide +kernel
theorem dJ2_putCharsAt_cd4e5_22 : decode cJ2_putCharsAt_cd4e5 22 = .ok (.iload_n 1, 1) := by decide +kernel
theorem dJ2_putCharsAt_cd4e5_23 : decode cJ2_putCharsAt_cd4e5 23 = .ok (.iinc 1 1, 3) := by decide +kernel
theorem dJ2_putCharsAt_cd4e5_26 : decode cJ2_putCharsAt_cd4e5 26 = .ok (.iload_n 3, 1) := by decide +kernel
theorem dJ2_putCharsAt_cd4e5_27 : decode cJ2_putCharsAt_cd4e5 27 = .ok (.invokestatic 111, 3) := by decide +kernel
theorem dJ2_putCharsAt_cd4e5_30 : decode cJ2_putCharsAt_cd4e5 30 = .ok (.aload_n 0, 1) := by decide +kernel
theorem dJ2_putCharsAt_cd4e5_31 : decode cJ2_putCharsAt_cd4e5 31 = .ok (.iload_n 1, 1) := by decide +kernel
theorem dJ2_putCharsAt_cd4e5_32 : decode cJ2_putCharsAt_cd4e5 32 = .ok (.iinc 1 1, 3) := by decide +kernel
theorem dJ2_putCharsAt_cd4e5_35 : decode cJ2_putCharsAt_cd4e5 35 = .ok (.iload 4, 2) := by decide +kernel
theorem dJ2_putCharsAt_cd4e5_37 : decode cJ2_putCharsAt_cd4e5 37 = .ok (.invokestatic 111, 3) := by decide +kernel
theorem dJ2_putCharsAt_cd4e5_40 : decode cJ2_putCharsAt_cd4e5 40 = .ok (.aload_n 0, 1) := by decide +kernel
theorem dJ2_putCharsAt_cd4e5_41 : decode cJ2_putCharsAt_cd4e5 41 = .ok (.iload_n 1, 1) := by decide +kernel
theorem dJ2_putCharsAt_cd4e5_42 : decode cJ2_putCharsAt_cd4e5 42 = .ok (.iinc 1 1, 3) := by decide +kernel
theorem dJ2_putCharsAt_cd4e5_45 : decode cJ2_putCharsAt_cd4e5 45 = .ok (.iload 5, 2) := by decide +kernel
theorem dJ2_putCharsAt_cd4e5_47 : decode cJ2_putCharsAt_cd4e5 47 = .ok (.invokestatic 111, 3) := by decide +kernel
theorem dJ2_putCharsAt_cd4e5_50 : decode cJ2_putCharsAt_cd4e5 50 = .ok (.getstatic 44, 3) := by decide +kernel
theorem dJ2_putCharsAt_cd4e5_53 : decode cJ2_putCharsAt_cd4e5 53 = .ok (.ifCond .ne 17, 3) := by decide +kernel
theorem dJ2_putCharsAt_cd4e5_56 : decode cJ2_putCharsAt_cd4e5 56 = .ok (.iload_n 1, 1) := by decide +kernel
theorem dJ2_putCharsAt_cd4e5_57 : decode cJ2_putCharsAt_cd4e5 57 = .ok (.iload 6, 2) := by decide +kernel
theorem dJ2_putCharsAt_cd4e5_59 : decode cJ2_putCharsAt_cd4e5 59 = .ok (.if_icmp .eq 11, 3) := by decide +kernel
theorem dJ2_putCharsAt_cd4e5_62 : decode cJ2_putCharsAt_cd4e5 62 = .ok (.new 52, 3) := by decide +kernel
theorem dJ2_putCharsAt_cd4e5_65 : decode cJ2_putCharsAt_cd4e5 65 = .ok (.dup, 1) := by decide +kernel
theorem dJ2_putCharsAt_cd4e5_66 : decode cJ2_putCharsAt_cd4e5 66 = .ok (.invokespecial 66, 3) := by decide +kernel
theorem dJ2_putCharsAt_cd4e5_69 : decode cJ2_putCharsAt_cd4e5 69 = .ok (.athrow, 1) := by decide +kernel
theorem dJ2_putCharsAt_cd4e5_70 : decode cJ2_putCharsAt_cd4e5 70 = .ok (.iload 6, 2) := by decide +kernel
theorem dJ2_putCharsAt_cd4e5_72 : decode cJ2_putCharsAt_cd4e5 72 = .ok (.ireturn, 1) := by decide +kernel
theorem dJ2_charAt_3b067_0 : decode cJ2_charAt_3b067 0 = .ok (.iload_n 1, 1) := by decide +kernel
theorem dJ2_charAt_3b067_1 : decode cJ2_charAt_3b067 1 = .ok (.aload_n 0, 1) := by decide +kernel
theorem dJ2_charAt_3b067_2 : decode cJ2_charAt_3b067 2 = .ok (.invokestatic 67, 3) := by decide +kernel
theorem dJ2_charAt_3b067_5 : decode cJ2_charAt_3b067 5 = .ok (.aload_n 0, 1) := by decide +kernel
theorem dJ2_charAt_3b067_6 : decode cJ2_charAt_3b067 6 = .ok (.iload_n 1, 1) := by decide +kernel
theorem dJ2_charAt_3b067_7 : decode cJ2_charAt_3b067 7 = .ok (.invokestatic 71, 3) := by decide +kernel
theorem dJ2_charAt_3b067_10 : decode cJ2_charAt_3b067 10 = .ok (.ireturn, 1) := by decide +kernel
theorem dJ2_inflate_0e8fd_0 : decode cJ2_inflate_0e8fd 0 = .ok (.iload_n 3, 1) := by decide +kernel
theorem dJ2_inflate_0e8fd_1 : decode cJ2_inflate_0e8fd 1 = .ok (.iload 4, 2) := by decide +kernel
theorem dJ2_inflate_0e8fd_3 : decode cJ2_inflate_0e8fd 3 = .ok (.aload_n 2, 1) := by decide +kernel
theorem dJ2_inflate_0e8fd_4 : decode cJ2_inflate_0e8fd 4 = .ok (.invokestatic 173, 3) := by decide +kernel
theorem dJ2_inflate_0e8fd_7 : decode cJ2_inflate_0e8fd 7 = .ok (.iconst 0, 1) := by decide +kernel
theorem dJ2_inflate_0e8fd_8 : decode cJ2_inflate_0e8fd 8 = .ok (.istore 5, 2) := by decide +kernel
theorem dJ2_inflate_0e8fd_10 : decode cJ2_inflate_0e8fd 10 = .ok (.iload 5, 2) := by decide +kernel
theorem dJ2_inflate_0e8fd_12 : decode cJ2_inflate_0e8fd 12 = .ok (.iload 4, 2) := by decide +kernel
theorem dJ2_inflate_0e8fd_14 : decode cJ2_inflate_0e8fd 14 = .ok (.if_icmp .ge 27, 3) := by decide +kernel
theorem dJ2_inflate_0e8fd_17 : decode cJ2_inflate_0e8fd 17 = .ok (.aload_n 2, 1) := by decide +kernel
theorem dJ2_inflate_0e8fd_18 : decode cJ2_inflate_0e8fd 18 = .ok (.iload_n 3, 1) := by decide +kernel
theorem dJ2_inflate_0e8fd_19 : decode cJ2_inflate_0e8fd 19 = .ok (.iinc 3 1, 3) := by decide +kernel
theorem dJ2_inflate_0e8fd_22 : decode cJ2_inflate_0e8fd 22 = .ok (.aload_n 0, 1) := by decide +kernel
theorem dJ2_inflate_0e8fd_23 : decode cJ2_inflate_0e8fd 23 = .ok (.iload_n 1, 1) := by decide +kernel
theorem dJ2_inflate_0e8fd_24 : decode cJ2_inflate_0e8fd 24 = .ok (.iinc 1 1, 3) := by decide +kernel
theorem dJ2_inflate_0e8fd_27 : decode cJ2_inflate_0e8fd 27 = .ok (.baload, 1) := by decide +kernel
theorem dJ2_inflate_0e8fd_28 : decode cJ2_inflate_0e8fd 28 = .ok (.sipush 255, 3) := by decide +kernel
theorem dJ2_inflate_0e8fd_31 : decode cJ2_inflate_0e8fd 31 = .ok (.iand, 1) := by decide +kernel
theorem dJ2_inflate_0e8fd_32 : decode cJ2_inflate_0e8fd 32 = .ok (.invokestatic 111, 3) := by decide +kernel
theorem dJ2_inflate_0e8fd_35 : decode cJ2_inflate_0e8fd 35 = .ok (.iinc 5 1, 3) := by decide +kernel
theorem dJ2_inflate_0e8fd_38 : decode cJ2_inflate_0e8fd 38 = .ok (.goto (-28), 3) := by decide +kernel
theorem dJ2_inflate_0e8fd_41 : decode cJ2_inflate_0e8fd 41 = .ok (.return_, 1) := by decide +kernel
theorem dJ2_getChars_ba4f3_0 : decode cJ2_getChars_ba4f3 0 = .ok (.iload_n 1, 1) := by decide +kernel
theorem dJ2_getChars_ba4f3_1 : decode cJ2_getChars_ba4f3 1 = .ok (.istore 5, 2) := by decide +kernel
theorem dJ2_getChars_ba4f3_3 : decode cJ2_getChars_ba4f3 3 = .ok (.iload_n 0, 1) := by decide +kernel
theorem dJ2_getChars_ba4f3_4 : decode cJ2_getChars_ba4f3 4 = .ok (.ifCond .ge 7, 3) := by decide +kernel
theorem dJ2_getChars_ba4f3_7 : decode cJ2_getChars_ba4f3 7 = .ok (.iconst 1, 1) := by decide +kernel
theorem dJ2_getChars_ba4f3_8 : decode cJ2_getChars_ba4f3 8 = .ok (.goto 4, 3) := by decide +kernel
theorem dJ2_getChars_ba4f3_11 : decode cJ2_getChars_ba4f3 11 = .ok (.iconst 0, 1) := by decide +kernel
theorem dJ2_getChars_ba4f3_12 : decode cJ2_getChars_ba4f3 12 = .ok (.istore 6, 2) := by decide +kernel
theorem dJ2_getChars_ba4f3_14 : decode cJ2_getChars_ba4f3 14 = .ok (.iload 6, 2) := by decide +kernel
theorem dJ2_getChars_ba4f3_16 : decode cJ2_getChars_ba4f3 16 = .ok (.ifCond .ne 6, 3) := by decide +kernel
theorem dJ2_getChars_ba4f3_19 : decode cJ2_getChars_ba4f3 19 = .ok (.iload_n 0, 1) := by decide +kernel
theorem dJ2_getChars_ba4f3_20 : decode cJ2_getChars_ba4f3 20 = .ok (.ineg, 1) := by decide +kernel
theorem dJ2_getChars_ba4f3_21 : decode cJ2_getChars_ba4f3 21 = .ok (.istore_n 0, 1) := by decide +kernel
theorem dJ2_getChars_ba4f3_22 : decode cJ2_getChars_ba4f3 22 = .ok (.iload_n 0, 1) := by decide +kernel
theorem dJ2_getChars_ba4f3_23 : decode cJ2_getChars_ba4f3 23 = .ok (.bipush (-100), 2) := by decide +kernel
theorem dJ2_getChars_ba4f3_25 : decode cJ2_getChars_ba4f3 25 = .ok (.if_icmp .gt 51, 3) := by decide +kernel
theorem dJ2_getChars_ba4f3_28 : decode cJ2_getChars_ba4f3 28 = .ok (.iload_n 0, 1) := by decide +kernel
theorem dJ2_getChars_ba4f3_29 : decode cJ2_getChars_ba4f3 29 = .ok (.bipush 100, 2) := by decide +kernel
theorem dJ2_getChars_ba4f3_31 : decode cJ2_getChars_ba4f3 31 = .ok (.idiv, 1) := by decide +kernel
theorem dJ2_getChars_ba4f3_32 : decode cJ2_getChars_ba4f3 32 = .ok (.istore_n 3, 1) := by decide +kernel
theorem dJ2_getChars_ba4f3_33 : decode cJ2_getChars_ba4f3 33 = .ok (.iload_n 3, 1) := by decide +kernel
theorem dJ2_getChars_ba4f3_34 : decode cJ2_getChars_ba4f3 34 = .ok (.bipush 100, 2) := by decide +kernel
theorem dJ2_getChars_ba4f3_36 : decode cJ2_getChars_ba4f3 36 = .ok (.imul, 1) := by decide +kernel
theorem dJ2_getChars_ba4f3_37 : decode cJ2_getChars_ba4f3 37 = .ok (.iload_n 0, 1) := by decide +kernel
theorem dJ2_getChars_ba4f3_38 : decode cJ2_getChars_ba4f3 38 = .ok (.isub, 1) := by decide +kernel
theorem dJ2_getChars_ba4f3_39 : decode cJ2_getChars_ba4f3 39 = .ok (.istore 4, 2) := by decide +kernel
theorem dJ2_getChars_ba4f3_41 : decode cJ2_getChars_ba4f3 41 = .ok (.iload_n 3, 1) := by decide +kernel
theorem dJ2_getChars_ba4f3_42 : decode cJ2_getChars_ba4f3 42 = .ok (.istore_n 0, 1) := by decide +kernel
theorem dJ2_getChars_ba4f3_43 : decode cJ2_getChars_ba4f3 43 = .ok (.aload_n 2, 1) := by decide +kernel
theorem dJ2_getChars_ba4f3_44 : decode cJ2_getChars_ba4f3 44 = .ok (.iinc 5 (-1), 3) := by decide +kernel
theorem dJ2_getChars_ba4f3_47 : decode cJ2_getChars_ba4f3 47 = .ok (.iload 5, 2) := by decide +kernel
theorem dJ2_getChars_ba4f3_49 : decode cJ2_getChars_ba4f3 49 = .ok (.getstatic 403, 3) := by decide +kernel
theorem dJ2_getChars_ba4f3_52 : decode cJ2_getChars_ba4f3 52 = .ok (.iload 4, 2) := by decide +kernel
theorem dJ2_getChars_ba4f3_54 : decode cJ2_getChars_ba4f3 54 = .ok (.baload, 1) := by decide +kernel
theorem dJ2_getChars_ba4f3_55 : decode cJ2_getChars_ba4f3 55 = .ok (.invokestatic 111, 3) := by decide +kernel
theorem dJ2_getChars_ba4f3_58 : decode cJ2_getChars_ba4f3 58 = .ok (.aload_n 2, 1) := by decide +kernel
theorem dJ2_getChars_ba4f3_59 : decode cJ2_getChars_ba4f3 59 = .ok (.iinc 5 (-1), 3) := by decide +kernel
theorem dJ2_getChars_ba4f3_62 : decode cJ2_getChars_ba4f3 62 = .ok (.iload 5, 2) := by decide +kernel
theorem dJ2_getChars_ba4f3_64 : decode cJ2_getChars_ba4f3 64 = .ok (.getstatic 407, 3) := by decide +kernel
theorem dJ2_getChars_ba4f3_67 : decode cJ2_getChars_ba4f3 67 = .ok (.iload 4, 2) := by decide +kernel
theorem dJ2_getChars_ba4f3_69 : decode cJ2_getChars_ba4f3 69 = .ok (.baload, 1) := by decide +kernel
theorem dJ2_getChars_ba4f3_70 : decode cJ2_getChars_ba4f3 70 = .ok (.invokestatic 111, 3) := by decide +kernel
theorem dJ2_getChars_ba4f3_73 : decode cJ2_getChars_ba4f3 73 = .ok (.goto (-51), 3) := by decide +kernel
theorem dJ2_getChars_ba4f3_76 : decode cJ2_getChars_ba4f3 76 = .ok (.aload_n 2, 1) := by decide +kernel
theorem dJ2_getChars_ba4f3_77 : decode cJ2_getChars_ba4f3 77 = .ok (.iinc 5 (-1), 3) := by decide +kernel
theorem dJ2_getChars_ba4f3_80 : decode cJ2_getChars_ba4f3 80 = .ok (.iload 5, 2) := by decide +kernel
theorem dJ2_getChars_ba4f3_82 : decode cJ2_getChars_ba4f3 82 = .ok (.getstatic 403, 3) := by decide +kernel
theorem dJ2_getChars_ba4f3_85 : decode cJ2_getChars_ba4f3 85 = .ok (.iload_n 0, 1) := by decide +kernel
theorem dJ2_getChars_ba4f3_86 : decode cJ2_getChars_ba4f3 86 = .ok (.ineg, 1) := by decide +kernel
theorem dJ2_getChars_ba4f3_87 : decode cJ2_getChars_ba4f3 87 = .ok (.baload, 1) := by decide +kernel
theorem dJ2_getChars_ba4f3_88 : decode cJ2_getChars_ba4f3 88 = .ok (.invokestatic 111, 3) := by decide +kernel
theorem dJ2_getChars_ba4f3_91 : decode cJ2_getChars_ba4f3 91 = .ok (.iload_n 0, 1) := by decide +kernel
theorem dJ2_getChars_ba4f3_92 : decode cJ2_getChars_ba4f3 92 = .ok (.bipush (-9), 2) := by decide +kernel
theorem dJ2_getChars_ba4f3_94 : decode cJ2_getChars_ba4f3 94 = .ok (.if_icmp .ge 18, 3) := by decide +kernel
theorem dJ2_getChars_ba4f3_97 : decode cJ2_getChars_ba4f3 97 = .ok (.aload_n 2, 1) := by decide +kernel
theorem dJ2_getChars_ba4f3_98 : decode cJ2_getChars_ba4f3 98 = .ok (.iinc 5 (-1), 3) := by decide +kernel
theorem dJ2_getChars_ba4f3_101 : decode cJ2_getChars_ba4f3 101 = .ok (.iload 5, 2) := by decide +kernel
theorem dJ2_getChars_ba4f3_103 : decode cJ2_getChars_ba4f3 103 = .ok (.getstatic 407, 3) := by decide +kernel
theorem dJ2_getChars_ba4f3_106 : decode cJ2_getChars_ba4f3 106 = .ok (.iload_n 0, 1) := by decide +kernel
theorem dJ2_getChars_ba4f3_107 : decode cJ2_getChars_ba4f3 107 = .ok (.ineg, 1) := by decide +kernel
theorem dJ2_getChars_ba4f3_108 : decode cJ2_getChars_ba4f3 108 = .ok (.baload, 1) := by decide +kernel
theorem dJ2_getChars_ba4f3_109 : decode cJ2_getChars_ba4f3 109 = .ok (.invokestatic 111, 3) := by decide +kernel
theorem dJ2_getChars_ba4f3_112 : decode cJ2_getChars_ba4f3 112 = .ok (.iload 6, 2) := by decide +kernel
theorem dJ2_getChars_ba4f3_114 : decode cJ2_getChars_ba4f3 114 = .ok (.ifCond .eq 14, 3) := by decide +kernel
theorem dJ2_getChars_ba4f3_117 : decode cJ2_getChars_ba4f3 117 = .ok (.aload_n 2, 1) := by decide +kernel
theorem dJ2_getChars_ba4f3_118 : decode cJ2_getChars_ba4f3 118 = .ok (.iinc 5 (-1), 3) := by decide +kernel
theorem dJ2_getChars_ba4f3_121 : decode cJ2_getChars_ba4f3 121 = .ok (.iload 5, 2) := by decide +kernel
theorem dJ2_getChars_ba4f3_123 : decode cJ2_getChars_ba4f3 123 = .ok (.bipush 45, 2) := by decide +kernel
theorem dJ2_getChars_ba4f3_125 : decode cJ2_getChars_ba4f3 125 = .ok (.invokestatic 111, 3) := by decide +kernel
theorem dJ2_getChars_ba4f3_128 : decode cJ2_getChars_ba4f3 128 = .ok (.iload 5, 2) := by decide +kernel
theorem dJ2_getChars_ba4f3_130 : decode cJ2_getChars_ba4f3 130 = .ok (.ireturn, 1) := by decide +kernel
theorem dJ2_getChars_11360_0 : decode cJ2_getChars_11360 0 = .ok (.iload_n 2, 1) := by decide +kernel
theorem dJ2_getChars_11360_1 : decode cJ2_getChars_11360 1 = .ok (.istore 7, 2) := by decide +kernel
theorem dJ2_getChars_11360_3 : decode cJ2_getChars_11360 3 = .ok (.lload_n 0, 1) := by decide +kernel
theorem dJ2_getChars_11360_4 : decode cJ2_getChars_11360 4 = .ok (.lconst 0, 1) := by decide +kernel
theorem dJ2_getChars_11360_5 : decode cJ2_getChars_11360 5 = .ok (.lcmp, 1) := by decide +kernel
theorem dJ2_getChars_11360_6 : decode cJ2_getChars_11360 6 = .ok (.ifCond .ge 7, 3) := by decide +kernel
theorem dJ2_getChars_11360_9 : decode cJ2_getChars_11360 9 = .ok (.iconst 1, 1) := by decide +kernel
theorem dJ2_getChars_11360_10 : decode cJ2_getChars_11360 10 = .ok (.goto 4, 3) := by decide +kernel
theorem dJ2_getChars_11360_13 : decode cJ2_getChars_11360 13 = .ok (.iconst 0, 1) := by decide +kernel
theorem dJ2_getChars_11360_14 : decode cJ2_getChars_11360 14 = .ok (.istore 8, 2) := by decide +kernel
theorem dJ2_getChars_11360_16 : decode cJ2_getChars_11360 16 = .ok (.iload 8, 2) := by decide +kernel
theorem dJ2_getChars_11360_18 : decode cJ2_getChars_11360 18 = .ok (.ifCond .ne 6, 3) := by decide +kernel
theorem dJ2_getChars_11360_21 : decode cJ2_getChars_11360 21 = .ok (.lload_n 0, 1) := by decide +kernel
theorem dJ2_getChars_11360_22 : decode cJ2_getChars_11360 22 = .ok (.lneg, 1) := by decide +kernel
theorem dJ2_getChars_11360_23 : decode cJ2_getChars_11360 23 = .ok (.lstore_n 0, 1) := by decide +kernel
theorem dJ2_getChars_11360_24 : decode cJ2_getChars_11360 24 = .ok (.lload_n 0, 1) := by decide +kernel
theorem dJ2_getChars_11360_25 : decode cJ2_getChars_11360 25 = .ok (.ldc2_w 410, 3) := by decide +kernel
theorem dJ2_getChars_11360_28 : decode cJ2_getChars_11360 28 = .ok (.lcmp, 1) := by decide +kernel
theorem dJ2_getChars_11360_29 : decode cJ2_getChars_11360 29 = .ok (.ifCond .gt 57, 3) := by decide +kernel
theorem dJ2_getChars_11360_32 : decode cJ2_getChars_11360 32 = .ok (.lload_n 0, 1) := by decide +kernel
theorem dJ2_getChars_11360_33 : decode cJ2_getChars_11360 33 = .ok (.ldc2_w 412, 3) := by decide +kernel
theorem dJ2_getChars_11360_36 : decode cJ2_getChars_11360 36 = .ok (.ldiv, 1) := by decide +kernel
theorem dJ2_getChars_11360_37 : decode cJ2_getChars_11360 37 = .ok (.lstore 4, 2) := by decide +kernel
theorem dJ2_getChars_11360_39 : decode cJ2_getChars_11360 39 = .ok (.lload 4, 2) := by decide +kernel
theorem dJ2_getChars_11360_41 : decode cJ2_getChars_11360 41 = .ok (.ldc2_w 412, 3) := by decide +kernel
theorem dJ2_getChars_11360_44 : decode cJ2_getChars_11360 44 = .ok (.lmul, 1) := by decide +kernel
theorem dJ2_getChars_11360_45 : decode cJ2_getChars_11360 45 = .ok (.lload_n 0, 1) := by decide +kernel
theorem dJ2_getChars_11360_46 : decode cJ2_getChars_11360 46 = .ok (.lsub, 1) := by decide +kernel
theorem dJ2_getChars_11360_47 : decode cJ2_getChars_11360 47 = .ok (.l2i, 1) := by decide +kernel
theorem dJ2_getChars_11360_48 : decode cJ2_getChars_11360 48 = .ok (.istore 6, 2) := by decide +kernel
theorem dJ2_getChars_11360_50 : decode cJ2_getChars_11360 50 = .ok (.lload 4, 2) := by decide +kernel
theorem dJ2_getChars_11360_52 : decode cJ2_getChars_11360 52 = .ok (.lstore_n 0, 1) := by decide +kernel
theorem dJ2_getChars_11360_53 : decode cJ2_getChars_11360 53 = .ok (.aload_n 3, 1) := by decide +kernel
theorem dJ2_getChars_11360_54 : decode cJ2_getChars_11360 54 = .ok (.iinc 7 (-1), 3) := by decide +kernel
theorem dJ2_getChars_11360_57 : decode cJ2_getChars_11360 57 = .ok (.iload 7, 2) := by decide +kernel
theorem dJ2_getChars_11360_59 : decode cJ2_getChars_11360 59 = .ok (.getstatic 403, 3) := by decide +kernel
theorem dJ2_getChars_11360_62 : decode cJ2_getChars_11360 62 = .ok (.iload 6, 2) := by decide +kernel
theorem dJ2_getChars_11360_64 : decode cJ2_getChars_11360 64 = .ok (.baload, 1) := by decide +kernel
theorem dJ2_getChars_11360_65 : decode cJ2_getChars_11360 65 = .ok (.invokestatic 111, 3) := by decide +kernel
theorem dJ2_getChars_11360_68 : decode cJ2_getChars_11360 68 = .ok (.aload_n 3, 1) := by decide +kernel
theorem dJ2_getChars_11360_69 : decode cJ2_getChars_11360 69 = .ok (.iinc 7 (-1), 3) := by decide +kernel
theorem dJ2_getChars_11360_72 : decode cJ2_getChars_11360 72 = .ok (.iload 7, 2) := by decide +kernel
theorem dJ2_getChars_11360_74 : decode cJ2_getChars_11360 74 = .ok (.getstatic 407, 3) := by decide +kernel
theorem dJ2_getChars_11360_77 : decode cJ2_getChars_11360 77 = .ok (.iload 6, 2) := by decide +kernel
theorem dJ2_getChars_11360_79 : decode cJ2_getChars_11360 79 = .ok (.baload, 1) := by decide +kernel
theorem dJ2_getChars_11360_80 : decode cJ2_getChars_11360 80 = .ok (.invokestatic 111, 3) := by decide +kernel
theorem dJ2_getChars_11360_83 : decode cJ2_getChars_11360 83 = .ok (.goto (-59), 3) := by decide +kernel
theorem dJ2_getChars_11360_86 : decode cJ2_getChars_11360 86 = .ok (.lload_n 0, 1) := by decide +kernel
theorem dJ2_getChars_11360_87 : decode cJ2_getChars_11360 87 = .ok (.l2i, 1) := by decide +kernel
theorem dJ2_getChars_11360_88 : decode cJ2_getChars_11360 88 = .ok (.istore 10, 2) := by decide +kernel
theorem dJ2_getChars_11360_90 : decode cJ2_getChars_11360 90 = .ok (.iload 10, 2) := by decide +kernel
theorem dJ2_getChars_11360_92 : decode cJ2_getChars_11360 92 = .ok (.bipush (-100), 2) := by decide +kernel
theorem dJ2_getChars_11360_94 : decode cJ2_getChars_11360 94 = .ok (.if_icmp .gt 57, 3) := by decide +kernel
theorem dJ2_getChars_11360_97 : decode cJ2_getChars_11360 97 = .ok (.iload 10, 2) := by decide +kernel
theorem dJ2_getChars_11360_99 : decode cJ2_getChars_11360 99 = .ok (.bipush 100, 2) := by decide +kernel
theorem dJ2_getChars_11360_101 : decode cJ2_getChars_11360 101 = .ok (.idiv, 1) := by decide +kernel
theorem dJ2_getChars_11360_102 : decode cJ2_getChars_11360 102 = .ok (.istore 9, 2) := by decide +kernel
theorem dJ2_getChars_11360_104 : decode cJ2_getChars_11360 104 = .ok (.iload 9, 2) := by decide +kernel
theorem dJ2_getChars_11360_106 : decode cJ2_getChars_11360 106 = .ok (.bipush 100, 2) := by decide +kernel
theorem dJ2_getChars_11360_108 : decode cJ2_getChars_11360 108 = .ok (.imul, 1) := by decide +kernel
theorem dJ2_getChars_11360_109 : decode cJ2_getChars_11360 109 = .ok (.iload 10, 2) := by decide +kernel
theorem dJ2_getChars_11360_111 : decode cJ2_getChars_11360 111 = .ok (.isub, 1) := by decide +kernel
theorem dJ2_getChars_11360_112 : decode cJ2_getChars_11360 112 = .ok (.istore 6, 2) := by decide +kernel
theorem dJ2_getChars_11360_114 : decode cJ2_getChars_11360 114 = .ok (.iload 9, 2) := by decide +kernel
theorem dJ2_getChars_11360_116 : decode cJ2_getChars_11360 116 = .ok (.istore 10, 2) := by decide +kernel
theorem dJ2_getChars_11360_118 : decode cJ2_getChars_11360 118 = .ok (.aload_n 3, 1) := by decide +kernel
theorem dJ2_getChars_11360_119 : decode cJ2_getChars_11360 119 = .ok (.iinc 7 (-1), 3) := by decide +kernel
theorem dJ2_getChars_11360_122 : decode cJ2_getChars_11360 122 = .ok (.iload 7, 2) := by decide +kernel
theorem dJ2_getChars_11360_124 : decode cJ2_getChars_11360 124 = .ok (.getstatic 403, 3) := by decide +kernel
theorem dJ2_getChars_11360_127 : decode cJ2_getChars_11360 127 = .ok (.iload 6, 2) := by decide +kernel
theorem dJ2_getChars_11360_129 : decode cJ2_getChars_11360 129 = .ok (.baload, 1) := by decide +kernel
theorem dJ2_getChars_11360_130 : decode cJ2_getChars_11360 130 = .ok (.invokestatic 111, 3) := by decide +kernel
theorem dJ2_getChars_11360_133 : decode cJ2_getChars_11360 133 = .ok (.aload_n 3, 1) := by decide +kernel
theorem dJ2_getChars_11360_134 : decode cJ2_getChars_11360 134 = .ok (.iinc 7 (-1), 3) := by decide +kernel
theorem dJ2_getChars_11360_137 : decode cJ2_getChars_11360 137 = .ok (.iload 7, 2) := by decide +kernel
theorem dJ2_getChars_11360_139 : decode cJ2_getChars_11360 139 = .ok (.getstatic 407, 3) := by decide +kernel
theorem dJ2_getChars_11360_142 : decode cJ2_getChars_11360 142 = .ok (.iload 6, 2) := by decide +kernel
theorem dJ2_getChars_11360_144 : decode cJ2_getChars_11360 144 = .ok (.baload, 1) := by decide +kernel
theorem dJ2_getChars_11360_145 : decode cJ2_getChars_11360 145 = .ok (.invokestatic 111, 3) := by decide +kernel
theorem dJ2_getChars_11360_148 : decode cJ2_getChars_11360 148 = .ok (.goto (-58), 3) := by decide +kernel
theorem dJ2_getChars_11360_151 : decode cJ2_getChars_11360 151 = .ok (.aload_n 3, 1) := by decide +kernel
theorem dJ2_getChars_11360_152 : decode cJ2_getChars_11360 152 = .ok (.iinc 7 (-1), 3) := by decide +kernel
theorem dJ2_getChars_11360_155 : decode cJ2_getChars_11360 155 = .ok (.iload 7, 2) := by decide +kernel
theorem dJ2_getChars_11360_157 : decode cJ2_getChars_11360 157 = .ok (.getstatic 403, 3) := by decide +kernel
theorem dJ2_getChars_11360_160 : decode cJ2_getChars_11360 160 = .ok (.iload 10, 2) := by decide +kernel
theorem dJ2_getChars_11360_162 : decode cJ2_getChars_11360 162 = .ok (.ineg, 1) := by decide +kernel
theorem dJ2_getChars_11360_163 : decode cJ2_getChars_11360 163 = .ok (.baload, 1) := by decide +kernel
theorem dJ2_getChars_11360_164 : decode cJ2_getChars_11360 164 = .ok (.invokestatic 111, 3) := by decide +kernel
theorem dJ2_getChars_11360_167 : decode cJ2_getChars_11360 167 = .ok (.iload 10, 2) := by decide +kernel
theorem dJ2_getChars_11360_169 : decode cJ2_getChars_11360 169 = .ok (.bipush (-9), 2) := by decide +kernel
theorem dJ2_getChars_11360_171 : decode cJ2_getChars_11360 171 = .ok (.if_icmp .ge 19, 3) := by decide +kernel
theorem dJ2_getChars_11360_174 : decode cJ2_getChars_11360 174 = .ok (.aload_n 3, 1) := by decide +kernel
theorem dJ2_getChars_11360_175 : decode cJ2_getChars_11360 175 = .ok (.iinc 7 (-1), 3) := by decide +kernel
theorem dJ2_getChars_11360_178 : decode cJ2_getChars_11360 178 = .ok (.iload 7, 2) := by decide +kernel
theorem dJ2_getChars_11360_180 : decode cJ2_getChars_11360 180 = .ok (.getstatic 407, 3) := by decide +kernel
theorem dJ2_getChars_11360_183 : decode cJ2_getChars_11360 183 = .ok (.iload 10, 2) := by decide +kernel
theorem dJ2_getChars_11360_185 : decode cJ2_getChars_11360 185 = .ok (.ineg, 1) := by decide +kernel
theorem dJ2_getChars_11360_186 : decode cJ2_getChars_11360 186 = .ok (.baload, 1) := by decide +kernel
theorem dJ2_getChars_11360_187 : decode cJ2_getChars_11360 187 = .ok (.invokestatic 111, 3) := by decide +kernel
theorem dJ2_getChars_11360_190 : decode cJ2_getChars_11360 190 = .ok (.iload 8, 2) := by decide +kernel
theorem dJ2_getChars_11360_192 : decode cJ2_getChars_11360 192 = .ok (.ifCond .eq 14, 3) := by decide +kernel
theorem dJ2_getChars_11360_195 : decode cJ2_getChars_11360 195 = .ok (.aload_n 3, 1) := by decide +kernel
theorem dJ2_getChars_11360_196 : decode cJ2_getChars_11360 196 = .ok (.iinc 7 (-1), 3) := by decide +kernel
theorem dJ2_getChars_11360_199 : decode cJ2_getChars_11360 199 = .ok (.iload 7, 2) := by decide +kernel
theorem dJ2_getChars_11360_201 : decode cJ2_getChars_11360 201 = .ok (.bipush 45, 2) := by decide +kernel
theorem dJ2_getChars_11360_203 : decode cJ2_getChars_11360 203 = .ok (.invokestatic 111, 3) := by decide +kernel
theorem dJ2_getChars_11360_206 : decode cJ2_getChars_11360 206 = .ok (.iload 7, 2) := by decide +kernel
theorem dJ2_getChars_11360_208 : decode cJ2_getChars_11360 208 = .ok (.ireturn, 1) := by decide +kernel
theorem dJ2_checkIndex_2214a_0 : decode cJ2_checkIndex_2214a 0 = .ok (.iload_n 0, 1) := by decide +kernel
theorem dJ2_checkIndex_2214a_1 : decode cJ2_checkIndex_2214a 1 = .ok (.aload_n 1, 1) := by decide +kernel
theorem dJ2_checkIndex_2214a_2 : decode cJ2_checkIndex_2214a 2 = .ok (.invokestatic 48, 3) := by decide +kernel
theorem dJ2_checkIndex_2214a_5 : decode cJ2_checkIndex_2214a 5 = .ok (.invokestatic 414, 3) := by decide +kernel
theorem dJ2_checkIndex_2214a_8 : decode cJ2_checkIndex_2214a 8 = .ok (.return_, 1) := by decide +kernel
theorem dJ2_checkBoundsBeginEnd_d044e_0 : decode cJ2_checkBoundsBeginEnd_d044e 0 = .ok (.iload_n 0, 1) := by decide +kernel
theorem dJ2_checkBoundsBeginEnd_d044e_1 : decode cJ2_checkBoundsBeginEnd_d044e 1 = .ok (.iload_n 1, 1) := by decide +kernel
theorem dJ2_checkBoundsBeginEnd_d044e_2 : decode cJ2_checkBoundsBeginEnd_d044e 2 = .ok (.aload_n 2, 1) := by decide +kernel
theorem dJ2_checkBoundsBeginEnd_d044e_3 : decode cJ2_checkBoundsBeginEnd_d044e 3 = .ok (.invokestatic 48, 3) := by decide +kernel
theorem dJ2_checkBoundsBeginEnd_d044e_6 : decode cJ2_checkBoundsBeginEnd_d044e 6 = .ok (.invokestatic 241, 3) := by decide +kernel
theorem dJ2_checkBoundsBeginEnd_d044e_9 : decode cJ2_checkBoundsBeginEnd_d044e 9 = .ok (.return_, 1) := by decide +kernel
theorem dJ2_checkBoundsOffCount_d044e_0 : decode cJ2_checkBoundsOffCount_d044e 0 = .ok (.iload_n 0, 1) := by decide +kernel
theorem dJ2_checkBoundsOffCount_d044e_1 : decode cJ2_checkBoundsOffCount_d044e 1 = .ok (.iload_n 1, 1) := by decide +kernel
theorem dJ2_checkBoundsOffCount_d044e_2 : decode cJ2_checkBoundsOffCount_d044e 2 = .ok (.aload_n 2, 1) := by decide +kernel
theorem dJ2_checkBoundsOffCount_d044e_3 : decode cJ2_checkBoundsOffCount_d044e 3 = .ok (.invokestatic 48, 3) := by decide +kernel
theorem dJ2_checkBoundsOffCount_d044e_6 : decode cJ2_checkBoundsOffCount_d044e 6 = .ok (.invokestatic 419, 3) := by decide +kernel
theorem dJ2_checkBoundsOffCount_d044e_9 : decode cJ2_checkBoundsOffCount_d044e 9 = .ok (.pop, 1) := by decide +kernel
theorem dJ2_checkBoundsOffCount_d044e_10 : decode cJ2_checkBoundsOffCount_d044e 10 = .ok (.return_, 1) := by decide +kernel
theorem dJ7_rangeCheck_23922_0 : decode cJ7_rangeCheck_23922 0 = .ok (.iload_n 1, 1) := by decide +kernel
theorem dJ7_rangeCheck_23922_1 : decode cJ7_rangeCheck_23922 1 = .ok (.iload_n 2, 1) := by decide +kernel
theorem dJ7_rangeCheck_23922_2 : decode cJ7_rangeCheck_23922 2 = .ok (.if_icmp .le 44, 3) := by decide +kernel
theorem dJ7_rangeCheck_23922_5 : decode cJ7_rangeCheck_23922 5 = .ok (.new 43, 3) := by decide +kernel
theorem dJ7_rangeCheck_23922_8 : decode cJ7_rangeCheck_23922 8 = .ok (.dup, 1) := by decide +kernel
theorem dJ7_rangeCheck_23922_9 : decode cJ7_rangeCheck_23922 9 = .ok (.new 45, 3) := by decide +kernel
theorem dJ7_rangeCheck_23922_12 : decode cJ7_rangeCheck_23922 12 = .ok (.dup, 1) := by decide +kernel
theorem dJ7_rangeCheck_23922_13 : decode cJ7_rangeCheck_23922 13 = .ok (.invokespecial 47, 3) := by decide +kernel
theorem dJ7_rangeCheck_23922_16 : decode cJ7_rangeCheck_23922 16 = .ok (.ldc 48, 2) := by decide +kernel
theorem dJ7_rangeCheck_23922_18 : decode cJ7_rangeCheck_23922 18 = .ok (.invokevirtual 50, 3) := by decide +kernel
theorem dJ7_rangeCheck_23922_21 : decode cJ7_rangeCheck_23922 21 = .ok (.iload_n 1, 1) := by decide +kernel
theorem dJ7_rangeCheck_23922_22 : decode cJ7_rangeCheck_23922 22 = .ok (.invokevirtual 54, 3) := by decide +kernel
theorem dJ7_rangeCheck_23922_25 : decode cJ7_rangeCheck_23922 25 = .ok (.ldc 57, 2) := by decide +kernel
theorem dJ7_rangeCheck_23922_27 : decode cJ7_rangeCheck_23922 27 = .ok (.invokevirtual 50, 3) := by decide +kernel
theorem dJ7_rangeCheck_23922_30 : decode cJ7_rangeCheck_23922 30 = .ok (.iload_n 2, 1) := by decide +kernel
theorem dJ7_rangeCheck_23922_31 : decode cJ7_rangeCheck_23922 31 = .ok (.invokevirtual 54, 3) := by decide +kernel
theorem dJ7_rangeCheck_23922_34 : decode cJ7_rangeCheck_23922 34 = .ok (.ldc 59, 2) := by decide +kernel
theorem dJ7_rangeCheck_23922_36 : decode cJ7_rangeCheck_23922 36 = .ok (.invokevirtual 50, 3) := by decide +kernel
theorem dJ7_rangeCheck_23922_39 : decode cJ7_rangeCheck_23922 39 = .ok (.invokevirtual 61, 3) := by decide +kernel
theorem dJ7_rangeCheck_23922_42 : decode cJ7_rangeCheck_23922 42 = .ok (.invokespecial 65, 3) := by decide +kernel
theorem dJ7_rangeCheck_23922_45 : decode cJ7_rangeCheck_23922 45 = .ok (.athrow, 1) := by decide +kernel
theorem dJ7_rangeCheck_23922_46 : decode cJ7_rangeCheck_23922 46 = .ok (.iload_n 1, 1) := by decide +kernel
theorem dJ7_rangeCheck_23922_47 : decode cJ7_rangeCheck_23922 47 = .ok (.ifCond .ge 12, 3) := by decide +kernel
theorem dJ7_rangeCheck_23922_50 : decode cJ7_rangeCheck_23922 50 = .ok (.new 68, 3) := by decide +kernel
theorem dJ7_rangeCheck_23922_53 : decode cJ7_rangeCheck_23922 53 = .ok (.dup, 1) := by decide +kernel
theorem dJ7_rangeCheck_23922_54 : decode cJ7_rangeCheck_23922 54 = .ok (.iload_n 1, 1) := by decide +kernel
theorem dJ7_rangeCheck_23922_55 : decode cJ7_rangeCheck_23922 55 = .ok (.invokespecial 70, 3) := by decide +kernel
theorem dJ7_rangeCheck_23922_58 : decode cJ7_rangeCheck_23922 58 = .ok (.athrow, 1) := by decide +kernel
theorem dJ7_rangeCheck_23922_59 : decode cJ7_rangeCheck_23922 59 = .ok (.iload_n 2, 1) := by decide +kernel
theorem dJ7_rangeCheck_23922_60 : decode cJ7_rangeCheck_23922 60 = .ok (.iload_n 0, 1) := by decide +kernel
theorem dJ7_rangeCheck_23922_61 : decode cJ7_rangeCheck_23922 61 = .ok (.if_icmp .le 12, 3) := by decide +kernel
theorem dJ7_rangeCheck_23922_64 : decode cJ7_rangeCheck_23922 64 = .ok (.new 68, 3) := by decide +kernel
theorem dJ7_rangeCheck_23922_67 : decode cJ7_rangeCheck_23922 67 = .ok (.dup, 1) := by decide +kernel
theorem dJ7_rangeCheck_23922_68 : decode cJ7_rangeCheck_23922 68 = .ok (.iload_n 2, 1) := by decide +kernel
theorem dJ7_rangeCheck_23922_69 : decode cJ7_rangeCheck_23922 69 = .ok (.invokespecial 70, 3) := by decide +kernel
theorem dJ7_rangeCheck_23922_72 : decode cJ7_rangeCheck_23922 72 = .ok (.athrow, 1) := by decide +kernel
theorem dJ7_rangeCheck_23922_73 : decode cJ7_rangeCheck_23922 73 = .ok (.return_, 1) := by decide +kernel
theorem dJ7_fill_eb02e_0 : decode cJ7_fill_eb02e 0 = .ok (.aload_n 0, 1) := by decide +kernel
theorem dJ7_fill_eb02e_1 : decode cJ7_fill_eb02e 1 = .ok (.arraylength, 1) := by decide +kernel
theorem dJ7_fill_eb02e_2 : decode cJ7_fill_eb02e 2 = .ok (.iload_n 1, 1) := by decide +kernel
theorem dJ7_fill_eb02e_3 : decode cJ7_fill_eb02e 3 = .ok (.iload_n 2, 1) := by decide +kernel
theorem dJ7_fill_eb02e_4 : decode cJ7_fill_eb02e 4 = .ok (.invokestatic 13, 3) := by decide +kernel
theorem dJ7_fill_eb02e_7 : decode cJ7_fill_eb02e 7 = .ok (.iload_n 1, 1) := by decide +kernel
theorem dJ7_fill_eb02e_8 : decode cJ7_fill_eb02e 8 = .ok (.istore 4, 2) := by decide +kernel
theorem dJ7_fill_eb02e_10 : decode cJ7_fill_eb02e 10 = .ok (.iload 4, 2) := by decide +kernel
theorem dJ7_fill_eb02e_12 : decode cJ7_fill_eb02e 12 = .ok (.iload_n 2, 1) := by decide +kernel
theorem dJ7_fill_eb02e_13 : decode cJ7_fill_eb02e 13 = .ok (.if_icmp .ge 14, 3) := by decide +kernel
theorem dJ7_fill_eb02e_16 : decode cJ7_fill_eb02e 16 = .ok (.aload_n 0, 1) := by decide +kernel
theorem dJ7_fill_eb02e_17 : decode cJ7_fill_eb02e 17 = .ok (.iload 4, 2) := by decide +kernel
theorem dJ7_fill_eb02e_19 : decode cJ7_fill_eb02e 19 = .ok (.iload_n 3, 1) := by decide +kernel
theorem dJ7_fill_eb02e_20 : decode cJ7_fill_eb02e 20 = .ok (.bastore, 1) := by decide +kernel
theorem dJ7_fill_eb02e_21 : decode cJ7_fill_eb02e 21 = .ok (.iinc 4 1, 3) := by decide +kernel
theorem dJ7_fill_eb02e_24 : decode cJ7_fill_eb02e 24 = .ok (.goto (-14), 3) := by decide +kernel
theorem dJ7_fill_eb02e_27 : decode cJ7_fill_eb02e 27 = .ok (.return_, 1) := by decide +kernel
theorem dJ7_copyOf_9075b_0 : decode cJ7_copyOf_9075b 0 = .ok (.iload_n 1, 1) := by decide +kernel
theorem dJ7_copyOf_9075b_1 : decode cJ7_copyOf_9075b 1 = .ok (.aload_n 0, 1) := by decide +kernel
theorem dJ7_copyOf_9075b_2 : decode cJ7_copyOf_9075b 2 = .ok (.arraylength, 1) := by decide +kernel
theorem dJ7_copyOf_9075b_3 : decode cJ7_copyOf_9075b 3 = .ok (.if_icmp .ne 11, 3) := by decide +kernel
theorem dJ7_copyOf_9075b_6 : decode cJ7_copyOf_9075b 6 = .ok (.aload_n 0, 1) := by decide +kernel
theorem dJ7_copyOf_9075b_7 : decode cJ7_copyOf_9075b 7 = .ok (.invokevirtual 310, 3) := by decide +kernel
theorem dJ7_copyOf_9075b_10 : decode cJ7_copyOf_9075b 10 = .ok (.checkcast 311, 3) := by decide +kernel
theorem dJ7_copyOf_9075b_13 : decode cJ7_copyOf_9075b 13 = .ok (.areturn, 1) := by decide +kernel
theorem dJ7_copyOf_9075b_14 : decode cJ7_copyOf_9075b 14 = .ok (.iload_n 1, 1) := by decide +kernel
theorem dJ7_copyOf_9075b_15 : decode cJ7_copyOf_9075b 15 = .ok (.newarray .byte, 2) := by decide +kernel
theorem dJ7_copyOf_9075b_17 : decode cJ7_copyOf_9075b 17 = .ok (.astore_n 2, 1) := by decide +kernel
theorem dJ7_copyOf_9075b_18 : decode cJ7_copyOf_9075b 18 = .ok (.aload_n 0, 1) := by decide +kernel
theorem dJ7_copyOf_9075b_19 : decode cJ7_copyOf_9075b 19 = .ok (.iconst 0, 1) := by decide +kernel
theorem dJ7_copyOf_9075b_20 : decode cJ7_copyOf_9075b 20 = .ok (.aload_n 2, 1) := by decide +kernel
theorem dJ7_copyOf_9075b_21 : decode cJ7_copyOf_9075b 21 = .ok (.iconst 0, 1) := by decide +kernel
theorem dJ7_copyOf_9075b_22 : decode cJ7_copyOf_9075b 22 = .ok (.aload_n 0, 1) := by decide +kernel
theorem dJ7_copyOf_9075b_23 : decode cJ7_copyOf_9075b 23 = .ok (.arraylength, 1) := by decide +kernel
theorem dJ7_copyOf_9075b_24 : decode cJ7_copyOf_9075b 24 = .ok (.iload_n 1, 1) := by decide +kernel
theorem dJ7_copyOf_9075b_25 : decode cJ7_copyOf_9075b 25 = .ok (.invokestatic 304, 3) := by decide +kernel
theorem dJ7_copyOf_9075b_28 : decode cJ7_copyOf_9075b 28 = .ok (.invokestatic 150, 3) := by decide +kernel
theorem dJ7_copyOf_9075b_31 : decode cJ7_copyOf_9075b 31 = .ok (.aload_n 2, 1) := by decide +kernel
theorem dJ7_copyOf_9075b_32 : decode cJ7_copyOf_9075b 32 = .ok (.areturn, 1) := by decide +kernel
theorem dJ7_copyOf_59c91_0 : decode cJ7_copyOf_59c91 0 = .ok (.iload_n 1, 1) := by decide +kernel
theorem dJ7_copyOf_59c91_1 : decode cJ7_copyOf_59c91 1 = .ok (.aload_n 0, 1) := by decide +kernel
theorem dJ7_copyOf_59c91_2 : decode cJ7_copyOf_59c91 2 = .ok (.arraylength, 1) := by decide +kernel
theorem dJ7_copyOf_59c91_3 : decode cJ7_copyOf_59c91 3 = .ok (.if_icmp .ne 11, 3) := by decide +kernel
theorem dJ7_copyOf_59c91_6 : decode cJ7_copyOf_59c91 6 = .ok (.aload_n 0, 1) := by decide +kernel
theorem dJ7_copyOf_59c91_7 : decode cJ7_copyOf_59c91 7 = .ok (.invokevirtual 316, 3) := by decide +kernel
theorem dJ7_copyOf_59c91_10 : decode cJ7_copyOf_59c91 10 = .ok (.checkcast 317, 3) := by decide +kernel
theorem dJ7_copyOf_59c91_13 : decode cJ7_copyOf_59c91 13 = .ok (.areturn, 1) := by decide +kernel
theorem dJ7_copyOf_59c91_14 : decode cJ7_copyOf_59c91 14 = .ok (.iload_n 1, 1) := by decide +kernel
theorem dJ7_copyOf_59c91_15 : decode cJ7_copyOf_59c91 15 = .ok (.newarray .int, 2) := by decide +kernel
theorem dJ7_copyOf_59c91_17 : decode cJ7_copyOf_59c91 17 = .ok (.astore_n 2, 1) := by decide +kernel
theorem dJ7_copyOf_59c91_18 : decode cJ7_copyOf_59c91 18 = .ok (.aload_n 0, 1) := by decide +kernel
theorem dJ7_copyOf_59c91_19 : decode cJ7_copyOf_59c91 19 = .ok (.iconst 0, 1) := by decide +kernel
theorem dJ7_copyOf_59c91_20 : decode cJ7_copyOf_59c91 20 = .ok (.aload_n 2, 1) := by decide +kernel
theorem dJ7_copyOf_59c91_21 : decode cJ7_copyOf_59c91 21 = .ok (.iconst 0, 1) := by decide +kernel
theorem dJ7_copyOf_59c91_22 : decode cJ7_copyOf_59c91 22 = .ok (.aload_n 0, 1) := by decide +kernel
theorem dJ7_copyOf_59c91_23 : decode cJ7_copyOf_59c91 23 = .ok (.arraylength, 1) := by decide +kernel
theorem dJ7_copyOf_59c91_24 : decode cJ7_copyOf_59c91 24 = .ok (.iload_n 1, 1) := by decide +kernel
theorem dJ7_copyOf_59c91_25 : decode cJ7_copyOf_59c91 25 = .ok (.invokestatic 304, 3) := by decide +kernel
theorem dJ7_copyOf_59c91_28 : decode cJ7_copyOf_59c91 28 = .ok (.invokestatic 150, 3) := by decide +kernel
theorem dJ7_copyOf_59c91_31 : decode cJ7_copyOf_59c91 31 = .ok (.aload_n 2, 1) := by decide +kernel
theorem dJ7_copyOf_59c91_32 : decode cJ7_copyOf_59c91 32 = .ok (.areturn, 1) := by decide +kernel
theorem dJ7_checkLength_df160_0 : decode cJ7_checkLength_df160 0 = .ok (.iload_n 1, 1) := by decide +kernel
theorem dJ7_checkLength_df160_1 : decode cJ7_checkLength_df160 1 = .ok (.iload_n 0, 1) := by decide +kernel
theorem dJ7_checkLength_df160_2 : decode cJ7_checkLength_df160 2 = .ok (.if_icmp .ge 35, 3) := by decide +kernel
theorem dJ7_checkLength_df160_5 : decode cJ7_checkLength_df160 5 = .ok (.new 43, 3) := by decide +kernel
theorem dJ7_checkLength_df160_8 : decode cJ7_checkLength_df160 8 = .ok (.dup, 1) := by decide +kernel
theorem dJ7_checkLength_df160_9 : decode cJ7_checkLength_df160 9 = .ok (.new 45, 3) := by decide +kernel
theorem dJ7_checkLength_df160_12 : decode cJ7_checkLength_df160 12 = .ok (.dup, 1) := by decide +kernel
theorem dJ7_checkLength_df160_13 : decode cJ7_checkLength_df160 13 = .ok (.invokespecial 47, 3) := by decide +kernel
theorem dJ7_checkLength_df160_16 : decode cJ7_checkLength_df160 16 = .ok (.iload_n 0, 1) := by decide +kernel
theorem dJ7_checkLength_df160_17 : decode cJ7_checkLength_df160 17 = .ok (.invokevirtual 54, 3) := by decide +kernel
theorem dJ7_checkLength_df160_20 : decode cJ7_checkLength_df160 20 = .ok (.ldc_w 337, 3) := by decide +kernel
theorem dJ7_checkLength_df160_23 : decode cJ7_checkLength_df160 23 = .ok (.invokevirtual 50, 3) := by decide +kernel
theorem dJ7_checkLength_df160_26 : decode cJ7_checkLength_df160 26 = .ok (.iload_n 1, 1) := by decide +kernel
theorem dJ7_checkLength_df160_27 : decode cJ7_checkLength_df160 27 = .ok (.invokevirtual 54, 3) := by decide +kernel
theorem dJ7_checkLength_df160_30 : decode cJ7_checkLength_df160 30 = .ok (.invokevirtual 61, 3) := by decide +kernel
theorem dJ7_checkLength_df160_33 : decode cJ7_checkLength_df160 33 = .ok (.invokespecial 65, 3) := by decide +kernel
theorem dJ7_checkLength_df160_36 : decode cJ7_checkLength_df160 36 = .ok (.athrow, 1) := by decide +kernel
theorem dJ7_checkLength_df160_37 : decode cJ7_checkLength_df160 37 = .ok (.return_, 1) := by decide +kernel
theorem dJ7_copyOfRange_39247_0 : decode cJ7_copyOfRange_39247 0 = .ok (.iload_n 1, 1) := by decide +kernel
theorem dJ7_copyOfRange_39247_1 : decode cJ7_copyOfRange_39247 1 = .ok (.ifCond .ne 9, 3) := by decide +kernel
theorem dJ7_copyOfRange_39247_4 : decode cJ7_copyOfRange_39247 4 = .ok (.iload_n 2, 1) := by decide +kernel
theorem dJ7_copyOfRange_39247_5 : decode cJ7_copyOfRange_39247 5 = .ok (.aload_n 0, 1) := by decide +kernel
theorem dJ7_copyOfRange_39247_6 : decode cJ7_copyOfRange_39247 6 = .ok (.arraylength, 1) := by decide +kernel
theorem dJ7_copyOfRange_39247_7 : decode cJ7_copyOfRange_39247 7 = .ok (.if_icmp .eq 10, 3) := by decide +kernel
theorem dJ7_copyOfRange_39247_10 : decode cJ7_copyOfRange_39247 10 = .ok (.aload_n 0, 1) := by decide +kernel
theorem dJ7_copyOfRange_39247_11 : decode cJ7_copyOfRange_39247 11 = .ok (.iload_n 1, 1) := by decide +kernel
theorem dJ7_copyOfRange_39247_12 : decode cJ7_copyOfRange_39247 12 = .ok (.iload_n 2, 1) := by decide +kernel
theorem dJ7_copyOfRange_39247_13 : decode cJ7_copyOfRange_39247 13 = .ok (.invokestatic 339, 3) := by decide +kernel
theorem dJ7_copyOfRange_39247_16 : decode cJ7_copyOfRange_39247 16 = .ok (.areturn, 1) := by decide +kernel
theorem dJ7_copyOfRange_39247_17 : decode cJ7_copyOfRange_39247 17 = .ok (.aload_n 0, 1) := by decide +kernel
theorem dJ7_copyOfRange_39247_18 : decode cJ7_copyOfRange_39247 18 = .ok (.invokevirtual 310, 3) := by decide +kernel
theorem dJ7_copyOfRange_39247_21 : decode cJ7_copyOfRange_39247 21 = .ok (.checkcast 311, 3) := by decide +kernel
theorem dJ7_copyOfRange_39247_24 : decode cJ7_copyOfRange_39247 24 = .ok (.areturn, 1) := by decide +kernel
theorem dJ7_copyOfRangeByte_39247_0 : decode cJ7_copyOfRangeByte_39247 0 = .ok (.iload_n 1, 1) := by decide +kernel
theorem dJ7_copyOfRangeByte_39247_1 : decode cJ7_copyOfRangeByte_39247 1 = .ok (.iload_n 2, 1) := by decide +kernel
theorem dJ7_copyOfRangeByte_39247_2 : decode cJ7_copyOfRangeByte_39247 2 = .ok (.invokestatic 343, 3) := by decide +kernel
theorem dJ7_copyOfRangeByte_39247_5 : decode cJ7_copyOfRangeByte_39247 5 = .ok (.iload_n 2, 1) := by decide +kernel
theorem dJ7_copyOfRangeByte_39247_6 : decode cJ7_copyOfRangeByte_39247 6 = .ok (.iload_n 1, 1) := by decide +kernel
theorem dJ7_copyOfRangeByte_39247_7 : decode cJ7_copyOfRangeByte_39247 7 = .ok (.isub, 1) := by decide +kernel
theorem dJ7_copyOfRangeByte_39247_8 : decode cJ7_copyOfRangeByte_39247 8 = .ok (.istore_n 3, 1) := by decide +kernel
theorem dJ7_copyOfRangeByte_39247_9 : decode cJ7_copyOfRangeByte_39247 9 = .ok (.iload_n 3, 1) := by decide +kernel
theorem dJ7_copyOfRangeByte_39247_10 : decode cJ7_copyOfRangeByte_39247 10 = .ok (.newarray .byte, 2) := by decide +kernel
theorem dJ7_copyOfRangeByte_39247_12 : decode cJ7_copyOfRangeByte_39247 12 = .ok (.astore 4, 2) := by decide +kernel
theorem dJ7_copyOfRangeByte_39247_14 : decode cJ7_copyOfRangeByte_39247 14 = .ok (.aload_n 0, 1) := by decide +kernel
theorem dJ7_copyOfRangeByte_39247_15 : decode cJ7_copyOfRangeByte_39247 15 = .ok (.iload_n 1, 1) := by decide +kernel
theorem dJ7_copyOfRangeByte_39247_16 : decode cJ7_copyOfRangeByte_39247 16 = .ok (.aload 4, 2) := by decide +kernel
theorem dJ7_copyOfRangeByte_39247_18 : decode cJ7_copyOfRangeByte_39247 18 = .ok (.iconst 0, 1) := by decide +kernel
theorem dJ7_copyOfRangeByte_39247_19 : decode cJ7_copyOfRangeByte_39247 19 = .ok (.aload_n 0, 1) := by decide +kernel
theorem dJ7_copyOfRangeByte_39247_20 : decode cJ7_copyOfRangeByte_39247 20 = .ok (.arraylength, 1) := by decide +kernel
theorem dJ7_copyOfRangeByte_39247_21 : decode cJ7_copyOfRangeByte_39247 21 = .ok (.iload_n 1, 1) := by decide +kernel
theorem dJ7_copyOfRangeByte_39247_22 : decode cJ7_copyOfRangeByte_39247 22 = .ok (.isub, 1) := by decide +kernel
theorem dJ7_copyOfRangeByte_39247_23 : decode cJ7_copyOfRangeByte_39247 23 = .ok (.iload_n 3, 1) := by decide +kernel
theorem dJ7_copyOfRangeByte_39247_24 : decode cJ7_copyOfRangeByte_39247 24 = .ok (.invokestatic 304, 3) := by decide +kernel
theorem dJ7_copyOfRangeByte_39247_27 : decode cJ7_copyOfRangeByte_39247 27 = .ok (.invokestatic 150, 3) := by decide +kernel
theorem dJ7_copyOfRangeByte_39247_30 : decode cJ7_copyOfRangeByte_39247 30 = .ok (.aload 4, 2) := by decide +kernel
theorem dJ7_copyOfRangeByte_39247_32 : decode cJ7_copyOfRangeByte_39247 32 = .ok (.areturn, 1) := by decide +kernel
theorem dJ8_newLength_cabcc_0 : decode cJ8_newLength_cabcc 0 = .ok (.iload_n 0, 1) := by decide +kernel
theorem dJ8_newLength_cabcc_1 : decode cJ8_newLength_cabcc 1 = .ok (.iload_n 1, 1) := by decide +kernel
theorem dJ8_newLength_cabcc_2 : decode cJ8_newLength_cabcc 2 = .ok (.iload_n 2, 1) := by decide +kernel
theorem dJ8_newLength_cabcc_3 : decode cJ8_newLength_cabcc 3 = .ok (.invokestatic 194, 3) := by decide +kernel
theorem dJ8_newLength_cabcc_6 : decode cJ8_newLength_cabcc 6 = .ok (.iadd, 1) := by decide +kernel
theorem dJ8_newLength_cabcc_7 : decode cJ8_newLength_cabcc 7 = .ok (.istore_n 3, 1) := by decide +kernel
theorem dJ8_newLength_cabcc_8 : decode cJ8_newLength_cabcc 8 = .ok (.iconst 0, 1) := by decide +kernel
theorem dJ8_newLength_cabcc_9 : decode cJ8_newLength_cabcc 9 = .ok (.iload_n 3, 1) := by decide +kernel
theorem dJ8_newLength_cabcc_10 : decode cJ8_newLength_cabcc 10 = .ok (.if_icmp .ge 11, 3) := by decide +kernel
theorem dJ8_newLength_cabcc_13 : decode cJ8_newLength_cabcc 13 = .ok (.iload_n 3, 1) := by decide +kernel
theorem dJ8_newLength_cabcc_14 : decode cJ8_newLength_cabcc 14 = .ok (.ldc 200, 2) := by decide +kernel
theorem dJ8_newLength_cabcc_16 : decode cJ8_newLength_cabcc 16 = .ok (.if_icmp .gt 5, 3) := by decide +kernel
theorem dJ8_newLength_cabcc_19 : decode cJ8_newLength_cabcc 19 = .ok (.iload_n 3, 1) := by decide +kernel
theorem dJ8_newLength_cabcc_20 : decode cJ8_newLength_cabcc 20 = .ok (.ireturn, 1) := by decide +kernel
theorem dJ8_newLength_cabcc_21 : decode cJ8_newLength_cabcc 21 = .ok (.iload_n 0, 1) := by decide +kernel
theorem dJ8_newLength_cabcc_22 : decode cJ8_newLength_cabcc 22 = .ok (.iload_n 1, 1) := by decide +kernel
theorem dJ8_newLength_cabcc_23 : decode cJ8_newLength_cabcc 23 = .ok (.invokestatic 201, 3) := by decide +kernel
theorem dJ8_newLength_cabcc_26 : decode cJ8_newLength_cabcc 26 = .ok (.ireturn, 1) := by decide +kernel
theorem dJ8_hugeLength_7cf53_0 : decode cJ8_hugeLength_7cf53 0 = .ok (.iload_n 0, 1) := by decide +kernel
theorem dJ8_hugeLength_7cf53_1 : decode cJ8_hugeLength_7cf53 1 = .ok (.iload_n 1, 1) := by decide +kernel
theorem dJ8_hugeLength_7cf53_2 : decode cJ8_hugeLength_7cf53 2 = .ok (.iadd, 1) := by decide +kernel
theorem dJ8_hugeLength_7cf53_3 : decode cJ8_hugeLength_7cf53 3 = .ok (.istore_n 2, 1) := by decide +kernel
theorem dJ8_hugeLength_7cf53_4 : decode cJ8_hugeLength_7cf53 4 = .ok (.iload_n 2, 1) := by decide +kernel
theorem dJ8_hugeLength_7cf53_5 : decode cJ8_hugeLength_7cf53 5 = .ok (.ifCond .ge 44, 3) := by decide +kernel
theorem dJ8_hugeLength_7cf53_8 : decode cJ8_hugeLength_7cf53 8 = .ok (.new 204, 3) := by decide +kernel
theorem dJ8_hugeLength_7cf53_11 : decode cJ8_hugeLength_7cf53 11 = .ok (.dup, 1) := by decide +kernel
theorem dJ8_hugeLength_7cf53_12 : decode cJ8_hugeLength_7cf53 12 = .ok (.new 89, 3) := by decide +kernel
theorem dJ8_hugeLength_7cf53_15 : decode cJ8_hugeLength_7cf53 15 = .ok (.dup, 1) := by decide +kernel
theorem dJ8_hugeLength_7cf53_16 : decode cJ8_hugeLength_7cf53 16 = .ok (.invokespecial 91, 3) := by decide +kernel
theorem dJ8_hugeLength_7cf53_19 : decode cJ8_hugeLength_7cf53 19 = .ok (.ldc 206, 2) := by decide +kernel
theorem dJ8_hugeLength_7cf53_21 : decode cJ8_hugeLength_7cf53 21 = .ok (.invokevirtual 94, 3) := by decide +kernel
theorem dJ8_hugeLength_7cf53_24 : decode cJ8_hugeLength_7cf53 24 = .ok (.iload_n 0, 1) := by decide +kernel
theorem dJ8_hugeLength_7cf53_25 : decode cJ8_hugeLength_7cf53 25 = .ok (.invokevirtual 98, 3) := by decide +kernel
theorem dJ8_hugeLength_7cf53_28 : decode cJ8_hugeLength_7cf53 28 = .ok (.ldc 208, 2) := by decide +kernel
theorem dJ8_hugeLength_7cf53_30 : decode cJ8_hugeLength_7cf53 30 = .ok (.invokevirtual 94, 3) := by decide +kernel
theorem dJ8_hugeLength_7cf53_33 : decode cJ8_hugeLength_7cf53 33 = .ok (.iload_n 1, 1) := by decide +kernel
theorem dJ8_hugeLength_7cf53_34 : decode cJ8_hugeLength_7cf53 34 = .ok (.invokevirtual 98, 3) := by decide +kernel
theorem dJ8_hugeLength_7cf53_37 : decode cJ8_hugeLength_7cf53 37 = .ok (.ldc 210, 2) := by decide +kernel
theorem dJ8_hugeLength_7cf53_39 : decode cJ8_hugeLength_7cf53 39 = .ok (.invokevirtual 94, 3) := by decide +kernel
theorem dJ8_hugeLength_7cf53_42 : decode cJ8_hugeLength_7cf53 42 = .ok (.invokevirtual 101, 3) := by decide +kernel
theorem dJ8_hugeLength_7cf53_45 : decode cJ8_hugeLength_7cf53 45 = .ok (.invokespecial 212, 3) := by decide +kernel
theorem dJ8_hugeLength_7cf53_48 : decode cJ8_hugeLength_7cf53 48 = .ok (.athrow, 1) := by decide +kernel
theorem dJ8_hugeLength_7cf53_49 : decode cJ8_hugeLength_7cf53 49 = .ok (.iload_n 2, 1) := by decide +kernel
theorem dJ8_hugeLength_7cf53_50 : decode cJ8_hugeLength_7cf53 50 = .ok (.ldc 200, 2) := by decide +kernel
theorem dJ8_hugeLength_7cf53_52 : decode cJ8_hugeLength_7cf53 52 = .ok (.if_icmp .gt 6, 3) := by decide +kernel
theorem dJ8_hugeLength_7cf53_55 : decode cJ8_hugeLength_7cf53 55 = .ok (.ldc 200, 2) := by decide +kernel
theorem dJ8_hugeLength_7cf53_57 : decode cJ8_hugeLength_7cf53 57 = .ok (.ireturn, 1) := by decide +kernel
theorem dJ8_hugeLength_7cf53_58 : decode cJ8_hugeLength_7cf53 58 = .ok (.iload_n 2, 1) := by decide +kernel
theorem dJ8_hugeLength_7cf53_59 : decode cJ8_hugeLength_7cf53 59 = .ok (.ireturn, 1) := by decide +kernel
theorem dJ3_checkIndex_8e157_0 : decode cJ3_checkIndex_8e157 0 = .ok (.iload_n 0, 1) := by decide +kernel
theorem dJ3_checkIndex_8e157_1 : decode cJ3_checkIndex_8e157 1 = .ok (.ifCond .lt 8, 3) := by decide +kernel
theorem dJ3_checkIndex_8e157_4 : decode cJ3_checkIndex_8e157 4 = .ok (.iload_n 0, 1) := by decide +kernel
theorem dJ3_checkIndex_8e157_5 : decode cJ3_checkIndex_8e157 5 = .ok (.iload_n 1, 1) := by decide +kernel
theorem dJ3_checkIndex_8e157_6 : decode cJ3_checkIndex_8e157 6 = .ok (.if_icmp .lt 10, 3) := by decide +kernel
theorem dJ3_checkIndex_8e157_9 : decode cJ3_checkIndex_8e157 9 = .ok (.aload_n 2, 1) := by decide +kernel
theorem dJ3_checkIndex_8e157_10 : decode cJ3_checkIndex_8e157 10 = .ok (.iload_n 0, 1) := by decide +kernel
theorem dJ3_checkIndex_8e157_11 : decode cJ3_checkIndex_8e157 11 = .ok (.iload_n 1, 1) := by decide +kernel
theorem dJ3_checkIndex_8e157_12 : decode cJ3_checkIndex_8e157 12 = .ok (.invokestatic 95, 3) := by decide +kernel
theorem dJ3_checkIndex_8e157_15 : decode cJ3_checkIndex_8e157 15 = .ok (.athrow, 1) := by decide +kernel
theorem dJ3_checkIndex_8e157_16 : decode cJ3_checkIndex_8e157 16 = .ok (.iload_n 0, 1) := by decide +kernel
theorem dJ3_checkIndex_8e157_17 : decode cJ3_checkIndex_8e157 17 = .ok (.ireturn, 1) := by decide +kernel
theorem dJ3_checkFromToIndex_8c36e_0 : decode cJ3_checkFromToIndex_8c36e 0 = .ok (.iload_n 0, 1) := by decide +kernel
theorem dJ3_checkFromToIndex_8c36e_1 : decode cJ3_checkFromToIndex_8c36e 1 = .ok (.ifCond .lt 13, 3) := by decide +kernel
theorem dJ3_checkFromToIndex_8c36e_4 : decode cJ3_checkFromToIndex_8c36e 4 = .ok (.iload_n 0, 1) := by decide +kernel
theorem dJ3_checkFromToIndex_8c36e_5 : decode cJ3_checkFromToIndex_8c36e 5 = .ok (.iload_n 1, 1) := by decide +kernel
theorem dJ3_checkFromToIndex_8c36e_6 : decode cJ3_checkFromToIndex_8c36e 6 = .ok (.if_icmp .gt 8, 3) := by decide +kernel
theorem dJ3_checkFromToIndex_8c36e_9 : decode cJ3_checkFromToIndex_8c36e 9 = .ok (.iload_n 1, 1) := by decide +kernel
theorem dJ3_checkFromToIndex_8c36e_10 : decode cJ3_checkFromToIndex_8c36e 10 = .ok (.iload_n 2, 1) := by decide +kernel
theorem dJ3_checkFromToIndex_8c36e_11 : decode cJ3_checkFromToIndex_8c36e 11 = .ok (.if_icmp .le 11, 3) := by decide +kernel
theorem dJ3_checkFromToIndex_8c36e_14 : decode cJ3_checkFromToIndex_8c36e 14 = .ok (.aload_n 3, 1) := by decide +kernel
theorem dJ3_checkFromToIndex_8c36e_15 : decode cJ3_checkFromToIndex_8c36e 15 = .ok (.iload_n 0, 1) := by decide +kernel
theorem dJ3_checkFromToIndex_8c36e_16 : decode cJ3_checkFromToIndex_8c36e 16 = .ok (.iload_n 1, 1) := by decide +kernel
theorem dJ3_checkFromToIndex_8c36e_17 : decode cJ3_checkFromToIndex_8c36e 17 = .ok (.iload_n 2, 1) := by decide +kernel
theorem dJ3_checkFromToIndex_8c36e_18 : decode cJ3_checkFromToIndex_8c36e 18 = .ok (.invokestatic 99, 3) := by decide +kernel
theorem dJ3_checkFromToIndex_8c36e_21 : decode cJ3_checkFromToIndex_8c36e 21 = .ok (.athrow, 1) := by decide +kernel
theorem dJ3_checkFromToIndex_8c36e_22 : decode cJ3_checkFromToIndex_8c36e 22 = .ok (.iload_n 0, 1) := by decide +kernel
theorem dJ3_checkFromToIndex_8c36e_23 : decode cJ3_checkFromToIndex_8c36e 23 = .ok (.ireturn, 1) := by decide +kernel
theorem dJ3_checkFromIndexSize_8c36e_0 : decode cJ3_checkFromIndexSize_8c36e 0 = .ok (.iload_n 2, 1) := by decide +kernel
theorem dJ3_checkFromIndexSize_8c36e_1 : decode cJ3_checkFromIndexSize_8c36e 1 = .ok (.iload_n 0, 1) := by decide +kernel
theorem dJ3_checkFromIndexSize_8c36e_2 : decode cJ3_checkFromIndexSize_8c36e 2 = .ok (.ior, 1) := by decide +kernel
theorem dJ3_checkFromIndexSize_8c36e_3 : decode cJ3_checkFromIndexSize_8c36e 3 = .ok (.iload_n 1, 1) := by decide +kernel
theorem dJ3_checkFromIndexSize_8c36e_4 : decode cJ3_checkFromIndexSize_8c36e 4 = .ok (.ior, 1) := by decide +kernel
theorem dJ3_checkFromIndexSize_8c36e_5 : decode cJ3_checkFromIndexSize_8c36e 5 = .ok (.ifCond .lt 10, 3) := by decide +kernel
theorem dJ3_checkFromIndexSize_8c36e_8 : decode cJ3_checkFromIndexSize_8c36e 8 = .ok (.iload_n 1, 1) := by decide +kernel
theorem dJ3_checkFromIndexSize_8c36e_9 : decode cJ3_checkFromIndexSize_8c36e 9 = .ok (.iload_n 2, 1) := by decide +kernel
theorem dJ3_checkFromIndexSize_8c36e_10 : decode cJ3_checkFromIndexSize_8c36e 10 = .ok (.iload_n 0, 1) := by decide +kernel
theorem dJ3_checkFromIndexSize_8c36e_11 : decode cJ3_checkFromIndexSize_8c36e 11 = .ok (.isub, 1) := by decide +kernel
theorem dJ3_checkFromIndexSize_8c36e_12 : decode cJ3_checkFromIndexSize_8c36e 12 = .ok (.if_icmp .le 11, 3) := by decide +kernel
theorem dJ3_checkFromIndexSize_8c36e_15 : decode cJ3_checkFromIndexSize_8c36e 15 = .ok (.aload_n 3, 1) := by decide +kernel
theorem dJ3_checkFromIndexSize_8c36e_16 : decode cJ3_checkFromIndexSize_8c36e 16 = .ok (.iload_n 0, 1) := by decide +kernel
theorem dJ3_checkFromIndexSize_8c36e_17 : decode cJ3_checkFromIndexSize_8c36e 17 = .ok (.iload_n 1, 1) := by decide +kernel
theorem dJ3_checkFromIndexSize_8c36e_18 : decode cJ3_checkFromIndexSize_8c36e 18 = .ok (.iload_n 2, 1) := by decide +kernel
theorem dJ3_checkFromIndexSize_8c36e_19 : decode cJ3_checkFromIndexSize_8c36e 19 = .ok (.invokestatic 103, 3) := by decide +kernel
theorem dJ3_checkFromIndexSize_8c36e_22 : decode cJ3_checkFromIndexSize_8c36e 22 = .ok (.athrow, 1) := by decide +kernel
theorem dJ3_checkFromIndexSize_8c36e_23 : decode cJ3_checkFromIndexSize_8c36e 23 = .ok (.iload_n 0, 1) := by decide +kernel
theorem dJ3_checkFromIndexSize_8c36e_24 : decode cJ3_checkFromIndexSize_8c36e 24 = .ok (.ireturn, 1) := by decide +kernel
theorem dL_init_0 : decode cL_init 0 = .ok (.aload_n 0, 1) := by decide +kernel
theorem dL_init_1 : decode cL_init 1 = .ok (.invokespecial 3, 3) := by decide +kernel
theorem dL_init_4 : decode cL_init 4 = .ok (.aload_n 0, 1) := by decide +kernel
theorem dL_init_5 : decode cL_init 5 = .ok (.new 1, 3) := by decide +kernel
theorem dL_init_8 : decode cL_init 8 = .ok (.dup, 1) := by decide +kernel
theorem dL_init_9 : decode cL_init 9 = .ok (.invokespecial 9, 3) := by decide +kernel
theorem dL_init_12 : decode cL_init 12 = .ok (.putfield 10, 3) := by decide +kernel
theorem dL_init_15 : decode cL_init 15 = .ok (.aload_n 0, 1) := by decide +kernel
theorem dL_init_16 : decode cL_init 16 = .ok (.sipush 300, 3) := by decide +kernel
theorem dL_init_19 : decode cL_init 19 = .ok (.newarray .int, 2) := by decide +kernel
theorem dL_init_21 : decode cL_init 21 = .ok (.putfield 16, 3) := by decide +kernel
theorem dL_init_24 : decode cL_init 24 = .ok (.aload_n 0, 1) := by decide +kernel
theorem dL_init_25 : decode cL_init 25 = .ok (.sipush 300, 3) := by decide +kernel
theorem dL_init_28 : decode cL_init 28 = .ok (.newarray .int, 2) := by decide +kernel
theorem dL_init_30 : decode cL_init 30 = .ok (.putfield 20, 3) := by decide +kernel
theorem dL_init_33 : decode cL_init 33 = .ok (.aload_n 0, 1) := by decide +kernel
theorem dL_init_34 : decode cL_init 34 = .ok (.sipush 300, 3) := by decide +kernel
theorem dL_init_37 : decode cL_init 37 = .ok (.newarray .int, 2) := by decide +kernel
theorem dL_init_39 : decode cL_init 39 = .ok (.putfield 23, 3) := by decide +kernel
theorem dL_init_42 : decode cL_init 42 = .ok (.aload_n 0, 1) := by decide +kernel
theorem dL_init_43 : decode cL_init 43 = .ok (.sipush 300, 3) := by decide +kernel
theorem dL_init_46 : decode cL_init 46 = .ok (.newarray .int, 2) := by decide +kernel
theorem dL_init_48 : decode cL_init 48 = .ok (.putfield 26, 3) := by decide +kernel
theorem dL_init_51 : decode cL_init 51 = .ok (.aload_n 0, 1) := by decide +kernel
theorem dL_init_52 : decode cL_init 52 = .ok (.sipush 300, 3) := by decide +kernel
theorem dL_init_55 : decode cL_init 55 = .ok (.newarray .long, 2) := by decide +kernel
theorem dL_init_57 : decode cL_init 57 = .ok (.putfield 29, 3) := by decide +kernel
theorem dL_init_60 : decode cL_init 60 = .ok (.aload_n 0, 1) := by decide +kernel
theorem dL_init_61 : decode cL_init 61 = .ok (.sipush 300, 3) := by decide +kernel
theorem dL_init_64 : decode cL_init 64 = .ok (.newarray .long, 2) := by decide +kernel
theorem dL_init_66 : decode cL_init 66 = .ok (.putfield 33, 3) := by decide +kernel
theorem dL_init_69 : decode cL_init 69 = .ok (.aload_n 0, 1) := by decide +kernel
theorem dL_init_70 : decode cL_init 70 = .ok (.bipush 6, 2) := by decide +kernel
theorem dL_init_72 : decode cL_init 72 = .ok (.newarray .int, 2) := by decide +kernel
theorem dL_init_74 : decode cL_init 74 = .ok (.putfield 36, 3) := by decide +kernel
theorem dL_init_77 : decode cL_init 77 = .ok (.aload_n 0, 1) := by decide +kernel
theorem dL_init_78 : decode cL_init 78 = .ok (.bipush 6, 2) := by decide +kernel
theorem dL_init_80 : decode cL_init 80 = .ok (.newarray .long, 2) := by decide +kernel
theorem dL_init_82 : decode cL_init 82 = .ok (.putfield 39, 3) := by decide +kernel
theorem dL_init_85 : decode cL_init 85 = .ok (.return_, 1) := by decide +kernel
theorem dL_next_0 : decode cL_next 0 = .ok (.aload_n 0, 1) := by decide +kernel
theorem dL_next_1 : decode cL_next 1 = .ok (.aload_n 0, 1) := by decide +kernel
theorem dL_next_2 : decode cL_next 2 = .ok (.getfield 42, 3) := by decide +kernel
theorem dL_next_5 : decode cL_next 5 = .ok (.ldc 46, 2) := by decide +kernel
theorem dL_next_7 : decode cL_next 7 = .ok (.imul, 1) := by decide +kernel
theorem dL_next_8 : decode cL_next 8 = .ok (.sipush 12345, 3) := by decide +kernel
theorem dL_next_11 : decode cL_next 11 = .ok (.iadd, 1) := by decide +kernel
theorem dL_next_12 : decode cL_next 12 = .ok (.putfield 42, 3) := by decide +kernel
theorem dL_next_15 : decode cL_next 15 = .ok (.aload_n 0, 1) := by decide +kernel
theorem dL_next_16 : decode cL_next 16 = .ok (.getfield 42, 3) := by decide +kernel
theorem dL_next_19 : decode cL_next 19 = .ok (.bipush 16, 2) := by decide +kernel
theorem dL_next_21 : decode cL_next 21 = .ok (.iushr, 1) := by decide +kernel
theorem dL_next_22 : decode cL_next 22 = .ok (.iload_n 1, 1) := by decide +kernel
theorem dL_next_23 : decode cL_next 23 = .ok (.irem, 1) := by decide +kernel
theorem dL_next_24 : decode cL_next 24 = .ok (.ireturn, 1) := by decide +kernel
theorem dL_gcd_0 : decode cL_gcd 0 = .ok (.lload_n 0, 1) := by decide +kernel
theorem dL_gcd_1 : decode cL_gcd 1 = .ok (.invokestatic 47, 3) := by decide +kernel
theorem dL_gcd_4 : decode cL_gcd 4 = .ok (.lstore 4, 2) := by decide +kernel
theorem dL_gcd_6 : decode cL_gcd 6 = .ok (.lload_n 2, 1) := by decide +kernel
theorem dL_gcd_7 : decode cL_gcd 7 = .ok (.invokestatic 47, 3) := by decide +kernel
theorem dL_gcd_10 : decode cL_gcd 10 = .ok (.lstore 6, 2) := by decide +kernel
theorem dL_gcd_12 : decode cL_gcd 12 = .ok (.lload 6, 2) := by decide +kernel
theorem dL_gcd_14 : decode cL_gcd 14 = .ok (.lconst 0, 1) := by decide +kernel
theorem dL_gcd_15 : decode cL_gcd 15 = .ok (.lcmp, 1) := by decide +kernel
theorem dL_gcd_16 : decode cL_gcd 16 = .ok (.ifCond .eq 21, 3) := by decide +kernel
theorem dL_gcd_19 : decode cL_gcd 19 = .ok (.lload 4, 2) := by decide +kernel
theorem dL_gcd_21 : decode cL_gcd 21 = .ok (.lload 6, 2) := by decide +kernel
theorem dL_gcd_23 : decode cL_gcd 23 = .ok (.lrem, 1) := by decide +kernel
theorem dL_gcd_24 : decode cL_gcd 24 = .ok (.lstore 8, 2) := by decide +kernel
theorem dL_gcd_26 : decode cL_gcd 26 = .ok (.lload 6, 2) := by decide +kernel
theorem dL_gcd_28 : decode cL_gcd 28 = .ok (.lstore 4, 2) := by decide +kernel
theorem dL_gcd_30 : decode cL_gcd 30 = .ok (.lload 8, 2) := by decide +kernel
theorem dL_gcd_32 : decode cL_gcd 32 = .ok (.lstore 6, 2) := by decide +kernel
theorem dL_gcd_34 : decode cL_gcd 34 = .ok (.goto (-22), 3) := by decide +kernel
theorem dL_gcd_37 : decode cL_gcd 37 = .ok (.lload 4, 2) := by decide +kernel
theorem dL_gcd_39 : decode cL_gcd 39 = .ok (.lreturn, 1) := by decide +kernel
theorem dL_sets_0 : decode cL_sets 0 = .ok (.lload_n 2, 1) := by decide +kernel
theorem dL_sets_1 : decode cL_sets 1 = .ok (.lload 4, 2) := by decide +kernel
theorem dL_sets_3 : decode cL_sets 3 = .ok (.invokestatic 53, 3) := by decide +kernel
theorem dL_sets_6 : decode cL_sets 6 = .ok (.lload 4, 2) := by decide +kernel
theorem dL_sets_8 : decode cL_sets 8 = .ok (.lconst 0, 1) := by decide +kernel
theorem dL_sets_9 : decode cL_sets 9 = .ok (.lcmp, 1) := by decide +kernel
theorem dL_sets_10 : decode cL_sets 10 = .ok (.ifCond .ge 9, 3) := by decide +kernel
theorem dL_sets_13 : decode cL_sets 13 = .ok (.ldc2_w 57, 3) := by decide +kernel
theorem dL_sets_16 : decode cL_sets 16 = .ok (.goto 4, 3) := by decide +kernel
theorem dL_sets_19 : decode cL_sets 19 = .ok (.lconst 1, 1) := by decide +kernel
theorem dL_sets_20 : decode cL_sets 20 = .ok (.lmul, 1) := by decide +kernel
theorem dL_sets_21 : decode cL_sets 21 = .ok (.lstore 6, 2) := by decide +kernel
theorem dL_sets_23 : decode cL_sets 23 = .ok (.aload_n 0, 1) := by decide +kernel
theorem dL_sets_24 : decode cL_sets 24 = .ok (.getfield 29, 3) := by decide +kernel
theorem dL_sets_27 : decode cL_sets 27 = .ok (.iload_n 1, 1) := by decide +kernel
theorem dL_sets_28 : decode cL_sets 28 = .ok (.lload_n 2, 1) := by decide +kernel
theorem dL_sets_29 : decode cL_sets 29 = .ok (.lload 6, 2) := by decide +kernel
theorem dL_sets_31 : decode cL_sets 31 = .ok (.ldiv, 1) := by decide +kernel
theorem dL_sets_32 : decode cL_sets 32 = .ok (.lastore, 1) := by decide +kernel
theorem dL_sets_33 : decode cL_sets 33 = .ok (.aload_n 0, 1) := by decide +kernel
theorem dL_sets_34 : decode cL_sets 34 = .ok (.getfield 33, 3) := by decide +kernel
theorem dL_sets_37 : decode cL_sets 37 = .ok (.iload_n 1, 1) := by decide +kernel
theorem dL_sets_38 : decode cL_sets 38 = .ok (.lload 4, 2) := by decide +kernel
theorem dL_sets_40 : decode cL_sets 40 = .ok (.lload 6, 2) := by decide +kernel
theorem dL_sets_42 : decode cL_sets 42 = .ok (.ldiv, 1) := by decide +kernel
theorem dL_sets_43 : decode cL_sets 43 = .ok (.lastore, 1) := by decide +kernel
theorem dL_sets_44 : decode cL_sets 44 = .ok (.aload_n 0, 1) := by decide +kernel
theorem dL_sets_45 : decode cL_sets 45 = .ok (.dup, 1) := by decide +kernel
theorem dL_sets_46 : decode cL_sets 46 = .ok (.getfield 59, 3) := by decide +kernel
theorem dL_sets_49 : decode cL_sets 49 = .ok (.aload_n 0, 1) := by decide +kernel
theorem dL_sets_50 : decode cL_sets 50 = .ok (.getfield 29, 3) := by decide +kernel
theorem dL_sets_53 : decode cL_sets 53 = .ok (.iload_n 1, 1) := by decide +kernel
theorem dL_sets_54 : decode cL_sets 54 = .ok (.laload, 1) := by decide +kernel
theorem dL_sets_55 : decode cL_sets 55 = .ok (.invokestatic 47, 3) := by decide +kernel
theorem dL_sets_58 : decode cL_sets 58 = .ok (.ldc2_w 63, 3) := by decide +kernel
theorem dL_sets_61 : decode cL_sets 61 = .ok (.lcmp, 1) := by decide +kernel
theorem dL_sets_62 : decode cL_sets 62 = .ok (.ifCond .gt 16, 3) := by decide +kernel
theorem dL_sets_65 : decode cL_sets 65 = .ok (.aload_n 0, 1) := by decide +kernel
theorem dL_sets_66 : decode cL_sets 66 = .ok (.getfield 33, 3) := by decide +kernel
theorem dL_sets_69 : decode cL_sets 69 = .ok (.iload_n 1, 1) := by decide +kernel
theorem dL_sets_70 : decode cL_sets 70 = .ok (.laload, 1) := by decide +kernel
theorem dL_sets_71 : decode cL_sets 71 = .ok (.ldc2_w 63, 3) := by decide +kernel
theorem dL_sets_74 : decode cL_sets 74 = .ok (.lcmp, 1) := by decide +kernel
theorem dL_sets_75 : decode cL_sets 75 = .ok (.ifCond .le 7, 3) := by decide +kernel
theorem dL_sets_78 : decode cL_sets 78 = .ok (.iconst 1, 1) := by decide +kernel
theorem dL_sets_79 : decode cL_sets 79 = .ok (.goto 4, 3) := by decide +kernel
theorem dL_sets_82 : decode cL_sets 82 = .ok (.iconst 0, 1) := by decide +kernel
theorem dL_sets_83 : decode cL_sets 83 = .ok (.ior, 1) := by decide +kernel
theorem dL_sets_84 : decode cL_sets 84 = .ok (.putfield 59, 3) := by decide +kernel
theorem dL_sets_87 : decode cL_sets 87 = .ok (.return_, 1) := by decide +kernel
theorem dL_drawn_0 : decode cL_drawn 0 = .ok (.aload_n 0, 1) := by decide +kernel
theorem dL_drawn_1 : decode cL_drawn 1 = .ok (.getfield 65, 3) := by decide +kernel
theorem dL_drawn_4 : decode cL_drawn 4 = .ok (.istore_n 2, 1) := by decide +kernel
theorem dL_drawn_5 : decode cL_drawn 5 = .ok (.aload_n 0, 1) := by decide +kernel
theorem dL_drawn_6 : decode cL_drawn 6 = .ok (.dup, 1) := by decide +kernel
theorem dL_drawn_7 : decode cL_drawn 7 = .ok (.getfield 65, 3) := by decide +kernel
theorem dL_drawn_10 : decode cL_drawn 10 = .ok (.iconst 1, 1) := by decide +kernel
theorem dL_drawn_11 : decode cL_drawn 11 = .ok (.iadd, 1) := by decide +kernel
theorem dL_drawn_12 : decode cL_drawn 12 = .ok (.putfield 65, 3) := by decide +kernel
theorem dL_drawn_15 : decode cL_drawn 15 = .ok (.iload_n 1, 1) := by decide +kernel
theorem dL_drawn_16 : decode cL_drawn 16 = .ok (.ifCond .ne 7, 3) := by decide +kernel
theorem dL_drawn_19 : decode cL_drawn 19 = .ok (.iconst 0, 1) := by decide +kernel
theorem dL_drawn_20 : decode cL_drawn 20 = .ok (.goto 9, 3) := by decide +kernel
theorem dL_drawn_23 : decode cL_drawn 23 = .ok (.aload_n 0, 1) := by decide +kernel
theorem dL_drawn_24 : decode cL_drawn 24 = .ok (.bipush 14, 2) := by decide +kernel
theorem dL_drawn_26 : decode cL_drawn 26 = .ok (.invokevirtual 68, 3) := by decide +kernel
theorem dL_drawn_29 : decode cL_drawn 29 = .ok (.istore_n 3, 1) := by decide +kernel
theorem dL_drawn_30 : decode cL_drawn 30 = .ok (.iload_n 3, 1) := by decide +kernel
theorem dL_drawn_31 : decode cL_drawn 31 = .ok (.iconst 3, 1) := by decide +kernel
theorem dL_drawn_32 : decode cL_drawn 32 = .ok (.if_icmp .ge 88, 3) := by decide +kernel
theorem dL_drawn_35 : decode cL_drawn 35 = .ok (.aload_n 0, 1) := by decide +kernel
theorem dL_drawn_36 : decode cL_drawn 36 = .ok (.getfield 16, 3) := by decide +kernel
theorem dL_drawn_39 : decode cL_drawn 39 = .ok (.iload_n 2, 1) := by decide +kernel
theorem dL_drawn_40 : decode cL_drawn 40 = .ok (.aload_n 0, 1) := by decide +kernel
theorem dL_drawn_41 : decode cL_drawn 41 = .ok (.getfield 72, 3) := by decide +kernel
theorem dL_drawn_44 : decode cL_drawn 44 = .ok (.ifCond .le 16, 3) := by decide +kernel
theorem dL_drawn_47 : decode cL_drawn 47 = .ok (.aload_n 0, 1) := by decide +kernel
theorem dL_drawn_48 : decode cL_drawn 48 = .ok (.iconst 2, 1) := by decide +kernel
theorem dL_drawn_49 : decode cL_drawn 49 = .ok (.invokevirtual 68, 3) := by decide +kernel
theorem dL_drawn_52 : decode cL_drawn 52 = .ok (.ifCond .ne 8, 3) := by decide +kernel
theorem dL_drawn_55 : decode cL_drawn 55 = .ok (.bipush 100, 2) := by decide +kernel
theorem dL_drawn_57 : decode cL_drawn 57 = .ok (.goto 4, 3) := by decide +kernel
theorem dL_drawn_60 : decode cL_drawn 60 = .ok (.iconst 0, 1) := by decide +kernel
theorem dL_drawn_61 : decode cL_drawn 61 = .ok (.iastore, 1) := by decide +kernel
theorem dL_drawn_62 : decode cL_drawn 62 = .ok (.aload_n 0, 1) := by decide +kernel
theorem dL_drawn_63 : decode cL_drawn 63 = .ok (.getfield 20, 3) := by decide +kernel
